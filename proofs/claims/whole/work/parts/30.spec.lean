/-! ===== boards of falling rows, by numbers alone ===== -/
def sm (f : Nat → Nat) : Nat → Nat
  | 0 => 0
  | n + 1 => sm f n + f n
/-- how many ways there are to fill k rows, the first with less than v -/
def les : Nat → Nat → Nat
  | 0, v => if v = 0 then 0 else 1
  | k + 1, v => sm (fun u => les k (u + 1)) v
theorem les_0 (k : Nat) : les k 0 = 0 := by cases k <;> rfl
theorem les_s (k v : Nat) : les (k + 1) (v + 1) = les (k + 1) v + les k (v + 1) := rfl
theorem les_mono1 (k v : Nat) : les k v ≤ les k (v + 1) := by
  cases k with
  | zero =>
    show (if v = 0 then 0 else 1) ≤ (if v + 1 = 0 then 0 else 1)
    rw [if_neg (Nat.succ_ne_zero v)]
    split <;> omega
  | succ k => rw [les_s]; omega
theorem les_mono (k : Nat) {u v : Nat} (h : u ≤ v) : les k u ≤ les k v := by
  induction h with
  | refl => exact Nat.le_refl _
  | step _ ih => exact Nat.le_trans ih (les_mono1 k _)
theorem les_lt_inv (k : Nat) {u v : Nat} (h : les k u < les k v) : u < v := by
  rcases Nat.lt_or_ge u v with q | q
  · exact q
  · exact absurd (les_mono k q) (by omega)
/-- the greatest v, at most n, of which les k v is within left -/
def gvA (k left : Nat) : Nat → Nat
  | 0 => 0
  | v + 1 => if les k (v + 1) ≤ left then v + 1 else gvA k left v
theorem gvA_le (k left : Nat) : ∀ n, gvA k left n ≤ n
  | 0 => Nat.le_refl 0
  | n + 1 => by
    unfold gvA
    split
    · exact Nat.le_refl _
    · exact Nat.le_succ_of_le (gvA_le k left n)
theorem gvA_in (k left : Nat) : ∀ n, les k (gvA k left n) ≤ left
  | 0 => by show les k 0 ≤ left; rw [les_0]; omega
  | n + 1 => by
    unfold gvA
    split
    · assumption
    · exact gvA_in k left n
theorem gvA_max (k left : Nat) : ∀ n v, v ≤ n → les k v ≤ left → v ≤ gvA k left n
  | 0, v, hv, _ => by omega
  | n + 1, v, hv, h => by
    unfold gvA
    split
    · exact hv
    · rename_i hh
      have : v ≠ n + 1 := by intro e; subst e; exact hh h
      exact gvA_max k left n v (by omega) h
def gv (k left : Nat) : Nat := gvA k left 7
theorem gv_7 (k left : Nat) : gv k left ≤ 7 := gvA_le k left 7
theorem gv_in (k left : Nat) : les k (gv k left) ≤ left := gvA_in k left 7
theorem gv_max {k left v : Nat} (hv : v ≤ 7) (h : les k v ≤ left) : v ≤ gv k left := gvA_max k left 7 v hv h
theorem gv_lt {k left : Nat} (h8 : left < les k 8) : left < les k (gv k left + 1) := by
  rcases Nat.lt_or_ge left (les k (gv k left + 1)) with q | q
  · exact q
  · have h7 := gv_7 k left
    rcases Nat.lt_or_ge (gv k left) 7 with h | h
    · have := gv_max (k := k) (left := left) (v := gv k left + 1) (by omega) q
      omega
    · have e : gv k left = 7 := by omega
      rw [e] at q
      have q' : les k 8 ≤ left := q
      omega
theorem gv_eq {k left v : Nat} (hv : v ≤ 7) (h1 : les k v ≤ left) (h2 : left < les k (v + 1)) : gv k left = v := by
  have a := gv_max hv h1
  have b := gv_in k left
  have c : les k (gv k left) < les k (v + 1) := by omega
  have := les_lt_inv k c
  omega
/-- what is left of a rank before row r, and row r -/
def lf (s : Nat) : Nat → Nat
  | 0 => s
  | r + 1 => lf s r - les (7 - r) (gv (7 - r) (lf s r))
def ub (s r : Nat) : Nat := gv (7 - r) (lf s r)
theorem lf_s (s r : Nat) : lf s (r + 1) = lf s r - les (7 - r) (ub s r) := rfl
def Fall (b : Nat → Nat) : Prop := b 0 ≤ 7 ∧ ∀ r, r < 6 → b (r + 1) ≤ b r
theorem Fall.le {b : Nat → Nat} (h : Fall b) : ∀ r, r < 7 → b r ≤ 7
  | 0, _ => h.1
  | r + 1, hr => Nat.le_trans (h.2 r (by omega)) (Fall.le h r (by omega))
theorem Fall.anti {b : Nat → Nat} (h : Fall b) {i : Nat} : ∀ j, i ≤ j → j < 7 → b j ≤ b i
  | 0, hij, _ => by have : i = 0 := by omega
                    subst this; exact Nat.le_refl _
  | j + 1, hij, hj => by
    rcases Nat.lt_or_ge i (j + 1) with q | q
    · exact Nat.le_trans (h.2 j (by omega)) (Fall.anti h j (by omega) (by omega))
    · have : i = j + 1 := by omega
      subst this; exact Nat.le_refl _
/-- the rank of the rows 7 - j on -/
def rkT (b : Nat → Nat) : Nat → Nat
  | 0 => 0
  | j + 1 => les (j + 1) (b (6 - j)) + rkT b j
def rk (b : Nat → Nat) : Nat := rkT b 7
theorem rkT_lt {b : Nat → Nat} (h : Fall b) : ∀ j m, j ≤ 7 → (0 < j → b (7 - j) ≤ m) → rkT b j < les j (m + 1)
  | 0, m, _, _ => by show 0 < (if m + 1 = 0 then 0 else 1); rw [if_neg (Nat.succ_ne_zero m)]; omega
  | j + 1, m, hj, hm => by
    have hm := hm (Nat.succ_pos j)
    have e : 7 - (j + 1) = 6 - j := by omega
    rw [e] at hm
    have ih := rkT_lt h j (b (6 - j)) (by omega) (fun hj0 => by
      have := h.2 (6 - j) (by omega)
      rwa [show 6 - j + 1 = 7 - j by omega] at this)
    show les (j + 1) (b (6 - j)) + rkT b j < les (j + 1) (m + 1)
    have h1 := les_mono (j + 1) (show b (6 - j) + 1 ≤ m + 1 by omega)
    have h2 := les_s j (b (6 - j))
    omega
theorem les_7_8 : les 7 8 = 3432 := by decide
theorem rk_lt {b : Nat → Nat} (h : Fall b) : rk b < 3432 := by
  have := rkT_lt h 7 7 (Nat.le_refl 7) (fun _ => h.1)
  rwa [les_7_8] at this
theorem lf_rk {b : Nat → Nat} (h : Fall b) : ∀ r, r ≤ 7 → lf (rk b) r = rkT b (7 - r)
  | 0, _ => rfl
  | r + 1, hr => by
    have ih := lf_rk h r (by omega)
    have e : 7 - r = (6 - r) + 1 := by omega
    have e2 : 6 - (6 - r) = r := by omega
    have h1 : rkT b (7 - r) = les (7 - r) (b r) + rkT b (6 - r) := by
      rw [e]; show les (6 - r + 1) (b (6 - (6 - r))) + rkT b (6 - r) = _; rw [e2]
    have h2 := rkT_lt h (6 - r) (b r) (by omega) (fun h0 => by
      have := h.2 r (by omega)
      rwa [show r + 1 = 7 - (6 - r) by omega] at this)
    have h3 : gv (7 - r) (lf (rk b) r) = b r := by
      rw [ih]
      refine gv_eq (Fall.le h r (by omega)) (by omega) ?_
      rw [h1]
      have := les_s (6 - r) (b r)
      rw [← e] at this
      omega
    show lf (rk b) r - les (7 - r) (gv (7 - r) (lf (rk b) r)) = rkT b (7 - (r + 1))
    rw [h3, ih, h1, show 7 - (r + 1) = 6 - r by omega]
    omega
theorem ub_rk {b : Nat → Nat} (h : Fall b) {r : Nat} (hr : r < 7) : ub (rk b) r = b r := by
  have e : 7 - r = (6 - r) + 1 := by omega
  have e2 : 6 - (6 - r) = r := by omega
  have h1 : rkT b (7 - r) = les (7 - r) (b r) + rkT b (6 - r) := by
    rw [e]; show les (6 - r + 1) (b (6 - (6 - r))) + rkT b (6 - r) = _; rw [e2]
  have h2 := rkT_lt h (6 - r) (b r) (by omega) (fun h0 => by
    have := h.2 r (by omega)
    rwa [show r + 1 = 7 - (6 - r) by omega] at this)
  show gv (7 - r) (lf (rk b) r) = b r
  rw [lf_rk h r (by omega)]
  refine gv_eq (Fall.le h r hr) (by omega) ?_
  rw [h1]
  have := les_s (6 - r) (b r)
  rw [← e] at this
  omega
/-- of a rank: what is left stays under what one more in the row would take -/
theorem lf_lt {s : Nat} (hs : s < 3432) : ∀ r, r < 7 → lf s r < les (7 - r) (ub s r + 1) ∧ (∀ q, r = q + 1 → ub s r ≤ ub s q)
  | 0, _ => ⟨gv_lt (by rw [show (7 : Nat) - 0 = 7 from rfl, les_7_8]; exact hs), fun q h => by omega⟩
  | r + 1, hr => by
    have ih := (lf_lt hs r (by omega)).1
    have e : 7 - r = (7 - (r + 1)) + 1 := by omega
    have h1 : lf s (r + 1) < les (7 - (r + 1)) (ub s r + 1) := by
      rw [lf_s]
      have h2 := les_s (7 - (r + 1)) (ub s r)
      rw [← e] at h2
      have h3 : les (7 - r) (ub s r) ≤ lf s r := gv_in _ _
      omega
    have h7 : ub s r ≤ 7 := gv_7 _ _
    have h8 : lf s (r + 1) < les (7 - (r + 1)) 8 := Nat.lt_of_lt_of_le h1 (les_mono _ (by omega))
    refine ⟨gv_lt h8, fun q hq => ?_⟩
    have hq' : q = r := by omega
    subst hq'
    have h4 : les (7 - (q + 1)) (ub s (q + 1)) ≤ lf s (q + 1) := gv_in _ _
    have := les_lt_inv (7 - (q + 1)) (Nat.lt_of_le_of_lt h4 h1)
    omega
theorem ub_fall {s : Nat} (hs : s < 3432) : Fall (ub s) := ⟨gv_7 _ _, fun r hr => (lf_lt hs (r + 1) (by omega)).2 r rfl⟩
theorem lf_7 {s : Nat} (hs : s < 3432) : lf s 7 = 0 := by
  have h := (lf_lt hs 6 (by omega)).1
  have h3 : les 1 (ub s 6) ≤ lf s 6 := gv_in _ _
  rw [lf_s]
  show lf s 6 - les 1 (ub s 6) = 0
  have h2 : les 1 (ub s 6 + 1) = les 1 (ub s 6) + les 0 (ub s 6 + 1) := les_s 0 (ub s 6)
  have h4 : les 0 (ub s 6 + 1) = 1 := if_neg (Nat.succ_ne_zero _)
  rw [show (7 : Nat) - 6 = 1 from rfl] at h
  rw [h4] at h2
  omega
theorem rk_ub {s : Nat} (hs : s < 3432) : rk (ub s) = s := by
  have key : ∀ j, j ≤ 7 → rkT (ub s) j = lf s (7 - j) := by
    intro j
    induction j with
    | zero => intro _; exact (lf_7 hs).symm
    | succ j ih =>
      intro hj
      have h1 := ih (by omega)
      have e : 7 - j = (6 - j) + 1 := by omega
      show les (j + 1) (ub s (6 - j)) + rkT (ub s) j = lf s (7 - (j + 1))
      rw [h1, e, lf_s, show 7 - (6 - j) = j + 1 by omega, show 7 - (j + 1) = 6 - j by omega]
      have : les (7 - (6 - j)) (ub s (6 - j)) ≤ lf s (6 - j) := gv_in _ _
      rw [show 7 - (6 - j) = j + 1 by omega] at this
      omega
  exact key 7 (Nat.le_refl 7)
/-- the board after a bite at row r, column c -/
def cutB (b : Nat → Nat) (r c : Nat) : Nat → Nat := fun k => if r ≤ k ∧ c < b k then c else b k
theorem cutB_fall {b : Nat → Nat} (h : Fall b) {r c : Nat} : Fall (cutB b r c) := by
  constructor
  · have := h.1
    unfold cutB
    split <;> omega
  · intro k hk
    have := h.2 k hk
    unfold cutB
    split <;> split <;> omega
theorem rkT_mono {a b : Nat → Nat} : ∀ j, j ≤ 7 → (∀ k, k < 7 → a k ≤ b k) → rkT a j ≤ rkT b j
  | 0, _, _ => Nat.le_refl _
  | j + 1, hj, h => Nat.add_le_add (les_mono _ (h _ (by omega))) (rkT_mono j (by omega) h)
theorem rk_inj {a b : Nat → Nat} (ha : Fall a) (hb : Fall b) (h : rk a = rk b) {r : Nat} (hr : r < 7) : a r = b r := by
  rw [← ub_rk ha hr, ← ub_rk hb hr, h]
theorem rk_cut_lt {b : Nat → Nat} (h : Fall b) {r c : Nat} (hr : r < 7) (hc : c < b r) : rk (cutB b r c) < rk b := by
  have h1 : rk (cutB b r c) ≤ rk b := rkT_mono 7 (Nat.le_refl 7) (fun k _ => by unfold cutB; split <;> omega)
  rcases Nat.lt_or_ge (rk (cutB b r c)) (rk b) with q | q
  · exact q
  · have e : rk (cutB b r c) = rk b := by omega
    have := rk_inj (cutB_fall h) h e hr
    unfold cutB at this
    rw [if_pos ⟨Nat.le_refl r, hc⟩] at this
    omega
theorem rkT_congr {a b : Nat → Nat} : ∀ j, j ≤ 7 → (∀ k, k < 7 → a k = b k) → rkT a j = rkT b j
  | 0, _, _ => rfl
  | j + 1, hj, h => by show les (j + 1) (a (6 - j)) + rkT a j = les (j + 1) (b (6 - j)) + rkT b j; rw [h (6 - j) (by omega), rkT_congr j (by omega) h]
theorem rk_congr {a b : Nat → Nat} (h : ∀ k, k < 7 → a k = b k) : rk a = rk b := rkT_congr 7 (Nat.le_refl 7) h
/-- how many squares -/
def sq (b : Nat → Nat) : Nat := sm b 7
theorem sm_le {f g : Nat → Nat} : ∀ n, (∀ k, k < n → f k ≤ g k) → sm f n ≤ sm g n
  | 0, _ => Nat.le_refl _
  | n + 1, h => Nat.add_le_add (sm_le n (fun k hk => h k (by omega))) (h n (by omega))
theorem sm_lt {f g : Nat → Nat} {j : Nat} : ∀ n, (∀ k, k < n → f k ≤ g k) → j < n → f j < g j → sm f n < sm g n
  | 0, _, hj, _ => by omega
  | n + 1, h, hj, hl => by
    show sm f n + f n < sm g n + g n
    rcases Nat.lt_or_ge j n with q | q
    · have := sm_lt n (fun k hk => h k (by omega)) q hl
      have := h n (by omega)
      omega
    · have e : j = n := by omega
      subst e
      have := sm_le (f := f) (g := g) j (fun k hk => h k (by omega))
      omega
theorem sm_congr {f g : Nat → Nat} : ∀ n, (∀ k, k < n → f k = g k) → sm f n = sm g n
  | 0, _ => rfl
  | n + 1, h => by show sm f n + f n = sm g n + g n; rw [sm_congr n (fun k hk => h k (by omega)), h n (by omega)]
theorem sq_cut {b : Nat → Nat} {r c : Nat} (hr : r < 7) (hc : c < b r) : sq (cutB b r c) < sq b :=
  sm_lt 7 (fun k _ => by unfold cutB; split <;> omega) hr (by unfold cutB; rw [if_pos ⟨Nat.le_refl r, hc⟩]; exact hc)
theorem sq_le {b : Nat → Nat} (h : Fall b) : sq b ≤ 49 := sm_le (g := fun _ => 7) 7 (fun k hk => Fall.le h k hk)
