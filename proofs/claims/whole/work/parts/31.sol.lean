/-! ===== what a state is worth, and how long it lasts ===== -/
def Mex (P : Nat → Prop) (m : Nat) : Prop := ¬ P m ∧ ∀ j, j < m → P j
/-- P: the lengths of the states to which bites lead; r: the rule -/
def Len (r : Nat) (P : Nat → Prop) (m : Nat) : Prop :=
  ((∀ x, ¬ P x) ∧ m = 0) ∨ (∃ k, P k ∧ k % 2 ≠ r ∧ (∀ x, P x → x % 2 ≠ r → k ≤ x) ∧ m = k + 1) ∨ ((∀ x, P x → x % 2 = r) ∧ ∃ k, P k ∧ (∀ x, P x → x ≤ k) ∧ m = k + 1)
theorem Mex.uniq {P : Nat → Prop} {a b : Nat} (ha : Mex P a) (hb : Mex P b) : a = b := by
  rcases Nat.lt_trichotomy a b with h | h | h
  · exact absurd (hb.2 a h) ha.1
  · exact h
  · exact absurd (ha.2 b h) hb.1
theorem Len.uniq {r : Nat} {P : Nat → Prop} {a b : Nat} (ha : Len r P a) (hb : Len r P b) : a = b := by
  rcases ha with ⟨h1, h2⟩ | ⟨k, h1, h2, h3, h4⟩ | ⟨h1, k, h2, h3, h4⟩ <;> rcases hb with ⟨g1, g2⟩ | ⟨k', g1, g2, g3, g4⟩ | ⟨g1, k', g2, g3, g4⟩
  · omega
  · exact absurd g1 (h1 k')
  · exact absurd g2 (h1 k')
  · exact absurd h1 (g1 k)
  · have := h3 k' g1 g2; have := g3 k h1 h2; omega
  · exact absurd (g1 k h1) h2
  · exact absurd h2 (g1 k)
  · exact absurd (h1 k' g1) g2
  · have := h3 k' g2; have := g3 k h2; omega
theorem Mex.congr {P Q : Nat → Prop} {m : Nat} (h : ∀ x, P x ↔ Q x) (a : Mex P m) : Mex Q m := ⟨fun q => a.1 ((h m).mpr q), fun j hj => (h j).mp (a.2 j hj)⟩
theorem Len.congr {r : Nat} {P Q : Nat → Prop} {m : Nat} (h : ∀ x, P x ↔ Q x) (a : Len r P m) : Len r Q m := by
  have e : P = Q := funext fun x => propext (h x)
  rw [← e]; exact a
theorem Mex.le {P : Nat → Prop} {m B : Nat} (a : Mex P m) (h : ∀ x, P x → x < B) : m ≤ B := by
  rcases Nat.lt_or_ge B m with q | q
  · exact absurd (h B (a.2 B q)) (Nat.lt_irrefl B)
  · exact q
theorem Len.le {r : Nat} {P : Nat → Prop} {m B : Nat} (a : Len r P m) (h : ∀ x, P x → x < B) : m ≤ B := by
  rcases a with ⟨-, h2⟩ | ⟨k, h1, -, -, h4⟩ | ⟨-, k, h2, -, h4⟩
  · omega
  · have := h k h1; omega
  · have := h k h2; omega
theorem mex_ex {P : Nat → Prop} {B : Nat} (h : ∀ x, P x → x < B) : ∃ m, Mex P m := by
  obtain ⟨m, h1, h2⟩ := pk_least (fun k => ¬ P k) ⟨B, fun q => Nat.lt_irrefl B (h B q)⟩
  exact ⟨m, h1, fun j hj => Classical.byContradiction (h2 j hj)⟩
theorem max_ex {P : Nat → Prop} : ∀ {B : Nat}, (∀ x, P x → x < B) → (∃ k, P k) → ∃ k, P k ∧ ∀ x, P x → x ≤ k
  | 0, h, ⟨k, hk⟩ => absurd (h k hk) (Nat.not_lt_zero k)
  | B + 1, h, he => by
    by_cases hB : P B
    · exact ⟨B, hB, fun x hx => Nat.le_of_lt_succ (h x hx)⟩
    · exact max_ex (B := B) (fun x hx => by
        have := h x hx
        have : x ≠ B := fun e => hB (e ▸ hx)
        omega) he
theorem len_ex {r : Nat} {P : Nat → Prop} {B : Nat} (h : ∀ x, P x → x < B) : ∃ m, Len r P m := by
  by_cases h0 : ∃ k, P k
  · by_cases h1 : ∃ k, P k ∧ k % 2 ≠ r
    · obtain ⟨k, hk, hm⟩ := pk_least (fun k => P k ∧ k % 2 ≠ r) h1
      exact ⟨k + 1, Or.inr (Or.inl ⟨k, hk.1, hk.2, fun x hx hr => by
        rcases Nat.lt_or_ge x k with q | q
        · exact absurd ⟨hx, hr⟩ (hm x q)
        · exact q, rfl⟩)⟩
    · obtain ⟨k, hk, hm⟩ := max_ex h h0
      exact ⟨k + 1, Or.inr (Or.inr ⟨fun x hx => Classical.byContradiction fun hr => h1 ⟨x, hx, hr⟩, k, hk, hm, rfl⟩)⟩
  · exact ⟨0, Or.inl ⟨fun x hx => h0 ⟨x, hx⟩, rfl⟩⟩
/-! sets of parts as numbers -/
def del (s a : Nat) : Nat := s ^^^ (s &&& a)
theorem del_bit (s a i : Nat) : (del s a).testBit i = (s.testBit i && !a.testBit i) := by
  unfold del
  rw [Nat.testBit_xor, Nat.testBit_and]
  cases s.testBit i <;> cases a.testBit i <;> rfl
theorem sub_le {x y : Nat} (h : ∀ i, x.testBit i = true → y.testBit i = true) : x ≤ y := by
  have e : x &&& y = x := Nat.eq_of_testBit_eq (fun i => by
    rw [Nat.testBit_and]
    cases hx : x.testBit i
    · rfl
    · rw [h i hx]; rfl)
  rw [← e]; exact Nat.and_le_right
theorem del_le (s a : Nat) : del s a ≤ s := sub_le (fun i h => by
  rw [del_bit] at h
  cases hs : s.testBit i
  · rw [hs] at h; cases h
  · rfl)
theorem del_lt {s a q : Nat} (hs : s.testBit q = true) (ha : a.testBit q = true) : del s a < s := by
  have h1 := del_le s a
  rcases Nat.lt_or_ge (del s a) s with h | h
  · exact h
  · have e : del s a = s := by omega
    have := del_bit s a q
    rw [e, hs, ha] at this
    cases this
/-- how many of the first n figures are there -/
def cn (s : Nat) : Nat → Nat
  | 0 => 0
  | n + 1 => cn s n + (if s.testBit n then 1 else 0)
theorem cn_le {x y : Nat} (h : ∀ i, x.testBit i = true → y.testBit i = true) : ∀ n, cn x n ≤ cn y n
  | 0 => Nat.le_refl _
  | n + 1 => by
    have := cn_le h n
    show cn x n + (if x.testBit n then 1 else 0) ≤ cn y n + (if y.testBit n then 1 else 0)
    cases hx : x.testBit n
    · simp; omega
    · rw [h n hx]; omega
theorem cn_lt {x y q : Nat} (h : ∀ i, x.testBit i = true → y.testBit i = true) (hx : x.testBit q = false) (hy : y.testBit q = true) : ∀ n, q < n → cn x n < cn y n
  | 0, hn => by omega
  | n + 1, hn => by
    show cn x n + (if x.testBit n then 1 else 0) < cn y n + (if y.testBit n then 1 else 0)
    rcases Nat.lt_or_ge q n with hq | hq
    · have := cn_lt h hx hy n hq
      cases hxn : x.testBit n
      · simp; omega
      · rw [h n hxn]; omega
    · have e : q = n := by omega
      subst e
      have := cn_le h q
      rw [hx, hy]; simp; omega
theorem cn_n (s : Nat) : ∀ n, cn s n ≤ n
  | 0 => Nat.le_refl _
  | n + 1 => by
    have := cn_n s n
    show cn s n + (if s.testBit n then 1 else 0) ≤ n + 1
    split <;> omega
theorem cn_mono (s : Nat) {m : Nat} : ∀ n, m ≤ n → cn s m ≤ cn s n
  | 0, h => by have : m = 0 := by omega
               subst this; exact Nat.le_refl _
  | n + 1, h => by
    rcases Nat.lt_or_ge m (n + 1) with q | q
    · exact Nat.le_trans (cn_mono s n (by omega)) (Nat.le_add_right _ _)
    · have : m = n + 1 := by omega
      subst this; exact Nat.le_refl _
theorem cn_step {s q : Nat} (h : s.testBit q = true) {n : Nat} (hn : q < n) : cn s q < cn s n := by
  have : cn s (q + 1) = cn s q + 1 := by show cn s q + (if s.testBit q then 1 else 0) = _; rw [h]; rfl
  have := cn_mono s n (show q + 1 ≤ n by omega)
  omega
theorem cn_inj {s p q : Nat} (hp : s.testBit p = true) (hq : s.testBit q = true) (h : cn s p = cn s q) : p = q := by
  rcases Nat.lt_trichotomy p q with h1 | h1 | h1
  · have := cn_step hp h1; omega
  · exact h1
  · have := cn_step hq h1; omega
theorem cn_kth {s i : Nat} : ∀ n, i < cn s n → ∃ q, q < n ∧ s.testBit q = true ∧ cn s q = i
  | 0, h => by exact absurd h (Nat.not_lt_zero i)
  | n + 1, h => by
    rcases Nat.lt_or_ge i (cn s n) with q | q
    · obtain ⟨k, h1, h2, h3⟩ := cn_kth n q
      exact ⟨k, by omega, h2, h3⟩
    · have h' : i < cn s n + (if s.testBit n then 1 else 0) := h
      cases hb : s.testBit n
      · rw [hb] at h'; simp at h'; omega
      · rw [hb] at h'; simp at h'
        exact ⟨n, Nat.lt_succ_self n, hb, by omega⟩
/-! the bites of a state of kind k (0: a rank; else a set of parts, part q taking A q along) -/
def Nth (k : Nat) (A : Nat → Nat) (M : Nat) (s i t : Nat) : Prop :=
  if k = 0 then ∃ r c, r < 7 ∧ c < ub s r ∧ i = sm (ub s) r + c ∧ t = rk (cutB (ub s) r c)
  else ∃ q, q < 15 ∧ (s &&& M).testBit q = true ∧ cn (s &&& M) q = i ∧ t = del s (A q)
def nb (k M s : Nat) : Nat := if k = 0 then sq (ub s) else cn (s &&& M) 15
def Nx (k : Nat) (A : Nat → Nat) (M : Nat) (s t : Nat) : Prop := ∃ i, Nth k A M s i t
def Ok (k : Nat) (A : Nat → Nat) : Prop := k ≠ 0 → ∀ q, q < 15 → (A q).testBit q = true
def Vs (k s : Nat) : Prop := k = 0 → s < 3432
theorem sm_mono (f : Nat → Nat) {m : Nat} : ∀ n, m ≤ n → sm f m ≤ sm f n
  | 0, h => by have : m = 0 := by omega
               subst this; exact Nat.le_refl _
  | n + 1, h => by
    rcases Nat.lt_or_ge m (n + 1) with q | q
    · exact Nat.le_trans (sm_mono f n (by omega)) (Nat.le_add_right _ _)
    · have : m = n + 1 := by omega
      subst this; exact Nat.le_refl _
theorem sm_ix {f : Nat → Nat} {r c n : Nat} (hr : r < n) (hc : c < f r) : sm f r + c < sm f n := by
  have h1 : sm f (r + 1) = sm f r + f r := rfl
  have h2 := sm_mono f n (show r + 1 ≤ n by omega)
  omega
theorem sm_kth {f : Nat → Nat} {i : Nat} : ∀ n, i < sm f n → ∃ r c, r < n ∧ c < f r ∧ i = sm f r + c
  | 0, h => by exact absurd h (Nat.not_lt_zero i)
  | n + 1, h => by
    rcases Nat.lt_or_ge i (sm f n) with q | q
    · obtain ⟨r, c, h1, h2, h3⟩ := sm_kth n q
      exact ⟨r, c, by omega, h2, h3⟩
    · have h' : i < sm f n + f n := h
      exact ⟨n, i - sm f n, Nat.lt_succ_self n, by omega, by omega⟩
theorem sm_ix_inj {f : Nat → Nat} {r c r' c' : Nat} (hc : c < f r) (hc' : c' < f r') (h : sm f r + c = sm f r' + c') : r = r' ∧ c = c' := by
  rcases Nat.lt_trichotomy r r' with q | q | q
  · have := sm_ix q hc; omega
  · subst q; exact ⟨rfl, by omega⟩
  · have := sm_ix q hc'; omega
theorem Nth.lt {k : Nat} {A : Nat → Nat} {M : Nat} {s i t : Nat} (h : Nth k A M s i t) : i < nb k M s := by
  unfold Nth at h
  unfold nb
  split at h
  · rename_i hk
    rw [if_pos hk]
    obtain ⟨r, c, h1, h2, h3, -⟩ := h
    rw [h3]; exact sm_ix h1 h2
  · rename_i hk
    rw [if_neg hk]
    obtain ⟨q, h1, h2, h3, -⟩ := h
    rw [← h3]; exact cn_step h2 h1
theorem Nth.ex (k : Nat) (A : Nat → Nat) (M : Nat) {s i : Nat} (h : i < nb k M s) : ∃ t, Nth k A M s i t := by
  unfold nb at h
  unfold Nth
  split at h
  · rename_i hk
    simp only [if_pos hk]
    obtain ⟨r, c, h1, h2, h3⟩ := sm_kth 7 h
    exact ⟨_, r, c, h1, h2, h3, rfl⟩
  · rename_i hk
    simp only [if_neg hk]
    obtain ⟨q, h1, h2, h3⟩ := cn_kth 15 h
    exact ⟨_, q, h1, h2, h3, rfl⟩
theorem Nth.uniq {k : Nat} {A : Nat → Nat} {M : Nat} {s i t t' : Nat} (h : Nth k A M s i t) (h' : Nth k A M s i t') : t = t' := by
  unfold Nth at h h'
  split at h
  · rename_i hk
    rw [if_pos hk] at h'
    obtain ⟨r, c, h1, h2, h3, h4⟩ := h
    obtain ⟨r', c', g1, g2, g3, g4⟩ := h'
    obtain ⟨rfl, rfl⟩ := sm_ix_inj h2 g2 (h3.symm.trans g3)
    rw [h4, g4]
  · rename_i hk
    rw [if_neg hk] at h'
    obtain ⟨q, h1, h2, h3, h4⟩ := h
    obtain ⟨q', g1, g2, g3, g4⟩ := h'
    have := cn_inj h2 g2 (h3.trans g3.symm)
    subst this
    rw [h4, g4]
theorem Nth.less {k : Nat} {A : Nat → Nat} {M : Nat} {s i t : Nat} (hA : Ok k A) (hs : Vs k s) (h : Nth k A M s i t) : t < s ∧ Vs k t ∧ nb k M t < nb k M s := by
  unfold Nth at h
  unfold nb Vs
  split at h
  · rename_i hk
    have hs := hs hk
    obtain ⟨r, c, h1, h2, h3, h4⟩ := h
    have hf := ub_fall hs
    have h5 := rk_cut_lt hf h1 h2
    rw [rk_ub hs] at h5
    rw [if_pos hk, if_pos hk]
    refine ⟨by omega, fun _ => by omega, ?_⟩
    have e : sq (ub t) = sq (cutB (ub s) r c) := sm_congr 7 (fun k hk => by rw [h4]; exact ub_rk (cutB_fall hf) hk)
    rw [e]; exact sq_cut h1 h2
  · rename_i hk
    obtain ⟨q, h1, h2, h3, h4⟩ := h
    have ha := hA hk q h1
    rw [if_neg hk, if_neg hk, h4]
    have h2s : s.testBit q = true := by
      rw [Nat.testBit_and] at h2
      cases hq : s.testBit q
      · rw [hq] at h2; cases h2
      · rfl
    refine ⟨del_lt h2s ha, fun h0 => absurd h0 hk, ?_⟩
    exact cn_lt (fun i hi => by
      rw [Nat.testBit_and, del_bit] at hi
      rw [Nat.testBit_and]
      cases hsi : s.testBit i <;> cases hmi : M.testBit i <;> simp_all) (by rw [Nat.testBit_and, del_bit, h2s, ha]; rfl) h2 15 h1
theorem nb_le {k M s : Nat} (hs : Vs k s) : nb k M s ≤ 49 := by
  unfold nb
  split
  · rename_i hk
    exact sq_le (ub_fall (hs hk))
  · have := cn_n (s &&& M) 15; omega
/-- a table of worths and lengths is right at s -/
def Rt (k : Nat) (A : Nat → Nat) (M : Nat) (T : Nat → Nat × Nat × Nat) (s : Nat) : Prop :=
  Mex (fun x => ∃ t, Nx k A M s t ∧ (T t).1 = x) (T s).1 ∧ Len 0 (fun x => ∃ t, Nx k A M s t ∧ (T t).2.1 = x) (T s).2.1 ∧ Len 1 (fun x => ∃ t, Nx k A M s t ∧ (T t).2.2 = x) (T s).2.2
theorem Rt.bound {k : Nat} {A : Nat → Nat} {M : Nat} {T : Nat → Nat × Nat × Nat} (hA : Ok k A) : ∀ (n s : Nat), s < n → Vs k s → (∀ t, t ≤ s → Vs k t → Rt k A M T t) → (T s).1 ≤ nb k M s ∧ (T s).2.1 ≤ nb k M s ∧ (T s).2.2 ≤ nb k M s
  | 0, s, hn, _, _ => by omega
  | n + 1, s, hn, hs, h => by
    have ih : ∀ t, Nx k A M s t → (T t).1 < nb k M s ∧ (T t).2.1 < nb k M s ∧ (T t).2.2 < nb k M s := fun t ⟨i, ht⟩ => by
      obtain ⟨h1, h2, h3⟩ := ht.less hA hs
      obtain ⟨g1, g2, g3⟩ := Rt.bound hA n t (by omega) h2 (fun u hu hv => h u (by omega) hv)
      omega
    obtain ⟨r1, r2, r3⟩ := h s (Nat.le_refl s) hs
    exact ⟨r1.le (fun x ⟨t, ht, e⟩ => e ▸ (ih t ht).1), r2.le (fun x ⟨t, ht, e⟩ => e ▸ (ih t ht).2.1), r3.le (fun x ⟨t, ht, e⟩ => e ▸ (ih t ht).2.2)⟩
theorem Rt.cong {k : Nat} {A : Nat → Nat} {M : Nat} {T T' : Nat → Nat × Nat × Nat} {s : Nat} (h : Rt k A M T s) (hs : T' s = T s) (ht : ∀ t, Nx k A M s t → T' t = T t) : Rt k A M T' s := by
  obtain ⟨r1, r2, r3⟩ := h
  unfold Rt
  rw [hs]
  exact ⟨r1.congr (fun x => ⟨fun ⟨t, a, b⟩ => ⟨t, a, by rw [ht t a]; exact b⟩, fun ⟨t, a, b⟩ => ⟨t, a, by rw [← ht t a]; exact b⟩⟩), r2.congr (fun x => ⟨fun ⟨t, a, b⟩ => ⟨t, a, by rw [ht t a]; exact b⟩, fun ⟨t, a, b⟩ => ⟨t, a, by rw [← ht t a]; exact b⟩⟩), r3.congr (fun x => ⟨fun ⟨t, a, b⟩ => ⟨t, a, by rw [ht t a]; exact b⟩, fun ⟨t, a, b⟩ => ⟨t, a, by rw [← ht t a]; exact b⟩⟩)⟩
theorem sol_below {k : Nat} {A : Nat → Nat} (M : Nat) (hA : Ok k A) : ∀ n, ∃ T : Nat → Nat × Nat × Nat, ∀ s, s < n → Vs k s → Rt k A M T s
  | 0 => ⟨fun _ => (0, 0, 0), fun s h => by omega⟩
  | n + 1 => by
    obtain ⟨T, hT⟩ := sol_below M hA n
    by_cases hv : Vs k n
    · have hb : ∀ t, Nx k A M n t → (T t).1 < 50 ∧ (T t).2.1 < 50 ∧ (T t).2.2 < 50 := fun t ⟨i, ht⟩ => by
        obtain ⟨h1, h2, h3⟩ := ht.less hA hv
        have := Rt.bound (T := T) (M := M) hA (t + 1) t (by omega) h2 (fun u hu hvu => hT u (by omega) hvu)
        have := nb_le (M := M) h2
        omega
      obtain ⟨a, ha⟩ := mex_ex (P := fun x => ∃ t, Nx k A M n t ∧ (T t).1 = x) (B := 50) (fun x ⟨t, ht, e⟩ => e ▸ (hb t ht).1)
      obtain ⟨b, hb1⟩ := len_ex (r := 0) (P := fun x => ∃ t, Nx k A M n t ∧ (T t).2.1 = x) (B := 50) (fun x ⟨t, ht, e⟩ => e ▸ (hb t ht).2.1)
      obtain ⟨c, hc⟩ := len_ex (r := 1) (P := fun x => ∃ t, Nx k A M n t ∧ (T t).2.2 = x) (B := 50) (fun x ⟨t, ht, e⟩ => e ▸ (hb t ht).2.2)
      have hne : ∀ t, Nx k A M n t → t ≠ n := fun t ⟨i, ht⟩ => by have := (ht.less hA hv).1; omega
      let T' : Nat → Nat × Nat × Nat := fun s => if s = n then (a, b, c) else T s
      have e1 : T' n = (a, b, c) := if_pos rfl
      have e2 : ∀ t, t ≠ n → T' t = T t := fun t h => if_neg h
      refine ⟨T', fun s hs hvs => ?_⟩
      by_cases hsn : s = n
      · subst hsn
        unfold Rt
        rw [e1]
        exact ⟨ha.congr (fun x => ⟨fun ⟨t, p, q⟩ => ⟨t, p, by rw [e2 t (hne t p)]; exact q⟩, fun ⟨t, p, q⟩ => ⟨t, p, by rw [← e2 t (hne t p)]; exact q⟩⟩), hb1.congr (fun x => ⟨fun ⟨t, p, q⟩ => ⟨t, p, by rw [e2 t (hne t p)]; exact q⟩, fun ⟨t, p, q⟩ => ⟨t, p, by rw [← e2 t (hne t p)]; exact q⟩⟩), hc.congr (fun x => ⟨fun ⟨t, p, q⟩ => ⟨t, p, by rw [e2 t (hne t p)]; exact q⟩, fun ⟨t, p, q⟩ => ⟨t, p, by rw [← e2 t (hne t p)]; exact q⟩⟩)⟩
      · refine (hT s (by omega) hvs).cong (e2 s hsn) (fun t ⟨i, ht⟩ => e2 t ?_)
        have := (ht.less hA hvs).1
        omega
    · exact ⟨T, fun s hs hvs => hT s (by
        rcases Nat.lt_or_ge s n with q | q
        · exact q
        · have : s = n := by omega
          exact absurd (this ▸ hvs) hv) hvs⟩
theorem sol_ex {k : Nat} {A : Nat → Nat} (M : Nat) (hA : Ok k A) : ∃ T : Nat → Nat × Nat × Nat, ∀ s, s < 32768 → Vs k s → Rt k A M T s := sol_below M hA 32768

noncomputable def Sol (k : Nat) (A : Nat → Nat) (M : Nat) : Nat → Nat × Nat × Nat := fun s => @dite _ (Ok k A) (Classical.propDecidable _) (fun h => Classical.choose (sol_ex M h) s) (fun _ => (0, 0, 0))
theorem Sol_rt {k : Nat} {A : Nat → Nat} {M : Nat} (hA : Ok k A) : ∀ s, s < 32768 → Vs k s → Rt k A M (Sol k A M) s := by
  have e : Sol k A M = Classical.choose (sol_ex M hA) := funext fun s => dif_pos hA
  rw [e]
  exact Classical.choose_spec (sol_ex M hA)
theorem Sol_le {k : Nat} {A : Nat → Nat} {M : Nat} (hA : Ok k A) {s : Nat} (hs : s < 32768) (hv : Vs k s) : (Sol k A M s).1 ≤ 49 ∧ (Sol k A M s).2.1 ≤ 49 ∧ (Sol k A M s).2.2 ≤ 49 := by
  have := Rt.bound (M := M) hA (s + 1) s (by omega) hv (fun t ht hvt => Sol_rt hA t (by omega) hvt)
  have := nb_le (M := M) hv
  omega
noncomputable def Lr (k : Nat) (A : Nat → Nat) (M : Nat) (r s : Nat) : Nat := if r = 0 then (Sol k A M s).2.1 else (Sol k A M s).2.2
theorem Lr_rt {k : Nat} {A : Nat → Nat} {M : Nat} (hA : Ok k A) {r s : Nat} (hr : r < 2) (hs : s < 32768) (hv : Vs k s) : Len r (fun x => ∃ t, Nx k A M s t ∧ Lr k A M r t = x) (Lr k A M r s) := by
  obtain ⟨-, h0, h1⟩ := Sol_rt hA s hs hv
  rcases (show r = 0 ∨ r = 1 by omega) with rfl | rfl
  · exact h0
  · exact h1
