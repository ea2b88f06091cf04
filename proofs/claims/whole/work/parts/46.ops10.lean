/-! ===== the reference: divisors ===== -/
/-- how many of 1 .. d divide n -/
def dcn (n : Nat) : Nat → Nat
  | 0 => 0
  | d + 1 => dcn n d + (if n % (d + 1) = 0 then 1 else 0)
theorem dcn_mono (n : Nat) {m : Nat} : ∀ d, m ≤ d → dcn n m ≤ dcn n d
  | 0, h => by have : m = 0 := by omega
               subst this; exact Nat.le_refl _
  | d + 1, h => by
    rcases Nat.lt_or_ge m (d + 1) with q | q
    · exact Nat.le_trans (dcn_mono n d (by omega)) (Nat.le_add_right _ _)
    · have : m = d + 1 := by omega
      subst this; exact Nat.le_refl _
theorem dcn_le (n : Nat) : ∀ d, dcn n d ≤ d
  | 0 => Nat.le_refl _
  | d + 1 => by
    have := dcn_le n d
    show dcn n d + (if n % (d + 1) = 0 then 1 else 0) ≤ d + 1
    split <;> omega
/-- the t-th divisor of n -/
def dv (n t : Nat) : Nat := ff (fun d => decide (dcn n d = t + 1)) (n + 1)
theorem dv_eq {n t m : Nat} (hm : m < n) (hd : n % (m + 1) = 0) (ht : dcn n m = t) : dv n t = m + 1 := by
  refine ff_eq ?_ (fun j hj => ?_) _ (by omega)
  · refine decide_eq_true ?_
    show dcn n m + (if n % (m + 1) = 0 then 1 else 0) = t + 1
    rw [if_pos hd, ht]
  · refine decide_eq_false ?_
    have := dcn_mono n m (show j ≤ m by omega)
    omega
theorem dv_ex {n t : Nat} : ∀ d, t < dcn n d → ∃ m, m < d ∧ n % (m + 1) = 0 ∧ dcn n m = t
  | 0, h => by exact absurd h (Nat.not_lt_zero t)
  | d + 1, h => by
    rcases Nat.lt_or_ge t (dcn n d) with q | q
    · obtain ⟨m, h1, h2, h3⟩ := dv_ex d q
      exact ⟨m, by omega, h2, h3⟩
    · have h' : t < dcn n d + (if n % (d + 1) = 0 then 1 else 0) := h
      by_cases e : n % (d + 1) = 0
      · rw [if_pos e] at h'
        exact ⟨d, by omega, e, by omega⟩
      · rw [if_neg e] at h'; omega
/-- the real multiples of d among the first m numbers, by their places among the divisors -/
def bD (n d : Nat) : Nat → Nat
  | 0 => 0
  | e + 1 => bD n d e ||| (if n % (e + 1) = 0 ∧ (e + 1) % d = 0 ∧ e + 1 ≠ d then 2 ^ dcn n e else 0)
theorem bD_bit {n d i : Nat} : ∀ m, (bD n d m).testBit i = true ↔ ∃ e, e < m ∧ n % (e + 1) = 0 ∧ (e + 1) % d = 0 ∧ e + 1 ≠ d ∧ dcn n e = i
  | 0 => by
    show (0 : Nat).testBit i = true ↔ _
    rw [Nat.zero_testBit]
    constructor
    · intro h; cases h
    · rintro ⟨e, h, -⟩; omega
  | m + 1 => by
    show (bD n d m ||| (if n % (m + 1) = 0 ∧ (m + 1) % d = 0 ∧ m + 1 ≠ d then 2 ^ dcn n m else 0)).testBit i = true ↔ _
    rw [Nat.testBit_or, Bool.or_eq_true, bD_bit m]
    constructor
    · rintro (⟨e, h1, h2⟩ | h)
      · exact ⟨e, by omega, h2⟩
      · by_cases c : n % (m + 1) = 0 ∧ (m + 1) % d = 0 ∧ m + 1 ≠ d
        · rw [if_pos c, Nat.testBit_two_pow] at h
          exact ⟨m, by omega, c.1, c.2.1, c.2.2, of_decide_eq_true h⟩
        · rw [if_neg c, Nat.zero_testBit] at h; cases h
    · rintro ⟨e, h1, h2, h3, h4, h5⟩
      by_cases c : e = m
      · subst c
        right
        rw [if_pos ⟨h2, h3, h4⟩, Nat.testBit_two_pow]
        exact decide_eq_true h5
      · exact Or.inl ⟨e, by omega, h2, h3, h4, h5⟩
theorem bD_lt {n d m : Nat} (h : dcn n n ≤ 12) (hm : m ≤ n) : bD n d m < 4096 := by
  have : bD n d m < 2 ^ 12 := bit_lt (fun i hi => by
    obtain ⟨e, h1, h2, -, -, h5⟩ := (bD_bit m).mp hi
    have h6 : dcn n (e + 1) = dcn n e + (if n % (e + 1) = 0 then 1 else 0) := rfl
    rw [if_pos h2] at h6
    have := dcn_mono n n (show e + 1 ≤ n by omega)
    omega)
  exact this
def Adiv (n : Nat) : Nat → Nat := fun t => if t < dcn n n then 2 ^ t ||| bD n (dv n t) n else 2 ^ t
theorem Adiv_bit {n t i : Nat} (ht : t < dcn n n) : (Adiv n t).testBit i = true ↔ i = t ∨ ∃ e, e < n ∧ n % (e + 1) = 0 ∧ (e + 1) % dv n t = 0 ∧ e + 1 ≠ dv n t ∧ dcn n e = i := by
  unfold Adiv
  rw [if_pos ht, Nat.testBit_or, Bool.or_eq_true, bD_bit, Nat.testBit_two_pow, decide_eq_true_eq]
  constructor
  · rintro (h | h)
    · exact Or.inl h.symm
    · exact Or.inr h
  · rintro (h | h)
    · exact Or.inl h.symm
    · exact Or.inr h
def divG (r n : Nat) : AG := (1, r, 2 ^ dcn n n - 1, 0, 2 ^ dcn n n - 1, Adiv n, (fun _ => 0), (fun _ => 0))
theorem Adiv_self (n t : Nat) : (Adiv n t).testBit t = true := by
  unfold Adiv
  split
  · rw [Nat.testBit_or, Nat.testBit_two_pow]; simp
  · rw [Nat.testBit_two_pow]; simp
theorem Adiv_tr (n : Nat) : Tr 1 (Adiv n) (2 ^ dcn n n - 1) := by
  intro _ q hq p hp
  rw [Nat.testBit_two_pow_sub_one] at hq
  have hq := of_decide_eq_true hq
  rw [Nat.testBit_two_pow_sub_one]
  rcases (Adiv_bit hq).mp hp with rfl | ⟨e, h1, h2, h3, h4, h5⟩
  · exact ⟨decide_eq_true hq, fun z hz => hz⟩
  · have h6 : dcn n (e + 1) = dcn n e + (if n % (e + 1) = 0 then 1 else 0) := rfl
    rw [if_pos h2] at h6
    have h7 := dcn_mono n n (show e + 1 ≤ n by omega)
    have hp' : p < dcn n n := by omega
    refine ⟨decide_eq_true hp', fun z hz => ?_⟩
    have hdv : dv n p = e + 1 := dv_eq h1 h2 h5
    rcases (Adiv_bit hp').mp hz with rfl | ⟨f, g1, g2, g3, g4, g5⟩
    · exact hp
    · refine (Adiv_bit hq).mpr (Or.inr ⟨f, g1, g2, ?_, ?_, g5⟩)
      · rw [hdv] at g3
        exact Nat.mod_eq_zero_of_dvd (Nat.dvd_trans (Nat.dvd_of_mod_eq_zero h3) (Nat.dvd_of_mod_eq_zero g3))
      · intro q
        rw [hdv] at g3
        have d1 := Nat.dvd_of_mod_eq_zero h3
        have d2 := Nat.dvd_of_mod_eq_zero g3
        rw [q] at d2
        have := Nat.dvd_antisymm d1 d2
        exact h4 this.symm
theorem divG_ok {r n : Nat} (hr : r < 2) (hn : dcn n n ≤ 12) : GOk (divG r n) := by
  have hp : 2 ^ dcn n n ≤ 2 ^ 12 := Nat.pow_le_pow_right (by decide) hn
  refine ⟨by show 1 ≤ 2; decide, hr, fun _ q _ => Adiv_self n q, Adiv_tr n, ?_, fun h => absurd h (by show (1 : Nat) ≠ 0; decide), ?_, Nat.zero_le _, fun i hi => absurd hi (Nat.not_lt_zero i)⟩
  · show 2 ^ dcn n n - 1 < 32768; omega
  · show St 1 (Adiv n) (2 ^ dcn n n - 1) (2 ^ dcn n n - 1)
    unfold St
    rw [if_neg (by decide)]
    exact ⟨fun q hq => hq, fun q hq1 hq2 => by rw [hq1] at hq2; cases hq2⟩
theorem rem_eq {a d : Nat} (ha : a < 2 ^ 31) (h0 : 0 < d) (hd : d < 2 ^ 31) : (nI a - nI a / nI d * nI d) = nI (a % d) := pk_rem ha h0 hd
theorem mf_div_count {N : Nat} {x2 : Int32} {w : mW} (h1 : 1 ≤ N) (hN : N ≤ 10000) : ∀ (d m k : Nat), d = N - m → m ≤ N → d < k → mf_divisors_C5 k (nI N) x2 (nI (dcn N m)) (nI (m + 1)) w = mf_divisors_C44 (nI N) x2 (nI (dcn N N)) w
  | d, m, 0, hd, hm, hk => by omega
  | 0, m, k + 1, hd, hm, hk => by
    have e : m = N := by omega
    subst e
    rw [mf_divisors_C5, if_pos ((nI_ltI (by omega) (by omega)).mpr (by omega))]
  | d + 1, m, k + 1, hd, hm, hk => by
    have hr : rng 1 10000 (nI N) = true := decide_eq_true (by rw [nI_toInt (by omega)]; omega)
    rw [mf_divisors_C5, if_neg (fun q => by
      have := (nI_ltI (by omega) (by omega)).mp q
      omega), bn_i (mf_rng 1 10000 (by decide) (by decide) (nI N) 1 10000 (by decide) (by decide)), if_pos hr, if_neg (by decide), gd_i (ii_ne0 (show m + 1 ≠ 0 by omega) (by omega)), rem_eq (by omega) (by omega) (by omega)]
    have ih := mf_div_count (x2 := x2) (w := w) h1 hN d (m + 1) k (by omega) (by omega) (by omega)
    have h3 : dcn N (m + 1) = dcn N m + (if N % (m + 1) = 0 then 1 else 0) := rfl
    by_cases e : N % (m + 1) = 0
    · rw [if_pos e] at h3
      rw [e, if_pos (show nI 0 = (0 : Int32) from rfl), nm_i, nm_i, nI_1, nI_1, ← h3]
      exact ih
    · rw [if_neg e] at h3
      have hlt : N % (m + 1) < m + 1 := Nat.mod_lt _ (by omega)
      rw [if_neg (ii_ne0 e (by omega)), nm_i, nm_i, nI_1, show (0 : Int32) = nI 0 from rfl, nI_add, ← h3]
      exact ih
theorem mf_div_in {K : Int32 → Int32 → Int32 → Int32 → mW → Option (Int32 × mW)} {N g t D : Nat} (h1 : 1 ≤ N) (hN : N ≤ 10000) (h12 : dcn N N ≤ 12) (hg : g < 6) (ht : t < dcn N N) (hD : 0 < D) (hD2 : D ≤ N) : ∀ (d m k : Nat) (w : mW), d = N - m → m ≤ N → d < k → w.2 5 (12 * g + t) = nI (bD N D m) → mf_divisors_C134 K k (nI N) (nI g) (nI t) (nI D) (nI (dcn N m)) (nI (m + 1)) w = K (nI N) (nI g) (nI (t + 1)) (nI (D + 1)) (mU w 5 (12 * g + t) (nI (bD N D N)))
  | d, m, 0, w, hd, hm, hk, _ => by omega
  | 0, m, k + 1, w, hd, hm, hk, h5 => by
    have e : m = N := by omega
    subst e
    rw [mf_divisors_C134, if_pos ((nI_ltI (by omega) (by omega)).mpr (by omega)), nm_i, nm_i, nI_1, nI_1]
    congr 1
    rw [mU_R]
    have : upd (w.2 5) (12 * g + t) (nI (bD m D m)) = w.2 5 := by
      funext j
      unfold upd
      split
      · rename_i hj; rw [hj, h5]
      · rfl
    rw [this, mR_self]
  | d + 1, m, k + 1, w, hd, hm, hk, h5 => by
    have hpl : mf_placeOf (nI g) (nI t) = some (nI (12 * g + t)) := by
      unfold mf_placeOf
      rw [show (12 : Int32) * nI g = nI (12 * g) from pk_mul 12 g, nI_add]
    have h3 : dcn N (m + 1) = dcn N m + (if N % (m + 1) = 0 then 1 else 0) := rfl
    have hb : bD N D (m + 1) = bD N D m ||| (if N % (m + 1) = 0 ∧ (m + 1) % D = 0 ∧ m + 1 ≠ D then 2 ^ dcn N m else 0) := rfl
    have hcm := dcn_mono N N (show m + 1 ≤ N by omega)
    rw [mf_divisors_C134, if_neg (fun q => by
      have := (nI_ltI (by omega) (by omega)).mp q
      omega), gd_i (ii_ne0 (show m + 1 ≠ 0 by omega) (by omega)), rem_eq (by omega) (by omega) (by omega)]
    by_cases e : N % (m + 1) = 0
    · rw [if_pos e] at h3
      rw [e, if_pos (show nI 0 = (0 : Int32) from rfl), bn_i hpl, gi_i (ii_ix (by omega) (by decide)), ii_cl (by omega), h5]
      have fin : ∀ v : Nat, bD N D m ||| v = bD N D (m + 1) → mf_divisors_C183 K (mf_divisors_C134 K k) (nI N) (nI g) (nI t) (nI D) (nI (dcn N m)) (nI (m + 1)) (nI (12 * g + t)) (nI (bD N D m)) (nI v) w = K (nI N) (nI g) (nI (t + 1)) (nI (D + 1)) (mU w 5 (12 * g + t) (nI (bD N D N))) := by
        intro v hv
        have ih := mf_div_in (K := K) h1 hN h12 hg ht hD hD2 d (m + 1) k (mU w 5 (12 * g + t) (nI (bD N D (m + 1)))) (by omega) (by omega) (by omega) (mU_at w _ _ _)
        unfold mf_divisors_C183
        rw [gi_i (ii_ix (by omega) (by decide)), ii_cl (by omega), ii_or, hv, nm_i, nm_i, nm_i, nI_1, nI_1, ← h3, ih]
        congr 1
        rw [mU_R, mU_R, mU_R, mR_R, mR_at]
        congr 1
        funext j
        unfold upd
        split <;> rfl
      have fin0 : bD N D m = bD N D (m + 1) → mf_divisors_C182 K (mf_divisors_C134 K k) (nI N) (nI g) (nI t) (nI D) (nI (dcn N m)) (nI (m + 1)) (nI (12 * g + t)) (nI (bD N D m)) w = K (nI N) (nI g) (nI (t + 1)) (nI (D + 1)) (mU w 5 (12 * g + t) (nI (bD N D N))) := by
        intro hv
        unfold mf_divisors_C182
        exact fin 0 (by rw [Nat.or_zero]; exact hv)
      by_cases e2 : m + 1 = D
      · rw [if_pos (by rw [e2])]
        exact fin0 (by rw [hb, if_neg (fun q => q.2.2 e2), Nat.or_zero])
      · rw [if_neg (ii_ne e2 (by omega) (by omega)), gd_i (ii_ne0 (show D ≠ 0 by omega) (by omega)), rem_eq (by omega) hD (by omega)]
        by_cases e3 : (m + 1) % D = 0
        · rw [e3, if_pos (show nI 0 = (0 : Int32) from rfl), ii_one (by omega)]
          exact fin _ (by rw [hb, if_pos ⟨e, e3, e2⟩])
        · have : (m + 1) % D < D := Nat.mod_lt _ hD
          rw [if_neg (ii_ne0 e3 (by omega))]
          exact fin0 (by rw [hb, if_neg (fun q => e3 q.2.1), Nat.or_zero])
    · rw [if_neg e] at h3
      have hlt : N % (m + 1) < m + 1 := Nat.mod_lt _ (by omega)
      have ih := mf_div_in (K := K) h1 hN h12 hg ht hD hD2 d (m + 1) k w (by omega) (by omega) (by omega) (by rw [hb, if_neg (fun q => e q.1), Nat.or_zero]; exact h5)
      rw [if_neg (ii_ne0 e (by omega)), nm_i, nI_1, ← ih, h3]
      rfl
theorem mf_div_out {N g : Nat} (h1 : 1 ≤ N) (hN : N ≤ 10000) (h12 : dcn N N ≤ 12) (hg : g < 6) : ∀ (d m k : Nat) (w : mW), d = N - m → m ≤ N → d < k → (∀ t, t < dcn N m → w.2 5 (12 * g + t) = nI (bD N (dv N t) N)) → ∃ w1, mf_divisors_C102 k (nI N) (nI g) (nI (dcn N m)) (nI (m + 1)) w = (bn (mf_fullOf (nI g) w1) fun r => gi (nI g) 6 <| nm (mU w1 3 (nI g).toNatClampNeg r) fun w2 => some (nI g, w2)) ∧ w1.1 = w.1 ∧ (∀ c, c ≠ 5 → w1.2 c = w.2 c) ∧ (∀ j, j ≠ g → MCell w w1 j) ∧ (∀ t, t < dcn N N → w1.2 5 (12 * g + t) = nI (bD N (dv N t) N))
  | d, m, 0, w, hd, hm, hk, _ => by omega
  | 0, m, k + 1, w, hd, hm, hk, h5 => by
    have e : m = N := by omega
    subst e
    refine ⟨w, ?_, rfl, fun _ _ => rfl, fun j _ => MCell.rf w j, h5⟩
    rw [mf_divisors_C102, if_pos ((nI_ltI (by omega) (by omega)).mpr (by omega))]
  | d + 1, m, k + 1, w, hd, hm, hk, h5 => by
    have h3 : dcn N (m + 1) = dcn N m + (if N % (m + 1) = 0 then 1 else 0) := rfl
    have hcm := dcn_mono N N (show m + 1 ≤ N by omega)
    rw [mf_divisors_C102, if_neg (fun q => by
      have := (nI_ltI (by omega) (by omega)).mp q
      omega), gd_i (ii_ne0 (show m + 1 ≠ 0 by omega) (by omega)), rem_eq (by omega) (by omega) (by omega)]
    by_cases e : N % (m + 1) = 0
    · rw [if_pos e] at h3
      have ht : dcn N m < dcn N N := by omega
      have hdv : dv N (dcn N m) = m + 1 := dv_eq (by omega) e rfl
      have hpl : mf_placeOf (nI g) (nI (dcn N m)) = some (nI (12 * g + dcn N m)) := by
        unfold mf_placeOf
        rw [show (12 : Int32) * nI g = nI (12 * g) from pk_mul 12 g, nI_add]
      have hin := mf_div_in (K := mf_divisors_C102 k) (D := m + 1) h1 hN h12 hg ht (by omega) (by omega) N 0 fu (mU w 5 (12 * g + dcn N m) (0 : Int32)) rfl (Nat.zero_le _) (fu_gt (by omega)) (mU_at w _ _ _)
      have h8 : ∀ u, u ≠ dcn N m → (mU (mU w 5 (12 * g + dcn N m) (0 : Int32)) 5 (12 * g + dcn N m) (nI (bD N (m + 1) N))).2 5 (12 * g + u) = w.2 5 (12 * g + u) := fun u hu => by
        rw [mU_ni _ _ (by omega), mU_ni w _ (by omega)]
      obtain ⟨w1, g1, g2, g3, g4, g5⟩ := mf_div_out h1 hN h12 hg d (m + 1) k (mU (mU w 5 (12 * g + dcn N m) (0 : Int32)) 5 (12 * g + dcn N m) (nI (bD N (m + 1) N))) (by omega) (by omega) (by omega) (fun t ht2 => by
        by_cases et : t = dcn N m
        · subst et; rw [mU_at, hdv]
        · rw [h8 t et]; exact h5 t (by omega))
      refine ⟨w1, ?_, g2, fun c hc => (g3 c hc).trans ((mU_ne _ _ hc).trans (mU_ne _ _ hc)), fun j hj => ((MCell.g5 hj (by omega)).tr (MCell.g5 hj (by omega))).tr (g4 j hj), g5⟩
      rw [e, if_pos (show nI 0 = (0 : Int32) from rfl), bn_i hpl, gi_i (ii_ix (by omega) (by decide)), ii_cl (by omega), nm_i]
      refine Eq.trans hin ?_
      rw [← h3]; exact g1
    · rw [if_neg e] at h3
      have hlt : N % (m + 1) < m + 1 := Nat.mod_lt _ (by omega)
      obtain ⟨w1, g1, g2⟩ := mf_div_out h1 hN h12 hg d (m + 1) k w (by omega) (by omega) (by omega) (fun t ht => h5 t (by omega))
      refine ⟨w1, ?_, g2⟩
      rw [if_neg (ii_ne0 e (by omega)), nm_i, nI_1, ← g1, h3]
      rfl
def a_div (n : Nat) (G : Nat → AG) (x y : Int32) : AR := if rng 1 10000 x = true ∧ dcn (ixN x) (ixN x) ≤ 12 ∧ rng 0 1 y = true then (if n = 6 then (-1004, n, G) else (nI n, n + 1, upG G n (divG (ixN y) (ixN x)))) else (-1002, n, G)
theorem dcn_pos {n : Nat} (h : 1 ≤ n) : 1 ≤ dcn n n := by
  have h1 := dcn_mono n n (show 1 ≤ n from h)
  have h2 : dcn n 1 = 1 := by
    show dcn n 0 + (if n % 1 = 0 then 1 else 0) = 1
    rw [if_pos (Nat.mod_one n)]; rfl
  omega
/-- things of a game that has just begun -/
theorem MI.setD {n N r : Nat} {G : Nat → AG} {w0 w : mW} (h : MI n G w0) (hn : n < 6) (hr : r < 2) (h12 : dcn N N ≤ 12) (h0 : w.1 0 = nI (n + 1)) (h1 : w.1 1 = (-1) ∨ (w.1 1 = w0.1 1 ∧ w.2 12 = w0.2 12 ∧ w.2 13 = w0.2 13 ∧ w.2 14 = w0.2 14)) (hc : ∀ j, j < n → MCell w0 w j) (c1 : w.2 1 n = nI 1) (c2 : w.2 2 n = nI r) (c4 : w.2 4 n = nI (dcn N N)) (c9 : w.2 9 n = nI 0) (c5 : ∀ t, t < dcn N N → w.2 5 (12 * n + t) = nI (bD N (dv N t) N)) : MD w n 1 (Adiv N) (2 ^ dcn N N - 1) ∧ (w.2 3 n = nI (2 ^ dcn N N - 1) → MI (n + 1) (upG G n (divG r N)) w) := by
  have hM : MD w n 1 (Adiv N) (2 ^ dcn N N - 1) := by
    refine ⟨c1, Or.inr (Or.inl ⟨rfl, dcn N N, h12, c4, rfl, fun t ht => ⟨_, c5 t ht, bD_lt h12 (Nat.le_refl N), ?_, ?_⟩⟩)⟩
    · show Adiv N t = _
      unfold Adiv; rw [if_pos ht]
    · cases hb : (bD N (dv N t) N).testBit t
      · rfl
      · obtain ⟨e, q1, q2, q3, q4, q5⟩ := (bD_bit N).mp hb
        exact absurd (dv_eq q1 q2 q5).symm q4
  refine ⟨hM, fun c3 => h.push hn h0 hc (divG_ok hr h12) ⟨hM, c2, c3, c9, fun i hi => absurd hi (Nat.not_lt_zero i)⟩ h1⟩
theorem MI.divisors {n : Nat} {G : Nat → AG} {w : mW} (h : MI n G w) (x y : Int32) : ∃ w', mf_divisors x y w = some ((a_div n G x y).1, w') ∧ MI (a_div n G x y).2.1 (a_div n G x y).2.2 w' := by
  have h6 := h.1
  unfold a_div
  -- where the number is out of its bounds nothing is counted
  by_cases hx : rng 1 10000 x = true
  · obtain ⟨N, x1, x2, x3, x4⟩ := rng_t hx
    have hcl := dcn_le N N
    have hcp := dcn_pos x1
    have e1 : mf_divisors x y w = mf_divisors_C44 x y (nI (dcn N N)) w := by
      unfold mf_divisors
      rw [x3]
      exact mf_div_count (x2 := y) (w := w) x1 x2 N 0 fu rfl (Nat.zero_le _) (fu_gt (by omega))
    rw [e1, x4]
    unfold mf_divisors_C44
    rw [bn_i (mf_rng 1 12 (by decide) (by decide) (nI (dcn N N)) 1 12 (by decide) (by decide))]
    have hrng : rng 1 12 (nI (dcn N N)) = decide (dcn N N ≤ 12) := by
      unfold rng
      rw [nI_toInt (by omega), Bool.eq_iff_iff, decide_eq_true_eq, decide_eq_true_eq]
      omega
    rw [hrng]
    by_cases h12 : dcn N N ≤ 12
    · rw [decide_eq_true h12, if_pos rfl, if_neg (by decide), bn_i (mf_isRule_eq y)]
      by_cases hy : rng 0 1 y = true
      · obtain ⟨r, y1, y2, y3, y4⟩ := rng_t hy
        rw [if_pos hy, if_neg (by decide), h.2.1, if_pos (⟨hx, h12, hy⟩ : rng 1 10000 x = true ∧ dcn N N ≤ 12 ∧ rng 0 1 y = true)]
        by_cases e : n = 6
        · refine ⟨w, ?_, by rw [if_pos e]; exact h⟩
          rw [if_pos (show nI n = (6 : Int32) by rw [e]; rfl), if_pos e]
        · obtain ⟨w1, a1, a2, a3⟩ := h.fresh (show n < 6 by omega) (show 1 ≤ 2 by decide) (show r < 2 by omega)
          have hfr := (a2.2.2.1 n (Nat.lt_succ_self n)).2
          rw [upG_at] at hfr
          obtain ⟨m1, m2, m3, m4, -⟩ := hfr
          obtain ⟨w2, g1, g2, g3, g4, g5⟩ := mf_div_out (g := n) x1 x2 h12 (by omega) N 0 fu (mU w1 4 n (nI (dcn N N))) rfl (Nat.zero_le _) (fu_gt (by omega)) (fun t ht => absurd ht (Nat.not_lt_zero t))
          have f : ∀ c, c ≠ 4 → c ≠ 5 → w2.2 c = w1.2 c := fun c a b => by rw [g3 c b, mU_ne _ _ a]
          -- the old games' cells, as they stood before the fresh one
          have hold : ∀ j, j < n → MCell w w1 j := by
            intro j hj
            have key : ∀ w1' , mf_fresh (nI 1) (nI r) w = some (nI n, w1') → MCell w w1' j := by
              intro w1' q
              unfold mf_fresh at q
              rw [h.2.1, nm_i] at q
              obtain ⟨-, q⟩ := gi_e q
              rw [ii_cl (by omega), nm_i] at q
              obtain ⟨-, q⟩ := gi_e q
              rw [nm_i] at q
              obtain ⟨-, q⟩ := gi_e q
              rw [nm_i] at q
              obtain ⟨-, q⟩ := gi_e q
              rw [nm_i] at q
              obtain ⟨-, q⟩ := gi_e q
              rw [nm_i] at q
              obtain ⟨-, q⟩ := gi_e q
              rw [nm_i] at q
              obtain ⟨-, q⟩ := gi_e q
              rw [nm_i] at q
              have hne : j ≠ n := by omega
              have cc : ∀ t1 : Int32, mf_fresh_C71 (nI n) t1 (mU (mU (mU (mU (mU (mU (mU w 1 n (nI 1)) 2 n (nI r)) 3 n 0) 4 n 0) 6 n 0) 7 n 0) 9 n 0) = some (nI n, w1') → MCell w w1' j := by
                intro t1 q
                unfold mf_fresh_C71 at q
                have q2 := (so_2 q).2
                rw [← q2]
                show MCell w (mU (mU (mU (mU (mU (mU (mU w 1 n (nI 1)) 2 n (nI r)) 3 n 0) 4 n 0) 6 n 0) 7 n 0) 9 n 0) j
                exact ((((((MCell.g1 (c := 1) hne (by decide)).tr (MCell.g1 (c := 2) hne (by decide))).tr (MCell.g1 (c := 3) hne (by decide))).tr (MCell.g1 (c := 4) hne (by decide))).tr (MCell.g1 (c := 6) hne (by decide))).tr (MCell.g1 (c := 7) hne (by decide))).tr (MCell.g1 (c := 9) hne (by decide))
              split at q
              · exact cc _ q
              · exact cc _ q
            exact key w1 a1
          have hcell : ∀ j, j < n → MCell w w2 j := fun j hj => ((hold j hj).tr (MCell.g1 (show j ≠ n by omega) (by decide))).tr (g4 j (by omega))
          have hcache : w2.1 1 = (-1) ∨ (w2.1 1 = w.1 1 ∧ w2.2 12 = w.2 12 ∧ w2.2 13 = w.2 13 ∧ w2.2 14 = w.2 14) := by
            have q1 : w2.1 1 = w1.1 1 := by rw [g2]; rfl
            by_cases q : w2.1 1 = (-1)
            · exact Or.inl q
            · right
              have key : ∀ w1', mf_fresh (nI 1) (nI r) w = some (nI n, w1') → w1'.1 1 = (-1) ∨ w1'.1 1 = w.1 1 := by
                intro w1' q
                unfold mf_fresh at q
                rw [h.2.1, nm_i] at q
                obtain ⟨-, q⟩ := gi_e q
                rw [ii_cl (by omega), nm_i] at q
                obtain ⟨-, q⟩ := gi_e q
                rw [nm_i] at q
                obtain ⟨-, q⟩ := gi_e q
                rw [nm_i] at q
                obtain ⟨-, q⟩ := gi_e q
                rw [nm_i] at q
                obtain ⟨-, q⟩ := gi_e q
                rw [nm_i] at q
                obtain ⟨-, q⟩ := gi_e q
                rw [nm_i] at q
                obtain ⟨-, q⟩ := gi_e q
                rw [nm_i] at q
                split at q
                · unfold mf_fresh_C71 at q
                  rw [← (so_2 q).2]; exact Or.inl rfl
                · unfold mf_fresh_C71 at q
                  rw [← (so_2 q).2]; exact Or.inr rfl
              rcases key w1 a1 with k | k
              · exact absurd (q1.trans k) q
              · exact ⟨q1.trans k, by rw [f 12 (by decide) (by decide), a3 12 (by decide)], by rw [f 13 (by decide) (by decide), a3 13 (by decide)], by rw [f 14 (by decide) (by decide), a3 14 (by decide)]⟩
          have hset := h.setD (w := mU w2 3 n (nI (2 ^ dcn N N - 1))) (N := N) (r := r) (by omega) (by omega) h12 (by
            show w2.1 0 = _
            rw [g2]; exact a2.2.1) hcache (fun j hj => (hcell j hj).tr (MCell.g1 (show j ≠ n by omega) (by decide))) (by rw [mU_ne _ _ (by decide), f 1 (by decide) (by decide)]; exact m1.1) (by rw [mU_ne _ _ (by decide), f 2 (by decide) (by decide)]; exact m2) (by rw [mU_ne _ _ (by decide), g3 4 (by decide), mU_at]) (by rw [mU_ne _ _ (by decide), f 9 (by decide) (by decide)]; exact m4) (fun t ht => by rw [mU_ne _ _ (by decide)]; exact g5 t ht)
          have hM2 : MD w2 n 1 (Adiv N) (2 ^ dcn N N - 1) := hset.1.keep6 (mU_ne _ _ (by decide)).symm (mU_ne _ _ (by decide)).symm (mU_ne _ _ (by decide)).symm (mU_ne _ _ (by decide)).symm (mU_ne _ _ (by decide)).symm (mU_ne _ _ (by decide)).symm
          refine ⟨_, ?_, by rw [if_neg e, y4]; exact hset.2 (mU_at _ _ _ _)⟩
          rw [if_neg (show ¬ (nI n = (6 : Int32)) from ii_ne (m := 6) e (by omega) (by decide)), if_neg e, y3, show (1 : Int32) = nI 1 from rfl, bn2_i a1, gi_i (ii_ix (show n < 6 by omega) (by decide)), ii_cl (by omega), nm_i, x3]
          refine Eq.trans g1 ?_
          rw [bn_i (mf_fullOf_eq (show n < 6 by omega) hM2), gi_i (ii_ix (show n < 6 by omega) (by decide)), ii_cl (by omega), nm_i]
      · refine ⟨w, ?_, by rw [if_neg (fun q => hy q.2.2)]; exact h⟩
        rw [if_neg hy, if_pos rfl, if_neg (fun q => hy q.2.2)]
    · refine ⟨w, ?_, by rw [if_neg (fun q => h12 q.2.1)]; exact h⟩
      rw [decide_eq_false h12, if_pos (show (if (false = true) then (1 : Int32) else 0) = 0 from rfl), if_neg (fun q => h12 q.2.1)]
  · refine ⟨w, ?_, by rw [if_neg (fun q => hx q.1)]; exact h⟩
    rw [if_neg (fun q => hx q.1)]
    have hin := mf_rng 1 10000 (by decide) (by decide) x 1 10000 (by decide) (by decide)
    have e0 : mf_divisors_C44 x y (0 : Int32) w = some (-1002, w) := by
      unfold mf_divisors_C44
      rw [bn_i (mf_rng 1 12 (by decide) (by decide) (0 : Int32) 1 12 (by decide) (by decide)), if_neg (show ¬ (rng 1 12 (0 : Int32) = true) by decide), if_pos rfl]
    unfold mf_divisors
    have : fu = 39999 + 1 := rfl
    rw [this, mf_divisors_C5]
    by_cases q : x < (1 : Int32)
    · rw [if_pos q]; exact e0
    · rw [if_neg q, bn_i hin, if_neg hx, if_pos rfl]; exact e0
