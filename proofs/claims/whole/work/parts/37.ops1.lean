/-! ===== the calls, as both sides must answer them ===== -/
abbrev AR : Type := Int32 × Nat × (Nat → AG)
def isG (n : Nat) (x : Int32) : Bool := decide (0 ≤ x.toInt ∧ x.toInt < (n : Int))
def ixN (x : Int32) : Nat := x.toInt.toNat
theorem isG_t {n : Nat} {x : Int32} (h : isG n x = true) : ixN x < n ∧ x = nI (ixN x) := by
  have h := of_decide_eq_true h
  have hlt : x.toInt < 2 ^ 31 := by have := Int32.toInt_lt x; omega
  refine ⟨by unfold ixN; omega, Int32.toInt_inj.mp ?_⟩
  unfold ixN
  rw [nI_toInt (by omega)]
  omega
theorem isG_nI {n j : Nat} (hj : j < 2 ^ 31) : isG n (nI j) = decide (j < n) := by
  unfold isG
  rw [nI_toInt hj]
  rw [Bool.eq_iff_iff]
  simp
theorem ixN_nI {j : Nat} (hj : j < 2 ^ 31) : ixN (nI j) = j := by
  unfold ixN; rw [nI_toInt hj]; rfl
/-- a number between two bounds -/
def rng (lo hi : Nat) (x : Int32) : Bool := decide ((lo : Int) ≤ x.toInt ∧ x.toInt ≤ (hi : Int))
theorem rng_t {lo hi : Nat} {x : Int32} (h : rng lo hi x = true) : ∃ j, lo ≤ j ∧ j ≤ hi ∧ x = nI j ∧ ixN x = j := by
  have h := of_decide_eq_true h
  have hlt : x.toInt < 2 ^ 31 := by have := Int32.toInt_lt x; omega
  refine ⟨ixN x, by unfold ixN; omega, by unfold ixN; omega, Int32.toInt_inj.mp ?_, rfl⟩
  unfold ixN
  rw [nI_toInt (by omega)]
  omega
theorem mf_rng (lo hi : Nat) (hl : lo < 2 ^ 31) (hh : hi < 2 ^ 31) (x : Int32) (a b : Int64) (ha : a.toInt = (lo : Int)) (hb : b.toInt = (hi : Int)) : mf_in x.toInt64 a b = some (if rng lo hi x then 1 else 0) := by
  rw [mf_in_eq, i64, ha, hb]
  unfold rng
  simp only [decide_eq_true_eq]
theorem mf_isRule_eq (x : Int32) : mf_isRule x = some (if rng 0 1 x then 1 else 0) := by
  unfold mf_isRule
  rw [bn_i (mf_rng 0 1 (by decide) (by decide) x 0 1 (by decide) (by decide))]
  by_cases h : rng 0 1 x = true
  · rw [if_pos h]; rfl
  · rw [if_neg h]; rfl
/-- the reference's test of an index below a number that it holds -/
theorem mf_below_n {n : Nat} (hn : n ≤ 1000) (x : Int32) : mf_in x.toInt64 (0 : Int64) ((nI n - (1 : Int32)).toInt64) = some (if isG n x then 1 else 0) := by
  rw [mf_in_eq, i64, i64, show (1 : Int32) = nI 1 from rfl, pk_sub_toInt (by omega) (by decide)]
  unfold isG
  have e : ((0 : Int64).toInt ≤ x.toInt ∧ x.toInt ≤ (n : Int) - ((1 : Nat) : Int)) ↔ (0 ≤ x.toInt ∧ x.toInt < (n : Int)) := by
    have : (0 : Int64).toInt = 0 := by decide
    rw [this]; omega
  by_cases h : 0 ≤ x.toInt ∧ x.toInt < (n : Int)
  · rw [if_pos (e.mpr h), if_pos (decide_eq_true h)]
  · rw [if_neg (fun q => h (e.mp q)), if_neg (by rw [decide_eq_true_eq]; exact h)]
theorem MI.isGame {n : Nat} {G : Nat → AG} {w : mW} (h : MI n G w) (x : Int32) : mf_isGame x w = some (if isG n x then 1 else 0) := by
  unfold mf_isGame
  rw [h.2.1, bn_i (mf_below_n (by have := h.1; omega) x)]
  by_cases hx : isG n x = true
  · rw [if_pos hx]; rfl
  · rw [if_neg hx]; rfl
theorem MI.isOf {n : Nat} {G : Nat → AG} {w : mW} (h : MI n G w) (x : Int32) (k : Nat) (hk : k ≤ 2) : mf_isOf x (nI k) w = some (if isG n x = true ∧ gk (G (ixN x)) = k then 1 else 0) := by
  unfold mf_isOf
  rw [bn_i (h.isGame x)]
  by_cases hx : isG n x = true
  · obtain ⟨h1, h2⟩ := isG_t hx
    have h6 := h.1
    obtain ⟨⟨k1, -⟩, m1, -⟩ := h.2.2.1 _ h1
    rw [if_pos hx, if_neg (by decide), h2, gi_i (ii_ix (show ixN x < 6 by omega) (by decide)), ii_cl (by omega), m1.1, ← h2]
    by_cases e : gk (G (ixN x)) = k
    · rw [if_pos (by rw [e]), if_pos ⟨hx, e⟩]; rfl
    · rw [if_neg (fun q => e ((nI_eq (by omega) (by omega)).mp q)), if_neg (fun q => e q.2)]; rfl
  · rw [if_neg hx, if_pos rfl, if_neg (fun q => hx q.1)]; rfl
theorem MI.get {n : Nat} {G : Nat → AG} {w : mW} (h : MI n G w) {x : Int32} (hx : isG n x = true) : ixN x < n ∧ x = nI (ixN x) ∧ ixN x < 6 ∧ GOk (G (ixN x)) ∧ MGame w (ixN x) (G (ixN x)) := by
  obtain ⟨h1, h2⟩ := isG_t hx
  have h6 := h.1
  exact ⟨h1, h2, by omega, (h.2.2.1 _ h1).1, (h.2.2.1 _ h1).2⟩
theorem GOk.lt {x : AG} (h : GOk x) : gs x < 32768 := by
  obtain ⟨k1, k2, k3, k4, k5, k6, k7, k8, k9⟩ := h
  have := k7.le k6
  omega
theorem GOk.le {x : AG} (h : GOk x) : gs x ≤ gW x := by
  obtain ⟨k1, k2, k3, k4, k5, k6, k7, k8, k9⟩ := h
  exact k7.le k6
noncomputable def gL (x : AG) (s : Nat) : Nat := Lr (gk x) (gA x) (gW x) (gr x) s
noncomputable def gw (x : AG) (s : Nat) : Nat := (Sol (gk x) (gA x) (gW x) s).1
noncomputable def a_won (n : Nat) (G : Nat → AG) (x : Int32) : AR := if isG n x then (nI (if gL (G (ixN x)) (gs (G (ixN x))) % 2 = gr (G (ixN x)) then 1 else 0), n, G) else (-1001, n, G)
noncomputable def a_worth (n : Nat) (G : Nat → AG) (x : Int32) : AR := if isG n x then (nI (gw (G (ixN x)) (gs (G (ixN x)))), n, G) else (-1001, n, G)
noncomputable def a_length (n : Nat) (G : Nat → AG) (x : Int32) : AR := if isG n x then (nI (gL (G (ixN x)) (gs (G (ixN x)))), n, G) else (-1001, n, G)
theorem MI.won {n : Nat} {G : Nat → AG} {w : mW} (h : MI n G w) (x : Int32) : ∃ w', mf_won x w = some ((a_won n G x).1, w') ∧ MI (a_won n G x).2.1 (a_won n G x).2.2 w' := by
  unfold mf_won a_won
  rw [bn_i (h.isGame x)]
  by_cases hx : isG n x = true
  · obtain ⟨h1, h2, h3, h4, h5⟩ := h.get hx
    obtain ⟨w', a1, a2, a3⟩ := h.solve h1
    have h5' := (a2.2.2.1 _ h1).2
    have hlt := h4.lt
    refine ⟨w', ?_, by rw [if_pos hx]; exact a2⟩
    rw [if_pos hx, if_pos hx, if_neg (by decide)]
    conv => lhs; rw [h2]
    rw [bn_i a1, gi_i (ii_ix h3 (by decide)), ii_cl (by omega), h5'.2.2.1, gi_i (ii_ix hlt (by decide)), ii_cl (by omega), (a3 _ h4.le).1]
    show _ = some (nI (if Lr _ _ _ _ _ % 2 = _ then 1 else 0), w')
    by_cases e : Lr (gk (G (ixN x))) (gA (G (ixN x))) (gW (G (ixN x))) (gr (G (ixN x))) (gs (G (ixN x))) % 2 = gr (G (ixN x))
    · rw [if_pos e, if_neg (by decide)]; rfl
    · rw [if_neg e, if_pos (by rfl)]; rfl
  · refine ⟨w, ?_, by rw [if_neg hx]; exact h⟩
    rw [if_neg hx, if_pos rfl, if_neg hx]
theorem MI.worthOf {n : Nat} {G : Nat → AG} {w : mW} (h : MI n G w) {g : Nat} (hg : g < n) : ∃ w', mf_worthOf (nI g) w = some (nI (gw (G g) (gs (G g))), w') ∧ MI n G w' ∧ MSol w' (gk (G g)) (gA (G g)) (gW (G g)) (gr (G g)) := by
  obtain ⟨w', a1, a2, a3⟩ := h.solve hg
  have h6 := h.1
  have h4 := (h.2.2.1 _ hg).1
  have h5' := (a2.2.2.1 _ hg).2
  have hlt := h4.lt
  refine ⟨w', ?_, a2, a3⟩
  unfold mf_worthOf
  rw [bn_i a1, gi_i (ii_ix (show g < 6 by omega) (by decide)), ii_cl (by omega), h5'.2.2.1, gi_i (ii_ix hlt (by decide)), ii_cl (by omega), (a3 _ h4.le).2.2]
  rfl
theorem MI.worth {n : Nat} {G : Nat → AG} {w : mW} (h : MI n G w) (x : Int32) : ∃ w', mf_worth x w = some ((a_worth n G x).1, w') ∧ MI (a_worth n G x).2.1 (a_worth n G x).2.2 w' := by
  unfold mf_worth a_worth
  rw [bn_i (h.isGame x)]
  by_cases hx : isG n x = true
  · obtain ⟨h1, h2, h3, h4, h5⟩ := h.get hx
    obtain ⟨w', a1, a2, -⟩ := h.worthOf h1
    refine ⟨w', ?_, by rw [if_pos hx]; exact a2⟩
    rw [if_pos hx, if_pos hx, if_neg (by decide)]
    conv => lhs; rw [h2]
    rw [bn2_i a1]
  · refine ⟨w, ?_, by rw [if_neg hx]; exact h⟩
    rw [if_neg hx, if_pos rfl, if_neg hx]
theorem MI.length {n : Nat} {G : Nat → AG} {w : mW} (h : MI n G w) (x : Int32) : ∃ w', mf_length x w = some ((a_length n G x).1, w') ∧ MI (a_length n G x).2.1 (a_length n G x).2.2 w' := by
  unfold mf_length a_length
  rw [bn_i (h.isGame x)]
  by_cases hx : isG n x = true
  · obtain ⟨h1, h2, h3, h4, h5⟩ := h.get hx
    obtain ⟨w', a1, a2, a3⟩ := h.solve h1
    have h5' := (a2.2.2.1 _ h1).2
    have hlt := h4.lt
    refine ⟨w', ?_, by rw [if_pos hx]; exact a2⟩
    rw [if_pos hx, if_pos hx, if_neg (by decide)]
    conv => lhs; rw [h2]
    rw [bn_i a1, gi_i (ii_ix h3 (by decide)), ii_cl (by omega), h5'.2.2.1, gi_i (ii_ix hlt (by decide)), ii_cl (by omega), (a3 _ h4.le).2.1]
    rfl
  · refine ⟨w, ?_, by rw [if_neg hx]; exact h⟩
    rw [if_neg hx, if_pos rfl, if_neg hx]
def a_told (n : Nat) (G : Nat → AG) (x y : Int32) : AR := (if isG n x then (if y = 0 then nI (gk (G (ixN x))) else if y = 1 then nI (gr (G (ixN x))) else if y = 2 ∨ y = 3 then nI (nb (gk (G (ixN x))) (gW (G (ixN x))) (gs (G (ixN x)))) else if y = 4 then nI (gd_ (G (ixN x))) else if y = 5 then nI (gs (G (ixN x))) else -1002) else -1001, n, G)
theorem MI.told {n : Nat} {G : Nat → AG} {w : mW} (h : MI n G w) (x y : Int32) : ∃ w', mf_told x y w = some ((a_told n G x y).1, w') ∧ MI (a_told n G x y).2.1 (a_told n G x y).2.2 w' := by
  unfold mf_told a_told
  rw [bn_i (h.isGame x)]
  by_cases hx : isG n x = true
  · obtain ⟨h1, h2, h3, h4, h5⟩ := h.get hx
    obtain ⟨m1, m2, m3, m4, m5⟩ := h5
    obtain ⟨w', a1, a2, -, -⟩ := h.bites h1
    have i1 : gi x 6 = gi (nI (ixN x)) 6 (β := Int32 × mW) := by rw [← h2]
    rw [if_pos hx, if_neg (by decide), i1]
    rw [gi_i (ii_ix h3 (by decide)), gi_i (ii_ix h3 (by decide)), gi_i (ii_ix h3 (by decide)), gi_i (ii_ix h3 (by decide))]
    have i2 : x.toNatClampNeg = ixN x := by
      have := congrArg Int32.toNatClampNeg h2
      rw [this, ii_cl (by omega)]
    have a1' : mf_bitesOf x w = some (nI (nb (gk (G (ixN x))) (gW (G (ixN x))) (gs (G (ixN x)))), w') := by
      rw [← a1]; exact congrArg (fun z => mf_bitesOf z w) h2
    rw [i2, m1.1, m2, m3, m4, bn2_i a1']
    simp only [hx, if_true]
    by_cases y0 : y = 0
    · exact ⟨w, by rw [if_pos y0, if_pos y0], h⟩
    by_cases y1 : y = 1
    · exact ⟨w, by rw [if_neg y0, if_pos y1, if_neg y0, if_pos y1], h⟩
    by_cases y2 : y = 2
    · exact ⟨w', by rw [if_neg y0, if_neg y1, if_pos y2, if_neg y0, if_neg y1, if_pos (Or.inl y2)], a2⟩
    by_cases y3 : y = 3
    · exact ⟨w', by rw [if_neg y0, if_neg y1, if_neg y2, if_pos y3, if_neg y0, if_neg y1, if_pos (Or.inr y3)], a2⟩
    have y23 : ¬ (y = 2 ∨ y = 3) := by rintro (q | q) <;> contradiction
    by_cases y4 : y = 4
    · exact ⟨w, by rw [if_neg y0, if_neg y1, if_neg y2, if_neg y3, if_pos y4, if_neg y0, if_neg y1, if_neg y23, if_pos y4], h⟩
    by_cases y5 : y = 5
    · exact ⟨w, by rw [if_neg y0, if_neg y1, if_neg y2, if_neg y3, if_neg y4, if_pos y5, if_neg y0, if_neg y1, if_neg y23, if_neg y4, if_pos y5], h⟩
    · exact ⟨w, by rw [if_neg y0, if_neg y1, if_neg y2, if_neg y3, if_neg y4, if_neg y5, if_neg y0, if_neg y1, if_neg y23, if_neg y4, if_neg y5], h⟩
  · refine ⟨w, ?_, h⟩
    rw [if_neg hx, if_pos rfl, if_neg hx]
