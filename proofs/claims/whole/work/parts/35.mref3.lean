/-! ===== the reference: a state solved ===== -/
theorem ii_ne0 {n : Nat} (h : n ≠ 0) (hn : n < 2 ^ 31) : ¬ (nI n = (0 : Int32)) := fun e => h ((nI_eq (b := 0) hn (by decide)).mp e)
theorem mf_s148 {K : Int32 → Int32 → Int32 → Int32 → Int32 → mW → Option mW} {x2 x3 x5 t0 : Int32} {k t L : Nat} {w : mW} (ht : t < 32768) (h13 : w.2 13 t = nI L) : mf_solveState_C148 K x2 x3 x5 (nI k) (nI t) t0 w = K x2 x3 t0 (if nI L ≤ x5 then x5 else nI L) (nI (k + 1)) w := by
  unfold mf_solveState_C148
  rw [gi_i (ii_ix ht (by decide)), ii_cl (by omega), h13]
  by_cases h : nI L ≤ x5
  · rw [if_pos h, if_pos h]
    show K x2 x3 t0 x5 (nI k + (1 : Int32)) w = _
    rw [nI_1]
  · rw [if_neg h, if_neg h, gi_i (ii_ix ht (by decide))]
    show K x2 x3 t0 (nI L) (nI k + (1 : Int32)) w = _
    rw [nI_1]
theorem mf_s108 {K : Int32 → Int32 → Int32 → Int32 → Int32 → mW → Option mW} {x2 x4 x5 t0 : Int32} {k t L : Nat} {w : mW} (ht : t < 32768) (h13 : w.2 13 t = nI L) : mf_solveState_C108 K x2 x4 x5 (nI k) (nI t) t0 w = K x2 t0 (if w.2 12 t = 0 then (if x4 < 0 then nI L else if x4 ≤ nI L then x4 else nI L) else x4) (if nI L ≤ x5 then x5 else nI L) (nI (k + 1)) w := by
  unfold mf_solveState_C108 mf_solveState_C136 mf_solveState_C146
  rw [gi_i (ii_ix ht (by decide)), ii_cl (by omega), h13]
  by_cases h : w.2 12 t = 0
  · rw [if_pos h, if_pos h]
    by_cases h4 : x4 < 0
    · rw [if_pos h4, if_pos h4, gi_i (ii_ix ht (by decide)), mf_s148 ht h13]
    · rw [if_neg h4, if_neg h4, gi_i (ii_ix ht (by decide))]
      by_cases h5 : x4 ≤ nI L
      · rw [if_pos h5, if_pos h5, mf_s148 ht h13]
      · rw [if_neg h5, if_neg h5, gi_i (ii_ix ht (by decide)), mf_s148 ht h13]
  · rw [if_neg h, if_neg h, mf_s148 ht h13]
/-- what the reference's rows hold of a state -/
def Tab (w : mW) (k : Nat) (A : Nat → Nat) (W r t : Nat) : Prop := w.2 12 t = nI (if Lr k A W r t % 2 = r then 1 else 0) ∧ w.2 13 t = nI (Lr k A W r t) ∧ w.2 14 t = nI (Sol k A W t).1
def PrL (k : Nat) (A : Nat → Nat) (W s j t : Nat) : Prop := ∃ i, i < j ∧ Nth k A W s i t
/-- behind j bites: won, least, most, seen -/
def SI (w : mW) (k : Nat) (A : Nat → Nat) (W r s j : Nat) (x3 x4 x5 : Int32) : Prop :=
  ((x3 = 0 ∧ x4 = (-1) ∧ ∀ t, PrL k A W s j t → Lr k A W r t % 2 = r) ∨ (x3 = 1 ∧ ∃ m, m ≤ 49 ∧ x4 = nI m ∧ m % 2 ≠ r ∧ (∃ t, PrL k A W s j t ∧ Lr k A W r t = m) ∧ ∀ t, PrL k A W s j t → Lr k A W r t % 2 ≠ r → m ≤ Lr k A W r t))
  ∧ ((j = 0 ∧ x5 = (-1)) ∨ (∃ m, m ≤ 49 ∧ x5 = nI m ∧ (∃ t, PrL k A W s j t ∧ Lr k A W r t = m) ∧ ∀ t, PrL k A W s j t → Lr k A W r t ≤ m))
  ∧ ∀ v, v < 64 → (w.2 17 v = 1 ∧ ∃ t, PrL k A W s j t ∧ (Sol k A W t).1 = v) ∨ (w.2 17 v = 0 ∧ ∀ t, PrL k A W s j t → (Sol k A W t).1 ≠ v)
theorem Lr_le {k : Nat} {A : Nat → Nat} {W r t : Nat} (hA : Ok k A) (ht : t < 32768) (hv : Vs k t) : Lr k A W r t ≤ 49 := by
  have := Sol_le (M := W) hA ht hv
  unfold Lr
  split <;> omega
theorem PrL.s {k : Nat} {A : Nat → Nat} {W s j t u : Nat} (hj : Nth k A W s j t) : PrL k A W s (j + 1) u ↔ PrL k A W s j u ∨ u = t := by
  constructor
  · rintro ⟨i, hi, h⟩
    by_cases e : i = j
    · subst e; exact Or.inr (h.uniq hj)
    · exact Or.inl ⟨i, by omega, h⟩
  · rintro (⟨i, hi, h⟩ | rfl)
    · exact ⟨i, by omega, h⟩
    · exact ⟨j, by omega, hj⟩
theorem mf_sol_step {w : mW} {k W r s j n t : Nat} {A : Nat → Nat} {x3 x4 x5 : Int32} (hA : Ok k A) (hj : Nth k A W s j t) (hj49 : j < 49) (ht : t < 32768) (hv : Vs k t) (h2 : w.1 2 = nI (nb k W s)) (h16 : w.2 16 j = nI t) (hT : Tab w k A W r t) (hI : SI w k A W r s j x3 x4 x5) : ∃ x3' x4' x5', mf_solveState_C58 (n + 1) (nI s) x3 x4 x5 (nI j) w = mf_solveState_C58 n (nI s) x3' x4' x5' (nI (j + 1)) (mR w 17 (upd (w.2 17) (Sol k A W t).1 1)) ∧ SI (mR w 17 (upd (w.2 17) (Sol k A W t).1 1)) k A W r s (j + 1) x3' x4' x5' := by
  obtain ⟨T1, T2, T3⟩ := hT
  have hS := Sol_le (M := W) hA ht hv
  have hL := Lr_le (W := W) (r := r) hA ht hv
  have hnb := hj.lt
  have hnb49 : j < nb k W s := hnb
  obtain ⟨I1, I2, I3⟩ := hI
  generalize hw1 : mR w 17 (upd (w.2 17) (Sol k A W t).1 1) = w1
  have e12 : w1.2 12 = w.2 12 := by rw [← hw1]; exact mR_ne w _ (by decide)
  have e13 : w1.2 13 = w.2 13 := by rw [← hw1]; exact mR_ne w _ (by decide)
  have e17 : w1.2 17 = upd (w.2 17) (Sol k A W t).1 1 := by rw [← hw1]; exact mR_at w 17 _
  have hnb2 : nb k W s < 2 ^ 31 := by
    rcases Nat.lt_or_ge (nb k W s) (2 ^ 31) with q | q
    · exact q
    · exfalso
      have : nb k W s ≤ sq (ub s) ∨ nb k W s ≤ 15 := by
        unfold nb
        split
        · exact Or.inl (Nat.le_refl _)
        · exact Or.inr (cn_n _ 15)
      rcases this with h | h
      · have := sm_le (f := ub s) (g := fun _ => 7) 7 (fun r _ => gv_7 _ _)
        have : sm (fun _ => 7) 7 = 49 := rfl
        unfold sq at h
        omega
      · omega
  -- the new numbers
  generalize hx4 : (if w1.2 12 t = 0 then (if x4 < 0 then nI (Lr k A W r t) else if x4 ≤ nI (Lr k A W r t) then x4 else nI (Lr k A W r t)) else x4) = x4'
  generalize hx5 : (if nI (Lr k A W r t) ≤ x5 then x5 else nI (Lr k A W r t)) = x5'
  generalize hx3 : (if x3 = 0 then (if w1.2 12 t = 0 then (1 : Int32) else 0) else 1) = x3'
  refine ⟨x3', x4', x5', ?_, ?_, ?_, ?_⟩
  · rw [mf_solveState_C58, h2, if_neg (fun h => by
      have := (nI_leI hnb2 (by omega)).mp h
      omega), gi_i (ii_ix hj49 (by decide)), ii_cl (by omega), h16]
    show gi (nI t) 32768 (gi (w.2 14 (nI t).toNatClampNeg) 64 (nm (mU w 17 (w.2 14 (nI t).toNatClampNeg).toNatClampNeg (vp_nar .boolean (1 : Int32))) _)) = _
    rw [gi_i (ii_ix ht (by decide)), ii_cl (by omega), T3, gi_i (ii_ix (by omega) (by decide)), ii_cl (by omega), isB_vp (Or.inr rfl), mU_R, hw1]
    show (if x3 = 0 then (gi (nI t) 32768 (if w1.2 12 t = 0 then (mf_solveState_C103 (mf_solveState_C58 n) (nI s) x4 x5 (nI j) (nI t) w1) else (mf_solveState_C108 (mf_solveState_C58 n) (nI s) x4 x5 (nI j) (nI t) (0 : Int32) w1))) else (mf_solveState_C103 (mf_solveState_C58 n) (nI s) x4 x5 (nI j) (nI t) w1)) = _
    unfold mf_solveState_C103
    have h13 : w1.2 13 t = nI (Lr k A W r t) := by rw [e13]; exact T2
    rw [mf_s108 ht h13, mf_s108 ht h13, hx4, hx5, ← hx3, gi_i (ii_ix ht (by decide))]
    by_cases h3 : x3 = 0
    · rw [if_pos h3, if_pos h3]
      by_cases hw : w1.2 12 t = 0
      · rw [if_pos hw, if_pos hw]
      · rw [if_neg hw, if_neg hw]
    · rw [if_neg h3, if_neg h3]
  · -- won and least
    rw [e12, T1] at hx3 hx4
    by_cases hp : Lr k A W r t % 2 = r
    · rw [if_pos hp] at hx3 hx4
      rw [if_neg (show ¬ (nI 1 = (0 : Int32)) by decide)] at hx3 hx4
      subst hx4
      rcases I1 with ⟨a1, a2, a3⟩ | ⟨a1, m, a2, a3, a4, ⟨u, a5, a6⟩, a7⟩
      · left
        rw [if_pos a1] at hx3
        refine ⟨hx3.symm, a2, fun u hu => ?_⟩
        rcases (PrL.s hj).mp hu with h | rfl
        · exact a3 u h
        · exact hp
      · right
        rw [if_neg (by rw [a1]; decide)] at hx3
        refine ⟨hx3.symm, m, a2, a3, a4, ⟨u, (PrL.s hj).mpr (Or.inl a5), a6⟩, fun v hv1 hv2 => ?_⟩
        rcases (PrL.s hj).mp hv1 with h | rfl
        · exact a7 v h hv2
        · exact absurd hp hv2
    · rw [if_neg hp] at hx3 hx4
      rw [if_pos (show nI 0 = (0 : Int32) from rfl)] at hx3 hx4
      have h31 : x3' = 1 := by rw [← hx3]; split <;> rfl
      right
      refine ⟨h31, ?_⟩
      rcases I1 with ⟨a1, a2, a3⟩ | ⟨a1, m, a2, a3, a4, ⟨u, a5, a6⟩, a7⟩
      · rw [a2, if_pos (by decide)] at hx4
        refine ⟨_, hL, hx4.symm, hp, ⟨t, (PrL.s hj).mpr (Or.inr rfl), rfl⟩, fun v hv1 hv2 => ?_⟩
        rcases (PrL.s hj).mp hv1 with h | rfl
        · exact absurd (a3 v h) hv2
        · exact Nat.le_refl _
      · rw [a3, if_neg (nI_pos (by omega))] at hx4
        by_cases hm : m ≤ Lr k A W r t
        · rw [if_pos ((nI_leI (by omega) (by omega)).mpr hm)] at hx4
          refine ⟨m, a2, hx4.symm, a4, ⟨u, (PrL.s hj).mpr (Or.inl a5), a6⟩, fun v hv1 hv2 => ?_⟩
          rcases (PrL.s hj).mp hv1 with h | rfl
          · exact a7 v h hv2
          · exact hm
        · rw [if_neg (fun h => hm ((nI_leI (by omega) (by omega)).mp h))] at hx4
          refine ⟨_, hL, hx4.symm, hp, ⟨t, (PrL.s hj).mpr (Or.inr rfl), rfl⟩, fun v hv1 hv2 => ?_⟩
          rcases (PrL.s hj).mp hv1 with h | rfl
          · have := a7 v h hv2; omega
          · exact Nat.le_refl _
  · right
    rcases I2 with ⟨a1, a2⟩ | ⟨m, a1, a2, ⟨u, a3, a4⟩, a5⟩
    · rw [a2, if_neg (fun h => by
        rw [Int32.le_iff_toInt_le, nI_toInt (by omega)] at h
        have : (-1 : Int32).toInt = -1 := by decide
        omega)] at hx5
      refine ⟨_, hL, hx5.symm, ⟨t, (PrL.s hj).mpr (Or.inr rfl), rfl⟩, fun v hv1 => ?_⟩
      rcases (PrL.s hj).mp hv1 with ⟨i, hi, -⟩ | rfl
      · omega
      · exact Nat.le_refl _
    · rw [a2] at hx5
      by_cases hm : Lr k A W r t ≤ m
      · rw [if_pos ((nI_leI (by omega) (by omega)).mpr hm)] at hx5
        refine ⟨m, a1, hx5.symm, ⟨u, (PrL.s hj).mpr (Or.inl a3), a4⟩, fun v hv1 => ?_⟩
        rcases (PrL.s hj).mp hv1 with h | rfl
        · exact a5 v h
        · exact hm
      · rw [if_neg (fun h => hm ((nI_leI (by omega) (by omega)).mp h))] at hx5
        refine ⟨_, hL, hx5.symm, ⟨t, (PrL.s hj).mpr (Or.inr rfl), rfl⟩, fun v hv1 => ?_⟩
        rcases (PrL.s hj).mp hv1 with h | rfl
        · have := a5 v h; omega
        · exact Nat.le_refl _
  · intro v hv1
    rw [e17]
    by_cases e : v = (Sol k A W t).1
    · subst e
      left
      exact ⟨upd_at _ _ _, t, (PrL.s hj).mpr (Or.inr rfl), rfl⟩
    · rw [upd_ne _ _ e]
      rcases I3 v hv1 with ⟨a1, u, a2, a3⟩ | ⟨a1, a2⟩
      · left; exact ⟨a1, u, (PrL.s hj).mpr (Or.inl a2), a3⟩
      · right
        refine ⟨a1, fun u hu => ?_⟩
        rcases (PrL.s hj).mp hu with h | rfl
        · exact a2 u h
        · exact fun h => e h.symm
theorem nb_le49 (k W s : Nat) : nb k W s ≤ 49 := by
  unfold nb
  split
  · have := sm_le (f := ub s) (g := fun _ => 7) 7 (fun r _ => gv_7 _ _)
    exact this
  · have := cn_n (s &&& W) 15; omega
theorem PrL.all {k : Nat} {A : Nat → Nat} {W s t : Nat} : PrL k A W s (nb k W s) t ↔ Nx k A W s t := ⟨fun ⟨i, _, h⟩ => ⟨i, h⟩, fun ⟨i, h⟩ => ⟨i, h.lt, h⟩⟩
theorem mf_sol_loop {k W r s : Nat} {A : Nat → Nat} (hA : Ok k A) (hs : s < 32768) (hv : Vs k s) : ∀ (d j n : Nat) (w : mW) (x3 x4 x5 : Int32), d = nb k W s - j → j ≤ nb k W s → d < n → w.1 2 = nI (nb k W s) → (∀ i t, Nth k A W s i t → w.2 16 i = nI t) → (∀ t, Nx k A W s t → Tab w k A W r t) → SI w k A W r s j x3 x4 x5 → ∃ n' x3' x4' x5' f, mf_solveState_C58 n (nI s) x3 x4 x5 (nI j) w = mf_solveState_C58 (n' + 1) (nI s) x3' x4' x5' (nI (nb k W s)) (mR w 17 f) ∧ SI (mR w 17 f) k A W r s (nb k W s) x3' x4' x5'
  | d, j, 0, w, _, _, _, _, _, hn, _, _, _, _ => by omega
  | 0, j, n + 1, w, x3, x4, x5, hd, hj, hn, h2, h16, hT, hI => by
    have e : j = nb k W s := by omega
    subst e
    refine ⟨n, x3, x4, x5, w.2 17, ?_, ?_⟩
    · rw [mR_self]
    · rw [mR_self]; exact hI
  | d + 1, j, n + 1, w, x3, x4, x5, hd, hj, hn, h2, h16, hT, hI => by
    obtain ⟨t, ht⟩ := Nth.ex k A W (show j < nb k W s by omega)
    have h3 := ht.less hA hv
    have h49 := nb_le49 k W s
    obtain ⟨y3, y4, y5, e1, hI'⟩ := mf_sol_step (n := n) hA ht (by omega) (by omega) h3.2.1 h2 (h16 j t ht) (hT t ⟨j, ht⟩) hI
    obtain ⟨n', z3, z4, z5, f, e2, hI2⟩ := mf_sol_loop (W := W) (r := r) hA hs hv d (j + 1) n (mR w 17 (upd (w.2 17) (Sol k A W t).1 1)) y3 y4 y5 (by omega) (by omega) (by omega) h2 (fun i t h => by rw [mR_ne w _ (by decide)]; exact h16 i t h) (fun t h => by
      unfold Tab
      rw [mR_ne w _ (by decide), mR_ne w _ (by decide), mR_ne w _ (by decide)]
      exact hT t h) hI'
    rw [mR_R] at e2 hI2
    exact ⟨n', z3, z4, z5, f, e1.trans e2, hI2⟩
theorem mf_worth_loop {w : mW} {s m : Nat} (hs : s < 32768) (hm : m < 64) (h0 : w.2 17 m = 0) (h1 : ∀ v, v < m → w.2 17 v = 1) : ∀ (d v n : Nat), d = m - v → v ≤ m → d < n → mf_solveState_C222 n (nI s) (nI v) w = some (mR w 14 (upd (w.2 14) s (nI m)))
  | d, v, 0, _, _, hn => by omega
  | 0, v, n + 1, hd, hv, hn => by
    have e : v = m := by omega
    subst e
    rw [mf_solveState_C222, gi_i (ii_ix hm (by decide)), ii_cl (by omega), if_pos h0, gi_i (ii_ix hs (by decide)), ii_cl (by omega), mU_R]
    rfl
  | d + 1, v, n + 1, hd, hv, hn => by
    rw [mf_solveState_C222, gi_i (ii_ix (by omega) (by decide)), ii_cl (by omega), h1 v (by omega), if_neg (by decide)]
    show mf_solveState_C222 n (nI s) (nI v + (1 : Int32)) w = _
    rw [nI_1]
    exact mf_worth_loop hs hm h0 h1 d (v + 1) n (by omega) (by omega) (by omega)
/-- the three rows of a state are written -/
def mT (w : mW) (s : Nat) (a b c : Int32) : mW := mR (mR (mR w 12 (upd (w.2 12) s a)) 13 (upd (w.2 13) s b)) 14 (upd (w.2 14) s c)
theorem mf_sol_exit {w : mW} {k W r s n m L : Nat} {A : Nat → Nat} {x3 x4 x5 : Int32} (hs : s < 32768) (h2 : w.1 2 = nI (nb k W s)) (hB : x3 = 0 ∨ x3 = 1) (hL : (nb k W s = 0 ∧ L = 0) ∨ (nb k W s ≠ 0 ∧ (1 : Int32) + (if x3 = 0 then x5 else x4) = nI L)) (hm : m < 64) (h0 : w.2 17 m = 0) (h1 : ∀ v, v < m → w.2 17 v = 1) : mf_solveState_C58 (n + 1) (nI s) x3 x4 x5 (nI (nb k W s)) w = some (mT w s x3 (nI L) (nI m)) := by
  have h49 := nb_le49 k W s
  have fin : ∀ (w1 : mW) (L : Int32), w1.2 17 = w.2 17 → mf_solveState_C218 (nI s) (nI s) L w1 = some (mR (mR w1 13 (upd (w1.2 13) s L)) 14 (upd (w1.2 14) s (nI m))) := by
    intro w1 L hw
    unfold mf_solveState_C218
    rw [gi_i (ii_ix hs (by decide)), ii_cl (by omega), mU_R]
    have := mf_worth_loop (w := mR w1 13 (upd (w1.2 13) s L)) (s := s) (m := m) hs hm (by rw [mR_ne w1 _ (by decide), hw]; exact h0) (fun v hv => by rw [mR_ne w1 _ (by decide), hw]; exact h1 v hv) m 0 fu rfl (Nat.zero_le _) (fu_gt (by omega))
    rw [mR_ne w1 _ (by decide)] at this
    exact this
  have e17 : (mR w 12 (upd (w.2 12) s x3)).2 17 = w.2 17 := mR_ne w _ (by decide)
  have fin2 : ∀ L : Int32, mf_solveState_C218 (nI s) (nI s) L (mR w 12 (upd (w.2 12) s x3)) = some (mT w s x3 L (nI m)) := by
    intro L
    rw [fin _ L e17, mR_ne w (c := 12) (k := 13) _ (by decide), mR_ne w (c := 12) (k := 14) _ (by decide)]
    rfl
  rw [mf_solveState_C58, h2, if_pos ((nI_leI (by omega) (by omega)).mpr (Nat.le_refl _)), gi_i (ii_ix hs (by decide)), ii_cl (by omega), isB_vp hB, mU_R]
  show (if w.1 2 = 0 then mf_solveState_C218 (nI s) (nI s) (0 : Int32) (mR w 12 (upd (w.2 12) s x3)) else (if x3 = 0 then mf_solveState_C217 (nI s) (nI s) (1 : Int32) x5 (mR w 12 (upd (w.2 12) s x3)) else mf_solveState_C217 (nI s) (nI s) (1 : Int32) x4 (mR w 12 (upd (w.2 12) s x3)))) = _
  unfold mf_solveState_C217
  rw [h2]
  rcases hL with ⟨a1, rfl⟩ | ⟨a1, a2⟩
  · rw [a1, if_pos (show nI 0 = (0 : Int32) from rfl), fin2]; rfl
  · rw [if_neg (ii_ne0 a1 (by omega))]
    by_cases h3 : x3 = 0
    · rw [if_pos h3] at a2
      rw [if_pos h3, fin2, a2]
    · rw [if_neg h3] at a2
      rw [if_neg h3, fin2, a2]
theorem Lr_lenP {k : Nat} {A : Nat → Nat} {W r s : Nat} (hA : Ok k A) (hr : r < 2) (hs : s < 32768) (hv : Vs k s) {m : Nat} (h : Len r (fun x => ∃ t, PrL k A W s (nb k W s) t ∧ Lr k A W r t = x) m) : Lr k A W r s = m :=
  (Lr_rt hA hr hs hv).uniq (h.congr (fun x => ⟨fun ⟨t, a, b⟩ => ⟨t, PrL.all.mp a, b⟩, fun ⟨t, a, b⟩ => ⟨t, PrL.all.mpr a, b⟩⟩))
theorem mf_sol_clear {s g : Nat} : ∀ (d v n : Nat) (w : mW), d = 64 - v → v ≤ 64 → d < n → (∀ q, q < v → w.2 17 q = 0) → ∃ f n', mf_solveState_C8 n (nI g) (nI s) (nI v) w = mf_solveState_C8 (n' + 1) (nI g) (nI s) (nI 64) (mR w 17 f) ∧ ∀ q, q < 64 → f q = 0
  | d, v, 0, w, _, _, hn, _ => by omega
  | 0, v, n + 1, w, hd, hv, hn, h0 => by
    have e : v = 64 := by omega
    subst e
    exact ⟨w.2 17, n, by rw [mR_self], h0⟩
  | d + 1, v, n + 1, w, hd, hv, hn, h0 => by
    obtain ⟨f, n', e, hf⟩ := mf_sol_clear (s := s) (g := g) d (v + 1) n (mR w 17 (upd (w.2 17) v 0)) (by omega) (by omega) (by omega) (fun q hq => by
      rw [mR_at]
      by_cases h : q = v
      · subst h; exact upd_at _ _ _
      · rw [upd_ne _ _ h]; exact h0 q (by omega))
    rw [mR_R] at e
    refine ⟨f, n', ?_, hf⟩
    rw [← e, mf_solveState_C8, if_neg (fun h => by
      have := (nI_leI (a := 64) (b := v) (by decide) (by omega)).mp h
      omega), gi_i (ii_ix (by omega) (by decide)), ii_cl (by omega), isB_vp (Or.inl rfl), mU_R]
    show mf_solveState_C8 n (nI g) (nI s) (nI v + (1 : Int32)) _ = _
    rw [nI_1]
def Off (w w' : mW) (s : Nat) : Prop := w'.1 0 = w.1 0 ∧ w'.1 1 = w.1 1 ∧ (∀ c, c < 12 → w'.2 c = w.2 c) ∧ ∀ t, t ≠ s → w'.2 12 t = w.2 12 t ∧ w'.2 13 t = w.2 13 t ∧ w'.2 14 t = w.2 14 t
theorem mT_off {w0 w : mW} {s : Nat} {a b c : Int32} (h : Sc w0 w) : Off w0 (mT w s a b c) s := by
  refine ⟨h.1, h.2.1, fun c hc => ?_, fun t ht => ?_⟩
  · unfold mT
    rw [mR_ne _ _ (by omega), mR_ne _ _ (by omega), mR_ne _ _ (by omega)]
    exact h.2.2 c (by omega)
  · unfold mT
    refine ⟨?_, ?_, ?_⟩
    · rw [mR_ne _ (c := 14) _ (by decide), mR_ne _ (c := 13) _ (by decide), mR_at, upd_ne _ _ ht, h.2.2 12 (by decide)]
    · rw [mR_ne _ (c := 14) _ (by decide), mR_at, upd_ne _ _ ht, h.2.2 13 (by decide)]
    · rw [mR_at, upd_ne _ _ ht, h.2.2 14 (by decide)]
theorem mf_solveState_eq {w : mW} {g k W r s : Nat} {A : Nat → Nat} (hg : g < 6) (hM : MD w g k A W) (hr : r < 2) (h2r : w.2 2 g = nI r) (hA : Ok k A) (hs : s < 32768) (hv : Vs k s) (hT : ∀ t, Nx k A W s t → Tab w k A W r t) : ∃ w', mf_solveState (nI g) (nI s) w = some w' ∧ Off w w' s ∧ Tab w' k A W r s := by
  obtain ⟨w1, a1, a2, a3, a4⟩ := mf_findNext_eq hg hM hs hv
  obtain ⟨f, n0, b1, b2⟩ := mf_sol_clear (s := s) (g := g) 64 0 fu w1 rfl (by omega) (fu_gt (by decide)) (fun q hq => by omega)
  have hSc2 : Sc w (mR w1 17 f) := a2.tr (Sc.R (by decide))
  have e1 : mf_solveState (nI g) (nI s) w = mf_solveState_C8 (n0 + 1) (nI g) (nI s) (nI 64) (mR w1 17 f) := by
    unfold mf_solveState
    rw [bn_i a1]; exact b1
  have h49 := nb_le49 k W s
  have hS := Sol_le (M := W) hA hs hv
  obtain ⟨R1, -, -⟩ := Sol_rt (M := W) hA s hs hv
  have e2 : mf_solveState_C8 (n0 + 1) (nI g) (nI s) (nI 64) (mR w1 17 f) = mf_solveState_C58 fu (nI s) (if nb k W s = 0 ∧ r = 0 then 1 else 0) (-1) (-1) (nI 0) (mR w1 17 f) := by
    rw [mf_solveState_C8, if_pos (show (64 : Int32) ≤ nI 64 from (nI_leI (a := 64) (by decide) (by decide)).mpr (Nat.le_refl 64))]
    show (if w1.1 2 = 0 then _ else _) = _
    rw [a3]
    unfold mf_solveState_C47
    by_cases h0 : nb k W s = 0
    · rw [h0, if_pos (show nI 0 = (0 : Int32) from rfl), gi_i (ii_ix hg (by decide)), ii_cl (by omega), mR_ne w1 _ (by decide), a2.2.2 2 (by decide), h2r]
      by_cases h1 : r = 0
      · subst h1; rw [if_pos (show nI 0 = (0 : Int32) from rfl), if_pos ⟨rfl, rfl⟩]; rfl
      · rw [if_neg (ii_ne0 h1 (by omega)), if_neg (fun h => h1 h.2)]; rfl
    · rw [if_neg (ii_ne0 h0 (by omega)), if_neg (fun h => h0 h.1)]; rfl
  have h17 : ∀ q, q < 64 → (mR w1 17 f).2 17 q = 0 := fun q hq => by rw [mR_at]; exact b2 q hq
  by_cases h0 : nb k W s = 0
  · have none : ∀ x, ¬ ∃ t, PrL k A W s (nb k W s) t ∧ Lr k A W r t = x := fun x ⟨t, ⟨i, hi, _⟩, _⟩ => by omega
    have hL0 : Lr k A W r s = 0 := Lr_lenP hA hr hs hv (Or.inl ⟨none, rfl⟩)
    have hW0 : (Sol k A W s).1 = 0 := R1.uniq ⟨fun ⟨t, ⟨i, hi⟩, _⟩ => by have := hi.lt; omega, fun j hj => by omega⟩
    have e3 := mf_sol_exit (w := mR w1 17 f) (k := k) (W := W) (r := r) (A := A) (n := 39999) (m := 0) (L := 0) (x3 := if nb k W s = 0 ∧ r = 0 then 1 else 0) (x4 := -1) (x5 := -1) hs a3 (by split <;> simp) (Or.inl ⟨h0, rfl⟩) (by decide) (h17 0 (by decide)) (fun v hv => by omega)
    refine ⟨mT (mR w1 17 f) s (if nb k W s = 0 ∧ r = 0 then 1 else 0) (nI 0) (nI 0), e1.trans (e2.trans ?_), mT_off hSc2, ?_⟩
    · rw [h0] at e3 ⊢
      exact e3
    · unfold Tab mT
      rw [mR_ne _ (c := 14) _ (by decide), mR_ne _ (c := 13) _ (by decide), mR_at, upd_at, mR_ne _ (c := 14) _ (by decide), mR_at, upd_at, mR_at, upd_at, hL0, hW0, h0]
      refine ⟨?_, rfl, rfl⟩
      by_cases h1 : r = 0
      · subst h1; rfl
      · rw [if_neg (fun h => h1 h.2), if_neg (by omega)]; rfl
  · rw [if_neg (fun h => h0 h.1)] at e2
    obtain ⟨n', x3, x4, x5, f2, e3, hI⟩ := mf_sol_loop (W := W) (r := r) (A := A) hA hs hv (nb k W s) 0 fu (mR w1 17 f) 0 (-1) (-1) rfl (Nat.zero_le _) (fu_gt (by omega)) a3 (fun i t h => by rw [mR_ne w1 _ (by decide)]; exact a4 i t h) (fun t h => by
      have := hT t h
      unfold Tab at this ⊢
      rw [hSc2.2.2 12 (by decide), hSc2.2.2 13 (by decide), hSc2.2.2 14 (by decide)]
      exact this) ⟨Or.inl ⟨rfl, rfl, fun t ⟨i, hi, _⟩ => by omega⟩, Or.inl ⟨rfl, rfl⟩, fun v hv => Or.inr ⟨h17 v hv, fun t ⟨i, hi, _⟩ => by omega⟩⟩
    rw [mR_R] at e3 hI
    obtain ⟨I1, I2, I3⟩ := hI
    have hSc3 : Sc w (mR w1 17 f2) := a2.tr (Sc.R (by decide))
    -- the worth
    have hw0 : (mR w1 17 f2).2 17 (Sol k A W s).1 = 0 := by
      rcases I3 _ (show (Sol k A W s).1 < 64 by omega) with ⟨-, t, h1, h2⟩ | ⟨h1, -⟩
      · exact absurd ⟨t, PrL.all.mp h1, h2⟩ R1.1
      · exact h1
    have hw1 : ∀ v, v < (Sol k A W s).1 → (mR w1 17 f2).2 17 v = 1 := fun v hv => by
      rcases I3 v (by omega) with ⟨h1, -⟩ | ⟨-, h2⟩
      · exact h1
      · obtain ⟨t, h3, h4⟩ := R1.2 v hv
        exact absurd h4 (h2 t (PrL.all.mpr h3))
    obtain ⟨t0, ht0⟩ := Nth.ex k A W (show 0 < nb k W s by omega)
    have key : (x3 = 0 ∨ x3 = 1) ∧ (1 : Int32) + (if x3 = 0 then x5 else x4) = nI (Lr k A W r s) ∧ x3 = nI (if Lr k A W r s % 2 = r then 1 else 0) := by
      rcases I1 with ⟨c1, c2, c3⟩ | ⟨c1, m, c2, c3, c4, ⟨u, c5, c6⟩, c7⟩
      · rcases I2 with ⟨d1, -⟩ | ⟨m, d1, d2, ⟨u, d3, d4⟩, d5⟩
        · exact absurd d1 h0
        · have hL : Lr k A W r s = m + 1 := Lr_lenP hA hr hs hv (Or.inr (Or.inr ⟨fun x ⟨t, p, q⟩ => q ▸ c3 t p, m, ⟨u, d3, d4⟩, fun x ⟨t, p, q⟩ => q ▸ d5 t p, rfl⟩))
          have := c3 u d3
          refine ⟨Or.inl c1, ?_, ?_⟩
          · rw [if_pos c1, d2, hL, show (1 : Int32) = nI 1 from rfl, nI_add, Nat.add_comm]
          · rw [hL, if_neg (by omega)]; exact c1
      · have hL : Lr k A W r s = m + 1 := Lr_lenP hA hr hs hv (Or.inr (Or.inl ⟨m, ⟨u, c5, c6⟩, c4, fun x ⟨t, p, q⟩ hx => by
          rw [← q]; rw [← q] at hx; exact c7 t p hx, rfl⟩))
        refine ⟨Or.inr c1, ?_, ?_⟩
        · rw [if_neg (by rw [c1]; decide), c3, hL, show (1 : Int32) = nI 1 from rfl, nI_add, Nat.add_comm]
        · rw [hL, if_pos (by omega)]; exact c1
    have e4 := mf_sol_exit (w := mR w1 17 f2) (k := k) (W := W) (r := r) (A := A) (n := n') (m := (Sol k A W s).1) (L := Lr k A W r s) (x3 := x3) (x4 := x4) (x5 := x5) hs a3 key.1 (Or.inr ⟨h0, key.2.1⟩) (by omega) hw0 hw1
    refine ⟨mT (mR w1 17 f2) s x3 (nI (Lr k A W r s)) (nI (Sol k A W s).1), e1.trans (e2.trans (e3.trans e4)), mT_off hSc3, ?_⟩
    unfold Tab mT
    rw [mR_ne _ (c := 14) _ (by decide), mR_ne _ (c := 13) _ (by decide), mR_at, upd_at, mR_ne _ (c := 14) _ (by decide), mR_at, upd_at, mR_at, upd_at]
    exact ⟨key.2.2, rfl, rfl⟩
