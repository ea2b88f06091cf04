/-! ===== the reference: all boards ===== -/
theorem MI.co {n : Nat} {G : Nat → AG} {w w' : mW} (h : MI n G w) (hc : Co w w') (h1 : w'.1 1 = (-1)) : MI n G w' := by
  obtain ⟨a1, a2, a3, a4⟩ := h
  exact ⟨a1, hc.1.trans a2, fun g hg => ⟨(a3 g hg).1, (a3 g hg).2.co hc⟩, Or.inl h1⟩
def P2 : Nat → Nat := fun q => 2 ^ q
/-- a board of at most h rows, none above v -/
def inB (h v s : Nat) : Bool := decide (ub s 0 ≤ v ∧ (h = 7 ∨ ub s h = 0))
noncomputable def bw (s : Nat) : Nat := (Sol 0 P2 3431 s).1
noncomputable def bl (s : Nat) : Nat := Lr 0 P2 3431 0 s
def bM (h v : Nat) : Nat → Nat
  | 0 => 0
  | n + 1 => bM h v n + (if inB h v n = true then 1 else 0)
noncomputable def bL (h v : Nat) : Nat → Nat
  | 0 => 0
  | n + 1 => bL h v n + (if inB h v n = true ∧ bl n % 2 ≠ 0 then 1 else 0)
noncomputable def bX (h v : Nat) : Nat → Nat
  | 0 => 0
  | n + 1 => if inB h v n = true then (if bw n ≤ bX h v n then bX h v n else bw n) else bX h v n
noncomputable def a_boards (n : Nat) (G : Nat → AG) (x y z : Int32) : AR := (if rng 0 7 x = true ∧ rng 0 7 y = true ∧ rng 0 2 z = true then (if z = 0 then nI (bM (ixN x) (ixN y) 3432) else if z = 1 then nI (bL (ixN x) (ixN y) 3432) else nI (bX (ixN x) (ixN y) 3432)) else -1002, n, G)
theorem bM_le (h v : Nat) : ∀ n, bM h v n ≤ n
  | 0 => Nat.le_refl _
  | n + 1 => by
    have := bM_le h v n
    show bM h v n + (if inB h v n = true then 1 else 0) ≤ n + 1
    split <;> omega
theorem bL_le (h v : Nat) : ∀ n, bL h v n ≤ n
  | 0 => Nat.le_refl _
  | n + 1 => by
    have := bL_le h v n
    show bL h v n + (if inB h v n = true ∧ bl n % 2 ≠ 0 then 1 else 0) ≤ n + 1
    split <;> omega
theorem ok0 (A : Nat → Nat) : Ok 0 A := fun h => absurd rfl h
theorem bw_le {s : Nat} (hs : s < 3432) : bw s ≤ 49 := (Sol_le (M := 3431) (ok0 P2) (show s < 32768 by omega) (fun _ => hs)).1
theorem bX_le (h v : Nat) : ∀ n, n ≤ 3432 → bX h v n ≤ 49
  | 0, _ => Nat.zero_le _
  | n + 1, hn => by
    have h1 := bX_le h v n (by omega)
    have h2 := bw_le (show n < 3432 by omega)
    show (if inB h v n = true then (if bw n ≤ bX h v n then bX h v n else bw n) else bX h v n) ≤ 49
    split
    · split <;> omega
    · exact h1
theorem mf_boards_loop {h v : Nat} {z : Int32} (hh : h ≤ 7) (hv : v ≤ 7) : ∀ (d s k : Nat) (w : mW), d = 3432 - s → s ≤ 3432 → d < k → MSol w 0 P2 3431 0 → ∃ w', mf_boards_C113 k (nI h) (nI v) z (nI (bM h v s)) (nI (bL h v s)) (nI (bX h v s)) (nI s) w = some ((if z = 0 then nI (bM h v 3432) else if z = 1 then nI (bL h v 3432) else nI (bX h v 3432)), w') ∧ Sc w w'
  | d, s, 0, w, hd, hs, hk, _ => by omega
  | 0, s, k + 1, w, hd, hs, hk, hT => by
    have e : s = 3432 := by omega
    subst e
    refine ⟨w, ?_, Sc.rf w⟩
    rw [mf_boards_C113, if_pos (show (3432 : Int32) ≤ nI 3432 from (nI_leI (a := 3432) (by decide) (by decide)).mpr (Nat.le_refl _))]
    by_cases h0 : z = 0
    · rw [if_pos h0, if_pos h0]
    · rw [if_neg h0, if_neg h0]
      by_cases h1 : z = 1
      · rw [if_pos h1, if_pos h1]
      · rw [if_neg h1, if_neg h1]
  | d + 1, s, k + 1, w, hd, hs, hk, hT => by
    obtain ⟨f, f1, f2⟩ := mf_unrank_eq (show s < 3432 by omega) w
    have hSc : Sc w (mR w 15 f) := Sc.R (by decide)
    have hT1 := hT.sc hSc
    obtain ⟨T1, T2, T3⟩ := hT1 s (by omega)
    obtain ⟨w', g1, g2⟩ := mf_boards_loop (z := z) hh hv d (s + 1) k (mR w 15 f) (by omega) (by omega) (by omega) hT1
    have hM : bM h v (s + 1) = bM h v s + (if inB h v s = true then 1 else 0) := rfl
    have hL : bL h v (s + 1) = bL h v s + (if inB h v s = true ∧ bl s % 2 ≠ 0 then 1 else 0) := rfl
    have hX : bX h v (s + 1) = if inB h v s = true then (if bw s ≤ bX h v s then bX h v s else bw s) else bX h v s := rfl
    have bm := bM_le h v s
    have bl1 := bL_le h v s
    have bx := bX_le h v s (by omega)
    have bws := bw_le (show s < 3432 by omega)
    have u0 : ub s 0 ≤ 7 := gv_7 _ _
    have uh : ub s h ≤ 7 := gv_7 _ _
    refine ⟨w', ?_, hSc.tr g2⟩
    rw [mf_boards_C113, if_neg (fun q => by
      have := (nI_leI (a := 3432) (b := s) (by decide) (by omega)).mp q
      omega), bn_i f1]
    show (gi (nI 0) 7 _) = _
    rw [gi_i (ii_ix (show 0 < 7 by decide) (by decide)), show ((0 : Int32).toNatClampNeg) = 0 from rfl, mR_at, f2 0 (by decide)]
    -- in
    have yes : inB h v s = true → mf_boards_C152 (mf_boards_C113 k) (nI h) (nI v) z (nI (bM h v s)) (nI (bL h v s)) (nI (bX h v s)) (nI s) (mR w 15 f) = mf_boards_C113 k (nI h) (nI v) z (nI (bM h v (s + 1))) (nI (bL h v (s + 1))) (nI (bX h v (s + 1))) (nI (s + 1)) (mR w 15 f) := by
      intro hb
      rw [if_pos hb] at hM hX
      have fin : ∀ t : Nat, bL h v s + t = bL h v (s + 1) → mf_boards_C172 (mf_boards_C113 k) (nI h) (nI v) z (nI (bM h v (s + 1))) (nI (bX h v s)) (nI s) (nI (bL h v s)) (nI t) (mR w 15 f) = mf_boards_C113 k (nI h) (nI v) z (nI (bM h v (s + 1))) (nI (bL h v (s + 1))) (nI (bX h v (s + 1))) (nI (s + 1)) (mR w 15 f) := by
        intro t ht
        unfold mf_boards_C172
        rw [nI_add, ht, nm_i, gi_i (ii_ix (show s < 32768 by omega) (by decide)), ii_cl (by omega), T3]
        show (if nI (bw s) ≤ nI (bX h v s) then _ else _) = _
        by_cases e : bw s ≤ bX h v s
        · rw [if_pos e] at hX
          rw [if_pos ((nI_leI (by omega) (by omega)).mpr e), nm_i, nI_1, hX]
        · rw [if_neg e] at hX
          rw [if_neg (fun q => e ((nI_leI (by omega) (by omega)).mp q)), gi_i (ii_ix (show s < 32768 by omega) (by decide)), nm_i, nm_i, nI_1, hX]
          rfl
      unfold mf_boards_C152
      rw [nI_1, ← hM, nm_i, gi_i (ii_ix (show s < 32768 by omega) (by decide)), ii_cl (by omega), T1]
      by_cases e : Lr 0 P2 3431 0 s % 2 = 0
      · rw [if_pos e, if_neg (show ¬ (nI 1 = (0 : Int32)) by decide)]
        exact fin 0 (by rw [hL, if_neg (fun q => q.2 e)])
      · rw [if_neg e, if_pos (show nI 0 = (0 : Int32) from rfl)]
        exact fin 1 (by rw [hL, if_pos ⟨hb, e⟩])
    have no : inB h v s = false → mf_boards_C113 k (nI h) (nI v) z (nI (bM h v s)) (nI (bL h v s)) (nI (bX h v s)) (nI (s + 1)) (mR w 15 f) = mf_boards_C113 k (nI h) (nI v) z (nI (bM h v (s + 1))) (nI (bL h v (s + 1))) (nI (bX h v (s + 1))) (nI (s + 1)) (mR w 15 f) := by
      intro hb
      rw [hM, hL, hX, hb, if_neg (by decide), if_neg (fun q => by cases q.1), if_neg (by decide)]
      rfl
    rw [← g1]
    by_cases e : v < ub s 0
    · rw [if_pos ((nI_ltI (by omega) (by omega)).mpr e), nm_i, nI_1]
      exact no (decide_eq_false (by omega))
    · rw [if_neg (fun q => e ((nI_ltI (by omega) (by omega)).mp q))]
      by_cases e7 : h = 7
      · rw [if_pos (show nI h = (7 : Int32) by rw [e7]; rfl)]
        exact yes (decide_eq_true ⟨by omega, Or.inl e7⟩)
      · rw [if_neg (show ¬ (nI h = (7 : Int32)) from ii_ne (m := 7) e7 (by omega) (by decide)), gi_i (ii_ix (show h < 7 by omega) (by decide)), ii_cl (by omega), f2 h (by omega)]
        by_cases eh : ub s h = 0
        · rw [if_pos (show nI (ub s h) = (0 : Int32) by rw [eh]; rfl)]
          exact yes (decide_eq_true ⟨by omega, Or.inr eh⟩)
        · rw [if_neg (ii_ne0 eh (by omega)), nm_i, nI_1]
          exact no (decide_eq_false (by omega))
theorem MI.boards {n : Nat} {G : Nat → AG} {w : mW} (h : MI n G w) (x y z : Int32) : ∃ w', mf_boards x y z w = some ((a_boards n G x y z).1, w') ∧ MI (a_boards n G x y z).2.1 (a_boards n G x y z).2.2 w' := by
  unfold a_boards mf_boards
  rw [bn_i (mf_rng 0 7 (by decide) (by decide) x 0 7 (by decide) (by decide))]
  by_cases hx : rng 0 7 x = true
  · rw [if_pos hx, if_neg (by decide), bn_i (mf_rng 0 7 (by decide) (by decide) y 0 7 (by decide) (by decide))]
    by_cases hy : rng 0 7 y = true
    · rw [if_pos hy, if_neg (by decide), bn_i (mf_rng 0 2 (by decide) (by decide) z 0 2 (by decide) (by decide))]
      by_cases hz : rng 0 2 z = true
      · obtain ⟨a, x1, x2, x3, x4⟩ := rng_t hx
        obtain ⟨b, y1, y2, y3, y4⟩ := rng_t hy
        have i5 : vp_in (5 : Int32) 6 := ii_ix (show 5 < 6 by decide) (by decide)
        have n5 : (5 : Int32).toNatClampNeg = 5 := rfl
        rw [if_pos hz, if_neg (by decide), gi_i i5, nm_i, gi_i i5, nm_i, gi_i i5, nm_i, gi_i i5, nm_i, nm_i, n5, if_pos (⟨hx, hy, hz⟩ : rng 0 7 x = true ∧ rng 0 7 y = true ∧ rng 0 2 z = true), x4, y4]
        generalize e1 : mS (mU (mU w 1 5 (0 : Int32)) 2 5 (0 : Int32)) 1 (-1 : Int32) = w1
        have hM : MD w1 5 0 P2 3431 := by
          refine ⟨?_, Or.inl ⟨rfl, rfl⟩⟩
          rw [← e1]
          show (mU (mU w 1 5 (0 : Int32)) 2 5 (0 : Int32)).2 1 5 = _
          rw [mU_ne _ _ (by decide), mU_at]; rfl
        have h25 : w1.2 2 5 = nI 0 := by
          rw [← e1]
          show (mU (mU w 1 5 (0 : Int32)) 2 5 (0 : Int32)).2 2 5 = _
          rw [mU_at]; rfl
        obtain ⟨w2, a1, a2, a3, a4⟩ := mf_solve_eq (g := 5) (r := 0) (by decide) hM (by decide) h25 (ok0 P2) (fun q => by
          have : w1.1 1 = (-1) := by rw [← e1]; rfl
          exact absurd (q.symm.trans this) (nIm1 (by decide)))
        have a1' : mf_solve (5 : Int32) w1 = some w2 := a1
        rw [bn_i a1', gi_i i5, nm_i, gi_i i5, nm_i, nm_i]
        generalize e3 : mS (mU (mU w2 1 5 (w.2 1 5)) 2 5 (w.2 2 5)) 1 (-1 : Int32) = w3
        have hc1 : ∀ c, c ≠ 1 → c ≠ 2 → w1.2 c = w.2 c := fun c p q => by
          rw [← e1]
          show (mU (mU w 1 5 (0 : Int32)) 2 5 (0 : Int32)).2 c = _
          rw [mU_ne _ _ q, mU_ne _ _ p]
        have hc3 : ∀ c, c ≠ 1 → c ≠ 2 → w3.2 c = w2.2 c := fun c p q => by
          rw [← e3]
          show (mU (mU w2 1 5 (w.2 1 5)) 2 5 (w.2 2 5)).2 c = _
          rw [mU_ne _ _ q, mU_ne _ _ p]
        have r1 : w3.2 1 = w.2 1 := by
          rw [← e3]
          show (mU (mU w2 1 5 (w.2 1 5)) 2 5 (w.2 2 5)).2 1 = _
          rw [mU_ne _ _ (by decide), mU_R, mR_at]
          funext j
          by_cases q : j = 5
          · subst q; exact upd_at _ _ _
          · rw [upd_ne _ _ q, a2.2 1 (by decide), ← e1]
            show (mU (mU w 1 5 (0 : Int32)) 2 5 (0 : Int32)).2 1 j = _
            rw [mU_ne _ _ (by decide), mU_ni _ _ q]
        have r2 : w3.2 2 = w.2 2 := by
          rw [← e3]
          show (mU (mU w2 1 5 (w.2 1 5)) 2 5 (w.2 2 5)).2 2 = _
          rw [mU_R, mR_at, mU_ne _ _ (by decide)]
          funext j
          by_cases q : j = 5
          · subst q; exact upd_at _ _ _
          · rw [upd_ne _ _ q, a2.2 2 (by decide), ← e1]
            show (mU (mU w 1 5 (0 : Int32)) 2 5 (0 : Int32)).2 2 j = _
            rw [mU_ni _ _ q, mU_ne _ _ (by decide)]
        have hco : Co w w3 := by
          refine ⟨?_, fun c hc => ?_⟩
          · rw [← e3]
            show w2.1 0 = _
            rw [a2.1, ← e1]; rfl
          · by_cases q1 : c = 1
            · rw [q1]; exact r1
            · by_cases q2 : c = 2
              · rw [q2]; exact r2
              · rw [hc3 c q1 q2, a2.2 c hc, hc1 c q1 q2]
        have hI := h.co hco (by rw [← e3]; rfl)
        have hT : MSol w3 0 P2 3431 0 := a4.tab (hc3 12 (by decide) (by decide)) (hc3 13 (by decide) (by decide)) (hc3 14 (by decide) (by decide))
        obtain ⟨w4, g1, g2⟩ := mf_boards_loop (z := z) x2 y2 3432 0 fu w3 rfl (Nat.zero_le _) (fu_gt (by decide)) hT
        refine ⟨w4, ?_, hI.sc g2⟩
        rw [x3, y3]
        exact g1
      · refine ⟨w, ?_, h⟩
        rw [if_neg hz, if_pos rfl, if_neg (fun q => hz q.2.2)]
    · refine ⟨w, ?_, h⟩
      rw [if_neg hy, if_pos rfl, if_neg (fun q => hy q.2.1)]
  · refine ⟨w, ?_, h⟩
    rw [if_neg hx, if_pos rfl, if_neg (fun q => hx q.1)]
/-! ===== the reference: a bite told ===== -/
/-- the row of a place, the part of a place -/
def rowI (f : Nat → Nat) (i : Nat) : Nat → Nat
  | 0 => 0
  | n + 1 => if sm f (n + 1) ≤ i then n + 1 else rowI f i n
theorem rowI_eq {f : Nat → Nat} {r c : Nat} (hc : c < f r) : ∀ n, r ≤ n → rowI f (sm f r + c) n = r
  | 0, h => by have : r = 0 := by omega
               subst this; rfl
  | n + 1, h => by
    unfold rowI
    rcases Nat.lt_or_ge r (n + 1) with q | q
    · have h1 := sm_ix q hc
      rw [if_neg (by omega)]
      exact rowI_eq hc n (by omega)
    · have : r = n + 1 := by omega
      subst this
      rw [if_pos (by omega)]
def prtI (s i : Nat) : Nat := ff (fun q => s.testBit q && decide (cn s q = i)) 15
theorem prtI_eq {s q : Nat} (hq : q < 15) (hb : s.testBit q = true) : prtI s (cn s q) = q := by
  refine ff_eq (by rw [hb, decide_eq_true rfl]; rfl) (fun j hj => ?_) 15 hq
  cases hj2 : s.testBit j
  · rfl
  · have := cn_step hj2 hj
    rw [decide_eq_false (by omega)]; rfl
def plc (x : AG) (i : Nat) : Nat := if gk x = 0 then rowI (ub (gs x)) i 6 else if gk x = 1 then prtI (gs x) i else if 6 ≤ prtI (gs x) i then prtI (gs x) i + 4 else prtI (gs x) i
def siz (x : AG) (i : Nat) : Nat := if gk x = 0 then i - sm (ub (gs x)) (rowI (ub (gs x)) i 6) else cn (gs x &&& gA x (prtI (gs x) i)) 15
noncomputable def a_bite (n : Nat) (G : Nat → AG) (x y z : Int32) : AR := (if isG n x = true then (if rng 0 2 z = true then (if isG (gn (G (ixN x))) y = true then (if z = 2 then (if wn (G (ixN x)) (ixN y) = true then 1 else 0) else if z = 0 then nI (plc (G (ixN x)) (ixN y)) else nI (siz (G (ixN x)) (ixN y))) else -1) else -1002) else -1001, n, G)
theorem mf_biteAt_rows {b : Nat → Nat} {z : Int32} {r0 c0 : Nat} (hF : Fall b) (hr : r0 < 7) (hc : c0 < b r0) : ∀ (d r k : Nat) (w : mW), d = r0 - r → r ≤ r0 → d < k → (∀ q, q < 7 → w.2 15 q = nI (b q)) → mf_biteAt_C25 k z (nI (sm b r0 + c0 - sm b r)) (nI r) w = (if z = 0 then some (nI r0, w) else some (nI c0, w))
  | d, r, 0, w, hd, h1, hk, _ => by omega
  | 0, r, k + 1, w, hd, h1, hk, h15 => by
    have e : r = r0 := by omega
    subst e
    have h7 := Fall.le hF r hr
    rw [mf_biteAt_C25, gi_i (ii_ix hr (by decide)), ii_cl (by omega), h15 r hr, Nat.add_sub_cancel_left, if_pos ((nI_ltI (by omega) (by omega)).mpr hc)]
  | d + 1, r, k + 1, w, hd, h1, hk, h15 => by
    have h7 := Fall.le hF r (by omega)
    have hs : sm b (r + 1) = sm b r + b r := rfl
    have hm := sm_mono b r0 (show r + 1 ≤ r0 by omega)
    have h49 := sq_le hF
    have hix := sm_ix hr hc
    unfold sq at h49
    rw [mf_biteAt_C25, gi_i (ii_ix (show r < 7 by omega) (by decide)), ii_cl (by omega), h15 r (by omega), if_neg (fun q => by
      have := (nI_ltI (by omega) (by omega)).mp q
      omega), gi_i (ii_ix (show r < 7 by omega) (by decide)), ii_sub (by omega), nm_i, nI_1, nm_i]
    have ih := mf_biteAt_rows (z := z) hF hr hc d (r + 1) k w (by omega) (by omega) (by omega) h15
    rw [show sm b r0 + c0 - sm b r - b r = sm b r0 + c0 - sm b (r + 1) by omega]
    exact ih
theorem mf_biteAt_parts {w : mW} {g s q0 i : Nat} {y z : Int32} (hg : g < 6) (h3 : w.2 3 g = nI s) (hs : s < 32768) (hq : q0 < 15) (hb : s.testBit q0 = true) (hi : cn s q0 = i) : ∀ (d q k : Nat), d = q0 - q → q ≤ q0 → d < k → ∃ k', mf_biteAt_C80 k (nI g) y z (nI i) (nI q) (nI (cn s (q + 1))) w = mf_biteAt_C80 (k' + 1) (nI g) y z (nI i) (nI q0) (nI (cn s (q0 + 1))) w
  | d, q, 0, hd, h1, hk => by omega
  | 0, q, k + 1, hd, h1, hk => by
    have e : q = q0 := by omega
    subst e
    exact ⟨k, rfl⟩
  | d + 1, q, k + 1, hd, h1, hk => by
    have hle := cn_mono s q0 (show q + 1 ≤ q0 by omega)
    have h15 := cn_n s q0
    obtain ⟨k', hk'⟩ := mf_biteAt_parts (y := y) (z := z) hg h3 hs hq hb hi d (q + 1) k (by omega) (by omega) (by omega)
    refine ⟨k', ?_⟩
    rw [← hk', mf_biteAt_C80, if_neg (fun r => by
      have := (nI_ltI (by omega) (by omega)).mp r
      omega), nI_1, nm_i, gi_i (ii_ix hg (by decide)), ii_cl (by omega), h3, ii_bit (by omega) (by omega), nI_add, nm_i]
    rfl
theorem and_del (s a : Nat) : del s (del s a) = s &&& a := by
  refine Nat.eq_of_testBit_eq (fun i => ?_)
  rw [del_bit, del_bit, Nat.testBit_and]
  cases s.testBit i <;> cases a.testBit i <;> rfl
theorem GOk.sub {x : AG} (h : GOk x) (hk : gk x ≠ 0) : gs x &&& gW x = gs x := by
  have h7 := h.2.2.2.2.2.2.1
  unfold St at h7
  rw [if_neg hk] at h7
  refine Nat.eq_of_testBit_eq (fun i => ?_)
  rw [Nat.testBit_and]
  cases hs : (gs x).testBit i
  · rfl
  · rw [h7.1 i hs]; rfl
theorem MI.biteAt {n : Nat} {G : Nat → AG} {w : mW} (h : MI n G w) {g i : Nat} {z : Int32} (hg : g < n) (hi : i < gn (G g)) (h16 : w.2 16 i = nI (nxt (G g) i)) (hz : z = 0 ∨ z = 1) : ∃ w', mf_biteAt (nI g) (nI i) z w = some ((if z = 0 then nI (plc (G g) i) else nI (siz (G g) i)), w') ∧ MI n G w' := by
  have h6 := h.1
  have hok := (h.2.2.1 g hg).1
  obtain ⟨m1, m2, m3, m4, m5⟩ := (h.2.2.1 g hg).2
  have hk2 := hok.1
  have hlt := hok.lt
  have hnth := nxt_nth hi
  have h49 := nb_le49 (gk (G g)) (gW (G g)) (gs (G g))
  have hi' : i < nb (gk (G g)) (gW (G g)) (gs (G g)) := hi
  unfold mf_biteAt
  rw [gi_i (ii_ix (show g < 6 by omega) (by decide)), ii_cl (by omega), m1.1]
  by_cases hk : gk (G g) = 0
  · have hs : gs (G g) < 3432 := hok.2.2.2.2.2.2.1.vs hk
    obtain ⟨f, f1, f2⟩ := mf_unrank_eq hs w
    have hn2 := hnth
    unfold Nth at hn2
    rw [if_pos hk] at hn2
    obtain ⟨r, c, r1, r2, r3, -⟩ := hn2
    have hrow : rowI (ub (gs (G g))) i 6 = r := by rw [r3]; exact rowI_eq r2 6 (by omega)
    have ep : plc (G g) i = r := by unfold plc; rw [if_pos hk, hrow]
    have es : siz (G g) i = c := by unfold siz; rw [if_pos hk, hrow]; omega
    have loop := mf_biteAt_rows (z := z) (ub_fall hs) r1 r2 r 0 fu (mR w 15 f) rfl (Nat.zero_le _) (fu_gt (by omega)) (fun q hq => by rw [mR_at]; exact f2 q hq)
    have loop' : mf_biteAt_C25 fu z (nI i) (nI 0) (mR w 15 f) = (if z = 0 then some (nI r, mR w 15 f) else some (nI c, mR w 15 f)) := by
      rw [← loop, r3]
      rfl
    refine ⟨mR w 15 f, ?_, h.sc (Sc.R (by decide))⟩
    rw [if_pos (show nI (gk (G g)) = (0 : Int32) by rw [hk]; rfl), gi_i (ii_ix (show g < 6 by omega) (by decide)), m3, bn_i f1]
    refine Eq.trans loop' ?_
    rw [ep, es]
    rcases hz with rfl | rfl
    · rw [if_pos rfl, if_pos rfl]
    · rw [if_neg (by decide), if_neg (by decide)]
  · have hsub := hok.sub hk
    have hn2 := hnth
    unfold Nth at hn2
    rw [if_neg hk] at hn2
    obtain ⟨q, q1, q2, q3, q4⟩ := hn2
    rw [hsub] at q2 q3
    have hp : prtI (gs (G g)) i = q := by rw [← q3]; exact prtI_eq q1 q2
    have h15 := cn_n (gs (G g)) q
    have c1 : nI (gs (G g)) &&& (1 : Int32) = nI (cn (gs (G g)) 1) := by
      show nI (gs (G g)) &&& nI 1 = _
      rw [ii_and, Nat.and_one_is_mod]
      show _ = nI (0 + (if (gs (G g)).testBit 0 then 1 else 0))
      rw [Nat.testBit_zero]
      have : gs (G g) % 2 < 2 := Nat.mod_lt _ (by decide)
      by_cases e : gs (G g) % 2 = 1
      · rw [e]; simp
      · have e0 : gs (G g) % 2 = 0 := by omega
        rw [e0]; simp
    obtain ⟨k', loop⟩ := mf_biteAt_parts (w := w) (g := g) (y := nI i) (z := z) (by omega) m3 hlt q1 q2 q3 q 0 fu rfl (Nat.zero_le _) (fu_gt (by omega))
    have hcs : cn (gs (G g)) (q + 1) = i + 1 := by
      show cn (gs (G g)) q + (if (gs (G g)).testBit q then 1 else 0) = i + 1
      rw [q2, q3]; rfl
    refine ⟨w, ?_, h⟩
    rw [if_neg (ii_ne0 hk (by omega)), gi_i (ii_ix (show g < 6 by omega) (by decide)), m3, c1, nm_i]
    refine Eq.trans loop ?_
    rw [hcs, mf_biteAt_C80, if_pos ((nI_ltI (by omega) (by omega)).mpr (by omega))]
    rcases hz with rfl | rfl
    · rw [if_neg (by decide), gi_i (ii_ix (show g < 6 by omega) (by decide)), ii_cl (by omega), m1.1, if_pos rfl]
      unfold plc
      rw [if_neg hk, hp]
      by_cases e1 : gk (G g) = 1
      · rw [if_pos e1, if_pos (show nI (gk (G g)) = (1 : Int32) by rw [e1]; rfl)]
      · rw [if_neg e1, if_neg (show ¬ (nI (gk (G g)) = (1 : Int32)) from ii_ne (m := 1) e1 (by omega) (by decide))]
        by_cases e6 : 6 ≤ q
        · rw [if_pos e6, if_pos (show (6 : Int32) ≤ nI q from (nI_leI (a := 6) (by decide) (by omega)).mpr e6)]
          show some (nI q + nI 4, w) = _
          rw [nI_add]
        · rw [if_neg e6, if_neg (show ¬ ((6 : Int32) ≤ nI q) from fun r => e6 ((nI_leI (a := 6) (b := q) (by decide) (by omega)).mp r))]
    · have hbits : mf_bits (nI (gs (G g)) &&& (nI (nxt (G g) i) ^^^ (-1 : Int32))) = some (nI (siz (G g) i)) := by
        rw [ii_not, q4, and_del, mf_bits_eq (Nat.lt_of_le_of_lt Nat.and_le_left hlt)]
        unfold siz
        rw [if_neg hk, hp]
      rw [if_pos rfl, gi_i (ii_ix (show g < 6 by omega) (by decide)), gi_i (ii_ix (show i < 49 by omega) (by decide)), ii_cl (by omega), ii_cl (by omega), m3, h16, bn_i hbits, if_neg (by decide)]
theorem MI.bite {n : Nat} {G : Nat → AG} {w : mW} (h : MI n G w) (x y z : Int32) : ∃ w', mf_bite x y z w = some ((a_bite n G x y z).1, w') ∧ MI (a_bite n G x y z).2.1 (a_bite n G x y z).2.2 w' := by
  unfold mf_bite a_bite
  rw [bn_i (h.isGame x)]
  by_cases hx : isG n x = true
  · rw [if_pos hx, if_neg (by decide), bn_i (mf_rng 0 2 (by decide) (by decide) z 0 2 (by decide) (by decide)), if_pos hx]
    by_cases hz : rng 0 2 z = true
    · obtain ⟨w1, w2, a1, a2, b1, b2, b3⟩ := h.look hx
      obtain ⟨h1, h2, h3, h4, h5⟩ := h.get hx
      have h49 := nb_le49 (gk (G (ixN x))) (gW (G (ixN x))) (gs (G (ixN x)))
      have h49' : gn (G (ixN x)) ≤ 49 := h49
      rw [if_pos hz, if_neg (by decide), bn_i a1, bn2_i b1, bn_i (mf_below_n (by omega) y), if_pos hz]
      by_cases hy : isG (gn (G (ixN x))) y = true
      · obtain ⟨y1, y2⟩ := isG_t hy
        obtain ⟨c1, c2, c3, c4, c5, c6, c7⟩ := b3.at h4 y1
        rw [if_pos hy, if_neg (by decide), if_pos hy]
        have iy : y.toNatClampNeg = ixN y := by
          have := congrArg Int32.toNatClampNeg y2
          rw [this, ii_cl (by omega)]
        by_cases e2 : z = 2
        · refine ⟨w2, ?_, b2⟩
          rw [if_pos e2, if_pos e2, gi_i (by rw [y2]; exact ii_ix (by omega) (by decide)), iy, c1, gi_i (ii_ix c2 (by decide)), ii_cl (by omega), c3]
          by_cases e : wn (G (ixN x)) (ixN y) = true
          · rw [if_pos e, if_pos (show nI 0 = (0 : Int32) from rfl), if_pos e]
          · rw [if_neg e, if_neg (show ¬ (nI 1 = (0 : Int32)) by decide), if_neg e]
        · have hz01 : z = 0 ∨ z = 1 := by
            obtain ⟨j, z1, z2, z3, z4⟩ := rng_t hz
            rcases (show j = 0 ∨ j = 1 ∨ j = 2 by omega) with rfl | rfl | rfl
            · exact Or.inl z3
            · exact Or.inr z3
            · exact absurd z3 e2
          obtain ⟨w', g1, g2⟩ := b2.biteAt (z := z) h1 y1 c1 hz01
          rw [← h2, ← y2] at g1
          refine ⟨w', ?_, g2⟩
          rw [if_neg e2, if_neg e2, bn2_i g1]
      · refine ⟨w2, ?_, b2⟩
        rw [if_neg hy, if_pos rfl, if_neg hy]
    · refine ⟨w, ?_, h⟩
      rw [if_neg hz, if_pos rfl, if_neg hz]
  · refine ⟨w, ?_, h⟩
    rw [if_neg hx, if_pos rfl, if_neg hx]
