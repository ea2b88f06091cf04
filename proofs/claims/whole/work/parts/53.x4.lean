/-! ===== class: all boards ===== -/
def cfn (b : Nat → Nat) : Nat → Nat
  | 0 => 0
  | n + 1 => cfn b n + (if 0 < b n then 1 else 0)
theorem cfn_le (b : Nat → Nat) : ∀ n, cfn b n ≤ n
  | 0 => Nat.le_refl _
  | n + 1 => by
    have := cfn_le b n
    show cfn b n + (if 0 < b n then 1 else 0) ≤ n + 1
    split <;> omega
theorem cfn_zero {b : Nat → Nat} {h : Nat} : ∀ n, h ≤ n → (∀ k, h ≤ k → k < n → b k = 0) → cfn b n = cfn b h
  | 0, hn, _ => by have : h = 0 := by omega
                   rw [this]
  | n + 1, hn, hz => by
    by_cases e : h = n + 1
    · rw [e]
    · rw [← cfn_zero n (by omega) (fun k h1 h2 => hz k h1 (by omega))]
      show cfn b n + (if 0 < b n then 1 else 0) = cfn b n
      rw [hz n (by omega) (by omega)]; rfl
theorem cfn_full {b : Nat → Nat} : ∀ n, (∀ k, k < n → 0 < b k) → cfn b n = n
  | 0, _ => rfl
  | n + 1, h => by
    show cfn b n + (if 0 < b n then 1 else 0) = n + 1
    rw [cfn_full n (fun k hk => h k (by omega)), if_pos (h n (by omega))]
theorem cfn_mono {b : Nat → Nat} {m : Nat} : ∀ n, m ≤ n → cfn b m ≤ cfn b n
  | 0, h => by have : m = 0 := by omega
               rw [this]; exact Nat.le_refl _
  | n + 1, h => by
    by_cases e : m = n + 1
    · rw [e]; exact Nat.le_refl _
    · exact Nat.le_trans (cfn_mono n (by omega)) (Nat.le_add_right _ _)
theorem cf_iff {b : Nat → Nat} (hF : Fall b) {h : Nat} (hh : h ≤ 7) : cfn b 7 ≤ h ↔ (h = 7 ∨ b h = 0) := by
  constructor
  · intro hc
    by_cases e : h = 7
    · exact Or.inl e
    · right
      rcases Nat.eq_zero_or_pos (b h) with q | q
      · exact q
      · have h1 := cfn_full (b := b) (h + 1) (fun k hk => by
          have := Fall.anti hF (i := k) h (by omega) (by omega)
          omega)
        have h2 := cfn_mono (b := b) (m := h + 1) 7 (by omega)
        omega
  · rintro (e | e)
    · rw [e]; exact cfn_le b 7
    · by_cases e7 : h = 7
      · rw [e7]; exact cfn_le b 7
      · rw [cfn_zero (h := h) 7 hh (fun k h1 h2 => by
          have := Fall.anti hF (i := h) k h1 h2
          omega)]
        exact cfn_le b h
def Bs (w : xW) : Prop := ∀ s, s < 3432 → w.2.1 6 s = nI (pF (SB s)) ∧ w.2.1 7 s = nI (ub s 0) ∧ w.2.1 8 s = nI (cfn (ub s) 7)
def Bf (w w' : xW) : Prop := w'.1 0 = w.1 0 ∧ w'.2.1 2 = w.2.1 2 ∧ w'.2.1 4 = w.2.1 4 ∧ w'.2.2.1 = w.2.2.1 ∧ w'.2.2.2.1 = w.2.2.2.1
theorem Bf.rf (w : xW) : Bf w w := ⟨rfl, rfl, rfl, rfl, rfl⟩
theorem Bf.tr {a b c : xW} (h : Bf a b) (g : Bf b c) : Bf a c := ⟨g.1.trans h.1, g.2.1.trans h.2.1, g.2.2.1.trans h.2.2.1, g.2.2.2.1.trans h.2.2.2.1, g.2.2.2.2.trans h.2.2.2.2⟩
theorem Bf.R (w : xW) {c : Nat} (f : Nat → Int32) (h2 : c ≠ 2) (h4 : c ≠ 4) : Bf w (xR w c f) := ⟨rfl, xR_ne w f (fun e => h2 e.symm), xR_ne w f (fun e => h4 e.symm), rfl, rfl⟩
theorem Ta.bf {w w' : xW} (h : Ta w w') : Bf w w' := ⟨by rw [h.1], h.2.1 2 (by decide) (by decide), h.2.1 4 (by decide) (by decide), h.2.2.1, h.2.2.2⟩
theorem Lx.bf {w w' : xW} (h : Lx w) (f : Bf w w') : Lx w' := fun r v hr hv => by rw [f.2.2.1]; exact h r v hr hv
theorem xf_cfl_loop {b : Nat → Nat} {w : xW} (hb : ∀ q, q < 7 → w.2.1 5 q = nI (b q)) (h7 : ∀ q, q < 7 → b q ≤ 7) : ∀ (d k n : Nat), d = 7 - k → k ≤ 7 → d < n → xf_B_countFilled_C13 w n (nI (cfn b k)) (7 : Int32) (nI k) = some (nI (cfn b 7))
  | d, k, 0, hd, hk, hn => by omega
  | 0, k, n + 1, hd, hk, hn => by
    have e : k = 7 := by omega
    subst e
    rw [xf_B_countFilled_C13]
    exact if_pos ((nI_leI (a := 7) (by decide) (by decide)).mpr (Nat.le_refl 7))
  | d + 1, k, n + 1, hd, hk, hn => by
    have ih := xf_cfl_loop hb h7 d (k + 1) n (by omega) (by omega) (by omega)
    have hk7 := h7 k (by omega)
    rw [xf_B_countFilled_C13, if_neg (fun h => by
      have := (nI_leI (a := 7) (b := k) (by decide) (by omega)).mp h
      omega), gi_i (ii_ix (by omega) (by decide)), ii_cl (by omega), hb k (by omega), nm_i, ← ih]
    have e : cfn b (k + 1) = cfn b k + (if 0 < b k then 1 else 0) := rfl
    by_cases h0 : 0 < b k
    · rw [if_neg (nI_nle h0 (by omega)), nm_i, nm_i, nI_1, nI_1, e, if_pos h0]
    · rw [if_pos (show nI (b k) ≤ (0 : Int32) from (nI_leI (b := 0) (by omega) (by decide)).mpr (by omega)), nm_i, nI_1, e, if_neg h0]; rfl
theorem xf_countFilled_eq {b : Nat → Nat} {w : xW} (hb : ∀ q, q < 7 → w.2.1 5 q = nI (b q)) (h7 : ∀ q, q < 7 → b q ≤ 7) : xf_B_countFilled w = some (nI (cfn b 7)) := xf_cfl_loop hb h7 7 0 fu rfl (Nat.zero_le _) (fu_gt (by decide))
theorem xf_bsolve_loop : ∀ (d s n : Nat) (w : xW), d = 3432 - s → s ≤ 3432 → d < n → Lx w → (∀ t, t < s → w.2.1 6 t = nI (pF (SB t)) ∧ w.2.1 7 t = nI (ub t 0) ∧ w.2.1 8 t = nI (cfn (ub t) 7)) → ∃ w', xf_B_solve_C10 n (nI s) w = some w' ∧ Bf w w' ∧ w'.1 1 = 1 ∧ Bs w'
  | d, s, 0, w, hd, hs, hn, _, _ => by omega
  | 0, s, n + 1, w, hd, hs, hn, hL, hT => by
    have e : s = 3432 := by omega
    subst e
    refine ⟨xS w 1 1, ?_, ⟨rfl, rfl, rfl, rfl, rfl⟩, rfl, hT⟩
    rw [xf_B_solve_C10, if_pos (show (3432 : Int32) ≤ nI 3432 from (nI_leI (a := 3432) (by decide) (by decide)).mpr (Nat.le_refl _)), nm_i]
    rfl
  | d + 1, s, n + 1, w, hd, hs, hn, hL, hT => by
    have hs' : s < 3432 := by omega
    obtain ⟨f, f1, f2⟩ := xf_lookAt_eq hL hs'
    have hx := ii_ix hs' (show 3432 < 2 ^ 31 by decide)
    have hc := ii_cl (n := s) (by omega)
    have hF := ub_fall hs'
    generalize hw1 : xR (xR (xR w 5 f) 7 (upd (w.2.1 7) s (nI (ub s 0)))) 8 (upd (w.2.1 8) s (nI (cfn (ub s) 7))) = w1
    have b1 : Bf w w1 := by
      rw [← hw1]
      exact ((Bf.R w f (by decide) (by decide)).tr (Bf.R _ _ (by decide) (by decide))).tr (Bf.R _ _ (by decide) (by decide))
    have r5 : w1.2.1 5 = f := by rw [← hw1, xR_ne _ _ (by decide), xR_ne _ _ (by decide)]; exact xR_at _ _ _
    have r6 : w1.2.1 6 = w.2.1 6 := by rw [← hw1, xR_ne _ _ (by decide), xR_ne _ _ (by decide)]; exact xR_ne _ _ (by decide)
    have r7 : w1.2.1 7 = upd (w.2.1 7) s (nI (ub s 0)) := by rw [← hw1, xR_ne _ _ (by decide)]; exact xR_at _ _ _
    have r8 : w1.2.1 8 = upd (w.2.1 8) s (nI (cfn (ub s) 7)) := by rw [← hw1]; exact xR_at _ _ _
    obtain ⟨w2, g1, g2⟩ := xf_factsOfLines_eq hs' (hL.bf b1) (fun q hq => by rw [r5]; exact f2 q hq) (fun t ht => by rw [r6]; exact (hT t ht).1)
    have b2 : Bf w1 (xR w2 6 (upd (w2.2.1 6) s (nI (pF (SB s))))) := g2.bf.tr (Bf.R _ _ (by decide) (by decide))
    obtain ⟨w', c1, c2, c3, c4⟩ := xf_bsolve_loop d (s + 1) n (xR w2 6 (upd (w2.2.1 6) s (nI (pF (SB s))))) (by omega) (by omega) (by omega) ((hL.bf b1).bf b2) (fun t ht => by
      rw [xR_at, xR_ne _ _ (by decide), xR_ne _ _ (by decide), g2.2.1 6 (by decide) (by decide), g2.2.1 7 (by decide) (by decide), g2.2.1 8 (by decide) (by decide), r6, r7, r8]
      by_cases e : t = s
      · subst e; rw [upd_at, upd_at, upd_at]; exact ⟨rfl, rfl, rfl⟩
      · rw [upd_ne _ _ e, upd_ne _ _ e, upd_ne _ _ e]; exact hT t (by omega))
    refine ⟨w', ?_, b1.tr (b2.tr c2), c3, c4⟩
    rw [xf_B_solve_C10, if_neg (fun h => by
      have := (nI_leI (a := 3432) (b := s) (by decide) (by omega)).mp h
      omega), bn_i f1, bn_i (show xf_C_at 7 ((xR w 5 f).2.1 5) (0 : Int32) (xR w 5 f) = some (nI (ub s 0)) from by
        rw [show (0 : Int32) = nI 0 from rfl, xf_at_eq (by decide) (by decide), xR_at, f2 0 (by decide)]), gi_i hx, nm_i, hc, xU_R, xR_ne _ _ (show (7 : Nat) ≠ 5 by decide), bn_i (xf_countFilled_eq (b := ub s) (fun q hq => by rw [xR_ne _ _ (by decide), xR_at]; exact f2 q hq) (fun q hq => gv_7 _ _)), gi_i hx, nm_i, xU_R, xR_ne _ _ (show (8 : Nat) ≠ 7 by decide), xR_ne _ _ (show (8 : Nat) ≠ 5 by decide), hw1, bn2_i g1, gi_i hx, nm_i, nm_i, xU_R, nI_1]
    exact c1
theorem xf_bsolve_eq {w : xW} (hL : Lx w) (h : w.1 1 ≠ 0 → Bs w) : ∃ w', xf_B_solve w = some w' ∧ Bf w w' ∧ w'.1 1 ≠ 0 ∧ Bs w' := by
  unfold xf_B_solve
  by_cases h0 : w.1 1 = 0
  · rw [if_pos h0]
    obtain ⟨w', c1, c2, c3, c4⟩ := xf_bsolve_loop 3432 0 fu w rfl (Nat.zero_le _) (fu_gt (by decide)) hL (fun t ht => absurd ht (Nat.not_lt_zero t))
    exact ⟨w', c1, c2, by rw [c3]; decide, c4⟩
  · rw [if_neg h0]
    exact ⟨w, rfl, Bf.rf w, h0, h h0⟩
theorem xf_isInside_eq {w : xW} (hB : Bs w) {s h v : Nat} (hs : s < 3432) (hh : h ≤ 7) (hv : v ≤ 7) : xf_B_isInside (nI s) (nI h) (nI v) w = some (if inB h v s = true then 1 else 0) := by
  obtain ⟨b1, b2, b3⟩ := hB s hs
  have hF := ub_fall hs
  have u0 : ub s 0 ≤ 7 := gv_7 _ _
  have hc := cfn_le (ub s) 7
  have hi := cf_iff hF hh
  unfold xf_B_isInside inB
  rw [bn_i (xf_at_eq (by decide) hs), b2]
  by_cases e : v < ub s 0
  · rw [if_pos ((nI_ltI (by omega) (by omega)).mpr e), if_neg (fun h => by
      have := (of_decide_eq_true h).1
      omega)]; rfl
  · rw [if_neg (fun q => e ((nI_ltI (by omega) (by omega)).mp q)), bn_i (xf_at_eq (by decide) hs), b3]
    by_cases e2 : h < cfn (ub s) 7
    · rw [if_pos ((nI_ltI (by omega) (by omega)).mpr e2), if_neg (fun q => by
        have := hi.mpr (of_decide_eq_true q).2
        omega)]; rfl
    · rw [if_neg (fun q => e2 ((nI_ltI (by omega) (by omega)).mp q)), if_pos (decide_eq_true ⟨by omega, hi.mp (by omega)⟩)]; rfl
theorem xf_gw_loop {w : xW} (hB : Bs w) {h v : Nat} (hh : h ≤ 7) (hv : v ≤ 7) : ∀ (d s n : Nat), d = 3432 - s → s ≤ 3432 → d < n → xf_B_greatestWorth_C9 n (nI h) (nI v) (nI (bX h v s)) (nI s) w = some (nI (bX h v 3432), w)
  | d, s, 0, hd, hs, hn => by omega
  | 0, s, n + 1, hd, hs, hn => by
    have e : s = 3432 := by omega
    subst e
    rw [xf_B_greatestWorth_C9]
    exact if_pos (show (3432 : Int32) ≤ nI 3432 from (nI_leI (a := 3432) (by decide) (by decide)).mpr (Nat.le_refl _))
  | d + 1, s, n + 1, hd, hs, hn => by
    have hs' : s < 3432 := by omega
    have ih := xf_gw_loop hB hh hv d (s + 1) n (by omega) (by omega) (by omega)
    have hX : bX h v (s + 1) = if inB h v s = true then (if bw s ≤ bX h v s then bX h v s else bw s) else bX h v s := rfl
    have hx7 := bX_le h v s (by omega)
    have hb7 := bw_le hs'
    rw [xf_B_greatestWorth_C9, if_neg (fun h => by
      have := (nI_leI (a := 3432) (b := s) (by decide) (by omega)).mp h
      omega), bn_i (xf_isInside_eq hB hs' hh hv), ← ih]
    by_cases hi : inB h v s = true
    · rw [if_pos hi, if_neg (by decide), bn_i (xf_at_eq (by decide) hs'), (hB s hs').1, bn_i (xf_worthIn_eq (SB_b hs')), nm_i, nm_i, nI_1, hX, if_pos hi]
      have e : imax (nI (bX h v s)) (nI (SB s).1) = nI (if bw s ≤ bX h v s then bX h v s else bw s) := by
        have : (SB s).1 = bw s := rfl
        rw [this, imax_eq (by omega) (by omega)]
        by_cases q : bw s ≤ bX h v s
        · rw [if_neg (by omega), if_pos q]
        · rw [if_pos (by omega), if_neg q]
      rw [e]
    · rw [if_neg hi, if_pos rfl, nm_i, nI_1, hX, if_neg hi]
theorem xf_cw_loop {w : xW} (hB : Bs w) {h v z : Nat} (hh : h ≤ 7) (hv : v ≤ 7) (hz : z < 2) : ∀ (d s n : Nat), d = 3432 - s → s ≤ 3432 → d < n → xf_B_countWithin_C10 n (nI h) (nI v) (nI z) (nI (if z = 0 then bM h v s else bL h v s)) (nI s) w = some (nI (if z = 0 then bM h v 3432 else bL h v 3432), w)
  | d, s, 0, hd, hs, hn => by omega
  | 0, s, n + 1, hd, hs, hn => by
    have e : s = 3432 := by omega
    subst e
    rw [xf_B_countWithin_C10]
    exact if_pos (show (3432 : Int32) ≤ nI 3432 from (nI_leI (a := 3432) (by decide) (by decide)).mpr (Nat.le_refl _))
  | d + 1, s, n + 1, hd, hs, hn => by
    have hs' : s < 3432 := by omega
    have ih := xf_cw_loop hB hh hv hz d (s + 1) n (by omega) (by omega) (by omega)
    have hM : bM h v (s + 1) = bM h v s + (if inB h v s = true then 1 else 0) := rfl
    have hL : bL h v (s + 1) = bL h v s + (if inB h v s = true ∧ bl s % 2 ≠ 0 then 1 else 0) := rfl
    have hle := Le3_le (SB_b hs') 0
    have eL : Le3 0 (SB s) = bl s := rfl
    rw [eL] at hle
    rw [xf_B_countWithin_C10, if_neg (fun h => by
      have := (nI_leI (a := 3432) (b := s) (by decide) (by omega)).mp h
      omega), bn_i (xf_at_eq (by decide) hs'), (hB s hs').1, bn_i (show xf_C_lengthIn (nI (pF (SB s))) (0 : Int32) = some (nI (bl s)) from xf_lengthIn_eq (r := 0) (SB_b hs') (by decide)), bn_i (show xf_C_isWon (nI (bl s)) (0 : Int32) = some (if bl s % 2 = 0 then 1 else 0) from xf_isWon_eq (r := 0) (by omega) (by decide)), ← ih]
    have go : ∀ t : Nat, t < 2 → (t = 1 ↔ bl s % 2 ≠ 0) → xf_B_countWithin_C43 (xf_B_countWithin_C10 n) (nI h) (nI v) (nI z) (nI (if z = 0 then bM h v s else bL h v s)) (nI s) (nI t) w = xf_B_countWithin_C10 n (nI h) (nI v) (nI z) (nI (if z = 0 then bM h v (s + 1) else bL h v (s + 1))) (nI (s + 1)) w := by
      intro t ht hte
      unfold xf_B_countWithin_C43
      rw [bn_i (xf_isInside_eq hB hs' hh hv)]
      by_cases hi : inB h v s = true
      · rw [if_pos hi, if_neg (by decide)]
        by_cases ht0 : t = 0
        · subst ht0
          have hl0 : ¬ (bl s % 2 ≠ 0) := fun q => by
            have := hte.mpr q
            omega
          rw [if_pos (show nI 0 = (0 : Int32) from rfl)]
          by_cases hz0 : z = 0
          · rw [if_pos (show nI z = (0 : Int32) by rw [hz0]; rfl), nm_i, nm_i, nI_1, nI_1, if_pos hz0, if_pos hz0, hM, if_pos hi]
          · rw [if_neg (ii_ne0 hz0 (by omega)), nm_i, nI_1, if_neg hz0, if_neg hz0, hL, if_neg (fun q => hl0 q.2)]
            rfl
        · have ht1 : t = 1 := by omega
          subst ht1
          have hl1 := hte.mp rfl
          rw [if_neg (show ¬ nI 1 = (0 : Int32) by decide), nm_i, nm_i, nI_1, nI_1]
          by_cases hz0 : z = 0
          · rw [if_pos hz0, if_pos hz0, hM, if_pos hi]
          · rw [if_neg hz0, if_neg hz0, hL, if_pos ⟨hi, hl1⟩]
      · rw [if_neg hi, if_pos rfl, nm_i, nI_1, hM, hL]
        by_cases hz0 : z = 0
        · rw [if_pos hz0, if_pos hz0, if_neg hi]; rfl
        · rw [if_neg hz0, if_neg hz0, if_neg (fun q => hi q.1)]; rfl
    by_cases hw : bl s % 2 = 0
    · rw [if_pos hw, if_neg (by decide)]
      exact go 0 (by decide) ⟨fun q => absurd q (by decide), fun q => absurd hw q⟩
    · rw [if_neg hw, if_pos rfl]
      exact go 1 (by decide) ⟨fun _ => hw, fun _ => rfl⟩
theorem xf_greatestWorth_eq {w : xW} (hL : Lx w) (hS : w.1 1 ≠ 0 → Bs w) {h v : Nat} (hh : h ≤ 7) (hv : v ≤ 7) : ∃ w', xf_B_greatestWorth (nI h) (nI v) w = some (nI (bX h v 3432), w') ∧ Bf w w' ∧ w'.1 1 ≠ 0 ∧ Bs w' := by
  obtain ⟨w', a1, a2, a3, a4⟩ := xf_bsolve_eq hL hS
  refine ⟨w', ?_, a2, a3, a4⟩
  unfold xf_B_greatestWorth
  rw [bn_i a1]
  exact xf_gw_loop a4 hh hv 3432 0 fu rfl (Nat.zero_le _) (fu_gt (by decide))
theorem xf_countWithin_eq {w : xW} (hL : Lx w) (hS : w.1 1 ≠ 0 → Bs w) {h v z : Nat} (hh : h ≤ 7) (hv : v ≤ 7) (hz : z < 2) : ∃ w', xf_B_countWithin (nI h) (nI v) (nI z) w = some (nI (if z = 0 then bM h v 3432 else bL h v 3432), w') ∧ Bf w w' ∧ w'.1 1 ≠ 0 ∧ Bs w' := by
  obtain ⟨w', a1, a2, a3, a4⟩ := xf_bsolve_eq hL hS
  refine ⟨w', ?_, a2, a3, a4⟩
  unfold xf_B_countWithin
  rw [bn_i a1]
  have := xf_cw_loop a4 hh hv hz 3432 0 fu rfl (Nat.zero_le _) (fu_gt (by decide))
  rw [show (if z = 0 then bM h v 0 else bL h v 0) = 0 by split <;> rfl] at this
  exact this
