/-! ===== the class: boards by their ranks ===== -/
theorem xf_at_eq {na i : Nat} {fa : Nat → Int32} {w : xW} (hn : na < 2 ^ 31) (hi : i < na) : xf_C_at na fa (nI i) w = some (fa i) := by
  unfold xf_C_at
  rw [if_neg (nI_pos (by omega)), if_neg (show ¬ (Int32.ofNat na ≤ nI i) from fun q => by
    have := (nI_leI (a := na) (b := i) hn (by omega)).mp q
    omega), gi_i (ii_ix hi hn), ii_cl (by omega)]
theorem xf_isWithin_eq (x a b : Int32) : xf_C_isWithin x a b = some (if a ≤ x ∧ x ≤ b then 1 else 0) := by
  unfold xf_C_isWithin
  have e1 : (x < a) ↔ ¬ a ≤ x := by rw [Int32.lt_iff_toInt_lt, Int32.le_iff_toInt_le]; omega
  have e2 : (b < x) ↔ ¬ x ≤ b := by rw [Int32.lt_iff_toInt_lt, Int32.le_iff_toInt_le]; omega
  by_cases h1 : a ≤ x
  · rw [if_neg (fun q => (e1.mp q) h1)]
    by_cases h2 : x ≤ b
    · rw [if_neg (fun q => (e2.mp q) h2), if_pos ⟨h1, h2⟩]; rfl
    · rw [if_pos (e2.mpr h2), if_neg (fun q => h2 q.2)]; rfl
  · rw [if_pos (e1.mpr h1), if_neg (fun q => h1 q.1)]; rfl
theorem xf_rng (lo hi : Nat) (hl : lo < 2 ^ 31) (hh : hi < 2 ^ 31) (x : Int32) : xf_C_isWithin x (nI lo) (nI hi) = some (if rng lo hi x then 1 else 0) := by
  rw [xf_isWithin_eq]
  unfold rng
  simp only [decide_eq_true_eq, Int32.le_iff_toInt_le, nI_toInt hl, nI_toInt hh]
/-- a world with another row at a cell -/
def xR (w : xW) (c : Nat) (f : Nat → Int32) : xW := (w.1, fun k => if k = c then f else w.2.1 k, w.2.2)
theorem xR_at (w : xW) (c : Nat) (f : Nat → Int32) : (xR w c f).2.1 c = f := if_pos rfl
theorem xR_ne (w : xW) {c k : Nat} (f : Nat → Int32) (h : k ≠ c) : (xR w c f).2.1 k = w.2.1 k := if_neg h
theorem xU_R (w : xW) (c i : Nat) (v : Int32) : xU w c i v = xR w c (upd (w.2.1 c) i v) := rfl
theorem xR_R (w : xW) (c : Nat) (f g : Nat → Int32) : xR (xR w c f) c g = xR w c g := by
  unfold xR
  refine Prod.ext rfl (Prod.ext (funext fun k => ?_) rfl)
  show (if k = c then g else if k = c then f else w.2.1 k) = if k = c then g else w.2.1 k
  split <;> rfl
theorem xR_self (w : xW) (c : Nat) : xR w c (w.2.1 c) = w := by
  unfold xR
  refine Prod.ext rfl (Prod.ext (funext fun k => ?_) rfl)
  show (if k = c then w.2.1 c else w.2.1 k) = w.2.1 k
  split
  · rename_i h; rw [h]
  · rfl
/-- the table that the boards are ranked by -/
def Lx (w : xW) : Prop := ∀ r v, r ≤ 7 → v ≤ 7 → w.2.1 4 (8 * r + v) = nI (les (7 - r) v)
theorem Lx.R {w : xW} (h : Lx w) {c : Nat} {f : Nat → Int32} (hc : c ≠ 4) : Lx (xR w c f) := fun r v hr hv => by
  rw [xR_ne w f (fun e => hc e.symm)]; exact h r v hr hv
theorem les_small : ∀ k, k < 8 → ∀ v, v < 9 → les k v < 2 ^ 31 := by decide +kernel
theorem x_ix (r v : Nat) : (8 : Int32) * nI r + nI v = nI (8 * r + v) := by
  rw [show (8 : Int32) * nI r = nI (8 * r) from pk_mul 8 r, nI_add]
theorem xf_les {w : xW} (h : Lx w) {r v : Nat} (hr : r ≤ 7) (hv : v ≤ 7) : xf_C_at 64 (w.2.1 4) ((8 : Int32) * nI r + nI v) w = some (nI (les (7 - r) v)) := by
  rw [x_ix, xf_at_eq (by decide) (by omega), h r v hr hv]
theorem xf_rol_loop {w : xW} {b : Nat → Nat} (hL : Lx w) (hF : Fall b) (hb : ∀ r, r < 7 → w.2.1 5 r = nI (b r)) : ∀ (d r n : Nat), d = 7 - r → r ≤ 7 → d < n → xf_B_rankOfLines_C4 w n (nI (rk b - rkT b (7 - r))) (nI r) = some (nI (rk b))
  | d, r, 0, _, _, hn => by omega
  | 0, r, n + 1, hd, hr, hn => by
    have e : r = 7 := by omega
    subst e
    rw [xf_B_rankOfLines_C4]
    exact if_pos ((nI_leI (by decide) (by decide)).mpr (Nat.le_refl 7))
  | d + 1, r, n + 1, hd, hr, hn => by
    have h7 := Fall.le hF r (by omega)
    rw [xf_B_rankOfLines_C4, if_neg (fun h => by
      have := (nI_leI (a := 7) (b := r) (by decide) (by omega)).mp h
      omega), gi_i (ii_ix (by omega) (by decide)), ii_cl (by omega), hb r (by omega), bn_i (xf_les hL (by omega) h7), nm_i, nm_i, nI_add, nI_1]
    have h2 := rkT_s (b := b) (show r < 7 by omega)
    have h3 := rkT_le (b := b) (j := 7 - r) 7 (by omega)
    rw [show rk b - rkT b (7 - r) + les (7 - r) (b r) = rk b - rkT b (7 - (r + 1)) by
      rw [show 7 - (r + 1) = 6 - r by omega]
      show rkT b 7 - rkT b (7 - r) + les (7 - r) (b r) = rkT b 7 - rkT b (6 - r)
      omega]
    exact xf_rol_loop hL hF hb d (r + 1) n (by omega) (by omega) (by omega)
theorem xf_rankOfLines_eq {w : xW} {b : Nat → Nat} (hL : Lx w) (hF : Fall b) (hb : ∀ r, r < 7 → w.2.1 5 r = nI (b r)) : xf_B_rankOfLines w = some (nI (rk b)) := by
  have := xf_rol_loop hL hF hb 7 0 fu rfl (by omega) (fu_gt (by decide))
  rwa [show rk b - rkT b (7 - 0) = 0 from Nat.sub_self _] at this
theorem xf_look_in {w : xW} {K : Int32 → Int32 → xW → Option xW} {r L : Nat} (hL : Lx w) (hr : r < 7) (hLs : L < 2 ^ 31) : ∀ (v n : Nat), v ≤ 7 → v < n → xf_B_lookAt_C17 K n (nI L) (nI r) (nI v) w = xf_B_lookAt_C46 K (nI L) (nI r) (nI (gvA (7 - r) L v)) w
  | v, 0, _, hn => by omega
  | 0, n + 1, hv, hn => by
    rw [xf_B_lookAt_C17, if_pos (show nI 0 ≤ (0 : Int32) by decide)]; rfl
  | v + 1, n + 1, hv, hn => by
    have hs := les_small (7 - r) (by omega) (v + 1) (by omega)
    rw [xf_B_lookAt_C17, if_neg (nI_nle (by omega) (by omega)), bn_i (xf_les hL (by omega) hv)]
    unfold gvA
    by_cases e : les (7 - r) (v + 1) ≤ L
    · rw [if_pos ((nI_leI (by omega) (by omega)).mpr e), if_pos e]
    · rw [if_neg (fun q => e ((nI_leI (by omega) (by omega)).mp q)), if_neg e, nm_i, pk_m1]
      exact xf_look_in hL hr hLs v n (by omega) (by omega)
theorem xf_look_out {s : Nat} (hs : s < 3432) : ∀ (d r n : Nat) (w : xW), Lx w → d = 7 - r → r ≤ 7 → d < n → (∀ q, q < r → w.2.1 5 q = nI (ub s q)) → ∃ f, xf_B_lookAt_C4 n (nI (lf s r)) (nI r) w = some (xR w 5 f) ∧ ∀ q, q < 7 → f q = nI (ub s q)
  | d, r, 0, w, _, _, _, hn, _ => by omega
  | 0, r, n + 1, w, hL, hd, hr, hn, hq => by
    have e : r = 7 := by omega
    subst e
    refine ⟨w.2.1 5, ?_, hq⟩
    rw [xf_B_lookAt_C4, xR_self]
    exact if_pos ((nI_leI (by decide) (by decide)).mpr (Nat.le_refl 7))
  | d + 1, r, n + 1, w, hL, hd, hr, hn, hq => by
    have hle : lf s r ≤ s := by
      have : ∀ r, lf s r ≤ s := fun r => by
        induction r with
        | zero => exact Nat.le_refl _
        | succ r ih => rw [lf_s]; omega
      exact this r
    have hgv : gvA (7 - r) (lf s r) 7 = ub s r := rfl
    have hu : ub s r ≤ 7 := gv_7 _ _
    have hin : les (7 - r) (ub s r) ≤ lf s r := gv_in _ _
    obtain ⟨f, hf1, hf2⟩ := xf_look_out hs d (r + 1) n (xR w 5 (upd (w.2.1 5) r (nI (ub s r)))) (hL.R (by decide)) (by omega) (by omega) (by omega) (fun q hq1 => by
      rw [xR_at]
      by_cases e : q = r
      · subst e; exact upd_at _ _ _
      · rw [upd_ne _ _ e]; exact hq q (by omega))
    rw [xR_R] at hf1
    refine ⟨f, ?_, hf2⟩
    rw [xf_B_lookAt_C4, if_neg (fun h => by
      have := (nI_leI (a := 7) (b := r) (by decide) (by omega)).mp h
      omega)]
    refine Eq.trans (xf_look_in hL (by omega) (by omega) 7 fu (by omega) (fu_gt (by decide))) ?_
    rw [hgv]
    unfold xf_B_lookAt_C46
    rw [gi_i (ii_ix (by omega) (by decide)), ii_cl (by omega), xU_R, nm_i, bn_i (xf_les (hL.R (by decide)) (by omega) hu), nm_i, nm_i, ii_sub hin, nI_1, ← hf1, lf_s]
theorem xf_lookAt_eq {s : Nat} {w : xW} (hL : Lx w) (hs : s < 3432) : ∃ f, xf_B_lookAt (nI s) w = some (xR w 5 f) ∧ ∀ q, q < 7 → f q = nI (ub s q) :=
  xf_look_out hs 7 0 fu w hL rfl (by omega) (fu_gt (by decide)) (fun q h => by omega)
theorem xf_rowOf_eq {s r : Nat} {w : xW} (hL : Lx w) (hs : s < 3432) (hr : r < 7) : ∃ f, xf_B_rowOf (nI s) (nI r) w = some (nI (ub s r), xR w 5 f) := by
  obtain ⟨f, f1, f2⟩ := xf_lookAt_eq hL hs
  refine ⟨f, ?_⟩
  unfold xf_B_rowOf
  rw [bn_i f1, bn_i (xf_at_eq (by decide) hr), xR_at, f2 r hr]
theorem imin_eq {a b : Nat} (ha : a < 2 ^ 31) (hb : b < 2 ^ 31) : imin (nI a) (nI b) = nI (if a ≤ b then a else b) := by
  unfold imin
  by_cases h : a ≤ b
  · rw [if_pos h, if_neg (fun q => by
      have := (nI_ltI hb ha).mp q
      omega)]
  · rw [if_neg h, if_pos ((nI_ltI hb ha).mpr (by omega))]
theorem imax_eq {a b : Nat} (ha : a < 2 ^ 31) (hb : b < 2 ^ 31) : imax (nI a) (nI b) = nI (if a < b then b else a) := by
  unfold imax
  by_cases h : a < b
  · rw [if_pos h, if_pos ((nI_ltI ha hb).mpr h)]
  · rw [if_neg h, if_neg (fun q => h ((nI_ltI ha hb).mp q))]
theorem xf_rwr_loop {b : Nat → Nat} {r v : Nat} (hr : r < 7) (hv : v ≤ 7) (hF : Fall (setB b r v)) (hb7 : ∀ q, q < 7 → b q ≤ 7) : ∀ (d k n : Nat) (w : xW), Lx w → d = 7 - k → k ≤ 7 → d < n → (∀ q, q < k → w.2.1 5 q = nI (setB b r v q)) → (∀ q, k ≤ q → q < 7 → w.2.1 5 q = nI (b q)) → ∃ f, xf_B_rankWithRow_C8 n (nI r) (nI v) (nI k) w = some (nI (rk (setB b r v)), xR w 5 f)
  | d, k, 0, w, _, _, _, hn, _, _ => by omega
  | 0, k, n + 1, w, hL, hd, hk, hn, h1, h2 => by
    have e : k = 7 := by omega
    subst e
    refine ⟨w.2.1 5, ?_⟩
    rw [xf_B_rankWithRow_C8, if_pos (show (7 : Int32) ≤ nI 7 from (nI_leI (a := 7) (by decide) (by decide)).mpr (Nat.le_refl 7)), bn_i (xf_rankOfLines_eq hL hF h1), xR_self]
  | d + 1, k, n + 1, w, hL, hd, hk, hn, h1, h2 => by
    have hbk := hb7 k (by omega)
    have fin : ∀ u : Int32, u = nI (setB b r v k) → ∃ f, xf_B_rankWithRow_C8 n (nI r) (nI v) (nI (k + 1)) (xR w 5 (upd (w.2.1 5) k u)) = some (nI (rk (setB b r v)), xR w 5 f) := by
      intro u hu
      obtain ⟨f, hf⟩ := xf_rwr_loop hr hv hF hb7 d (k + 1) n (xR w 5 (upd (w.2.1 5) k u)) (hL.R (by decide)) (by omega) (by omega) (by omega) (fun q hq => by
        rw [xR_at]
        by_cases e : q = k
        · subst e; rw [upd_at, hu]
        · rw [upd_ne _ _ e]; exact h1 q (by omega)) (fun q hq1 hq2 => by
        rw [xR_at, upd_ne _ _ (by omega)]; exact h2 q (by omega) hq2)
      rw [xR_R] at hf
      exact ⟨f, hf⟩
    rw [xf_B_rankWithRow_C8, if_neg (fun h => by
      have := (nI_leI (a := 7) (b := k) (by decide) (by omega)).mp h
      omega)]
    by_cases e : k = r
    · obtain ⟨f, hf⟩ := fin (nI v) (by unfold setB; rw [if_neg (by omega), if_pos e])
      refine ⟨f, ?_⟩
      rw [if_pos (by rw [e]), gi_i (ii_ix (by omega) (by decide)), ii_cl (by omega), xU_R, nm_i, nm_i, nI_1]
      exact hf
    · rw [if_neg (ii_ne e (by omega) (by omega))]
      by_cases e2 : k ≤ r
      · obtain ⟨f, hf⟩ := fin (w.2.1 5 k) (by rw [h2 k (Nat.le_refl k) (by omega)]; unfold setB; rw [if_pos (by omega)])
        refine ⟨f, ?_⟩
        have e3 : upd (w.2.1 5) k (w.2.1 5 k) = w.2.1 5 := by
          funext j
          unfold upd
          split
          · rename_i hj; rw [hj]
          · rfl
        rw [e3, xR_self] at hf
        rw [if_pos ((nI_leI (by omega) (by omega)).mpr e2), nm_i, nI_1]
        exact hf
      · obtain ⟨f, hf⟩ := fin (nI (if b k ≤ v then b k else v)) (by unfold setB; rw [if_neg (show ¬ (k < r) by omega), if_neg e])
        refine ⟨f, ?_⟩
        rw [if_neg (fun q => e2 ((nI_leI (by omega) (by omega)).mp q)), gi_i (ii_ix (by omega) (by decide)), ii_cl (by omega), h2 k (Nat.le_refl k) (by omega), imin_eq (by omega) (by omega), nm_i, gi_i (ii_ix (by omega) (by decide)), xU_R, nm_i, nm_i, nI_1]
        exact hf
theorem xf_rankWithRow_eq {s r v : Nat} {w : xW} (hL : Lx w) (hs : s < 3432) (hr : r < 7) (hv : v ≤ 7) (hF : Fall (setB (ub s) r v)) : ∃ f, xf_B_rankWithRow (nI s) (nI r) (nI v) w = some (nI (rk (setB (ub s) r v)), xR w 5 f) := by
  obtain ⟨f, f1, f2⟩ := xf_lookAt_eq hL hs
  obtain ⟨f', hf'⟩ := xf_rwr_loop hr hv hF (fun q _ => gv_7 _ _) 7 0 fu (xR w 5 f) (hL.R (by decide)) rfl (Nat.zero_le _) (fu_gt (by decide)) (fun q hq => absurd hq (Nat.not_lt_zero q)) (fun q _ hq => by rw [xR_at]; exact f2 q hq)
  rw [xR_R] at hf'
  refine ⟨f', ?_⟩
  unfold xf_B_rankWithRow
  rw [bn_i f1]
  exact hf'
theorem xf_sq_loop {b : Nat → Nat} {w : xW} (hb : ∀ q, q < 7 → w.2.1 5 q = nI (b q)) (h7 : ∀ q, q < 7 → b q ≤ 7) : ∀ (d k n : Nat), d = 7 - k → k ≤ 7 → d < n → xf_B_countSquares_C19 n (nI (sm b k)) (7 : Int32) (nI k) w = some (nI (sm b 7), w)
  | d, k, 0, hd, hk, hn => by omega
  | 0, k, n + 1, hd, hk, hn => by
    have e : k = 7 := by omega
    subst e
    rw [xf_B_countSquares_C19]
    exact if_pos ((nI_leI (a := 7) (by decide) (by decide)).mpr (Nat.le_refl 7))
  | d + 1, k, n + 1, hd, hk, hn => by
    rw [xf_B_countSquares_C19, if_neg (fun h => by
      have := (nI_leI (a := 7) (b := k) (by decide) (by omega)).mp h
      omega), gi_i (ii_ix (by omega) (by decide)), ii_cl (by omega), hb k (by omega), nm_i, nm_i, nm_i, nI_add, nI_1]
    exact xf_sq_loop hb h7 d (k + 1) n (by omega) (by omega) (by omega)
theorem xf_countSquares_eq {s : Nat} {w : xW} (hL : Lx w) (hs : s < 3432) : ∃ f, xf_B_countSquares (nI s) w = some (nI (sq (ub s)), xR w 5 f) := by
  obtain ⟨f, f1, f2⟩ := xf_lookAt_eq hL hs
  refine ⟨f, ?_⟩
  unfold xf_B_countSquares
  rw [bn_i f1]
  exact xf_sq_loop (fun q hq => by rw [xR_at]; exact f2 q hq) (fun q _ => gv_7 _ _) 7 0 fu rfl (Nat.zero_le _) (fu_gt (by decide))
theorem xf_rob_loop {b : Nat → Nat} {w : xW} {r0 c0 : Nat} (hF : Fall b) (hb : ∀ q, q < 7 → w.2.1 5 q = nI (b q)) (hr : r0 < 7) (hc : c0 < b r0) : ∀ (d r n : Nat), d = r0 - r → r ≤ r0 → d < n → xf_B_rowOfBite_C10 n (nI (sm b r0 + c0 - sm b r)) (nI r) w = some (nI r0, w) ∧ xf_B_columnOfBite_C10 n (nI (sm b r0 + c0 - sm b r)) (nI r) w = some (nI c0, w)
  | d, r, 0, hd, h1, hn => by omega
  | 0, r, n + 1, hd, h1, hn => by
    have e : r = r0 := by omega
    subst e
    have h7 := Fall.le hF r hr
    have h8 : ¬ ((7 : Int32) ≤ nI r) := fun h => by
      have := (nI_leI (a := 7) (b := r) (by decide) (by omega)).mp h
      omega
    rw [xf_B_rowOfBite_C10, xf_B_columnOfBite_C10, if_neg h8, if_neg h8, gi_i (ii_ix hr (by decide)), gi_i (ii_ix hr (by decide)), ii_cl (by omega), hb r hr, Nat.add_sub_cancel_left, if_pos ((nI_ltI (by omega) (by omega)).mpr hc), if_pos ((nI_ltI (by omega) (by omega)).mpr hc)]
    exact ⟨rfl, gi_i (ii_ix hr (by decide))⟩
  | d + 1, r, n + 1, hd, h1, hn => by
    have h7 := Fall.le hF r (by omega)
    have h8 : ¬ ((7 : Int32) ≤ nI r) := fun h => by
      have := (nI_leI (a := 7) (b := r) (by decide) (by omega)).mp h
      omega
    have hs : sm b (r + 1) = sm b r + b r := rfl
    have hm := sm_mono b r0 (show r + 1 ≤ r0 by omega)
    have h49 := sq_le hF
    have hix := sm_ix hr hc
    unfold sq at h49
    have h9 : ¬ (nI (sm b r0 + c0 - sm b r) < nI (b r)) := fun q => by
      have := (nI_ltI (by omega) (by omega)).mp q
      omega
    have ih := xf_rob_loop hF hb hr hc d (r + 1) n (by omega) (by omega) (by omega)
    rw [xf_B_rowOfBite_C10, xf_B_columnOfBite_C10, if_neg h8, if_neg h8, gi_i (ii_ix (by omega) (by decide)), gi_i (ii_ix (by omega) (by decide)), ii_cl (by omega), hb r (by omega), if_neg h9, if_neg h9, gi_i (ii_ix (by omega) (by decide)), gi_i (ii_ix (by omega) (by decide)), ii_sub (by omega), nI_1, nm_i, nm_i, nm_i, nm_i, show sm b r0 + c0 - sm b r - b r = sm b r0 + c0 - sm b (r + 1) by omega]
    exact ih
theorem xf_rowCol_eq {s r c : Nat} {w : xW} (hL : Lx w) (hs : s < 3432) (hr : r < 7) (hc : c < ub s r) : ∃ f, (∀ q, q < 7 → f q = nI (ub s q)) ∧ xf_B_rowOfBite (nI s) (nI (sm (ub s) r + c)) w = some (nI r, xR w 5 f) ∧ xf_B_columnOfBite (nI s) (nI (sm (ub s) r + c)) w = some (nI c, xR w 5 f) := by
  obtain ⟨f, f1, f2⟩ := xf_lookAt_eq hL hs
  have := xf_rob_loop (w := xR w 5 f) (ub_fall hs) (fun q hq => by rw [xR_at]; exact f2 q hq) hr hc r 0 fu rfl (Nat.zero_le _) (fu_gt (by omega))
  refine ⟨f, f2, ?_, ?_⟩
  · unfold xf_B_rowOfBite
    rw [bn_i f1]; exact this.1
  · unfold xf_B_columnOfBite
    rw [bn_i f1]; exact this.2
theorem xf_ra_loop {b : Nat → Nat} {r c : Nat} (hr : r < 7) (hc : c ≤ 7) (hF : Fall b) : ∀ (d k n : Nat) (w : xW), Lx w → d = 7 - k → k ≤ 7 → d < n → (∀ q, q < k → w.2.1 5 q = nI (cutB b r c q)) → (∀ q, k ≤ q → q < 7 → w.2.1 5 q = nI (b q)) → ∃ f, xf_B_rankAfter_C18 n (nI r) (nI c) (nI k) w = some (nI (rk (cutB b r c)), xR w 5 f)
  | d, k, 0, w, _, _, _, hn, _, _ => by omega
  | 0, k, n + 1, w, hL, hd, hk, hn, h1, h2 => by
    have e : k = 7 := by omega
    subst e
    refine ⟨w.2.1 5, ?_⟩
    rw [xf_B_rankAfter_C18, if_pos (show (7 : Int32) ≤ nI 7 from (nI_leI (a := 7) (by decide) (by decide)).mpr (Nat.le_refl 7)), bn_i (xf_rankOfLines_eq hL (cutB_fall hF) h1), xR_self]
  | d + 1, k, n + 1, w, hL, hd, hk, hn, h1, h2 => by
    have hbk := Fall.le hF k (by omega)
    have fin : ∀ u : Int32, u = nI (cutB b r c k) → ∃ f, xf_B_rankAfter_C18 n (nI r) (nI c) (nI (k + 1)) (xR w 5 (upd (w.2.1 5) k u)) = some (nI (rk (cutB b r c)), xR w 5 f) := by
      intro u hu
      obtain ⟨f, hf⟩ := xf_ra_loop hr hc hF d (k + 1) n (xR w 5 (upd (w.2.1 5) k u)) (hL.R (by decide)) (by omega) (by omega) (by omega) (fun q hq => by
        rw [xR_at]
        by_cases e : q = k
        · subst e; rw [upd_at, hu]
        · rw [upd_ne _ _ e]; exact h1 q (by omega)) (fun q hq1 hq2 => by
        rw [xR_at, upd_ne _ _ (by omega)]; exact h2 q (by omega) hq2)
      rw [xR_R] at hf
      exact ⟨f, hf⟩
    rw [xf_B_rankAfter_C18, if_neg (fun h => by
      have := (nI_leI (a := 7) (b := k) (by decide) (by omega)).mp h
      omega)]
    by_cases e : k < r
    · obtain ⟨f, hf⟩ := fin (w.2.1 5 k) (by rw [h2 k (Nat.le_refl k) (by omega)]; unfold cutB; rw [if_neg (by omega)])
      refine ⟨f, ?_⟩
      have e3 : upd (w.2.1 5) k (w.2.1 5 k) = w.2.1 5 := by
        funext j
        unfold upd
        split
        · rename_i hj; rw [hj]
        · rfl
      rw [e3, xR_self] at hf
      rw [if_pos ((nI_ltI (by omega) (by omega)).mpr e), nm_i, nI_1]
      exact hf
    · obtain ⟨f, hf⟩ := fin (nI (if b k ≤ c then b k else c)) (by
        unfold cutB
        by_cases q : b k ≤ c
        · rw [if_pos q, if_neg (by omega)]
        · rw [if_neg q, if_pos (by omega)])
      refine ⟨f, ?_⟩
      rw [if_neg (fun q => e ((nI_ltI (by omega) (by omega)).mp q)), gi_i (ii_ix (by omega) (by decide)), ii_cl (by omega), h2 k (Nat.le_refl k) (by omega), imin_eq (by omega) (by omega), nm_i, gi_i (ii_ix (by omega) (by decide)), xU_R, nm_i, nm_i, nI_1]
      exact hf
theorem xf_rankAfter_eq {s r c : Nat} {w : xW} (hL : Lx w) (hs : s < 3432) (hr : r < 7) (hc : c < ub s r) : ∃ f, xf_B_rankAfter (nI s) (nI (sm (ub s) r + c)) w = some (nI (rk (cutB (ub s) r c)), xR w 5 f) := by
  obtain ⟨f, f0, f1, -⟩ := xf_rowCol_eq hL hs hr hc
  obtain ⟨g, g0, -, g1⟩ := xf_rowCol_eq (w := xR w 5 f) (hL.R (by decide)) hs hr hc
  have hu : ub s r ≤ 7 := gv_7 _ _
  obtain ⟨f', hf'⟩ := xf_ra_loop hr (show c ≤ 7 by omega) (ub_fall hs) 7 0 fu (xR (xR w 5 f) 5 g) ((hL.R (by decide)).R (by decide)) rfl (Nat.zero_le _) (fu_gt (by decide)) (fun q hq => absurd hq (Nat.not_lt_zero q)) (fun q _ hq => by rw [xR_at]; exact g0 q hq)
  rw [xR_R, xR_R] at hf'
  rw [xR_R] at g1
  refine ⟨f', ?_⟩
  unfold xf_B_rankAfter
  rw [bn2_i f1, bn2_i g1]
  exact hf'
theorem xf_rob_fill {a b : Nat} (ha : a ≤ 7) (hb : b ≤ 7) : ∀ (d r n : Nat) (w : xW), Lx w → d = 7 - r → r ≤ 7 → d < n → (∀ q, q < r → w.2.1 5 q = nI (blk a b q)) → ∃ f, xf_B_rankOfBlock_C2 n (nI a) (nI b) (nI r) w = some (nI (rk (blk a b)), xR w 5 f)
  | d, r, 0, w, _, hd, hr, hn, _ => by omega
  | 0, r, n + 1, w, hL, hd, hr, hn, h15 => by
    have e : r = 7 := by omega
    subst e
    refine ⟨w.2.1 5, ?_⟩
    rw [xf_B_rankOfBlock_C2, if_pos (show (7 : Int32) ≤ nI 7 from (nI_leI (a := 7) (by decide) (by decide)).mpr (Nat.le_refl 7)), bn_i (xf_rankOfLines_eq hL (blk_fall hb) h15), xR_self]
  | d + 1, r, n + 1, w, hL, hd, hr, hn, h15 => by
    have fin : ∀ v : Int32, v = nI (blk a b r) → ∃ f, xf_B_rankOfBlock_C26 (xf_B_rankOfBlock_C2 n) (nI a) (nI b) (nI r) (nI r) v w = some (nI (rk (blk a b)), xR w 5 f) := by
      intro v hv
      obtain ⟨f, hf⟩ := xf_rob_fill ha hb d (r + 1) n (xR w 5 (upd (w.2.1 5) r v)) (hL.R (by decide)) (by omega) (by omega) (by omega) (fun q hq => by
        rw [xR_at]
        by_cases e : q = r
        · subst e; rw [upd_at, hv]
        · rw [upd_ne _ _ e]; exact h15 q (by omega))
      rw [xR_R] at hf
      refine ⟨f, ?_⟩
      unfold xf_B_rankOfBlock_C26
      rw [gi_i (ii_ix (by omega) (by decide)), ii_cl (by omega), xU_R, nm_i, nm_i, nI_1]
      exact hf
    rw [xf_B_rankOfBlock_C2, if_neg (fun q => by
      have := (nI_leI (a := 7) (b := r) (by decide) (by omega)).mp q
      omega)]
    by_cases e : a ≤ r
    · rw [if_pos ((nI_leI (by omega) (by omega)).mpr e)]
      exact fin _ (by unfold blk; rw [if_neg (by omega)]; rfl)
    · rw [if_neg (fun q => e ((nI_leI (by omega) (by omega)).mp q))]
      exact fin _ (by unfold blk; rw [if_pos (by omega)])
theorem xf_rankOfBlock_eq {a b : Nat} {w : xW} (hL : Lx w) (ha : a ≤ 7) (hb : b ≤ 7) : ∃ f, xf_B_rankOfBlock (nI a) (nI b) w = some (nI (rk (blk a b)), xR w 5 f) :=
  xf_rob_fill ha hb 7 0 fu w hL rfl (Nat.zero_le _) (fu_gt (by decide)) (fun q hq => absurd hq (Nat.not_lt_zero q))
