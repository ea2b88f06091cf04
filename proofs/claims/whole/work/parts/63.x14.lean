/-! ===== class: an order of divisors ===== -/
theorem xf_ld_loop {N : Nat} (h1 : 1 ≤ N) (hN : N ≤ 10000) : ∀ (d m k : Nat) (w : xW), d = N - m → m ≤ N → d < k → (∀ t, t < dcn N m → t < 12 → w.2.1 2 t = nI (dv N t)) → ∃ f, xf_C_listDivisors_C4 k (nI N) (nI (dcn N m)) (nI (m + 1)) w = some (nI (dcn N N), xR w 2 f) ∧ ∀ t, t < dcn N N → t < 12 → f t = nI (dv N t)
  | d, m, 0, w, hd, hm, hk, _ => by omega
  | 0, m, k + 1, w, hd, hm, hk, hT => by
    have e : m = N := by omega
    subst e
    refine ⟨w.2.1 2, ?_, hT⟩
    rw [xf_C_listDivisors_C4, if_pos ((nI_ltI (by omega) (by omega)).mpr (by omega)), xR_self]
  | d + 1, m, k + 1, w, hd, hm, hk, hT => by
    have h3 : dcn N (m + 1) = dcn N m + (if N % (m + 1) = 0 then 1 else 0) := rfl
    have hle := dcn_le N m
    have hmod := Nat.mod_lt N (show 0 < m + 1 by omega)
    rw [xf_C_listDivisors_C4, if_neg (fun q => by
      have := (nI_ltI (by omega) (by omega)).mp q
      omega), if_neg (show ¬ ((10000 : Int32) < nI (m + 1)) from fun q => by
      have := (nI_ltI (a := 10000) (by decide) (by omega)).mp q
      omega), gd_i (ii_ne0 (show m + 1 ≠ 0 by omega) (by omega)), rem_eq (by omega) (by omega) (by omega)]
    by_cases e : N % (m + 1) = 0
    · rw [if_pos e] at h3
      rw [if_pos (show nI (N % (m + 1)) = (0 : Int32) by rw [e]; rfl)]
      by_cases e12 : 12 ≤ dcn N m
      · obtain ⟨f, f1, f2⟩ := xf_ld_loop h1 hN d (m + 1) k w (by omega) (by omega) (by omega) (fun t ht h12 => hT t (by omega) h12)
        refine ⟨f, ?_, f2⟩
        rw [if_pos (show (12 : Int32) ≤ nI (dcn N m) from (nI_leI (a := 12) (by decide) (by omega)).mpr e12), nm_i, nm_i, nI_1, nI_1, ← f1, h3]
      · obtain ⟨f, f1, f2⟩ := xf_ld_loop h1 hN d (m + 1) k (xR w 2 (upd (w.2.1 2) (dcn N m) (nI (m + 1)))) (by omega) (by omega) (by omega) (fun t ht h12 => by
          rw [xR_at]
          by_cases e2 : t = dcn N m
          · rw [e2, upd_at, dv_eq (show m < N by omega) e rfl]
          · rw [upd_ne _ _ e2]; exact hT t (by omega) h12)
        rw [xR_R] at f1
        refine ⟨f, ?_, f2⟩
        rw [if_neg (show ¬ ((12 : Int32) ≤ nI (dcn N m)) from fun q => e12 ((nI_leI (a := 12) (by decide) (by omega)).mp q)), gi_i (ii_ix (show dcn N m < 12 by omega) (by decide)), nm_i, nm_i, nm_i, ii_cl (by omega), nI_1, nI_1, xU_R, ← f1, h3]
    · rw [if_neg e] at h3
      obtain ⟨f, f1, f2⟩ := xf_ld_loop h1 hN d (m + 1) k w (by omega) (by omega) (by omega) (fun t ht h12 => hT t (by omega) h12)
      refine ⟨f, ?_, f2⟩
      rw [if_neg (ii_ne0 e (by omega)), nm_i, nI_1, ← f1, h3]
      rfl
def PSt (g r m : Nat) (A : Nat → Nat) (w0 w : xW) : Prop := Xo g w0 w ∧ w.2.2.1 0 g = nI 1 ∧ w.2.2.1 1 g = nI r ∧ w.2.2.1 2 g = nI (2 ^ m - 1) ∧ w.2.2.1 3 g = nI (2 ^ m - 1) ∧ w.2.2.1 4 g = 0 ∧ w.2.2.1 5 g = 0 ∧ ∀ q, q < m → w.2.2.2.1 0 g q = nI (A q)
theorem xf_pm_add {g r M : Nat} {w0 : xW} (hM : M ≤ 12) : ∀ (d a k : Nat) (w : xW), d = M - a → a ≤ M → d < k → PSt g r a P2 w0 w → ∃ w', xf_G_putMultiples_C2 g k (nI M) (nI a) w = xf_G_putMultiples_C20 g fu (nI M) (0 : Int32) w' ∧ PSt g r M P2 w0 w'
  | d, a, 0, w, hd, ha, hk, _ => by omega
  | 0, a, k + 1, w, hd, ha, hk, hP => by
    have e : a = M := by omega
    subst e
    refine ⟨w, ?_, hP⟩
    rw [xf_G_putMultiples_C2, if_pos ((nI_leI (by omega) (by omega)).mpr (Nat.le_refl a))]
  | d + 1, a, k + 1, w, hd, ha, hk, hP => by
    obtain ⟨p1, p2, p3, p4, p5, p6, p7, p8⟩ := hP
    obtain ⟨w1, a1, a2, b0, b1, b2, b3, b4, b5, b6⟩ := xf_addPart_eq (g := g) (show a < 15 by omega) p4
    rw [full_s] at b2 b3
    obtain ⟨w', c1, c2⟩ := xf_pm_add hM d (a + 1) k w1 (by omega) (by omega) (by omega) ⟨p1.tr a2, b0.trans p2, b1.trans p3, b2, b3, b4, b5, fun q hq => by
      rw [b6]
      by_cases e : q = a
      · rw [e, upd_at]; rfl
      · rw [upd_ne _ _ e]; exact p8 q (by omega)⟩
    refine ⟨w', ?_, c2⟩
    rw [xf_G_putMultiples_C2, if_neg (fun q => by
      have := (nI_leI (by omega) (by omega)).mp q
      omega), bn_i a1, nm_i, nI_1, c1]
def AP (N : Nat) (A : Nat → Nat) (a b : Nat) : Prop := Ok 1 A ∧ Tr 1 A (2 ^ dcn N N - 1) ∧ (∀ q, q < dcn N N → ∀ i, (A q).testBit i = true → (Adiv N q).testBit i = true) ∧ ∀ a' b', (a' < a ∨ (a' = a ∧ b' < b)) → a' < b' → b' < dcn N N → dv N b' % dv N a' = 0 → (A a').testBit b' = true
theorem dv_of {N t : Nat} (ht : t < dcn N N) : ∃ e, e < N ∧ N % (e + 1) = 0 ∧ dcn N e = t ∧ dv N t = e + 1 := by
  obtain ⟨e, h1, h2, h3⟩ := dv_ex N ht
  exact ⟨e, h1, h2, h3, dv_eq h1 h2 h3⟩
theorem in_m {m q : Nat} : (2 ^ m - 1).testBit q = true ↔ q < m := by
  rw [Nat.testBit_two_pow_sub_one, decide_eq_true_eq]
theorem Adiv_ab {N a b : Nat} (ha : a < dcn N N) (hb : b < dcn N N) (hab : a < b) (hd : dv N b % dv N a = 0) : (Adiv N a).testBit b = true := by
  obtain ⟨e, e1, e2, e3, e4⟩ := dv_of hb
  obtain ⟨f, f1, f2, f3, f4⟩ := dv_of ha
  refine (Adiv_bit ha).mpr (Or.inr ⟨e, e1, e2, by rw [← e4]; exact hd, fun q => ?_, e3⟩)
  have : e = f := by omega
  subst this
  omega
theorem bl_bit {A : Nat → Nat} {a b q i : Nat} : (blA A a b q).testBit i = true ↔ (A q).testBit i = true ∨ ((A q).testBit a = true ∧ (A b).testBit i = true) := by
  unfold blA
  by_cases e : (A q).testBit a = true
  · rw [if_pos e, Nat.testBit_or, Bool.or_eq_true]
    exact ⟨fun h => h.elim Or.inl (fun h => Or.inr ⟨e, h⟩), fun h => h.elim Or.inl (fun h => Or.inr h.2)⟩
  · rw [if_neg e]
    exact ⟨Or.inl, fun h => h.elim id (fun h => absurd h.1 e)⟩
theorem AP.step {N a b : Nat} {A : Nat → Nat} (h : AP N A a b) (hab : a < b) (hb : b < dcn N N) (h12 : dcn N N ≤ 12) (hd : dv N b % dv N a = 0) : AP N (blA A a b) a (b + 1) := by
  obtain ⟨h1, h2, h3, h4⟩ := h
  have ha : a < dcn N N := by omega
  refine ⟨fun hk q hq => bl_bit.mpr (Or.inl (h1 hk q hq)), fun hk q hq p hp => ⟨?_, fun z hz => ?_⟩, fun q hq i hi => ?_, fun a' b' ho hab' hb' hd' => ?_⟩
  · rcases bl_bit.mp hp with g | ⟨g1, g2⟩
    · exact ((h2 hk q hq) p g).1
    · exact ((h2 hk b (in_m.mpr hb)) p g2).1
  · rcases bl_bit.mp hp with g | ⟨g1, g2⟩
    · rcases bl_bit.mp hz with k | ⟨k1, k2⟩
      · exact bl_bit.mpr (Or.inl (((h2 hk q hq) p g).2 z k))
      · exact bl_bit.mpr (Or.inr ⟨((h2 hk q hq) p g).2 a k1, k2⟩)
    · rcases bl_bit.mp hz with k | ⟨k1, k2⟩
      · exact bl_bit.mpr (Or.inr ⟨g1, ((h2 hk b (in_m.mpr hb)) p g2).2 z k⟩)
      · exact bl_bit.mpr (Or.inr ⟨g1, k2⟩)
  · rcases bl_bit.mp hi with g | ⟨g1, g2⟩
    · exact h3 q hq i g
    · have t := Adiv_tr N (by decide) q (in_m.mpr hq)
      have hbq := (t a (h3 q hq a g1)).2 b (Adiv_ab ha hb hab hd)
      exact (t b hbq).2 i (h3 b hb i g2)
  · by_cases e : a' = a ∧ b' = b
    · rw [e.1, e.2]
      exact bl_bit.mpr (Or.inr ⟨h1 (by decide) a (by omega), h1 (by decide) b (by omega)⟩)
    · refine bl_bit.mpr (Or.inl (h4 a' b' ?_ hab' hb' hd'))
      rcases ho with q | ⟨q1, q2⟩
      · exact Or.inl q
      · have : b' ≠ b := fun z => e ⟨q1, z⟩
        exact Or.inr ⟨q1, by omega⟩
theorem AP.skip {N a b : Nat} {A : Nat → Nat} (h : AP N A a b) (hd : dv N b % dv N a ≠ 0) : AP N A a (b + 1) := by
  obtain ⟨h1, h2, h3, h4⟩ := h
  refine ⟨h1, h2, h3, fun a' b' ho hab' hb' hd' => ?_⟩
  by_cases e : a' = a ∧ b' = b
  · rw [e.1, e.2] at hd'; exact absurd hd' hd
  · refine h4 a' b' ?_ hab' hb' hd'
    rcases ho with q | ⟨q1, q2⟩
    · exact Or.inl q
    · have : b' ≠ b := fun z => e ⟨q1, z⟩
      exact Or.inr ⟨q1, by omega⟩
theorem AP.line {N a b : Nat} {A : Nat → Nat} (h : AP N A a b) (hb : dcn N N ≤ b) : AP N A (a + 1) (a + 2) := by
  obtain ⟨h1, h2, h3, h4⟩ := h
  refine ⟨h1, h2, h3, fun a' b' ho hab' hb' hd' => h4 a' b' ?_ hab' hb' hd'⟩
  rcases ho with q | ⟨q1, q2⟩
  · by_cases e : a' = a
    · exact Or.inr ⟨e, by omega⟩
    · exact Or.inl (by omega)
  · omega
theorem AP.all {N : Nat} {A : Nat → Nat} (h : AP N A (dcn N N) (dcn N N + 1)) (h12 : dcn N N ≤ 12) {q : Nat} (hq : q < dcn N N) : A q = Adiv N q := by
  obtain ⟨h1, h2, h3, h4⟩ := h
  apply Nat.eq_of_testBit_eq
  intro i
  rw [Bool.eq_iff_iff]
  refine ⟨h3 q hq i, fun hi => ?_⟩
  rcases (Adiv_bit hq).mp hi with rfl | ⟨e, e1, e2, e3, e4, e5⟩
  · exact h1 (by decide) i (by omega)
  · obtain ⟨f, f1, f2, f3, f4⟩ := dv_of hq
    have g1 : dcn N (e + 1) = dcn N e + (if N % (e + 1) = 0 then 1 else 0) := rfl
    have g2 : dcn N (f + 1) = dcn N f + (if N % (f + 1) = 0 then 1 else 0) := rfl
    rw [if_pos e2] at g1
    rw [if_pos f2] at g2
    have g3 := dcn_mono N N (show e + 1 ≤ N by omega)
    have g4 : f + 1 ≤ e + 1 := Nat.le_of_dvd (by omega) (Nat.dvd_of_mod_eq_zero (by rw [← f4]; exact e3))
    have g5 := dcn_mono N e (show f + 1 ≤ e by omega)
    exact h4 q i (Or.inl hq) (by omega) (by omega) (by rw [dv_eq e1 e2 e5]; exact e3)
theorem xf_pm_in {g r N a : Nat} {w0 : xW} {K : Int32 → Int32 → xW → Option xW} (h12 : dcn N N ≤ 12) (hN : N ≤ 10000) (ha : a < dcn N N) (h2 : ∀ t, t < dcn N N → w0.2.1 2 t = nI (dv N t)) : ∀ (d b k : Nat) (w : xW) (A : Nat → Nat), d = dcn N N - b → a < b → b ≤ dcn N N → d < k → AP N A a b → PSt g r (dcn N N) A w0 w → ∃ w' A', xf_G_putMultiples_C30 g K k (nI (dcn N N)) (nI a) (nI b) w = K (nI (dcn N N)) (nI (a + 1)) w' ∧ AP N A' a (dcn N N) ∧ PSt g r (dcn N N) A' w0 w'
  | d, b, 0, w, A, hd, hab, hb, hk, _, _ => by omega
  | 0, b, k + 1, w, A, hd, hab, hb, hk, hA, hP => by
    have e : b = dcn N N := by omega
    subst e
    refine ⟨w, A, ?_, hA, hP⟩
    rw [xf_G_putMultiples_C30, if_pos ((nI_leI (by omega) (by omega)).mpr (Nat.le_refl _)), nm_i, nI_1]
  | d + 1, b, k + 1, w, A, hd, hab, hb, hk, hA, hP => by
    obtain ⟨ea, a1, a2, a3, a4⟩ := dv_of ha
    obtain ⟨eb, b1, b2, b3, b4⟩ := dv_of (show b < dcn N N by omega)
    have hmod := Nat.mod_lt (dv N b) (show 0 < dv N a by omega)
    obtain ⟨p1, p2, p3, p4, p5, p6, p7, p8⟩ := id hP
    have h2a : w.2.1 2 a = nI (dv N a) := by rw [p1.2.1]; exact h2 a ha
    have h2b : w.2.1 2 b = nI (dv N b) := by rw [p1.2.1]; exact h2 b (by omega)
    rw [xf_G_putMultiples_C30, if_neg (fun q => by
      have := (nI_leI (by omega) (by omega)).mp q
      omega), bn_i (xf_at_eq (by decide) (by omega)), h2a, if_neg (nI_nle (by omega) (by omega)), bn_i (xf_at_eq (by decide) (by omega)), h2b, gd_i (ii_ne0 (show dv N a ≠ 0 by omega) (by omega)), rem_eq (by omega) (by omega) (by omega)]
    by_cases e : dv N b % dv N a = 0
    · have hst := hA.step hab (by omega) h12 e
      obtain ⟨w1, c1, c2, c3, c4, c5, c6, c7, c8, -, c10⟩ := xf_putBelow_eq (w := w) (g := g) (a := a) (b := b) (A := A) h12 rfl ha (by omega) hA.1 hA.2.1 p4 p8 (fun q => absurd p7 q) hst.1
      obtain ⟨w', A', f1, f2, f3⟩ := xf_pm_in (K := K) h12 hN ha h2 d (b + 1) k w1 (blA A a b) (by omega) (by omega) (by omega) (by omega) hst ⟨p1.tr c2, c3.trans p2, c4.trans p3, c5, c6, c7, c10 p7, c8⟩
      refine ⟨w', A', ?_, f2, f3⟩
      rw [if_pos (show nI (dv N b % dv N a) = (0 : Int32) by rw [e]; rfl), bn_i c1, nm_i, nI_1, f1]
    · obtain ⟨w', A', f1, f2, f3⟩ := xf_pm_in (K := K) h12 hN ha h2 d (b + 1) k w A (by omega) (by omega) (by omega) (by omega) (hA.skip e) hP
      refine ⟨w', A', ?_, f2, f3⟩
      rw [if_neg (ii_ne0 e (by omega)), nm_i, nI_1, f1]
theorem xf_pm_out {g r N : Nat} {w0 : xW} (h12 : dcn N N ≤ 12) (hN : N ≤ 10000) (h2 : ∀ t, t < dcn N N → w0.2.1 2 t = nI (dv N t)) : ∀ (d a k : Nat) (w : xW) (A : Nat → Nat), d = dcn N N - a → a ≤ dcn N N → d < k → AP N A a (a + 1) → PSt g r (dcn N N) A w0 w → ∃ w' A', xf_G_putMultiples_C20 g k (nI (dcn N N)) (nI a) w = some w' ∧ AP N A' (dcn N N) (dcn N N + 1) ∧ PSt g r (dcn N N) A' w0 w'
  | d, a, 0, w, A, hd, ha, hk, _, _ => by omega
  | 0, a, k + 1, w, A, hd, ha, hk, hA, hP => by
    have e : a = dcn N N := by omega
    subst e
    refine ⟨w, A, ?_, hA, hP⟩
    rw [xf_G_putMultiples_C20, if_pos ((nI_leI (by omega) (by omega)).mpr (Nat.le_refl _))]
  | d + 1, a, k + 1, w, A, hd, ha, hk, hA, hP => by
    obtain ⟨w1, A1, f1, f2, f3⟩ := xf_pm_in (K := xf_G_putMultiples_C20 g k) h12 hN (show a < dcn N N by omega) h2 (dcn N N - (a + 1)) (a + 1) fu w A rfl (by omega) (by omega) (fu_gt (by omega)) hA hP
    obtain ⟨w', A', g1, g2, g3⟩ := xf_pm_out h12 hN h2 d (a + 1) k w1 A1 (by omega) (by omega) (by omega) (f2.line (Nat.le_refl _)) f3
    refine ⟨w', A', ?_, g2, g3⟩
    rw [xf_G_putMultiples_C20, if_neg (fun q => by
      have := (nI_leI (by omega) (by omega)).mp q
      omega), nm_i, nI_1, f1, g1]
theorem AP.start (N : Nat) : AP N P2 0 1 := by
  refine ⟨fun _ q _ => ?_, fun _ q hq p hp => ?_, fun q _ i hi => ?_, fun a' b' ho hab => by omega⟩
  · show (2 ^ q).testBit q = true
    rw [Nat.testBit_two_pow]; exact decide_eq_true rfl
  · have hp' : (2 ^ q).testBit p = true := hp
    rw [Nat.testBit_two_pow, decide_eq_true_eq] at hp'
    subst hp'
    exact ⟨hq, fun z hz => hz⟩
  · have hi' : (2 ^ q).testBit i = true := hi
    rw [Nat.testBit_two_pow, decide_eq_true_eq] at hi'
    subst hi'
    exact Adiv_self N q
theorem XI.R2 {n : Nat} {G : Nat → AG} {w : xW} (h : XI n G w) (f : Nat → Int32) : XI n G (xR w 2 f) := by
  obtain ⟨h1, h2, h3, h4, h5⟩ := h
  exact ⟨h1, h2, h3.R (by decide), fun q => (h4 q).R (by decide) (by decide) (by decide), h5⟩
theorem XI.divisors {n : Nat} {G : Nat → AG} {w : xW} (h : XI n G w) (x y : Int32) (hO : AO (a_div n G x y)) : ∃ w', xf_C_divisors x y w = some ((a_div n G x y).1, w') ∧ XI (a_div n G x y).2.1 (a_div n G x y).2.2 w' := by
  unfold a_div at hO ⊢
  unfold xf_C_divisors
  rw [bn_i (show xf_C_isWithin x (1 : Int32) (10000 : Int32) = _ from xf_rng 1 10000 (by decide) (by decide) x), bn_i (show xf_C_isWithin y (0 : Int32) (1 : Int32) = _ from xf_rng 0 1 (by decide) (by decide) y)]
  by_cases hx : rng 1 10000 x = true
  · rw [if_pos hx, if_neg (show ¬ ((1 : Int32) = 0) by decide)]
    by_cases hy : rng 0 1 y = true
    · obtain ⟨N, x1, x2, x3, x4⟩ := rng_t hx
      obtain ⟨r, y1, y2, y3, y4⟩ := rng_t hy
      obtain ⟨f, f1, f2⟩ := xf_ld_loop x1 x2 N 0 fu w rfl (Nat.zero_le _) (fu_gt (by omega)) (fun t ht => absurd ht (Nat.not_lt_zero t))
      have hld : xf_C_listDivisors x w = some (nI (dcn N N), xR w 2 f) := by
        rw [x3]; exact f1
      have hle := dcn_le N N
      rw [if_pos hy, if_neg (show ¬ ((1 : Int32) = 0) by decide), bn2_i hld, x4, y4]
      rw [x4, y4] at hO
      by_cases e12 : dcn N N ≤ 12
      · have hall : rng 1 10000 x = true ∧ dcn N N ≤ 12 ∧ rng 0 1 y = true := ⟨hx, e12, hy⟩
        have hI := h.R2 f
        rw [if_pos hall] at hO
        rw [if_pos (show nI (dcn N N) ≤ (12 : Int32) from (nI_leI (b := 12) (by omega) (by decide)).mpr e12), if_pos hall, bn_i hI.nextG]
        by_cases e : n = 6
        · rw [if_pos e, onO_none, if_pos e]
          exact ⟨_, rfl, hI⟩
        · have h6 := h.1
          have hn : n < 6 := by omega
          rw [if_neg e] at hO
          rw [if_neg e, onO_some, gd_i hn, if_neg e]
          obtain ⟨w1, a1, a2, b0, b1, b2, b3, b4, b5⟩ := xf_begin2_eq (xR w 2 f) n (1 : Int32) y
          have hI1 := hI.off (Nat.le_refl n) a2
          have hr2 : ∀ t, t < dcn N N → w1.2.1 2 t = nI (dv N t) := fun t ht => by
            rw [a2.2.1, xR_at]; exact f2 t ht (by omega)
          obtain ⟨w2, c1, c2⟩ := xf_pm_add (g := n) (r := r) (w0 := w1) e12 (dcn N N) 0 fu w1 rfl (Nat.zero_le _) (fu_gt (by omega)) ⟨Xo.rf n w1, b0, b1.trans y3, b2, b3, b4, b5, fun q hq => absurd hq (Nat.not_lt_zero q)⟩
          obtain ⟨w3, A, d1, d2, d3⟩ := xf_pm_out (g := n) (r := r) (w0 := w1) e12 x2 hr2 (dcn N N) 0 fu w2 P2 rfl (Nat.zero_le _) (fu_gt (by omega)) (AP.start N) c2
          have hpm : xf_G_putMultiples n (nI (dcn N N)) w1 = some w3 := c1.trans d1
          obtain ⟨p1, p2, p3, p4, p5, p6, p7, p8⟩ := d3
          have hI3 := hI1.off (Nat.le_refl n) p1
          have hc := hI3.2.1
          have hXG : XGame w3 n (divG r N) := ⟨p2, p3, p5, p6, fun _ => p4, fun _ q hq => by
            have hq' := in_m.mp hq
            rw [p8 q hq', d2.all e12 hq']; rfl, fun q => absurd (show (1 : Nat) = 0 from q) (by decide), fun i hi => absurd hi (Nat.not_lt_zero i), fun _ q => absurd p7 q⟩
          exact ⟨_, by rw [bn_i a1, bn_i hpm, nm_i, hc, nI_1], hI3.push hn hO hXG⟩
      · have hne : ¬ (rng 1 10000 x = true ∧ dcn N N ≤ 12 ∧ rng 0 1 y = true) := fun q => e12 q.2.1
        rw [if_neg (show ¬ (nI (dcn N N) ≤ (12 : Int32)) from fun q => e12 ((nI_leI (b := 12) (by omega) (by decide)).mp q)), if_neg hne]
        exact ⟨_, rfl, h.R2 f⟩
    · have hne : ¬ (rng 1 10000 x = true ∧ dcn (ixN x) (ixN x) ≤ 12 ∧ rng 0 1 y = true) := fun q => hy q.2.2
      rw [if_neg hy, if_pos rfl, if_neg hne]
      exact ⟨w, rfl, h⟩
  · have hne : ¬ (rng 1 10000 x = true ∧ dcn (ixN x) (ixN x) ≤ 12 ∧ rng 0 1 y = true) := fun q => hx q.1
    rw [if_neg hx, if_pos rfl, if_neg hne]
    exact ⟨w, rfl, h⟩
