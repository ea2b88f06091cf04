/-! ===== class: below and roads ===== -/
theorem Sol_congr {k : Nat} {A A' : Nat → Nat} {M : Nat} (hA : Ok k A) (hA' : Ok k A') (hN : ∀ s i t, Nth k A M s i t ↔ Nth k A' M s i t) : ∀ (m s : Nat), s < m → s < 32768 → Vs k s → Sol k A M s = Sol k A' M s
  | 0, s, hm, _, _ => by omega
  | m + 1, s, hm, hs, hv => by
    obtain ⟨r1, r2, r3⟩ := Sol_rt (M := M) hA s hs hv
    obtain ⟨q1, q2, q3⟩ := Sol_rt (M := M) hA' s hs hv
    have hx : ∀ t, Nx k A M s t → Sol k A M t = Sol k A' M t := fun t ⟨i, ht⟩ => by
      have hl := ht.less hA hv
      exact Sol_congr hA hA' hN m t (by omega) (by omega) hl.2.1
    have hNx : ∀ t, Nx k A M s t ↔ Nx k A' M s t := fun t => ⟨fun ⟨i, h⟩ => ⟨i, (hN s i t).mp h⟩, fun ⟨i, h⟩ => ⟨i, (hN s i t).mpr h⟩⟩
    have e1 := (r1.congr (Q := fun x => ∃ t, Nx k A' M s t ∧ (Sol k A' M t).1 = x) (fun x => ⟨fun ⟨t, a, b⟩ => ⟨t, (hNx t).mp a, by rw [← hx t a]; exact b⟩, fun ⟨t, a, b⟩ => ⟨t, (hNx t).mpr a, by rw [hx t ((hNx t).mpr a)]; exact b⟩⟩)).uniq q1
    have e2 := (r2.congr (Q := fun x => ∃ t, Nx k A' M s t ∧ (Sol k A' M t).2.1 = x) (fun x => ⟨fun ⟨t, a, b⟩ => ⟨t, (hNx t).mp a, by rw [← hx t a]; exact b⟩, fun ⟨t, a, b⟩ => ⟨t, (hNx t).mpr a, by rw [hx t ((hNx t).mpr a)]; exact b⟩⟩)).uniq q2
    have e3 := (r3.congr (Q := fun x => ∃ t, Nx k A' M s t ∧ (Sol k A' M t).2.2 = x) (fun x => ⟨fun ⟨t, a, b⟩ => ⟨t, (hNx t).mp a, by rw [← hx t a]; exact b⟩, fun ⟨t, a, b⟩ => ⟨t, (hNx t).mpr a, by rw [hx t ((hNx t).mpr a)]; exact b⟩⟩)).uniq q3
    exact Prod.ext e1 (Prod.ext e2 e3)
theorem Nth_congr {k : Nat} {A A' : Nat → Nat} {M : Nat} (hE : k ≠ 0 → ∀ q, M.testBit q = true → A q = A' q) (s i t : Nat) : Nth k A M s i t ↔ Nth k A' M s i t := by
  unfold Nth
  by_cases hk : k = 0
  · rw [if_pos hk, if_pos hk]
  · rw [if_neg hk, if_neg hk]
    constructor
    · rintro ⟨q, h1, h2, h3, h4⟩
      have hM : M.testBit q = true := by
        rw [Nat.testBit_and, Bool.and_eq_true] at h2
        exact h2.2
      exact ⟨q, h1, h2, h3, by rw [← hE hk q hM]; exact h4⟩
    · rintro ⟨q, h1, h2, h3, h4⟩
      have hM : M.testBit q = true := by
        rw [Nat.testBit_and, Bool.and_eq_true] at h2
        exact h2.2
      exact ⟨q, h1, h2, h3, by rw [hE hk q hM]; exact h4⟩
theorem St_congr {k : Nat} {A A' : Nat → Nat} {M s : Nat} (hE : ∀ q, M.testBit q = true → A q = A' q) (h : St k A M s) : St k A' M s := by
  unfold St at h ⊢
  split at h
  · rename_i hk; rw [if_pos hk]; exact h
  · rename_i hk
    rw [if_neg hk]
    exact ⟨h.1, fun q h1 h2 p hp => h.2 q h1 h2 p (by rw [hE q h1]; exact hp)⟩
theorem xf_takeAlong_eq {w : xW} {g a B m : Nat} (ha : a < 15) (hr : w.2.2.2.1 0 g a = nI B) : xf_G_takeAlong g (nI a) (nI m) w = some (xV w 0 g a (nI (B ||| m))) := by
  unfold xf_G_takeAlong
  rw [if_neg (nI_pos (by omega)), if_neg (fun h => by
    have := (nI_leI (a := 15) (b := a) (by decide) (by omega)).mp h
    omega), gi_i (ii_ix ha (by decide)), gi_i (ii_ix ha (by decide)), ii_cl (by omega), hr, ii_or, nm_i]
theorem xf_restart_eq {w : xW} {g W : Nat} (h2 : w.2.2.1 2 g = nI W) : ∃ w', xf_G_restart g w = some w' ∧ Xo g w w' ∧ (∀ k, k ≠ 3 → k ≠ 4 → w'.2.2.1 k g = w.2.2.1 k g) ∧ w'.2.2.1 3 g = nI W ∧ w'.2.2.1 4 g = 0 ∧ w'.2.2.2.1 = w.2.2.2.1 := by
  refine ⟨xG (xG w 3 g (nI W)) 4 g 0, ?_, (Xo.G _ _ _ _).tr (Xo.G _ _ _ _), fun k h3 h4 => ?_, ?_, ?_, rfl⟩
  · unfold xf_G_restart
    rw [h2]
    rfl
  · rw [xG_ne _ _ _ h4, xG_ne _ _ _ h3]
  · rw [xG_ne _ _ _ (by decide), xG_at]
  · rw [xG_at]
theorem xf_pb_loop {g a b W th : Nat} {A : Nat → Nat} (hth : th ≤ 12) (hW : W = 2 ^ th - 1) (ha : a < th) (hA : ∀ q, q < th → A q < 32768) : ∀ (d c n : Nat) (w : xW), d = 12 - c → c ≤ 12 → d < n → w.2.2.1 2 g = nI W → (∀ q, q < th → w.2.2.2.1 0 g q = nI (if q < c then blA A a b q else A q)) → ∃ w', xf_G_putBelow_C21 g n (nI a) (nI (A b)) (nI c) w = some w' ∧ Xo g w w' ∧ w'.2.2.1 0 g = w.2.2.1 0 g ∧ w'.2.2.1 1 g = w.2.2.1 1 g ∧ w'.2.2.1 2 g = nI W ∧ w'.2.2.1 3 g = nI W ∧ w'.2.2.1 4 g = 0 ∧ w'.2.2.1 5 g = 0 ∧ ∀ q, q < th → w'.2.2.2.1 0 g q = nI (blA A a b q)
  | d, c, 0, w, hd, hc, hn, _, _ => by omega
  | 0, c, n + 1, w, hd, hc, hn, h2, hR => by
    have e : c = 12 := by omega
    subst e
    obtain ⟨w', r1, r2, r3, r4, r5, r6⟩ := xf_restart_eq (w := xG w 5 g 0) (g := g) (W := W) (by rw [xG_ne _ _ _ (by decide)]; exact h2)
    refine ⟨w', ?_, (Xo.G _ _ _ _).tr r2, ?_, ?_, ?_, r4, r5, ?_, fun q hq => ?_⟩
    · rw [xf_G_putBelow_C21, if_pos (show (12 : Int32) ≤ nI 12 by decide), gd_i (Or.inl rfl), nm_i]
      unfold xf_G_putBelow_C65
      rw [bn_i r1]
    · rw [r3 0 (by decide) (by decide), xG_ne _ _ _ (by decide)]
    · rw [r3 1 (by decide) (by decide), xG_ne _ _ _ (by decide)]
    · rw [r3 2 (by decide) (by decide), xG_ne _ _ _ (by decide)]; exact h2
    · rw [r3 5 (by decide) (by decide), xG_at]
    · rw [r6]
      have := hR q hq
      rw [if_pos (show q < 12 by omega)] at this
      exact this
  | d + 1, c, n + 1, w, hd, hc, hn, h2, hR => by
    have hp : 2 ^ th ≤ 2 ^ 12 := Nat.pow_le_pow_right (by decide) hth
    have hcT : xf_G_countThings g w = some (nI th) := by
      unfold xf_G_countThings
      rw [h2, bn_i (xf_bitCount_eq (by omega)), hW, cn_ord (by omega)]
    have hT : xf_G_hasThing g (nI c) w = some (if c < th then 1 else 0) := by
      unfold xf_G_hasThing
      rw [if_neg (nI_pos (by omega)), bn_i hcT]
      by_cases e : c < th
      · rw [if_neg (fun q => by
          have := (nI_leI (by omega) (by omega)).mp q
          omega), if_pos e]; rfl
      · rw [if_pos ((nI_leI (by omega) (by omega)).mpr (by omega)), if_neg e]; rfl
    have hno : ∀ w1 : xW, w1.2.2.1 = w.2.2.1 → Xo g w w1 → (∀ q, q < th → w1.2.2.2.1 0 g q = nI (if q < c + 1 then blA A a b q else A q)) → ∃ w', xf_G_putBelow_C21 g n (nI a) (nI (A b)) (nI (c + 1)) w1 = some w' ∧ Xo g w w' ∧ w'.2.2.1 0 g = w.2.2.1 0 g ∧ w'.2.2.1 1 g = w.2.2.1 1 g ∧ w'.2.2.1 2 g = nI W ∧ w'.2.2.1 3 g = nI W ∧ w'.2.2.1 4 g = 0 ∧ w'.2.2.1 5 g = 0 ∧ ∀ q, q < th → w'.2.2.2.1 0 g q = nI (blA A a b q) := by
      intro w1 e1 o1 hR1
      obtain ⟨w', c1, c2, c3, c4, c5⟩ := xf_pb_loop (b := b) hth hW ha hA d (c + 1) n w1 (by omega) (by omega) (by omega) (by rw [e1]; exact h2) hR1
      exact ⟨w', c1, o1.tr c2, by rw [c3, e1], by rw [c4, e1], c5⟩
    rw [xf_G_putBelow_C21, if_neg (fun h => by
      have := (nI_leI (a := 12) (b := c) (by decide) (by omega)).mp h
      omega), bn_i hT]
    by_cases e : c < th
    · have hAc := hA c e
      have hrow : w.2.2.2.1 0 g c = nI (A c) := by
        have := hR c e
        rw [if_neg (Nat.lt_irrefl c)] at this
        exact this
      rw [if_pos e, if_neg (show ¬ ((1 : Int32) = 0) by decide), bn_i (xf_takes_eq (b := a) (by omega) (by omega) (show A c < 2 ^ 31 by omega) hrow)]
      by_cases eb : (A c).testBit a = true
      · rw [if_pos eb, if_neg (show ¬ ((1 : Int32) = 0) by decide), bn_i (xf_takeAlong_eq (m := A b) (by omega) hrow), nm_i, nI_1]
        refine hno _ rfl (Xo.V _ _ _ _ _) (fun q hq => ?_)
        rw [xV_at]
        by_cases e2 : q = c
        · rw [e2, upd_at, if_pos (by omega)]
          unfold blA
          rw [if_pos eb]
        · rw [upd_ne _ _ e2, hR q hq]
          by_cases e3 : q < c
          · rw [if_pos e3, if_pos (by omega)]
          · rw [if_neg e3, if_neg (by omega)]
      · rw [if_neg eb, if_pos rfl, nm_i, nI_1]
        refine hno w rfl (Xo.rf g w) (fun q hq => ?_)
        rw [hR q hq]
        by_cases e2 : q = c
        · rw [e2, if_neg (Nat.lt_irrefl c), if_pos (by omega)]
          unfold blA
          rw [if_neg eb]
        · by_cases e3 : q < c
          · rw [if_pos e3, if_pos (by omega)]
          · rw [if_neg e3, if_neg (by omega)]
    · rw [if_neg e, if_pos rfl, nm_i, nI_1]
      refine hno w rfl (Xo.rf g w) (fun q hq => ?_)
      rw [hR q hq, if_pos (by omega), if_pos (by omega)]
/-- one thing put below another, the numbers of the game told -/
theorem xf_putBelow_eq {w : xW} {g a b th W : Nat} {A : Nat → Nat} (hth : th ≤ 12) (hW : W = 2 ^ th - 1) (ha : a < th) (hb : b < th) (hAk : Ok 1 A) (hT : Tr 1 A W) (h2 : w.2.2.1 2 g = nI W) (hR : ∀ q, q < th → w.2.2.2.1 0 g q = nI (A q)) (hC : w.2.2.1 5 g ≠ 0 → ∀ s, St 1 A W s → w.2.2.2.1 3 g s = nI (pF (Sol 1 A W s))) (hOk' : Ok 1 (blA A a b)) : ∃ w', xf_G_putBelow g (nI a) (nI b) w = some w' ∧ Xo g w w' ∧ w'.2.2.1 0 g = w.2.2.1 0 g ∧ w'.2.2.1 1 g = w.2.2.1 1 g ∧ w'.2.2.1 2 g = nI W ∧ w'.2.2.1 3 g = nI W ∧ w'.2.2.1 4 g = 0 ∧ (∀ q, q < th → w'.2.2.2.1 0 g q = nI (blA A a b q)) ∧ (w'.2.2.1 5 g ≠ 0 → ∀ s, St 1 (blA A a b) W s → w'.2.2.2.1 3 g s = nI (pF (Sol 1 (blA A a b) W s))) ∧ (w.2.2.1 5 g = 0 → w'.2.2.1 5 g = 0) := by
  have hp : 2 ^ th ≤ 2 ^ 12 := Nat.pow_le_pow_right (by decide) hth
  have hin : ∀ q, q < th → W.testBit q = true := fun q hq => by rw [hW, Nat.testBit_two_pow_sub_one]; exact decide_eq_true hq
  have hA : ∀ q, q < th → A q < 32768 := fun q hq => by
    have := hT.le (by decide) (hin q hq)
    omega
  unfold xf_G_putBelow
  rw [bn_i (xf_at_eq (by decide) (by omega)), hR b hb, bn_i (xf_takes_eq (b := b) (by omega) (by omega) (show A a < 2 ^ 31 by have := hA a ha; omega) (hR a ha))]
  by_cases e : (A a).testBit b = true
  · obtain ⟨w', r1, r2, r3, r4, r5, r6⟩ := xf_restart_eq (w := w) (g := g) (W := W) h2
    have hsame : ∀ q, W.testBit q = true → blA A a b q = A q := fun q hq => by
      unfold blA
      by_cases eq : (A q).testBit a = true
      · rw [if_pos eq]
        apply Nat.eq_of_testBit_eq
        intro z
        rw [Nat.testBit_or]
        cases hz : (A b).testBit z
        · rw [Bool.or_false]
        · have h1 := ((hT (by decide) q hq) a eq).2 b e
          rw [((hT (by decide) q hq) b h1).2 z hz]; rfl
      · rw [if_neg eq]
    refine ⟨w', ?_, r2, r3 0 (by decide) (by decide), r3 1 (by decide) (by decide), (r3 2 (by decide) (by decide)).trans h2, r4, r5, fun q hq => ?_, fun h5 s hs => ?_, fun h => (r3 5 (by decide) (by decide)).trans h⟩
    · rw [if_pos e, if_neg (show ¬ ((1 : Int32) = 0) by decide)]
      unfold xf_G_putBelow_C65
      rw [bn_i r1]
    · rw [r6, hsame q (hin q hq)]; exact hR q hq
    · rw [r3 5 (by decide) (by decide)] at h5
      have hs' : St 1 A W s := St_congr hsame hs
      have hsl := hs'.le (fun h => absurd h (by decide))
      rw [r6, hC h5 s hs', Sol_congr hAk hOk' (Nth_congr (fun _ q hq => (hsame q hq).symm)) (s + 1) s (by omega) (by omega) hs'.vs]
  · rw [if_neg e, if_pos rfl]
    obtain ⟨w', c1, c2, c3, c4, c5, c6, c7, c8, c9⟩ := xf_pb_loop (g := g) (b := b) hth hW ha hA 12 0 fu w rfl (Nat.zero_le _) (fu_gt (by decide)) h2 (fun q hq => by rw [if_neg (Nat.not_lt_zero q)]; exact hR q hq)
    exact ⟨w', c1, c2, c3, c4, c5, c6, c7, c9, fun h => absurd c8 h, fun _ => c8⟩
theorem xf_cp_loop {w : xW} {g th : Nat} {B : Nat → Nat} (hth : th ≤ 12) (h2 : w.2.2.1 2 g = nI (2 ^ th - 1)) (hR : ∀ q, q < th → w.2.2.2.1 0 g q = nI (B q) ∧ B q < 2 ^ 15 ∧ (B q).testBit q = true) : ∀ (d a n : Nat), d = th - a → a ≤ th → d < n → xf_G_countPairs_C4 g w n (nI (prs B a)) (nI a) = some (nI (prs B th))
  | d, a, 0, hd, ha, hn => by omega
  | 0, a, n + 1, hd, ha, hn => by
    have e : a = th := by omega
    have hp : 2 ^ th ≤ 2 ^ 12 := Nat.pow_le_pow_right (by decide) hth
    have hcT : xf_G_countThings g w = some (nI th) := by
      unfold xf_G_countThings
      rw [h2, bn_i (xf_bitCount_eq (by omega)), cn_ord (by omega)]
    rw [xf_G_countPairs_C4, bn_i hcT, if_pos ((nI_leI (by omega) (by omega)).mpr (by omega)), e]
  | d + 1, a, n + 1, hd, ha, hn => by
    have hp : 2 ^ th ≤ 2 ^ 12 := Nat.pow_le_pow_right (by decide) hth
    have hcT : xf_G_countThings g w = some (nI th) := by
      unfold xf_G_countThings
      rw [h2, bn_i (xf_bitCount_eq (by omega)), cn_ord (by omega)]
    obtain ⟨r1, r2, r3⟩ := hR a (by omega)
    have hc1 := cn_step r3 (show a < 15 by omega)
    have e : prs B (a + 1) = prs B a + (cn (B a) 15 - 1) := rfl
    rw [xf_G_countPairs_C4, bn_i hcT, if_neg (fun q => by
      have := (nI_leI (by omega) (by omega)).mp q
      omega), bn_i (xf_at_eq (by decide) (by omega)), r1, bn_i (xf_bitCount_eq r2), nm_i, show nI (cn (B a) 15) - (1 : Int32) = nI (cn (B a) 15 - 1) from ii_sub (b := 1) (by omega), nI_add, ← e, nm_i, nI_1]
    exact xf_cp_loop hth h2 hR d (a + 1) n (by omega) (by omega) (by omega)
theorem XI.below {n : Nat} {G : Nat → AG} {w : xW} (h : XI n G w) (x y z : Int32) (hM : ∀ g, g < n → Mk (G g)) (hO : AO (a_below n G x y z)) : ∃ w', xf_C_below x y z w = some ((a_below n G x y z).1, w') ∧ XI (a_below n G x y z).2.1 (a_below n G x y z).2.2 w' := by
  unfold a_below isT at hO ⊢
  unfold xf_C_below
  rw [bn_i (show xf_C_gameOf x (1 : Int32) w = _ from h.of x (k := 1) (by decide))]
  by_cases hx : isG n x = true ∧ gk (G (ixN x)) = 1
  · obtain ⟨h1, h2, h3, h4, h5⟩ := h.get hx.1
    obtain ⟨th, t1, t2⟩ := (hM _ h1).1 hx.2
    have hc : cn (gW (G (ixN x))) 15 = th := by rw [t2]; exact cn_ord (by omega)
    have hk : gk (G (ixN x)) ≠ 0 := by rw [hx.2]; decide
    have hW := h4.2.2.2.2.1
    rw [hx.1, decide_eq_true hx.2, Bool.true_and, Bool.true_and, Bool.true_and, Bool.true_and] at hO
    rw [if_pos hx, onO_some, gd_i h3, bn_i (h.ht h1 hk y), bn_i (h.ht h1 hk z), hx.1, decide_eq_true hx.2, Bool.true_and, Bool.true_and, Bool.true_and, Bool.true_and]
    by_cases hy : isG (cn (gW (G (ixN x))) 15) y = true
    · rw [if_pos hy, if_neg (show ¬ ((1 : Int32) = 0) by decide)]
      by_cases hz : isG (cn (gW (G (ixN x))) 15) z = true
      · obtain ⟨y1, y2⟩ := isG_t hy
        obtain ⟨z1, z2⟩ := isG_t hz
        rw [if_pos (⟨hy, hz⟩ : _ ∧ _)] at hO
        have hin : ∀ q, q < th → (gW (G (ixN x))).testBit q = true := fun q hq => by rw [t2, Nat.testBit_two_pow_sub_one]; exact decide_eq_true hq
        obtain ⟨x0, x1, x3, x4, x2, xA, xP, xB, xC⟩ := id h5
        have hAl := h4.2.2.2.1.le hk (hin _ (show ixN z < th by omega))
        have htk := xf_takes_eq (g := ixN x) (a := ixN z) (b := ixN y) (by omega) (by omega) (show gA (G (ixN x)) (ixN z) < 2 ^ 31 by omega) (xA hk _ (hin _ (by omega)))
        rw [← y2, ← z2] at htk
        rw [if_pos hz, if_neg (show ¬ ((1 : Int32) = 0) by decide), if_pos (⟨hy, hz⟩ : _ ∧ _), bn_i htk]
        by_cases e : y = z
        · rw [if_pos e, if_pos (Or.inl (by rw [e]))]
          exact ⟨w, rfl, h⟩
        · have e' : ixN y ≠ ixN z := fun q => e (by rw [y2, z2, q])
          rw [if_neg e]
          by_cases eb : (gA (G (ixN x)) (ixN z)).testBit (ixN y) = true
          · rw [if_pos eb, if_neg (show ¬ ((1 : Int32) = 0) by decide), if_pos (Or.inr eb)]
            exact ⟨w, rfl, h⟩
          · have hnn : ¬ (ixN y = ixN z ∨ (gA (G (ixN x)) (ixN z)).testBit (ixN y) = true) := fun q => q.elim e' eb
            rw [if_neg hnn] at hO
            rw [if_neg eb, if_pos (show (0 : Int32) = 0 from rfl), if_neg hnn]
            have hGn : GOk (upG G (ixN x) (agn (G (ixN x)) (blA (gA (G (ixN x))) (ixN y) (ixN z)) (gW (G (ixN x)))) (ixN x)) := hO (ixN x) h1
            rw [upG_at] at hGn
            obtain ⟨n1, n2, n3, n4, n5, n6, -⟩ := hGn
            have hOk' : Ok 1 (blA (gA (G (ixN x))) (ixN y) (ixN z)) := fun hq => by
              have := n3 hk
              exact this
            have hTr' : Tr 1 (blA (gA (G (ixN x))) (ixN y) (ixN z)) (gW (G (ixN x))) := fun hq => n4 hk
            obtain ⟨w', c1, c2, c3, c4, c5, c6, c7, c8, c9⟩ := xf_putBelow_eq (w := w) (g := ixN x) (a := ixN y) (b := ixN z) (A := gA (G (ixN x))) t1 t2 (by omega) (by omega) (fun _ => h4.2.2.1 hk) (fun _ => h4.2.2.2.1 hk) (x2 hk) (fun q hq => xA hk q (hin q hq)) (by
              have := xC hk
              unfold gF at this
              rw [hx.2] at this
              exact this) hOk'
            have hXG : XGame w' (ixN x) (agn (G (ixN x)) (blA (gA (G (ixN x))) (ixN y) (ixN z)) (gW (G (ixN x)))) := xg_agn hk (c3.trans x0) (c4.trans x1) c5 c6 c7 (by rw [hx.2]; exact c9.1) (fun q hq => c8 q (by
              rw [t2, Nat.testBit_two_pow_sub_one, decide_eq_true_eq] at hq
              exact hq))
            have hcp := xf_cp_loop (w := w') (g := ixN x) (B := blA (gA (G (ixN x))) (ixN y) (ixN z)) t1 (by rw [c5, t2]) (fun q hq => by
              have hle := hTr'.le (by decide) (hin q hq)
              exact ⟨c8 q hq, by omega, hOk' (by decide) q (by omega)⟩) th 0 fu rfl (Nat.zero_le _) (fu_gt (by omega))
            refine ⟨w', ?_, h.put c2 hO hXG⟩
            rw [← y2, ← z2] at c1
            rw [bn_i c1, bn_i (show xf_G_countPairs (ixN x) w' = _ from hcp), hc]
      · rw [if_neg hz, if_pos rfl, if_neg (fun q => hz q.2)]
        exact ⟨w, rfl, h⟩
    · rw [if_neg hy, if_pos rfl, if_neg (fun q => hy q.1)]
      exact ⟨w, rfl, h⟩
  · have hne : ¬ ((isG n x && (decide (gk (G (ixN x)) = 1) && isG (cn (gW (G (ixN x))) 15) y)) = true ∧ (isG n x && (decide (gk (G (ixN x)) = 1) && isG (cn (gW (G (ixN x))) 15) z)) = true) := by
      rintro ⟨q, -⟩
      rw [Bool.and_eq_true, Bool.and_eq_true, decide_eq_true_eq] at q
      exact hx ⟨q.1, q.2.1⟩
    refine ⟨w, ?_, by rw [if_neg hne]; exact h⟩
    rw [if_neg hx, onO_none, if_neg hne]
theorem cn_d63 (W : Nat) : ∀ j, cn (del W 63) (6 + j) + cn W 6 = cn W (6 + j)
  | 0 => by
    have e : cn (del W 63) 6 = cn 0 6 := cn_cong 6 (fun i hi => by
      rw [del_bit, show (63 : Nat) = 2 ^ 6 - 1 from rfl, Nat.testBit_two_pow_sub_one, decide_eq_true hi, Nat.zero_testBit]
      cases W.testBit i <;> rfl)
    have e0 : cn 0 6 = 0 := by decide
    show cn (del W 63) 6 + cn W 6 = cn W 6
    rw [e, e0, Nat.zero_add]
  | j + 1 => by
    have ih := cn_d63 W j
    have e : (del W 63).testBit (6 + j) = W.testBit (6 + j) := by
      rw [del_bit, show (63 : Nat) = 2 ^ 6 - 1 from rfl, Nat.testBit_two_pow_sub_one, decide_eq_false (by omega), Bool.not_false, Bool.and_true]
    show cn (del W 63) (6 + j) + (if (del W 63).testBit (6 + j) then 1 else 0) + cn W 6 = cn W (6 + j) + (if W.testBit (6 + j) then 1 else 0)
    rw [e]
    omega
theorem XI.cR {n : Nat} {G : Nat → AG} {w : xW} (h : XI n G w) {g : Nat} (hg : g < n) (hk : gk (G g) ≠ 0) : xf_G_countRoads g w = some (nI (cn (gW (G g)) 15 - cn (gW (G g)) 6)) := by
  obtain ⟨hO, x0, x1, x3, x4, x2, xA, xP, xB, xC⟩ := h.2.2.2.2 g hg
  have hW := hO.2.2.2.2.1
  have hle := del_le (gW (G g)) 63
  have h9 : cn (del (gW (G g)) 63) 15 + cn (gW (G g)) 6 = cn (gW (G g)) 15 := cn_d63 (gW (G g)) 9
  unfold xf_G_countRoads
  rw [x2 hk, show (-64 : Int32) = nI 63 ^^^ (-1 : Int32) by decide, ii_not, bn_i (xf_bitCount_eq (by omega)), show cn (del (gW (G g)) 63) 15 = cn (gW (G g)) 15 - cn (gW (G g)) 6 from by omega]
theorem XI.hp {n : Nat} {G : Nat → AG} {w : xW} (h : XI n G w) {g : Nat} (hg : g < n) (hk : gk (G g) ≠ 0) (y : Int32) : xf_G_hasPost g y w = some (if isG (cn (gW (G g)) 6) y = true then 1 else 0) := by
  have h15 := cn_n (gW (G g)) 6
  unfold xf_G_hasPost
  by_cases h0 : y < 0
  · rw [if_pos h0, if_neg (isG_neg h0)]; rfl
  · rw [if_neg h0, bn_i (h.cP hg hk)]
    by_cases e : isG (cn (gW (G g)) 6) y = true
    · rw [if_neg (fun q => (x_isG (by omega) h0).mp q e), if_pos e]; rfl
    · rw [if_pos ((x_isG (by omega) h0).mpr e), if_neg e]; rfl
theorem XI.road {n : Nat} {G : Nat → AG} {w : xW} (h : XI n G w) (x y z : Int32) (hM : ∀ g, g < n → Mk (G g)) (hO : AO (a_road n G x y z)) : ∃ w', xf_C_road x y z w = some ((a_road n G x y z).1, w') ∧ XI (a_road n G x y z).2.1 (a_road n G x y z).2.2 w' := by
  unfold a_road at hO ⊢
  unfold xf_C_road
  rw [bn_i (show xf_C_gameOf x (2 : Int32) w = _ from h.of x (k := 2) (by decide))]
  by_cases hx : isG n x = true ∧ gk (G (ixN x)) = 2
  · obtain ⟨h1, h2, h3, h4, h5⟩ := h.get hx.1
    have hk : gk (G (ixN x)) ≠ 0 := by rw [hx.2]; decide
    rw [if_pos hx, onO_some, gd_i h3, bn_i (h.hp h1 hk y), bn_i (h.hp h1 hk z)]
    by_cases hy : isG (cn (gW (G (ixN x))) 6) y = true
    · rw [if_pos hy, if_neg (show ¬ ((1 : Int32) = 0) by decide)]
      by_cases hz : isG (cn (gW (G (ixN x))) 6) z = true
      · obtain ⟨y1, y2⟩ := isG_t hy
        obtain ⟨z1, z2⟩ := isG_t hz
        have hall : isG n x = true ∧ gk (G (ixN x)) = 2 ∧ isG (cn (gW (G (ixN x))) 6) y = true ∧ isG (cn (gW (G (ixN x))) 6) z = true := ⟨hx.1, hx.2, hy, hz⟩
        rw [if_pos hall] at hO
        rw [if_pos hz, if_neg (show ¬ ((1 : Int32) = 0) by decide), if_pos hall]
        by_cases e : y = z
        · rw [if_pos e, if_pos e]
          exact ⟨w, rfl, h⟩
        · have e' : ixN y ≠ ixN z := fun q => e (by rw [y2, z2, q])
          obtain ⟨po, ro, p1, p2, p3⟩ := (hM _ h1).2 hx.2
          have hc6 : cn (gW (G (ixN x))) 6 = po := by rw [p3]; exact cn_posts p1
          have hc15 : cn (gW (G (ixN x))) 15 = po + ro := by rw [p3]; exact cn_roads p1 p2
          rw [if_neg e] at hO
          rw [if_neg e, if_neg e, bn_i (h.cR h1 hk)]
          by_cases e9 : cn (gW (G (ixN x))) 15 - cn (gW (G (ixN x))) 6 = 9
          · rw [if_neg (show ¬ (nI (cn (gW (G (ixN x))) 15 - cn (gW (G (ixN x))) 6) < (9 : Int32)) by rw [e9]; decide), if_pos e9]
            exact ⟨w, rfl, h⟩
          · rw [if_neg e9] at hO
            have hr9 : cn (gW (G (ixN x))) 15 - cn (gW (G (ixN x))) 6 < 9 := by omega
            rw [if_pos (show nI (cn (gW (G (ixN x))) 15 - cn (gW (G (ixN x))) 6) < (9 : Int32) from (nI_ltI (b := 9) (by omega) (by decide)).mpr hr9), if_neg e9]
            generalize hp : 6 + (cn (gW (G (ixN x))) 15 - cn (gW (G (ixN x))) 6) = p at hO ⊢
            have hp15 : p < 15 := by omega
            have e6 : (6 : Int32) + nI (cn (gW (G (ixN x))) 15 - cn (gW (G (ixN x))) 6) = nI p := by rw [show (6 : Int32) = nI 6 from rfl, nI_add, hp]
            have hin : ∀ q, q < po → (gW (G (ixN x))).testBit q = true := fun q hq => by rw [p3, full_bit p1, decide_eq_true hq]; rfl
            obtain ⟨x0, x1, x3, x4, x2, xA, xP, xB, xC⟩ := id h5
            obtain ⟨w1, a1, a2, b0, b1, b2, b3, b4, b5, b6⟩ := xf_addPart_eq (g := ixN x) hp15 (x2 hk)
            have r1 : w1.2.2.2.1 0 (ixN x) (ixN y) = nI (gA (G (ixN x)) (ixN y)) := by
              rw [b6, upd_ne _ _ (by omega)]; exact xA hk _ (hin _ (by omega))
            have t1 := xf_takeAlong_eq (w := w1) (g := ixN x) (m := 2 ^ p) (by omega) r1
            generalize hw2 : xV w1 0 (ixN x) (ixN y) (nI (gA (G (ixN x)) (ixN y) ||| 2 ^ p)) = w2 at t1
            have r2 : w2.2.2.2.1 0 (ixN x) (ixN z) = nI (gA (G (ixN x)) (ixN z)) := by
              rw [← hw2, xV_at, upd_ne _ _ (fun q => e' q.symm), b6, upd_ne _ _ (by omega)]; exact xA hk _ (hin _ (by omega))
            have t2 := xf_takeAlong_eq (w := w2) (g := ixN x) (m := 2 ^ p) (by omega) r2
            have hG2 : w2.2.2.1 = w1.2.2.1 := by rw [← hw2]; rfl
            have o2 : Xo (ixN x) w1 w2 := by rw [← hw2]; exact Xo.V _ _ _ _ _
            refine ⟨xV w2 0 (ixN x) (ixN z) (nI (gA (G (ixN x)) (ixN z) ||| 2 ^ p)), ?_, h.put (a2.tr (o2.tr (Xo.V _ _ _ _ _))) hO (xg_agn hk ?_ ?_ ?_ ?_ ?_ (fun q => ?_) (fun q hq => ?_))⟩
            · have ea : xf_G_addRoad (ixN x) (nI p) y z w = some (xV w2 0 (ixN x) (ixN z) (nI (gA (G (ixN x)) (ixN z) ||| 2 ^ p))) := by
                unfold xf_G_addRoad
                rw [bn_i a1, ii_one (by omega)]
                conv => lhs; rw [y2, z2]
                rw [bn_i t1, bn_i t2]
              rw [e6, bn_i ea]
            · rw [xV_G, hG2]; exact b0.trans x0
            · rw [xV_G, hG2]; exact b1.trans x1
            · rw [xV_G, hG2]; exact b2
            · rw [xV_G, hG2]; exact b3
            · rw [xV_G, hG2]; exact b4
            · rw [xV_G, hG2] at q
              exact absurd b5 q
            · rw [xV_at]
              unfold rdA
              by_cases qz : q = ixN z
              · rw [qz, upd_at, if_pos (Or.inr rfl)]
              · rw [upd_ne _ _ qz, ← hw2, xV_at]
                by_cases qy : q = ixN y
                · rw [qy, upd_at, if_pos (Or.inl rfl)]
                · rw [upd_ne _ _ qy, b6, if_neg (show ¬ (q = ixN y ∨ q = ixN z) from fun t => t.elim qy qz)]
                  rcases or_bit hq with e | ⟨e, hW⟩
                  · rw [e, upd_at, if_pos rfl]
                  · rw [upd_ne _ _ e, if_neg e]; exact xA hk q hW
      · have hne : ¬ (isG n x = true ∧ gk (G (ixN x)) = 2 ∧ isG (cn (gW (G (ixN x))) 6) y = true ∧ isG (cn (gW (G (ixN x))) 6) z = true) := fun q => hz q.2.2.2
        rw [if_neg hz, if_pos rfl, if_neg hne]
        exact ⟨w, rfl, h⟩
    · have hne : ¬ (isG n x = true ∧ gk (G (ixN x)) = 2 ∧ isG (cn (gW (G (ixN x))) 6) y = true ∧ isG (cn (gW (G (ixN x))) 6) z = true) := fun q => hy q.2.2.1
      rw [if_neg hy, if_pos rfl, if_neg hne]
      exact ⟨w, rfl, h⟩
  · have hne : ¬ (isG n x = true ∧ gk (G (ixN x)) = 2 ∧ isG (cn (gW (G (ixN x))) 6) y = true ∧ isG (cn (gW (G (ixN x))) 6) z = true) := fun q => hx ⟨q.1, q.2.1⟩
    refine ⟨w, ?_, by rw [if_neg hne]; exact h⟩
    rw [if_neg hx, onO_none, if_neg hne]
