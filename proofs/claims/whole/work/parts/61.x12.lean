/-! ===== class: orders and nets grow ===== -/
def Mk (x : AG) : Prop := (gk x = 1 → ∃ th, th ≤ 12 ∧ gW x = 2 ^ th - 1) ∧ (gk x = 2 → ∃ po ro, po ≤ 6 ∧ ro ≤ 9 ∧ gW x = (2 ^ po - 1) ||| 64 * (2 ^ ro - 1))
theorem xf_addPart_eq {w : xW} {g t W : Nat} (ht : t < 15) (h2 : w.2.2.1 2 g = nI W) : ∃ w', xf_G_addPart g (nI t) w = some w' ∧ Xo g w w' ∧ w'.2.2.1 0 g = w.2.2.1 0 g ∧ w'.2.2.1 1 g = w.2.2.1 1 g ∧ w'.2.2.1 2 g = nI (W ||| 2 ^ t) ∧ w'.2.2.1 3 g = nI (W ||| 2 ^ t) ∧ w'.2.2.1 4 g = 0 ∧ w'.2.2.1 5 g = 0 ∧ w'.2.2.2.1 0 g = upd (w.2.2.2.1 0 g) t (nI (2 ^ t)) := by
  refine ⟨xG (xG (xG (xG (xV w 0 g t (nI (2 ^ t))) 2 g (nI (W ||| 2 ^ t))) 5 g 0) 3 g (nI (W ||| 2 ^ t))) 4 g 0, ?_, ?_, ?_, ?_, ?_, ?_, ?_, ?_, ?_⟩
  · unfold xf_G_addPart xf_G_restart
    rw [if_neg (nI_pos (by omega)), if_neg (fun h => by
      have := (nI_leI (a := 15) (b := t) (by decide) (by omega)).mp h
      omega), gi_i (ii_ix ht (by decide)), ii_cl (by omega), ii_one (by omega), nm_i, xV_G, h2, ii_or, nm_i, gd_i (Or.inl rfl), nm_i, xG_ne _ _ _ (show (2 : Nat) ≠ 5 by decide), xG_at]
    rfl
  · exact (((((Xo.V _ _ _ _ _).tr (Xo.G _ _ _ _)).tr (Xo.G _ _ _ _)).tr (Xo.G _ _ _ _)).tr (Xo.G _ _ _ _))
  · rw [xG_ne _ _ _ (by decide), xG_ne _ _ _ (by decide), xG_ne _ _ _ (by decide), xG_ne _ _ _ (by decide)]; rfl
  · rw [xG_ne _ _ _ (by decide), xG_ne _ _ _ (by decide), xG_ne _ _ _ (by decide), xG_ne _ _ _ (by decide)]; rfl
  · rw [xG_ne _ _ _ (by decide), xG_ne _ _ _ (by decide), xG_ne _ _ _ (by decide), xG_at]
  · rw [xG_ne _ _ _ (by decide), xG_at]
  · rw [xG_at]
  · rw [xG_ne _ _ _ (by decide), xG_ne _ _ _ (by decide), xG_at]
  · rw [xG_V, xG_V, xG_V, xG_V, xV_at]
theorem xg_agn {w' : xW} {g W : Nat} {x : AG} {A : Nat → Nat} (hk : gk x ≠ 0) (b0 : w'.2.2.1 0 g = nI (gk x)) (b1 : w'.2.2.1 1 g = nI (gr x)) (b2 : w'.2.2.1 2 g = nI W) (b3 : w'.2.2.1 3 g = nI W) (b4 : w'.2.2.1 4 g = 0) (b5 : w'.2.2.1 5 g ≠ 0 → ∀ s, St (gk x) A W s → w'.2.2.2.1 3 g s = nI (pF (Sol (gk x) A W s))) (bA : ∀ q, W.testBit q = true → w'.2.2.2.1 0 g q = nI (A q)) : XGame w' g (agn x A W) :=
  ⟨b0, b1, b3, b4, fun _ => b2, fun _ => bA, fun h => absurd h hk, fun i hi => absurd hi (Nat.not_lt_zero i), fun _ h => b5 h⟩
theorem or_bit {W t q : Nat} (h : (W ||| 2 ^ t).testBit q = true) : q = t ∨ (q ≠ t ∧ W.testBit q = true) := by
  rw [Nat.testBit_or, Bool.or_eq_true, Nat.testBit_two_pow, decide_eq_true_eq] at h
  by_cases e : q = t
  · exact Or.inl e
  · exact Or.inr ⟨e, h.elim id (fun h => absurd h.symm e)⟩
theorem XI.addP {n : Nat} {G : Nat → AG} {w : xW} (h : XI n G w) {g t : Nat} (hg : g < n) (hk : gk (G g) ≠ 0) (ht : t < 15) (hO : ∀ j, j < n → GOk (upG G g (agn (G g) (addA (gA (G g)) t) (gW (G g) ||| 2 ^ t)) j)) : ∃ w', xf_G_addPart g (nI t) w = some w' ∧ XI n (upG G g (agn (G g) (addA (gA (G g)) t) (gW (G g) ||| 2 ^ t))) w' := by
  obtain ⟨x0, x1, x3, x4, x2, xA, xP, xB, xC⟩ := (h.2.2.2.2 g hg).2
  obtain ⟨w', a1, a2, b0, b1, b2, b3, b4, b5, b6⟩ := xf_addPart_eq (g := g) ht (x2 hk)
  refine ⟨w', a1, h.put a2 hO (xg_agn hk (b0.trans x0) (b1.trans x1) b2 b3 b4 (fun q => absurd b5 q) (fun q hq => ?_))⟩
  rw [b6]
  unfold addA
  rcases or_bit hq with e | ⟨e, hW⟩
  · rw [e, upd_at, if_pos rfl]
  · rw [upd_ne _ _ e, if_neg e]; exact xA hk q hW
theorem XI.cT {n : Nat} {G : Nat → AG} {w : xW} (h : XI n G w) {g : Nat} (hg : g < n) (hk : gk (G g) ≠ 0) : xf_G_countThings g w = some (nI (cn (gW (G g)) 15)) := by
  obtain ⟨hO, x0, x1, x3, x4, x2, xA, xP, xB, xC⟩ := h.2.2.2.2 g hg
  have hW := hO.2.2.2.2.1
  unfold xf_G_countThings
  rw [x2 hk, bn_i (xf_bitCount_eq hW)]
theorem XI.thing {n : Nat} {G : Nat → AG} {w : xW} (h : XI n G w) (x : Int32) (hM : ∀ g, g < n → Mk (G g)) (hO : AO (a_thing n G x)) : ∃ w', xf_C_thing x w = some ((a_thing n G x).1, w') ∧ XI (a_thing n G x).2.1 (a_thing n G x).2.2 w' := by
  unfold a_thing at hO ⊢
  unfold xf_C_thing
  rw [bn_i (show xf_C_gameOf x (1 : Int32) w = _ from h.of x (k := 1) (by decide))]
  by_cases hx : isG n x = true ∧ gk (G (ixN x)) = 1
  · obtain ⟨h1, h2, h3, h4, h5⟩ := h.get hx.1
    obtain ⟨th, t1, t2⟩ := (hM _ h1).1 hx.2
    have hc : cn (gW (G (ixN x))) 15 = th := by rw [t2]; exact cn_ord (by omega)
    have hk : gk (G (ixN x)) ≠ 0 := by rw [hx.2]; decide
    rw [if_pos hx] at hO
    rw [if_pos hx, if_pos hx, onO_some, gd_i h3, bn_i (h.cT h1 hk)]
    by_cases e : cn (gW (G (ixN x))) 15 = 12
    · rw [if_neg (show ¬ (nI (cn (gW (G (ixN x))) 15) < (12 : Int32)) by rw [e]; decide), if_pos e]
      exact ⟨w, rfl, h⟩
    · rw [if_neg e] at hO
      rw [if_pos (show nI (cn (gW (G (ixN x))) 15) < (12 : Int32) from (nI_ltI (b := 12) (by omega) (by decide)).mpr (by omega)), if_neg e]
      obtain ⟨w', a1, a2⟩ := h.addP (t := cn (gW (G (ixN x))) 15) h1 hk (by omega) hO
      exact ⟨w', by rw [bn_i a1], a2⟩
  · refine ⟨w, ?_, by rw [if_neg hx]; exact h⟩
    rw [if_neg hx, if_neg hx, onO_none]
theorem cn_63 (W : Nat) : cn (W &&& 63) 15 = cn W 6 := by
  have e : ∀ i, (W &&& 63).testBit i = (W.testBit i && decide (i < 6)) := fun i => by
    rw [Nat.testBit_and, show (63 : Nat) = 2 ^ 6 - 1 from rfl, Nat.testBit_two_pow_sub_one]
  rw [cn_stop (m := 6) (fun q hq => by rw [e, decide_eq_false (by omega), Bool.and_false]) 15 (by decide)]
  exact cn_cong 6 (fun i hi => by rw [e, decide_eq_true hi, Bool.and_true])
theorem XI.cP {n : Nat} {G : Nat → AG} {w : xW} (h : XI n G w) {g : Nat} (hg : g < n) (hk : gk (G g) ≠ 0) : xf_G_countPosts g w = some (nI (cn (gW (G g)) 6)) := by
  obtain ⟨hO, x0, x1, x3, x4, x2, xA, xP, xB, xC⟩ := h.2.2.2.2 g hg
  have hW := hO.2.2.2.2.1
  have hle : gW (G g) &&& 63 ≤ gW (G g) := Nat.and_le_left
  unfold xf_G_countPosts
  rw [x2 hk, show nI (gW (G g)) &&& (63 : Int32) = nI (gW (G g) &&& 63) from ii_and _ 63, bn_i (xf_bitCount_eq (by omega)), cn_63]
theorem XI.post {n : Nat} {G : Nat → AG} {w : xW} (h : XI n G w) (x : Int32) (hO : AO (a_post n G x)) : ∃ w', xf_C_post x w = some ((a_post n G x).1, w') ∧ XI (a_post n G x).2.1 (a_post n G x).2.2 w' := by
  unfold a_post at hO ⊢
  unfold xf_C_post
  rw [bn_i (show xf_C_gameOf x (2 : Int32) w = _ from h.of x (k := 2) (by decide))]
  by_cases hx : isG n x = true ∧ gk (G (ixN x)) = 2
  · obtain ⟨h1, h2, h3, h4, h5⟩ := h.get hx.1
    have hc := cn_n (gW (G (ixN x))) 6
    have hk : gk (G (ixN x)) ≠ 0 := by rw [hx.2]; decide
    rw [if_pos hx] at hO
    rw [if_pos hx, if_pos hx, onO_some, gd_i h3, bn_i (h.cP h1 hk)]
    by_cases e : cn (gW (G (ixN x))) 6 = 6
    · rw [if_neg (show ¬ (nI (cn (gW (G (ixN x))) 6) < (6 : Int32)) by rw [e]; decide), if_pos e]
      exact ⟨w, rfl, h⟩
    · rw [if_neg e] at hO
      rw [if_pos (show nI (cn (gW (G (ixN x))) 6) < (6 : Int32) from (nI_ltI (b := 6) (by omega) (by decide)).mpr (by omega)), if_neg e]
      obtain ⟨w', a1, a2⟩ := h.addP (t := cn (gW (G (ixN x))) 6) h1 hk (by omega) hO
      exact ⟨w', by rw [bn_i a1], a2⟩
  · refine ⟨w, ?_, by rw [if_neg hx]; exact h⟩
    rw [if_neg hx, if_neg hx, onO_none]
theorem Tr.le {k : Nat} {A : Nat → Nat} {W q : Nat} (h : Tr k A W) (hk : k ≠ 0) (hq : W.testBit q = true) : A q ≤ W := sub_le (fun p hp => ((h hk q hq) p hp).1)
theorem XI.ht {n : Nat} {G : Nat → AG} {w : xW} (h : XI n G w) {g : Nat} (hg : g < n) (hk : gk (G g) ≠ 0) (y : Int32) : xf_G_hasThing g y w = some (if isG (cn (gW (G g)) 15) y = true then 1 else 0) := by
  have h15 := cn_n (gW (G g)) 15
  unfold xf_G_hasThing
  by_cases h0 : y < 0
  · rw [if_pos h0, if_neg (isG_neg h0)]; rfl
  · rw [if_neg h0, bn_i (h.cT hg hk)]
    by_cases e : isG (cn (gW (G g)) 15) y = true
    · rw [if_neg (fun q => (x_isG (by omega) h0).mp q e), if_pos e]; rfl
    · rw [if_pos ((x_isG (by omega) h0).mpr e), if_neg e]; rfl
theorem xf_takes_eq {w : xW} {g a b B : Nat} (ha : a < 15) (hb : b < 32) (hB : B < 2 ^ 31) (hr : w.2.2.2.1 0 g a = nI B) : xf_G_takesAlong g (nI a) (nI b) w = some (if B.testBit b = true then 1 else 0) := by
  unfold xf_G_takesAlong
  rw [bn_i (xf_at_eq (by decide) ha), hr, ii_bit hB hb]
  by_cases e : B.testBit b = true
  · rw [if_pos e, if_pos e, if_neg (by decide)]; rfl
  · rw [if_neg e, if_neg e, if_pos (show nI 0 = (0 : Int32) from rfl)]; rfl
theorem XI.isBelow {n : Nat} {G : Nat → AG} {w : xW} (h : XI n G w) (x y z : Int32) (hM : ∀ g, g < n → Mk (G g)) : xf_C_isBelow x y z w = some (a_isBelow n G x y z).1 := by
  unfold xf_C_isBelow a_isBelow isT
  rw [bn_i (show xf_C_gameOf x (1 : Int32) w = _ from h.of x (k := 1) (by decide))]
  by_cases hx : isG n x = true ∧ gk (G (ixN x)) = 1
  · obtain ⟨h1, h2, h3, h4, h5⟩ := h.get hx.1
    obtain ⟨th, t1, t2⟩ := (hM _ h1).1 hx.2
    have hc : cn (gW (G (ixN x))) 15 = th := by rw [t2]; exact cn_ord (by omega)
    have hk : gk (G (ixN x)) ≠ 0 := by rw [hx.2]; decide
    have hW := h4.2.2.2.2.1
    rw [if_pos hx, onO_some, gd_i h3, bn_i (h.ht h1 hk y), bn_i (h.ht h1 hk z), hx.1, decide_eq_true hx.2, Bool.true_and, Bool.true_and, Bool.true_and, Bool.true_and]
    by_cases hy : isG (cn (gW (G (ixN x))) 15) y = true
    · rw [if_pos hy, if_neg (show ¬ ((1 : Int32) = 0) by decide)]
      by_cases hz : isG (cn (gW (G (ixN x))) 15) z = true
      · obtain ⟨y1, y2⟩ := isG_t hy
        obtain ⟨z1, z2⟩ := isG_t hz
        have hyW : (gW (G (ixN x))).testBit (ixN y) = true := by rw [t2, Nat.testBit_two_pow_sub_one]; exact decide_eq_true (by omega)
        have hAl := h4.2.2.2.1.le hk hyW
        have htk := xf_takes_eq (g := ixN x) (a := ixN y) (b := ixN z) (by omega) (by omega) (show gA (G (ixN x)) (ixN y) < 2 ^ 31 by omega) (h5.2.2.2.2.2.1 hk _ hyW)
        rw [← y2, ← z2] at htk
        rw [if_pos hz, if_neg (show ¬ ((1 : Int32) = 0) by decide), if_pos (⟨hy, hz⟩ : _ ∧ _), bn_i htk]
        by_cases e : y = z
        · rw [if_pos e, if_neg (fun q => q.1 (by rw [e]))]
        · have e' : ixN y ≠ ixN z := fun q => e (by rw [y2, z2, q])
          rw [if_neg e]
          by_cases eb : (gA (G (ixN x)) (ixN y)).testBit (ixN z) = true
          · rw [if_pos eb, if_neg (by decide), if_pos ⟨e', eb⟩]
          · rw [if_neg eb, if_pos rfl, if_neg (fun q => eb q.2)]
      · rw [if_neg hz, if_pos rfl, if_neg (fun q => hz q.2)]
    · rw [if_neg hy, if_pos rfl, if_neg (fun q => hy q.1)]
  · rw [if_neg hx, onO_none, if_neg]
    rintro ⟨q, -⟩
    rw [Bool.and_eq_true, Bool.and_eq_true, decide_eq_true_eq] at q
    exact hx ⟨q.1, q.2.1⟩
