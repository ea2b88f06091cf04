/-! ===== class: plays ===== -/
theorem x_isG {m : Nat} (hm : m < 2 ^ 31) {y : Int32} (h0 : ¬ y < 0) : (nI m ≤ y) ↔ ¬ (isG m y = true) := by
  unfold isG
  rw [Int32.le_iff_toInt_le, nI_toInt (by omega), decide_eq_true_eq]
  rw [Int32.lt_iff_toInt_lt] at h0
  have : (0 : Int32).toInt = 0 := by decide
  omega
theorem isG_neg {m : Nat} {y : Int32} (h0 : y < 0) : ¬ (isG m y = true) := by
  unfold isG
  rw [decide_eq_true_eq]
  rw [Int32.lt_iff_toInt_lt] at h0
  have : (0 : Int32).toInt = 0 := by decide
  omega
theorem XI.hb {n : Nat} {G : Nat → AG} {w : xW} (h : XI n G w) {g : Nat} (hg : g < n) (y : Int32) : ∃ f, xf_G_hasBite g y w = some ((if isG (gn (G g)) y = true then 1 else 0), xR w 5 f) := by
  unfold xf_G_hasBite
  by_cases h0 : y < 0
  · refine ⟨w.2.1 5, ?_⟩
    rw [if_pos h0, if_neg (isG_neg h0), xR_self]; rfl
  · obtain ⟨f, hf⟩ := h.cb hg
    have := gn_le (G g)
    refine ⟨f, ?_⟩
    rw [if_neg h0, bn2_i hf]
    by_cases e : isG (gn (G g)) y = true
    · rw [if_neg (fun q => (x_isG (by omega) h0).mp q e), if_pos e]; rfl
    · rw [if_pos ((x_isG (by omega) h0).mpr e), if_neg e]; rfl
theorem x_below_n {m : Nat} (hm : m ≤ 1000) (y : Int32) : xf_C_isWithin y (0 : Int32) (nI m - (1 : Int32)) = some (if isG m y = true then 1 else 0) := by
  rw [xf_isWithin_eq]
  have e : ((0 : Int32) ≤ y ∧ y ≤ nI m - (1 : Int32)) ↔ (0 ≤ y.toInt ∧ y.toInt < (m : Int)) := by
    rw [Int32.le_iff_toInt_le, Int32.le_iff_toInt_le, show (1 : Int32) = nI 1 from rfl, pk_sub_toInt (by omega) (by decide)]
    have : (0 : Int32).toInt = 0 := by decide
    omega
  unfold isG
  by_cases h : 0 ≤ y.toInt ∧ y.toInt < (m : Int)
  · rw [if_pos (e.mpr h), if_pos (decide_eq_true h)]
  · rw [if_neg (fun q => h (e.mp q)), if_neg (by rw [decide_eq_true_eq]; exact h)]
theorem XI.noted {n : Nat} {G : Nat → AG} {w : xW} (h : XI n G w) (x y : Int32) : xf_C_noted x y w = some (a_noted n G x y).1 := by
  unfold xf_C_noted a_noted
  rw [bn_i (h.at x)]
  by_cases hx : isG n x = true
  · obtain ⟨h1, h2, h3, h4, h5⟩ := h.get hx
    have hd := h4.2.2.2.2.2.2.2.1
    rw [if_pos hx, if_pos hx, onO_some, gd_i h3, h5.2.2.2.1, bn_i (x_below_n (by omega) y)]
    by_cases hy : isG (gd_ (G (ixN x))) y = true
    · obtain ⟨b1, b2⟩ := isG_t hy
      rw [if_pos hy, if_neg (by decide), if_pos hy]
      conv => lhs; rw [b2]
      rw [bn_i (xf_at_eq (by decide) (by omega)), (h5.2.2.2.2.2.2.2.1 _ b1).1]
    · rw [if_neg hy, if_pos rfl, if_neg hy]
  · rw [if_neg hx, if_neg hx, onO_none]
/-- noted, but not yet bitten -/
def ntd (x : AG) (i : Nat) : AG := (gk x, gr x, gs x, gd_ x + 1, gW x, gA x, (fun j => if j = gd_ x then i else gbi x j), (fun j => if j = gd_ x then gs x else gbe x j))
theorem XI.done2 {n : Nat} {G : Nat → AG} {w : xW} (h : XI n G w) {g i : Nat} (hg : g < n) (hi : i < gn (G g)) (hd : gd_ (G g) < 100) : ∃ w', xf_G_doBite g (nI i) w = some w' ∧ XI n (upG G g (doB (G g) i)) w' := by
  obtain ⟨hO, hX⟩ := h.2.2.2.2 g hg
  obtain ⟨x0, x1, x3, x4, x2, xA, xP, xB, xC⟩ := hX
  have hD := hO.doB hi hd
  have hN : GOk (ntd (G g) i) := by
    obtain ⟨k1, k2, k3, k4, k5, k6, k7, k8, k9⟩ := hD
    exact ⟨k1, k2, k3, k4, k5, k6, hO.2.2.2.2.2.2.1, k8, k9⟩
  generalize hw1 : xG (xV (xV w 1 g (gd_ (G g)) (nI i)) 2 g (gd_ (G g)) (nI (gs (G g)))) 4 g (nI (gd_ (G g) + 1)) = w1
  have o1 : Xo g w w1 := by rw [← hw1]; exact ((Xo.V _ _ _ _ _).tr (Xo.V _ _ _ _ _)).tr (Xo.G _ _ _ _)
  have e1 : ∀ k, k ≠ 4 → w1.2.2.1 k = w.2.2.1 k := fun k hk => by rw [← hw1, xG_ne _ _ _ hk]; rfl
  have e2 : ∀ k, k ≠ 1 → k ≠ 2 → w1.2.2.2.1 k = w.2.2.2.1 k := fun k a b => by rw [← hw1, xG_V, xV_ne _ _ _ _ b, xV_ne _ _ _ _ a]
  have hI1 : XI n (upG G g (ntd (G g) i)) w1 := by
    refine h.put o1 (fun j hj => ?_) ?_
    · by_cases e : j = g
      · subst e; rw [upG_at]; exact hN
      · rw [upG_ne _ _ e]; exact (h.2.2.2.2 j hj).1
    · refine ⟨?_, ?_, ?_, ?_, ?_, ?_, xP, ?_, ?_⟩
      · rw [e1 0 (by decide)]; exact x0
      · rw [e1 1 (by decide)]; exact x1
      · rw [e1 3 (by decide)]; exact x3
      · rw [← hw1, xG_at]; rfl
      · rw [e1 2 (by decide)]; exact x2
      · rw [e2 0 (by decide) (by decide)]; exact xA
      · intro j hj
        have hj' : j < gd_ (G g) + 1 := hj
        have r1 : w1.2.2.2.1 1 g = upd (w.2.2.2.1 1 g) (gd_ (G g)) (nI i) := by rw [← hw1, xG_V, xV_ne _ _ _ _ (by decide), xV_at]
        have r2 : w1.2.2.2.1 2 g = upd (w.2.2.2.1 2 g) (gd_ (G g)) (nI (gs (G g))) := by rw [← hw1, xG_V, xV_at, xV_ne _ _ _ _ (by decide)]
        rw [r1, r2]
        show _ = nI (if j = gd_ (G g) then i else gbi (G g) j) ∧ _ = nI (if j = gd_ (G g) then gs (G g) else gbe (G g) j)
        by_cases e : j = gd_ (G g)
        · rw [if_pos e, if_pos e, e, upd_at, upd_at]; exact ⟨rfl, rfl⟩
        · rw [if_neg e, if_neg e, upd_ne _ _ e, upd_ne _ _ e]; exact xB j (by omega)
      · rw [e1 5 (by decide), e2 3 (by decide) (by decide)]; exact xC
  have hg1 : upG G g (ntd (G g) i) g = ntd (G g) i := upG_at _ _ _
  obtain ⟨f, hf⟩ := hI1.after (i := i) (t := nxt (G g) i) hg (by rw [hg1]; exact nxt_nth hi)
  refine ⟨xG (xR w1 5 f) 3 g (nI (nxt (G g) i)), ?_, ?_⟩
  · unfold xf_G_doBite
    have h100 : ¬ ((100 : Int32) ≤ nI (gd_ (G g))) := fun q => by
      have := (nI_leI (a := 100) (by decide) (by omega)).mp q
      omega
    have hix := ii_ix hd (show 100 < 2 ^ 31 by decide)
    rw [x4, if_neg (nI_pos (by omega)), if_neg h100, if_neg h100, gi_i hix, nm_i, ii_cl (by omega), xV_G, x4, gi_i hix, nm_i, ii_cl (by omega), x3, nm_i, xV_G, xV_G, x4, nI_1, hw1, bn2_i hf, nm_i]
  · have hI2 := hI1.R5 f
    have := hI2.put (x := doB (G g) i) (Xo.G g _ 3 (nI (nxt (G g) i))) (fun j hj => by
      rw [upG_upG]
      by_cases e : j = g
      · subst e; rw [upG_at]; exact hD
      · rw [upG_ne _ _ e]; exact (h.2.2.2.2 j hj).1) (by
      have hX2 := (hI2.2.2.2.2 g hg).2
      rw [hg1] at hX2
      obtain ⟨y0, y1, y3, y4, y2, yA, yP, yB, yC⟩ := hX2
      refine ⟨?_, ?_, ?_, ?_, ?_, yA, yP, yB, ?_⟩
      · rw [xG_ne _ _ _ (by decide)]; exact y0
      · rw [xG_ne _ _ _ (by decide)]; exact y1
      · rw [xG_at]; rfl
      · rw [xG_ne _ _ _ (by decide)]; exact y4
      · rw [xG_ne _ _ _ (by decide)]; exact y2
      · rw [xG_ne _ _ _ (by decide)]; exact yC)
    rw [upG_upG] at this
    exact this
theorem XI.play {n : Nat} {G : Nat → AG} {w : xW} (h : XI n G w) (x y : Int32) : ∃ w', xf_C_play x y w = some ((a_play n G x y).1, w') ∧ XI (a_play n G x y).2.1 (a_play n G x y).2.2 w' := by
  unfold xf_C_play a_play
  rw [bn_i (h.at x)]
  by_cases hx : isG n x = true
  · obtain ⟨h1, h2, h3, h4, h5⟩ := h.get hx
    obtain ⟨f, hf⟩ := h.hb h1 y
    have hI := h.R5 f
    have hd := h4.2.2.2.2.2.2.2.1
    have h54 := (hI.2.2.2.2 _ h1).2.2.2.2.1
    rw [if_pos hx, if_pos hx, onO_some, gd_i h3, bn2_i hf]
    by_cases hy : isG (gn (G (ixN x))) y = true
    · obtain ⟨b1, b2⟩ := isG_t hy
      have hy' : isG (nb (gk (G (ixN x))) (gW (G (ixN x))) (gs (G (ixN x)))) y = true := hy
      rw [if_pos hy, if_neg (by decide), if_pos hy', h54]
      by_cases e : gd_ (G (ixN x)) = 100
      · rw [if_neg (fun q => by
          have := (nI_ltI (b := 100) (by omega) (by decide)).mp q
          omega), if_pos e]
        exact ⟨_, rfl, hI⟩
      · rw [if_pos (show nI (gd_ (G (ixN x))) < (100 : Int32) from (nI_ltI (b := 100) (by omega) (by decide)).mpr (by omega)), if_neg e]
        obtain ⟨w', c1, c2⟩ := hI.done2 h1 b1 (by omega)
        refine ⟨w', ?_, c2⟩
        conv => lhs; rw [b2]
        rw [bn_i c1]
        have := (c2.2.2.2.2 _ h1).2.2.2.1
        rw [upG_at] at this
        rw [this]
        rfl
    · have hy' : ¬ isG (nb (gk (G (ixN x))) (gW (G (ixN x))) (gs (G (ixN x)))) y = true := hy
      rw [if_neg hy, if_pos rfl, if_neg hy']
      exact ⟨_, rfl, hI⟩
  · refine ⟨w, ?_, by rw [if_neg hx]; exact h⟩
    rw [if_neg hx, if_neg hx, onO_none]
theorem XI.back {n : Nat} {G : Nat → AG} {w : xW} (h : XI n G w) (x : Int32) (hO : AO (a_back n G x)) : ∃ w', xf_C_back x w = some ((a_back n G x).1, w') ∧ XI (a_back n G x).2.1 (a_back n G x).2.2 w' := by
  unfold a_back at hO ⊢
  unfold xf_C_back
  rw [bn_i (h.at x)]
  by_cases hx : isG n x = true
  · obtain ⟨h1, h2, h3, h4, h5⟩ := h.get hx
    obtain ⟨x0, x1, x3, x4, x2, xA, xP, xB, xC⟩ := h5
    have hd := h4.2.2.2.2.2.2.2.1
    rw [if_pos hx] at hO
    rw [if_pos hx, if_pos hx, onO_some, gd_i h3, x4]
    by_cases e : gd_ (G (ixN x)) = 0
    · rw [if_pos (show nI (gd_ (G (ixN x))) = (0 : Int32) by rw [e]; rfl), if_pos e]
      exact ⟨w, rfl, h⟩
    · rw [if_neg e] at hO
      rw [if_neg (ii_ne0 e (by omega)), if_neg e]
      have hs1 : nI (gd_ (G (ixN x))) - (1 : Int32) = nI (gd_ (G (ixN x)) - 1) := ii_sub (b := 1) (by omega)
      refine ⟨xG (xG w 4 (ixN x) (nI (gd_ (G (ixN x)) - 1))) 3 (ixN x) (nI (gbe (G (ixN x)) (gd_ (G (ixN x)) - 1))), ?_, h.put ((Xo.G _ _ _ _).tr (Xo.G _ _ _ _)) hO ?_⟩
      · unfold xf_G_undoBite
        rw [x4, if_neg (nI_nle (by omega) (by omega)), nm_i, hs1, xG_V, xG_at, bn_i (show bn (xf_C_at 100 (w.2.2.2.1 2 (ixN x)) (nI (gd_ (G (ixN x)) - 1)) (xG w 4 (ixN x) (nI (gd_ (G (ixN x)) - 1)))) _ = some (xG (xG w 4 (ixN x) (nI (gd_ (G (ixN x)) - 1))) 3 (ixN x) (nI (gbe (G (ixN x)) (gd_ (G (ixN x)) - 1)))) from by
          rw [bn_i (xf_at_eq (by decide) (by omega)), (xB _ (by omega)).2]; rfl), xG_ne _ _ _ (by decide), xG_at]
      · refine ⟨?_, ?_, ?_, ?_, ?_, xA, xP, fun j hj => ?_, ?_⟩
        · rw [xG_ne _ _ _ (by decide), xG_ne _ _ _ (by decide)]; exact x0
        · rw [xG_ne _ _ _ (by decide), xG_ne _ _ _ (by decide)]; exact x1
        · rw [xG_at]; rfl
        · rw [xG_ne _ _ _ (by decide), xG_at]; rfl
        · rw [xG_ne _ _ _ (by decide), xG_ne _ _ _ (by decide)]; exact x2
        · have : j < gd_ (G (ixN x)) - 1 := hj
          exact xB j (by omega)
        · rw [xG_ne _ _ _ (by decide), xG_ne _ _ _ (by decide)]; exact xC
  · refine ⟨w, ?_, by rw [if_neg hx]; exact h⟩
    rw [if_neg hx, if_neg hx, onO_none]
