/-! ===== class: a bite told; new games ===== -/
theorem XI.place {n : Nat} {G : Nat → AG} {w : xW} (h : XI n G w) {g i : Nat} (hg : g < n) (hi : i < gn (G g)) : (∃ f, xf_G_placeOfBite g (nI i) w = some (nI (plc (G g) i), xR w 5 f)) ∧ ∃ f, xf_G_sizeOfBite g (nI i) w = some (nI (siz (G g) i), xR w 5 f) := by
  obtain ⟨hO, hX⟩ := h.2.2.2.2 g hg
  obtain ⟨x0, x1, x3, x4, x2, xA, xP, xB, xC⟩ := hX
  have hlt := hO.lt
  have hk2 := hO.1
  have hnth := nxt_nth hi
  unfold Nth at hnth
  unfold xf_G_placeOfBite xf_G_sizeOfBite
  rw [x0]
  by_cases hk : gk (G g) = 0
  · have hs : gs (G g) < 3432 := hO.2.2.2.2.2.2.1.vs hk
    rw [if_pos hk] at hnth
    obtain ⟨r, c, r1, r2, r3, -⟩ := hnth
    have hrow : rowI (ub (gs (G g))) i 6 = r := by rw [r3]; exact rowI_eq r2 6 (by omega)
    have ep : plc (G g) i = r := by unfold plc; rw [if_pos hk, hrow]
    have es : siz (G g) i = c := by unfold siz; rw [if_pos hk, hrow]; omega
    obtain ⟨f, f1, f2, f3⟩ := xf_rowCol_eq h.2.2.1 hs r1 r2
    rw [← r3] at f2 f3
    rw [if_pos (show nI (gk (G g)) = (0 : Int32) by rw [hk]; rfl), if_pos (show nI (gk (G g)) = (0 : Int32) by rw [hk]; rfl), x3, bn2_i f2, bn2_i f3, ep, es]
    exact ⟨⟨f, rfl⟩, ⟨f, rfl⟩⟩
  · have hsub := hO.2.2.2.2.2.2.1.sub hk
    rw [if_neg hk] at hnth
    obtain ⟨q, q1, q2, q3, q4⟩ := hnth
    rw [hsub] at q2 q3
    have hW : (gW (G g)).testBit q = true := by
      have := q2
      rw [← hsub, Nat.testBit_and, q2, Bool.true_and] at this
      exact this
    have hp : prtI (gs (G g)) i = q := by rw [← q3]; exact prtI_eq q1 q2
    have hle : gs (G g) &&& gA (G g) q ≤ gs (G g) := Nat.and_le_left
    rw [if_neg (ii_ne0 hk (by omega)), if_neg (ii_ne0 hk (by omega)), bn_i (xf_part_eq hlt q1 q2 q3 x3), bn_i (xf_part_eq hlt q1 q2 q3 x3), bn_i (xf_at_eq (by decide) q1), xA hk q hW, x3, ii_and, bn_i (xf_bitCount_eq (by omega))]
    refine ⟨⟨w.2.1 5, ?_⟩, ⟨w.2.1 5, ?_⟩⟩
    · rw [xR_self]
      unfold plc
      rw [if_neg hk, hp]
      by_cases e : gk (G g) = 1
      · rw [if_neg (show ¬ (nI (gk (G g)) = (2 : Int32)) by rw [e]; decide), if_pos e]
      · rw [if_pos (show nI (gk (G g)) = (2 : Int32) by rw [show gk (G g) = 2 by omega]; rfl), if_neg e]
        by_cases e6 : q < 6
        · rw [if_pos (show nI q < (6 : Int32) from (nI_ltI (b := 6) (by omega) (by decide)).mpr e6), if_neg (by omega)]
        · rw [if_neg (show ¬ (nI q < (6 : Int32)) from fun z => e6 ((nI_ltI (b := 6) (by omega) (by decide)).mp z)), if_pos (by omega), show (4 : Int32) = nI 4 from rfl, nI_add]
    · rw [xR_self]
      unfold siz
      rw [if_neg hk, hp]
theorem XI.bite {n : Nat} {G : Nat → AG} {w : xW} (h : XI n G w) (x y z : Int32) : ∃ w', xf_C_bite x y z w = some ((a_bite n G x y z).1, w') ∧ XI (a_bite n G x y z).2.1 (a_bite n G x y z).2.2 w' := by
  unfold xf_C_bite a_bite
  rw [bn_i (h.at x)]
  by_cases hx : isG n x = true
  · obtain ⟨h1, h2, h3, h4, h5⟩ := h.get hx
    rw [if_pos hx, if_pos hx, onO_some, gd_i h3, bn_i (show xf_C_isWithin z (0 : Int32) (2 : Int32) = _ from xf_rng 0 2 (by decide) (by decide) z)]
    by_cases hz : rng 0 2 z = true
    · obtain ⟨f, hf⟩ := h.hb h1 y
      have hI := h.R5 f
      rw [if_pos hz, if_neg (by decide), if_pos hz, bn2_i hf]
      by_cases hy : isG (gn (G (ixN x))) y = true
      · obtain ⟨b1, b2⟩ := isG_t hy
        rw [if_pos hy, if_neg (show ¬ ((1 : Int32) = 0) by decide), if_pos hy]
        by_cases e2 : z = 2
        · obtain ⟨w', c1, c2⟩ := hI.win h1 b1
          refine ⟨w', ?_, c2⟩
          rw [if_pos e2, if_pos e2]
          conv => lhs; rw [b2]
          rw [bn2_i c1]
          by_cases e : wn (G (ixN x)) (ixN y) = true
          · rw [if_pos e, if_neg (show ¬ ((1 : Int32) = 0) by decide)]
          · rw [if_neg e, if_pos rfl]
        · obtain ⟨⟨f1, c1⟩, ⟨f2, c2⟩⟩ := hI.place h1 b1
          rw [if_neg e2, if_neg e2]
          by_cases e0 : z = 0
          · refine ⟨_, ?_, hI.R5 f1⟩
            rw [if_pos e0, if_pos e0]
            conv => lhs; rw [b2]
            rw [bn2_i c1]
          · refine ⟨_, ?_, hI.R5 f2⟩
            rw [if_neg e0, if_neg e0]
            conv => lhs; rw [b2]
            rw [bn2_i c2]
      · rw [if_neg hy, if_pos rfl, if_neg hy]
        exact ⟨_, rfl, hI⟩
    · rw [if_neg hz, if_pos rfl, if_neg hz]
      exact ⟨w, rfl, h⟩
  · refine ⟨w, ?_, h⟩
    rw [if_neg hx, if_neg hx, onO_none]
theorem XI.off {n : Nat} {G : Nat → AG} {w w' : xW} (h : XI n G w) {g : Nat} (hg : n ≤ g) (hf : Xo g w w') : XI n G w' := by
  obtain ⟨h1, h2, h3, h4, h5⟩ := h
  refine ⟨h1, by rw [hf.1]; exact h2, fun r v hr hv => by rw [hf.2.1]; exact h3 r v hr hv, fun q s hs => by
    rw [hf.2.1]
    rw [hf.1] at q
    exact h4 q s hs, fun j hj => ⟨(h5 j hj).1, ?_⟩⟩
  have e : j ≠ g := by omega
  have := (h5 j hj).2
  unfold XGame at this ⊢
  rw [hf.2.2.1 0 j e, hf.2.2.1 1 j e, hf.2.2.1 2 j e, hf.2.2.1 3 j e, hf.2.2.1 4 j e, hf.2.2.1 5 j e, hf.2.2.2 0 j e, hf.2.2.2 1 j e, hf.2.2.2 2 j e, hf.2.2.2 3 j e]
  exact this
theorem XI.push {n : Nat} {G : Nat → AG} {w : xW} {x : AG} (h : XI n G w) (hn : n < 6) (hO : ∀ j, j < n + 1 → GOk (upG G n x j)) (hx : XGame w n x) : XI (n + 1) (upG G n x) (xS w 0 (nI (n + 1))) := by
  obtain ⟨h1, h2, h3, h4, h5⟩ := h
  refine ⟨hn, rfl, h3, h4, fun j hj => ⟨hO j hj, ?_⟩⟩
  by_cases e : j = n
  · subst e; rw [upG_at]; exact hx
  · rw [upG_ne _ _ e]; exact (h5 j (by omega)).2
theorem xf_begin2_eq (w : xW) (g : Nat) (a1 a2 : Int32) : ∃ w', xf_G_begin g a1 a2 w = some w' ∧ Xo g w w' ∧ w'.2.2.1 0 g = a1 ∧ w'.2.2.1 1 g = a2 ∧ w'.2.2.1 2 g = 0 ∧ w'.2.2.1 3 g = 0 ∧ w'.2.2.1 4 g = 0 ∧ w'.2.2.1 5 g = 0 := by
  refine ⟨xG (xG (xG (xG (xG (xG w 0 g a1) 1 g a2) 2 g 0) 5 g 0) 3 g 0) 4 g 0, ?_, ?_, ?_, ?_, ?_, ?_, ?_, ?_⟩
  · unfold xf_G_begin xf_G_restart
    rw [nm_i, nm_i, nm_i, gd_i (Or.inl rfl), nm_i, nm_i, xG_ne _ _ _ (show (2 : Nat) ≠ 5 by decide), xG_at]
    rfl
  · exact ((((((Xo.G _ _ _ _).tr (Xo.G _ _ _ _)).tr (Xo.G _ _ _ _)).tr (Xo.G _ _ _ _)).tr (Xo.G _ _ _ _)).tr (Xo.G _ _ _ _))
  · rw [xG_ne _ _ _ (by decide), xG_ne _ _ _ (by decide), xG_ne _ _ _ (by decide), xG_ne _ _ _ (by decide), xG_ne _ _ _ (by decide), xG_at]
  · rw [xG_ne _ _ _ (by decide), xG_ne _ _ _ (by decide), xG_ne _ _ _ (by decide), xG_ne _ _ _ (by decide), xG_at]
  · rw [xG_ne _ _ _ (by decide), xG_ne _ _ _ (by decide), xG_ne _ _ _ (by decide), xG_at]
  · rw [xG_ne _ _ _ (by decide), xG_at]
  · rw [xG_at]
  · rw [xG_ne _ _ _ (by decide), xG_ne _ _ _ (by decide), xG_at]
theorem XI.nextG {n : Nat} {G : Nat → AG} {w : xW} (h : XI n G w) : xf_C_nextGame w = some (if n = 6 then none else some n) := by
  obtain ⟨h1, h2, -⟩ := h
  unfold xf_C_nextGame
  rw [h2, if_neg (nI_pos (by omega))]
  by_cases e : n = 6
  · rw [if_pos e, e, if_pos (by decide)]
  · rw [if_neg e, if_neg (fun q => by
      have := (nI_leI (a := 6) (b := n) (by decide) (by omega)).mp q
      omega), gi_i (ii_ix (show n < 6 by omega) (by decide)), nm_i, ii_cl (by omega)]
theorem xg_new {w' : xW} {g k r : Nat} (b0 : w'.2.2.1 0 g = nI k) (b1 : w'.2.2.1 1 g = nI r) (b2 : w'.2.2.1 2 g = 0) (b3 : w'.2.2.1 3 g = 0) (b4 : w'.2.2.1 4 g = 0) (b5 : w'.2.2.1 5 g = 0) : XGame w' g (newG k r) := by
  refine ⟨b0, b1, b3, b4, fun hk => ?_, fun hk q hq => ?_, fun _ => rfl, fun i hi => absurd hi (Nat.not_lt_zero i), fun _ q => absurd b5 q⟩
  · rw [b2]
    show (0 : Int32) = nI (if k = 0 then 3431 else 0)
    rw [if_neg (show ¬ (k = 0) from hk)]; rfl
  · have hq' : (if k = 0 then 3431 else 0).testBit q = true := hq
    rw [if_neg (show ¬ (k = 0) from hk), Nat.zero_testBit] at hq'
    cases hq'
theorem XI.empty {n : Nat} {G : Nat → AG} {w : xW} (h : XI n G w) (k : Nat) (y : Int32) (hO : AO (a_new k n G y)) : ∃ w', xf_C_beginEmpty (nI k) y w = some ((a_new k n G y).1, w') ∧ XI (a_new k n G y).2.1 (a_new k n G y).2.2 w' := by
  unfold a_new at hO ⊢
  unfold xf_C_beginEmpty
  rw [bn_i (show xf_C_isWithin y (0 : Int32) (1 : Int32) = _ from xf_rng 0 1 (by decide) (by decide) y)]
  by_cases hy : rng 0 1 y = true
  · obtain ⟨b, y1, y2, y3, y4⟩ := rng_t hy
    rw [if_pos hy] at hO
    rw [if_pos hy, if_neg (by decide), if_pos hy, bn_i h.nextG]
    by_cases e : n = 6
    · rw [if_pos e, onO_none, if_pos e]
      exact ⟨w, rfl, h⟩
    · have h6 := h.1
      have hn : n < 6 := by omega
      rw [if_neg e] at hO
      rw [if_neg e, onO_some, gd_i hn, if_neg e]
      obtain ⟨w1, a1, a2, b0, b1, b2, b3, b4, b5⟩ := xf_begin2_eq w n (nI k) y
      have hI := h.off (Nat.le_refl n) a2
      have hc := hI.2.1
      have hXG : XGame w1 n (newG k (ixN y)) := xg_new b0 (by rw [b1, y4]; exact y3) b2 b3 b4 b5
      exact ⟨_, by rw [bn_i a1, nm_i, hc, nI_1], hI.push hn hO hXG⟩
  · rw [if_neg hy, if_pos rfl, if_neg hy]
    exact ⟨w, rfl, h⟩
theorem XI.order {n : Nat} {G : Nat → AG} {w : xW} (h : XI n G w) (y : Int32) (hO : AO (a_new 1 n G y)) : ∃ w', xf_C_order y w = some ((a_new 1 n G y).1, w') ∧ XI (a_new 1 n G y).2.1 (a_new 1 n G y).2.2 w' := by
  obtain ⟨w', a1, a2⟩ := h.empty 1 y hO
  refine ⟨w', ?_, a2⟩
  unfold xf_C_order
  rw [bn2_i (show xf_C_beginEmpty (1 : Int32) y w = _ from a1)]
theorem XI.net {n : Nat} {G : Nat → AG} {w : xW} (h : XI n G w) (y : Int32) (hO : AO (a_new 2 n G y)) : ∃ w', xf_C_net y w = some ((a_new 2 n G y).1, w') ∧ XI (a_new 2 n G y).2.1 (a_new 2 n G y).2.2 w' := by
  obtain ⟨w', a1, a2⟩ := h.empty 2 y hO
  refine ⟨w', ?_, a2⟩
  unfold xf_C_net
  rw [bn2_i (show xf_C_beginEmpty (2 : Int32) y w = _ from a1)]
theorem XI.rows {n : Nat} {G : Nat → AG} {w : xW} (h : XI n G w) (x y z : Int32) (hO : AO (a_rows n G x y z)) : ∃ w', xf_C_rows x y z w = some ((a_rows n G x y z).1, w') ∧ XI (a_rows n G x y z).2.1 (a_rows n G x y z).2.2 w' := by
  unfold a_rows at hO ⊢
  unfold xf_C_rows
  rw [bn_i (show xf_C_isWithin x (1 : Int32) (7 : Int32) = _ from xf_rng 1 7 (by decide) (by decide) x), bn_i (show xf_C_isWithin y (1 : Int32) (7 : Int32) = _ from xf_rng 1 7 (by decide) (by decide) y), bn_i (show xf_C_isWithin z (0 : Int32) (1 : Int32) = _ from xf_rng 0 1 (by decide) (by decide) z)]
  by_cases hx : rng 1 7 x = true
  · rw [if_pos hx, if_neg (by decide)]
    by_cases hy : rng 1 7 y = true
    · rw [if_pos hy, if_neg (by decide)]
      by_cases hz : rng 0 1 z = true
      · obtain ⟨a, x1, x2, x3, x4⟩ := rng_t hx
        obtain ⟨b, y1, y2, y3, y4⟩ := rng_t hy
        obtain ⟨c, z1, z2, z3, z4⟩ := rng_t hz
        have hall : rng 1 7 x = true ∧ rng 1 7 y = true ∧ rng 0 1 z = true := ⟨hx, hy, hz⟩
        rw [if_pos hall] at hO
        rw [if_pos hz, if_neg (by decide), if_pos hall, bn_i h.nextG]
        by_cases e : n = 6
        · rw [if_pos e, onO_none, if_pos e]
          exact ⟨w, rfl, h⟩
        · have h6 := h.1
          have hn : n < 6 := by omega
          rw [if_neg e] at hO
          rw [if_neg e, onO_some, gd_i hn, if_neg e]
          obtain ⟨w1, a1, a2, b0, b1, b2, b3, b4, b5⟩ := xf_begin2_eq w n (0 : Int32) z
          have hI := h.off (Nat.le_refl n) a2
          obtain ⟨f, hf⟩ := xf_rankOfBlock_eq (a := a) (b := b) hI.2.2.1 x2 y2
          have hI2 := hI.R5 f
          have hI3 := hI2.off (Nat.le_refl n) ((Xo.G n (xR w1 5 f) 3 (nI (rk (blk a b)))).tr (Xo.G n _ 4 0))
          have hc := hI3.2.1
          rw [x4, y4, z4] at hO ⊢
          have hXG : XGame (xG (xG (xR w1 5 f) 3 n (nI (rk (blk a b)))) 4 n 0) n (putB (newG 0 c) (rk (blk a b))) := by
            refine ⟨?_, ?_, ?_, ?_, fun hk => absurd rfl hk, fun hk => absurd rfl hk, fun _ => rfl, fun i hi => absurd hi (Nat.not_lt_zero i), fun hk => absurd rfl hk⟩
            · rw [xG_ne _ _ _ (by decide), xG_ne _ _ _ (by decide)]; exact b0
            · rw [xG_ne _ _ _ (by decide), xG_ne _ _ _ (by decide)]; exact b1.trans z3
            · rw [xG_ne _ _ _ (by decide), xG_at]; rfl
            · rw [xG_at]; rfl
          refine ⟨_, ?_, hI3.push hn hO hXG⟩
          rw [bn_i a1, x3, y3, bn2_i hf, bn_i (show xf_G_putBoard n (nI (rk (blk a b))) (xR w1 5 f) = some (xG (xG (xR w1 5 f) 3 n (nI (rk (blk a b)))) 4 n 0) from rfl), nm_i, hc, nI_1]
      · rw [if_neg hz, if_pos rfl, if_neg (fun q => hz q.2.2)]
        exact ⟨w, rfl, h⟩
    · rw [if_neg hy, if_pos rfl, if_neg (fun q => hy q.2.1)]
      exact ⟨w, rfl, h⟩
  · rw [if_neg hx, if_pos rfl, if_neg (fun q => hx q.1)]
    exact ⟨w, rfl, h⟩
theorem XI.row {n : Nat} {G : Nat → AG} {w : xW} (h : XI n G w) (x y z : Int32) (hO : AO (a_row n G x y z)) : ∃ w', xf_C_row x y z w = some ((a_row n G x y z).1, w') ∧ XI (a_row n G x y z).2.1 (a_row n G x y z).2.2 w' := by
  unfold a_row at hO ⊢
  unfold xf_C_row
  rw [bn_i (show xf_C_gameOf x (0 : Int32) w = _ from h.of x (k := 0) (by decide))]
  by_cases hx : isG n x = true ∧ gk (G (ixN x)) = 0
  · obtain ⟨h1, h2, h3, h4, h5⟩ := h.get hx.1
    have hs : gs (G (ixN x)) < 3432 := h4.2.2.2.2.2.2.1.vs hx.2
    rw [if_pos hx] at hO
    rw [if_pos hx, if_pos hx, onO_some, gd_i h3, bn_i (show xf_C_isWithin y (0 : Int32) (6 : Int32) = _ from xf_rng 0 6 (by decide) (by decide) y), bn_i (show xf_C_isWithin z (0 : Int32) (7 : Int32) = _ from xf_rng 0 7 (by decide) (by decide) z)]
    by_cases hy : rng 0 6 y = true
    · rw [if_pos hy, if_neg (show ¬ ((1 : Int32) = 0) by decide)]
      by_cases hz : rng 0 7 z = true
      · obtain ⟨b, y1, y2, y3, y4⟩ := rng_t hy
        obtain ⟨c, z1, z2, z3, z4⟩ := rng_t hz
        have hyz : rng 0 6 y = true ∧ rng 0 7 z = true := ⟨hy, hz⟩
        rw [if_pos hyz, y4, z4] at hO
        rw [if_pos hz, if_neg (show ¬ ((1 : Int32) = 0) by decide), if_pos hyz, y4, z4]
        have core : ∀ wv : xW, XI n G wv → ¬ (0 < b ∧ ub (gs (G (ixN x))) (b - 1) < c) → ∃ w', xf_C_row_C68 y z (ixN x) wv = some (nI (nb 0 (gW (G (ixN x))) (rk (setB (ub (gs (G (ixN x)))) b c))), w') ∧ XI n (upG G (ixN x) (putB (G (ixN x)) (rk (setB (ub (gs (G (ixN x)))) b c)))) w' := by
          intro wv hv hno
          have hF : Fall (setB (ub (gs (G (ixN x)))) b c) := setB_fall (ub_fall hs) z2 (by omega)
          obtain ⟨x0, x1, x3, x4, x2, xA, xP, xB, xC⟩ := (hv.2.2.2.2 _ h1).2
          obtain ⟨f, hf⟩ := xf_rankWithRow_eq (r := b) (v := c) hv.2.2.1 hs (by omega) z2 hF
          have hI2 := hv.R5 f
          rw [if_neg hno] at hO
          have hI3 : XI n (upG G (ixN x) (putB (G (ixN x)) (rk (setB (ub (gs (G (ixN x)))) b c)))) (xG (xG (xR wv 5 f) 3 (ixN x) (nI (rk (setB (ub (gs (G (ixN x)))) b c)))) 4 (ixN x) 0) := by
            refine hI2.put ((Xo.G _ _ _ _).tr (Xo.G _ _ _ _)) hO ⟨?_, ?_, ?_, ?_, fun hk => absurd hx.2 hk, fun hk => absurd hx.2 hk, xP, fun i hi => absurd hi (Nat.not_lt_zero i), fun hk => absurd hx.2 hk⟩
            · rw [xG_ne _ _ _ (by decide), xG_ne _ _ _ (by decide)]; exact x0
            · rw [xG_ne _ _ _ (by decide), xG_ne _ _ _ (by decide)]; exact x1
            · rw [xG_ne _ _ _ (by decide), xG_at]; rfl
            · rw [xG_at]; rfl
          obtain ⟨f2, hf2⟩ := hI3.cb h1
          rw [upG_at] at hf2
          have e : gn (putB (G (ixN x)) (rk (setB (ub (gs (G (ixN x)))) b c))) = nb 0 (gW (G (ixN x))) (rk (setB (ub (gs (G (ixN x)))) b c)) := by
            show nb (gk (G (ixN x))) _ _ = _
            rw [hx.2]; rfl
          rw [e] at hf2
          refine ⟨_, ?_, hI3.R5 f2⟩
          unfold xf_C_row_C68
          rw [gd_i h3, x3, y3, z3, bn2_i hf, bn_i (show xf_G_putBoard (ixN x) (nI (rk (setB (ub (gs (G (ixN x)))) b c))) (xR wv 5 f) = some (xG (xG (xR wv 5 f) 3 (ixN x) (nI (rk (setB (ub (gs (G (ixN x)))) b c)))) 4 (ixN x) 0) from rfl), bn2_i hf2]
        by_cases hb0 : b = 0
        · rw [if_neg (show ¬ (0 < b ∧ ub (gs (G (ixN x))) (b - 1) < c) from fun q => by omega), if_pos (show y ≤ (0 : Int32) by rw [y3, hb0]; decide)]
          exact core w h (fun q => by omega)
        · obtain ⟨f, hf⟩ := xf_rowOf_eq (s := gs (G (ixN x))) (r := b - 1) h.2.2.1 hs (by omega)
          have u7 : ub (gs (G (ixN x))) (b - 1) ≤ 7 := gv_7 _ _
          rw [if_neg (show ¬ (y ≤ (0 : Int32)) by rw [y3]; exact nI_nle (by omega) (by omega)), h5.2.2.1, show y - (1 : Int32) = nI (b - 1) from by rw [y3]; exact ii_sub (b := 1) (by omega), bn2_i hf]
          by_cases hc : ub (gs (G (ixN x))) (b - 1) < c
          · rw [if_neg (show ¬ (z ≤ nI (ub (gs (G (ixN x))) (b - 1))) by
              rw [z3]
              intro q
              have := (nI_leI (by omega) (by omega)).mp q
              omega), if_pos (⟨by omega, hc⟩ : 0 < b ∧ ub (gs (G (ixN x))) (b - 1) < c)]
            exact ⟨_, rfl, h.R5 f⟩
          · rw [if_pos (show z ≤ nI (ub (gs (G (ixN x))) (b - 1)) by
              rw [z3]
              exact (nI_leI (by omega) (by omega)).mpr (by omega)), if_neg (show ¬ (0 < b ∧ ub (gs (G (ixN x))) (b - 1) < c) from fun q => hc q.2)]
            exact core _ (h.R5 f) (fun q => hc q.2)
      · rw [if_neg hz, if_pos rfl, if_neg (fun q => hz q.2)]
        exact ⟨w, rfl, h⟩
    · rw [if_neg hy, if_pos rfl, if_neg (fun q => hy q.1)]
      exact ⟨w, rfl, h⟩
  · refine ⟨w, ?_, by rw [if_neg hx]; exact h⟩
    rw [if_neg hx, if_neg hx, onO_none]
