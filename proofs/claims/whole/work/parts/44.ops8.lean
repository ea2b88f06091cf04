/-! ===== the reference: nets, rows cut ===== -/
def a_post (n : Nat) (G : Nat → AG) (x : Int32) : AR := if isG n x = true ∧ gk (G (ixN x)) = 2 then (if cn (gW (G (ixN x))) 6 = 6 then (-1004, n, G) else (nI (cn (gW (G (ixN x))) 6), n, upG G (ixN x) (agn (G (ixN x)) (addA (gA (G (ixN x))) (cn (gW (G (ixN x))) 6)) (gW (G (ixN x)) ||| 2 ^ cn (gW (G (ixN x))) 6)))) else (-1001, n, G)
theorem wpF_new {e1 e2 : Nat → Nat} {po q : Nat} (hq : po ≤ q) : ∀ ro, (∀ j, j < ro → e1 j < po ∧ e2 j < po) → wpF e1 e2 q ro = 2 ^ q
  | 0, _ => rfl
  | j + 1, h => by
    have h1 := h j (by omega)
    unfold wpF
    rw [wpF_new hq j (fun i hi => h i (by omega)), if_neg (by omega), Nat.or_zero]
theorem MI.post {n : Nat} {G : Nat → AG} {w : mW} (h : MI n G w) (x : Int32) : ∃ w', mf_post x w = some ((a_post n G x).1, w') ∧ MI (a_post n G x).2.1 (a_post n G x).2.2 w' := by
  unfold mf_post a_post
  rw [show (2 : Int32) = nI 2 from rfl, bn_i (h.isOf x 2 (by decide))]
  by_cases hx : isG n x = true ∧ gk (G (ixN x)) = 2
  · obtain ⟨h1, h2, h3, h4, h5⟩ := h.get hx.1
    obtain ⟨i1, i2⟩ := h.ix hx.1
    obtain ⟨m1, m2, m3, m4, m5⟩ := id h5
    obtain ⟨k1, k2, k3, k4, k5, k6, k7, k8, k9⟩ := id h4
    obtain ⟨q1, (⟨q, -⟩ | ⟨q, -⟩ | ⟨-, po, ro, e1', e2', t1, t2, t3, t4, t5, t6, t7, t8⟩)⟩ := id m1
    · omega
    · omega
    · have ec : cn (gW (G (ixN x))) 6 = po := by rw [t5]; exact cn_posts t1
      rw [if_pos hx, if_neg (by decide), gi_i i2, i1, t3, if_pos hx, ec]
      by_cases e : po = 6
      · refine ⟨w, ?_, by rw [if_pos e]; exact h⟩
        rw [if_pos (show nI po = (6 : Int32) by rw [e]; rfl), if_pos e]
      · generalize e1 : mU w 6 (ixN x) (nI (po + 1)) = w1
        have f1 : ∀ c, c ≠ 6 → w1.2 c = w.2 c := fun c hc => by rw [← e1]; exact mU_ne w _ hc
        have hAeq : ∀ q, addA (gA (G (ixN x))) po q = gA (G (ixN x)) q := fun q => by
          by_cases eq : q = po
          · subst eq; rw [addA_at, t7 q (by omega), wpF_new (Nat.le_refl q) ro (fun j hj => ⟨(t6 j hj).1, (t6 j hj).2.1⟩)]
          · exact addA_ne _ eq
        have hAeq' : addA (gA (G (ixN x))) po = gA (G (ixN x)) := funext hAeq
        have hbitW : ∀ i, (gW (G (ixN x))).testBit i = (decide (i < po) || decide (6 ≤ i ∧ i < 6 + ro)) := fun i => by rw [t5, full_bit t1]
        obtain ⟨w3, a1, a2, a3⟩ := h.again (w1 := w1) (A := addA (gA (G (ixN x))) po) (W := gW (G (ixN x)) ||| 2 ^ po) h1 (by rw [← e1]; rfl) (fun j hj hne => by
          rw [← e1]; exact MCell.g1 hne (by decide)) (fun c hc => f1 c (by omega)) (by
          rw [hAeq', t5, full_p (by omega)]
          refine ⟨by rw [f1 1 (by decide)]; exact q1, Or.inr (Or.inr ⟨hx.2, po + 1, ro, e1', e2', by omega, t2, by rw [← e1, mU_at], by rw [f1 7 (by decide)]; exact t4, rfl, fun j hj => ?_, t7, t8⟩)⟩
          rw [f1 8 (by decide)]
          obtain ⟨b1, b2, b3, b4⟩ := t6 j hj
          exact ⟨by omega, by omega, b3, b4⟩) (by rw [f1 2 (by decide)]) (by omega) (by rw [hAeq']; exact k3) (fun hk q hq => by
          rw [hAeq']
          rw [Nat.testBit_or, Nat.testBit_two_pow] at hq
          intro p hp
          by_cases eq : po = q
          · subst eq
            have hp' : (2 ^ po).testBit p = true := by
              rw [t7 po (by omega), wpF_new (Nat.le_refl po) ro (fun j hj => ⟨(t6 j hj).1, (t6 j hj).2.1⟩)] at hp; exact hp
            rw [Nat.testBit_two_pow] at hp'
            have epq : po = p := of_decide_eq_true hp'
            subst epq
            exact ⟨by rw [Nat.testBit_or, Nat.testBit_two_pow]; simp, fun z hz => hz⟩
          · have hqW : (gW (G (ixN x))).testBit q = true := by
              rw [decide_eq_false eq, Bool.or_false] at hq; exact hq
            obtain ⟨g1, g2⟩ := k4 hk q hqW p hp
            exact ⟨by rw [Nat.testBit_or, g1]; rfl, g2⟩)
        rw [← h2] at a1
        refine ⟨w3, ?_, by rw [if_neg e]; exact a2⟩
        rw [if_neg (show ¬ (nI po = (6 : Int32)) from ii_ne (m := 6) e (by omega) (by decide)), if_neg e, gi_i i2, gi_i i2, nI_1, e1, nm_i, bn_i a1, gi_i i2, a3 6 (by decide) (by decide), ← e1, mU_at]
        exact congrArg (fun z => some (z, w3)) (ii_sub (a := po + 1) (b := 1) (by omega))
  · refine ⟨w, ?_, by rw [if_neg hx]; exact h⟩
    rw [if_neg hx, if_pos rfl, if_neg hx]
def rdA (A : Nat → Nat) (a b p : Nat) : Nat → Nat := fun q => if q = a ∨ q = b then A q ||| 2 ^ p else if q = p then 2 ^ q else A q
def a_road (n : Nat) (G : Nat → AG) (x y z : Int32) : AR := if isG n x = true ∧ gk (G (ixN x)) = 2 ∧ isG (cn (gW (G (ixN x))) 6) y = true ∧ isG (cn (gW (G (ixN x))) 6) z = true then (if y = z then (-1003, n, G) else if cn (gW (G (ixN x))) 15 - cn (gW (G (ixN x))) 6 = 9 then (-1004, n, G) else (nI (cn (gW (G (ixN x))) 15 - cn (gW (G (ixN x))) 6), n, upG G (ixN x) (agn (G (ixN x)) (rdA (gA (G (ixN x))) (ixN y) (ixN z) (6 + (cn (gW (G (ixN x))) 15 - cn (gW (G (ixN x))) 6))) (gW (G (ixN x)) ||| 2 ^ (6 + (cn (gW (G (ixN x))) 15 - cn (gW (G (ixN x))) 6)))))) else (-1001, n, G)
theorem wpF_cong {e1 e2 d1 d2 : Nat → Nat} {q : Nat} : ∀ n, (∀ j, j < n → e1 j = d1 j ∧ e2 j = d2 j) → wpF e1 e2 q n = wpF d1 d2 q n
  | 0, _ => rfl
  | n + 1, h => by
    unfold wpF
    rw [wpF_cong n (fun j hj => h j (by omega)), (h n (by omega)).1, (h n (by omega)).2]
theorem MI.road {n : Nat} {G : Nat → AG} {w : mW} (h : MI n G w) (x y z : Int32) : ∃ w', mf_road x y z w = some ((a_road n G x y z).1, w') ∧ MI (a_road n G x y z).2.1 (a_road n G x y z).2.2 w' := by
  unfold mf_road a_road
  rw [bn_i (show mf_isOf x (2 : Int32) w = some (if isG n x = true ∧ gk (G (ixN x)) = 2 then 1 else 0) from h.isOf x 2 (by decide))]
  by_cases hx : isG n x = true ∧ gk (G (ixN x)) = 2
  · obtain ⟨h1, h2, h3, h4, h5⟩ := h.get hx.1
    obtain ⟨i1, i2⟩ := h.ix hx.1
    obtain ⟨m1, m2, m3, m4, m5⟩ := id h5
    obtain ⟨k1, k2, k3, k4, k5, k6, k7, k8, k9⟩ := id h4
    obtain ⟨q1, (⟨q, -⟩ | ⟨q, -⟩ | ⟨-, po, ro, d1, d2, t1, t2, t3, t4, t5, t6, t7, t8⟩)⟩ := id m1
    · omega
    · omega
    · have ec : cn (gW (G (ixN x))) 6 = po := by rw [t5]; exact cn_posts t1
      have ec2 : cn (gW (G (ixN x))) 15 = po + ro := by rw [t5]; exact cn_roads t1 t2
      have ec3 : po + ro - po = ro := by omega
      rw [if_pos hx, if_neg (by decide), gi_i i2, i1, t3, bn_i (mf_below_n (show po ≤ 1000 by omega) y), ec, ec2, ec3]
      by_cases hy : isG po y = true
      · obtain ⟨y1, y2⟩ := isG_t hy
        rw [if_pos hy, if_neg (by decide), gi_i i2, bn_i (mf_below_n (show po ≤ 1000 by omega) z)]
        by_cases hz : isG po z = true
        · obtain ⟨z1, z2⟩ := isG_t hz
          rw [if_pos hz, if_neg (by decide), if_pos (show isG n x = true ∧ gk (G (ixN x)) = 2 ∧ isG po y = true ∧ isG po z = true from ⟨hx.1, hx.2, hy, hz⟩)]
          by_cases hyz : y = z
          · exact ⟨w, by rw [if_pos hyz, if_pos hyz], by rw [if_pos hyz]; exact h⟩
          · rw [if_neg hyz, if_neg hyz, gi_i i2, t4]
            by_cases e : ro = 9
            · refine ⟨w, ?_, by rw [if_pos e]; exact h⟩
              rw [if_pos (show nI ro = (9 : Int32) by rw [e]; rfl), if_pos e]
            · have hne : ixN y ≠ ixN z := fun q => hyz (by rw [y2, z2, q])
              have e0 : (18 : Int32) * x + (2 : Int32) * nI ro = nI (18 * ixN x + 2 * ro) := by
                rw [show (18 : Int32) * x = nI (18 * ixN x) by
                  conv => lhs; rw [h2]
                  exact pk_mul 18 _, show (2 : Int32) * nI ro = nI (2 * ro) from pk_mul 2 ro, nI_add]
              generalize e1 : mU w 8 (18 * ixN x + 2 * ro) y = w1
              generalize e2 : mU w1 8 (18 * ixN x + 2 * ro + 1) z = w2
              generalize e3 : mU w2 7 (ixN x) (nI (ro + 1)) = w3
              have f1 : ∀ c, c ≠ 8 → w1.2 c = w.2 c := fun c hc => by rw [← e1]; exact mU_ne w _ hc
              have f2 : ∀ c, c ≠ 8 → w2.2 c = w1.2 c := fun c hc => by rw [← e2]; exact mU_ne w1 _ hc
              have f3 : ∀ c, c ≠ 7 → w3.2 c = w2.2 c := fun c hc => by rw [← e3]; exact mU_ne w2 _ hc
              have f : ∀ c, c ≠ 8 → c ≠ 7 → w3.2 c = w.2 c := fun c a b => by rw [f3 c b, f2 c a, f1 c a]
              have c8 : ∀ i, i < 2 * ro → w2.2 8 (18 * ixN x + i) = w.2 8 (18 * ixN x + i) := fun i hi => by
                rw [← e2, mU_ni w1 _ (by omega), ← e1, mU_ni w _ (by omega)]
              have c8a : w2.2 8 (18 * ixN x + 2 * ro) = y := by rw [← e2, mU_ni w1 _ (by omega), ← e1, mU_at]
              have c8b : w2.2 8 (18 * ixN x + 2 * ro + 1) = z := by rw [← e2, mU_at]
              have hbitW : ∀ i, (gW (G (ixN x))).testBit i = (decide (i < po) || decide (6 ≤ i ∧ i < 6 + ro)) := fun i => by rw [t5, full_bit t1]
              have hA6 : ∀ j, j < 9 → rdA (gA (G (ixN x))) (ixN y) (ixN z) (6 + ro) (6 + j) = 2 ^ (6 + j) := fun j hj => by
                unfold rdA
                rw [if_neg (by omega)]
                split
                · rfl
                · exact t8 j hj
              have hA0 : ∀ q, q < 6 → rdA (gA (G (ixN x))) (ixN y) (ixN z) (6 + ro) q = (if q = ixN y ∨ q = ixN z then gA (G (ixN x)) q ||| 2 ^ (6 + ro) else gA (G (ixN x)) q) := fun q hq => by
                unfold rdA
                split
                · rfl
                · rw [if_neg (by omega)]
              obtain ⟨w4, a1, a2, a3⟩ := h.again (w1 := w3) (A := rdA (gA (G (ixN x))) (ixN y) (ixN z) (6 + ro)) (W := gW (G (ixN x)) ||| 2 ^ (6 + ro)) h1 (by rw [← e3, ← e2, ← e1]; rfl) (fun j hj hne2 => by
                rw [← e3, ← e2, ← e1]
                have g8 : MCell (mU w 8 (18 * ixN x + 2 * ro) y) (mU (mU w 8 (18 * ixN x + 2 * ro) y) 8 (18 * ixN x + 2 * ro + 1) z) j := by
                  rw [Nat.add_assoc]; exact MCell.g8 hne2 (by omega)
                exact ((MCell.g8 hne2 (by omega)).tr g8).tr (MCell.g1 hne2 (by decide))) (fun c hc => f c (by omega) (by omega)) (by
                rw [t5, full_r t1]
                refine ⟨by rw [f 1 (by decide) (by decide)]; exact q1, Or.inr (Or.inr ⟨hx.2, po, ro + 1, (fun j => if j = ro then ixN y else d1 j), (fun j => if j = ro then ixN z else d2 j), t1, by omega, by rw [f 6 (by decide) (by decide)]; exact t3, by rw [← e3, mU_at], rfl, fun j hj => ?_, fun q hq => ?_, hA6⟩)⟩
                · rw [f3 8 (by decide)]
                  dsimp only
                  by_cases ej : j = ro
                  · subst ej
                    rw [if_pos rfl, if_pos rfl, c8a, c8b]
                    exact ⟨y1, z1, y2, z2⟩
                  · obtain ⟨b1, b2, b3, b4⟩ := t6 j (by omega)
                    have b3' := c8 (2 * j) (by omega)
                    have b4' := c8 (2 * j + 1) (by omega)
                    rw [← Nat.add_assoc] at b4'
                    rw [if_neg ej, if_neg ej, b3', b4']
                    exact ⟨b1, b2, b3, b4⟩
                · rw [hA0 q hq, t7 q hq]
                  show _ = wpF _ _ q ro ||| (if (if ro = ro then ixN y else d1 ro) = q ∨ (if ro = ro then ixN z else d2 ro) = q then 2 ^ (6 + ro) else 0)
                  rw [if_pos rfl, if_pos rfl, wpF_cong (d1 := d1) (d2 := d2) ro (fun j hj => ⟨if_neg (by omega), if_neg (by omega)⟩)]
                  by_cases hq2 : q = ixN y ∨ q = ixN z
                  · rw [if_pos hq2, if_pos (by rcases hq2 with r | r <;> simp [r])]
                  · rw [if_neg hq2, if_neg (fun r => hq2 (by rcases r with r | r <;> simp [r])), Nat.or_zero]) (by rw [f 2 (by decide) (by decide)]) (by omega) (fun hk q hq => by
                unfold rdA
                split
                · rw [Nat.testBit_or, k3 hk q hq]; rfl
                · split
                  · rw [Nat.testBit_two_pow]; simp
                  · exact k3 hk q hq) (fun hk q hq => by
                intro p hp
                -- a road takes itself alone along
                have hroad : ∀ j, j < 9 → ∀ p, (rdA (gA (G (ixN x))) (ixN y) (ixN z) (6 + ro) (6 + j)).testBit p = true → p = 6 + j := fun j hj p hp => by
                  rw [hA6 j hj, Nat.testBit_two_pow] at hp
                  exact (of_decide_eq_true hp).symm
                rw [Nat.testBit_or, hbitW, Nat.testBit_two_pow] at hq
                by_cases q6 : q < 6
                · have hqW : (gW (G (ixN x))).testBit q = true := by
                    rw [hbitW]
                    simp at hq ⊢
                    omega
                  rw [hA0 q q6] at hp ⊢
                  have hpp : (gA (G (ixN x)) q).testBit p = true ∨ p = 6 + ro := by
                    split at hp
                    · rw [Nat.testBit_or, Nat.testBit_two_pow, Bool.or_eq_true] at hp
                      rcases hp with r | r
                      · exact Or.inl r
                      · exact Or.inr (of_decide_eq_true r).symm
                    · exact Or.inl hp
                  have hself : (gA (G (ixN x)) q).testBit q = true := k3 hk q (by omega)
                  rcases hpp with r | r
                  · obtain ⟨g1, g2⟩ := k4 hk q hqW p r
                    refine ⟨by rw [Nat.testBit_or, g1]; rfl, fun v hv => ?_⟩
                    by_cases p6 : p < 6
                    · -- a post that goes with a post is that post
                      have hpq : p = q := by
                        rw [t7 q q6, wpF_bit, Bool.or_eq_true] at r
                        rcases r with r | r
                        · exact of_decide_eq_true r
                        · obtain ⟨k, r1, r2, r3⟩ := of_decide_eq_true r
                          omega
                      subst hpq
                      rw [hA0 p p6] at hv
                      exact hv
                    · have hj : p < 15 := by
                        rw [hbitW] at g1
                        simp at g1
                        omega
                      have := hroad (p - 6) (by omega) v (by rw [show 6 + (p - 6) = p by omega]; exact hv)
                      have hvp : v = p := by omega
                      subst hvp
                      exact hp
                  · subst r
                    refine ⟨by rw [Nat.testBit_or, Nat.testBit_two_pow]; simp, fun v hv => ?_⟩
                    have := hroad ro (by omega) v hv
                    subst this
                    exact hp
                · have hj : q < 15 := by
                    simp at hq
                    omega
                  have := hroad (q - 6) (by omega) p (by rw [show 6 + (q - 6) = q by omega]; exact hp)
                  have hpq : p = q := by omega
                  subst hpq
                  exact ⟨by rw [Nat.testBit_or, hbitW, Nat.testBit_two_pow]; exact hq, fun v hv => hv⟩)
              rw [← h2] at a1
              refine ⟨w4, ?_, by rw [if_neg e]; exact a2⟩
              rw [if_neg (show ¬ (nI ro = (9 : Int32)) from ii_ne (m := 9) e (by omega) (by decide)), if_neg e, gi_i i2, e0, gi_i (ii_ix (by omega) (by decide)), ii_cl (by omega), e1, nm_i, gi_i i2, f1 7 (by decide), t4, e0, nI_1, gi_i (ii_ix (by omega) (by decide)), ii_cl (by omega), e2, nm_i, gi_i i2, gi_i i2, f2 7 (by decide), f1 7 (by decide), t4, nI_1, e3, nm_i, bn_i a1, gi_i i2, a3 7 (by decide) (by decide), ← e3, mU_at]
              exact congrArg (fun z => some (z, w4)) (ii_sub (a := ro + 1) (b := 1) (by omega))
        · refine ⟨w, ?_, by rw [if_neg (fun q => hz q.2.2.2)]; exact h⟩
          rw [if_neg hz, if_pos rfl, if_neg (fun q => hz q.2.2.2)]
      · refine ⟨w, ?_, by rw [if_neg (fun q => hy q.2.2.1)]; exact h⟩
        rw [if_neg hy, if_pos rfl, if_neg (fun q => hy q.2.2.1)]
  · refine ⟨w, ?_, by rw [if_neg (fun q => hx ⟨q.1, q.2.1⟩)]; exact h⟩
    rw [if_neg hx, if_pos rfl, if_neg (fun q => hx ⟨q.1, q.2.1⟩)]
