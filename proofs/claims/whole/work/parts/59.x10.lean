/-! ===== class: answers, boards, sums, bites ===== -/
theorem XI.fa {n : Nat} {G : Nat → AG} {g : Nat} (hg : g < n) (hG : 0 < gn (G g)) : ∀ (d i k : Nat) (w : xW) (x1 x2 : Int32), XI n G w → d = gn (G g) - i → i ≤ gn (G g) → d < k → (∀ j, j < i → wn (G g) j = false) → ((i = 0 ∧ x1 = (-1) ∧ x2 = (-1)) ∨ ∃ m, m < i ∧ x1 = nI m ∧ x2 = nI (ln (G g) m) ∧ (∀ j, j < i → ln (G g) j ≤ ln (G g) m) ∧ ∀ j, j < m → ln (G g) j < ln (G g) m) → ∃ w', xf_G_findAnswer_C12 g k x1 x2 (nI (gn (G g))) (nI i) w = some (nI (ansI (G g)), w') ∧ XI n G w'
  | d, i, 0, w, _, _, _, hd, hi, hk, _, _ => by omega
  | 0, i, k + 1, w, x1, x2, h, hd, hi, hk, hno, hM => by
    have e : i = gn (G g) := by omega
    have h49 := gn_le (G g)
    refine ⟨w, ?_, h⟩
    rw [xf_G_findAnswer_C12, if_pos ((nI_leI (by omega) (by omega)).mpr (by omega))]
    rcases hM with ⟨q, -⟩ | ⟨m, m1, m2, m3, m4, m5⟩
    · omega
    · have f1 : ff (wn (G g)) (gn (G g)) = gn (G g) := ff_none _ (fun j hj => hno j (by omega))
      have f2 : ff (mxl (G g)) (gn (G g)) = m := ff_eq (decide_eq_true (fun j hj => m4 j (by omega))) (fun j hj => decide_eq_false (fun q => by
        have := q m (by omega)
        have := m5 j hj
        omega)) _ (by omega)
      have : ansI (G g) = m := by unfold ansI; rw [f1, if_neg (Nat.lt_irrefl _), f2]
      rw [this, m2]
  | d + 1, i, k + 1, w, x1, x2, h, hd, hi, hk, hno, hM => by
    have h49 := gn_le (G g)
    have hi' : i < gn (G g) := by omega
    have hO := (h.2.2.2.2 g hg).1
    obtain ⟨w1, w2, a1, a2, a3, a4, a5⟩ := h.next hg hi'
    have hle : ln (G g) i ≤ 50 := gL_le hO a5
    have hlm : ∀ m, m < i → ln (G g) m ≤ 50 := fun m hm => gL_le hO (hO.nxt (i := m) (show m < gn (G g) by omega)).1
    have hLen : xf_C_lengthIn (nI (pF (gF (G g) (nxt (G g) i)))) (w2.2.2.1 1 g) = some (nI (ln (G g) i)) := a4.len hg a5
    have hW : xf_C_isWon (nI (ln (G g) i)) (w2.2.2.1 1 g) = some (if ln (G g) i % 2 = gr (G g) then 1 else 0) := a4.isW hg a5
    rw [xf_G_findAnswer_C12, if_neg (fun q => by
      have := (nI_leI (by omega) (by omega)).mp q
      omega), bn2_i a1, bn2_i a3, bn_i hLen, bn_i hW]
    by_cases e : ln (G g) i % 2 = gr (G g)
    · have hwf : wn (G g) i = false := decide_eq_false (fun q => q e)
      have hno' : ∀ j, j < i + 1 → wn (G g) j = false := fun j hj => by
        by_cases e2 : j = i
        · rw [e2]; exact hwf
        · exact hno j (by omega)
      rw [if_pos e, if_neg (show ¬ ((1 : Int32) = 0) by decide)]
      by_cases hc : nI (ln (G g) i) ≤ x2
      · obtain ⟨w', b1, b2⟩ := XI.fa hg hG d (i + 1) k w2 x1 x2 a4 (by clear hM; omega) (by clear hM; omega) (by clear hM; omega) hno' (by
          right
          rcases hM with ⟨-, -, q⟩ | ⟨m, m1, m2, m3, m4, m5⟩
          · rw [q, Int32.le_iff_toInt_le, nI_toInt (by omega)] at hc
            have : (-1 : Int32).toInt = -1 := by decide
            omega
          · have hm50 := hlm m m1
            rw [m3] at hc
            have hc' := (nI_leI (by omega) (by omega)).mp hc
            exact ⟨m, by omega, m2, m3, fun j hj => by
              by_cases e2 : j = i
              · rw [e2]; exact hc'
              · exact m4 j (by omega), m5⟩)
        exact ⟨w', by rw [if_pos hc, nm_i, nI_1]; exact b1, b2⟩
      · obtain ⟨w', b1, b2⟩ := XI.fa hg hG d (i + 1) k w2 (nI i) (nI (ln (G g) i)) a4 (by clear hM; omega) (by clear hM; omega) (by clear hM; omega) hno' (by
          right
          refine ⟨i, by omega, rfl, rfl, fun j hj => ?_, fun j hj => ?_⟩
          · by_cases e2 : j = i
            · rw [e2]; exact Nat.le_refl _
            · rcases hM with ⟨q, -⟩ | ⟨m, m1, m2, m3, m4, m5⟩
              · omega
              · have hm50 := hlm m m1
                have := m4 j (by omega)
                have : ¬ (ln (G g) i ≤ ln (G g) m) := fun q => hc (by rw [m3]; exact (nI_leI (by omega) (by omega)).mpr q)
                omega
          · rcases hM with ⟨q, -⟩ | ⟨m, m1, m2, m3, m4, m5⟩
            · omega
            · have hm50 := hlm m m1
              have := m4 j (by omega)
              have : ¬ (ln (G g) i ≤ ln (G g) m) := fun q => hc (by rw [m3]; exact (nI_leI (by omega) (by omega)).mpr q)
              omega)
        exact ⟨w', by rw [if_neg hc, nm_i, nI_1]; exact b1, b2⟩
    · have hwt : wn (G g) i = true := decide_eq_true e
      have f1 : ff (wn (G g)) (gn (G g)) = i := ff_eq hwt hno _ hi'
      have : ansI (G g) = i := by unfold ansI; rw [f1, if_pos hi']
      rw [if_neg e, if_pos rfl, this]
      exact ⟨w2, rfl, a4⟩
theorem XI.answer {n : Nat} {G : Nat → AG} {w : xW} (h : XI n G w) (x : Int32) : ∃ w', xf_C_answer x w = some ((a_answer n G x).1, w') ∧ XI (a_answer n G x).2.1 (a_answer n G x).2.2 w' := by
  unfold xf_C_answer a_answer
  rw [bn_i (h.at x)]
  by_cases hx : isG n x = true
  · obtain ⟨h1, h2, h3, h4, h5⟩ := h.get hx
    obtain ⟨f, hf⟩ := h.hb h1 (0 : Int32)
    have hI := h.R5 f
    have hd := h4.2.2.2.2.2.2.2.1
    have h49 := gn_le (G (ixN x))
    have h54 := (hI.2.2.2.2 _ h1).2.2.2.2.1
    have hz : isG (gn (G (ixN x))) (0 : Int32) = decide (0 < gn (G (ixN x))) := isG_nI (j := 0) (by decide)
    rw [hz] at hf
    rw [if_pos hx, if_pos hx, onO_some, gd_i h3, bn2_i hf]
    by_cases h0 : gn (G (ixN x)) = 0
    · rw [if_neg (show ¬ (decide (0 < gn (G (ixN x))) = true) by rw [decide_eq_true_eq]; omega), if_pos rfl, if_pos h0]
      exact ⟨_, rfl, hI⟩
    · rw [if_pos (show decide (0 < gn (G (ixN x))) = true by rw [decide_eq_true_eq]; omega), if_neg (show ¬ ((1 : Int32) = 0) by decide), if_neg h0, h54]
      by_cases e : gd_ (G (ixN x)) = 100
      · rw [if_neg (fun q => by
          have := (nI_ltI (b := 100) (by omega) (by decide)).mp q
          omega), if_pos e]
        exact ⟨_, rfl, hI⟩
      · rw [if_pos (show nI (gd_ (G (ixN x))) < (100 : Int32) from (nI_ltI (b := 100) (by omega) (by decide)).mpr (by omega)), if_neg e]
        obtain ⟨f2, hf2⟩ := hI.cb h1
        obtain ⟨w2, b1, b2⟩ := XI.fa h1 (show 0 < gn (G (ixN x)) by omega) (gn (G (ixN x))) 0 fu _ (-1) (-1) (hI.R5 f2) rfl (Nat.zero_le _) (fu_gt (by omega)) (fun j hj => absurd hj (Nat.not_lt_zero j)) (Or.inl ⟨rfl, rfl, rfl⟩)
        have b3 : xf_G_findAnswer (ixN x) (xR w 5 f) = some (nI (ansI (G (ixN x))), w2) := by
          unfold xf_G_findAnswer
          rw [bn2_i hf2]
          exact b1
        obtain ⟨w', c1, c2⟩ := b2.done2 h1 (ansI_lt (x := G (ixN x)) (by omega)) (by omega)
        exact ⟨w', by rw [bn2_i b3, bn_i c1], c2⟩
  · refine ⟨w, ?_, by rw [if_neg hx]; exact h⟩
    rw [if_neg hx, if_neg hx, onO_none]
theorem XI.boards {n : Nat} {G : Nat → AG} {w : xW} (h : XI n G w) (x y z : Int32) : ∃ w', xf_C_boards x y z w = some ((a_boards n G x y z).1, w') ∧ XI (a_boards n G x y z).2.1 (a_boards n G x y z).2.2 w' := by
  unfold xf_C_boards a_boards
  rw [bn_i (show xf_C_isWithin x (0 : Int32) (7 : Int32) = _ from xf_rng 0 7 (by decide) (by decide) x), bn_i (show xf_C_isWithin y (0 : Int32) (7 : Int32) = _ from xf_rng 0 7 (by decide) (by decide) y), bn_i (show xf_C_isWithin z (0 : Int32) (2 : Int32) = _ from xf_rng 0 2 (by decide) (by decide) z)]
  by_cases hx : rng 0 7 x = true
  · rw [if_pos hx, if_neg (by decide)]
    by_cases hy : rng 0 7 y = true
    · rw [if_pos hy, if_neg (by decide)]
      by_cases hz : rng 0 2 z = true
      · obtain ⟨a, x1, x2, x3, x4⟩ := rng_t hx
        obtain ⟨b, y1, y2, y3, y4⟩ := rng_t hy
        obtain ⟨c, z1, z2, z3, z4⟩ := rng_t hz
        obtain ⟨h1, h2, h3, h4, h5⟩ := id h
        rw [if_pos hz, if_neg (by decide), if_pos (⟨hx, hy, hz⟩ : rng 0 7 x = true ∧ rng 0 7 y = true ∧ rng 0 2 z = true), x4, y4, x3, y3]
        rcases (show c = 0 ∨ c = 1 ∨ c = 2 by omega) with rfl | rfl | rfl
        · obtain ⟨w', a1, a2, a3, a4⟩ := xf_countWithin_eq (z := 0) h3 h4 x2 y2 (by decide)
          refine ⟨w', ?_, h.bf a2 (fun _ => a4)⟩
          rw [z3, if_neg (by decide), if_neg (by decide), if_pos (show nI 0 = (0 : Int32) from rfl)]
          unfold xf_C_boards_C66
          rw [bn2_i (show xf_B_countWithin (nI a) (nI b) (0 : Int32) w = _ from a1)]
          rfl
        · obtain ⟨w', a1, a2, a3, a4⟩ := xf_countWithin_eq (z := 1) h3 h4 x2 y2 (by decide)
          refine ⟨w', ?_, h.bf a2 (fun _ => a4)⟩
          rw [z3, if_neg (by decide), if_pos (show nI 1 = (1 : Int32) from rfl), if_neg (show ¬ (nI 1 = (0 : Int32)) by decide), if_pos (show nI 1 = (1 : Int32) from rfl)]
          unfold xf_C_boards_C66
          rw [bn2_i (show xf_B_countWithin (nI a) (nI b) (1 : Int32) w = _ from a1)]
          rfl
        · obtain ⟨w', a1, a2, a3, a4⟩ := xf_greatestWorth_eq h3 h4 x2 y2
          refine ⟨w', ?_, h.bf a2 (fun _ => a4)⟩
          rw [z3, if_pos (show nI 2 = (2 : Int32) from rfl), if_neg (show ¬ (nI 2 = (0 : Int32)) by decide), if_neg (show ¬ (nI 2 = (1 : Int32)) by decide), bn2_i a1]
      · rw [if_neg hz, if_pos rfl, if_neg (fun q => hz q.2.2)]
        exact ⟨w, rfl, h⟩
    · rw [if_neg hy, if_pos rfl, if_neg (fun q => hy q.2.1)]
      exact ⟨w, rfl, h⟩
  · rw [if_neg hx, if_pos rfl, if_neg (fun q => hx q.1)]
    exact ⟨w, rfl, h⟩
theorem XI.iSum {n : Nat} {G : Nat → AG} {w : xW} (h : XI n G w) (x : Int32) : xf_C_isSum x w = some (if isS n x = true then 1 else 0) := by
  obtain ⟨h1, h2, -⟩ := h
  have hp : 2 ^ n ≤ 2 ^ 6 := Nat.pow_le_pow_right (by decide) h1
  have hp1 : 1 ≤ 2 ^ n := Nat.one_le_two_pow
  unfold xf_C_isSum isS
  rw [h2, ii_one (by omega), show nI (2 ^ n) - (1 : Int32) = nI (2 ^ n - 1) from ii_sub (b := 1) hp1, bn_i (show xf_C_isWithin x (1 : Int32) (nI (2 ^ n - 1)) = _ from xf_rng 1 (2 ^ n - 1) (by decide) (by omega) x)]
  by_cases hx : rng 1 (2 ^ n - 1) x = true
  · rw [if_pos hx]; rfl
  · rw [if_neg hx]; rfl
theorem XI.wos {S : Nat} (hS : S < 64) {n : Nat} {G : Nat → AG} : ∀ (d g k : Nat) (w : xW), XI n G w → d = n - g → g ≤ n → d < k → ∃ w', xf_C_worthOfSum_C4 k (nI S) (nI (sW G S g)) (nI g) w = some (nI (sW G S n), w') ∧ XI n G w'
  | d, g, 0, w, _, hd, hg, hk => by omega
  | 0, g, k + 1, w, h, hd, hg, hk => by
    have e : g = n := by omega
    have h6 := h.1
    refine ⟨w, ?_, h⟩
    rw [xf_C_worthOfSum_C4, h.2.1, if_pos ((nI_leI (by omega) (by omega)).mpr (by omega)), e]
  | d + 1, g, k + 1, w, h, hd, hg, hk => by
    have h6 := h.1
    have hgn : g < n := by omega
    have e : sW G S (g + 1) = sW G S g ^^^ (if S.testBit g = true then gw (G g) (gs (G g)) else 0) := rfl
    rw [xf_C_worthOfSum_C4, h.2.1, if_neg (fun q => by
      have := (nI_leI (by omega) (by omega)).mp q
      omega), if_neg (fun q => by
      have := (nI_leI (a := 6) (b := g) (by decide) (by omega)).mp q
      omega), gi_i (ii_ix (show g < 6 by omega) (by decide)), nm_i, ii_cl (by omega), ii_bit (by omega) (by omega)]
    by_cases hb : S.testBit g = true
    · obtain ⟨w1, a1, a2, a3⟩ := h.here hgn
      obtain ⟨w', b1, b2⟩ := XI.wos hS d (g + 1) k w1 a2 (by omega) (by omega) (by omega)
      refine ⟨w', ?_, b2⟩
      rw [if_pos hb, if_neg (by decide), bn2_i a1, bn_i (xf_worthIn_eq (gF_b (h.2.2.2.2 g hgn).1 a3)), ii_xor, nm_i, nm_i, nI_1, ← b1, e, if_pos hb]
      rfl
    · obtain ⟨w', b1, b2⟩ := XI.wos hS d (g + 1) k w h (by omega) (by omega) (by omega)
      refine ⟨w', ?_, b2⟩
      rw [if_neg hb, if_pos (show nI 0 = (0 : Int32) from rfl), nm_i, nI_1, ← b1, e, if_neg hb, Nat.xor_zero]
theorem XI.wosE {n : Nat} {G : Nat → AG} {w : xW} (h : XI n G w) {x : Int32} (hx : isS n x = true) : ∃ w', xf_C_worthOfSum x w = some (nI (sW G (ixN x) n), w') ∧ XI n G w' := by
  obtain ⟨a1, a2⟩ := isS_t h.1 hx
  have h6 := h.1
  obtain ⟨w', b1, b2⟩ := XI.wos a1 n 0 fu w h rfl (Nat.zero_le _) (fu_gt (by omega))
  refine ⟨w', ?_, b2⟩
  unfold xf_C_worthOfSum
  conv => lhs; rw [a2]
  exact b1
theorem XI.sum {n : Nat} {G : Nat → AG} {w : xW} (h : XI n G w) (x : Int32) : ∃ w', xf_C_sum x w = some ((a_sum n G x).1, w') ∧ XI (a_sum n G x).2.1 (a_sum n G x).2.2 w' := by
  unfold xf_C_sum a_sum
  rw [bn_i (h.iSum x)]
  by_cases hx : isS n x = true
  · obtain ⟨w', b1, b2⟩ := h.wosE hx
    refine ⟨w', ?_, b2⟩
    rw [if_pos hx, if_neg (by decide), if_pos hx, bn2_i b1]
  · refine ⟨w, ?_, h⟩
    rw [if_neg hx, if_pos rfl, if_neg hx]
theorem XI.fbt {n : Nat} {G : Nat → AG} {g W : Nat} (hg : g < n) (hW : W < 64) : ∀ (d i k : Nat) (w : xW), XI n G w → d = gn (G g) - i → i ≤ gn (G g) → d < k → (∀ j, j < i → gw (G g) (nxt (G g) j) ≠ W) → ∃ w', xf_G_findBiteTo_C7 g k (nI W) (nI (gn (G g))) (nI i) w = some ((if fb (G g) W < gn (G g) then nI (fb (G g) W) else (-1)), w') ∧ XI n G w'
  | d, i, 0, w, _, hd, hi, hk, _ => by omega
  | 0, i, k + 1, w, h, hd, hi, hk, hno => by
    have h49 := gn_le (G g)
    have hf : fb (G g) W = gn (G g) := ff_none _ (fun j hj => decide_eq_false (hno j (by omega)))
    refine ⟨w, ?_, h⟩
    rw [xf_G_findBiteTo_C7, if_pos ((nI_leI (by omega) (by omega)).mpr (by omega)), hf, if_neg (Nat.lt_irrefl _)]
  | d + 1, i, k + 1, w, h, hd, hi, hk, hno => by
    have h49 := gn_le (G g)
    have hi' : i < gn (G g) := by omega
    have hO := (h.2.2.2.2 g hg).1
    obtain ⟨w1, w2, a1, a2, a3, a4, a5⟩ := h.next hg hi'
    have hB := gF_b hO a5
    have hwi : xf_C_worthIn (nI (pF (gF (G g) (nxt (G g) i)))) = some (nI (gw (G g) (nxt (G g) i))) := xf_worthIn_eq hB
    have hB1 : gw (G g) (nxt (G g) i) ≤ 50 := hB.1
    rw [xf_G_findBiteTo_C7, if_neg (fun q => by
      have := (nI_leI (by omega) (by omega)).mp q
      omega), bn2_i a1, bn2_i a3, bn_i hwi]
    by_cases e : gw (G g) (nxt (G g) i) = W
    · have hf : fb (G g) W = i := ff_eq (decide_eq_true e) (fun j hj => decide_eq_false (hno j hj)) _ hi'
      refine ⟨w2, ?_, a4⟩
      rw [if_pos (by rw [e]), hf, if_pos hi']
    · obtain ⟨w', b1, b2⟩ := XI.fbt hg hW d (i + 1) k w2 a4 (by omega) (by omega) (by omega) (fun j hj => by
        by_cases e2 : j = i
        · rw [e2]; exact e
        · exact hno j (by omega))
      refine ⟨w', ?_, b2⟩
      rw [if_neg (ii_ne e (by omega) (by omega)), nm_i, nI_1, b1]
theorem XI.inL {S : Nat} (hS : S < 64) {n : Nat} {G : Nat → AG} {y : Int32} : ∀ (d g k : Nat) (w : xW), XI n G w → d = n - g → g ≤ n → d < k → (∀ j, j < g → (S.testBit j && decide (fb (G j) (wantd G S n j) < gn (G j))) = false) → ∃ w', xf_C_inSum_C30 k (nI S) y (nI (sW G S n)) (nI g) w = some ((if inG G S n < n then (if y = 0 then nI (inG G S n) else nI (fb (G (inG G S n)) (wantd G S n (inG G S n)))) else -1), w') ∧ XI n G w'
  | d, g, 0, w, _, hd, hg, hk, _ => by omega
  | 0, g, k + 1, w, h, hd, hg, hk, hno => by
    have h6 := h.1
    have hf : inG G S n = n := ff_none _ (fun j hj => hno j (by omega))
    refine ⟨w, ?_, h⟩
    rw [xf_C_inSum_C30, h.2.1, if_pos ((nI_leI (by omega) (by omega)).mpr (by omega)), hf, if_neg (Nat.lt_irrefl _)]
  | d + 1, g, k + 1, w, h, hd, hg, hk, hno => by
    have h6 := h.1
    have hgn : g < n := by omega
    rw [xf_C_inSum_C30, h.2.1, if_neg (fun q => by
      have := (nI_leI (by omega) (by omega)).mp q
      omega), if_neg (fun q => by
      have := (nI_leI (a := 6) (b := g) (by decide) (by omega)).mp q
      omega), gi_i (ii_ix (show g < 6 by omega) (by decide)), nm_i, ii_cl (by omega), ii_bit (by omega) (by omega)]
    by_cases hb : S.testBit g = true
    · obtain ⟨w1, a1, a2, a3⟩ := h.here hgn
      have hO := (h.2.2.2.2 g hgn).1
      have hwi : xf_C_worthIn (nI (pF (gF (G g) (gs (G g))))) = some (nI (gw (G g) (gs (G g)))) := xf_worthIn_eq (gF_b hO a3)
      have hsl := sW_lt (fun j hj => (h.2.2.2.2 j hj).1) S n (Nat.le_refl n)
      have hgl : gw (G g) (gs (G g)) ≤ 49 := gw_le hO hO.lt a3.vs
      have hwt : wantd G S n g < 2 ^ 6 := xor_lt hsl (show gw (G g) (gs (G g)) < 2 ^ 6 by omega)
      obtain ⟨f, hf⟩ := a2.cb hgn
      have h49 := gn_le (G g)
      obtain ⟨w2, c1, c2⟩ := XI.fbt (W := wantd G S n g) hgn (by omega) (gn (G g)) 0 fu _ (a2.R5 f) rfl (Nat.zero_le _) (fu_gt (by omega)) (fun j hj => absurd hj (Nat.not_lt_zero j))
      have c3 : xf_G_findBiteTo g (nI (wantd G S n g)) w1 = some ((if fb (G g) (wantd G S n g) < gn (G g) then nI (fb (G g) (wantd G S n g)) else (-1)), w2) := by
        unfold xf_G_findBiteTo
        rw [bn2_i hf]
        exact c1
      have hx : nI (sW G S n) ^^^ nI (gw (G g) (gs (G g))) = nI (wantd G S n g) := ii_xor _ _
      rw [if_pos hb, if_neg (by decide), bn2_i a1, bn_i hwi, hx, bn2_i c3]
      by_cases hfb : fb (G g) (wantd G S n g) < gn (G g)
      · have hin : inG G S n = g := ff_eq (by rw [hb, Bool.true_and]; exact decide_eq_true hfb) hno _ hgn
        rw [if_pos hfb, if_neg (nIm1 (by omega)), hin, if_pos hgn]
        by_cases hy : y = 0
        · exact ⟨w2, by rw [if_pos hy, if_pos hy], c2⟩
        · exact ⟨w2, by rw [if_neg hy, if_neg hy], c2⟩
      · obtain ⟨w', b1, b2⟩ := XI.inL hS (y := y) d (g + 1) k w2 c2 (by omega) (by omega) (by omega) (fun j hj => by
          by_cases e2 : j = g
          · rw [e2, hb, Bool.true_and]; exact decide_eq_false hfb
          · exact hno j (by omega))
        refine ⟨w', ?_, b2⟩
        rw [if_neg hfb, if_pos rfl, nm_i, nI_1, b1]
    · obtain ⟨w', b1, b2⟩ := XI.inL hS (y := y) d (g + 1) k w h (by omega) (by omega) (by omega) (fun j hj => by
        by_cases e2 : j = g
        · rw [e2, Bool.eq_false_iff.mpr hb, Bool.false_and]
        · exact hno j (by omega))
      refine ⟨w', ?_, b2⟩
      rw [if_neg hb, if_pos (show nI 0 = (0 : Int32) from rfl), nm_i, nI_1, b1]
theorem XI.inSum {n : Nat} {G : Nat → AG} {w : xW} (h : XI n G w) (x y : Int32) : ∃ w', xf_C_inSum x y w = some ((a_inSum n G x y).1, w') ∧ XI (a_inSum n G x y).2.1 (a_inSum n G x y).2.2 w' := by
  unfold xf_C_inSum a_inSum
  rw [bn_i (h.iSum x), bn_i (show xf_C_isWithin y (0 : Int32) (1 : Int32) = _ from xf_rng 0 1 (by decide) (by decide) y)]
  by_cases hx : isS n x = true
  · rw [if_pos hx, if_neg (by decide), if_pos hx]
    by_cases hy : rng 0 1 y = true
    · obtain ⟨a1, a2⟩ := isS_t h.1 hx
      have h6 := h.1
      obtain ⟨w1, b1, b2⟩ := h.wosE hx
      obtain ⟨w', c1, c2⟩ := XI.inL a1 (y := y) n 0 fu w1 b2 rfl (Nat.zero_le _) (fu_gt (by omega)) (fun j hj => absurd hj (Nat.not_lt_zero j))
      refine ⟨w', ?_, c2⟩
      rw [if_pos hy, if_neg (by decide), if_pos hy, bn2_i b1]
      conv => lhs; rw [a2]
      rw [ixN_nI (by omega)]
      exact c1
    · rw [if_neg hy, if_pos rfl, if_neg hy]
      exact ⟨w, rfl, h⟩
  · rw [if_neg hx, if_pos rfl, if_neg hx]
    exact ⟨w, rfl, h⟩
