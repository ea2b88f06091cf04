/-! ===== the reference: sums ===== -/
noncomputable def sW (G : Nat → AG) (S : Nat) : Nat → Nat
  | 0 => 0
  | g + 1 => sW G S g ^^^ (if S.testBit g = true then gw (G g) (gs (G g)) else 0)
def isS (n : Nat) (x : Int32) : Bool := rng 1 (2 ^ n - 1) x
theorem MI.isSet {n : Nat} {G : Nat → AG} {w : mW} (h : MI n G w) (x : Int32) : mf_isSet x w = some (if isS n x then 1 else 0) := by
  unfold mf_isSet
  have h6 := h.1
  have hp := Nat.pow_le_pow_right (n := 2) (by decide) h6
  have h1 := Nat.two_pow_pos n
  rw [h.2.1, ii_one (by omega), show nI (2 ^ n) - (1 : Int32) = nI (2 ^ n - 1) from ii_sub (b := 1) h1, bn_i (mf_rng 1 (2 ^ n - 1) (by decide) (by omega) x 1 _ (by decide) (by rw [i64, nI_toInt (by omega)]))]
  unfold isS
  by_cases hx : rng 1 (2 ^ n - 1) x = true
  · rw [if_pos hx]; rfl
  · rw [if_neg hx]; rfl
theorem isS_t {n : Nat} {x : Int32} (hn : n ≤ 6) (h : isS n x = true) : ixN x < 64 ∧ x = nI (ixN x) := by
  obtain ⟨j, h1, h2, h3, h4⟩ := rng_t h
  have := Nat.pow_le_pow_right (n := 2) (by decide) hn
  rw [h4]
  exact ⟨by omega, h3⟩
theorem MI.sumOf {S : Nat} (hS : S < 64) {n : Nat} {G : Nat → AG} : ∀ (d g k : Nat) (w : mW), MI n G w → d = n - g → g ≤ n → d < k → ∃ w', mf_sumOf_C4 k (nI S) (nI (sW G S g)) (nI g) w = some (nI (sW G S n), w') ∧ MI n G w'
  | d, g, 0, w, h, hd, hg, hk => by omega
  | 0, g, k + 1, w, h, hd, hg, hk => by
    have e : g = n := by omega
    have h6 := h.1
    subst e
    refine ⟨w, ?_, h⟩
    rw [mf_sumOf_C4, h.2.1, if_pos ((nI_leI (by omega) (by omega)).mpr (Nat.le_refl _))]
  | d + 1, g, k + 1, w, h, hd, hg, hk => by
    have h6 := h.1
    rw [mf_sumOf_C4, h.2.1, if_neg (fun q => by
      have := (nI_leI (by omega) (by omega)).mp q
      omega), ii_bit (by omega) (by omega)]
    by_cases hb : S.testBit g = true
    · obtain ⟨w1, a1, a2, -⟩ := h.worthOf (show g < n by omega)
      obtain ⟨w', b1, b2⟩ := MI.sumOf hS d (g + 1) k w1 a2 (by omega) (by omega) (by omega)
      refine ⟨w', ?_, b2⟩
      rw [if_pos (bit01.mpr hb), bn2_i a1, nm_i, nm_i, nI_1, ii_xor, ← b1]
      show _ = mf_sumOf_C4 k (nI S) (nI (sW G S g ^^^ (if S.testBit g = true then gw (G g) (gs (G g)) else 0))) (nI (g + 1)) w1
      rw [if_pos hb]
    · obtain ⟨w', b1, b2⟩ := MI.sumOf hS d (g + 1) k w h (by omega) (by omega) (by omega)
      refine ⟨w', ?_, b2⟩
      rw [if_neg (fun q => hb (bit01.mp q)), nm_i, nm_i, nI_1, show (0 : Int32) = nI 0 from rfl, ii_xor, ← b1]
      show _ = mf_sumOf_C4 k (nI S) (nI (sW G S g ^^^ (if S.testBit g = true then gw (G g) (gs (G g)) else 0))) (nI (g + 1)) w
      rw [if_neg hb]
theorem MI.sumOf_eq {n : Nat} {G : Nat → AG} {w : mW} (h : MI n G w) {x : Int32} (hx : isS n x = true) : ∃ w', mf_sumOf x w = some (nI (sW G (ixN x) n), w') ∧ MI n G w' := by
  obtain ⟨h1, h2⟩ := isS_t h.1 hx
  have h6 := h.1
  obtain ⟨w', a1, a2⟩ := MI.sumOf (n := n) (G := G) h1 n 0 fu w h rfl (Nat.zero_le _) (fu_gt (by omega))
  rw [← h2] at a1
  exact ⟨w', a1, a2⟩
noncomputable def a_sum (n : Nat) (G : Nat → AG) (x : Int32) : AR := (if isS n x then nI (sW G (ixN x) n) else -1002, n, G)
theorem MI.sum {n : Nat} {G : Nat → AG} {w : mW} (h : MI n G w) (x : Int32) : ∃ w', mf_sum x w = some ((a_sum n G x).1, w') ∧ MI (a_sum n G x).2.1 (a_sum n G x).2.2 w' := by
  unfold mf_sum a_sum
  rw [bn_i (h.isSet x)]
  by_cases hx : isS n x = true
  · obtain ⟨w', a1, a2⟩ := h.sumOf_eq hx
    refine ⟨w', ?_, a2⟩
    rw [if_pos hx, if_neg (by decide), bn2_i a1, if_pos hx]
  · refine ⟨w, ?_, h⟩
    rw [if_neg hx, if_pos rfl, if_neg hx]
/-- the first bite of a game that leaves a worth -/
noncomputable def fb (x : AG) (wanted : Nat) : Nat := ff (fun i => decide (gw x (nxt x i) = wanted)) (gn x)
noncomputable def wantd (G : Nat → AG) (S n g : Nat) : Nat := sW G S n ^^^ gw (G g) (gs (G g))
noncomputable def inG (G : Nat → AG) (S n : Nat) : Nat := ff (fun g => S.testBit g && decide (fb (G g) (wantd G S n g) < gn (G g))) n
noncomputable def a_inSum (n : Nat) (G : Nat → AG) (x y : Int32) : AR := (if isS n x then (if rng 0 1 y then (if inG G (ixN x) n < n then (if y = 0 then nI (inG G (ixN x) n) else nI (fb (G (inG G (ixN x) n)) (wantd G (ixN x) n (inG G (ixN x) n)))) else -1) else -1002) else -1002, n, G)
theorem xor_lt {a b n : Nat} (ha : a < 2 ^ n) (hb : b < 2 ^ n) : a ^^^ b < 2 ^ n := Nat.xor_lt_two_pow ha hb
theorem gw_le {x : AG} (h : GOk x) {s : Nat} (hs : s < 32768) (hv : Vs (gk x) s) : gw x s ≤ 49 := (Sol_le (M := gW x) h.2.2.1 hs hv).1
theorem sW_lt {n : Nat} {G : Nat → AG} (h : ∀ g, g < n → GOk (G g)) (S : Nat) : ∀ g, g ≤ n → sW G S g < 2 ^ 6
  | 0, _ => by show 0 < 2 ^ 6; decide
  | g + 1, hg => by
    refine xor_lt (sW_lt h S g (by omega)) ?_
    split
    · have hk := h g (by omega)
      have := gw_le hk hk.lt hk.2.2.2.2.2.2.1.vs
      omega
    · decide
theorem mf_inSum_in {w : mW} {x : AG} {K : Int32 → Int32 → Int32 → Int32 → mW → Option (Int32 × mW)} {x1 x2 x3 : Int32} {g W : Nat} (h : Look w x) (hx : GOk x) (hW : W < 64) : ∀ (d k n : Nat), d = gn x - k → k ≤ gn x → d < n → (∀ j, j < k → gw x (nxt x j) ≠ W) → mf_inSum_C71 K n x1 x2 x3 (nI g) (nI W) (nI (gn x)) (nI k) w = (if fb x W < gn x then (if x2 = 0 then some (nI g, w) else some (nI (fb x W), w)) else K x1 x2 x3 (nI (g + 1)) w)
  | d, k, 0, hd, hk, hn, _ => by omega
  | 0, k, n + 1, hd, hk, hn, hno => by
    have e : k = gn x := by omega
    have h49 := nb_le49 (gk x) (gW x) (gs x)
    have h49' : gn x ≤ 49 := h49
    have hf : fb x W = gn x := ff_none _ (fun j hj => decide_eq_false (hno j (by omega)))
    rw [mf_inSum_C71, if_pos ((nI_leI (by omega) (by omega)).mpr (by omega)), nm_i, nI_1, hf, if_neg (Nat.lt_irrefl _)]
  | d + 1, k, n + 1, hd, hk, hn, hno => by
    have h49 := nb_le49 (gk x) (gW x) (gs x)
    have h49' : gn x ≤ 49 := h49
    obtain ⟨a1, a2, a3, a4, a5, a6, a7⟩ := h.at hx (show k < gn x by omega)
    have hg := hx.nxt (show k < nb (gk x) (gW x) (gs x) from (show k < gn x by omega))
    have hgw := gw_le hx hg.2.2 hg.1.vs
    rw [mf_inSum_C71, if_neg (fun q => by
      have := (nI_leI (by omega) (by omega)).mp q
      omega), gi_i (ii_ix a6 (by decide)), ii_cl (by omega), a1, gi_i (ii_ix a2 (by decide)), ii_cl (by omega), a5]
    by_cases e : gw x (nxt x k) = W
    · have hf : fb x W = k := ff_eq (decide_eq_true e) (fun j hj => decide_eq_false (hno j hj)) _ (by omega)
      rw [if_pos (by rw [e]), hf, if_pos (show k < gn x by omega)]
    · rw [if_neg (ii_ne e (by omega) (by omega)), nm_i, nI_1]
      exact mf_inSum_in h hx hW d (k + 1) n (by omega) (by omega) (by omega) (fun j hj => by
        by_cases q : j = k
        · subst q; exact e
        · exact hno j (by omega))
theorem MI.inSumL {S : Nat} (hS : S < 64) {n : Nat} {G : Nat → AG} {y : Int32} : ∀ (d g k : Nat) (w : mW), MI n G w → d = n - g → g ≤ n → d < k → (∀ j, j < g → (S.testBit j && decide (fb (G j) (wantd G S n j) < gn (G j))) = false) → ∃ w', mf_inSum_C31 k (nI S) y (nI (sW G S n)) (nI g) w = some ((if inG G S n < n then (if y = 0 then nI (inG G S n) else nI (fb (G (inG G S n)) (wantd G S n (inG G S n)))) else -1), w') ∧ MI n G w'
  | d, g, 0, w, h, hd, hg, hk, _ => by omega
  | 0, g, k + 1, w, h, hd, hg, hk, hno => by
    have e : g = n := by omega
    have h6 := h.1
    have hf : inG G S n = n := ff_none _ (fun j hj => hno j (by omega))
    refine ⟨w, ?_, h⟩
    rw [mf_inSum_C31, h.2.1, if_pos ((nI_leI (by omega) (by omega)).mpr (by omega)), hf, if_neg (Nat.lt_irrefl _)]
  | d + 1, g, k + 1, w, h, hd, hg, hk, hno => by
    have h6 := h.1
    rw [mf_inSum_C31, h.2.1, if_neg (fun q => by
      have := (nI_leI (by omega) (by omega)).mp q
      omega), ii_bit (by omega) (by omega)]
    by_cases hb : S.testBit g = true
    · obtain ⟨w1, a1, a2, a3⟩ := h.worthOf (show g < n by omega)
      obtain ⟨w2, b1, b2, b3, b4⟩ := a2.bites (show g < n by omega)
      have hgk := (h.2.2.1 g (by omega)).1
      have hL : Look w2 (G g) := ⟨a3.sc b3, fun i hi => b4 i _ (nxt_nth hi)⟩
      have h49 := nb_le49 (gk (G g)) (gW (G g)) (gs (G g))
      have h49' : gn (G g) ≤ 49 := h49
      have hwl : wantd G S n g < 64 := by
        have h1 := gw_le hgk hgk.lt hgk.2.2.2.2.2.2.1.vs
        exact xor_lt (n := 6) (sW_lt (fun j hj => (h.2.2.1 j hj).1) S n (Nat.le_refl n)) (by omega)
      have hin := mf_inSum_in (K := mf_inSum_C31 k) (x1 := nI S) (x2 := y) (x3 := nI (sW G S n)) (g := g) (W := wantd G S n g) hL hgk hwl (gn (G g)) 0 fu rfl (Nat.zero_le _) (fu_gt (by omega)) (fun j hj => by omega)
      rw [if_pos (bit01.mpr hb), bn2_i a1, nm_i, ii_xor, bn2_i b1]
      by_cases hlt : fb (G g) (wantd G S n g) < gn (G g)
      · have hf : inG G S n = g := ff_eq (by rw [hb, decide_eq_true hlt]; rfl) hno _ (by omega)
        rw [if_pos hlt] at hin
        refine ⟨w2, ?_, b2⟩
        refine Eq.trans hin ?_
        rw [hf, if_pos (show g < n by omega)]
        by_cases hy : y = 0
        · rw [if_pos hy, if_pos hy]
        · rw [if_neg hy, if_neg hy]
      · rw [if_neg hlt] at hin
        obtain ⟨w', c1, c2⟩ := MI.inSumL hS (y := y) d (g + 1) k w2 b2 (by omega) (by omega) (by omega) (fun j hj => by
          by_cases q : j = g
          · subst q; rw [decide_eq_false hlt, Bool.and_false]
          · exact hno j (by omega))
        exact ⟨w', Eq.trans hin c1, c2⟩
    · obtain ⟨w', c1, c2⟩ := MI.inSumL hS (y := y) d (g + 1) k w h (by omega) (by omega) (by omega) (fun j hj => by
        by_cases q : j = g
        · subst q
          rw [Bool.eq_false_iff.mpr hb]; rfl
        · exact hno j (by omega))
      refine ⟨w', ?_, c2⟩
      rw [if_neg (fun q => hb (bit01.mp q)), nm_i, nI_1]
      exact c1
theorem MI.inSum {n : Nat} {G : Nat → AG} {w : mW} (h : MI n G w) (x y : Int32) : ∃ w', mf_inSum x y w = some ((a_inSum n G x y).1, w') ∧ MI (a_inSum n G x y).2.1 (a_inSum n G x y).2.2 w' := by
  unfold mf_inSum a_inSum
  rw [bn_i (h.isSet x)]
  by_cases hx : isS n x = true
  · rw [if_pos hx, if_neg (by decide), bn_i (mf_rng 0 1 (by decide) (by decide) y 0 1 (by decide) (by decide))]
    by_cases hy : rng 0 1 y = true
    · obtain ⟨w1, a1, a2⟩ := h.sumOf_eq hx
      obtain ⟨h1, h2⟩ := isS_t h.1 hx
      have h6 := h.1
      obtain ⟨w', b1, b2⟩ := MI.inSumL h1 (y := y) n 0 fu w1 a2 rfl (Nat.zero_le _) (fu_gt (by omega)) (fun j hj => by omega)
      rw [← h2] at b1
      refine ⟨w', ?_, b2⟩
      rw [if_pos hy, if_neg (by decide), bn2_i a1, if_pos hx, if_pos hy]
      exact b1
    · refine ⟨w, ?_, h⟩
      rw [if_neg hy, if_pos rfl, if_pos hx, if_neg hy]
  · refine ⟨w, ?_, h⟩
    rw [if_neg hx, if_pos rfl, if_neg hx]
def a_ranked (n : Nat) (G : Nat → AG) (x y : Int32) : AR := (if rng 0 3431 x then (if rng 0 6 y then nI (ub (ixN x) (ixN y)) else -1002) else -1002, n, G)
theorem MI.ranked {n : Nat} {G : Nat → AG} {w : mW} (h : MI n G w) (x y : Int32) : ∃ w', mf_ranked x y w = some ((a_ranked n G x y).1, w') ∧ MI (a_ranked n G x y).2.1 (a_ranked n G x y).2.2 w' := by
  unfold mf_ranked a_ranked
  rw [bn_i (mf_rng 0 3431 (by decide) (by decide) x 0 3431 (by decide) (by decide))]
  by_cases hx : rng 0 3431 x = true
  · rw [if_pos hx, if_neg (by decide), bn_i (mf_rng 0 6 (by decide) (by decide) y 0 6 (by decide) (by decide))]
    by_cases hy : rng 0 6 y = true
    · obtain ⟨j, h1, h2, h3, h4⟩ := rng_t hx
      obtain ⟨k, g1, g2, g3, g4⟩ := rng_t hy
      obtain ⟨f, a1, a2⟩ := mf_unrank_eq (show j < 3432 by omega) w
      refine ⟨mR w 15 f, ?_, h.sc (Sc.R (by decide))⟩
      rw [if_pos hy, if_neg (by decide), h3, bn_i a1, g3, gi_i (ii_ix (show k < 7 by omega) (by decide)), ii_cl (by omega), mR_at, a2 k (by omega), ← h3, ← g3, if_pos hx, if_pos hy, h4, g4]
    · refine ⟨w, ?_, h⟩
      rw [if_neg hy, if_pos rfl, if_pos hx, if_neg hy]
  · refine ⟨w, ?_, h⟩
    rw [if_neg hx, if_pos rfl, if_neg hx]
