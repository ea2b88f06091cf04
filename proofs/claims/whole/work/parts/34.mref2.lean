/-! ===== the reference: a game's data, its bites ===== -/
def wpF (e1 e2 : Nat → Nat) (q : Nat) : Nat → Nat
  | 0 => 2 ^ q
  | j + 1 => wpF e1 e2 q j ||| (if e1 j = q ∨ e2 j = q then 2 ^ (6 + j) else 0)
def MOrd (w : mW) (g : Nat) (A : Nat → Nat) (W : Nat) : Prop := ∃ th, th ≤ 12 ∧ w.2 4 g = nI th ∧ W = 2 ^ th - 1 ∧ ∀ t, t < th → ∃ B, w.2 5 (12 * g + t) = nI B ∧ B < 4096 ∧ A t = 2 ^ t ||| B ∧ B.testBit t = false
def MNet (w : mW) (g : Nat) (A : Nat → Nat) (W : Nat) : Prop := ∃ po ro, ∃ e1 e2 : Nat → Nat, po ≤ 6 ∧ ro ≤ 9 ∧ w.2 6 g = nI po ∧ w.2 7 g = nI ro ∧ W = (2 ^ po - 1) ||| 64 * (2 ^ ro - 1) ∧ (∀ j, j < ro → e1 j < po ∧ e2 j < po ∧ w.2 8 (18 * g + 2 * j) = nI (e1 j) ∧ w.2 8 (18 * g + 2 * j + 1) = nI (e2 j)) ∧ (∀ q, q < 6 → A q = wpF e1 e2 q ro) ∧ ∀ j, j < 9 → A (6 + j) = 2 ^ (6 + j)
def MD (w : mW) (g k : Nat) (A : Nat → Nat) (W : Nat) : Prop := w.2 1 g = nI k ∧ ((k = 0 ∧ W = 3431) ∨ (k = 1 ∧ MOrd w g A W) ∨ (k = 2 ∧ MNet w g A W))
theorem MD.keep {w w' : mW} {g k : Nat} {A : Nat → Nat} {W : Nat} (h : MD w g k A W) (hc : ∀ c, c < 9 → w'.2 c = w.2 c) : MD w' g k A W := by
  unfold MD MOrd MNet at h ⊢
  rw [hc 1 (by decide), hc 4 (by decide), hc 5 (by decide), hc 6 (by decide), hc 7 (by decide), hc 8 (by decide)]
  exact h
theorem MD.sc {w w' : mW} {g k : Nat} {A : Nat → Nat} {W : Nat} (h : MD w g k A W) (hc : Sc w w') : MD w' g k A W := h.keep (fun c hk => hc.2.2 c (by omega))
theorem wpF_lt {e1 e2 : Nat → Nat} {q : Nat} (hq : q < 6) : ∀ j, j ≤ 9 → wpF e1 e2 q j < 2 ^ 15
  | 0, _ => p2 (by omega)
  | j + 1, hj => by
    have h1 := wpF_lt (e1 := e1) (e2 := e2) hq j (by omega)
    unfold wpF
    refine Nat.or_lt_two_pow h1 ?_
    split
    · exact p2 (by omega)
    · exact Nat.two_pow_pos 15
theorem wpF_bit {e1 e2 : Nat → Nat} {q i : Nat} : ∀ j, (wpF e1 e2 q j).testBit i = (decide (i = q) || decide (∃ k, k < j ∧ i = 6 + k ∧ (e1 k = q ∨ e2 k = q)))
  | 0 => by
    unfold wpF
    rw [Nat.testBit_two_pow]
    simp [eq_comm]
  | j + 1 => by
    unfold wpF
    rw [Nat.testBit_or, wpF_bit j]
    by_cases h : e1 j = q ∨ e2 j = q
    · rw [if_pos h, Nat.testBit_two_pow, Bool.or_assoc]
      congr 1
      rw [Bool.eq_iff_iff]
      simp only [Bool.or_eq_true, decide_eq_true_eq]
      constructor
      · rintro (⟨k, h1, h2, h3⟩ | h1)
        · exact ⟨k, by omega, h2, h3⟩
        · exact ⟨j, by omega, h1.symm, h⟩
      · rintro ⟨k, h1, h2, h3⟩
        by_cases hk : k = j
        · right; omega
        · left; exact ⟨k, by omega, h2, h3⟩
    · rw [if_neg h, Nat.zero_testBit, Bool.or_false]
      congr 1
      rw [Bool.eq_iff_iff]
      simp only [decide_eq_true_eq]
      constructor
      · rintro ⟨k, h1, h2, h3⟩; exact ⟨k, by omega, h2, h3⟩
      · rintro ⟨k, h1, h2, h3⟩
        by_cases hk : k = j
        · subst hk; exact absurd h3 h
        · exact ⟨k, by omega, h2, h3⟩
theorem full_bit {po ro i : Nat} (hp : po ≤ 6) : ((2 ^ po - 1) ||| 64 * (2 ^ ro - 1)).testBit i = (decide (i < po) || decide (6 ≤ i ∧ i < 6 + ro)) := by
  rw [Nat.testBit_or, Nat.testBit_two_pow_sub_one, show 64 * (2 ^ ro - 1) = 2 ^ 6 * (2 ^ ro - 1) from rfl, Nat.testBit_two_pow_mul, Nat.testBit_two_pow_sub_one]
  congr 1
  rw [Bool.eq_iff_iff]
  simp only [ge_iff_le, Bool.and_eq_true, decide_eq_true_eq]
  omega
theorem MD.mask {w : mW} {g k : Nat} {A : Nat → Nat} {W : Nat} (h : MD w g k A W) : W < 2 ^ 15 := by
  obtain ⟨-, (⟨-, h⟩ | ⟨-, th, h1, -, h3, -⟩ | ⟨-, po, ro, e1, e2, h1, h2, -, -, h3, -⟩)⟩ := h
  · omega
  · have := p2 (show th < 15 by omega)
    omega
  · rw [h3]
    refine bit_lt (fun i hi => ?_)
    rw [full_bit h1] at hi
    simp at hi
    omega
theorem mf_withPost_loop {w : mW} {g q ro po : Nat} {e1 e2 : Nat → Nat} (hg : g < 6) (hq : q < 6) (hp : po ≤ 6) (hr : ro ≤ 9) (h7 : w.2 7 g = nI ro) (he : ∀ j, j < ro → e1 j < po ∧ e2 j < po ∧ w.2 8 (18 * g + 2 * j) = nI (e1 j) ∧ w.2 8 (18 * g + 2 * j + 1) = nI (e2 j)) : ∀ (d j n : Nat), d = ro - j → j ≤ ro → d < n → mf_withPost_C7 w n (nI g) (nI q) (nI (wpF e1 e2 q j)) (nI j) = some (nI (wpF e1 e2 q ro))
  | d, j, 0, _, _, hn => by omega
  | 0, j, n + 1, hd, hj, hn => by
    have e : j = ro := by omega
    subst e
    rw [mf_withPost_C7, gi_i (ii_ix hg (by decide)), ii_cl (by omega), h7, if_pos ((nI_leI (by omega) (by omega)).mpr (Nat.le_refl _))]
  | d + 1, j, n + 1, hd, hj, hn => by
    obtain ⟨g1, g2, g3, g4⟩ := he j (by omega)
    have ih := mf_withPost_loop hg hq hp hr h7 he d (j + 1) n (by omega) (by omega) (by omega)
    have hpos : (e1 j = q ∨ e2 j = q) → mf_withPost_C54 w (mf_withPost_C7 w n) (nI g) (nI q) (nI j) (nI (wpF e1 e2 q j)) = some (nI (wpF e1 e2 q ro)) := by
      intro hh
      unfold mf_withPost_C54
      show mf_withPost_C7 w n (nI g) (nI q) (nI (wpF e1 e2 q j) ||| ((64 : Int32) <<< (nI j &&& 31))) (nI j + (1 : Int32)) = _
      rw [ii_64 (by omega), ii_or, nI_1, ← ih]
      show _ = mf_withPost_C7 w n (nI g) (nI q) (nI (wpF e1 e2 q j ||| (if e1 j = q ∨ e2 j = q then 2 ^ (6 + j) else 0))) (nI (j + 1))
      rw [if_pos hh]
    rw [mf_withPost_C7, gi_i (ii_ix hg (by decide)), ii_cl (by omega), h7, if_neg (fun h => by
      have := (nI_leI (by omega) (by omega)).mp h
      omega)]
    show (gi (((18 : Int32) * nI g) + ((2 : Int32) * nI j)) 108 _) = _
    have e5 : ((18 : Int32) * nI g) + ((2 : Int32) * nI j) = nI (18 * g + 2 * j) := by
      rw [show (18 : Int32) * nI g = nI (18 * g) from pk_mul 18 g, show (2 : Int32) * nI j = nI (2 * j) from pk_mul 2 j, nI_add]
    rw [e5, gi_i (ii_ix (by omega) (by decide)), ii_cl (by omega), g3]
    by_cases h1 : e1 j = q
    · rw [if_pos (by rw [h1])]
      exact hpos (Or.inl h1)
    · rw [if_neg (fun h => h1 ((nI_eq (by omega) (by omega)).mp h)), nI_1, gi_i (ii_ix (by omega) (by decide)), ii_cl (by omega), g4]
      by_cases h2 : e2 j = q
      · rw [if_pos (by rw [h2])]
        exact hpos (Or.inr h2)
      · rw [if_neg (fun h => h2 ((nI_eq (by omega) (by omega)).mp h))]
        show mf_withPost_C7 w n (nI g) (nI q) (nI (wpF e1 e2 q j) ||| nI 0) (nI j + (1 : Int32)) = _
        rw [ii_or, nI_1, ← ih]
        show _ = mf_withPost_C7 w n (nI g) (nI q) (nI (wpF e1 e2 q j ||| (if e1 j = q ∨ e2 j = q then 2 ^ (6 + j) else 0))) (nI (j + 1))
        rw [if_neg (by rintro (h | h) <;> contradiction)]
theorem mf_withPost_eq {w : mW} {g q ro po : Nat} {e1 e2 : Nat → Nat} (hg : g < 6) (hq : q < 6) (hp : po ≤ 6) (hr : ro ≤ 9) (h7 : w.2 7 g = nI ro) (he : ∀ j, j < ro → e1 j < po ∧ e2 j < po ∧ w.2 8 (18 * g + 2 * j) = nI (e1 j) ∧ w.2 8 (18 * g + 2 * j + 1) = nI (e2 j)) : mf_withPost (nI g) (nI q) w = some (nI (wpF e1 e2 q ro)) := by
  unfold mf_withPost
  rw [ii_one (by omega)]
  exact mf_withPost_loop hg hq hp hr h7 he ro 0 fu rfl (Nat.zero_le _) (fu_gt (by omega))
/-- the bites of the parts under m are listed -/
def NI (w : mW) (s W : Nat) (A : Nat → Nat) (m : Nat) : Prop := w.1 2 = nI (cn (s &&& W) m) ∧ ∀ q, q < m → (s &&& W).testBit q = true → w.2 16 (cn (s &&& W) q) = nI (del s (A q))
theorem NI.skip {w : mW} {s W : Nat} {A : Nat → Nat} {m : Nat} (h : NI w s W A m) (hb : (s &&& W).testBit m = false) : NI w s W A (m + 1) := by
  refine ⟨?_, fun q hq hqb => ?_⟩
  · show w.1 2 = nI (cn (s &&& W) m + (if (s &&& W).testBit m then 1 else 0))
    rw [hb]; exact h.1
  · rcases Nat.lt_or_ge q m with h1 | h1
    · exact h.2 q h1 hqb
    · have : q = m := by omega
      subst this; rw [hb] at hqb; cases hqb
theorem NI.add {w : mW} {s W : Nat} {A : Nat → Nat} {m : Nat} (h : NI w s W A m) (hb : (s &&& W).testBit m = true) (hm : m < 15) : ∃ w', mf_addNext (nI (del s (A m))) w = some w' ∧ Sc w w' ∧ NI w' s W A (m + 1) := by
  have h49 := cn_n (s &&& W) m
  refine ⟨_, mf_addNext_eq _ h.1 (by omega), (Sc.R (by decide)).tr Sc.S, ?_, fun q hq hqb => ?_⟩
  · show nI (cn (s &&& W) m + 1) = nI (cn (s &&& W) m + (if (s &&& W).testBit m then 1 else 0))
    rw [hb]; rfl
  · show (mR w 16 (upd (w.2 16) (cn (s &&& W) m) (nI (del s (A m))))).2 16 (cn (s &&& W) q) = _
    rw [mR_at]
    by_cases hqm : q = m
    · subst hqm; exact upd_at _ _ _
    · rw [upd_ne _ _ (fun e => hqm (cn_inj hqb hb e))]
      exact h.2 q (by omega) hqb
theorem NI.upto {w : mW} {s W : Nat} {A : Nat → Nat} {m m' : Nat} (h : NI w s W A m) (hm : m ≤ m') (hb : ∀ q, m ≤ q → q < m' → (s &&& W).testBit q = false) : NI w s W A m' := by
  induction m' with
  | zero => have : m = 0 := by omega
            subst this; exact h
  | succ n ih =>
    rcases Nat.lt_or_ge m (n + 1) with q | q
    · exact (ih (by omega) (fun j h1 h2 => hb j h1 (by omega))).skip (hb n (by omega) (by omega))
    · have : m = n + 1 := by omega
      subst this; exact h
theorem NI.all {w : mW} {s W k : Nat} {A : Nat → Nat} (hk : k ≠ 0) (h : NI w s W A 15) : w.1 2 = nI (nb k W s) ∧ ∀ i t, Nth k A W s i t → w.2 16 i = nI t := by
  refine ⟨?_, fun i t ht => ?_⟩
  · unfold nb; rw [if_neg hk]; exact h.1
  · unfold Nth at ht
    rw [if_neg hk] at ht
    obtain ⟨q, h1, h2, rfl, rfl⟩ := ht
    exact h.2 q h1 h2
theorem bit01 {b : Bool} : (nI (if b = true then 1 else 0) = (1 : Int32)) = (b = true) := by
  cases b
  · exact propext ⟨fun h => absurd h (by decide), fun h => by cases h⟩
  · exact propext ⟨fun _ => rfl, fun _ => rfl⟩
theorem mf_findNext_ord {g th s : Nat} {A : Nat → Nat} (hg : g < 6) (hth : th ≤ 12) (hs : s < 2 ^ 15) : ∀ (d t n : Nat) (w : mW), d = th - t → t ≤ th → d < n → w.2 4 g = nI th → (∀ t, t < th → ∃ B, w.2 5 (12 * g + t) = nI B ∧ B < 4096 ∧ A t = 2 ^ t ||| B ∧ B.testBit t = false) → NI w s (2 ^ th - 1) A t → ∃ w', mf_findNext_C34 n (nI g) (nI s) (nI t) w = some w' ∧ Sc w w' ∧ NI w' s (2 ^ th - 1) A th
  | d, t, 0, w, _, _, hn, _, _, _ => by omega
  | 0, t, n + 1, w, hd, ht, hn, h4, h5, hI => by
    have e : t = th := by omega
    subst e
    refine ⟨w, ?_, Sc.rf w, hI⟩
    rw [mf_findNext_C34, gi_i (ii_ix hg (by decide)), ii_cl (by omega), h4, if_pos ((nI_leI (by omega) (by omega)).mpr (Nat.le_refl _))]
  | d + 1, t, n + 1, w, hd, ht, hn, h4, h5, hI => by
    have hmask : (s &&& (2 ^ th - 1)).testBit t = s.testBit t := by
      rw [Nat.testBit_and, Nat.testBit_two_pow_sub_one, decide_eq_true (show t < th by omega), Bool.and_true]
    rw [mf_findNext_C34, gi_i (ii_ix hg (by decide)), ii_cl (by omega), h4, if_neg (fun h => by
      have := (nI_leI (by omega) (by omega)).mp h
      omega), ii_bit (by omega) (by omega)]
    by_cases hb : s.testBit t = true
    · obtain ⟨B, b1, b2, b3, b4⟩ := h5 t (by omega)
      obtain ⟨w1, k1, k2, k3⟩ := hI.add (hmask.trans hb) (by omega)
      obtain ⟨w', g1, g2, g3⟩ := mf_findNext_ord hg hth hs d (t + 1) n w1 (by omega) (by omega) (by omega) (by rw [k2.2.2 4 (by decide)]; exact h4) (fun t ht => by rw [k2.2.2 5 (by decide)]; exact h5 t ht) k3
      refine ⟨w', ?_, k2.tr g2, g3⟩
      rw [if_pos (bit01.mpr hb)]
      unfold mf_placeOf
      rw [bn_i (show some (((12 : Int32) * nI g) + nI t) = some (nI (12 * g + t)) by rw [show (12 : Int32) * nI g = nI (12 * g) from pk_mul 12 g, nI_add]), gi_i (ii_ix (by omega) (by decide)), ii_cl (by omega), b1, ii_one (by omega), ii_or, ii_not, ← b3, bn_i k1, ← g1]
      show mf_findNext_C34 n (nI g) (nI s) (nI t + (1 : Int32)) w1 = _
      rw [nI_1]
    · obtain ⟨w', g1, g2, g3⟩ := mf_findNext_ord hg hth hs d (t + 1) n w (by omega) (by omega) (by omega) h4 h5 (hI.skip (by rw [hmask]; exact Bool.eq_false_iff.mpr hb))
      refine ⟨w', ?_, g2, g3⟩
      rw [if_neg (fun h => hb (bit01.mp h)), ← g1]
      show mf_findNext_C34 n (nI g) (nI s) (nI t + (1 : Int32)) w = _
      rw [nI_1]
theorem mf_findNext_roads {g po ro s : Nat} {A : Nat → Nat} (hg : g < 6) (hp : po ≤ 6) (hr : ro ≤ 9) (hs : s < 2 ^ 15) (hA : ∀ j, j < 9 → A (6 + j) = 2 ^ (6 + j)) : ∀ (d j n : Nat) (w : mW), d = ro - j → j ≤ ro → d < n → w.2 7 g = nI ro → NI w s ((2 ^ po - 1) ||| 64 * (2 ^ ro - 1)) A (6 + j) → ∃ w', mf_findNext_C127 n (nI g) (nI s) (nI j) w = some w' ∧ Sc w w' ∧ NI w' s ((2 ^ po - 1) ||| 64 * (2 ^ ro - 1)) A (6 + ro)
  | d, j, 0, w, _, _, hn, _, _ => by omega
  | 0, j, n + 1, w, hd, hj, hn, h7, hI => by
    have e : j = ro := by omega
    subst e
    refine ⟨w, ?_, Sc.rf w, hI⟩
    rw [mf_findNext_C127, gi_i (ii_ix hg (by decide)), ii_cl (by omega), h7, if_pos ((nI_leI (by omega) (by omega)).mpr (Nat.le_refl _))]
  | d + 1, j, n + 1, w, hd, hj, hn, h7, hI => by
    have hmask : (s &&& ((2 ^ po - 1) ||| 64 * (2 ^ ro - 1))).testBit (6 + j) = s.testBit (6 + j) := by
      rw [Nat.testBit_and, full_bit hp, decide_eq_true (show 6 ≤ 6 + j ∧ 6 + j < 6 + ro by omega), Bool.or_true, Bool.and_true]
    rw [mf_findNext_C127, gi_i (ii_ix hg (by decide)), ii_cl (by omega), h7, if_neg (fun h => by
      have := (nI_leI (by omega) (by omega)).mp h
      omega), show (6 : Int32) + nI j = nI (6 + j) from nI_add 6 j, ii_bit (by omega) (by omega)]
    by_cases hb : s.testBit (6 + j) = true
    · obtain ⟨w1, k1, k2, k3⟩ := hI.add (hmask.trans hb) (by omega)
      obtain ⟨w', g1, g2, g3⟩ := mf_findNext_roads hg hp hr hs hA d (j + 1) n w1 (by omega) (by omega) (by omega) (by rw [k2.2.2 7 (by decide)]; exact h7) k3
      refine ⟨w', ?_, k2.tr g2, g3⟩
      rw [if_pos (bit01.mpr hb), ii_64 (by omega), ii_not, ← hA j (by omega), bn_i k1, ← g1]
      show mf_findNext_C127 n (nI g) (nI s) (nI j + (1 : Int32)) w1 = _
      rw [nI_1]
    · obtain ⟨w', g1, g2, g3⟩ := mf_findNext_roads hg hp hr hs hA d (j + 1) n w (by omega) (by omega) (by omega) h7 (hI.skip (by rw [hmask]; exact Bool.eq_false_iff.mpr hb))
      refine ⟨w', ?_, g2, g3⟩
      rw [if_neg (fun h => hb (bit01.mp h)), ← g1]
      show mf_findNext_C127 n (nI g) (nI s) (nI j + (1 : Int32)) w = _
      rw [nI_1]
theorem mf_findNext_posts {g po ro s : Nat} {A e1 e2 : Nat → Nat} (hg : g < 6) (hp : po ≤ 6) (hr : ro ≤ 9) (hs : s < 2 ^ 15) (hA : ∀ q, q < 6 → A q = wpF e1 e2 q ro) : ∀ (d q n : Nat) (w : mW), d = po - q → q ≤ po → d < n → w.2 6 g = nI po → w.2 7 g = nI ro → (∀ j, j < ro → e1 j < po ∧ e2 j < po ∧ w.2 8 (18 * g + 2 * j) = nI (e1 j) ∧ w.2 8 (18 * g + 2 * j + 1) = nI (e2 j)) → NI w s ((2 ^ po - 1) ||| 64 * (2 ^ ro - 1)) A q → ∃ w', mf_findNext_C86 n (nI g) (nI s) (nI q) w = mf_findNext_C127 fu (nI g) (nI s) (nI 0) w' ∧ Sc w w' ∧ NI w' s ((2 ^ po - 1) ||| 64 * (2 ^ ro - 1)) A po
  | d, q, 0, w, _, _, hn, _, _, _, _ => by omega
  | 0, q, n + 1, w, hd, hq, hn, h6, h7, h8, hI => by
    have e : q = po := by omega
    subst e
    refine ⟨w, ?_, Sc.rf w, hI⟩
    rw [mf_findNext_C86, gi_i (ii_ix hg (by decide)), ii_cl (by omega), h6, if_pos ((nI_leI (by omega) (by omega)).mpr (Nat.le_refl _))]
    rfl
  | d + 1, q, n + 1, w, hd, hq, hn, h6, h7, h8, hI => by
    have hmask : (s &&& ((2 ^ po - 1) ||| 64 * (2 ^ ro - 1))).testBit q = s.testBit q := by
      rw [Nat.testBit_and, full_bit hp, decide_eq_true (show q < po by omega), Bool.true_or, Bool.and_true]
    rw [mf_findNext_C86, gi_i (ii_ix hg (by decide)), ii_cl (by omega), h6, if_neg (fun h => by
      have := (nI_leI (by omega) (by omega)).mp h
      omega), ii_bit (by omega) (by omega)]
    by_cases hb : s.testBit q = true
    · obtain ⟨w1, k1, k2, k3⟩ := hI.add (hmask.trans hb) (by omega)
      obtain ⟨w', g1, g2, g3⟩ := mf_findNext_posts hg hp hr hs hA d (q + 1) n w1 (by omega) (by omega) (by omega) (by rw [k2.2.2 6 (by decide)]; exact h6) (by rw [k2.2.2 7 (by decide)]; exact h7) (fun j hj => by rw [k2.2.2 8 (by decide)]; exact h8 j hj) k3
      refine ⟨w', ?_, k2.tr g2, g3⟩
      rw [if_pos (bit01.mpr hb), bn_i (mf_withPost_eq hg (by omega) hp hr h7 h8), ii_not, ← hA q (by omega), bn_i k1, ← g1]
      show mf_findNext_C86 n (nI g) (nI s) (nI q + (1 : Int32)) w1 = _
      rw [nI_1]
    · obtain ⟨w', g1, g2, g3⟩ := mf_findNext_posts hg hp hr hs hA d (q + 1) n w (by omega) (by omega) (by omega) h6 h7 h8 (hI.skip (by rw [hmask]; exact Bool.eq_false_iff.mpr hb))
      refine ⟨w', ?_, g2, g3⟩
      rw [if_neg (fun h => hb (bit01.mp h)), ← g1]
      show mf_findNext_C86 n (nI g) (nI s) (nI q + (1 : Int32)) w = _
      rw [nI_1]
theorem mf_findNext_eq {w : mW} {g k s W : Nat} {A : Nat → Nat} (hg : g < 6) (hM : MD w g k A W) (hs : s < 2 ^ 15) (hv : Vs k s) : ∃ w', mf_findNext (nI g) (nI s) w = some w' ∧ Sc w w' ∧ w'.1 2 = nI (nb k W s) ∧ ∀ i t, Nth k A W s i t → w'.2 16 i = nI t := by
  have hI0 : ∀ W', NI (mS w 2 (0 : Int32)) s W' A 0 := fun W' => ⟨rfl, fun q hq => by omega⟩
  unfold mf_findNext
  show ∃ w', (gi (nI g) 6 (if ((mS w 2 (0 : Int32)).2 1) (nI g).toNatClampNeg = 0 then _ else _)) = some w' ∧ _
  rw [gi_i (ii_ix hg (by decide)), ii_cl (by omega), show (mS w 2 (0 : Int32)).2 1 g = w.2 1 g from rfl]
  obtain ⟨hk, (⟨rfl, hW⟩ | ⟨rfl, th, h1, h2, rfl, h4⟩ | ⟨rfl, po, ro, e1, e2, h1, h2, h3, h4, rfl, h6, h7, h8⟩)⟩ := hM
  · rw [hk, if_pos (show nI 0 = (0 : Int32) from rfl)]
    obtain ⟨w', g1, g2, g3, g4⟩ := mf_bitesOfRows_eq (hv rfl) A W (mS w 2 (0 : Int32)) rfl
    exact ⟨w', by rw [bn_i g1], Sc.S.tr g2, g3, g4⟩
  · rw [hk, if_neg (by decide), gi_i (ii_ix hg (by decide)), if_pos (show nI 1 = (1 : Int32) from rfl)]
    obtain ⟨w', g1, g2, g3⟩ := mf_findNext_ord hg h1 hs th 0 fu (mS w 2 (0 : Int32)) rfl (Nat.zero_le _) (fu_gt (by omega)) h2 h4 (hI0 _)
    refine ⟨w', g1, Sc.S.tr g2, (g3.upto (m' := 15) (by omega) (fun q hq1 hq2 => ?_)).all (by decide)⟩
    rw [Nat.testBit_and, Nat.testBit_two_pow_sub_one, decide_eq_false (by omega), Bool.and_false]
  · rw [hk, if_neg (by decide), gi_i (ii_ix hg (by decide)), if_neg (by decide)]
    obtain ⟨w1, g1, g2, g3⟩ := mf_findNext_posts hg h1 h2 hs h7 po 0 fu (mS w 2 (0 : Int32)) rfl (Nat.zero_le _) (fu_gt (by omega)) h3 h4 h6 (hI0 _)
    have g3' := g3.upto (m' := 6 + 0) h1 (fun q hq1 hq2 => by
      rw [Nat.testBit_and, full_bit h1, decide_eq_false (by omega), decide_eq_false (by omega), Bool.or_false, Bool.and_false])
    obtain ⟨w', k1, k2, k3⟩ := mf_findNext_roads hg h1 h2 hs h8 ro 0 fu w1 rfl (Nat.zero_le _) (fu_gt (by omega)) (by rw [g2.2.2 7 (by decide)]; exact h4) g3'
    refine ⟨w', g1.trans k1, (Sc.S.tr g2).tr k2, (k3.upto (m' := 15) (by omega) (fun q hq1 hq2 => ?_)).all (by decide)⟩
    rw [Nat.testBit_and, full_bit h1, decide_eq_false (by omega), decide_eq_false (by omega), Bool.or_false, Bool.and_false]
theorem mf_fullOf_eq {w : mW} {g k W : Nat} {A : Nat → Nat} (hg : g < 6) (hM : MD w g k A W) : mf_fullOf (nI g) w = some (nI W) := by
  unfold mf_fullOf
  rw [gi_i (ii_ix hg (by decide)), ii_cl (by omega)]
  obtain ⟨hk, (⟨rfl, rfl⟩ | ⟨rfl, th, h1, h2, rfl, h4⟩ | ⟨rfl, po, ro, e1, e2, h1, h2, h3, h4, rfl, h6, h7, h8⟩)⟩ := hM
  · rw [hk, if_pos (show nI 0 = (0 : Int32) from rfl)]; rfl
  · have := p2 (show th < 31 by omega)
    rw [hk, if_neg (by decide), gi_i (ii_ix hg (by decide)), if_pos (show nI 1 = (1 : Int32) from rfl), gi_i (ii_ix hg (by decide)), h2, ii_one (by omega)]
    exact congrArg some (ii_sub (b := 1) (Nat.two_pow_pos th))
  · have q1 : ((1 : Int32) <<< (nI po &&& 31)) - (1 : Int32) = nI (2 ^ po - 1) := by rw [ii_one (by omega)]; exact ii_sub (b := 1) (Nat.two_pow_pos po)
    have q2 : ((1 : Int32) <<< (nI ro &&& 31)) - (1 : Int32) = nI (2 ^ ro - 1) := by rw [ii_one (by omega)]; exact ii_sub (b := 1) (Nat.two_pow_pos ro)
    have q3 : nI (2 ^ ro - 1) <<< ((6 : Int32) &&& 31) = nI (64 * (2 ^ ro - 1)) := by
      have := Nat.pow_le_pow_right (n := 2) (by decide) h2
      rw [show (6 : Int32) = nI 6 from rfl, ii_shl (by decide) (by omega), Nat.mul_comm]
    rw [hk, if_neg (by decide), gi_i (ii_ix hg (by decide)), if_neg (by decide), gi_i (ii_ix hg (by decide)), gi_i (ii_ix hg (by decide)), h3, h4, q1, q2, q3, ii_or]
