/-! ===== the reference: all states of a game solved ===== -/
def MSol (w : mW) (k : Nat) (A : Nat → Nat) (W r : Nat) : Prop := ∀ s, s ≤ W → Tab w k A W r s
def Co (w w' : mW) : Prop := w'.1 0 = w.1 0 ∧ ∀ c, c < 12 → w'.2 c = w.2 c
theorem Co.rf (w : mW) : Co w w := ⟨rfl, fun _ _ => rfl⟩
theorem Co.tr {a b c : mW} (h : Co a b) (g : Co b c) : Co a c := ⟨g.1.trans h.1, fun k hk => (g.2 k hk).trans (h.2 k hk)⟩
theorem Sc.co {w w' : mW} (h : Sc w w') : Co w w' := ⟨h.1, fun c hc => h.2.2 c (by omega)⟩
theorem MD.co {w w' : mW} {g k : Nat} {A : Nat → Nat} {W : Nat} (h : MD w g k A W) (hc : Co w w') : MD w' g k A W := h.keep (fun c hk => hc.2 c (by omega))
theorem Tab.sc {w w' : mW} {k r t W : Nat} {A : Nat → Nat} (h : Tab w k A W r t) (hc : Sc w w') : Tab w' k A W r t := by
  unfold Tab at h ⊢
  rw [hc.2.2 12 (by decide), hc.2.2 13 (by decide), hc.2.2 14 (by decide)]
  exact h
theorem MSol.sc {w w' : mW} {k r W : Nat} {A : Nat → Nat} (h : MSol w k A W r) (hc : Sc w w') : MSol w' k A W r := fun s hs => (h s hs).sc hc
theorem MD.vs {w : mW} {g k : Nat} {A : Nat → Nat} {W s : Nat} (h : MD w g k A W) (hs : s ≤ W) : s < 32768 ∧ Vs k s := by
  have := h.mask
  refine ⟨by omega, fun hk => ?_⟩
  obtain ⟨-, (⟨-, h⟩ | ⟨h, -⟩ | ⟨h, -⟩)⟩ := h <;> omega
theorem mf_solve_loop {g k W r : Nat} {A : Nat → Nat} (hg : g < 6) (hr : r < 2) (hA : Ok k A) : ∀ (d s n : Nat) (w : mW), d = W + 1 - s → s ≤ W + 1 → d < n → MD w g k A W → w.2 2 g = nI r → (∀ t, t < s → Tab w k A W r t) → ∃ w', mf_solve_C16 n (nI g) (nI W) (nI s) w = some w' ∧ Co w w' ∧ w'.1 1 = nI g ∧ MSol w' k A W r
  | d, s, 0, w, _, _, hn, _, _, _ => by omega
  | 0, s, n + 1, w, hd, hs, hn, hM, h2, hT => by
    have e : s = W + 1 := by omega
    subst e
    have hm := hM.mask
    refine ⟨mS w 1 (nI g), ?_, ⟨rfl, fun _ _ => rfl⟩, rfl, fun s hs => hT s (by omega)⟩
    rw [mf_solve_C16, if_pos ((nI_ltI (by omega) (by omega)).mpr (by omega))]
    rfl
  | d + 1, s, n + 1, w, hd, hs, hn, hM, h2, hT => by
    have hm := hM.mask
    have hv := hM.vs (show s ≤ W by omega)
    obtain ⟨w1, a1, a2, a3⟩ := mf_solveState_eq hg hM hr h2 hA hv.1 hv.2 (fun t ⟨i, ht⟩ => hT t (ht.less hA hv.2).1)
    have hCo : Co w w1 := ⟨a2.1, a2.2.2.1⟩
    obtain ⟨w', b1, b2, b3, b4⟩ := mf_solve_loop hg hr hA d (s + 1) n w1 (by omega) (by omega) (by omega) (hM.co hCo) (by rw [hCo.2 2 (by decide)]; exact h2) (fun t ht => by
      by_cases e : t = s
      · subst e; exact a3
      · have h3 := hT t (by omega)
        have h4 := a2.2.2.2 t e
        unfold Tab at h3 ⊢
        rw [h4.1, h4.2.1, h4.2.2]
        exact h3)
    refine ⟨w', ?_, hCo.tr b2, b3, b4⟩
    rw [mf_solve_C16, if_neg (fun h => by
      have := (nI_ltI (by omega) (by omega)).mp h
      omega), bn_i a1, ← b1]
    show mf_solve_C16 n (nI g) (nI W) (nI s + (1 : Int32)) w1 = _
    rw [nI_1]
theorem mf_solve_eq {w : mW} {g k W r : Nat} {A : Nat → Nat} (hg : g < 6) (hM : MD w g k A W) (hr : r < 2) (h2 : w.2 2 g = nI r) (hA : Ok k A) (hc : w.1 1 = nI g → MSol w k A W r) : ∃ w', mf_solve (nI g) w = some w' ∧ Co w w' ∧ w'.1 1 = nI g ∧ MSol w' k A W r := by
  unfold mf_solve
  by_cases h : w.1 1 = nI g
  · rw [if_pos h]
    exact ⟨w, rfl, Co.rf w, h, hc h⟩
  · rw [if_neg h, bn_i (mf_fullOf_eq hg hM)]
    have hm := hM.mask
    obtain ⟨w', b1, b2, b3, b4⟩ := mf_solve_loop (W := W) hg hr hA (W + 1) 0 fu w rfl (Nat.zero_le _) (fu_gt (by omega)) hM h2 (fun t ht => by omega)
    exact ⟨w', b1, b2, b3, b4⟩
/-! ===== what both sides stand for: games by their numbers ===== -/
/-- kind, rule, state, how many noted, the full set, what a part takes along, the bites noted, the states before them -/
abbrev AG : Type := Nat × Nat × Nat × Nat × Nat × (Nat → Nat) × (Nat → Nat) × (Nat → Nat)
abbrev gk (x : AG) : Nat := x.1
abbrev gr (x : AG) : Nat := x.2.1
abbrev gs (x : AG) : Nat := x.2.2.1
abbrev gd_ (x : AG) : Nat := x.2.2.2.1
abbrev gW (x : AG) : Nat := x.2.2.2.2.1
abbrev gA (x : AG) : Nat → Nat := x.2.2.2.2.2.1
abbrev gbi (x : AG) : Nat → Nat := x.2.2.2.2.2.2.1
abbrev gbe (x : AG) : Nat → Nat := x.2.2.2.2.2.2.2
/-- a state that can come: a rank, or a set of parts from which all is gone that goes with what is gone -/
def St (k : Nat) (A : Nat → Nat) (W s : Nat) : Prop := if k = 0 then s < 3432 else (∀ q, s.testBit q = true → W.testBit q = true) ∧ ∀ q, W.testBit q = true → s.testBit q = false → ∀ p, (A q).testBit p = true → s.testBit p = false
theorem St.vs {k : Nat} {A : Nat → Nat} {W s : Nat} (h : St k A W s) : Vs k s := fun hk => by
  unfold St at h; rwa [if_pos hk] at h
theorem St.le {k : Nat} {A : Nat → Nat} {W s : Nat} (h : St k A W s) (h0 : k = 0 → W = 3431) : s ≤ W := by
  unfold St at h
  split at h
  · rename_i hk; have := h0 hk; omega
  · exact sub_le h.1
/-- what goes with a part goes with all that goes with it -/
def Tr (k : Nat) (A : Nat → Nat) (W : Nat) : Prop := k ≠ 0 → ∀ q, W.testBit q = true → (∀ p, (A q).testBit p = true → W.testBit p = true ∧ ∀ z, (A p).testBit z = true → (A q).testBit z = true)
theorem St.nth {k : Nat} {A : Nat → Nat} {W s i t : Nat} (hA : Ok k A) (hT : Tr k A W) (h : St k A W s) (hn : Nth k A W s i t) : St k A W t := by
  unfold St at h ⊢
  unfold Nth at hn
  split at h
  · rename_i hk
    rw [if_pos hk]
    rw [if_pos hk] at hn
    obtain ⟨r, c, h1, h2, h3, rfl⟩ := hn
    exact rk_lt (cutB_fall (ub_fall h))
  · rename_i hk
    rw [if_neg hk]
    rw [if_neg hk] at hn
    obtain ⟨q, h1, h2, h3, rfl⟩ := hn
    have hWq : W.testBit q = true := by
      rw [Nat.testBit_and] at h2
      cases hw : W.testBit q
      · rw [hw, Bool.and_false] at h2; cases h2
      · rfl
    refine ⟨fun p hp => ?_, fun p hp1 hp2 z hz => ?_⟩
    · rw [del_bit] at hp
      cases hs : s.testBit p
      · rw [hs] at hp; cases hp
      · exact h.1 p hs
    · rw [del_bit] at hp2 ⊢
      cases hs : s.testBit p
      · rw [h.2 p hp1 hs z hz]; rfl
      · rw [hs] at hp2
        have : (A q).testBit p = true := by
          cases ha : (A q).testBit p
          · rw [ha] at hp2; cases hp2
          · rfl
        rw [(hT hk q hWq p this).2 z hz, Bool.not_true, Bool.and_false]
/-- a game that can be -/
def GOk (x : AG) : Prop := gk x ≤ 2 ∧ gr x < 2 ∧ Ok (gk x) (gA x) ∧ Tr (gk x) (gA x) (gW x) ∧ gW x < 32768 ∧ (gk x = 0 → gW x = 3431) ∧ St (gk x) (gA x) (gW x) (gs x) ∧ gd_ x ≤ 100 ∧ ∀ i, i < gd_ x → gbi x i < 49 ∧ St (gk x) (gA x) (gW x) (gbe x i)
/-- a game as the reference holds it -/
def MGame (w : mW) (g : Nat) (x : AG) : Prop := MD w g (gk x) (gA x) (gW x) ∧ w.2 2 g = nI (gr x) ∧ w.2 3 g = nI (gs x) ∧ w.2 9 g = nI (gd_ x) ∧ ∀ i, i < gd_ x → w.2 10 (100 * g + i) = nI (gbi x i) ∧ w.2 11 (100 * g + i) = nI (gbe x i)
def MI (n : Nat) (G : Nat → AG) (w : mW) : Prop := n ≤ 6 ∧ w.1 0 = nI n ∧ (∀ g, g < n → GOk (G g) ∧ MGame w g (G g)) ∧ (w.1 1 = (-1) ∨ ∃ g, g < n ∧ w.1 1 = nI g ∧ MSol w (gk (G g)) (gA (G g)) (gW (G g)) (gr (G g)))
theorem MGame.co {w w' : mW} {g : Nat} {x : AG} (h : MGame w g x) (hc : Co w w') : MGame w' g x := by
  obtain ⟨h1, h2, h3, h4, h5⟩ := h
  refine ⟨h1.co hc, ?_, ?_, ?_, fun i hi => ?_⟩
  · rw [hc.2 2 (by decide)]; exact h2
  · rw [hc.2 3 (by decide)]; exact h3
  · rw [hc.2 9 (by decide)]; exact h4
  · rw [hc.2 10 (by decide), hc.2 11 (by decide)]; exact h5 i hi
theorem MI.sc {n : Nat} {G : Nat → AG} {w w' : mW} (h : MI n G w) (hc : Sc w w') : MI n G w' := by
  obtain ⟨h1, h2, h3, h4⟩ := h
  refine ⟨h1, hc.1.trans h2, fun g hg => ⟨(h3 g hg).1, (h3 g hg).2.co hc.co⟩, ?_⟩
  rw [hc.2.1]
  rcases h4 with h4 | ⟨g, a, b, c⟩
  · exact Or.inl h4
  · exact Or.inr ⟨g, a, b, c.sc hc⟩
theorem nIm1 {n : Nat} (h : n < 2 ^ 31) : ¬ (nI n = (-1 : Int32)) := fun e => by
  have h1 := congrArg Int32.toInt e
  rw [nI_toInt h] at h1
  have : (-1 : Int32).toInt = -1 := by decide
  omega
theorem MI.solve {n : Nat} {G : Nat → AG} {w : mW} (h : MI n G w) {g : Nat} (hg : g < n) : ∃ w', mf_solve (nI g) w = some w' ∧ MI n G w' ∧ MSol w' (gk (G g)) (gA (G g)) (gW (G g)) (gr (G g)) := by
  obtain ⟨h1, h2, h3, h4⟩ := h
  obtain ⟨⟨k1, k2, k3, k4, k5, k6, k7, k8, k9⟩, m1, m2, m3, m4, m5⟩ := h3 g hg
  obtain ⟨w', a1, a2, a3, a4⟩ := mf_solve_eq (by omega) m1 k2 m2 k3 (fun e => by
    rcases h4 with h4 | ⟨j, b1, b2, b3⟩
    · exact absurd (e.symm.trans h4) (nIm1 (by omega))
    · have : j = g := (nI_eq (by omega) (by omega)).mp (b2.symm.trans e)
      subst this; exact b3)
  exact ⟨w', a1, ⟨h1, a2.1.trans h2, fun j hj => ⟨(h3 j hj).1, (h3 j hj).2.co a2⟩, Or.inr ⟨g, hg, a3, a4⟩⟩, a4⟩
theorem MI.bites {n : Nat} {G : Nat → AG} {w : mW} (h : MI n G w) {g : Nat} (hg : g < n) : ∃ w', mf_bitesOf (nI g) w = some (nI (nb (gk (G g)) (gW (G g)) (gs (G g))), w') ∧ MI n G w' ∧ Sc w w' ∧ ∀ i t, Nth (gk (G g)) (gA (G g)) (gW (G g)) (gs (G g)) i t → w'.2 16 i = nI t := by
  obtain ⟨h1, h2, h3, h4⟩ := id h
  obtain ⟨⟨k1, k2, k3, k4, k5, k6, k7, k8, k9⟩, m1, m2, m3, m4, m5⟩ := h3 g hg
  have hle := k7.le k6
  obtain ⟨w', a1, a2, a3, a4⟩ := mf_findNext_eq (by omega) m1 (show gs (G g) < 2 ^ 15 by omega) k7.vs
  refine ⟨w', ?_, h.sc a2, a2, a4⟩
  unfold mf_bitesOf
  rw [gi_i (ii_ix (show g < 6 by omega) (by decide)), ii_cl (by omega), m3, bn_i a1, a3]
