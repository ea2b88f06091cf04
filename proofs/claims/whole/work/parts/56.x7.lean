/-! ===== class: a game solved ===== -/
theorem and_0 {a s : Nat} : a &&& s = 0 ↔ ∀ p, a.testBit p = true → s.testBit p = false := by
  constructor
  · intro h p hp
    have := congrArg (fun z => Nat.testBit z p) h
    simp only [Nat.testBit_and, hp, Bool.true_and, Nat.zero_testBit] at this
    exact this
  · intro h
    apply Nat.eq_of_testBit_eq
    intro p
    rw [Nat.testBit_and, Nat.zero_testBit]
    cases ha : a.testBit p
    · rfl
    · rw [h p ha]; rfl
theorem del_0 {s W : Nat} : del s W = 0 ↔ ∀ p, s.testBit p = true → W.testBit p = true := by
  constructor
  · intro h p hp
    have := congrArg (fun z => Nat.testBit z p) h
    simp only [del_bit, hp, Bool.true_and, Nat.zero_testBit] at this
    cases hw : W.testBit p
    · rw [hw] at this; cases this
    · rfl
  · intro h
    apply Nat.eq_of_testBit_eq
    intro p
    rw [del_bit, Nat.zero_testBit]
    cases hs : s.testBit p
    · rfl
    · rw [h p hs]; rfl
theorem xf_cbl_loop {w : xW} {g s u : Nat} {A : Nat → Nat} (hs : s < 2 ^ 15) (hu : u < 2 ^ 15) (hA : ∀ p, u.testBit p = true → w.2.2.2.1 0 g p = nI (A p)) : ∀ (d k n : Nat), d = 15 - k → k ≤ 15 → d < n → ∃ b : Bool, xf_G_canBeLeft_C11 g w n (nI s) (nI u) (nI k) = some (if b = true then 1 else 0) ∧ (b = true ↔ ∀ p, k ≤ p → p < 15 → u.testBit p = true → A p &&& s = 0)
  | d, k, 0, hd, hk, hn => by omega
  | 0, k, n + 1, hd, hk, hn => by
    have e : k = 15 := by omega
    subst e
    refine ⟨true, ?_, ⟨fun _ p h1 h2 => by omega, fun _ => rfl⟩⟩
    rw [xf_G_canBeLeft_C11, if_pos (by decide)]
    rfl
  | d + 1, k, n + 1, hd, hk, hn => by
    obtain ⟨b, c1, c2⟩ := xf_cbl_loop hs hu hA d (k + 1) n (by omega) (by omega) (by omega)
    have h0 : xf_G_canBeLeft_C11 g w (n + 1) (nI s) (nI u) (nI k) = (if nI (if u.testBit k then 1 else 0) = 0 then xf_G_canBeLeft_C11 g w n (nI s) (nI u) (nI (k + 1)) else (if w.2.2.2.1 0 g k &&& nI s = 0 then xf_G_canBeLeft_C11 g w n (nI s) (nI u) (nI (k + 1)) else some 0)) := by
      rw [xf_G_canBeLeft_C11, if_neg (fun h => by
        have := (nI_leI (a := 15) (b := k) (by decide) (by omega)).mp h
        omega), ii_bit (by omega) (by omega), gi_i (ii_ix (show k < 15 by omega) (by decide)), ii_cl (by omega), nm_i, nI_1]
      rfl
    cases hc : u.testBit k
    · refine ⟨b, ?_, ?_⟩
      · rw [h0, hc, if_pos (by rfl)]; exact c1
      · rw [c2]
        constructor
        · intro h p h1 h2 h3
          by_cases e : p = k
          · subst e; rw [hc] at h3; cases h3
          · exact h p (by omega) h2 h3
        · exact fun h p h1 h2 h3 => h p (by omega) h2 h3
    · have hle : A k &&& s ≤ s := Nat.and_le_right
      by_cases e : A k &&& s = 0
      · refine ⟨b, ?_, ?_⟩
        · rw [h0, hc, if_neg (by decide), hA k hc, ii_and, if_pos (by rw [e]; rfl)]; exact c1
        · rw [c2]
          constructor
          · intro h p h1 h2 h3
            by_cases e2 : p = k
            · subst e2; exact e
            · exact h p (by omega) h2 h3
          · exact fun h p h1 h2 h3 => h p (by omega) h2 h3
      · refine ⟨false, ?_, ⟨fun h => Bool.noConfusion h, fun h => absurd (h k (Nat.le_refl k) (by omega) hc) e⟩⟩
        rw [h0, hc, if_neg (by decide), hA k hc, ii_and, if_neg (ii_ne0 e (by omega))]; rfl
theorem xf_fos_loop {g s : Nat} {A : Nat → Nat} {T : Nat → F3} (hs : s < 2 ^ 15) : ∀ (d k n : Nat) (w : xW), d = 15 - k → k ≤ 15 → d < n → (∀ p, s.testBit p = true → w.2.2.2.1 0 g p = nI (A p)) → (∀ p, s.testBit p = true → w.2.2.2.1 3 g (del s (A p)) = nI (pF (T (del s (A p)))) ∧ B3 (T (del s (A p)))) → TI w (fun u => ∃ p, p < k ∧ s.testBit p = true ∧ u = T (del s (A p))) → ∃ w' n', xf_G_factsOfSet_C9 g n (nI s) (nI k) w = xf_G_factsOfSet_C9 g (n' + 1) (nI s) (nI 15) w' ∧ Ta w w' ∧ TI w' (fun u => ∃ p, p < 15 ∧ s.testBit p = true ∧ u = T (del s (A p)))
  | d, k, 0, w, hd, hk, hn, _, _, _ => by omega
  | 0, k, n + 1, w, hd, hk, hn, hA, hT, hI => by
    have e : k = 15 := by omega
    subst e
    exact ⟨w, n, rfl, Ta.rf w, hI⟩
  | d + 1, k, n + 1, w, hd, hk, hn, hA, hT, hI => by
    have h15 : ¬ ((15 : Int32) ≤ nI k) := fun h => by
      have := (nI_leI (a := 15) (b := k) (by decide) (by omega)).mp h
      omega
    cases hc : s.testBit k
    · obtain ⟨w', n', c1, c2, c3⟩ := xf_fos_loop (T := T) (g := g) hs d (k + 1) n w (by omega) (by omega) (by omega) hA hT (hI.congr (fun u => by
        constructor
        · rintro ⟨p, h1, h2, h3⟩
          exact ⟨p, by omega, h2, h3⟩
        · rintro ⟨p, h1, h2, h3⟩
          refine ⟨p, ?_, h2, h3⟩
          by_cases e : p = k
          · subst e; rw [hc] at h2; cases h2
          · omega))
      refine ⟨w', n', ?_, c2, c3⟩
      rw [← c1, xf_G_factsOfSet_C9, if_neg h15, ii_bit (by omega) (by omega), hc, if_neg (show ¬ (false = true) by decide), if_pos (show nI 0 = (0 : Int32) from rfl), nm_i, nI_1]
    · obtain ⟨t1, t2⟩ := hT k hc
      have hdl := del_le s (A k)
      obtain ⟨w1, a1, a2, a3⟩ := xf_take_eq t2 hI
      obtain ⟨w', n', c1, c2, c3⟩ := xf_fos_loop (T := T) (g := g) hs d (k + 1) n w1 (by omega) (by omega) (by omega) (fun p hp => by rw [a2.2.2.2]; exact hA p hp) (fun p hp => by rw [a2.2.2.2]; exact hT p hp) (a3.congr (fun u => by
        constructor
        · rintro (⟨p, h1, h2, h3⟩ | h)
          · exact ⟨p, by omega, h2, h3⟩
          · exact ⟨k, by omega, hc, h⟩
        · rintro ⟨p, h1, h2, h3⟩
          by_cases e : p = k
          · subst e; exact Or.inr h3
          · exact Or.inl ⟨p, by omega, h2, h3⟩))
      refine ⟨w', n', ?_, a2.tr c2, c3⟩
      rw [← c1, xf_G_factsOfSet_C9, if_neg h15, ii_bit (by omega) (by omega), hc, if_pos rfl, if_neg (show ¬ (nI 1 = (0 : Int32)) by decide), gi_i (ii_ix (show k < 15 by omega) (by decide)), ii_cl (by omega), hA k hc, ii_not, bn_i (xf_at_eq (by decide) (by omega)), t1, bn_i a1, nm_i, nI_1]
theorem xf_factsOfSet_eq {w : xW} {g s k M : Nat} {A : Nat → Nat} (hs : s < 2 ^ 15) (hk : k ≠ 0) (hAk : Ok k A) (hM : s &&& M = s) (hA : ∀ p, s.testBit p = true → w.2.2.2.1 0 g p = nI (A p)) (hT : ∀ p, s.testBit p = true → w.2.2.2.1 3 g (del s (A p)) = nI (pF (Sol k A M (del s (A p))))) : ∃ w', xf_G_factsOfSet g (nI s) w = some (nI (pF (Sol k A M s)), w') ∧ Ta w w' := by
  have hv : ∀ t, Vs k t := fun t h => absurd h hk
  have hb : ∀ t, t < 32768 → B3 (Sol k A M t) := fun t ht => by
    have := Sol_le (M := M) hAk ht (hv t)
    unfold B3
    omega
  obtain ⟨w1, a1, a2, a3⟩ := xf_begin_eq w
  obtain ⟨w', n', c1, c2, c3⟩ := xf_fos_loop (T := Sol k A M) (g := g) hs 15 0 fu w1 rfl (Nat.zero_le _) (fu_gt (by decide)) (fun p hp => by rw [a2.2.2.2]; exact hA p hp) (fun p hp => by
    rw [a2.2.2.2]
    have := del_le s (A p)
    exact ⟨hT p hp, hb _ (by omega)⟩) (a3.congr (Q := fun u => ∃ p, p < 0 ∧ s.testBit p = true ∧ u = Sol k A M (del s (A p))) (fun t => ⟨fun h => h.elim, fun ⟨p, h1, _⟩ => absurd h1 (Nat.not_lt_zero p)⟩))
  have c4 := c3.congr (Q := fun u => ∃ t, Nx k A M s t ∧ u = Sol k A M t) (fun u => by
    constructor
    · rintro ⟨p, h1, h2, h3⟩
      refine ⟨del s (A p), ⟨cn s p, ?_⟩, h3⟩
      unfold Nth
      rw [if_neg hk, hM]
      exact ⟨p, h1, h2, rfl, rfl⟩
    · rintro ⟨t, ⟨i, h1⟩, h2⟩
      unfold Nth at h1
      rw [if_neg hk, hM] at h1
      obtain ⟨q, g1, g2, g3, g4⟩ := h1
      exact ⟨q, g1, g2, by rw [h2, g4]⟩)
  obtain ⟨a, b, c, d1, d2, d3, d4⟩ := xf_facts_eq c4 (fun t ⟨u, ⟨i, h1⟩, h2⟩ => by
    subst h2
    have := h1.less hAk (hv s)
    exact hb u (by omega))
  refine ⟨w', ?_, a2.tr c2⟩
  unfold xf_G_factsOfSet
  rw [bn_i a1]
  refine c1.trans ?_
  rw [xf_G_factsOfSet_C9, if_pos (by decide), bn_i d1, SF_eq hAk (by omega) (hv s) d2 d3 d4]
/-- only the tally and one game's facts differ -/
def Gf (g : Nat) (w w' : xW) : Prop := w'.1 = w.1 ∧ (∀ c, c ≠ 10 → c ≠ 11 → w'.2.1 c = w.2.1 c) ∧ (∀ j b, j ≠ 5 ∨ b ≠ g → w'.2.2.1 j b = w.2.2.1 j b) ∧ ∀ j b, j ≠ 3 ∨ b ≠ g → w'.2.2.2.1 j b = w.2.2.2.1 j b
theorem Gf.rf (g : Nat) (w : xW) : Gf g w w := ⟨rfl, fun _ _ _ => rfl, fun _ _ _ => rfl, fun _ _ _ => rfl⟩
theorem Gf.tr {g : Nat} {a b c : xW} (h : Gf g a b) (f : Gf g b c) : Gf g a c := ⟨f.1.trans h.1, fun k h1 h2 => (f.2.1 k h1 h2).trans (h.2.1 k h1 h2), fun j b q => (f.2.2.1 j b q).trans (h.2.2.1 j b q), fun j b q => (f.2.2.2 j b q).trans (h.2.2.2 j b q)⟩
theorem Ta.gf {w w' : xW} (h : Ta w w') (g : Nat) : Gf g w w' := ⟨h.1, h.2.1, fun j b _ => by rw [h.2.2.1], fun j b _ => by rw [h.2.2.2]⟩
theorem Gf.V (g : Nat) (w : xW) (i : Nat) (v : Int32) : Gf g w (xV w 3 g i v) := ⟨rfl, fun _ _ _ => rfl, fun _ _ _ => rfl, fun j b q => by
  show (if j = 3 then (fun b => if b = g then upd (w.2.2.2.1 3 g) i v else w.2.2.2.1 3 b) else w.2.2.2.1 j) b = _
  by_cases e : j = 3
  · rw [if_pos e]
    show (if b = g then _ else _) = _
    rw [if_neg (q.elim (fun h => absurd e h) id), e]
  · rw [if_neg e]⟩
theorem Gf.G5 (g : Nat) (w : xW) (v : Int32) : Gf g w (xG w 5 g v) := ⟨rfl, fun _ _ _ => rfl, fun j b q => by
  show (if j = 5 then (fun b => if b = g then v else w.2.2.1 5 b) else w.2.2.1 j) b = _
  by_cases e : j = 5
  · rw [if_pos e]
    show (if b = g then _ else _) = _
    rw [if_neg (q.elim (fun h => absurd e h) id), e]
  · rw [if_neg e], fun _ _ _ => rfl⟩
theorem xV_at (w : xW) (j g i : Nat) (v : Int32) : (xV w j g i v).2.2.2.1 j g = upd (w.2.2.2.1 j g) i v := by
  show (if j = j then (fun b => if b = g then upd (w.2.2.2.1 j g) i v else w.2.2.2.1 j b) else w.2.2.2.1 j) g = _
  rw [if_pos rfl]
  exact if_pos rfl
theorem xG_at (w : xW) (j g : Nat) (v : Int32) : (xG w j g v).2.2.1 j g = v := by
  show (if j = j then (fun b => if b = g then v else w.2.2.1 j b) else w.2.2.1 j) g = _
  rw [if_pos rfl]
  exact if_pos rfl
theorem xf_gsol_loop {g k W : Nat} {A : Nat → Nat} (hk : k ≠ 0) (hAk : Ok k A) (hTr : Tr k A W) (hW : W < 32768) : ∀ (d s n : Nat) (w : xW), d = W + 1 - s → s ≤ W + 1 → d < n → w.2.2.1 2 g = nI W → (∀ p, W.testBit p = true → w.2.2.2.1 0 g p = nI (A p)) → (∀ t, t < s → St k A W t → w.2.2.2.1 3 g t = nI (pF (Sol k A W t))) → ∃ w', xf_G_solve_C2 g n (nI s) w = some w' ∧ Gf g w w' ∧ ∀ t, St k A W t → w'.2.2.2.1 3 g t = nI (pF (Sol k A W t))
  | d, s, 0, w, hd, hs, hn, _, _, _ => by omega
  | 0, s, n + 1, w, hd, hs, hn, h2, hA, hT => by
    have e : s = W + 1 := by omega
    subst e
    refine ⟨xG w 5 g 1, ?_, Gf.G5 g w 1, fun t ht => hT t (by
      have := ht.le (fun h => absurd h hk)
      omega) ht⟩
    rw [xf_G_solve_C2, h2, if_pos ((nI_ltI (by omega) (by omega)).mpr (by omega))]
    rfl
  | d + 1, s, n + 1, w, hd, hs, hn, h2, hA, hT => by
    have hs15 : s < 2 ^ 15 := by omega
    have hdW := del_le W s
    have hds := del_le s W
    have hStI : St k A W s ↔ (del s W = 0 ∧ ∀ p, 0 ≤ p → p < 15 → (del W s).testBit p = true → A p &&& s = 0) := by
      unfold St
      rw [if_neg hk, del_0]
      constructor
      · rintro ⟨h1, h3⟩
        refine ⟨h1, fun p _ _ hp => and_0.mpr (fun z hz => ?_)⟩
        rw [del_bit, Bool.and_eq_true, Bool.not_eq_true'] at hp
        exact h3 p hp.1 hp.2 z hz
      · rintro ⟨h1, h3⟩
        refine ⟨h1, fun q hq1 hq2 p hp => ?_⟩
        have hq15 : q < 15 := bit_of_lt (show W < 2 ^ 15 by omega) hq1
        exact and_0.mp (h3 q (Nat.zero_le q) hq15 (by rw [del_bit, hq1, hq2]; rfl)) p hp
    have h0 : ∀ r : Option xW, (del s W ≠ 0 → r = xf_G_solve_C2 g n (nI (s + 1)) w) → (del s W = 0 → r = bn (xf_G_canBeLeft g (nI s) w) fun r_71 => (if r_71 = 0 then (nm (nI s + (1 : Int32)) fun x2_85 => xf_G_solve_C2 g n x2_85 w) else (bn2 (xf_G_factsOfSet g (nI s) w) fun r_81 w_81 => gi (nI s) 32768 <| nm (xV w_81 3 g ((nI s).toNatClampNeg) r_81) fun w_84 => nm (nI s + (1 : Int32)) fun x2_85 => xf_G_solve_C2 g n x2_85 w_84))) → xf_G_solve_C2 g (n + 1) (nI s) w = r := by
      intro r r1 r2
      rw [xf_G_solve_C2, h2, if_neg (fun h => by
        have := (nI_ltI (by omega) (by omega)).mp h
        omega), if_neg (fun h => by
        have := (nI_leI (a := 32768) (b := s) (by decide) (by omega)).mp h
        omega), ii_not]
      by_cases e : del s W = 0
      · rw [if_pos (show nI (del s W) = (0 : Int32) by rw [e]; rfl), r2 e]
      · rw [if_neg (ii_ne0 e (by omega)), r1 e, nm_i, nI_1]
    obtain ⟨b, b1, b2⟩ := xf_cbl_loop (w := w) (g := g) (u := del W s) hs15 (by omega) (fun p hp => hA p (by
      rw [del_bit, Bool.and_eq_true] at hp
      exact hp.1)) 15 0 fu rfl (Nat.zero_le _) (fu_gt (by decide))
    have b3 : xf_G_canBeLeft g (nI s) w = some (if b = true then 1 else 0) := by
      unfold xf_G_canBeLeft
      rw [h2, ii_not, nm_i]
      exact b1
    have skip : ¬ St k A W s → ∃ w', xf_G_solve_C2 g n (nI (s + 1)) w = some w' ∧ Gf g w w' ∧ ∀ t, St k A W t → w'.2.2.2.1 3 g t = nI (pF (Sol k A W t)) := fun hno => xf_gsol_loop hk hAk hTr hW d (s + 1) n w (by omega) (by omega) (by omega) h2 hA (fun t ht hSt => by
      by_cases e : t = s
      · subst e; exact absurd hSt hno
      · exact hT t (by omega) hSt)
    by_cases hSt : St k A W s
    · have hall := hStI.mp hSt
      have hbt := b2.mpr hall.2
      have hsW : ∀ p, s.testBit p = true → W.testBit p = true := del_0.mp hall.1
      obtain ⟨w1, f1, f2⟩ := xf_factsOfSet_eq (M := W) (g := g) (w := w) hs15 hk hAk (and_sub hsW) (fun p hp => hA p (hsW p hp)) (fun p hp => by
        have hN : Nth k A W s (cn s p) (del s (A p)) := by
          unfold Nth
          rw [if_neg hk, and_sub hsW]
          exact ⟨p, bit_of_lt hs15 hp, hp, rfl, rfl⟩
        exact hT _ (hN.less hAk (fun h => absurd h hk)).1 (hSt.nth hAk hTr hN))
      have g1 := (f2.gf g).tr (Gf.V g w1 s (nI (pF (Sol k A W s))))
      obtain ⟨w', c1, c2, c3⟩ := xf_gsol_loop hk hAk hTr hW d (s + 1) n (xV w1 3 g s (nI (pF (Sol k A W s)))) (by omega) (by omega) (by omega) (by rw [g1.2.2.1 2 g (Or.inl (by decide))]; exact h2) (fun p hp => by rw [g1.2.2.2 0 g (Or.inl (by decide))]; exact hA p hp) (fun t ht hSt' => by
        rw [xV_at]
        by_cases e : t = s
        · subst e; rw [upd_at]
        · rw [upd_ne _ _ e, f2.2.2.2]; exact hT t (by omega) hSt')
      refine ⟨w', ?_, g1.tr c2, c3⟩
      rw [← c1]
      refine h0 _ (fun h => absurd hall.1 h) (fun _ => ?_)
      rw [bn_i b3, if_pos hbt, if_neg (by decide), bn2_i f1, gi_i (ii_ix (show s < 32768 by omega) (by decide)), nm_i, nm_i, nI_1, ii_cl (by omega)]
    · obtain ⟨w', c1, c2, c3⟩ := skip hSt
      refine ⟨w', ?_, c2, c3⟩
      rw [← c1]
      refine h0 _ (fun _ => rfl) (fun h => ?_)
      have hbf : ¬ (b = true) := fun q => hSt (hStI.mpr ⟨h, b2.mp q⟩)
      rw [bn_i b3, if_neg hbf, if_pos rfl, nm_i, nI_1]
theorem XI.gsolve {n : Nat} {G : Nat → AG} {w : xW} (h : XI n G w) {g : Nat} (hg : g < n) (hk : gk (G g) ≠ 0) : ∃ w', xf_G_solve g w = some w' ∧ XI n G w' ∧ ∀ t, St (gk (G g)) (gA (G g)) (gW (G g)) t → w'.2.2.2.1 3 g t = nI (pF (gF (G g) t)) := by
  obtain ⟨h1, h2, h3, h4, h5⟩ := id h
  obtain ⟨⟨k1, k2, k3, k4, k5, k6, k7, k8, k9⟩, x0, x1, x3, x4, x2, xA, xP, xB, xC⟩ := h5 g hg
  obtain ⟨w', c1, c2, c3⟩ := xf_gsol_loop (g := g) hk k3 k4 k5 (gW (G g) + 1) 0 fu w rfl (Nat.zero_le _) (fu_gt (by omega)) (x2 hk) (xA hk) (fun t ht => absurd ht (Nat.not_lt_zero t))
  refine ⟨w', ?_, ⟨h1, by rw [c2.1]; exact h2, fun r v hr hv => by rw [c2.2.1 4 (by decide) (by decide)]; exact h3 r v hr hv, fun q s hs => by
    rw [c2.2.1 6 (by decide) (by decide), c2.2.1 7 (by decide) (by decide), c2.2.1 8 (by decide) (by decide)]
    rw [c2.1] at q
    exact h4 q s hs, fun j hj => ⟨(h5 j hj).1, ?_⟩⟩, c3⟩
  · unfold xf_G_solve
    exact c1
  · obtain ⟨y0, y1, y3, y4, y2, yA, yP, yB, yC⟩ := (h5 j hj).2
    have e := fun i (hi : i ≠ 5) => c2.2.2.1 i j (Or.inl hi)
    have e2 := fun i (hi : i ≠ 3) => c2.2.2.2 i j (Or.inl hi)
    unfold XGame
    rw [e 0 (by decide), e 1 (by decide), e 2 (by decide), e 3 (by decide), e 4 (by decide), e2 0 (by decide), e2 1 (by decide), e2 2 (by decide)]
    refine ⟨y0, y1, y3, y4, y2, yA, yP, yB, ?_⟩
    by_cases ej : j = g
    · subst ej
      exact fun _ _ s hs => c3 s hs
    · rw [c2.2.2.1 5 j (Or.inr ej), c2.2.2.2 3 j (Or.inr ej)]
      exact yC
theorem XI.facts {n : Nat} {G : Nat → AG} {w : xW} (h : XI n G w) {g t : Nat} (hg : g < n) (ht : St (gk (G g)) (gA (G g)) (gW (G g)) t) : ∃ w', xf_G_factsOf g (nI t) w = some (nI (pF (gF (G g) t)), w') ∧ XI n G w' := by
  obtain ⟨h1, h2, h3, h4, h5⟩ := id h
  obtain ⟨⟨k1, k2, k3, k4, k5, k6, k7, k8, k9⟩, x0, x1, x3, x4, x2, xA, xP, xB, xC⟩ := h5 g hg
  have hle := ht.le k6
  unfold xf_G_factsOf
  rw [x0]
  by_cases hk : gk (G g) = 0
  · have hs := ht.vs hk
    obtain ⟨w', a1, a2, a3, a4⟩ := xf_bsolve_eq h3 h4
    refine ⟨w', ?_, h.bf a2 (fun _ => a4)⟩
    rw [if_pos (show nI (gk (G g)) = (0 : Int32) by rw [hk]; rfl), bn_i a1, bn_i (xf_at_eq (by decide) hs), (a4 t hs).1]
    unfold gF SB
    rw [hk, xP hk, k6 hk]
  · rw [if_neg (ii_ne0 hk (by omega))]
    by_cases h50 : w.2.2.1 5 g = 0
    · obtain ⟨w', a1, a2, a3⟩ := h.gsolve hg hk
      refine ⟨w', ?_, a2⟩
      rw [if_pos h50, bn_i a1]
      unfold xf_G_factsOf_C37
      rw [bn_i (xf_at_eq (by decide) (by omega)), a3 t ht]
    · refine ⟨w, ?_, h⟩
      rw [if_neg h50]
      unfold xf_G_factsOf_C37
      rw [bn_i (xf_at_eq (by decide) (by omega)), xC hk h50 t ht]
