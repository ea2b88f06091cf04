/-! ===== class: a board's facts ===== -/
theorem rkT_swap {f g : Nat → Nat} {r : Nat} (hr : r < 7) (h : ∀ k, k < 7 → k ≠ r → f k = g k) : ∀ j, j ≤ 7 → rkT f j + (if 7 - j ≤ r then les (7 - r) (g r) else 0) = rkT g j + (if 7 - j ≤ r then les (7 - r) (f r) else 0)
  | 0, _ => by rw [if_neg (by omega), if_neg (by omega)]; rfl
  | j + 1, hj => by
    have ih := rkT_swap hr h j (by omega)
    have e1 : rkT f (j + 1) = les (j + 1) (f (6 - j)) + rkT f j := rfl
    have e2 : rkT g (j + 1) = les (j + 1) (g (6 - j)) + rkT g j := rfl
    rw [e1, e2]
    rcases Nat.lt_trichotomy (6 - j) r with q | q | q
    · rw [if_pos (by omega), if_pos (by omega)]
      rw [if_pos (by omega), if_pos (by omega)] at ih
      rw [h (6 - j) (by omega) (by omega)]
      omega
    · rw [if_pos (by omega), if_pos (by omega)]
      rw [if_neg (by omega), if_neg (by omega)] at ih
      rw [q, show 7 - r = j + 1 by omega]
      omega
    · rw [if_neg (by omega), if_neg (by omega)]
      rw [if_neg (by omega), if_neg (by omega)] at ih
      rw [h (6 - j) (by omega) (by omega)]
      omega
theorem rk_swap {f g : Nat → Nat} {r : Nat} (hr : r < 7) (h : ∀ k, k < 7 → k ≠ r → f k = g k) : rk f + les (7 - r) (g r) = rk g + les (7 - r) (f r) := by
  have := rkT_swap hr h 7 (Nat.le_refl 7)
  rw [if_pos (by omega), if_pos (by omega)] at this
  exact this
theorem rk_cut_step {b : Nat → Nat} {r c : Nat} (hr : r < 7) (hc : c < b r) : rk (cutB b (r + 1) c) + les (7 - r) c = rk (cutB b r c) + les (7 - r) (b r) := by
  have e1 : cutB b (r + 1) c r = b r := by unfold cutB; rw [if_neg (by omega)]
  have e2 : cutB b r c r = c := by unfold cutB; rw [if_pos ⟨Nat.le_refl r, hc⟩]
  have := rk_swap (f := cutB b (r + 1) c) (g := cutB b r c) hr (fun k hk hne => by
    unfold cutB
    by_cases h1 : r + 1 ≤ k ∧ c < b k
    · rw [if_pos h1, if_pos ⟨by omega, h1.2⟩]
    · rw [if_neg h1, if_neg (fun h => h1 ⟨by omega, h.2⟩)])
  rwa [e1, e2] at this
theorem rk_cut_skip {b : Nat → Nat} {r c : Nat} (hc : ¬ c < b r) : rk (cutB b (r + 1) c) = rk (cutB b r c) := rk_congr (fun k hk => by
  unfold cutB
  by_cases h1 : r + 1 ≤ k ∧ c < b k
  · rw [if_pos h1, if_pos ⟨by omega, h1.2⟩]
  · rw [if_neg h1, if_neg (fun h => h1 ⟨by
      by_cases e : k = r
      · subst e; exact absurd h.2 hc
      · omega, h.2⟩)])
theorem rk_cut_7 (b : Nat → Nat) (c : Nat) : rk (cutB b 7 c) = rk b := rk_congr (fun k hk => by unfold cutB; rw [if_neg (by omega)])
theorem x_share {a b x y : Nat} (h : a + x = b + y) : nI a + (nI x - nI y) = nI b := by
  have e : nI a + (nI x - nI y) = nI a + nI x - nI y := by
    rw [Int32.sub_eq_add_neg, Int32.sub_eq_add_neg, Int32.add_assoc]
  rw [e, nI_add, h, ← nI_add]
  exact Int32.add_sub_cancel _ _
def xk : Nat → Int32
  | 0 => (-1)
  | k + 1 => nI k
theorem xk_dec (k : Nat) : xk (k + 1) + (-1 : Int32) = xk k := by
  cases k with
  | zero => decide
  | succ k => exact pk_m1 k
theorem TI.congr {w : xW} {P Q : F3 → Prop} (h : TI w P) (e : ∀ t, P t ↔ Q t) : TI w Q := by
  have : P = Q := funext fun t => propext (e t)
  rw [← this]; exact h
theorem xf_fol_in {T : Nat → F3} {b : Nat → Nat} {x1 : Int32} {c : Nat} {K : Int32 → Int32 → xW → Option (Int32 × xW)} (hF : Fall b) (hc : c < 7) : ∀ (k n : Nat) (w : xW) (P : F3 → Prop), k ≤ 7 → k < n → Lx w → (∀ q, q < 7 → w.2.1 5 q = nI (b q)) → (∀ t, t < rk b → w.2.1 6 t = nI (pF (T t)) ∧ B3 (T t)) → TI w P → ∃ w', xf_B_factsOfLines_C26 K n x1 (nI c) (nI (rk (cutB b k c))) (xk k) w = K x1 (nI (c + 1)) w' ∧ Ta w w' ∧ TI w' (fun u => P u ∨ ∃ r, r < k ∧ c < b r ∧ u = T (rk (cutB b r c)))
  | k, 0, w, P, _, hn, _, _, _, _ => by omega
  | 0, n + 1, w, P, hk, hn, hL, h5, h6, hI => by
    refine ⟨w, ?_, Ta.rf w, hI.congr (fun t => ⟨Or.inl, fun h => h.elim id (fun ⟨r, hr, _⟩ => absurd hr (Nat.not_lt_zero r))⟩)⟩
    rw [xf_B_factsOfLines_C26, if_pos (show xk 0 < 0 by decide), nm_i, nI_1]
  | k + 1, n + 1, w, P, hk, hn, hL, h5, h6, hI => by
    have hb7 := Fall.le hF k (by omega)
    have hx := ii_ix (show k < 7 by omega) (by decide)
    have hcl := ii_cl (n := k) (by omega)
    have e0 : ¬ (xk (k + 1) < 0) := nI_pos (by omega)
    by_cases h : c < b k
    · have hs := rk_cut_step (b := b) (r := k) (c := c) (by omega) h
      have hlt := rk_cut_lt hF (show k < 7 by omega) h
      have hrk := rk_lt hF
      obtain ⟨g1, g2⟩ := h6 _ hlt
      obtain ⟨w1, a1, a2, a3⟩ := xf_take_eq g2 hI
      obtain ⟨w', c1, c2, c3⟩ := xf_fol_in (T := T) (x1 := x1) (K := K) hF hc k n w1 _ (by omega) (by omega) (fun r v hr hv => by rw [a2.2.1 4 (by decide) (by decide)]; exact hL r v hr hv) (fun q hq => by rw [a2.2.1 5 (by decide) (by decide)]; exact h5 q hq) (fun t ht => by rw [a2.2.1 6 (by decide) (by decide)]; exact h6 t ht) a3
      refine ⟨w', ?_, a2.tr c2, c3.congr (fun t => ?_)⟩
      · rw [xf_B_factsOfLines_C26, if_neg e0]
        show gi (nI k) 7 (if w.2.1 5 (nI k).toNatClampNeg ≤ nI c then _ else _) = _
        rw [gi_i hx, hcl, h5 k (by omega), if_neg (fun q => by
          have := (nI_leI (by omega) (by omega)).mp q
          omega)]
        show bn (xf_C_at 64 (w.2.1 4) ((8 : Int32) * nI k + nI c) w) (fun r_54 => gi (nI k) 7 (bn (xf_C_at 64 (w.2.1 4) ((8 : Int32) * nI k + w.2.1 5 (nI k).toNatClampNeg) w) _)) = _
        rw [bn_i (xf_les hL (by omega) (by omega)), gi_i hx, hcl, h5 k (by omega), bn_i (xf_les hL (by omega) hb7), nm_i, x_share hs, bn_i (xf_at_eq (by decide) (by omega)), g1, bn_i a1, nm_i]
        show xf_B_factsOfLines_C26 K n x1 (nI c) _ (xk (k + 1) + (-1)) w1 = _
        rw [xk_dec]
        exact c1
      · constructor
        · rintro ((h1 | h1) | ⟨r, h1, h2, h3⟩)
          · exact Or.inl h1
          · exact Or.inr ⟨k, by omega, h, h1⟩
          · exact Or.inr ⟨r, by omega, h2, h3⟩
        · rintro (h1 | ⟨r, h1, h2, h3⟩)
          · exact Or.inl (Or.inl h1)
          · by_cases e : r = k
            · subst e; exact Or.inl (Or.inr h3)
            · exact Or.inr ⟨r, by omega, h2, h3⟩
    · obtain ⟨w', c1, c2, c3⟩ := xf_fol_in (T := T) (x1 := x1) (K := K) hF hc k n w P (by omega) (by omega) hL h5 h6 hI
      refine ⟨w', ?_, c2, c3.congr (fun t => ?_)⟩
      · rw [xf_B_factsOfLines_C26, if_neg e0]
        show gi (nI k) 7 (if w.2.1 5 (nI k).toNatClampNeg ≤ nI c then _ else _) = _
        rw [gi_i hx, hcl, h5 k (by omega), if_pos ((nI_leI (by omega) (by omega)).mpr (by omega)), nm_i, rk_cut_skip h]
        show xf_B_factsOfLines_C26 K n x1 (nI c) _ (xk (k + 1) + (-1)) w = _
        rw [xk_dec]
        exact c1
      · constructor
        · rintro (h1 | ⟨r, h1, h2, h3⟩)
          · exact Or.inl h1
          · exact Or.inr ⟨r, by omega, h2, h3⟩
        · rintro (h1 | ⟨r, h1, h2, h3⟩)
          · exact Or.inl h1
          · by_cases e : r = k
            · subst e; exact absurd h2 h
            · exact Or.inr ⟨r, by omega, h2, h3⟩
theorem xf_fol_out {T : Nat → F3} {b : Nat → Nat} (hF : Fall b) : ∀ (d c n : Nat) (w : xW), d = 7 - c → c ≤ 7 → d < n → Lx w → (∀ q, q < 7 → w.2.1 5 q = nI (b q)) → (∀ t, t < rk b → w.2.1 6 t = nI (pF (T t)) ∧ B3 (T t)) → TI w (fun u => ∃ r c', c' < c ∧ r < 7 ∧ c' < b r ∧ u = T (rk (cutB b r c'))) → ∃ w' n', xf_B_factsOfLines_C9 n (nI (rk b)) (nI c) w = xf_B_factsOfLines_C9 (n' + 1) (nI (rk b)) (nI 7) w' ∧ Ta w w' ∧ TI w' (fun u => ∃ r c', c' < 7 ∧ r < 7 ∧ c' < b r ∧ u = T (rk (cutB b r c')))
  | d, c, 0, w, hd, hc, hn, _, _, _, _ => by omega
  | 0, c, n + 1, w, hd, hc, hn, hL, h5, h6, hI => by
    have e : c = 7 := by omega
    subst e
    exact ⟨w, n, rfl, Ta.rf w, hI⟩
  | d + 1, c, n + 1, w, hd, hc, hn, hL, h5, h6, hI => by
    obtain ⟨w1, a1, a2, a3⟩ := xf_fol_in (T := T) (x1 := nI (rk b)) (K := xf_B_factsOfLines_C9 n) hF (show c < 7 by omega) 7 fu w _ (Nat.le_refl 7) (fu_gt (by decide)) hL h5 h6 hI
    obtain ⟨w', n', c1, c2, c3⟩ := xf_fol_out (T := T) hF d (c + 1) n w1 (by omega) (by omega) (by omega) (fun r v hr hv => by rw [a2.2.1 4 (by decide) (by decide)]; exact hL r v hr hv) (fun q hq => by rw [a2.2.1 5 (by decide) (by decide)]; exact h5 q hq) (fun t ht => by rw [a2.2.1 6 (by decide) (by decide)]; exact h6 t ht) (a3.congr (fun t => by
      constructor
      · rintro (⟨r, c', h1, h2, h3, h4⟩ | ⟨r, h1, h2, h3⟩)
        · exact ⟨r, c', by omega, h2, h3, h4⟩
        · exact ⟨r, c, by omega, h1, h2, h3⟩
      · rintro ⟨r, c', h1, h2, h3, h4⟩
        by_cases e : c' = c
        · subst e; exact Or.inr ⟨r, h2, h3, h4⟩
        · exact Or.inl ⟨r, c', by omega, h2, h3, h4⟩))
    refine ⟨w', n', ?_, a2.tr c2, c3⟩
    rw [← c1, xf_B_factsOfLines_C9, if_neg (fun h => by
      have := (nI_leI (a := 7) (b := c) (by decide) (by omega)).mp h
      omega), nm_i, ← a1, rk_cut_7]
    rfl
theorem ok0x (A : Nat → Nat) : Ok 0 A := fun h => absurd rfl h
/-- the facts of the boards -/
noncomputable def SB (s : Nat) : F3 := Sol 0 P2 3431 s

theorem SB_b {s : Nat} (hs : s < 3432) : B3 (SB s) := by
  have := Sol_le (M := 3431) (ok0x P2) (show s < 32768 by omega) (fun _ => hs)
  unfold B3 SB
  omega
theorem SB_eq {s a b c : Nat} (hs : s < 3432) (ha : Mex (fun x => ∃ t, (∃ u, Nx 0 P2 3431 s u ∧ t = SB u) ∧ t.1 = x) a) (hb : Len 0 (fun x => ∃ t, (∃ u, Nx 0 P2 3431 s u ∧ t = SB u) ∧ t.2.1 = x) b) (hc : Len 1 (fun x => ∃ t, (∃ u, Nx 0 P2 3431 s u ∧ t = SB u) ∧ t.2.2 = x) c) : pk3 a b c = pF (SB s) := by
  obtain ⟨r1, r2, r3⟩ := Sol_rt (M := 3431) (ok0x P2) s (by omega) (fun _ => hs)
  have e1 : a = (SB s).1 := (ha.congr (Q := fun x => ∃ t, Nx 0 P2 3431 s t ∧ (Sol 0 P2 3431 t).1 = x) (fun x => ⟨fun ⟨t, ⟨u, h1, h2⟩, h3⟩ => ⟨u, h1, by subst h2; exact h3⟩, fun ⟨u, h1, h2⟩ => ⟨SB u, ⟨u, h1, rfl⟩, h2⟩⟩)).uniq r1
  have e2 : b = (SB s).2.1 := (hb.congr (Q := fun x => ∃ t, Nx 0 P2 3431 s t ∧ (Sol 0 P2 3431 t).2.1 = x) (fun x => ⟨fun ⟨t, ⟨u, h1, h2⟩, h3⟩ => ⟨u, h1, by subst h2; exact h3⟩, fun ⟨u, h1, h2⟩ => ⟨SB u, ⟨u, h1, rfl⟩, h2⟩⟩)).uniq r2
  have e3 : c = (SB s).2.2 := (hc.congr (Q := fun x => ∃ t, Nx 0 P2 3431 s t ∧ (Sol 0 P2 3431 t).2.2 = x) (fun x => ⟨fun ⟨t, ⟨u, h1, h2⟩, h3⟩ => ⟨u, h1, by subst h2; exact h3⟩, fun ⟨u, h1, h2⟩ => ⟨SB u, ⟨u, h1, rfl⟩, h2⟩⟩)).uniq r3
  rw [e1, e2, e3]
  rfl
theorem xf_factsOfLines_eq {s : Nat} {w : xW} (hs : s < 3432) (hL : Lx w) (h5 : ∀ q, q < 7 → w.2.1 5 q = nI (ub s q)) (h6 : ∀ t, t < s → w.2.1 6 t = nI (pF (SB t))) : ∃ w', xf_B_factsOfLines (nI s) w = some (nI (pF (SB s)), w') ∧ Ta w w' := by
  have hF := ub_fall hs
  have hr := rk_ub hs
  obtain ⟨w1, a1, a2, a3⟩ := xf_begin_eq w
  obtain ⟨w', n', c1, c2, c3⟩ := xf_fol_out (T := SB) hF 7 0 fu w1 rfl (Nat.zero_le _) (fu_gt (by decide)) (fun r v hr hv => by rw [a2.2.1 4 (by decide) (by decide)]; exact hL r v hr hv) (fun q hq => by rw [a2.2.1 5 (by decide) (by decide)]; exact h5 q hq) (fun t ht => by
    rw [hr] at ht
    rw [a2.2.1 6 (by decide) (by decide)]; exact ⟨h6 t ht, SB_b (by omega)⟩) (a3.congr (fun t => ⟨fun h => h.elim, fun ⟨r, c', h1, _⟩ => absurd h1 (Nat.not_lt_zero c')⟩))
  have c4 := c3.congr (Q := fun u => ∃ t, Nx 0 P2 3431 s t ∧ u = SB t) (fun u => by
    constructor
    · rintro ⟨r, c', h1, h2, h3, h4⟩
      refine ⟨rk (cutB (ub s) r c'), ⟨sm (ub s) r + c', ?_⟩, h4⟩
      unfold Nth
      rw [if_pos rfl]
      exact ⟨r, c', h2, h3, rfl, rfl⟩
    · rintro ⟨t, ⟨i, h1⟩, h2⟩
      unfold Nth at h1
      rw [if_pos rfl] at h1
      obtain ⟨r, c', g1, g2, g3, g4⟩ := h1
      have := Fall.le hF r g1
      exact ⟨r, c', by omega, g1, g2, by rw [h2, g4]⟩)
  obtain ⟨a, b, c, d1, d2, d3, d4⟩ := xf_facts_eq c4 (fun t ⟨u, ⟨i, h1⟩, h2⟩ => by
    subst h2
    have := h1.less (ok0x P2) (fun _ => hs)
    exact SB_b (by omega))
  refine ⟨w', ?_, a2.tr c2⟩
  unfold xf_B_factsOfLines
  rw [hr] at c1
  rw [bn_i a1]
  refine c1.trans ?_
  rw [xf_B_factsOfLines_C9, if_pos (by decide), bn_i d1, SB_eq hs d2 d3 d4]
