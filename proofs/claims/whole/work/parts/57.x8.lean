/-! ===== class: what the calls answer ===== -/
def AO (r : AR) : Prop := ∀ g, g < r.2.1 → GOk (r.2.2 g)
/-- only game g differs -/
def Xo (g : Nat) (w w' : xW) : Prop := w'.1 = w.1 ∧ w'.2.1 = w.2.1 ∧ (∀ i j, j ≠ g → w'.2.2.1 i j = w.2.2.1 i j) ∧ ∀ i j, j ≠ g → w'.2.2.2.1 i j = w.2.2.2.1 i j
theorem Xo.rf (g : Nat) (w : xW) : Xo g w w := ⟨rfl, rfl, fun _ _ _ => rfl, fun _ _ _ => rfl⟩
theorem Xo.tr {g : Nat} {a b c : xW} (h : Xo g a b) (f : Xo g b c) : Xo g a c := ⟨f.1.trans h.1, f.2.1.trans h.2.1, fun i j q => (f.2.2.1 i j q).trans (h.2.2.1 i j q), fun i j q => (f.2.2.2 i j q).trans (h.2.2.2 i j q)⟩
theorem Xo.G (g : Nat) (w : xW) (k : Nat) (v : Int32) : Xo g w (xG w k g v) := ⟨rfl, rfl, fun i j q => by
  show (if i = k then (fun b => if b = g then v else w.2.2.1 k b) else w.2.2.1 i) j = _
  by_cases e : i = k
  · rw [if_pos e]
    show (if j = g then _ else _) = _
    rw [if_neg q, e]
  · rw [if_neg e], fun _ _ _ => rfl⟩
theorem Xo.V (g : Nat) (w : xW) (k t : Nat) (v : Int32) : Xo g w (xV w k g t v) := ⟨rfl, rfl, fun _ _ _ => rfl, fun i j q => by
  show (if i = k then (fun b => if b = g then upd (w.2.2.2.1 k g) t v else w.2.2.2.1 k b) else w.2.2.2.1 i) j = _
  by_cases e : i = k
  · rw [if_pos e]
    show (if j = g then _ else _) = _
    rw [if_neg q, e]
  · rw [if_neg e]⟩
theorem xG_ne (w : xW) {k i : Nat} (g : Nat) (v : Int32) (h : i ≠ k) : (xG w k g v).2.2.1 i = w.2.2.1 i := if_neg h
theorem xG_V (w : xW) (k g : Nat) (v : Int32) : (xG w k g v).2.2.2.1 = w.2.2.2.1 := rfl
theorem xV_G (w : xW) (k g t : Nat) (v : Int32) : (xV w k g t v).2.2.1 = w.2.2.1 := rfl
theorem xV_ne (w : xW) {k i : Nat} (g t : Nat) (v : Int32) (h : i ≠ k) : (xV w k g t v).2.2.2.1 i = w.2.2.2.1 i := if_neg h
theorem XI.put {n : Nat} {G : Nat → AG} {w w' : xW} (h : XI n G w) {g : Nat} {x : AG} (hf : Xo g w w') (hO : ∀ j, j < n → GOk (upG G g x j)) (hx : XGame w' g x) : XI n (upG G g x) w' := by
  obtain ⟨h1, h2, h3, h4, h5⟩ := h
  refine ⟨h1, by rw [hf.1]; exact h2, fun r v hr hv => by rw [hf.2.1]; exact h3 r v hr hv, fun q s hs => by
    rw [hf.2.1]
    rw [hf.1] at q
    exact h4 q s hs, fun j hj => ⟨hO j hj, ?_⟩⟩
  by_cases e : j = g
  · subst e; rw [upG_at]; exact hx
  · rw [upG_ne _ _ e]
    have := (h5 j hj).2
    unfold XGame at this ⊢
    rw [hf.2.2.1 0 j e, hf.2.2.1 1 j e, hf.2.2.1 2 j e, hf.2.2.1 3 j e, hf.2.2.1 4 j e, hf.2.2.1 5 j e, hf.2.2.2 0 j e, hf.2.2.2 1 j e, hf.2.2.2 2 j e, hf.2.2.2 3 j e]
    exact this
theorem gL_le {x : AG} (h : GOk x) {s : Nat} (hs : St (gk x) (gA x) (gW x) s) : gL x s ≤ 50 := Le3_le (gF_b h hs) (gr x)
theorem XI.len {n : Nat} {G : Nat → AG} {w : xW} (h : XI n G w) {g t : Nat} (hg : g < n) (ht : St (gk (G g)) (gA (G g)) (gW (G g)) t) : xf_C_lengthIn (nI (pF (gF (G g) t))) (w.2.2.1 1 g) = some (nI (gL (G g) t)) := by
  obtain ⟨hO, hX⟩ := h.2.2.2.2 g hg
  rw [hX.2.1]
  exact xf_lengthIn_eq (gF_b hO ht) hO.2.1
theorem XI.isW {n : Nat} {G : Nat → AG} {w : xW} (h : XI n G w) {g t : Nat} (hg : g < n) (ht : St (gk (G g)) (gA (G g)) (gW (G g)) t) : xf_C_isWon (nI (gL (G g) t)) (w.2.2.1 1 g) = some (if gL (G g) t % 2 = gr (G g) then 1 else 0) := by
  obtain ⟨hO, hX⟩ := h.2.2.2.2 g hg
  have := gL_le hO ht
  rw [hX.2.1]
  exact xf_isWon_eq (by omega) hO.2.1
theorem XI.here {n : Nat} {G : Nat → AG} {w : xW} (h : XI n G w) {g : Nat} (hg : g < n) : ∃ w', xf_G_factsOf g (w.2.2.1 3 g) w = some (nI (pF (gF (G g) (gs (G g)))), w') ∧ XI n G w' ∧ St (gk (G g)) (gA (G g)) (gW (G g)) (gs (G g)) := by
  obtain ⟨hO, hX⟩ := h.2.2.2.2 g hg
  have hs := hO.2.2.2.2.2.2.1
  rw [hX.2.2.1]
  obtain ⟨w', a1, a2⟩ := h.facts hg hs
  exact ⟨w', a1, a2, hs⟩
theorem XI.won {n : Nat} {G : Nat → AG} {w : xW} (h : XI n G w) (x : Int32) : ∃ w', xf_C_won x w = some ((a_won n G x).1, w') ∧ XI (a_won n G x).2.1 (a_won n G x).2.2 w' := by
  unfold xf_C_won a_won
  rw [bn_i (h.at x)]
  by_cases hx : isG n x = true
  · obtain ⟨h1, h2, h3, h4, h5⟩ := h.get hx
    obtain ⟨w', a1, a2, a3⟩ := h.here h1
    refine ⟨w', ?_, by rw [if_pos hx]; exact a2⟩
    rw [if_pos hx, if_pos hx, onO_some, gd_i h3, bn2_i a1, bn_i (a2.len h1 a3), bn_i (a2.isW h1 a3)]
    by_cases e : gL (G (ixN x)) (gs (G (ixN x))) % 2 = gr (G (ixN x))
    · rw [if_pos e, if_pos e, if_neg (by decide)]; rfl
    · rw [if_neg e, if_neg e, if_pos rfl]; rfl
  · refine ⟨w, ?_, by rw [if_neg hx]; exact h⟩
    rw [if_neg hx, if_neg hx, onO_none]
theorem XI.worth {n : Nat} {G : Nat → AG} {w : xW} (h : XI n G w) (x : Int32) : ∃ w', xf_C_worth x w = some ((a_worth n G x).1, w') ∧ XI (a_worth n G x).2.1 (a_worth n G x).2.2 w' := by
  unfold xf_C_worth a_worth
  rw [bn_i (h.at x)]
  by_cases hx : isG n x = true
  · obtain ⟨h1, h2, h3, h4, h5⟩ := h.get hx
    obtain ⟨w', a1, a2, a3⟩ := h.here h1
    refine ⟨w', ?_, by rw [if_pos hx]; exact a2⟩
    rw [if_pos hx, if_pos hx, onO_some, gd_i h3, bn2_i a1, bn_i (xf_worthIn_eq (gF_b h4 a3))]
    rfl
  · refine ⟨w, ?_, by rw [if_neg hx]; exact h⟩
    rw [if_neg hx, if_neg hx, onO_none]
theorem XI.length {n : Nat} {G : Nat → AG} {w : xW} (h : XI n G w) (x : Int32) : ∃ w', xf_C_length x w = some ((a_length n G x).1, w') ∧ XI (a_length n G x).2.1 (a_length n G x).2.2 w' := by
  unfold xf_C_length a_length
  rw [bn_i (h.at x)]
  by_cases hx : isG n x = true
  · obtain ⟨h1, h2, h3, h4, h5⟩ := h.get hx
    obtain ⟨w', a1, a2, a3⟩ := h.here h1
    refine ⟨w', ?_, by rw [if_pos hx]; exact a2⟩
    rw [if_pos hx, if_pos hx, onO_some, gd_i h3, bn2_i a1, bn_i (a2.len h1 a3)]
  · refine ⟨w, ?_, by rw [if_neg hx]; exact h⟩
    rw [if_neg hx, if_neg hx, onO_none]
theorem XI.next {n : Nat} {G : Nat → AG} {w : xW} (h : XI n G w) {g i : Nat} (hg : g < n) (hi : i < gn (G g)) : ∃ w1 w', xf_G_stateAfter g (nI i) w = some (nI (nxt (G g) i), w1) ∧ XI n G w1 ∧ xf_G_factsOf g (nI (nxt (G g) i)) w1 = some (nI (pF (gF (G g) (nxt (G g) i))), w') ∧ XI n G w' ∧ St (gk (G g)) (gA (G g)) (gW (G g)) (nxt (G g) i) := by
  have hO := (h.2.2.2.2 g hg).1
  obtain ⟨f, hf⟩ := h.after hg (nxt_nth hi)
  have hs := (hO.nxt hi).1
  obtain ⟨w', a1, a2⟩ := (h.R5 f).facts hg hs
  exact ⟨_, w', hf, h.R5 f, a1, a2, hs⟩
theorem XI.win {n : Nat} {G : Nat → AG} {w : xW} (h : XI n G w) {g i : Nat} (hg : g < n) (hi : i < gn (G g)) : ∃ w', xf_G_isWinning g (nI i) w = some ((if wn (G g) i = true then 1 else 0), w') ∧ XI n G w' := by
  obtain ⟨w1, w', a1, a2, a3, a4, a5⟩ := h.next hg hi
  refine ⟨w', ?_, a4⟩
  unfold xf_G_isWinning wn
  rw [bn2_i a1, bn2_i a3, bn_i (a4.len hg a5), bn_i (a4.isW hg a5)]
  by_cases e : gL (G g) (nxt (G g) i) % 2 = gr (G g)
  · rw [if_pos e, if_neg (show ¬ ((1 : Int32) = 0) by decide), if_neg (by rw [decide_eq_true_eq]; exact fun q => q e)]; rfl
  · rw [if_neg e, if_pos rfl, if_pos (decide_eq_true e)]; rfl
theorem gn_le (x : AG) : gn x ≤ 49 := nb_le49 (gk x) (gW x) (gs x)
theorem XI.winL {n : Nat} {G : Nat → AG} {g : Nat} (hg : g < n) (h6 : g < 6) : ∀ (d i k : Nat) (w : xW), XI n G w → d = gn (G g) - i → i ≤ gn (G g) → d < k → ∃ w', xf_C_winning_C25 k g (nI (cW (G g) i)) (nI (gn (G g))) (nI i) w = some (nI (cW (G g) (gn (G g))), w') ∧ XI n G w'
  | d, i, 0, w, _, hd, hi, hk => by omega
  | 0, i, k + 1, w, h, hd, hi, hk => by
    have e : i = gn (G g) := by omega
    have := gn_le (G g)
    refine ⟨w, ?_, h⟩
    rw [xf_C_winning_C25, gd_i h6, if_pos ((nI_leI (by omega) (by omega)).mpr (by omega)), e]
  | d + 1, i, k + 1, w, h, hd, hi, hk => by
    have := gn_le (G g)
    obtain ⟨w1, a1, a2⟩ := h.win hg (show i < gn (G g) by omega)
    obtain ⟨w', b1, b2⟩ := XI.winL hg h6 d (i + 1) k w1 a2 (by omega) (by omega) (by omega)
    refine ⟨w', ?_, b2⟩
    have e : cW (G g) (i + 1) = cW (G g) i + (if wn (G g) i = true then 1 else 0) := rfl
    rw [← b1, xf_C_winning_C25, gd_i h6, if_neg (fun q => by
      have := (nI_leI (by omega) (by omega)).mp q
      omega), bn2_i a1, e]
    by_cases hw : wn (G g) i = true
    · rw [if_pos hw, if_pos hw, if_neg (by decide), nm_i, nm_i, nI_1, nI_1]
    · rw [if_neg hw, if_neg hw, if_pos rfl, nm_i, nI_1]; rfl
theorem XI.winning {n : Nat} {G : Nat → AG} {w : xW} (h : XI n G w) (x : Int32) : ∃ w', xf_C_winning x w = some ((a_winning n G x).1, w') ∧ XI (a_winning n G x).2.1 (a_winning n G x).2.2 w' := by
  unfold xf_C_winning a_winning
  rw [bn_i (h.at x)]
  by_cases hx : isG n x = true
  · obtain ⟨h1, h2, h3, h4, h5⟩ := h.get hx
    obtain ⟨f, hf⟩ := h.cb h1
    have := gn_le (G (ixN x))
    obtain ⟨w', a1, a2⟩ := XI.winL h1 h3 (gn (G (ixN x))) 0 fu _ (h.R5 f) rfl (Nat.zero_le _) (fu_gt (by omega))
    refine ⟨w', ?_, a2⟩
    rw [if_pos hx, if_pos hx, onO_some, gd_i h3, bn2_i hf]
    exact a1
  · refine ⟨w, ?_, h⟩
    rw [if_neg hx, if_neg hx, onO_none]
theorem XI.told {n : Nat} {G : Nat → AG} {w : xW} (h : XI n G w) (x y : Int32) : ∃ w', xf_C_told x y w = some ((a_told n G x y).1, w') ∧ XI (a_told n G x y).2.1 (a_told n G x y).2.2 w' := by
  unfold xf_C_told a_told
  rw [bn_i (h.at x)]
  by_cases hx : isG n x = true
  · obtain ⟨h1, h2, h3, h4, h5⟩ := h.get hx
    obtain ⟨x0, x1, x3, x4, -⟩ := h5
    obtain ⟨f, hf⟩ := h.cb h1
    rw [if_pos hx, if_pos hx, onO_some, gd_i h3, x0, x1, x3, x4, bn2_i hf]
    by_cases e0 : y = 0
    · exact ⟨w, by rw [if_pos e0, if_pos e0], h⟩
    rw [if_neg e0, if_neg e0]
    by_cases e1 : y = 1
    · exact ⟨w, by rw [if_pos e1, if_pos e1], h⟩
    rw [if_neg e1, if_neg e1]
    by_cases e2 : y = 2
    · exact ⟨_, by rw [if_pos e2, if_pos (Or.inl e2)]; rfl, h.R5 f⟩
    rw [if_neg e2]
    by_cases e3 : y = 3
    · exact ⟨_, by rw [if_pos e3, if_pos (Or.inr e3)]; rfl, h.R5 f⟩
    rw [if_neg e3, if_neg (show ¬ (y = 2 ∨ y = 3) from fun q => q.elim e2 e3)]
    by_cases e4 : y = 4
    · exact ⟨w, by rw [if_pos e4, if_pos e4], h⟩
    rw [if_neg e4, if_neg e4]
    by_cases e5 : y = 5
    · exact ⟨w, by rw [if_pos e5, if_pos e5], h⟩
    rw [if_neg e5, if_neg e5]
    exact ⟨w, rfl, h⟩
  · refine ⟨w, ?_, h⟩
    rw [if_neg hx, if_neg hx, onO_none]
theorem XI.ranked {n : Nat} {G : Nat → AG} {w : xW} (h : XI n G w) (x y : Int32) : ∃ w', xf_C_ranked x y w = some ((a_ranked n G x y).1, w') ∧ XI (a_ranked n G x y).2.1 (a_ranked n G x y).2.2 w' := by
  unfold xf_C_ranked a_ranked
  rw [bn_i (show xf_C_isWithin x (0 : Int32) (3431 : Int32) = _ from xf_rng 0 3431 (by decide) (by decide) x), bn_i (show xf_C_isWithin y (0 : Int32) (6 : Int32) = _ from xf_rng 0 6 (by decide) (by decide) y)]
  by_cases hx : rng 0 3431 x = true
  · rw [if_pos hx, if_neg (by decide), if_pos hx]
    by_cases hy : rng 0 6 y = true
    · obtain ⟨a, x1, x2, x3, x4⟩ := rng_t hx
      obtain ⟨b, y1, y2, y3, y4⟩ := rng_t hy
      obtain ⟨f, hf⟩ := xf_rowOf_eq (s := a) (r := b) h.2.2.1 (by omega) (by omega)
      rw [if_pos hy, if_neg (by decide), if_pos hy, x4, y4, x3, y3]
      exact ⟨_, by rw [bn2_i hf], h.R5 f⟩
    · rw [if_neg hy, if_pos rfl, if_neg hy]
      exact ⟨w, rfl, h⟩
  · rw [if_neg hx, if_pos rfl, if_neg hx]
    exact ⟨w, rfl, h⟩
theorem XI.clear {n : Nat} {G : Nat → AG} {w : xW} (h : XI n G w) : ∃ w', xf_C_clear w = some ((a_clear n G).1, w') ∧ XI (a_clear n G).2.1 (a_clear n G).2.2 w' := by
  obtain ⟨h1, h2, h3, h4, h5⟩ := h
  refine ⟨xS w 0 0, ?_, Nat.zero_le _, rfl, h3, h4, fun g hg => absurd hg (Nat.not_lt_zero g)⟩
  unfold xf_C_clear
  rw [nm_i, nm_i, h2]
  rfl
theorem XI.rule {n : Nat} {G : Nat → AG} {w : xW} (h : XI n G w) (x y : Int32) (hO : AO (a_rule n G x y)) : ∃ w', xf_C_rule x y w = some ((a_rule n G x y).1, w') ∧ XI (a_rule n G x y).2.1 (a_rule n G x y).2.2 w' := by
  unfold a_rule at hO ⊢
  unfold xf_C_rule
  rw [bn_i (h.at x)]
  by_cases hx : isG n x = true
  · obtain ⟨h1, h2, h3, h4, h5⟩ := h.get hx
    rw [if_pos hx] at hO
    rw [if_pos hx, if_pos hx, onO_some, gd_i h3, bn_i (show xf_C_isWithin y (0 : Int32) (1 : Int32) = _ from xf_rng 0 1 (by decide) (by decide) y)]
    by_cases hy : rng 0 1 y = true
    · obtain ⟨b, y1, y2, y3, y4⟩ := rng_t hy
      rw [if_pos hy] at hO
      rw [if_pos hy, if_neg (by decide), if_pos hy, nm_i, nm_i]
      obtain ⟨x0, x1, x3, x4, x2, xA, xP, xB, xC⟩ := h5
      refine ⟨_, by rw [x1], h.put (Xo.G _ _ _ _) hO ?_⟩
      refine ⟨?_, ?_, ?_, ?_, ?_, xA, xP, xB, ?_⟩
      · rw [xG_ne _ _ _ (by decide)]; exact x0
      · rw [xG_at, y3, ← y3, y4]; exact y3
      · rw [xG_ne _ _ _ (by decide)]; exact x3
      · rw [xG_ne _ _ _ (by decide)]; exact x4
      · rw [xG_ne _ _ _ (by decide)]; exact x2
      · rw [xG_ne _ _ _ (by decide)]; exact xC
    · rw [if_neg hy, if_pos rfl, if_neg hy]
      exact ⟨w, rfl, h⟩
  · refine ⟨w, ?_, by rw [if_neg hx]; exact h⟩
    rw [if_neg hx, if_neg hx, onO_none]
