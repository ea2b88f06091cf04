/-! ===== the reference: calls that change a game ===== -/
def upG (G : Nat → AG) (g : Nat) (x : AG) : Nat → AG := fun j => if j = g then x else G j
theorem upG_at (G : Nat → AG) (g : Nat) (x : AG) : upG G g x g = x := if_pos rfl
theorem upG_ne (G : Nat → AG) {g j : Nat} (x : AG) (h : j ≠ g) : upG G g x j = G j := if_neg h
def MCell (w w' : mW) (j : Nat) : Prop := w'.2 1 j = w.2 1 j ∧ w'.2 2 j = w.2 2 j ∧ w'.2 3 j = w.2 3 j ∧ w'.2 4 j = w.2 4 j ∧ w'.2 6 j = w.2 6 j ∧ w'.2 7 j = w.2 7 j ∧ w'.2 9 j = w.2 9 j ∧ (∀ i, i < 12 → w'.2 5 (12 * j + i) = w.2 5 (12 * j + i)) ∧ (∀ i, i < 18 → w'.2 8 (18 * j + i) = w.2 8 (18 * j + i)) ∧ (∀ i, i < 100 → w'.2 10 (100 * j + i) = w.2 10 (100 * j + i)) ∧ ∀ i, i < 100 → w'.2 11 (100 * j + i) = w.2 11 (100 * j + i)
theorem MCell.rf (w : mW) (j : Nat) : MCell w w j := ⟨rfl, rfl, rfl, rfl, rfl, rfl, rfl, fun _ _ => rfl, fun _ _ => rfl, fun _ _ => rfl, fun _ _ => rfl⟩
theorem MCell.tr {a b c : mW} {j : Nat} (h : MCell a b j) (g : MCell b c j) : MCell a c j := by
  obtain ⟨h1, h2, h3, h4, h5, h6, h7, h8, h9, h10, h11⟩ := h
  obtain ⟨g1, g2, g3, g4, g5, g6, g7, g8, g9, g10, g11⟩ := g
  exact ⟨g1.trans h1, g2.trans h2, g3.trans h3, g4.trans h4, g5.trans h5, g6.trans h6, g7.trans h7, fun i hi => (g8 i hi).trans (h8 i hi), fun i hi => (g9 i hi).trans (h9 i hi), fun i hi => (g10 i hi).trans (h10 i hi), fun i hi => (g11 i hi).trans (h11 i hi)⟩
theorem MCell.co {w w' : mW} {j : Nat} (h : Co w w') : MCell w w' j := by
  have e := h.2
  refine ⟨?_, ?_, ?_, ?_, ?_, ?_, ?_, fun i _ => ?_, fun i _ => ?_, fun i _ => ?_, fun i _ => ?_⟩ <;> rw [e _ (by decide)]
theorem mU_at (w : mW) (c i : Nat) (v : Int32) : (mU w c i v).2 c i = v := by
  rw [mU_R, mR_at, upd_at]
theorem mU_ne (w : mW) {c c' i : Nat} (v : Int32) (h : c' ≠ c) : (mU w c i v).2 c' = w.2 c' := by
  rw [mU_R, mR_ne _ _ h]
theorem mU_ni (w : mW) {c i i' : Nat} (v : Int32) (h : i' ≠ i) : (mU w c i v).2 c i' = w.2 c i' := by
  rw [mU_R, mR_at, upd_ne _ _ h]
/-- one place of a row by games is written: the other games' cells stand -/
theorem MCell.g1 {w : mW} {c g j : Nat} {v : Int32} (h : j ≠ g) (hc : c = 1 ∨ c = 2 ∨ c = 3 ∨ c = 4 ∨ c = 6 ∨ c = 7 ∨ c = 9) : MCell w (mU w c g v) j := by
  refine ⟨?_, ?_, ?_, ?_, ?_, ?_, ?_, fun i _ => ?_, fun i _ => ?_, fun i _ => ?_, fun i _ => ?_⟩ <;> rcases hc with rfl | rfl | rfl | rfl | rfl | rfl | rfl <;> first | exact mU_ni w v h | (rw [mU_ne w v (by decide)])
theorem MCell.g5 {w : mW} {g j t : Nat} {v : Int32} (h : j ≠ g) (ht : t < 12) : MCell w (mU w 5 (12 * g + t) v) j := by
  refine ⟨?_, ?_, ?_, ?_, ?_, ?_, ?_, fun i _ => ?_, fun i _ => ?_, fun i _ => ?_, fun i _ => ?_⟩ <;> first | exact mU_ni w v (by omega) | (rw [mU_ne w v (by decide)])
theorem MCell.g8 {w : mW} {g j t : Nat} {v : Int32} (h : j ≠ g) (ht : t < 18) : MCell w (mU w 8 (18 * g + t) v) j := by
  refine ⟨?_, ?_, ?_, ?_, ?_, ?_, ?_, fun i _ => ?_, fun i _ => ?_, fun i _ => ?_, fun i _ => ?_⟩ <;> first | exact mU_ni w v (by omega) | (rw [mU_ne w v (by decide)])
theorem MCell.g10 {w : mW} {c g j t : Nat} {v : Int32} (hc : c = 10 ∨ c = 11) (h : j ≠ g) (ht : t < 100) : MCell w (mU w c (100 * g + t) v) j := by
  refine ⟨?_, ?_, ?_, ?_, ?_, ?_, ?_, fun i _ => ?_, fun i _ => ?_, fun i _ => ?_, fun i _ => ?_⟩ <;> rcases hc with rfl | rfl <;> first | exact mU_ni w v (by omega) | (rw [mU_ne w v (by decide)])
theorem MGame.cell {w w' : mW} {j : Nat} {x : AG} (hd : gd_ x ≤ 100) (h : MGame w j x) (c : MCell w w' j) : MGame w' j x := by
  obtain ⟨c1, c2, c3, c4, c6, c7, c9, c5, c8, c10, c11⟩ := c
  obtain ⟨⟨m1, m2⟩, h2, h3, h4, h5⟩ := h
  refine ⟨⟨c1.trans m1, ?_⟩, c2.trans h2, c3.trans h3, c9.trans h4, fun i hi => ?_⟩
  · rcases m2 with m2 | ⟨m0, th, a1, a2, a3, a4⟩ | ⟨m0, po, ro, e1, e2, a1, a2, a3, a4, a5, a6, a7⟩
    · exact Or.inl m2
    · refine Or.inr (Or.inl ⟨m0, th, a1, c4.trans a2, a3, fun t ht => ?_⟩)
      rw [c5 t (by omega)]; exact a4 t ht
    · refine Or.inr (Or.inr ⟨m0, po, ro, e1, e2, a1, a2, c6.trans a3, c7.trans a4, a5, fun i hi => ?_, a7⟩)
      have k1 := c8 (2 * i) (by omega)
      have k2 := c8 (2 * i + 1) (by omega)
      rw [← Nat.add_assoc] at k2
      rw [k1, k2]; exact a6 i hi
  · rw [c10 i (by omega), c11 i (by omega)]; exact h5 i hi
/-- a game is changed, the others' cells stand -/
theorem MI.put {n : Nat} {G : Nat → AG} {w w' : mW} (h : MI n G w) {g : Nat} {x : AG} (hg : g < n) (h0 : w'.1 0 = w.1 0) (hc : ∀ j, j < n → j ≠ g → MCell w w' j) (hx : GOk x) (hm : MGame w' g x) (hs : w'.1 1 = (-1) ∨ ∃ j, j < n ∧ w'.1 1 = nI j ∧ MSol w' (gk (upG G g x j)) (gA (upG G g x j)) (gW (upG G g x j)) (gr (upG G g x j))) : MI n (upG G g x) w' := by
  obtain ⟨h1, h2, h3, h4⟩ := h
  refine ⟨h1, h0.trans h2, fun j hj => ?_, hs⟩
  by_cases e : j = g
  · subst e; rw [upG_at]; exact ⟨hx, hm⟩
  · rw [upG_ne G x e]
    exact ⟨(h3 j hj).1, (h3 j hj).2.cell (h3 j hj).1.2.2.2.2.2.2.2.1 (hc j hj e)⟩
theorem MSol.tab {w w' : mW} {k r W : Nat} {A : Nat → Nat} (h : MSol w k A W r) (h12 : w'.2 12 = w.2 12) (h13 : w'.2 13 = w.2 13) (h14 : w'.2 14 = w.2 14) : MSol w' k A W r := fun s hs => by
  have := h s hs
  unfold Tab at this ⊢
  rw [h12, h13, h14]; exact this
/-- the cached game stands where its data do -/
theorem MI.cache {n : Nat} {G : Nat → AG} {w w' : mW} (h : MI n G w) {g : Nat} {x : AG} (h1 : w'.1 1 = w.1 1) (h12 : w'.2 12 = w.2 12) (h13 : w'.2 13 = w.2 13) (h14 : w'.2 14 = w.2 14) (e : gk x = gk (G g) ∧ gA x = gA (G g) ∧ gW x = gW (G g) ∧ gr x = gr (G g)) : w'.1 1 = (-1) ∨ ∃ j, j < n ∧ w'.1 1 = nI j ∧ MSol w' (gk (upG G g x j)) (gA (upG G g x j)) (gW (upG G g x j)) (gr (upG G g x j)) := by
  rw [h1]
  rcases h.2.2.2 with h4 | ⟨j, a, b, c⟩
  · exact Or.inl h4
  · refine Or.inr ⟨j, a, b, ?_⟩
    have c' := c.tab h12 h13 h14
    by_cases ej : j = g
    · subst ej; rw [upG_at, e.1, e.2.1, e.2.2.1, e.2.2.2]; exact c'
    · rw [upG_ne G x ej]; exact c'
theorem MI.ix {n : Nat} {G : Nat → AG} {w : mW} (h : MI n G w) {x : Int32} (hx : isG n x = true) : x.toNatClampNeg = ixN x ∧ vp_in x 6 := by
  obtain ⟨h1, h2, h3, -, -⟩ := h.get hx
  have e := congrArg Int32.toNatClampNeg h2
  rw [ii_cl (by omega)] at e
  exact ⟨e, by rw [h2]; exact ii_ix h3 (by decide)⟩
theorem MD.keep6 {w w' : mW} {g k : Nat} {A : Nat → Nat} {W : Nat} (h : MD w g k A W) (h1 : w'.2 1 = w.2 1) (h4 : w'.2 4 = w.2 4) (h5 : w'.2 5 = w.2 5) (h6 : w'.2 6 = w.2 6) (h7 : w'.2 7 = w.2 7) (h8 : w'.2 8 = w.2 8) : MD w' g k A W := by
  unfold MD MOrd MNet at h ⊢
  rw [h1, h4, h5, h6, h7, h8]
  exact h
def a_noted (n : Nat) (G : Nat → AG) (x y : Int32) : AR := (if isG n x then (if isG (gd_ (G (ixN x))) y then nI (gbi (G (ixN x)) (ixN y)) else -1) else -1001, n, G)
theorem MI.noted {n : Nat} {G : Nat → AG} {w : mW} (h : MI n G w) (x y : Int32) : mf_noted x y w = some (a_noted n G x y).1 := by
  unfold mf_noted a_noted
  rw [bn_i (h.isGame x)]
  by_cases hx : isG n x = true
  · obtain ⟨h1, h2, h3, h4, h5⟩ := h.get hx
    obtain ⟨m1, m2, m3, m4, m5⟩ := h5
    have hd := h4.2.2.2.2.2.2.2.1
    rw [if_pos hx, if_neg (by decide), if_pos hx, gi_i (h.ix hx).2, (h.ix hx).1, m4, bn_i (mf_below_n (by omega) y)]
    by_cases hy : isG (gd_ (G (ixN x))) y = true
    · obtain ⟨y1, y2⟩ := isG_t hy
      have e : (100 : Int32) * x + y = nI (100 * ixN x + ixN y) := by
        rw [show (100 : Int32) * x = nI (100 * ixN x) by
          conv => lhs; rw [h2]
          exact pk_mul 100 _]
        conv => lhs; rw [y2]
        exact nI_add _ _
      rw [if_pos hy, if_neg (by decide), if_pos hy, e, gi_i (ii_ix (by omega) (by decide)), ii_cl (by omega), (m5 _ y1).1]
    · rw [if_neg hy, if_pos rfl, if_neg hy]
  · rw [if_neg hx, if_pos rfl, if_neg hx]
def a_clear (n : Nat) (G : Nat → AG) : AR := (nI n, 0, G)
theorem MI.clear {n : Nat} {G : Nat → AG} {w : mW} (h : MI n G w) : ∃ w', mf_clear w = some ((a_clear n G).1, w') ∧ MI (a_clear n G).2.1 (a_clear n G).2.2 w' := by
  refine ⟨mS (mS w 0 (0 : Int32)) 1 (-1 : Int32), ?_, Nat.zero_le 6, rfl, fun g hg => absurd hg (Nat.not_lt_zero g), Or.inl rfl⟩
  show some (w.1 0, _) = _
  rw [h.2.1]; rfl
/-- the rule of a game becomes v -/
def sR (x : AG) (v : Nat) : AG := (gk x, v, x.2.2)
def a_rule (n : Nat) (G : Nat → AG) (x y : Int32) : AR := if isG n x then (if rng 0 1 y then (nI (gr (G (ixN x))), n, upG G (ixN x) (sR (G (ixN x)) (ixN y))) else (-1002, n, G)) else (-1001, n, G)
theorem MI.rule {n : Nat} {G : Nat → AG} {w : mW} (h : MI n G w) (x y : Int32) : ∃ w', mf_rule x y w = some ((a_rule n G x y).1, w') ∧ MI (a_rule n G x y).2.1 (a_rule n G x y).2.2 w' := by
  unfold mf_rule a_rule
  rw [bn_i (h.isGame x)]
  by_cases hx : isG n x = true
  · obtain ⟨h1, h2, h3, h4, h5⟩ := h.get hx
    obtain ⟨m1, m2, m3, m4, m5⟩ := id h5
    rw [if_pos hx, if_neg (by decide), bn_i (mf_isRule_eq y)]
    by_cases hy : rng 0 1 y = true
    · obtain ⟨j, y1, y2, y3, y4⟩ := rng_t hy
      rw [if_pos hy, if_neg (by decide), gi_i (h.ix hx).2, (h.ix hx).1, nm_i, gi_i (h.ix hx).2, nm_i, if_pos hx, if_pos hy]
      have hmD : ∀ v, MD (mU w 2 (ixN x) v) (ixN x) (gk (G (ixN x))) (gA (G (ixN x))) (gW (G (ixN x))) := fun v => by
        exact m1.keep6 (mU_ne w v (by decide)) (mU_ne w v (by decide)) (mU_ne w v (by decide)) (mU_ne w v (by decide)) (mU_ne w v (by decide)) (mU_ne w v (by decide))
      have key : ∀ t1 : Int32, (t1 = -1 ∨ (t1 = w.1 1 ∧ w.1 1 ≠ x)) → MI n (upG G (ixN x) (sR (G (ixN x)) (ixN y))) (mS (mU w 2 (ixN x) y) 1 t1) := by
        intro t1 ht
        refine h.put h1 rfl (fun i hi hne => show MCell w (mU w 2 (ixN x) y) i from MCell.g1 hne (by decide)) ⟨h4.1, by rw [y4]; show j < 2; omega, h4.2.2⟩ ⟨hmD y, ?_, ?_, ?_, fun i hi => ?_⟩ ?_
        · show (mU w 2 (ixN x) y).2 2 (ixN x) = nI (ixN y)
          rw [mU_at, y4, y3]
        · show (mU w 2 (ixN x) y).2 3 (ixN x) = _
          rw [mU_ne w y (by decide)]; exact m3
        · show (mU w 2 (ixN x) y).2 9 (ixN x) = _
          rw [mU_ne w y (by decide)]; exact m4
        · show (mU w 2 (ixN x) y).2 10 _ = _ ∧ (mU w 2 (ixN x) y).2 11 _ = _
          rw [mU_ne w y (by decide), mU_ne w y (by decide)]; exact m5 i hi
        · rcases ht with rfl | ⟨rfl, hne⟩
          · exact Or.inl rfl
          · rcases h.2.2.2 with q | ⟨i, a, b, c⟩
            · exact Or.inl q
            · have hi : i ≠ ixN x := fun e => hne (by rw [b, e]; exact h2.symm)
              exact Or.inr ⟨i, a, b, by rw [upG_ne G _ hi]; exact c.tab rfl rfl rfl⟩
      show ∃ w', (if w.1 1 = x then _ else _) = _ ∧ _
      by_cases e : w.1 1 = x
      · refine ⟨_, ?_, key (-1) (Or.inl rfl)⟩
        rw [if_pos e, m2]
        rfl
      · refine ⟨_, ?_, key (w.1 1) (Or.inr ⟨rfl, e⟩)⟩
        rw [if_neg e, m2]
        rfl
    · refine ⟨w, ?_, by rw [if_pos hx, if_neg hy]; exact h⟩
      rw [if_neg hy, if_pos rfl, if_pos hx, if_neg hy]
  · refine ⟨w, ?_, by rw [if_neg hx]; exact h⟩
    rw [if_neg hx, if_pos rfl, if_neg hx]
