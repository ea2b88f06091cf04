/-! ===== the reference: a row set, things below things ===== -/
def setB (b : Nat → Nat) (r v : Nat) : Nat → Nat := fun k => if k < r then b k else if k = r then v else if b k ≤ v then b k else v
theorem setB_fall {b : Nat → Nat} (h : Fall b) {r v : Nat} (hv : v ≤ 7) (hr : r = 0 ∨ v ≤ b (r - 1)) : Fall (setB b r v) := by
  constructor
  · have := h.1
    unfold setB
    split
    · exact this
    · split
      · exact hv
      · split <;> omega
  · intro k hk
    have h1 := h.2 k hk
    unfold setB
    by_cases a : k + 1 < r
    · rw [if_pos a, if_pos (by omega)]; exact h1
    · rw [if_neg a]
      by_cases c : k + 1 = r
      · rw [if_pos c, if_pos (by omega)]
        rcases hr with hr | hr
        · omega
        · rwa [show r - 1 = k by omega] at hr
      · rw [if_neg c]
        by_cases d : k = r
        · rw [if_neg (show ¬ (k < r) by omega), if_pos d]
          split <;> omega
        · rw [if_neg (show ¬ (k < r) by omega), if_neg d]
          split <;> split <;> omega
def a_row (n : Nat) (G : Nat → AG) (x y z : Int32) : AR := if isG n x = true ∧ gk (G (ixN x)) = 0 then (if rng 0 6 y = true ∧ rng 0 7 z = true then (if 0 < ixN y ∧ ub (gs (G (ixN x))) (ixN y - 1) < ixN z then (-1003, n, G) else (nI (nb 0 (gW (G (ixN x))) (rk (setB (ub (gs (G (ixN x)))) (ixN y) (ixN z)))), n, upG G (ixN x) (putB (G (ixN x)) (rk (setB (ub (gs (G (ixN x)))) (ixN y) (ixN z)))))) else (-1002, n, G)) else (-1001, n, G)
theorem mf_row_loop {x : Int32} {b : Nat → Nat} {r v : Nat} (hF : Fall (setB b r v)) (hv : v ≤ 7) (hb7 : ∀ q, q < 7 → b q ≤ 7) : ∀ (d k m : Nat) (w : mW), d = 7 - k → k ≤ 7 → r < k → d < m → (∀ q, q < k → w.2 15 q = nI (setB b r v q)) → (∀ q, k ≤ q → q < 7 → w.2 15 q = nI (b q)) → ∃ f, mf_row_C83 m x (nI v) (nI k) w = (gi x 6 <| gi x 6 <| bn2 (mf_bitesOf x (mU (mU (mR w 15 f) 3 x.toNatClampNeg (nI (rk (setB b r v)))) 9 x.toNatClampNeg (0 : Int32))) fun p q => some (p, q))
  | d, k, 0, w, hd, hk, hr, hm, _, _ => by omega
  | 0, k, m + 1, w, hd, hk, hr, hm, h1, h2 => by
    have e : k = 7 := by omega
    subst e
    refine ⟨w.2 15, ?_⟩
    rw [mf_row_C83, if_pos (show (7 : Int32) ≤ nI 7 from (nI_leI (a := 7) (by decide) (by decide)).mpr (Nat.le_refl 7)), bn_i (mf_rankOf_eq hF h1), mR_self]
    rfl
  | d + 1, k, m + 1, w, hd, hk, hr, hm, h1, h2 => by
    have fin : ∀ u : Int32, u = nI (setB b r v k) → ∃ f, mf_row_C118 (mf_row_C83 m) x (nI v) (nI k) (nI k) u w = (gi x 6 <| gi x 6 <| bn2 (mf_bitesOf x (mU (mU (mR w 15 f) 3 x.toNatClampNeg (nI (rk (setB b r v)))) 9 x.toNatClampNeg (0 : Int32))) fun p q => some (p, q)) := by
      intro u hu
      obtain ⟨f, hf⟩ := mf_row_loop (x := x) hF hv hb7 d (k + 1) m (mR w 15 (upd (w.2 15) k u)) (by omega) (by omega) (by omega) (by omega) (fun q hq => by
        rw [mR_at]
        by_cases e : q = k
        · subst e; rw [upd_at, hu]
        · rw [upd_ne _ _ e]; exact h1 q (by omega)) (fun q hq1 hq2 => by
        rw [mR_at, upd_ne _ _ (by omega)]; exact h2 q (by omega) hq2)
      refine ⟨f, ?_⟩
      rw [mR_R] at hf
      unfold mf_row_C118
      rw [gi_i (ii_ix (by omega) (by decide)), ii_cl (by omega), mU_R, nm_i, nm_i, nI_1]
      exact hf
    have hbk := hb7 k (by omega)
    rw [mf_row_C83, if_neg (fun q => by
      have := (nI_leI (a := 7) (b := k) (by decide) (by omega)).mp q
      omega), gi_i (ii_ix (by omega) (by decide)), ii_cl (by omega), h2 k (Nat.le_refl k) (by omega)]
    by_cases e : b k ≤ v
    · rw [if_pos ((nI_leI (by omega) (by omega)).mpr e), gi_i (ii_ix (by omega) (by decide))]
      exact fin _ (by unfold setB; rw [if_neg (by omega), if_neg (by omega), if_pos e])
    · rw [if_neg (fun q => e ((nI_leI (by omega) (by omega)).mp q))]
      exact fin _ (by unfold setB; rw [if_neg (by omega), if_neg (by omega), if_neg e])
theorem MI.row {n : Nat} {G : Nat → AG} {w : mW} (h : MI n G w) (x y z : Int32) : ∃ w', mf_row x y z w = some ((a_row n G x y z).1, w') ∧ MI (a_row n G x y z).2.1 (a_row n G x y z).2.2 w' := by
  unfold mf_row a_row
  rw [bn_i (show mf_isOf x (0 : Int32) w = some (if isG n x = true ∧ gk (G (ixN x)) = 0 then 1 else 0) from h.isOf x 0 (by decide))]
  by_cases hx : isG n x = true ∧ gk (G (ixN x)) = 0
  · obtain ⟨h1, h2, h3, h4, h5⟩ := h.get hx.1
    obtain ⟨i1, i2⟩ := h.ix hx.1
    obtain ⟨m1, m2, m3, m4, m5⟩ := id h5
    obtain ⟨k1, k2, k3, k4, k5, k6, k7, k8, k9⟩ := id h4
    rw [if_pos hx, if_neg (by decide), bn_i (mf_rng 0 6 (by decide) (by decide) y 0 6 (by decide) (by decide)), if_pos hx]
    by_cases hy : rng 0 6 y = true
    · obtain ⟨r, y1, y2, y3, y4⟩ := rng_t hy
      rw [if_pos hy, if_neg (by decide), bn_i (mf_rng 0 7 (by decide) (by decide) z 0 7 (by decide) (by decide))]
      by_cases hz : rng 0 7 z = true
      · obtain ⟨v, z1, z2, z3, z4⟩ := rng_t hz
        have hs : gs (G (ixN x)) < 3432 := k7.vs hx.2
        obtain ⟨f, a1, a2⟩ := mf_unrank_eq hs w
        have hF := ub_fall hs
        rw [if_pos hz, if_neg (by decide), gi_i i2, i1, m3, bn_i a1, if_pos (show rng 0 6 y = true ∧ rng 0 7 z = true from ⟨hy, hz⟩), y4, z4]
        have hub : ∀ q, q < 7 → ub (gs (G (ixN x))) q ≤ 7 := fun q _ => gv_7 _ _
        have go : (r = 0 ∨ v ≤ ub (gs (G (ixN x))) (r - 1)) → ∃ w', mf_row_C71 x y z (mR w 15 f) = some (nI (nb 0 (gW (G (ixN x))) (rk (setB (ub (gs (G (ixN x)))) r v))), w') ∧ MI n (upG G (ixN x) (putB (G (ixN x)) (rk (setB (ub (gs (G (ixN x)))) r v)))) w' := by
          intro hh
          have hF2 := setB_fall hF z2 hh
          obtain ⟨f2, hf2⟩ := mf_row_loop (x := x) hF2 z2 hub (7 - (r + 1)) (r + 1) fu (mR w 15 (upd f r (nI v))) rfl (by omega) (by omega) (fu_gt (by omega)) (fun q hq => by
            rw [mR_at]
            by_cases e : q = r
            · subst e; rw [upd_at]; unfold setB; rw [if_neg (Nat.lt_irrefl q), if_pos rfl]
            · rw [upd_ne _ _ e, a2 q (by omega)]; unfold setB; rw [if_pos (by omega)]) (fun q hq1 hq2 => by
            rw [mR_at, upd_ne _ _ (by omega)]; exact a2 q hq2)
          rw [mR_R, i1, gi_i i2, gi_i i2] at hf2
          have b1 := (h.sc (Sc.R (c := 15) (f := f2) (by decide))).setS h1 (show St (gk (G (ixN x))) (gA (G (ixN x))) (gW (G (ixN x))) (rk (setB (ub (gs (G (ixN x)))) r v)) by
            unfold St; rw [if_pos hx.2]; exact rk_lt hF2)
          obtain ⟨w', c1, c2, -, -⟩ := b1.bites h1
          rw [upG_at] at c1
          rw [← h2] at c1
          refine ⟨w', ?_, c2⟩
          unfold mf_row_C71
          rw [y3, gi_i (ii_ix (show r < 7 by omega) (by decide)), ii_cl (by omega), mU_R, mR_R, mR_at, nm_i, nm_i, nI_1, z3, hf2, bn2_i c1]
          show some (nI (nb (gk (G (ixN x))) _ _), w') = _
          rw [hx.2]
          rfl
        by_cases e : r = 0
        · obtain ⟨w', g1, g2⟩ := go (Or.inl e)
          refine ⟨w', ?_, by rw [if_neg (by omega)]; exact g2⟩
          rw [if_pos (show y ≤ 0 by rw [y3, e]; decide), if_neg (by omega)]
          exact g1
        · have hny : ¬ (y ≤ 0) := by rw [y3]; exact nI_nle (by omega) (by omega)
          rw [if_neg hny, show y - (1 : Int32) = nI (r - 1) by rw [y3]; exact ii_sub (b := 1) (by omega), gi_i (ii_ix (by omega) (by decide)), ii_cl (by omega), mR_at, a2 _ (by omega), z3]
          have := hub (r - 1) (by omega)
          by_cases e2 : v ≤ ub (gs (G (ixN x))) (r - 1)
          · obtain ⟨w', g1, g2⟩ := go (Or.inr e2)
            refine ⟨w', ?_, by rw [if_neg (by omega)]; exact g2⟩
            rw [if_pos ((nI_leI (by omega) (by omega)).mpr e2), if_neg (by omega), ← z3]
            exact g1
          · refine ⟨mR w 15 f, ?_, by rw [if_pos (by omega)]; exact h.sc (Sc.R (by decide))⟩
            rw [if_neg (fun q => e2 ((nI_leI (by omega) (by omega)).mp q)), if_pos (by omega)]
      · refine ⟨w, ?_, by rw [if_neg (fun q => hz q.2)]; exact h⟩
        rw [if_neg hz, if_pos rfl, if_neg (fun q => hz q.2)]
    · refine ⟨w, ?_, by rw [if_neg (fun q => hy q.1)]; exact h⟩
      rw [if_neg hy, if_pos rfl, if_neg (fun q => hy q.1)]
  · refine ⟨w, ?_, by rw [if_neg hx]; exact h⟩
    rw [if_neg hx, if_pos rfl, if_neg hx]
/-- a thing of an order -/
def isT (n : Nat) (G : Nat → AG) (x y : Int32) : Bool := isG n x && (decide (gk (G (ixN x)) = 1) && isG (cn (gW (G (ixN x))) 15) y)
theorem MI.ord {n : Nat} {G : Nat → AG} {w : mW} (h : MI n G w) {x : Int32} (hx : isG n x = true) (hk : gk (G (ixN x)) = 1) : ∃ th, th ≤ 12 ∧ w.2 4 (ixN x) = nI th ∧ gW (G (ixN x)) = 2 ^ th - 1 ∧ cn (gW (G (ixN x))) 15 = th ∧ ∀ t, t < th → ∃ B, w.2 5 (12 * ixN x + t) = nI B ∧ B < 4096 ∧ gA (G (ixN x)) t = 2 ^ t ||| B ∧ B.testBit t = false := by
  obtain ⟨h1, h2, h3, h4, h5⟩ := h.get hx
  obtain ⟨⟨q1, (⟨q, -⟩ | ⟨-, th, t1, t2, t3, t4⟩ | ⟨q, -⟩)⟩, -⟩ := id h5
  · omega
  · exact ⟨th, t1, t2, t3, by rw [t3]; exact cn_ord (by omega), t4⟩
  · omega
theorem MI.isThing {n : Nat} {G : Nat → AG} {w : mW} (h : MI n G w) (x y : Int32) : mf_isThing x y w = some (if isT n G x y = true then 1 else 0) := by
  unfold mf_isThing isT
  rw [bn_i (show mf_isOf x (1 : Int32) w = some (if isG n x = true ∧ gk (G (ixN x)) = 1 then 1 else 0) from h.isOf x 1 (by decide))]
  by_cases hx : isG n x = true ∧ gk (G (ixN x)) = 1
  · obtain ⟨th, t1, t2, t3, t4, t5⟩ := h.ord hx.1 hx.2
    obtain ⟨i1, i2⟩ := h.ix hx.1
    rw [if_pos hx, if_neg (by decide), gi_i i2, i1, t2, bn_i (mf_below_n (by omega) y), hx.1, decide_eq_true hx.2, t4, Bool.true_and, Bool.true_and]
    by_cases hy : isG th y = true
    · rw [if_pos hy, if_neg (by decide)]; rfl
    · rw [if_neg hy, if_pos rfl]; rfl
  · rw [if_neg hx, if_pos rfl, if_neg (fun q => hx (by
      rw [Bool.and_eq_true, Bool.and_eq_true] at q
      exact ⟨q.1, of_decide_eq_true q.2.1⟩))]
    rfl
theorem mf_lies_eq {w : mW} {g a b B : Nat} (hg : g < 6) (ha : a < 12) (hb : b < 12) (h5 : w.2 5 (12 * g + a) = nI B) (hB : B < 4096) : mf_lies (nI g) (nI a) (nI b) w = some (if B.testBit b = true then 1 else 0) := by
  unfold mf_lies mf_placeOf
  rw [bn_i (show some (((12 : Int32) * nI g) + nI a) = some (nI (12 * g + a)) by rw [show (12 : Int32) * nI g = nI (12 * g) from pk_mul 12 g, nI_add]), gi_i (ii_ix (by omega) (by decide)), ii_cl (by omega), h5, ii_bit (by omega) (by omega)]
  by_cases e : B.testBit b = true
  · rw [if_pos e, if_pos (show nI 1 = (1 : Int32) from rfl), if_pos e]; rfl
  · rw [if_neg e, if_neg (show ¬ (nI 0 = (1 : Int32)) by decide), if_neg e]; rfl
theorem isT_t {n : Nat} {G : Nat → AG} {x y : Int32} (h : isT n G x y = true) : isG n x = true ∧ gk (G (ixN x)) = 1 ∧ isG (cn (gW (G (ixN x))) 15) y = true := by
  unfold isT at h
  rw [Bool.and_eq_true, Bool.and_eq_true] at h
  exact ⟨h.1, of_decide_eq_true h.2.1, h.2.2⟩
def a_isBelow (n : Nat) (G : Nat → AG) (x y z : Int32) : AR := (if isT n G x y = true ∧ isT n G x z = true then (if ixN y ≠ ixN z ∧ (gA (G (ixN x)) (ixN y)).testBit (ixN z) = true then 1 else 0) else -1001, n, G)
theorem orbit {A B t i : Nat} (hA : A = 2 ^ t ||| B) (hi : i ≠ t) : A.testBit i = B.testBit i := by
  rw [hA, Nat.testBit_or, Nat.testBit_two_pow, decide_eq_false (fun e => hi e.symm), Bool.false_or]
theorem MI.isBelow {n : Nat} {G : Nat → AG} {w : mW} (h : MI n G w) (x y z : Int32) : mf_isBelow x y z w = some (a_isBelow n G x y z).1 := by
  unfold mf_isBelow a_isBelow
  rw [bn_i (h.isThing x y)]
  by_cases hy : isT n G x y = true
  · rw [if_pos hy, if_neg (by decide), bn_i (h.isThing x z)]
    by_cases hz : isT n G x z = true
    · obtain ⟨p1, p2, p3⟩ := isT_t hy
      obtain ⟨-, -, p4⟩ := isT_t hz
      obtain ⟨h1, h2, h3, h4, h5⟩ := h.get p1
      obtain ⟨th, t1, t2, t3, t4, t5⟩ := h.ord p1 p2
      rw [t4] at p3 p4
      obtain ⟨y1, y2⟩ := isG_t p3
      obtain ⟨z1, z2⟩ := isG_t p4
      obtain ⟨B, b1, b2, b3, b4⟩ := t5 _ y1
      have hl : mf_lies x y z w = some (if B.testBit (ixN z) = true then 1 else 0) := by
        rw [← mf_lies_eq h3 (show ixN y < 12 by omega) (show ixN z < 12 by omega) b1 b2, ← h2, ← y2, ← z2]
      rw [if_pos hz, if_neg (by decide), bn_i hl, if_pos (⟨hy, hz⟩ : isT n G x y = true ∧ isT n G x z = true)]
      by_cases e : ixN y = ixN z
      · rw [← e, b4, if_pos (show (if (false = true) then (1 : Int32) else 0) = 0 from rfl), if_neg (fun q => q.1 rfl)]
      · have := orbit b3 (fun q => e q.symm)
        by_cases eb : B.testBit (ixN z) = true
        · rw [if_pos eb, if_neg (by decide), if_pos ⟨e, by rw [this]; exact eb⟩]
        · rw [if_neg eb, if_pos rfl, if_neg (fun q => eb (by rw [← this]; exact q.2))]
    · rw [if_neg hz, if_pos rfl, if_neg (fun q => hz q.2)]
  · rw [if_neg hy, if_pos rfl, if_neg (fun q => hy q.1)]
/-- all that a goes with, b goes with -/
def blA (A : Nat → Nat) (a b : Nat) : Nat → Nat := fun t => if (A t).testBit a = true then A t ||| A b else A t
def prs (A : Nat → Nat) (th : Nat) : Nat := sm (fun t => cn (A t) 15 - 1) th
def a_below (n : Nat) (G : Nat → AG) (x y z : Int32) : AR := if isT n G x y = true ∧ isT n G x z = true then (if ixN y = ixN z ∨ (gA (G (ixN x)) (ixN z)).testBit (ixN y) = true then (-1003, n, G) else (nI (prs (blA (gA (G (ixN x))) (ixN y) (ixN z)) (cn (gW (G (ixN x))) 15)), n, upG G (ixN x) (agn (G (ixN x)) (blA (gA (G (ixN x))) (ixN y) (ixN z)) (gW (G (ixN x)))))) else (-1001, n, G)
theorem or_bit_cn {t B : Nat} (hB : B.testBit t = false) : ∀ n, t < n → cn (2 ^ t ||| B) n = cn B n + 1
  | 0, h => by omega
  | n + 1, h => by
    show cn (2 ^ t ||| B) n + (if (2 ^ t ||| B).testBit n then 1 else 0) = cn B n + (if B.testBit n then 1 else 0) + 1
    rw [Nat.testBit_or, Nat.testBit_two_pow]
    by_cases e : t = n
    · subst e
      have : cn (2 ^ t ||| B) t = cn B t := cn_cong t (fun i hi => by rw [Nat.testBit_or, Nat.testBit_two_pow, decide_eq_false (by omega), Bool.false_or])
      rw [this, hB, decide_eq_true rfl]; rfl
    · rw [or_bit_cn hB n (by omega), decide_eq_false e, Bool.false_or]
      omega
theorem mf_below_loop {g a b th : Nat} {A : Nat → Nat} (hg : g < 6) (hth : th ≤ 12) (ha : a < th) (hb : b < th) (hab : (A b).testBit a = false) (hTr : ∀ t, t < th → (A t).testBit a = true → ∀ p, (A a).testBit p = true → (A t).testBit p = true) (hAb : A b < 4096) (hanti : ∀ t, t < th → (A b).testBit t = true → (A t).testBit a = false) : ∀ (d t m : Nat) (w : mW), d = th - t → t ≤ th → d < m → w.2 4 g = nI th → (∀ u, t ≤ u → u < th → ∃ B, w.2 5 (12 * g + u) = nI B ∧ B < 4096 ∧ A u = 2 ^ u ||| B ∧ B.testBit u = false) → (∀ u, u < t → ∃ B, w.2 5 (12 * g + u) = nI B ∧ B < 4096 ∧ blA A a b u = 2 ^ u ||| B ∧ B.testBit u = false) → ∃ w1, mf_below_C63 m (nI g) (nI a) (nI (A b)) (nI (prs (blA A a b) t)) (nI t) w = (bn (mf_again (nI g) w1) fun w2 => some (nI (prs (blA A a b) th), w2)) ∧ w1.1 = w.1 ∧ (∀ c, c ≠ 5 → w1.2 c = w.2 c) ∧ (∀ j, j ≠ g → MCell w w1 j) ∧ (∀ u, u < th → ∃ B, w1.2 5 (12 * g + u) = nI B ∧ B < 4096 ∧ blA A a b u = 2 ^ u ||| B ∧ B.testBit u = false)
  | d, t, 0, w, hd, ht, hm, _, _, _ => by omega
  | 0, t, m + 1, w, hd, ht, hm, h4, h5, h5' => by
    have e : t = th := by omega
    subst e
    refine ⟨w, ?_, rfl, fun _ _ => rfl, fun j _ => MCell.rf w j, h5'⟩
    rw [mf_below_C63, gi_i (ii_ix hg (by decide)), ii_cl (by omega), h4, if_pos ((nI_leI (by omega) (by omega)).mpr (Nat.le_refl _))]
  | d + 1, t, m + 1, w, hd, ht, hm, h4, h5, h5' => by
    obtain ⟨B, b1, b2, b3, b4⟩ := h5 t (Nat.le_refl t) (by omega)
    have hpl : mf_placeOf (nI g) (nI t) = some (nI (12 * g + t)) := by
      unfold mf_placeOf
      rw [show (12 : Int32) * nI g = nI (12 * g) from pk_mul 12 g, nI_add]
    -- behind the change of the place, the count
    have cnt : ∀ (w1 : mW) (B1 : Nat), w1.2 5 (12 * g + t) = nI B1 → B1 < 4096 → blA A a b t = 2 ^ t ||| B1 → B1.testBit t = false → mf_below_C107 (mf_below_C63 m) (nI g) (nI a) (nI (A b)) (nI (prs (blA A a b) t)) (nI t) w1 = mf_below_C63 m (nI g) (nI a) (nI (A b)) (nI (prs (blA A a b) (t + 1))) (nI (t + 1)) w1 := by
      intro w1 B1 k1 k2 k3 k4
      unfold mf_below_C107
      rw [bn_i hpl, gi_i (ii_ix (by omega) (by decide)), ii_cl (by omega), k1, bn_i (mf_bits_eq (show B1 < 2 ^ 15 by omega)), nm_i, nm_i, nI_add, nI_1]
      show _ = mf_below_C63 m (nI g) (nI a) (nI (A b)) (nI (prs (blA A a b) t + (cn (blA A a b t) 15 - 1))) (nI (t + 1)) w1
      rw [k3, or_bit_cn k4 15 (by omega), Nat.add_sub_cancel]
    rw [mf_below_C63, gi_i (ii_ix hg (by decide)), ii_cl (by omega), h4, if_neg (fun q => by
      have := (nI_leI (by omega) (by omega)).mp q
      omega)]
    have next : ∀ (w1 : mW) (B1 : Nat), w1.1 = w.1 → (∀ c, c ≠ 5 → w1.2 c = w.2 c) → (∀ j, j ≠ g → MCell w w1 j) → (∀ u, u < 12 → u ≠ t → w1.2 5 (12 * g + u) = w.2 5 (12 * g + u)) → w1.2 5 (12 * g + t) = nI B1 → B1 < 4096 → blA A a b t = 2 ^ t ||| B1 → B1.testBit t = false → ∃ w2, mf_below_C107 (mf_below_C63 m) (nI g) (nI a) (nI (A b)) (nI (prs (blA A a b) t)) (nI t) w1 = (bn (mf_again (nI g) w2) fun w3 => some (nI (prs (blA A a b) th), w3)) ∧ w2.1 = w.1 ∧ (∀ c, c ≠ 5 → w2.2 c = w.2 c) ∧ (∀ j, j ≠ g → MCell w w2 j) ∧ (∀ u, u < th → ∃ B, w2.2 5 (12 * g + u) = nI B ∧ B < 4096 ∧ blA A a b u = 2 ^ u ||| B ∧ B.testBit u = false) := by
      intro w1 B1 f0 f1 f2 f3 k1 k2 k3 k4
      obtain ⟨w2, g1, g2, g3, g4, g5⟩ := mf_below_loop hg hth ha hb hab hTr hAb hanti d (t + 1) m w1 (by omega) (by omega) (by omega) (by rw [f1 4 (by decide)]; exact h4) (fun u hu1 hu2 => by rw [f3 u (by omega) (by omega)]; exact h5 u (by omega) hu2) (fun u hu => by
        by_cases e : u = t
        · subst e; exact ⟨B1, k1, k2, k3, k4⟩
        · rw [f3 u (by omega) e]; exact h5' u (by omega))
      exact ⟨w2, (cnt w1 B1 k1 k2 k3 k4).trans g1, g2.trans f0, fun c hc => (g3 c hc).trans (f1 c hc), fun j hj => (f2 j hj).tr (g4 j hj), g5⟩
    -- the place is changed
    have chg : (A t).testBit a = true → ∃ w2, mf_below_C91 (mf_below_C63 m) (nI g) (nI a) (nI (A b)) (nI (prs (blA A a b) t)) (nI t) w = (bn (mf_again (nI g) w2) fun w3 => some (nI (prs (blA A a b) th), w3)) ∧ w2.1 = w.1 ∧ (∀ c, c ≠ 5 → w2.2 c = w.2 c) ∧ (∀ j, j ≠ g → MCell w w2 j) ∧ (∀ u, u < th → ∃ B, w2.2 5 (12 * g + u) = nI B ∧ B < 4096 ∧ blA A a b u = 2 ^ u ||| B ∧ B.testBit u = false) := by
      intro hta
      obtain ⟨w2, g1, g2⟩ := next (mU w 5 (12 * g + t) (nI (B ||| A b))) (B ||| A b) rfl (fun c hc => mU_ne w _ hc) (fun j hj => MCell.g5 hj (by omega)) (fun u hu hne => mU_ni w _ (by omega)) (mU_at w _ _ _) (Nat.or_lt_two_pow (n := 12) b2 hAb) (by
        unfold blA
        rw [if_pos hta, b3, Nat.or_assoc]) (by
        rw [Nat.testBit_or, b4, Bool.false_or]
        cases hbt : (A b).testBit t
        · rfl
        · have := hanti t (by omega) hbt
          rw [hta] at this; cases this)
      refine ⟨w2, ?_, g2⟩
      unfold mf_below_C91
      rw [bn_i hpl, gi_i (ii_ix (by omega) (by decide)), gi_i (ii_ix (by omega) (by decide)), ii_cl (by omega), b1, ii_or, nm_i]
      exact g1
    by_cases e : t = a
    · subst e
      rw [if_pos rfl]
      exact chg (by rw [b3, Nat.testBit_or, Nat.testBit_two_pow]; simp)
    · have hta := orbit b3 (fun q => e q.symm)
      rw [if_neg (ii_ne e (by omega) (by omega)), bn_i (mf_lies_eq hg (show t < 12 by omega) (show a < 12 by omega) b1 b2)]
      by_cases hbt : B.testBit a = true
      · rw [if_pos hbt, if_neg (by decide)]
        exact chg (hta.trans hbt)
      · rw [if_neg hbt, if_pos rfl]
        exact next w B rfl (fun _ _ => rfl) (fun j _ => MCell.rf w j) (fun _ _ _ => rfl) b1 b2 (by
          unfold blA
          rw [if_neg (by rw [hta]; exact hbt)]; exact b3) b4
theorem MI.below {n : Nat} {G : Nat → AG} {w : mW} (h : MI n G w) (x y z : Int32) : ∃ w', mf_below x y z w = some ((a_below n G x y z).1, w') ∧ MI (a_below n G x y z).2.1 (a_below n G x y z).2.2 w' := by
  unfold mf_below a_below
  rw [bn_i (h.isThing x y)]
  by_cases hy : isT n G x y = true
  · rw [if_pos hy, if_neg (by decide), bn_i (h.isThing x z)]
    by_cases hz : isT n G x z = true
    · obtain ⟨p1, p2, p3⟩ := isT_t hy
      obtain ⟨-, -, p4⟩ := isT_t hz
      obtain ⟨h1, h2, h3, h4, h5⟩ := h.get p1
      obtain ⟨i1, i2⟩ := h.ix p1
      obtain ⟨m1, m2, m3, m4, m5⟩ := id h5
      obtain ⟨k1, k2, k3, k4, k5, k6, k7, k8, k9⟩ := id h4
      obtain ⟨th, t1, t2, t3, t4, t5⟩ := h.ord p1 p2
      rw [t4] at p3 p4 ⊢
      obtain ⟨y1, y2⟩ := isG_t p3
      obtain ⟨z1, z2⟩ := isG_t p4
      obtain ⟨B, b1, b2, b3, b4⟩ := t5 _ z1
      have hl : mf_lies x z y w = some (if B.testBit (ixN y) = true then 1 else 0) := by
        rw [← mf_lies_eq h3 (show ixN z < 12 by omega) (show ixN y < 12 by omega) b1 b2, ← h2, ← y2, ← z2]
      rw [if_pos hz, if_neg (by decide), if_pos (⟨hy, hz⟩ : isT n G x y = true ∧ isT n G x z = true)]
      by_cases e : ixN y = ixN z
      · have eyz : y = z := by rw [y2, z2, e]
        refine ⟨w, ?_, by rw [if_pos (Or.inl e)]; exact h⟩
        rw [if_pos eyz, if_pos (Or.inl e)]
      · have eyz : ¬ y = z := fun q => e (by rw [q])
        have hob := orbit b3 e
        rw [if_neg eyz, bn_i hl]
        by_cases eb : B.testBit (ixN y) = true
        · refine ⟨w, ?_, by rw [if_pos (Or.inr (hob.trans eb))]; exact h⟩
          rw [if_pos eb, if_neg (by decide), if_pos (Or.inr (hob.trans eb))]
        · have hno : ¬ (ixN y = ixN z ∨ (gA (G (ixN x)) (ixN z)).testBit (ixN y) = true) := by
            rintro (q | q)
            · exact e q
            · exact eb (hob ▸ q)
          have hab : (gA (G (ixN x)) (ixN z)).testBit (ixN y) = false := Bool.eq_false_iff.mpr (fun q => hno (Or.inr q))
          have hbitW : ∀ i, (gW (G (ixN x))).testBit i = decide (i < th) := fun i => by rw [t3, Nat.testBit_two_pow_sub_one]
          have hkne : gk (G (ixN x)) ≠ 0 := by omega
          have hW : ∀ t, t < th → (gW (G (ixN x))).testBit t = true := fun t ht => by rw [hbitW]; exact decide_eq_true ht
          have hAb : gA (G (ixN x)) (ixN z) < 4096 := by
            rw [b3]
            have : 2 ^ ixN z < 2 ^ 12 := Nat.pow_lt_pow_right (by decide) (by omega)
            exact Nat.or_lt_two_pow (n := 12) this b2
          obtain ⟨w1, g1, g2, g3, g4, g5⟩ := mf_below_loop (A := gA (G (ixN x))) h3 t1 y1 z1 hab (fun t ht hta p hp => (k4 hkne t (hW t ht) _ hta).2 p hp) hAb (fun t ht hbt => by
            cases hta : (gA (G (ixN x)) t).testBit (ixN y)
            · rfl
            · have := (k4 hkne _ (hW _ z1) t hbt).2 _ hta
              rw [hab] at this; cases this) th 0 fu w rfl (Nat.zero_le _) (fu_gt (by omega)) t2 (fun u _ hu => t5 u hu) (fun u hu => absurd hu (Nat.not_lt_zero u))
          obtain ⟨w2, a1, a2, a3⟩ := h.again (w1 := w1) (A := blA (gA (G (ixN x))) (ixN y) (ixN z)) (W := gW (G (ixN x))) h1 g2 (fun j _ hj => g4 j hj) (fun c hc => g3 c (by omega)) ⟨by rw [g3 1 (by decide)]; exact m1.1, Or.inr (Or.inl ⟨p2, th, t1, by rw [g3 4 (by decide)]; exact t2, t3, g5⟩)⟩ (by rw [g3 2 (by decide)]) hkne (fun hk q hq => by
            unfold blA
            split
            · rw [Nat.testBit_or, k3 hk q hq]; rfl
            · exact k3 hk q hq) (fun hk q hq => by
            have hqt : q < th := by rw [hbitW] at hq; exact of_decide_eq_true hq
            intro p hp
            have hsub : ∀ v, (gA (G (ixN x)) q).testBit v = true → (blA (gA (G (ixN x))) (ixN y) (ixN z) q).testBit v = true := fun v hv => by
              unfold blA
              split
              · rw [Nat.testBit_or, hv]; rfl
              · exact hv
            have hpp : (gA (G (ixN x)) q).testBit p = true ∨ ((gA (G (ixN x)) q).testBit (ixN y) = true ∧ (gA (G (ixN x)) (ixN z)).testBit p = true) := by
              unfold blA at hp
              split at hp
              · rename_i hc
                rw [Nat.testBit_or, Bool.or_eq_true] at hp
                rcases hp with r | r
                · exact Or.inl r
                · exact Or.inr ⟨hc, r⟩
              · exact Or.inl hp
            have hbig : (gA (G (ixN x)) q).testBit (ixN y) = true → ∀ v, (gA (G (ixN x)) (ixN z)).testBit v = true → (blA (gA (G (ixN x))) (ixN y) (ixN z) q).testBit v = true := fun hc v hv => by
              unfold blA
              rw [if_pos hc, Nat.testBit_or, hv, Bool.or_true]
            rcases hpp with r | ⟨rc, r⟩
            · obtain ⟨s1, s2⟩ := k4 hk q hq p r
              refine ⟨s1, fun v hv => ?_⟩
              unfold blA at hv
              split at hv
              · rename_i hc
                rw [Nat.testBit_or, Bool.or_eq_true] at hv
                rcases hv with u | u
                · exact hsub v (s2 v u)
                · exact hbig (s2 _ hc) v u
              · exact hsub v (s2 v hv)
            · obtain ⟨s1, s2⟩ := k4 hk _ (hW _ z1) p r
              refine ⟨s1, fun v hv => ?_⟩
              unfold blA at hv
              split at hv
              · rename_i hc
                have := s2 _ hc
                rw [hab] at this; cases this
              · exact hbig rc v (s2 v hv))
          rw [← h2] at a1 g1
          refine ⟨w2, ?_, by rw [if_neg hno]; exact a2⟩
          have hpl : mf_placeOf x z = some (nI (12 * ixN x + ixN z)) := by
            unfold mf_placeOf
            rw [show (12 : Int32) * x = nI (12 * ixN x) by
              conv => lhs; rw [h2]
              exact pk_mul 12 _]
            conv => lhs; rw [z2]
            rw [nI_add]
          have eall : ((1 : Int32) <<< (z &&& 31)) ||| nI B = nI (gA (G (ixN x)) (ixN z)) := by
            conv => lhs; rw [z2]
            rw [ii_one (by omega), ii_or, ← b3]
          rw [if_neg eb, if_pos rfl, if_neg hno, bn_i hpl, gi_i (ii_ix (by omega) (by decide)), ii_cl (by omega), b1, eall, nm_i]
          rw [← y2] at g1
          refine Eq.trans g1 ?_
          rw [bn_i a1]
    · refine ⟨w, ?_, by rw [if_neg (fun q => hz q.2)]; exact h⟩
      rw [if_neg hz, if_pos rfl, if_neg (fun q => hz q.2)]
  · refine ⟨w, ?_, by rw [if_neg (fun q => hy q.1)]; exact h⟩
    rw [if_neg hy, if_pos rfl, if_neg (fun q => hy q.1)]
