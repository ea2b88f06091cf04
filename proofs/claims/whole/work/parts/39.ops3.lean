/-! ===== the reference: plays ===== -/
theorem ii_ne {n m : Nat} (h : n ≠ m) (hn : n < 2 ^ 31) (hm : m < 2 ^ 31) : ¬ (nI n = nI m) := fun e => h ((nI_eq hn hm).mp e)
/-- the state that bite i leaves -/
noncomputable def nxt (x : AG) (i : Nat) : Nat := @dite _ (∃ t, Nth (gk x) (gA x) (gW x) (gs x) i t) (Classical.propDecidable _) (fun h => Classical.choose h) (fun _ => 0)
theorem nxt_eq {x : AG} {i t : Nat} (h : Nth (gk x) (gA x) (gW x) (gs x) i t) : nxt x i = t := by
  have he : ∃ t, Nth (gk x) (gA x) (gW x) (gs x) i t := ⟨t, h⟩
  have e : nxt x i = Classical.choose he := dif_pos he
  rw [e]
  exact (Classical.choose_spec he).uniq h
theorem nxt_nth {x : AG} {i : Nat} (h : i < nb (gk x) (gW x) (gs x)) : Nth (gk x) (gA x) (gW x) (gs x) i (nxt x i) := by
  obtain ⟨t, ht⟩ := Nth.ex (gk x) (gA x) (gW x) h
  rw [nxt_eq ht]; exact ht
theorem GOk.nxt {x : AG} (h : GOk x) {i : Nat} (hi : i < nb (gk x) (gW x) (gs x)) : St (gk x) (gA x) (gW x) (nxt x i) ∧ nxt x i ≤ gW x ∧ nxt x i < 32768 := by
  obtain ⟨k1, k2, k3, k4, k5, k6, k7, k8, k9⟩ := h
  have h1 := k7.nth k3 k4 (nxt_nth hi)
  have h2 := h1.le k6
  exact ⟨h1, h2, by omega⟩
noncomputable def doB (x : AG) (i : Nat) : AG := (gk x, gr x, nxt x i, gd_ x + 1, gW x, gA x, (fun j => if j = gd_ x then i else gbi x j), (fun j => if j = gd_ x then gs x else gbe x j))
theorem GOk.doB {x : AG} (h : GOk x) {i : Nat} (hi : i < nb (gk x) (gW x) (gs x)) (hd : gd_ x < 100) : GOk (doB x i) := by
  have hn := h.nxt hi
  obtain ⟨k1, k2, k3, k4, k5, k6, k7, k8, k9⟩ := h
  refine ⟨k1, k2, k3, k4, k5, k6, hn.1, hd, fun j hj => ?_⟩
  show (if j = gd_ x then i else gbi x j) < 49 ∧ St (gk x) (gA x) (gW x) (if j = gd_ x then gs x else gbe x j)
  have hj' : j < gd_ x + 1 := hj
  by_cases e : j = gd_ x
  · rw [if_pos e, if_pos e]
    have := nb_le49 (gk x) (gW x) (gs x)
    exact ⟨by omega, k7⟩
  · rw [if_neg e, if_neg e]
    exact k9 j (by omega)
theorem MI.done {n : Nat} {G : Nat → AG} {w : mW} (h : MI n G w) {g i : Nat} (hg : g < n) (hi : i < nb (gk (G g)) (gW (G g)) (gs (G g))) (hd : gd_ (G g) < 100) (h16 : w.2 16 i = nI (nxt (G g) i)) : ∃ w', mf_done (nI g) (nI i) w = some (nI (nxt (G g) i), w') ∧ MI n (upG G g (doB (G g) i)) w' := by
  have h6 := h.1
  have hgok := (h.2.2.1 _ hg).1
  obtain ⟨m1, m2, m3, m4, m5⟩ := (h.2.2.1 _ hg).2
  have h49 := nb_le49 (gk (G g)) (gW (G g)) (gs (G g))
  have hg6 : g < 6 := by omega
  -- the worlds
  generalize e1 : mU w 11 (100 * g + gd_ (G g)) (nI (gs (G g))) = w1
  generalize e2 : mU w1 10 (100 * g + gd_ (G g)) (nI i) = w2
  generalize e3 : mU w2 9 g (nI (gd_ (G g) + 1)) = w3
  generalize e4 : mU w3 3 g (nI (nxt (G g) i)) = w4
  have f1 : ∀ c, c ≠ 11 → w1.2 c = w.2 c := fun c hc => by rw [← e1]; exact mU_ne w _ hc
  have f2 : ∀ c, c ≠ 10 → w2.2 c = w1.2 c := fun c hc => by rw [← e2]; exact mU_ne w1 _ hc
  have f3 : ∀ c, c ≠ 9 → w3.2 c = w2.2 c := fun c hc => by rw [← e3]; exact mU_ne w2 _ hc
  have f4 : ∀ c, c ≠ 3 → w4.2 c = w3.2 c := fun c hc => by rw [← e4]; exact mU_ne w3 _ hc
  have fall : ∀ c, c ≠ 11 → c ≠ 10 → c ≠ 9 → c ≠ 3 → w4.2 c = w.2 c := fun c a b d e => by rw [f4 c e, f3 c d, f2 c b, f1 c a]
  refine ⟨w4, ?_, ?_⟩
  · unfold mf_done
    rw [gi_i (ii_ix hg6 (by decide)), ii_cl (by omega), m4, show (100 : Int32) * nI g = nI (100 * g) from pk_mul 100 g, nI_add, nm_i, gi_i (ii_ix hg6 (by decide)), gi_i (ii_ix (by omega) (by decide)), ii_cl (by omega), m3, e1, nm_i, gi_i (ii_ix (by omega) (by decide)), e2, nm_i, gi_i (ii_ix hg6 (by decide)), gi_i (ii_ix hg6 (by decide)), f2 9 (by decide), f1 9 (by decide), m4, nI_1, e3, nm_i, gi_i (ii_ix (show i < 49 by omega) (by decide)), gi_i (ii_ix hg6 (by decide)), ii_cl (show i < 2 ^ 31 by omega), f3 16 (by decide), f2 16 (by decide), f1 16 (by decide), h16, e4, nm_i, gi_i (ii_ix hg6 (by decide))]
    rw [← e4, mU_at]
  · refine h.put hg ?_ (fun j hj hne => ?_) (hgok.doB hi hd) ⟨m1.keep6 (fall 1 (by decide) (by decide) (by decide) (by decide)) (fall 4 (by decide) (by decide) (by decide) (by decide)) (fall 5 (by decide) (by decide) (by decide) (by decide)) (fall 6 (by decide) (by decide) (by decide) (by decide)) (fall 7 (by decide) (by decide) (by decide) (by decide)) (fall 8 (by decide) (by decide) (by decide) (by decide)), ?_, ?_, ?_, fun j hj => ?_⟩ (h.cache ?_ (fall 12 (by decide) (by decide) (by decide) (by decide)) (fall 13 (by decide) (by decide) (by decide) (by decide)) (fall 14 (by decide) (by decide) (by decide) (by decide)) ⟨rfl, rfl, rfl, rfl⟩)
    · rw [← e4, ← e3, ← e2, ← e1]; rfl
    · rw [← e4, ← e3, ← e2, ← e1]
      exact (((MCell.g10 (Or.inr rfl) hne (by omega)).tr (MCell.g10 (Or.inl rfl) hne (by omega))).tr (MCell.g1 hne (by decide))).tr (MCell.g1 hne (by decide))
    · rw [fall 2 (by decide) (by decide) (by decide) (by decide)]; exact m2
    · rw [← e4, mU_at]; rfl
    · rw [f4 9 (by decide), ← e3, mU_at]; rfl
    · have hj' : j < gd_ (G g) + 1 := hj
      rw [f4 10 (by decide), f3 10 (by decide), f4 11 (by decide), f3 11 (by decide), f2 11 (by decide)]
      show w2.2 10 (100 * g + j) = nI (if j = gd_ (G g) then i else gbi (G g) j) ∧ w1.2 11 (100 * g + j) = nI (if j = gd_ (G g) then gs (G g) else gbe (G g) j)
      by_cases e : j = gd_ (G g)
      · subst e
        rw [if_pos rfl, if_pos rfl, ← e2, ← e1, mU_at, mU_at]
        exact ⟨rfl, rfl⟩
      · rw [if_neg e, if_neg e, ← e2, mU_ni w1 _ (by omega), f1 10 (by decide), ← e1, mU_ni w _ (by omega)]
        exact m5 j (by omega)
    · rw [← e4, ← e3, ← e2, ← e1]; rfl
noncomputable def a_play (n : Nat) (G : Nat → AG) (x y : Int32) : AR := if isG n x then (if isG (nb (gk (G (ixN x))) (gW (G (ixN x))) (gs (G (ixN x)))) y then (if gd_ (G (ixN x)) = 100 then (-1004, n, G) else (nI (nxt (G (ixN x)) (ixN y)), n, upG G (ixN x) (doB (G (ixN x)) (ixN y)))) else (-1003, n, G)) else (-1001, n, G)
theorem MI.play {n : Nat} {G : Nat → AG} {w : mW} (h : MI n G w) (x y : Int32) : ∃ w', mf_play x y w = some ((a_play n G x y).1, w') ∧ MI (a_play n G x y).2.1 (a_play n G x y).2.2 w' := by
  unfold mf_play a_play
  rw [bn_i (h.isGame x)]
  by_cases hx : isG n x = true
  · obtain ⟨h1, h2, h3, h4, h5⟩ := h.get hx
    obtain ⟨w1, a1, a2, a3, a4⟩ := h.bites h1
    have h49 := nb_le49 (gk (G (ixN x))) (gW (G (ixN x))) (gs (G (ixN x)))
    have hd := h4.2.2.2.2.2.2.2.1
    have m4 := (a2.2.2.1 _ h1).2.2.2.2.1
    have a1' : mf_bitesOf x w = some (nI (nb (gk (G (ixN x))) (gW (G (ixN x))) (gs (G (ixN x)))), w1) := by
      rw [← a1]; exact congrArg (fun z => mf_bitesOf z w) h2
    rw [if_pos hx, if_neg (by decide), bn2_i a1', bn_i (mf_below_n (by omega) y), if_pos hx]
    by_cases hy : isG (nb (gk (G (ixN x))) (gW (G (ixN x))) (gs (G (ixN x)))) y = true
    · obtain ⟨y1, y2⟩ := isG_t hy
      rw [if_pos hy, if_neg (by decide), gi_i (h.ix hx).2, (h.ix hx).1, m4, if_pos hy]
      by_cases e : gd_ (G (ixN x)) = 100
      · refine ⟨w1, ?_, by rw [if_pos e]; exact a2⟩
        rw [if_pos (show nI (gd_ (G (ixN x))) = (100 : Int32) by rw [e]; rfl), if_pos e]
      · obtain ⟨w', b1, b2⟩ := a2.done h1 y1 (by omega) (a4 _ _ (nxt_nth y1))
        have b1' : mf_done x y w1 = some (nI (nxt (G (ixN x)) (ixN y)), w') := by
          rw [← b1, ← h2, ← y2]
        refine ⟨w', ?_, by rw [if_neg e]; exact b2⟩
        rw [if_neg (show ¬ (nI (gd_ (G (ixN x))) = (100 : Int32)) from ii_ne (m := 100) e (by omega) (by decide)), bn2_i b1', if_neg e]
    · refine ⟨w1, ?_, by rw [if_neg hy]; exact a2⟩
      rw [if_neg hy, if_pos rfl, if_neg hy]
  · refine ⟨w, ?_, by rw [if_neg hx]; exact h⟩
    rw [if_neg hx, if_pos rfl, if_neg hx]
def undoB (x : AG) : AG := (gk x, gr x, gbe x (gd_ x - 1), gd_ x - 1, x.2.2.2.2)
def a_back (n : Nat) (G : Nat → AG) (x : Int32) : AR := if isG n x then (if gd_ (G (ixN x)) = 0 then (-1003, n, G) else (nI (gd_ (G (ixN x)) - 1), n, upG G (ixN x) (undoB (G (ixN x))))) else (-1001, n, G)
theorem MI.back {n : Nat} {G : Nat → AG} {w : mW} (h : MI n G w) (x : Int32) : ∃ w', mf_back x w = some ((a_back n G x).1, w') ∧ MI (a_back n G x).2.1 (a_back n G x).2.2 w' := by
  unfold mf_back a_back
  rw [bn_i (h.isGame x)]
  by_cases hx : isG n x = true
  · obtain ⟨h1, h2, h3, h4, h5⟩ := h.get hx
    obtain ⟨m1, m2, m3, m4, m5⟩ := id h5
    have hd := h4.2.2.2.2.2.2.2.1
    rw [if_pos hx, if_neg (by decide), gi_i (h.ix hx).2, (h.ix hx).1, m4, if_pos hx]
    by_cases e : gd_ (G (ixN x)) = 0
    · refine ⟨w, ?_, by rw [if_pos e]; exact h⟩
      rw [if_pos (show nI (gd_ (G (ixN x))) = (0 : Int32) by rw [e]; rfl), if_pos e]
    · rw [if_neg (ii_ne0 e (by omega)), if_neg e, gi_i (h.ix hx).2, gi_i (h.ix hx).2, nm_i, gi_i (h.ix hx).2, show nI (gd_ (G (ixN x))) - (1 : Int32) = nI (gd_ (G (ixN x)) - 1) from ii_sub (b := 1) (by omega)]
      generalize e1 : mU w 9 (ixN x) (nI (gd_ (G (ixN x)) - 1)) = w1
      have f1 : ∀ c, c ≠ 9 → w1.2 c = w.2 c := fun c hc => by rw [← e1]; exact mU_ne w _ hc
      have h9 : w1.2 9 (ixN x) = nI (gd_ (G (ixN x)) - 1) := by rw [← e1, mU_at]
      have e0 : (100 : Int32) * x = nI (100 * ixN x) := by
        conv => lhs; rw [h2]
        exact pk_mul 100 _
      rw [h9, e0, nI_add, gi_i (ii_ix (by omega) (by decide)), ii_cl (by omega), gi_i (h.ix hx).2, f1 11 (by decide), (m5 _ (by omega)).2, nm_i, gi_i (h.ix hx).2]
      generalize e2 : mU w1 3 (ixN x) (nI (gbe (G (ixN x)) (gd_ (G (ixN x)) - 1))) = w2
      have f2 : ∀ c, c ≠ 3 → w2.2 c = w1.2 c := fun c hc => by rw [← e2]; exact mU_ne w1 _ hc
      have fall : ∀ c, c ≠ 9 → c ≠ 3 → w2.2 c = w.2 c := fun c a b => by rw [f2 c b, f1 c a]
      refine ⟨w2, by rw [f2 9 (by decide), h9], ?_⟩
      refine h.put h1 ?_ (fun j hj hne => ?_) ?_ ⟨m1.keep6 (fall 1 (by decide) (by decide)) (fall 4 (by decide) (by decide)) (fall 5 (by decide) (by decide)) (fall 6 (by decide) (by decide)) (fall 7 (by decide) (by decide)) (fall 8 (by decide) (by decide)), ?_, ?_, ?_, fun j hj => ?_⟩ (h.cache ?_ (fall 12 (by decide) (by decide)) (fall 13 (by decide) (by decide)) (fall 14 (by decide) (by decide)) ⟨rfl, rfl, rfl, rfl⟩)
      · rw [← e2, ← e1]; rfl
      · rw [← e2, ← e1]
        exact (MCell.g1 hne (by decide)).tr (MCell.g1 hne (by decide))
      · obtain ⟨k1, k2, k3, k4, k5, k6, k7, k8, k9⟩ := h4
        refine ⟨k1, k2, k3, k4, k5, k6, (k9 _ (by omega)).2, ?_, fun j hj => ?_⟩
        · show gd_ (G (ixN x)) - 1 ≤ 100; omega
        · have : j < gd_ (G (ixN x)) - 1 := hj
          exact k9 j (by omega)
      · rw [fall 2 (by decide) (by decide)]; exact m2
      · rw [← e2, mU_at]; rfl
      · rw [f2 9 (by decide), h9]; rfl
      · have : j < gd_ (G (ixN x)) - 1 := hj
        rw [fall 10 (by decide) (by decide), fall 11 (by decide) (by decide)]
        exact m5 j (by omega)
      · rw [← e2, ← e1]; rfl
  · refine ⟨w, ?_, by rw [if_neg hx]; exact h⟩
    rw [if_neg hx, if_pos rfl, if_neg hx]
