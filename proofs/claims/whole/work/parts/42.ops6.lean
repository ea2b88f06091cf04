/-! ===== the reference: new games ===== -/
theorem MI.push {n : Nat} {G : Nat → AG} {w w' : mW} (h : MI n G w) {x : AG} (hn : n < 6) (h0 : w'.1 0 = nI (n + 1)) (hc : ∀ j, j < n → MCell w w' j) (hx : GOk x) (hm : MGame w' n x) (h1 : w'.1 1 = (-1) ∨ (w'.1 1 = w.1 1 ∧ w'.2 12 = w.2 12 ∧ w'.2 13 = w.2 13 ∧ w'.2 14 = w.2 14)) : MI (n + 1) (upG G n x) w' := by
  obtain ⟨a1, a2, a3, a4⟩ := h
  refine ⟨by omega, h0, fun j hj => ?_, ?_⟩
  · by_cases e : j = n
    · subst e; rw [upG_at]; exact ⟨hx, hm⟩
    · rw [upG_ne G x e]
      exact ⟨(a3 j (by omega)).1, (a3 j (by omega)).2.cell (a3 j (by omega)).1.2.2.2.2.2.2.2.1 (hc j (by omega))⟩
  · rcases h1 with h1 | ⟨h1, h12, h13, h14⟩
    · exact Or.inl h1
    · rw [h1]
      rcases a4 with a4 | ⟨j, b1, b2, b3⟩
      · exact Or.inl a4
      · exact Or.inr ⟨j, by omega, b2, by rw [upG_ne G x (by omega)]; exact b3.tab h12 h13 h14⟩
def newG (k r : Nat) : AG := (k, r, 0, 0, (if k = 0 then 3431 else 0), (fun q => 2 ^ q), (fun _ => 0), (fun _ => 0))
theorem newG_ok {k r : Nat} (hk : k ≤ 2) (hr : r < 2) : GOk (newG k r) := by
  refine ⟨hk, hr, fun _ q _ => ?_, fun h q hq => ?_, ?_, fun h => if_pos h, ?_, Nat.zero_le _, fun i hi => absurd hi (Nat.not_lt_zero i)⟩
  · show (2 ^ q).testBit q = true
    rw [Nat.testBit_two_pow]; simp
  · have : (if k = 0 then 3431 else 0) = 0 := if_neg h
    have hq' : (if k = 0 then 3431 else 0).testBit q = true := hq
    rw [this, Nat.zero_testBit] at hq'; cases hq'
  · show (if k = 0 then 3431 else 0) < 32768
    split <;> omega
  · show St k _ (if k = 0 then 3431 else 0) 0
    unfold St
    split
    · decide
    · refine ⟨fun q hq => ?_, fun q hq _ => ?_⟩
      · rw [Nat.zero_testBit] at hq; cases hq
      · rw [Nat.zero_testBit] at hq; cases hq
/-- the world behind a fresh game: its cells are set, all else stands -/
theorem MI.fresh {n : Nat} {G : Nat → AG} {w : mW} (h : MI n G w) (hn : n < 6) {k r : Nat} (hk : k ≤ 2) (hr : r < 2) : ∃ w', mf_fresh (nI k) (nI r) w = some (nI n, w') ∧ MI (n + 1) (upG G n (newG k r)) w' ∧ ∀ c, 12 ≤ c → w'.2 c = w.2 c := by
  have h0 := h.2.1
  have hix : vp_in (nI n) 6 := ii_ix hn (by decide)
  generalize e1 : mU w 1 n (nI k) = w1
  generalize e2 : mU w1 2 n (nI r) = w2
  generalize e3 : mU w2 3 n (0 : Int32) = w3
  generalize e4 : mU w3 4 n (0 : Int32) = w4
  generalize e5 : mU w4 6 n (0 : Int32) = w5
  generalize e6 : mU w5 7 n (0 : Int32) = w6
  generalize e7 : mU w6 9 n (0 : Int32) = w7
  have f1 : ∀ c, c ≠ 1 → w1.2 c = w.2 c := fun c hc => by rw [← e1]; exact mU_ne w _ hc
  have f2 : ∀ c, c ≠ 2 → w2.2 c = w1.2 c := fun c hc => by rw [← e2]; exact mU_ne w1 _ hc
  have f3 : ∀ c, c ≠ 3 → w3.2 c = w2.2 c := fun c hc => by rw [← e3]; exact mU_ne w2 _ hc
  have f4 : ∀ c, c ≠ 4 → w4.2 c = w3.2 c := fun c hc => by rw [← e4]; exact mU_ne w3 _ hc
  have f5 : ∀ c, c ≠ 6 → w5.2 c = w4.2 c := fun c hc => by rw [← e5]; exact mU_ne w4 _ hc
  have f6 : ∀ c, c ≠ 7 → w6.2 c = w5.2 c := fun c hc => by rw [← e6]; exact mU_ne w5 _ hc
  have f7 : ∀ c, c ≠ 9 → w7.2 c = w6.2 c := fun c hc => by rw [← e7]; exact mU_ne w6 _ hc
  have s7 : w7.1 = w.1 := by rw [← e7, ← e6, ← e5, ← e4, ← e3, ← e2, ← e1]; rfl
  have key : ∀ t1 : Int32, (t1 = -1 ∨ t1 = w.1 1) → MI (n + 1) (upG G n (newG k r)) (mS (mS w7 1 t1) 0 (nI (n + 1))) ∧ ∀ c, 12 ≤ c → (mS (mS w7 1 t1) 0 (nI (n + 1))).2 c = w.2 c := by
    intro t1 ht
    have hi : ∀ c, 12 ≤ c → w7.2 c = w.2 c := fun c hc => by rw [f7 c (by omega), f6 c (by omega), f5 c (by omega), f4 c (by omega), f3 c (by omega), f2 c (by omega), f1 c (by omega)]
    refine ⟨h.push hn rfl (fun j hj => ?_) (newG_ok hk hr) ?_ ?_, hi⟩
    · show MCell w w7 j
      have hne : j ≠ n := by omega
      rw [← e7, ← e6, ← e5, ← e4, ← e3, ← e2, ← e1]
      exact ((((((MCell.g1 hne (by decide)).tr (MCell.g1 hne (by decide))).tr (MCell.g1 hne (by decide))).tr (MCell.g1 hne (by decide))).tr (MCell.g1 hne (by decide))).tr (MCell.g1 hne (by decide))).tr (MCell.g1 hne (by decide))
    · have c1 : w7.2 1 n = nI k := by rw [f7 1 (by decide), f6 1 (by decide), f5 1 (by decide), f4 1 (by decide), f3 1 (by decide), f2 1 (by decide), ← e1, mU_at]
      have c2 : w7.2 2 n = nI r := by rw [f7 2 (by decide), f6 2 (by decide), f5 2 (by decide), f4 2 (by decide), f3 2 (by decide), ← e2, mU_at]
      have c3 : w7.2 3 n = nI 0 := by rw [f7 3 (by decide), f6 3 (by decide), f5 3 (by decide), f4 3 (by decide), ← e3, mU_at]; rfl
      have c4 : w7.2 4 n = nI 0 := by rw [f7 4 (by decide), f6 4 (by decide), f5 4 (by decide), ← e4, mU_at]; rfl
      have c6 : w7.2 6 n = nI 0 := by rw [f7 6 (by decide), f6 6 (by decide), ← e5, mU_at]; rfl
      have c7 : w7.2 7 n = nI 0 := by rw [f7 7 (by decide), ← e6, mU_at]; rfl
      have c9 : w7.2 9 n = nI 0 := by rw [← e7, mU_at]; rfl
      refine ⟨⟨c1, ?_⟩, c2, c3, c9, fun i hi => absurd hi (Nat.not_lt_zero i)⟩
      rcases (show k = 0 ∨ k = 1 ∨ k = 2 by omega) with rfl | rfl | rfl
      · exact Or.inl ⟨rfl, rfl⟩
      · exact Or.inr (Or.inl ⟨rfl, 0, by decide, c4, rfl, fun t ht => absurd ht (Nat.not_lt_zero t)⟩)
      · refine Or.inr (Or.inr ⟨rfl, 0, 0, fun _ => 0, fun _ => 0, by decide, by decide, c6, c7, rfl, fun j hj => absurd hj (Nat.not_lt_zero j), fun q _ => rfl, fun j _ => rfl⟩)
    · rcases ht with rfl | rfl
      · exact Or.inl rfl
      · exact Or.inr ⟨rfl, hi 12 (by decide), hi 13 (by decide), hi 14 (by decide)⟩
  unfold mf_fresh
  rw [h0, nm_i, gi_i hix, ii_cl (by omega), e1, nm_i, gi_i hix, e2, nm_i, gi_i hix, e3, nm_i, gi_i hix, e4, nm_i, gi_i hix, e5, nm_i, gi_i hix, e6, nm_i, gi_i hix, e7, nm_i, s7]
  have fin : ∀ t1 : Int32, mf_fresh_C71 (nI n) t1 w7 = some (nI n, mS (mS w7 1 t1) 0 (nI (n + 1))) := by
    intro t1
    unfold mf_fresh_C71
    show some (nI n, mS (mS w7 1 t1) 0 (w7.1 0 + (1 : Int32))) = _
    rw [s7, h0, nI_1]
  by_cases e : w.1 1 = nI n
  · rw [if_pos e, fin]
    exact ⟨_, rfl, key (-1) (Or.inl rfl)⟩
  · rw [if_neg e, fin]
    exact ⟨_, rfl, key (w.1 1) (Or.inr rfl)⟩
def a_new (k : Nat) (n : Nat) (G : Nat → AG) (y : Int32) : AR := if rng 0 1 y then (if n = 6 then (-1004, n, G) else (nI n, n + 1, upG G n (newG k (ixN y)))) else (-1002, n, G)
theorem MI.order {n : Nat} {G : Nat → AG} {w : mW} (h : MI n G w) (y : Int32) : ∃ w', mf_order y w = some ((a_new 1 n G y).1, w') ∧ MI (a_new 1 n G y).2.1 (a_new 1 n G y).2.2 w' := by
  unfold mf_order a_new
  rw [bn_i (mf_isRule_eq y)]
  have h6 := h.1
  by_cases hy : rng 0 1 y = true
  · obtain ⟨j, y1, y2, y3, y4⟩ := rng_t hy
    rw [if_pos hy, if_neg (by decide), h.2.1, if_pos hy]
    by_cases e : n = 6
    · refine ⟨w, ?_, by rw [if_pos e]; exact h⟩
      rw [if_pos (show nI n = (6 : Int32) by rw [e]; rfl), if_pos e]
    · obtain ⟨w', a1, a2, -⟩ := h.fresh (show n < 6 by omega) (show 1 ≤ 2 by decide) (show j < 2 by omega)
      refine ⟨w', ?_, by rw [if_neg e, y4]; exact a2⟩
      rw [if_neg (show ¬ (nI n = (6 : Int32)) from ii_ne (m := 6) e (by omega) (by decide)), if_neg e, y3, show (1 : Int32) = nI 1 from rfl, bn2_i a1]
  · refine ⟨w, ?_, by rw [if_neg hy]; exact h⟩
    rw [if_neg hy, if_pos rfl, if_neg hy]
theorem MI.net {n : Nat} {G : Nat → AG} {w : mW} (h : MI n G w) (y : Int32) : ∃ w', mf_net y w = some ((a_new 2 n G y).1, w') ∧ MI (a_new 2 n G y).2.1 (a_new 2 n G y).2.2 w' := by
  unfold mf_net a_new
  rw [bn_i (mf_isRule_eq y)]
  have h6 := h.1
  by_cases hy : rng 0 1 y = true
  · obtain ⟨j, y1, y2, y3, y4⟩ := rng_t hy
    rw [if_pos hy, if_neg (by decide), h.2.1, if_pos hy]
    by_cases e : n = 6
    · refine ⟨w, ?_, by rw [if_pos e]; exact h⟩
      rw [if_pos (show nI n = (6 : Int32) by rw [e]; rfl), if_pos e]
    · obtain ⟨w', a1, a2, -⟩ := h.fresh (show n < 6 by omega) (show 2 ≤ 2 by decide) (show j < 2 by omega)
      refine ⟨w', ?_, by rw [if_neg e, y4]; exact a2⟩
      rw [if_neg (show ¬ (nI n = (6 : Int32)) from ii_ne (m := 6) e (by omega) (by decide)), if_neg e, y3, show (2 : Int32) = nI 2 from rfl, bn2_i a1]
  · refine ⟨w, ?_, by rw [if_neg hy]; exact h⟩
    rw [if_neg hy, if_pos rfl, if_neg hy]
def blk (h v : Nat) : Nat → Nat := fun r => if r < h then v else 0
theorem blk_fall {h v : Nat} (hv : v ≤ 7) : Fall (blk h v) := by
  constructor
  · unfold blk; split <;> omega
  · intro r _
    unfold blk
    split <;> split <;> omega
/-- a game of rows at a rank, nothing noted -/
def putB (x : AG) (s : Nat) : AG := (gk x, gr x, s, 0, x.2.2.2.2)
theorem MI.setS {n : Nat} {G : Nat → AG} {w : mW} (h : MI n G w) {g s : Nat} (hg : g < n) (hs : St (gk (G g)) (gA (G g)) (gW (G g)) s) : MI n (upG G g (putB (G g) s)) (mU (mU w 3 g (nI s)) 9 g (0 : Int32)) := by
  have hgok := (h.2.2.1 _ hg).1
  obtain ⟨m1, m2, m3, m4, m5⟩ := (h.2.2.1 _ hg).2
  have f : ∀ c, c ≠ 3 → c ≠ 9 → (mU (mU w 3 g (nI s)) 9 g (0 : Int32)).2 c = w.2 c := fun c a b => by rw [mU_ne _ _ b, mU_ne _ _ a]
  obtain ⟨k1, k2, k3, k4, k5, k6, k7, k8, k9⟩ := hgok
  refine h.put hg rfl (fun j hj hne => (MCell.g1 hne (by decide)).tr (MCell.g1 hne (by decide))) ⟨k1, k2, k3, k4, k5, k6, hs, Nat.zero_le _, fun i hi => absurd hi (Nat.not_lt_zero i)⟩ ⟨m1.keep6 (f 1 (by decide) (by decide)) (f 4 (by decide) (by decide)) (f 5 (by decide) (by decide)) (f 6 (by decide) (by decide)) (f 7 (by decide) (by decide)) (f 8 (by decide) (by decide)), ?_, ?_, ?_, fun i hi => absurd hi (Nat.not_lt_zero i)⟩ (h.cache rfl (f 12 (by decide) (by decide)) (f 13 (by decide) (by decide)) (f 14 (by decide) (by decide)) ⟨rfl, rfl, rfl, rfl⟩)
  · rw [f 2 (by decide) (by decide)]; exact m2
  · rw [mU_ne _ _ (by decide), mU_at]; rfl
  · rw [mU_at]; rfl
theorem MI.setS3 {n : Nat} {G : Nat → AG} {w : mW} (h : MI n G w) {g s : Nat} (hg : g < n) (hs : St (gk (G g)) (gA (G g)) (gW (G g)) s) (hd : gd_ (G g) = 0) : MI n (upG G g (putB (G g) s)) (mU w 3 g (nI s)) := by
  have h1 := h.setS hg hs
  have m4 := (h.2.2.1 _ hg).2.2.2.2.1
  have e : mU (mU w 3 g (nI s)) 9 g (0 : Int32) = mU w 3 g (nI s) := by
    rw [mU_R]
    have : upd ((mU w 3 g (nI s)).2 9) g (0 : Int32) = (mU w 3 g (nI s)).2 9 := by
      funext j
      unfold upd
      split
      · rename_i hj
        rw [mU_ne w _ (by decide), hj, m4, hd]; rfl
      · rfl
    rw [this, mR_self]
  rwa [e] at h1
theorem mf_rows_loop {a b g : Nat} {y : Int32} {n : Nat} (ha : a ≤ 7) (hb : b ≤ 7) (hg : g < 6) : ∀ (d r k : Nat) (w : mW), d = 7 - r → r ≤ 7 → d < k → (∀ q, q < r → w.2 15 q = nI (blk a b q)) → ∃ f, mf_rows_C59 k (nI a) (nI b) (nI g) (nI r) w = some (nI g, mU (mR w 15 f) 3 g (nI (rk (blk a b))))
  | d, r, 0, w, hd, hr, hk, _ => by omega
  | 0, r, k + 1, w, hd, hr, hk, h15 => by
    have e : r = 7 := by omega
    subst e
    refine ⟨w.2 15, ?_⟩
    rw [mf_rows_C59, if_pos (show (7 : Int32) ≤ nI 7 from (nI_leI (a := 7) (by decide) (by decide)).mpr (Nat.le_refl 7)), bn_i (mf_rankOf_eq (blk_fall hb) h15), gi_i (ii_ix hg (by decide)), ii_cl (by omega), nm_i, mR_self]
  | d + 1, r, k + 1, w, hd, hr, hk, h15 => by
    have fin : ∀ v : Int32, v = nI (blk a b r) → ∃ f, mf_rows_C83 (mf_rows_C59 k) (nI a) (nI b) (nI g) (nI r) (nI r) v w = some (nI g, mU (mR w 15 f) 3 g (nI (rk (blk a b)))) := by
      intro v hv
      obtain ⟨f, hf⟩ := mf_rows_loop (y := y) (n := n) ha hb hg d (r + 1) k (mR w 15 (upd (w.2 15) r v)) (by omega) (by omega) (by omega) (fun q hq => by
        rw [mR_at]
        by_cases e : q = r
        · subst e; rw [upd_at, hv]
        · rw [upd_ne _ _ e]; exact h15 q (by omega))
      refine ⟨f, ?_⟩
      rw [mR_R] at hf
      unfold mf_rows_C83
      rw [gi_i (ii_ix (by omega) (by decide)), ii_cl (by omega), mU_R, nm_i, nm_i, nI_1]
      exact hf
    rw [mf_rows_C59, if_neg (fun q => by
      have := (nI_leI (a := 7) (b := r) (by decide) (by omega)).mp q
      omega)]
    by_cases e : a ≤ r
    · rw [if_pos ((nI_leI (by omega) (by omega)).mpr e)]
      exact fin _ (by unfold blk; rw [if_neg (by omega)]; rfl)
    · rw [if_neg (fun q => e ((nI_leI (by omega) (by omega)).mp q))]
      exact fin _ (by unfold blk; rw [if_pos (by omega)])
def a_rows (n : Nat) (G : Nat → AG) (x y z : Int32) : AR := if rng 1 7 x = true ∧ rng 1 7 y = true ∧ rng 0 1 z = true then (if n = 6 then (-1004, n, G) else (nI n, n + 1, upG G n (putB (newG 0 (ixN z)) (rk (blk (ixN x) (ixN y)))))) else (-1002, n, G)
theorem upG_upG (G : Nat → AG) (g : Nat) (x y : AG) : upG (upG G g x) g y = upG G g y := by
  funext j
  unfold upG
  split <;> rfl
theorem MI.rows {n : Nat} {G : Nat → AG} {w : mW} (h : MI n G w) (x y z : Int32) : ∃ w', mf_rows x y z w = some ((a_rows n G x y z).1, w') ∧ MI (a_rows n G x y z).2.1 (a_rows n G x y z).2.2 w' := by
  unfold mf_rows a_rows
  have h6 := h.1
  rw [bn_i (mf_rng 1 7 (by decide) (by decide) x 1 7 (by decide) (by decide))]
  by_cases hx : rng 1 7 x = true
  · rw [if_pos hx, if_neg (by decide), bn_i (mf_rng 1 7 (by decide) (by decide) y 1 7 (by decide) (by decide))]
    by_cases hy : rng 1 7 y = true
    · rw [if_pos hy, if_neg (by decide), bn_i (mf_isRule_eq z)]
      by_cases hz : rng 0 1 z = true
      · rw [if_pos hz, if_neg (by decide), h.2.1, if_pos (show rng 1 7 x = true ∧ rng 1 7 y = true ∧ rng 0 1 z = true from ⟨hx, hy, hz⟩)]
        by_cases e : n = 6
        · refine ⟨w, ?_, by rw [if_pos e]; exact h⟩
          rw [if_pos (show nI n = (6 : Int32) by rw [e]; rfl), if_pos e]
        · obtain ⟨a, x1, x2, x3, x4⟩ := rng_t hx
          obtain ⟨b, y1, y2, y3, y4⟩ := rng_t hy
          obtain ⟨c, z1, z2, z3, z4⟩ := rng_t hz
          obtain ⟨w1, a1, a2, -⟩ := h.fresh (show n < 6 by omega) (show 0 ≤ 2 by decide) (show c < 2 by omega)
          obtain ⟨f, hf⟩ := mf_rows_loop (y := y) (n := n) (a := a) (b := b) (g := n) x2 y2 (by omega) 7 0 fu w1 rfl (by omega) (fu_gt (by decide)) (fun q hq => absurd hq (Nat.not_lt_zero q))
          have a3 := (a2.sc (Sc.R (c := 15) (f := f) (by decide))).setS3 (g := n) (s := rk (blk a b)) (Nat.lt_succ_self n) (by
            rw [upG_at]
            exact rk_lt (blk_fall y2)) (by rw [upG_at]; rfl)
          rw [upG_at, upG_upG] at a3
          refine ⟨_, ?_, by rw [if_neg e, x4, y4, z4]; exact a3⟩
          rw [if_neg (show ¬ (nI n = (6 : Int32)) from ii_ne (m := 6) e (by omega) (by decide)), if_neg e, z3, show (0 : Int32) = nI 0 from rfl, bn2_i a1, x3, y3]
          exact hf
      · refine ⟨w, ?_, by rw [if_neg (fun q => hz q.2.2)]; exact h⟩
        rw [if_neg hz, if_pos rfl, if_neg (fun q => hz q.2.2)]
    · refine ⟨w, ?_, by rw [if_neg (fun q => hy q.2.1)]; exact h⟩
      rw [if_neg hy, if_pos rfl, if_neg (fun q => hy q.2.1)]
  · refine ⟨w, ?_, by rw [if_neg (fun q => hx q.1)]; exact h⟩
    rw [if_neg hx, if_pos rfl, if_neg (fun q => hx q.1)]
