/-! ===== the reference: orders and nets grow ===== -/
theorem cn_full (t : Nat) : ∀ m, m ≤ t → cn (2 ^ t - 1) m = m
  | 0, _ => rfl
  | m + 1, hm => by
    show cn (2 ^ t - 1) m + (if (2 ^ t - 1).testBit m then 1 else 0) = m + 1
    rw [cn_full t m (by omega), Nat.testBit_two_pow_sub_one, decide_eq_true (show m < t by omega)]; rfl
theorem cn_stop {s m : Nat} (h : ∀ q, m ≤ q → s.testBit q = false) : ∀ n, m ≤ n → cn s n = cn s m
  | 0, hn => by have : m = 0 := by omega
                subst this; rfl
  | n + 1, hn => by
    rcases Nat.lt_or_ge m (n + 1) with q | q
    · show cn s n + (if s.testBit n then 1 else 0) = cn s m
      rw [cn_stop h n (by omega), h n (by omega)]; rfl
    · have : m = n + 1 := by omega
      subst this; rfl
theorem cn_ord {t : Nat} (ht : t ≤ 15) : cn (2 ^ t - 1) 15 = t := by
  rw [cn_stop (m := t) (fun q hq => by rw [Nat.testBit_two_pow_sub_one, decide_eq_false (by omega)]) 15 ht, cn_full t t (Nat.le_refl t)]
theorem cn_cong {x y : Nat} : ∀ n, (∀ i, i < n → x.testBit i = y.testBit i) → cn x n = cn y n
  | 0, _ => rfl
  | n + 1, h => by
    show cn x n + (if x.testBit n then 1 else 0) = cn y n + (if y.testBit n then 1 else 0)
    rw [cn_cong n (fun i hi => h i (by omega)), h n (by omega)]
theorem cn_posts {po ro : Nat} (hp : po ≤ 6) : cn ((2 ^ po - 1) ||| 64 * (2 ^ ro - 1)) 6 = po := by
  rw [cn_cong (y := 2 ^ po - 1) 6 (fun i hi => by
    rw [full_bit hp, Nat.testBit_two_pow_sub_one, decide_eq_false (show ¬ (6 ≤ i ∧ i < 6 + ro) by omega), Bool.or_false])]
  rw [cn_stop (m := po) (fun q hq => by rw [Nat.testBit_two_pow_sub_one, decide_eq_false (by omega)]) 6 hp, cn_full po po (Nat.le_refl po)]
theorem cn_road {po ro : Nat} (hp : po ≤ 6) : ∀ j, j ≤ ro → cn ((2 ^ po - 1) ||| 64 * (2 ^ ro - 1)) (6 + j) = po + j
  | 0, _ => cn_posts hp
  | j + 1, hj => by
    show cn ((2 ^ po - 1) ||| 64 * (2 ^ ro - 1)) (6 + j) + (if ((2 ^ po - 1) ||| 64 * (2 ^ ro - 1)).testBit (6 + j) then 1 else 0) = _
    rw [cn_road hp j (by omega), full_bit hp, decide_eq_true (show 6 ≤ 6 + j ∧ 6 + j < 6 + ro by omega), Bool.or_true]; rfl
theorem cn_roads {po ro : Nat} (hp : po ≤ 6) (hr : ro ≤ 9) : cn ((2 ^ po - 1) ||| 64 * (2 ^ ro - 1)) 15 = po + ro := by
  rw [cn_stop (m := 6 + ro) (fun q hq => by rw [full_bit hp, decide_eq_false (by omega), decide_eq_false (by omega)]; rfl) 15 (by omega), cn_road hp ro (Nat.le_refl ro)]
theorem full_s (t : Nat) : (2 ^ t - 1) ||| 2 ^ t = 2 ^ (t + 1) - 1 := by
  refine Nat.eq_of_testBit_eq (fun i => ?_)
  rw [Nat.testBit_or, Nat.testBit_two_pow_sub_one, Nat.testBit_two_pow, Nat.testBit_two_pow_sub_one, Bool.eq_iff_iff]
  simp only [Bool.or_eq_true, decide_eq_true_eq]
  omega
theorem full_p {po ro : Nat} (hp : po < 6) : ((2 ^ po - 1) ||| 64 * (2 ^ ro - 1)) ||| 2 ^ po = (2 ^ (po + 1) - 1) ||| 64 * (2 ^ ro - 1) := by
  refine Nat.eq_of_testBit_eq (fun i => ?_)
  rw [Nat.testBit_or, full_bit (by omega), full_bit (by omega), Nat.testBit_two_pow, Bool.eq_iff_iff]
  simp only [Bool.or_eq_true, decide_eq_true_eq]
  omega
theorem full_r {po ro : Nat} (hp : po ≤ 6) : ((2 ^ po - 1) ||| 64 * (2 ^ ro - 1)) ||| 2 ^ (6 + ro) = (2 ^ po - 1) ||| 64 * (2 ^ (ro + 1) - 1) := by
  refine Nat.eq_of_testBit_eq (fun i => ?_)
  rw [Nat.testBit_or, full_bit hp, full_bit hp, Nat.testBit_two_pow, Bool.eq_iff_iff]
  simp only [Bool.or_eq_true, decide_eq_true_eq]
  omega
/-- a game that begins again, whole, with other data -/
def agn (x : AG) (A : Nat → Nat) (W : Nat) : AG := (gk x, gr x, W, 0, W, A, gbi x, gbe x)
theorem agn_ok {x : AG} {A : Nat → Nat} {W : Nat} (h : GOk x) (hk : gk x ≠ 0) (hA : Ok (gk x) A) (hT : Tr (gk x) A W) (hW : W < 32768) : GOk (agn x A W) := by
  obtain ⟨k1, k2, -⟩ := h
  refine ⟨k1, k2, hA, hT, hW, fun h => absurd h hk, ?_, Nat.zero_le _, fun i hi => absurd hi (Nat.not_lt_zero i)⟩
  show St (gk x) A W W
  unfold St
  rw [if_neg hk]
  exact ⟨fun q hq => hq, fun q hq1 hq2 => by rw [hq1] at hq2; cases hq2⟩
theorem MI.again {n : Nat} {G : Nat → AG} {w w1 : mW} (h : MI n G w) {g : Nat} {A : Nat → Nat} {W : Nat} (hg : g < n) (h0 : w1.1 = w.1) (hc : ∀ j, j < n → j ≠ g → MCell w w1 j) (hs : ∀ c, 12 ≤ c → w1.2 c = w.2 c) (hM : MD w1 g (gk (G g)) A W) (h2 : w1.2 2 g = w.2 2 g) (hk : gk (G g) ≠ 0) (hA : Ok (gk (G g)) A) (hT : Tr (gk (G g)) A W) : ∃ w2, mf_again (nI g) w1 = some w2 ∧ MI n (upG G g (agn (G g) A W)) w2 ∧ ∀ c, c ≠ 3 → c ≠ 9 → w2.2 c = w1.2 c := by
  have h6 := h.1
  have hix : vp_in (nI g) 6 := ii_ix (show g < 6 by omega) (by decide)
  generalize e2 : mU w1 3 g (nI W) = w2
  generalize e3 : mU w2 9 g (0 : Int32) = w3
  have f2 : ∀ c, c ≠ 3 → w2.2 c = w1.2 c := fun c hc => by rw [← e2]; exact mU_ne w1 _ hc
  have f3 : ∀ c, c ≠ 9 → w3.2 c = w2.2 c := fun c hc => by rw [← e3]; exact mU_ne w2 _ hc
  have f : ∀ c, c ≠ 3 → c ≠ 9 → w3.2 c = w1.2 c := fun c a b => by rw [f3 c b, f2 c a]
  have s3 : w3.1 = w.1 := by rw [← e3, ← e2]; exact h0
  have key : ∀ t1 : Int32, (t1 = -1 ∨ (t1 = w.1 1 ∧ w.1 1 ≠ nI g)) → MI n (upG G g (agn (G g) A W)) (mS w3 1 t1) := by
    intro t1 ht
    refine h.put hg ?_ (fun j hj hne => ?_) (agn_ok (h.2.2.1 g hg).1 hk hA hT hM.mask) ⟨hM.keep6 (f 1 (by decide) (by decide)) (f 4 (by decide) (by decide)) (f 5 (by decide) (by decide)) (f 6 (by decide) (by decide)) (f 7 (by decide) (by decide)) (f 8 (by decide) (by decide)), ?_, ?_, ?_, fun i hi => absurd hi (Nat.not_lt_zero i)⟩ ?_
    · show w3.1 0 = _
      rw [s3]
    · show MCell w w3 j
      rw [← e3, ← e2]
      exact (hc j hj hne).tr ((MCell.g1 hne (by decide)).tr (MCell.g1 hne (by decide)))
    · show w3.2 2 g = _
      rw [f 2 (by decide) (by decide), h2]; exact (h.2.2.1 g hg).2.2.1
    · show w3.2 3 g = _
      rw [f3 3 (by decide), ← e2, mU_at]; rfl
    · show w3.2 9 g = _
      rw [← e3, mU_at]; rfl
    · rcases ht with rfl | ⟨rfl, hne⟩
      · exact Or.inl rfl
      · rcases h.2.2.2 with q | ⟨i, a, b, c⟩
        · exact Or.inl q
        · have hi : i ≠ g := fun e => hne (by rw [b, e])
          refine Or.inr ⟨i, a, b, ?_⟩
          rw [upG_ne G _ hi]
          exact c.tab (show w3.2 12 = _ by rw [f 12 (by decide) (by decide), hs 12 (by decide)]) (show w3.2 13 = _ by rw [f 13 (by decide) (by decide), hs 13 (by decide)]) (show w3.2 14 = _ by rw [f 14 (by decide) (by decide), hs 14 (by decide)])
  unfold mf_again
  rw [bn_i (mf_fullOf_eq (show g < 6 by omega) hM), gi_i hix, ii_cl (by omega), e2, nm_i, gi_i hix, e3, nm_i, s3]
  by_cases e : w.1 1 = nI g
  · rw [if_pos e]
    exact ⟨_, rfl, key (-1) (Or.inl rfl), f⟩
  · rw [if_neg e]
    exact ⟨_, rfl, key (w.1 1) (Or.inr ⟨rfl, e⟩), f⟩
def addA (A : Nat → Nat) (t : Nat) : Nat → Nat := fun q => if q = t then 2 ^ q else A q
theorem addA_at (A : Nat → Nat) (t : Nat) : addA A t t = 2 ^ t := if_pos rfl
theorem addA_ne (A : Nat → Nat) {t q : Nat} (h : q ≠ t) : addA A t q = A q := if_neg h
def a_thing (n : Nat) (G : Nat → AG) (x : Int32) : AR := if isG n x = true ∧ gk (G (ixN x)) = 1 then (if cn (gW (G (ixN x))) 15 = 12 then (-1004, n, G) else (nI (cn (gW (G (ixN x))) 15), n, upG G (ixN x) (agn (G (ixN x)) (addA (gA (G (ixN x))) (cn (gW (G (ixN x))) 15)) (gW (G (ixN x)) ||| 2 ^ cn (gW (G (ixN x))) 15)))) else (-1001, n, G)
theorem MI.thing {n : Nat} {G : Nat → AG} {w : mW} (h : MI n G w) (x : Int32) : ∃ w', mf_thing x w = some ((a_thing n G x).1, w') ∧ MI (a_thing n G x).2.1 (a_thing n G x).2.2 w' := by
  unfold mf_thing a_thing
  rw [show (1 : Int32) = nI 1 from rfl, bn_i (h.isOf x 1 (by decide))]
  by_cases hx : isG n x = true ∧ gk (G (ixN x)) = 1
  · obtain ⟨h1, h2, h3, h4, h5⟩ := h.get hx.1
    obtain ⟨i1, i2⟩ := h.ix hx.1
    obtain ⟨m1, m2, m3, m4, m5⟩ := id h5
    obtain ⟨k1, k2, k3, k4, k5, k6, k7, k8, k9⟩ := id h4
    obtain ⟨q1, (⟨q, -⟩ | ⟨-, th, t1, t2, t3, t4⟩ | ⟨q, -⟩)⟩ := id m1
    · omega
    · have ec : cn (gW (G (ixN x))) 15 = th := by rw [t3]; exact cn_ord (by omega)
      rw [if_pos hx, if_neg (by decide), gi_i i2, i1, t2, if_pos hx, ec]
      by_cases e : th = 12
      · refine ⟨w, ?_, by rw [if_pos e]; exact h⟩
        rw [if_pos (show nI th = (12 : Int32) by rw [e]; rfl), if_pos e]
      · have hpl : mf_placeOf x (nI th) = some (nI (12 * ixN x + th)) := by
          unfold mf_placeOf
          rw [show (12 : Int32) * x = nI (12 * ixN x) by
            conv => lhs; rw [h2]
            exact pk_mul 12 _, nI_add]
        generalize e1 : mU w 5 (12 * ixN x + th) (0 : Int32) = w1
        generalize e2 : mU w1 4 (ixN x) (nI (th + 1)) = w2
        have f1 : ∀ c, c ≠ 5 → w1.2 c = w.2 c := fun c hc => by rw [← e1]; exact mU_ne w _ hc
        have f2 : ∀ c, c ≠ 4 → w2.2 c = w1.2 c := fun c hc => by rw [← e2]; exact mU_ne w1 _ hc
        have f : ∀ c, c ≠ 4 → c ≠ 5 → w2.2 c = w.2 c := fun c a b => by rw [f2 c a, f1 c b]
        have hbitW : ∀ i, (gW (G (ixN x))).testBit i = decide (i < th) := fun i => by rw [t3, Nat.testBit_two_pow_sub_one]
        obtain ⟨w3, a1, a2, a3⟩ := h.again (w1 := w2) (A := addA (gA (G (ixN x))) th) (W := gW (G (ixN x)) ||| 2 ^ th) h1 (by rw [← e2, ← e1]; rfl) (fun j hj hne => by
          rw [← e2, ← e1]
          exact (MCell.g5 hne (by omega)).tr (MCell.g1 hne (by decide))) (fun c hc => f c (by omega) (by omega)) (by
          rw [t3, full_s]
          refine ⟨by rw [f 1 (by decide) (by decide)]; exact q1, Or.inr (Or.inl ⟨hx.2, th + 1, by omega, by rw [← e2, mU_at], rfl, fun t ht => ?_⟩)⟩
          rw [f2 5 (by decide)]
          by_cases et : t = th
          · subst et
            exact ⟨0, by rw [← e1, mU_at]; rfl, by decide, by rw [addA_at, Nat.or_zero], Nat.zero_testBit _⟩
          · obtain ⟨B, b1, b2, b3, b4⟩ := t4 t (by omega)
            exact ⟨B, by rw [← e1, mU_ni w _ (by omega)]; exact b1, b2, by rw [addA_ne _ et]; exact b3, b4⟩) (by rw [f 2 (by decide) (by decide)]) (by omega) (fun hk q hq => by
          by_cases eq : q = th
          · subst eq; rw [addA_at, Nat.testBit_two_pow]; simp
          · rw [addA_ne _ eq]; exact k3 hk q hq) (fun hk q hq => by
          rw [Nat.testBit_or, hbitW, Nat.testBit_two_pow] at hq
          intro p hp
          by_cases eq : q = th
          · subst eq
            have hp' : (2 ^ q).testBit p = true := by rw [addA_at] at hp; exact hp
            rw [Nat.testBit_two_pow] at hp'
            have epq : q = p := of_decide_eq_true hp'
            subst epq
            exact ⟨by rw [Nat.testBit_or, Nat.testBit_two_pow]; simp, fun z hz => hz⟩
          · have hqt : q < th := by
              simp at hq
              omega
            have hp' : (gA (G (ixN x)) q).testBit p = true := by rw [addA_ne _ eq] at hp; exact hp
            obtain ⟨g1, g2⟩ := k4 hk q (by rw [hbitW]; exact decide_eq_true hqt) p hp'
            have hpt : p < th := by rw [hbitW] at g1; exact of_decide_eq_true g1
            refine ⟨by rw [Nat.testBit_or, g1]; rfl, fun z hz => ?_⟩
            rw [addA_ne _ (show p ≠ th by omega)] at hz
            rw [addA_ne _ eq]
            exact g2 z hz)
        rw [← h2] at a1
        refine ⟨w3, ?_, by rw [if_neg e]; exact a2⟩
        rw [if_neg (show ¬ (nI th = (12 : Int32)) from ii_ne (m := 12) e (by omega) (by decide)), if_neg e, gi_i i2, bn_i hpl, gi_i (ii_ix (by omega) (by decide)), ii_cl (by omega), e1, nm_i, gi_i i2, gi_i i2, f1 4 (by decide), t2, nI_add, e2, nm_i, bn_i a1, gi_i i2, a3 4 (by decide) (by decide), ← e2, mU_at, ii_sub (by omega)]
        rfl
    · omega
  · refine ⟨w, ?_, by rw [if_neg hx]; exact h⟩
    rw [if_neg hx, if_pos rfl, if_neg hx]
