/-! ===== class: the games ===== -/
theorem onO_some {β : Type} {n : Nat} {a : Option β} {b : Nat → Option β} : onO (some n) a b = b n := rfl
theorem onO_none {β : Type} {a : Option β} {b : Nat → Option β} : onO none a b = a := rfl
noncomputable def gF (x : AG) (s : Nat) : F3 := Sol (gk x) (gA x) (gW x) s
theorem gF_1 (x : AG) (s : Nat) : (gF x s).1 = gw x s := rfl
theorem gF_L (x : AG) (s : Nat) : Le3 (gr x) (gF x s) = gL x s := rfl
theorem gF_b {x : AG} (h : GOk x) {s : Nat} (hs : St (gk x) (gA x) (gW x) s) : B3 (gF x s) := by
  obtain ⟨k1, k2, k3, k4, k5, k6, k7, k8, k9⟩ := h
  have h1 := hs.le k6
  have := Sol_le (M := gW x) k3 (show s < 32768 by omega) hs.vs
  unfold B3 gF
  omega
def XGame (w : xW) (g : Nat) (x : AG) : Prop := w.2.2.1 0 g = nI (gk x) ∧ w.2.2.1 1 g = nI (gr x) ∧ w.2.2.1 3 g = nI (gs x) ∧ w.2.2.1 4 g = nI (gd_ x) ∧ (gk x ≠ 0 → w.2.2.1 2 g = nI (gW x)) ∧ (gk x ≠ 0 → ∀ q, (gW x).testBit q = true → w.2.2.2.1 0 g q = nI (gA x q)) ∧ (gk x = 0 → gA x = P2) ∧ (∀ i, i < gd_ x → w.2.2.2.1 1 g i = nI (gbi x i) ∧ w.2.2.2.1 2 g i = nI (gbe x i)) ∧ (gk x ≠ 0 → w.2.2.1 5 g ≠ 0 → ∀ s, St (gk x) (gA x) (gW x) s → w.2.2.2.1 3 g s = nI (pF (gF x s)))
def XI (n : Nat) (G : Nat → AG) (w : xW) : Prop := n ≤ 6 ∧ w.1 0 = nI n ∧ Lx w ∧ (w.1 1 ≠ 0 → Bs w) ∧ ∀ g, g < n → GOk (G g) ∧ XGame w g (G g)
theorem XI.bf {n : Nat} {G : Nat → AG} {w w' : xW} (h : XI n G w) (f : Bf w w') (hB : w'.1 1 ≠ 0 → Bs w') : XI n G w' := by
  obtain ⟨h1, h2, h3, h4, h5⟩ := h
  refine ⟨h1, f.1.trans h2, h3.bf f, hB, fun g hg => ⟨(h5 g hg).1, ?_⟩⟩
  have := (h5 g hg).2
  unfold XGame at this ⊢
  rw [f.2.2.2.1, f.2.2.2.2]
  exact this
theorem Bs.R {w : xW} (h : Bs w) {c : Nat} {f : Nat → Int32} (h6 : c ≠ 6) (h7 : c ≠ 7) (h8 : c ≠ 8) : Bs (xR w c f) := fun s hs => by
  rw [xR_ne w _ (fun e => h6 e.symm), xR_ne w _ (fun e => h7 e.symm), xR_ne w _ (fun e => h8 e.symm)]
  exact h s hs
theorem XI.R5 {n : Nat} {G : Nat → AG} {w : xW} (h : XI n G w) (f : Nat → Int32) : XI n G (xR w 5 f) := h.bf (Bf.R w f (by decide) (by decide)) (fun q => (h.2.2.2.1 q).R (by decide) (by decide) (by decide))
theorem XI.at {n : Nat} {G : Nat → AG} {w : xW} (h : XI n G w) (x : Int32) : xf_C_gameAt x w = some (if isG n x = true then some (ixN x) else none) := by
  obtain ⟨h1, h2, -⟩ := h
  unfold xf_C_gameAt
  rw [h2]
  by_cases hx : isG n x = true
  · obtain ⟨a1, a2⟩ := isG_t hx
    rw [if_pos hx]
    conv => lhs; rw [a2]
    rw [if_neg (nI_pos (by omega)), if_neg (fun q => by
      have := (nI_leI (by omega) (by omega)).mp q
      omega), if_neg (fun q => by
      have := (nI_leI (a := 6) (b := ixN x) (by decide) (by omega)).mp q
      omega), gi_i (ii_ix (show ixN x < 6 by omega) (by decide)), nm_i, ii_cl (by omega)]
  · rw [if_neg hx]
    unfold isG at hx
    rw [decide_eq_true_eq] at hx
    by_cases h0 : x < 0
    · rw [if_pos h0]
    · rw [if_neg h0, if_pos]
      rw [Int32.le_iff_toInt_le, nI_toInt (by omega)]
      rw [Int32.lt_iff_toInt_lt] at h0
      have : (0 : Int32).toInt = 0 := by decide
      omega
theorem XI.get {n : Nat} {G : Nat → AG} {w : xW} (h : XI n G w) {x : Int32} (hx : isG n x = true) : ixN x < n ∧ x = nI (ixN x) ∧ ixN x < 6 ∧ GOk (G (ixN x)) ∧ XGame w (ixN x) (G (ixN x)) := by
  obtain ⟨a1, a2⟩ := isG_t hx
  have h1 := h.1
  exact ⟨a1, a2, by omega, h.2.2.2.2 _ a1⟩
theorem XI.of {n : Nat} {G : Nat → AG} {w : xW} (h : XI n G w) (x : Int32) {k : Nat} (hk : k ≤ 2) : xf_C_gameOf x (nI k) w = some (if isG n x = true ∧ gk (G (ixN x)) = k then some (ixN x) else none) := by
  unfold xf_C_gameOf
  rw [bn_i (h.at x)]
  by_cases hx : isG n x = true
  · obtain ⟨a1, a2, a3, a4, a5⟩ := h.get hx
    rw [if_pos hx, onO_some, gd_i a3, a5.1]
    have := a4.1
    by_cases e : gk (G (ixN x)) = k
    · rw [if_pos (by rw [e]), if_pos ⟨hx, e⟩]
    · rw [if_neg (ii_ne e (by omega) (by omega)), if_neg (fun q => e q.2)]
  · rw [if_neg hx, onO_none, if_neg (fun q => hx q.1)]
theorem and_sub {s W : Nat} (h : ∀ i, s.testBit i = true → W.testBit i = true) : s &&& W = s := Nat.eq_of_testBit_eq (fun i => by
  rw [Nat.testBit_and]
  cases hs : s.testBit i
  · rfl
  · rw [h i hs]; rfl)
theorem St.sub {k : Nat} {A : Nat → Nat} {W s : Nat} (h : St k A W s) (hk : k ≠ 0) : s &&& W = s := by
  unfold St at h
  rw [if_neg hk] at h
  exact and_sub h.1
theorem XI.cb {n : Nat} {G : Nat → AG} {w : xW} (h : XI n G w) {g : Nat} (hg : g < n) : ∃ f, xf_G_countBites g w = some (nI (gn (G g)), xR w 5 f) := by
  obtain ⟨hO, hX⟩ := h.2.2.2.2 g hg
  obtain ⟨x0, x1, x3, x4, -⟩ := hX
  have hlt := hO.lt
  obtain ⟨k1, k2, k3, k4, k5, k6, k7, k8, k9⟩ := hO
  unfold xf_G_countBites gn nb
  rw [x0, x3]
  by_cases hk : gk (G g) = 0
  · have hs := k7.vs hk
    obtain ⟨f, hf⟩ := xf_countSquares_eq h.2.2.1 hs
    refine ⟨f, ?_⟩
    rw [if_pos (show nI (gk (G g)) = (0 : Int32) by rw [hk]; rfl), if_pos hk, bn2_i hf]
  · refine ⟨w.2.1 5, ?_⟩
    rw [if_neg (ii_ne0 hk (by omega)), if_neg hk, bn_i (xf_bitCount_eq hlt), xR_self, k7.sub hk]
theorem xf_pob {s q i g : Nat} {w : xW} (hs : s < 2 ^ 15) (hq : q < 15) (hb : s.testBit q = true) (hi : cn s q = i) (h3 : w.2.2.1 3 g = nI s) : ∀ (d k n : Nat), d = q - k → k ≤ q → d < n → xf_G_partOfBite_C4 g w n (nI (i - cn s k)) (nI k) = some (nI q)
  | d, k, 0, hd, hk, hn => by omega
  | 0, k, n + 1, hd, hk, hn => by
    have e : k = q := by omega
    subst e
    rw [xf_G_partOfBite_C4, if_neg (fun h => by
      have := (nI_leI (a := 15) (b := k) (by decide) (by omega)).mp h
      omega), h3, ii_bit (by omega) (by omega), hb, if_pos rfl, if_neg (by decide), hi, Nat.sub_self]
    exact if_pos rfl
  | d + 1, k, n + 1, hd, hk, hn => by
    have ih := xf_pob hs hq hb hi h3 d (k + 1) n (by omega) (by omega) (by omega)
    have e : cn s (k + 1) = cn s k + (if s.testBit k then 1 else 0) := rfl
    have hm := cn_mono s q (show k + 1 ≤ q by omega)
    have hi15 := cn_n s q
    rw [xf_G_partOfBite_C4, if_neg (fun h => by
      have := (nI_leI (a := 15) (b := k) (by decide) (by omega)).mp h
      omega), h3, ii_bit (by omega) (by omega)]
    cases hc : s.testBit k
    · rw [hc] at e
      have e' : cn s (k + 1) = cn s k := e
      rw [if_neg (show ¬ (false = true) by decide), if_pos (show nI 0 = (0 : Int32) from rfl), nm_i, nI_1, ← ih, e']
    · rw [hc] at e
      have e' : cn s (k + 1) = cn s k + 1 := e
      rw [if_pos rfl, if_neg (by decide), if_neg (ii_ne0 (by omega) (by omega)), nm_i, nm_i, nI_1, ← ih, show i - cn s k = (i - cn s (k + 1)) + 1 by omega, pk_m1]
theorem xf_part_eq {s q i g : Nat} {w : xW} (hs : s < 2 ^ 15) (hq : q < 15) (hb : s.testBit q = true) (hi : cn s q = i) (h3 : w.2.2.1 3 g = nI s) : xf_G_partOfBite g (nI i) w = some (nI q) := xf_pob hs hq hb hi h3 q 0 fu rfl (Nat.zero_le _) (fu_gt (by omega))
theorem XI.after {n : Nat} {G : Nat → AG} {w : xW} (h : XI n G w) {g i t : Nat} (hg : g < n) (hn : Nth (gk (G g)) (gA (G g)) (gW (G g)) (gs (G g)) i t) : ∃ f, xf_G_stateAfter g (nI i) w = some (nI t, xR w 5 f) := by
  obtain ⟨hO, hX⟩ := h.2.2.2.2 g hg
  obtain ⟨x0, x1, x3, x4, x2, xA, -⟩ := hX
  have hlt := hO.lt
  obtain ⟨k1, k2, k3, k4, k5, k6, k7, k8, k9⟩ := hO
  unfold xf_G_stateAfter
  unfold Nth at hn
  rw [x0]
  by_cases hk : gk (G g) = 0
  · rw [if_pos hk] at hn
    obtain ⟨r, c, h1, h2, h3, h4⟩ := hn
    have hs := k7.vs hk
    obtain ⟨f, hf⟩ := xf_rankAfter_eq h.2.2.1 hs h1 h2
    refine ⟨f, ?_⟩
    rw [if_pos (show nI (gk (G g)) = (0 : Int32) by rw [hk]; rfl), x3, h3, bn2_i hf, h4]
  · rw [if_neg hk] at hn
    obtain ⟨q, h1, h2, h3, h4⟩ := hn
    have hsub := k7.sub hk
    rw [hsub] at h2 h3
    have hW : (gW (G g)).testBit q = true := by
      have := h2
      rw [← hsub, Nat.testBit_and, h2, Bool.true_and] at this
      exact this
    refine ⟨w.2.1 5, ?_⟩
    rw [if_neg (ii_ne0 hk (by omega)), bn_i (xf_part_eq hlt h1 h2 h3 x3), bn_i (xf_at_eq (by decide) h1), xA hk q hW, x3, ii_not, xR_self, h4]
theorem SF_eq {k : Nat} {A : Nat → Nat} {M s a b c : Nat} (hA : Ok k A) (hs : s < 32768) (hv : Vs k s) (ha : Mex (fun x => ∃ t, (∃ u, Nx k A M s u ∧ t = Sol k A M u) ∧ t.1 = x) a) (hb : Len 0 (fun x => ∃ t, (∃ u, Nx k A M s u ∧ t = Sol k A M u) ∧ t.2.1 = x) b) (hc : Len 1 (fun x => ∃ t, (∃ u, Nx k A M s u ∧ t = Sol k A M u) ∧ t.2.2 = x) c) : pk3 a b c = pF (Sol k A M s) := by
  obtain ⟨r1, r2, r3⟩ := Sol_rt (M := M) hA s hs hv
  have e1 : a = (Sol k A M s).1 := (ha.congr (Q := fun x => ∃ t, Nx k A M s t ∧ (Sol k A M t).1 = x) (fun x => ⟨fun ⟨t, ⟨u, h1, h2⟩, h3⟩ => ⟨u, h1, by subst h2; exact h3⟩, fun ⟨u, h1, h2⟩ => ⟨Sol k A M u, ⟨u, h1, rfl⟩, h2⟩⟩)).uniq r1
  have e2 : b = (Sol k A M s).2.1 := (hb.congr (Q := fun x => ∃ t, Nx k A M s t ∧ (Sol k A M t).2.1 = x) (fun x => ⟨fun ⟨t, ⟨u, h1, h2⟩, h3⟩ => ⟨u, h1, by subst h2; exact h3⟩, fun ⟨u, h1, h2⟩ => ⟨Sol k A M u, ⟨u, h1, rfl⟩, h2⟩⟩)).uniq r2
  have e3 : c = (Sol k A M s).2.2 := (hc.congr (Q := fun x => ∃ t, Nx k A M s t ∧ (Sol k A M t).2.2 = x) (fun x => ⟨fun ⟨t, ⟨u, h1, h2⟩, h3⟩ => ⟨u, h1, by subst h2; exact h3⟩, fun ⟨u, h1, h2⟩ => ⟨Sol k A M u, ⟨u, h1, rfl⟩, h2⟩⟩)).uniq r3
  rw [e1, e2, e3]
  rfl
