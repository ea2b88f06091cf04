/-! ===== the reference: winning bites, the answer, sums ===== -/
/-- the first of n that is so, or n -/
def ff (p : Nat → Bool) : Nat → Nat
  | 0 => 0
  | n + 1 => if ff p n < n then ff p n else if p n = true then n else n + 1
theorem ff_le (p : Nat → Bool) : ∀ n, ff p n ≤ n
  | 0 => Nat.le_refl 0
  | n + 1 => by
    have := ff_le p n
    unfold ff
    split
    · omega
    · split <;> omega
theorem ff_eq {p : Nat → Bool} {i : Nat} (hp : p i = true) (h : ∀ j, j < i → p j = false) : ∀ n, i < n → ff p n = i
  | 0, hn => by omega
  | n + 1, hn => by
    unfold ff
    by_cases e : i = n
    · subst e
      have h1 : ff p i = i := by
        have key : ∀ m, m ≤ i → ff p m = m := by
          intro m
          induction m with
          | zero => intro _; rfl
          | succ m ih =>
            intro hm
            unfold ff
            rw [ih (by omega), if_neg (Nat.lt_irrefl m), h m (by omega), if_neg (by decide)]
        exact key i (Nat.le_refl i)
      rw [h1, if_neg (Nat.lt_irrefl i), if_pos hp]
    · have h1 := ff_eq hp h n (by omega)
      rw [h1, if_pos (by omega)]
theorem ff_none {p : Nat → Bool} : ∀ n, (∀ j, j < n → p j = false) → ff p n = n
  | 0, _ => rfl
  | n + 1, h => by
    unfold ff
    rw [ff_none n (fun j hj => h j (by omega)), if_neg (Nat.lt_irrefl n), h n (by omega), if_neg (by decide)]
theorem ff_of {p : Nat → Bool} {L : Nat} (hL : p L = true) : ∀ m, L < m → ff p m ≤ L
  | 0, hm => by omega
  | m + 1, hm => by
    by_cases hjm : L = m
    · subst hjm
      by_cases h1 : ff p L < L
      · unfold ff; rw [if_pos h1]; omega
      · unfold ff; rw [if_neg h1, if_pos hL]; omega
    · have := ff_of hL m (by omega)
      unfold ff
      rw [if_pos (by omega)]; exact this
theorem sub1 (n : Nat) : nI n - (1 : Int32) = nI n + (-1 : Int32) := by
  rw [Int32.sub_eq_add_neg]
theorem ff_yes {p : Nat → Bool} : ∀ n, ff p n < n → p (ff p n) = true ∧ ∀ j, j < ff p n → p j = false
  | 0, h => by exact absurd h (Nat.not_lt_zero _)
  | n + 1, h => by
    unfold ff at h ⊢
    by_cases h1 : ff p n < n
    · rw [if_pos h1]; exact ff_yes n h1
    · rw [if_neg h1] at h ⊢
      by_cases h2 : p n = true
      · rw [if_pos h2]
        refine ⟨h2, fun j hj => ?_⟩
        have e : ff p n = n := by have := ff_le p n; omega
        cases hb : p j
        · rfl
        · exfalso
          have := ff_of hb
          have := this n hj
          omega
      · rw [if_neg h2] at h; omega
/-- the bite wins; how long what it leaves lasts -/
noncomputable def wn (x : AG) (i : Nat) : Bool := decide (gL x (nxt x i) % 2 ≠ gr x)
noncomputable def ln (x : AG) (i : Nat) : Nat := gL x (nxt x i)
def gn (x : AG) : Nat := nb (gk x) (gW x) (gs x)
noncomputable def mxl (x : AG) (i : Nat) : Bool := decide (∀ j, j < gn x → ln x j ≤ ln x i)
noncomputable def ansI (x : AG) : Nat := if ff (wn x) (gn x) < gn x then ff (wn x) (gn x) else ff (mxl x) (gn x)
noncomputable def cW (x : AG) : Nat → Nat
  | 0 => 0
  | n + 1 => cW x n + (if wn x n = true then 1 else 0)
theorem cW_mono (x : AG) {m : Nat} : ∀ n, m ≤ n → cW x m ≤ cW x n
  | 0, h => by have : m = 0 := by omega
               subst this; exact Nat.le_refl _
  | n + 1, h => by
    rcases Nat.lt_or_ge m (n + 1) with q | q
    · exact Nat.le_trans (cW_mono x n (by omega)) (Nat.le_add_right _ _)
    · have : m = n + 1 := by omega
      subst this; exact Nat.le_refl _
theorem cW_le (x : AG) : ∀ n, cW x n ≤ n
  | 0 => Nat.le_refl _
  | n + 1 => by
    have := cW_le x n
    show cW x n + (if wn x n = true then 1 else 0) ≤ n + 1
    split <;> omega
/-- what the reference holds while the bites of a game are looked at -/
def Look (w : mW) (x : AG) : Prop := MSol w (gk x) (gA x) (gW x) (gr x) ∧ ∀ i, i < gn x → w.2 16 i = nI (nxt x i)
theorem Look.at {w : mW} {x : AG} (h : Look w x) (hx : GOk x) {i : Nat} (hi : i < gn x) : w.2 16 i = nI (nxt x i) ∧ nxt x i < 32768 ∧ w.2 12 (nxt x i) = nI (if wn x i = true then 0 else 1) ∧ w.2 13 (nxt x i) = nI (ln x i) ∧ w.2 14 (nxt x i) = nI (gw x (nxt x i)) ∧ i < 49 ∧ ln x i ≤ 49 := by
  have hn := hx.nxt hi
  have ht := h.1 _ hn.2.1
  have h49 := nb_le49 (gk x) (gW x) (gs x)
  have hi' : i < nb (gk x) (gW x) (gs x) := hi
  refine ⟨h.2 i hi, hn.2.2, ?_, ht.2.1, ht.2.2, by omega, Lr_le hx.2.2.1 hn.2.2 hn.1.vs⟩
  rw [ht.1]
  unfold wn
  by_cases e : Lr (gk x) (gA x) (gW x) (gr x) (nxt x i) % 2 = gr x
  · rw [if_pos e, if_neg]
    rw [decide_eq_true_eq]
    exact fun q => q e
  · rw [if_neg e, if_pos]
    rw [decide_eq_true_eq]
    exact e
theorem mf_winning_loop {w : mW} {x : AG} (h : Look w x) (hx : GOk x) : ∀ (m n : Nat), m ≤ gn x → m < n → mf_winning_C27 n (nI (cW x (gn x) - cW x m)) (nI m + (-1 : Int32)) w = some (nI (cW x (gn x)), w)
  | m, 0, _, hn => by omega
  | 0, n + 1, hm, hn => by
    rw [mf_winning_C27, if_pos (by decide)]; rfl
  | m + 1, n + 1, hm, hn => by
    obtain ⟨a1, a2, a3, a4, a5, a6, a7⟩ := h.at hx (show m < gn x by omega)
    have h1 := cW_mono x (gn x) hm
    have h2 := cW_le x (gn x)
    have h3 : cW x (m + 1) = cW x m + (if wn x m = true then 1 else 0) := rfl
    have h49 := nb_le49 (gk x) (gW x) (gs x)
    rw [mf_winning_C27, pk_m1, if_neg (nI_pos (by omega)), gi_i (ii_ix a6 (by decide)), ii_cl (by omega), a1, gi_i (ii_ix a2 (by decide)), ii_cl (by omega), a3]
    have ih := mf_winning_loop h hx m n (by omega) (by omega)
    by_cases e : wn x m = true
    · rw [if_pos e] at h3 ⊢
      rw [if_pos (show nI 0 = (0 : Int32) from rfl), nm_i, nm_i, nI_1, show cW x (gn x) - cW x (m + 1) + 1 = cW x (gn x) - cW x m by omega]
      exact ih
    · rw [if_neg e] at h3 ⊢
      rw [if_neg (show ¬ (nI 1 = (0 : Int32)) by decide), nm_i, nm_i, show (0 : Int32) = nI 0 from rfl, nI_add, show cW x (gn x) - cW x (m + 1) + 0 = cW x (gn x) - cW x m by omega]
      exact ih
theorem MI.look {n : Nat} {G : Nat → AG} {w : mW} (h : MI n G w) {x : Int32} (hx : isG n x = true) : ∃ w1 w2, mf_solve x w = some w1 ∧ MI n G w1 ∧ mf_bitesOf x w1 = some (nI (gn (G (ixN x))), w2) ∧ MI n G w2 ∧ Look w2 (G (ixN x)) := by
  obtain ⟨h1, h2, h3, h4, h5⟩ := h.get hx
  obtain ⟨w1, a1, a2, a3⟩ := h.solve h1
  obtain ⟨w2, b1, b2, b3, b4⟩ := a2.bites h1
  rw [← h2] at a1 b1
  exact ⟨w1, w2, a1, a2, b1, b2, a3.sc b3, fun i hi => b4 i _ (nxt_nth hi)⟩
noncomputable def a_winning (n : Nat) (G : Nat → AG) (x : Int32) : AR := (if isG n x then nI (cW (G (ixN x)) (gn (G (ixN x)))) else -1001, n, G)
theorem MI.winning {n : Nat} {G : Nat → AG} {w : mW} (h : MI n G w) (x : Int32) : ∃ w', mf_winning x w = some ((a_winning n G x).1, w') ∧ MI (a_winning n G x).2.1 (a_winning n G x).2.2 w' := by
  unfold mf_winning a_winning
  rw [bn_i (h.isGame x)]
  by_cases hx : isG n x = true
  · obtain ⟨w1, w2, a1, a2, b1, b2, b3⟩ := h.look hx
    have h4 := (h.get hx).2.2.2.1
    have h49 := nb_le49 (gk (G (ixN x))) (gW (G (ixN x))) (gs (G (ixN x)))
    have h49' : gn (G (ixN x)) ≤ 49 := h49
    refine ⟨w2, ?_, b2⟩
    rw [if_pos hx, if_pos hx, if_neg (by decide), bn_i a1, bn2_i b1, nm_i, sub1]
    have := mf_winning_loop b3 h4 (gn (G (ixN x))) fu (Nat.le_refl _) (fu_gt (by omega))
    rw [Nat.sub_self] at this
    exact this
  · refine ⟨w, ?_, h⟩
    rw [if_neg hx, if_pos rfl, if_neg hx]
/-- behind the bites m on: the first winning one, one of the longest -/
theorem mf_answer_loop {w : mW} {x : AG} {x1 : Int32} (h : Look w x) (hx : GOk x) (h0 : 0 < gn x) : ∀ (m n : Nat) (x3 : Int32) (L : Nat), m ≤ gn x → m < n → ((x3 = (-1) ∧ ∀ j, m ≤ j → j < gn x → wn x j = false) ∨ (∃ f, x3 = nI f ∧ m ≤ f ∧ f < gn x ∧ wn x f = true ∧ ∀ j, m ≤ j → j < f → wn x j = false)) → L < gn x → (∀ j, m ≤ j → j < gn x → ln x j ≤ ln x L) → mf_answer_C56 n x1 x3 (nI L) (nI m + (-1 : Int32)) w = mf_answer_C149 x1 (nI (ansI x)) w
  | m, 0, x3, L, _, hn, _, _, _ => by omega
  | 0, n + 1, x3, L, hm, hn, hf, hL, hl => by
    rw [mf_answer_C56, if_pos (by decide)]
    rcases hf with ⟨rfl, hf⟩ | ⟨f, rfl, -, f1, f2, f3⟩
    · obtain ⟨a1, a2, a3, a4, a5, a6, a7⟩ := h.at hx hL
      have hw : ff (wn x) (gn x) = gn x := ff_none _ (fun j hj => hf j (Nat.zero_le _) hj)
      have hlt : ff (mxl x) (gn x) < gn x := by
        rcases Nat.lt_or_ge (ff (mxl x) (gn x)) (gn x) with q | q
        · exact q
        · exfalso
          have hmL : mxl x L = true := decide_eq_true (fun j hj => hl j (Nat.zero_le _) hj)
          have := ff_of hmL
          have := this (gn x) hL
          omega
      obtain ⟨g1, g2⟩ := ff_yes _ hlt
      have e : ansI x = ff (mxl x) (gn x) := by unfold ansI; rw [hw, if_neg (Nat.lt_irrefl _)]
      rw [if_pos (by decide), gi_i (ii_ix a6 (by decide)), ii_cl (by omega), a1, gi_i (ii_ix a2 (by decide)), ii_cl (by omega), a4]
      have hmx : ln x (ff (mxl x) (gn x)) = ln x L := by
        have p1 := (of_decide_eq_true g1) L hL
        have p2 := hl _ (Nat.zero_le _) hlt
        omega
      have loop : ∀ (d j k : Nat), d = ff (mxl x) (gn x) - j → j ≤ ff (mxl x) (gn x) → d < k → mf_firstOf_C2 w k (nI (ln x L)) (nI j) = some (nI (ff (mxl x) (gn x))) := by
        intro d
        induction d with
        | zero =>
          intro j k hd hj hk
          have ej : j = ff (mxl x) (gn x) := by omega
          obtain ⟨k, rfl⟩ : ∃ z, k = z + 1 := ⟨k - 1, by omega⟩
          obtain ⟨b1, b2, b3, b4, b5, b6, b7⟩ := h.at hx (show j < gn x by omega)
          rw [mf_firstOf_C2, gi_i (ii_ix b6 (by decide)), ii_cl (by omega), b1, gi_i (ii_ix b2 (by decide)), ii_cl (by omega), b4, if_pos (by rw [ej, hmx]), ej]
        | succ d ih =>
          intro j k hd hj hk
          obtain ⟨k, rfl⟩ : ∃ z, k = z + 1 := ⟨k - 1, by omega⟩
          obtain ⟨b1, b2, b3, b4, b5, b6, b7⟩ := h.at hx (show j < gn x by omega)
          have hne : ln x j ≠ ln x L := by
            intro q
            have := g2 j (by omega)
            unfold mxl at this
            have := of_decide_eq_false this
            exact this (fun i hi => by rw [q]; exact hl i (Nat.zero_le _) hi)
          rw [mf_firstOf_C2, gi_i (ii_ix b6 (by decide)), ii_cl (by omega), b1, gi_i (ii_ix b2 (by decide)), ii_cl (by omega), b4, if_neg (ii_ne hne (by omega) (by omega)), nm_i, nI_1]
          exact ih (j + 1) k (by omega) (by omega) (by omega)
      have h49 := nb_le49 (gk x) (gW x) (gs x)
      have h49' : gn x ≤ 49 := h49
      have := loop _ 0 fu rfl (Nat.zero_le _) (fu_gt (by omega))
      unfold mf_firstOf
      rw [bn_i (show mf_firstOf_C2 w fu (nI (ln x L)) (0 : Int32) = some (nI (ff (mxl x) (gn x))) from this), e]
    · have hw : ff (wn x) (gn x) = f := ff_eq f2 (fun j hj => f3 j (Nat.zero_le _) hj) _ f1
      have e : ansI x = f := by unfold ansI; rw [hw, if_pos f1]
      have h49 := nb_le49 (gk x) (gW x) (gs x)
      have h49' : gn x ≤ 49 := h49
      rw [if_neg (nI_pos (by omega)), e]
  | m + 1, n + 1, x3, L, hm, hn, hf, hL, hl => by
    obtain ⟨a1, a2, a3, a4, a5, a6, a7⟩ := h.at hx (show m < gn x by omega)
    obtain ⟨b1, b2, b3, b4, b5, b6, b7⟩ := h.at hx hL
    have step : ∀ t0 : Int32, ((t0 = (-1) ∧ ∀ j, m ≤ j → j < gn x → wn x j = false) ∨ (∃ f, t0 = nI f ∧ m ≤ f ∧ f < gn x ∧ wn x f = true ∧ ∀ j, m ≤ j → j < f → wn x j = false)) → mf_answer_C82 (mf_answer_C56 n) x1 (nI L) (nI m) t0 w = mf_answer_C149 x1 (nI (ansI x)) w := by
      intro t0 ht
      unfold mf_answer_C82
      rw [gi_i (ii_ix a6 (by decide)), ii_cl (show m < 2 ^ 31 by omega), a1, gi_i (ii_ix a2 (by decide)), gi_i (ii_ix b6 (by decide)), ii_cl (show L < 2 ^ 31 by omega), b1, gi_i (ii_ix b2 (by decide)), ii_cl (show nxt x m < 2 ^ 31 by omega), ii_cl (show nxt x L < 2 ^ 31 by omega), a4, b4]
      by_cases e : ln x m < ln x L
      · rw [if_pos ((nI_ltI (by omega) (by omega)).mpr e), nm_i]
        exact mf_answer_loop h hx h0 m n t0 L (by omega) (by omega) ht hL (fun j hj1 hj2 => by
          by_cases q : j = m
          · subst q; omega
          · exact hl j (by omega) hj2)
      · rw [if_neg (fun q => e ((nI_ltI (by omega) (by omega)).mp q)), nm_i]
        exact mf_answer_loop h hx h0 m n t0 m (by omega) (by omega) ht (by omega) (fun j hj1 hj2 => by
          by_cases q : j = m
          · subst q; exact Nat.le_refl _
          · have := hl j (by omega) hj2; omega)
    rw [mf_answer_C56, pk_m1, if_neg (nI_pos (by omega)), gi_i (ii_ix a6 (by decide)), ii_cl (show m < 2 ^ 31 by omega), a1, gi_i (ii_ix a2 (by decide)), ii_cl (show nxt x m < 2 ^ 31 by omega), a3]
    by_cases e : wn x m = true
    · rw [if_pos e, if_pos (show nI 0 = (0 : Int32) from rfl)]
      exact step _ (Or.inr ⟨m, rfl, Nat.le_refl _, by omega, e, fun j h1 h2 => by omega⟩)
    · rw [if_neg e, if_neg (show ¬ (nI 1 = (0 : Int32)) by decide)]
      refine step _ ?_
      have e' : wn x m = false := Bool.eq_false_iff.mpr e
      rcases hf with ⟨h1, h2⟩ | ⟨f, h1, h2, h3, h4, h5⟩
      · refine Or.inl ⟨h1, fun j hj1 hj2 => ?_⟩
        by_cases q : j = m
        · subst q; exact e'
        · exact h2 j (by omega) hj2
      · refine Or.inr ⟨f, h1, by omega, h3, h4, fun j hj1 hj2 => ?_⟩
        by_cases q : j = m
        · subst q; exact e'
        · exact h5 j (by omega) hj2
theorem ansI_lt {x : AG} (h0 : 0 < gn x) : ansI x < gn x := by
  unfold ansI
  split
  · assumption
  · rcases Nat.lt_or_ge (ff (mxl x) (gn x)) (gn x) with q | q
    · exact q
    · exfalso
      obtain ⟨M, hM1, hM2⟩ := max_ex (P := fun v => ∃ j, j < gn x ∧ ln x j = v) (B := (sm (fun j => ln x j + 1) (gn x)) + 1) (fun v ⟨j, hj, e⟩ => by
        have := sm_ix (f := fun j => ln x j + 1) (n := gn x) hj (show ln x j < ln x j + 1 by omega)
        omega) ⟨_, 0, h0, rfl⟩
      obtain ⟨L, hL, e⟩ := hM1
      have hmL : mxl x L = true := decide_eq_true (fun j hj => by rw [e]; exact hM2 _ ⟨j, hj, rfl⟩)
      have := ff_of hmL
      have := this (gn x) hL
      omega
noncomputable def a_answer (n : Nat) (G : Nat → AG) (x : Int32) : AR := if isG n x then (if gn (G (ixN x)) = 0 then (-1003, n, G) else if gd_ (G (ixN x)) = 100 then (-1004, n, G) else (nI (ansI (G (ixN x))), n, upG G (ixN x) (doB (G (ixN x)) (ansI (G (ixN x)))))) else (-1001, n, G)
theorem MI.answer {n : Nat} {G : Nat → AG} {w : mW} (h : MI n G w) (x : Int32) : ∃ w', mf_answer x w = some ((a_answer n G x).1, w') ∧ MI (a_answer n G x).2.1 (a_answer n G x).2.2 w' := by
  unfold mf_answer a_answer
  rw [bn_i (h.isGame x)]
  by_cases hx : isG n x = true
  · obtain ⟨w1, w2, a1, a2, b1, b2, b3⟩ := h.look hx
    obtain ⟨h1, h2, h3, h4, h5⟩ := h.get hx
    have h49 := nb_le49 (gk (G (ixN x))) (gW (G (ixN x))) (gs (G (ixN x)))
    have h49' : gn (G (ixN x)) ≤ 49 := h49
    have hd := h4.2.2.2.2.2.2.2.1
    have m4 := (b2.2.2.1 _ h1).2.2.2.2.1
    rw [if_pos hx, if_neg (by decide), bn_i a1, bn2_i b1, if_pos hx]
    by_cases e0 : gn (G (ixN x)) = 0
    · refine ⟨w2, ?_, by rw [if_pos e0]; exact b2⟩
      rw [if_pos (show nI (gn (G (ixN x))) = (0 : Int32) by rw [e0]; rfl), if_pos e0]
    · rw [if_neg (ii_ne0 e0 (by omega)), gi_i (h.ix hx).2, (h.ix hx).1, m4, if_neg e0]
      by_cases e : gd_ (G (ixN x)) = 100
      · refine ⟨w2, ?_, by rw [if_pos e]; exact b2⟩
        rw [if_pos (show nI (gd_ (G (ixN x))) = (100 : Int32) by rw [e]; rfl), if_pos e]
      · have hlt := ansI_lt (x := G (ixN x)) (by omega)
        obtain ⟨w', c1, c2⟩ := b2.done h1 hlt (by omega) (b3.2 _ hlt)
        have c1' : mf_done x (nI (ansI (G (ixN x)))) w2 = some (nI (nxt (G (ixN x)) (ansI (G (ixN x)))), w') := by
          rw [← c1, ← h2]
        refine ⟨w', ?_, by rw [if_neg e]; exact c2⟩
        rw [if_neg (show ¬ (nI (gd_ (G (ixN x))) = (100 : Int32)) from ii_ne (m := 100) e (by omega) (by decide)), nm_i, if_neg e, sub1]
        have loop := mf_answer_loop (x1 := x) b3 h4 (by omega) (gn (G (ixN x))) fu (-1) 0 (Nat.le_refl _) (fu_gt (by omega)) (Or.inl ⟨rfl, fun j h1 h2 => by omega⟩) (by omega) (fun j h1 h2 => by omega)
        refine Eq.trans loop ?_
        unfold mf_answer_C149
        rw [bn2_i c1']
  · refine ⟨w, ?_, by rw [if_neg hx]; exact h⟩
    rw [if_neg hx, if_pos rfl, if_neg hx]
