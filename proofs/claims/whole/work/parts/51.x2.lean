/-! ===== class: the tally ===== -/
theorem x_sl64 : ∀ v, v < 64 → (((nI v).toInt64 &&& 63).toBitVec.smod 64) = BitVec.ofNat 64 v := by decide +kernel
theorem x_lbit (x : Int64) {v : Nat} (hv : v < 64) : (x >>> ((nI v).toInt64 &&& 63)) &&& (1 : Int64) = if x.toBitVec.getLsbD v then 1 else 0 := by
  apply Int64.toBitVec_inj.mp
  rw [Int64.toBitVec_and, Int64.toBitVec_shiftRight, x_sl64 v hv]
  apply BitVec.eq_of_getLsbD_eq
  intro i hi
  rw [BitVec.getLsbD_and]
  have e1 : (1 : Int64).toBitVec.getLsbD i = decide (i = 0) := by
    show (1#64).getLsbD i = _
    rw [BitVec.getLsbD_one]
    simp
  rw [e1]
  by_cases h : i = 0
  · subst h
    cases hb : x.toBitVec.getLsbD v
    · simp [BitVec.sshiftRight', BitVec.getLsbD_sshiftRight, Nat.mod_eq_of_lt hv, hb]
      rw [Nat.mod_eq_of_lt (by omega), ← BitVec.getLsbD_eq_getElem, BitVec.getLsbD_sshiftRight]
      simp [hv]
      rw [← BitVec.getLsbD_eq_getElem]
      exact hb
    · simp [BitVec.sshiftRight', BitVec.getLsbD_sshiftRight, Nat.mod_eq_of_lt hv, hb]
      rw [Nat.mod_eq_of_lt (by omega), ← BitVec.getLsbD_eq_getElem, BitVec.getLsbD_sshiftRight]
      simp [hb, hv]
  · simp [h]
    split
    · show (1#64).getLsbD i = false
      rw [BitVec.getLsbD_one]; simp [h]
    · show (0#64).getLsbD i = false
      simp
theorem x_lor (x : Int64) {v : Nat} (hv : v < 64) {u : Nat} (hu : u < 64) : (x ||| ((1 : Int64) <<< ((nI v).toInt64 &&& 63))).toBitVec.getLsbD u = (x.toBitVec.getLsbD u || decide (u = v)) := by
  rw [Int64.toBitVec_or, Int64.toBitVec_shiftLeft, x_sl64 v hv, BitVec.getLsbD_or]
  congr 1
  show ((1#64) <<< (BitVec.ofNat 64 v)).getLsbD u = _
  rw [BitVec.shiftLeft_eq', BitVec.getLsbD_shiftLeft, BitVec.toNat_ofNat, Nat.mod_eq_of_lt (by omega), BitVec.getLsbD_one]
  simp
  by_cases h : u = v
  · subst h; simp [hu]
  · by_cases h2 : u < v
    · simp [h, h2]
    · have h3 : u - v ≠ 0 := by omega
      simp [h, h3]
theorem x_l1 : ¬ (lg_cmp (1 : Int64) (0 : Int64) = 0) := by decide
theorem x_l0 : lg_cmp (0 : Int64) (0 : Int64) = 0 := by decide
theorem x_lz (v : Nat) : (0 : Int64).toBitVec.getLsbD v = false := by
  show (0#64).getLsbD v = false
  simp
/-- a state's facts, packed -/
def pk3 (a b c : Nat) : Nat := a * 65536 + c * 256 + b
abbrev F3 : Type := Nat × Nat × Nat
def pF (t : F3) : Nat := pk3 t.1 t.2.1 t.2.2
def Le3 (r : Nat) (t : F3) : Nat := if r = 0 then t.2.1 else t.2.2
def B3 (t : F3) : Prop := t.1 ≤ 50 ∧ t.2.1 ≤ 50 ∧ t.2.2 ≤ 50
theorem pF_lt {t : F3} (h : B3 t) : pF t < 2 ^ 31 := by
  unfold B3 at h; unfold pF pk3; omega
theorem x_255 {a : Nat} (h : a < 2 ^ 31) : nI a &&& (255 : Int32) = nI (a % 256) := by
  rw [show (255 : Int32) = nI 255 from rfl, ii_and, show (255 : Nat) = 2 ^ 8 - 1 from rfl, Nat.and_two_pow_sub_one_eq_mod]
theorem xf_worthIn_eq {t : F3} (h : B3 t) : xf_C_worthIn (nI (pF t)) = some (nI t.1) := by
  unfold xf_C_worthIn
  have hp := pF_lt h
  rw [show (16 : Int32) = nI 16 from rfl, ii_shr (by decide) hp, x_255 (by omega)]
  unfold B3 at h
  have e : pF t / 2 ^ 16 % 256 = t.1 := by unfold pF pk3; omega
  rw [e]
theorem xf_lengthIn_eq {t : F3} (h : B3 t) {r : Nat} (hr : r < 2) : xf_C_lengthIn (nI (pF t)) (nI r) = some (nI (Le3 r t)) := by
  unfold xf_C_lengthIn
  have hp := pF_lt h
  unfold B3 at h
  rcases (show r = 0 ∨ r = 1 by omega) with rfl | rfl
  · rw [if_pos (show nI 0 = (0 : Int32) from rfl), x_255 hp]
    have e : pF t % 256 = t.2.1 := by unfold pF pk3; omega
    rw [e]; rfl
  · rw [if_neg (show ¬ nI 1 = (0 : Int32) by decide), show (8 : Int32) = nI 8 from rfl, ii_shr (by decide) hp, x_255 (by omega)]
    have e : pF t / 2 ^ 8 % 256 = t.2.2 := by unfold pF pk3; omega
    rw [e]; rfl
theorem xf_isWon_eq {L r : Nat} (hL : L < 2 ^ 31) (hr : r < 2) : xf_C_isWon (nI L) (nI r) = some (if L % 2 = r then 1 else 0) := by
  unfold xf_C_isWon
  rw [show (1 : Int32) = nI 1 from rfl, ii_and, Nat.and_one_is_mod]
  by_cases h : L % 2 = r
  · rw [if_pos (by rw [h]), if_pos h]; rfl
  · rw [if_neg (fun q => h ((nI_eq (by omega) (by omega)).mp q)), if_neg h]; rfl
/-- the tally behind what P holds -/
def TW (x : Int64) (P : F3 → Prop) : Prop := ∀ v, v < 64 → (x.toBitVec.getLsbD v = true ↔ ∃ t, P t ∧ t.1 = v)
def TL (x : Int32) (P : F3 → Prop) (r : Nat) : Prop := (x = nI 255 ∧ ∀ t, P t → Le3 r t % 2 = r) ∨ ∃ m, m ≤ 50 ∧ x = nI m ∧ m % 2 ≠ r ∧ (∃ t, P t ∧ Le3 r t = m) ∧ ∀ t, P t → Le3 r t % 2 ≠ r → m ≤ Le3 r t
def TG (x : Int32) (P : F3 → Prop) (r : Nat) : Prop := (x = (-1) ∧ ∀ t, ¬ P t) ∨ ∃ m, m ≤ 50 ∧ x = nI m ∧ (∃ t, P t ∧ Le3 r t = m) ∧ ∀ t, P t → Le3 r t ≤ m
def TI (w : xW) (P : F3 → Prop) : Prop := TW w.2.2.2.2 P ∧ ∀ r, r < 2 → TL (w.2.1 10 r) P r ∧ TG (w.2.1 11 r) P r
/-- only the tally differs -/
def Ta (w w' : xW) : Prop := w'.1 = w.1 ∧ (∀ c, c ≠ 10 → c ≠ 11 → w'.2.1 c = w.2.1 c) ∧ w'.2.2.1 = w.2.2.1 ∧ w'.2.2.2.1 = w.2.2.2.1
theorem Ta.rf (w : xW) : Ta w w := ⟨rfl, fun _ _ _ => rfl, rfl, rfl⟩
theorem Ta.tr {a b c : xW} (h : Ta a b) (g : Ta b c) : Ta a c := ⟨g.1.trans h.1, fun k h1 h2 => (g.2.1 k h1 h2).trans (h.2.1 k h1 h2), g.2.2.1.trans h.2.2.1, g.2.2.2.trans h.2.2.2⟩
theorem Ta.R10 (w : xW) (f : Nat → Int32) : Ta w (xR w 10 f) := ⟨rfl, fun k h1 _ => xR_ne w f h1, rfl, rfl⟩
theorem Ta.R11 (w : xW) (f : Nat → Int32) : Ta w (xR w 11 f) := ⟨rfl, fun k _ h2 => xR_ne w f h2, rfl, rfl⟩
theorem Ta.L (w : xW) (v : Int64) : Ta w (xL w v) := ⟨rfl, fun _ _ _ => rfl, rfl, rfl⟩
theorem xf_begin_eq (w : xW) : ∃ w', xf_T_begin w = some w' ∧ Ta w w' ∧ TI w' (fun _ => False) := by
  unfold xf_T_begin
  rw [nm_i]
  refine ⟨xU (xU (xU (xU (xL w 0) 10 0 255) 11 0 (-1)) 10 1 255) 11 1 (-1), rfl, ?_, ?_, ?_⟩
  · rw [xU_R, xU_R, xU_R, xU_R]
    exact (Ta.L w 0).tr ((Ta.R10 _ _).tr ((Ta.R11 _ _).tr ((Ta.R10 _ _).tr (Ta.R11 _ _))))
  · intro v hv
    show (0 : Int64).toBitVec.getLsbD v = true ↔ _
    rw [x_lz]
    exact ⟨fun h => absurd h (by decide), fun ⟨t, h, _⟩ => h.elim⟩
  · intro r hr
    rcases (show r = 0 ∨ r = 1 by omega) with rfl | rfl
    · exact ⟨Or.inl ⟨rfl, fun t h => h.elim⟩, Or.inl ⟨rfl, fun t h => h⟩⟩
    · exact ⟨Or.inl ⟨rfl, fun t h => h.elim⟩, Or.inl ⟨rfl, fun t h => h⟩⟩
theorem Le3_le {t : F3} (h : B3 t) (r : Nat) : Le3 r t ≤ 50 := by
  unfold B3 at h
  unfold Le3
  split <;> omega
theorem TW.add {x : Int64} {P : F3 → Prop} {t : F3} (h : TW x P) (ht : B3 t) : TW (x ||| ((1 : Int64) <<< ((nI t.1).toInt64 &&& 63))) (fun u => P u ∨ u = t) := fun v hv => by
  unfold B3 at ht
  rw [x_lor x (show t.1 < 64 by omega) hv, Bool.or_eq_true, h v hv, decide_eq_true_iff]
  constructor
  · rintro (⟨u, h1, h2⟩ | h1)
    · exact ⟨u, Or.inl h1, h2⟩
    · exact ⟨t, Or.inr rfl, h1.symm⟩
  · rintro ⟨u, h1 | rfl, h2⟩
    · exact Or.inl ⟨u, h1, h2⟩
    · exact Or.inr h2.symm
theorem TG.add {x : Int32} {P : F3 → Prop} {t : F3} {r : Nat} (h : TG x P r) (ht : B3 t) : TG (imax x (nI (Le3 r t))) (fun u => P u ∨ u = t) r := by
  have hl := Le3_le ht r
  rcases h with ⟨rfl, h⟩ | ⟨m, h1, rfl, ⟨u, h2, h3⟩, h4⟩
  · right
    refine ⟨Le3 r t, hl, ?_, ⟨t, Or.inr rfl, rfl⟩, ?_⟩
    · unfold imax
      refine if_pos ?_
      rw [Int32.lt_iff_toInt_lt, nI_toInt (by omega)]
      have : (-1 : Int32).toInt = -1 := by decide
      omega
    · rintro u (hu | rfl)
      · exact absurd hu (h u)
      · exact Nat.le_refl _
  · right
    rw [imax_eq (by omega) (by omega)]
    by_cases hm : m < Le3 r t
    · rw [if_pos hm]
      refine ⟨_, hl, rfl, ⟨t, Or.inr rfl, rfl⟩, ?_⟩
      rintro v (hv | rfl)
      · have := h4 v hv; omega
      · exact Nat.le_refl _
    · rw [if_neg hm]
      refine ⟨_, h1, rfl, ⟨u, Or.inl h2, h3⟩, ?_⟩
      rintro v (hv | rfl)
      · exact h4 v hv
      · omega
theorem TL.won {x : Int32} {P : F3 → Prop} {t : F3} {r : Nat} (h : TL x P r) (hw : Le3 r t % 2 = r) : TL x (fun u => P u ∨ u = t) r := by
  rcases h with ⟨rfl, h⟩ | ⟨m, h1, rfl, h2, ⟨u, h3, h4⟩, h5⟩
  · left
    refine ⟨rfl, ?_⟩
    rintro u (hu | rfl)
    · exact h u hu
    · exact hw
  · right
    refine ⟨m, h1, rfl, h2, ⟨u, Or.inl h3, h4⟩, ?_⟩
    rintro v (hv | rfl) hn
    · exact h5 v hv hn
    · exact absurd hw hn
theorem TL.lost {x : Int32} {P : F3 → Prop} {t : F3} {r : Nat} (h : TL x P r) (ht : B3 t) (hw : Le3 r t % 2 ≠ r) : TL (imin x (nI (Le3 r t))) (fun u => P u ∨ u = t) r := by
  have hl := Le3_le ht r
  right
  rcases h with ⟨rfl, h⟩ | ⟨m, h1, rfl, h2, ⟨u, h3, h4⟩, h5⟩
  · rw [imin_eq (by omega) (by omega), if_neg (by omega)]
    refine ⟨_, hl, rfl, hw, ⟨t, Or.inr rfl, rfl⟩, ?_⟩
    rintro v (hv | rfl) hn
    · exact absurd (h v hv) hn
    · exact Nat.le_refl _
  · rw [imin_eq (by omega) (by omega)]
    by_cases hm : m ≤ Le3 r t
    · rw [if_pos hm]
      refine ⟨_, h1, rfl, h2, ⟨u, Or.inl h3, h4⟩, ?_⟩
      rintro v (hv | rfl) hn
      · exact h5 v hv hn
      · exact hm
    · rw [if_neg hm]
      refine ⟨_, hl, rfl, hw, ⟨t, Or.inr rfl, rfl⟩, ?_⟩
      rintro v (hv | rfl) hn
      · have := h5 v hv hn; omega
      · exact Nat.le_refl _
theorem xf_take_step {P : F3 → Prop} {t : F3} {w : xW} {r n : Nat} (ht : B3 t) (hr : r < 2) (hL : TL (w.2.1 10 r) P r) (hG : TG (w.2.1 11 r) P r) : ∃ f g, xf_T_take_C17 (n + 1) (nI (pF t)) (nI r) w = xf_T_take_C17 n (nI (pF t)) (nI (r + 1)) (xR (xR w 11 f) 10 g) ∧ TL (g r) (fun u => P u ∨ u = t) r ∧ TG (f r) (fun u => P u ∨ u = t) r ∧ ∀ q, q ≠ r → f q = w.2.1 11 q ∧ g q = w.2.1 10 q := by
  have hl := Le3_le ht r
  have h2 : ¬ ((2 : Int32) ≤ nI r) := fun h => by
    have := (nI_leI (a := 2) (b := r) (by decide) (by omega)).mp h
    omega
  have hx := ii_ix hr (by decide)
  have hc := ii_cl (n := r) (by omega)
  have e0 : xU w 11 r (imax (w.2.1 11 r) (nI (Le3 r t))) = xR w 11 (upd (w.2.1 11) r (imax (w.2.1 11 r) (nI (Le3 r t)))) := rfl
  have hG' := hG.add ht
  by_cases hw : Le3 r t % 2 = r
  · refine ⟨upd (w.2.1 11) r (imax (w.2.1 11 r) (nI (Le3 r t))), w.2.1 10, ?_, hL.won hw, ?_, fun q hq => ⟨upd_ne _ _ hq, rfl⟩⟩
    · rw [xf_T_take_C17, if_neg h2, bn_i (xf_lengthIn_eq ht hr), gi_i hx, nm_i, gi_i hx, nm_i, hc, bn_i (xf_isWon_eq (by omega) hr), if_pos hw, if_neg (by decide), nm_i, nI_1, e0]
      have e1 := xR_self (xR w 11 (upd (w.2.1 11) r (imax (w.2.1 11 r) (nI (Le3 r t))))) 10
      rw [xR_ne w (k := 10) (c := 11) _ (by decide)] at e1
      rw [e1]
    · rw [upd_at]; exact hG'
  · refine ⟨upd (w.2.1 11) r (imax (w.2.1 11 r) (nI (Le3 r t))), upd (w.2.1 10) r (imin (w.2.1 10 r) (nI (Le3 r t))), ?_, ?_, ?_, fun q hq => ⟨upd_ne _ _ hq, upd_ne _ _ hq⟩⟩
    · rw [xf_T_take_C17, if_neg h2, bn_i (xf_lengthIn_eq ht hr), gi_i hx, nm_i, gi_i hx, nm_i, hc, bn_i (xf_isWon_eq (by omega) hr), if_neg hw, if_pos rfl, gi_i hx, nm_i, gi_i hx, nm_i, nm_i, nI_1, e0]
      rfl
    · rw [upd_at]; exact hL.lost ht hw
    · rw [upd_at]; exact hG'
theorem xf_take_eq {P : F3 → Prop} {t : F3} {w : xW} (ht : B3 t) (hI : TI w P) : ∃ w', xf_T_take (nI (pF t)) w = some w' ∧ Ta w w' ∧ TI w' (fun u => P u ∨ u = t) := by
  obtain ⟨h1, h2⟩ := hI
  unfold xf_T_take
  rw [bn_i (xf_worthIn_eq ht), nm_i]
  generalize hv : (w.2.2.2.2 ||| ((1 : Int64) <<< ((nI t.1).toInt64 &&& 63))) = v
  obtain ⟨f, g, a1, a2, a3, a4⟩ := xf_take_step (n := 39999) (w := xL w v) (r := 0) ht (by decide) (h2 0 (by decide)).1 (h2 0 (by decide)).2
  have b4 := a4 1 (by decide)
  generalize hw1 : xR (xR (xL w v) 11 f) 10 g = w1 at a1
  have c10 : w1.2.1 10 = g := by rw [← hw1]; exact xR_at _ _ _
  have c11 : w1.2.1 11 = f := by rw [← hw1, xR_ne _ _ (by decide)]; exact xR_at _ _ _
  obtain ⟨f', g', d1, d2, d3, d4⟩ := xf_take_step (P := P) (t := t) (n := 39998) (w := w1) (r := 1) ht (by decide) (by rw [c10, b4.2]; exact (h2 1 (by decide)).1) (by rw [c11, b4.1]; exact (h2 1 (by decide)).2)
  have d5 := d4 0 (by decide)
  refine ⟨xR (xR w1 11 f') 10 g', ?_, ?_, ?_, ?_⟩
  · refine (a1.trans (d1.trans ?_))
    rw [xf_T_take_C17]
    exact if_pos (by decide)
  · rw [← hw1]
    exact (Ta.L w v).tr ((Ta.R11 _ _).tr ((Ta.R10 _ _).tr ((Ta.R11 _ _).tr (Ta.R10 _ _))))
  · rw [← hw1, ← hv]
    exact h1.add ht
  · intro r hr
    rw [xR_at, xR_ne _ _ (by decide), xR_at]
    rcases (show r = 0 ∨ r = 1 by omega) with rfl | rfl
    · rw [d5.1, d5.2, c10, c11]; exact ⟨a2, a3⟩
    · exact ⟨d2, d3⟩
theorem xf_lm_loop {w : xW} {m : Nat} (hm : m < 63) (h0 : w.2.2.2.2.toBitVec.getLsbD m = false) (h1 : ∀ v, v < m → w.2.2.2.2.toBitVec.getLsbD v = true) : ∀ (d v n : Nat), d = m - v → v ≤ m → d < n → xf_T_leastMissing_C2 w n (nI v) = some (nI m)
  | d, v, 0, _, _, hn => by omega
  | 0, v, n + 1, hd, hv, hn => by
    have e : v = m := by omega
    subst e
    rw [xf_T_leastMissing_C2, if_neg (fun h => by
      have := (nI_leI (a := 63) (b := v) (by decide) (by omega)).mp h
      omega), x_lbit _ (by omega), h0, if_neg (show ¬ (false = true) by decide), if_pos x_l0]
  | d + 1, v, n + 1, hd, hv, hn => by
    rw [xf_T_leastMissing_C2, if_neg (fun h => by
      have := (nI_leI (a := 63) (b := v) (by decide) (by omega)).mp h
      omega), x_lbit _ (by omega), h1 v (by omega), if_pos rfl, if_neg x_l1, nm_i, nI_1]
    exact xf_lm_loop hm h0 h1 d (v + 1) n (by omega) (by omega) (by omega)
theorem T_len {x y : Int32} {P : F3 → Prop} {r : Nat} (hL : TL x P r) (hG : TG y P r) : ∃ b, b ≤ 51 ∧ (if (255 : Int32) ≤ x then y else x) + 1 = nI b ∧ Len r (fun z => ∃ t, P t ∧ Le3 r t = z) b := by
  rcases hL with ⟨rfl, h⟩ | ⟨m, h1, rfl, h2, ⟨u, h3, h4⟩, h5⟩
  · rw [if_pos (by decide)]
    rcases hG with ⟨rfl, g⟩ | ⟨m, g1, rfl, ⟨u, g2, g3⟩, g4⟩
    · exact ⟨0, by decide, by decide, Or.inl ⟨fun z ⟨t, ht, _⟩ => g t ht, rfl⟩⟩
    · exact ⟨m + 1, by omega, nI_1 m, Or.inr (Or.inr ⟨fun z ⟨t, ht, e⟩ => e ▸ h t ht, m, ⟨u, g2, g3⟩, fun z ⟨t, ht, e⟩ => e ▸ g4 t ht, rfl⟩)⟩
  · rw [if_neg (fun h => by
      have := (nI_leI (a := 255) (b := m) (by decide) (by omega)).mp h
      omega)]
    exact ⟨m + 1, by omega, nI_1 m, Or.inr (Or.inl ⟨m, ⟨u, h3, h4⟩, h2, fun z ⟨t, ht, e⟩ hz => by
      subst e; exact h5 t ht hz, rfl⟩)⟩
theorem xf_facts_step {w : xW} {n b X : Nat} {r : Nat} (hr : r < 2) (h : (if (255 : Int32) ≤ w.2.1 10 r then w.2.1 11 r else w.2.1 10 r) + 1 = nI b) (hb : b ≤ 51) : xf_T_facts_C10 w (n + 1) (nI X) (nI r) = xf_T_facts_C10 w n (nI (X ||| b * 2 ^ (8 * r))) (nI (r + 1)) := by
  have h2 : ¬ ((2 : Int32) ≤ nI r) := fun h => by
    have := (nI_leI (a := 2) (b := r) (by decide) (by omega)).mp h
    omega
  have hx := ii_ix hr (by decide)
  have hc := ii_cl (n := r) (by omega)
  have e : ∀ t0 : Int32, t0 + 1 = nI b → xf_T_facts_C42 w (xf_T_facts_C10 w n) (nI X) (nI r) t0 = xf_T_facts_C10 w n (nI (X ||| b * 2 ^ (8 * r))) (nI (r + 1)) := fun t0 h0 => by
    unfold xf_T_facts_C42
    rw [h0, show (8 : Int32) * nI r = nI (8 * r) from (Int32.ofNat_mul 8 r).symm, ii_shl (by omega) (by
      rcases (show r = 0 ∨ r = 1 by omega) with rfl | rfl <;> omega), ii_or, nm_i, nm_i, nI_1]
  rw [xf_T_facts_C10, if_neg h2, gi_i hx, gi_i hx, gi_i hx, hc]
  by_cases h255 : (255 : Int32) ≤ w.2.1 10 r
  · rw [if_pos h255]
    rw [if_pos h255] at h
    exact e _ h
  · rw [if_neg h255]
    rw [if_neg h255] at h
    exact e _ h
theorem pk3_or {a b c : Nat} (hb : b < 256) (hc : c < 256) : (a * 2 ^ 16 ||| b * 2 ^ (8 * 0)) ||| c * 2 ^ (8 * 1) = pk3 a b c := by
  have h1 := Nat.two_pow_add_eq_or_of_lt (i := 8) (b := b) (by omega) c
  have h2 := Nat.two_pow_add_eq_or_of_lt (i := 16) (b := 2 ^ 8 * c + b) (by omega) a
  rw [show b * 2 ^ (8 * 0) = b by omega, show c * 2 ^ (8 * 1) = 2 ^ 8 * c by omega, Nat.or_assoc, Nat.or_comm b, ← h1, Nat.mul_comm a, ← h2]
  unfold pk3
  omega
theorem xf_facts_eq {w : xW} {P : F3 → Prop} (hI : TI w P) (hB : ∀ t, P t → B3 t) : ∃ a b c, xf_T_facts w = some (nI (pk3 a b c)) ∧ Mex (fun x => ∃ t, P t ∧ t.1 = x) a ∧ Len 0 (fun x => ∃ t, P t ∧ t.2.1 = x) b ∧ Len 1 (fun x => ∃ t, P t ∧ t.2.2 = x) c := by
  obtain ⟨h1, h2⟩ := hI
  have hb50 : ∀ x, (∃ t, P t ∧ t.1 = x) → x < 51 := fun x ⟨t, ht, e⟩ => by
    have := hB t ht
    unfold B3 at this
    omega
  obtain ⟨a, ha⟩ := mex_ex hb50
  have ha51 := ha.le hb50
  have h0 := h2 0 (by decide)
  have h1' := h2 1 (by decide)
  obtain ⟨b, b1, b2, b3⟩ := T_len h0.1 h0.2
  obtain ⟨c, c1, c2, c3⟩ := T_len h1'.1 h1'.2
  refine ⟨a, b, c, ?_, ha, b3, c3⟩
  unfold xf_T_facts
  have hlm := xf_lm_loop (w := w) (m := a) (by omega) (by
    cases hq : w.2.2.2.2.toBitVec.getLsbD a
    · rfl
    · exact absurd ((h1 a (by omega)).mp hq) ha.1) (fun v hv => (h1 v (by omega)).mpr (ha.2 v hv)) a 0 fu rfl (Nat.zero_le _) (fu_gt (by omega))
  have hlm' : xf_T_leastMissing w = some (nI a) := hlm
  rw [bn_i hlm', show (16 : Int32) = nI 16 from rfl, ii_shl (by decide) (by omega), nm_i]
  have e1 := xf_facts_step (w := w) (n := 39999) (b := b) (X := a * 2 ^ 16) (r := 0) (by decide) b2 b1
  have e2 := xf_facts_step (w := w) (n := 39998) (b := c) (X := a * 2 ^ 16 ||| b * 2 ^ (8 * 0)) (r := 1) (by decide) c2 c1
  refine e1.trans (e2.trans ?_)
  rw [pk3_or (by omega) (by omega), xf_T_facts_C10]
  exact if_pos (by decide)
