/-! ===== the reference: ranks, bites ===== -/
theorem rkT_s {b : Nat → Nat} {r : Nat} (hr : r < 7) : rkT b (7 - r) = les (7 - r) (b r) + rkT b (6 - r) := by
  have e : 7 - r = (6 - r) + 1 := by omega
  have e2 : 6 - (6 - r) = r := by omega
  rw [e]; show les (6 - r + 1) (b (6 - (6 - r))) + rkT b (6 - r) = _; rw [e2]
theorem rkT_le {b : Nat → Nat} {j : Nat} : ∀ n, j ≤ n → rkT b j ≤ rkT b n
  | 0, h => by have : j = 0 := by omega
               subst this; exact Nat.le_refl _
  | n + 1, h => by
    rcases Nat.lt_or_ge j (n + 1) with q | q
    · have := rkT_le (b := b) (j := j) n (by omega)
      show rkT b j ≤ les (n + 1) (b (6 - n)) + rkT b n
      omega
    · have : j = n + 1 := by omega
      subst this; exact Nat.le_refl _
theorem les_r (r v : Nat) (hr : r < 7) : les (7 - r) (v + 1) = les (7 - r) v + les (6 - r) (v + 1) := by
  have e : 7 - r = (6 - r) + 1 := by omega
  rw [e]; exact les_s (6 - r) v
theorem mf_rankOf_in {w : mW} {K : Int32 → Int32 → Option Int32} {b : Nat → Nat} {r : Nat} (hr : r < 7) (hb : w.2 15 r = nI (b r)) (h7 : b r ≤ 7) : ∀ (d v n acc : Nat), d = b r - v → v ≤ b r → d < n → mf_rankOf_C12 w K n (nI acc) (nI r) (nI v) = K (nI (acc + (les (7 - r) (b r) - les (7 - r) v))) (nI (r + 1))
  | d, v, 0, acc, _, _, hn => by omega
  | 0, v, n + 1, acc, hd, hv, hn => by
    have e : v = b r := by omega
    subst e
    rw [mf_rankOf_C12, gi_i (ii_ix hr (by decide)), ii_cl (by omega), hb, if_pos ((nI_leI (by omega) (by omega)).mpr (Nat.le_refl _)), Nat.sub_self]
    show K (nI acc) (nI r + (1 : Int32)) = _
    rw [nI_1]; rfl
  | d + 1, v, n + 1, acc, hd, hv, hn => by
    have h1 : ¬ (nI (b r) ≤ nI v) := fun h => by
      have := (nI_leI (by omega) (by omega)).mp h
      omega
    rw [mf_rankOf_C12, gi_i (ii_ix hr (by decide)), ii_cl (by omega), hb, if_neg h1]
    have e6 : (6 : Int32) - nI r = nI (6 - r) := ii_sub (a := 6) (by omega)
    rw [e6, bn_i (mf_rowsOf_eq (6 - r) (by omega) v (by omega))]
    show mf_rankOf_C12 w K n (nI acc + nI (les (6 - r) (v + 1))) (nI r) (nI v + (1 : Int32)) = _
    rw [nI_add, nI_1, mf_rankOf_in hr hb h7 d (v + 1) n (acc + les (6 - r) (v + 1)) (by omega) (by omega) (by omega)]
    have h2 := les_r r v hr
    have h3 := les_mono (7 - r) (show v + 1 ≤ b r by omega)
    rw [show acc + les (6 - r) (v + 1) + (les (7 - r) (b r) - les (7 - r) (v + 1)) = acc + (les (7 - r) (b r) - les (7 - r) v) by omega]
theorem mf_rankOf_out {w : mW} {b : Nat → Nat} (hF : Fall b) (hb : ∀ r, r < 7 → w.2 15 r = nI (b r)) : ∀ (d r n : Nat), d = 7 - r → r ≤ 7 → d < n → mf_rankOf_C4 w n (nI (rk b - rkT b (7 - r))) (nI r) = some (nI (rk b))
  | d, r, 0, _, _, hn => by omega
  | 0, r, n + 1, hd, hr, hn => by
    have e : r = 7 := by omega
    subst e
    rw [mf_rankOf_C4]
    exact if_pos ((nI_leI (by decide) (by decide)).mpr (Nat.le_refl 7))
  | d + 1, r, n + 1, hd, hr, hn => by
    have h1 : ¬ ((7 : Int32) ≤ nI r) := fun h => by
      have := (nI_leI (a := 7) (b := r) (by decide) (by omega)).mp h
      omega
    have h7 := Fall.le hF r (by omega)
    rw [mf_rankOf_C4, if_neg h1]
    refine (mf_rankOf_in (b := b) (by omega) (hb r (by omega)) h7 (b r) 0 fu _ rfl (Nat.zero_le _) (fu_gt (by omega))).trans ?_
    rw [les_0, Nat.sub_zero]
    have h2 := rkT_s (b := b) (show r < 7 by omega)
    have h3 := rkT_le (b := b) (j := 7 - r) 7 (by omega)
    rw [show rk b - rkT b (7 - r) + les (7 - r) (b r) = rk b - rkT b (7 - (r + 1)) by
      rw [show 7 - (r + 1) = 6 - r by omega]
      show rkT b 7 - rkT b (7 - r) + les (7 - r) (b r) = rkT b 7 - rkT b (6 - r)
      omega]
    exact mf_rankOf_out hF hb d (r + 1) n (by omega) (by omega) (by omega)
theorem mf_rankOf_eq {w : mW} {b : Nat → Nat} (hF : Fall b) (hb : ∀ r, r < 7 → w.2 15 r = nI (b r)) : mf_rankOf w = some (nI (rk b)) := by
  have := mf_rankOf_out hF hb 7 0 fu rfl (by omega) (fu_gt (by decide))
  rwa [show rk b - rkT b (7 - 0) = 0 from Nat.sub_self _] at this
/-- a world with another row at a cell -/
def mR (w : mW) (c : Nat) (f : Nat → Int32) : mW := (w.1, fun k => if k = c then f else w.2 k)
theorem mR_at (w : mW) (c : Nat) (f : Nat → Int32) : (mR w c f).2 c = f := if_pos rfl
theorem mR_ne (w : mW) {c k : Nat} (f : Nat → Int32) (h : k ≠ c) : (mR w c f).2 k = w.2 k := if_neg h
theorem mU_R (w : mW) (c i : Nat) (v : Int32) : mU w c i v = mR w c (upd (w.2 c) i v) := rfl
theorem mR_R (w : mW) (c : Nat) (f g : Nat → Int32) : mR (mR w c f) c g = mR w c g := by
  unfold mR
  refine Prod.ext rfl (funext fun k => ?_)
  show (if k = c then g else if k = c then f else w.2 k) = if k = c then g else w.2 k
  split <;> rfl
theorem mR_self (w : mW) (c : Nat) : mR w c (w.2 c) = w := by
  unfold mR
  refine Prod.ext rfl (funext fun k => ?_)
  show (if k = c then w.2 c else w.2 k) = w.2 k
  split
  · rename_i h; rw [h]
  · rfl
theorem upd_at (f : Nat → Int32) (i : Nat) (v : Int32) : upd f i v i = v := if_pos rfl
theorem upd_ne (f : Nat → Int32) {i j : Nat} (v : Int32) (h : j ≠ i) : upd f i v j = f j := if_neg h
theorem mf_unrank_in {w : mW} {K : Int32 → Int32 → mW → Option mW} {r L : Nat} (hr : r < 7) (hL : L < 2 ^ 31) {u : Nat} (hu : u ≤ 7) (hu1 : les (7 - r) u ≤ L) (hu2 : L < les (7 - r) (u + 1)) : ∀ (d v n : Nat), d = u - v → v ≤ u → d < n → mf_unrank_C13 K n (nI (L - les (7 - r) v)) (nI r) (nI v) w = K (nI (L - les (7 - r) u)) (nI (r + 1)) (mR w 15 (upd (w.2 15) r (nI u)))
  | d, v, 0, _, _, hn => by omega
  | 0, v, n + 1, hd, hv, hn => by
    have e : v = u := by omega
    subst e
    have e6 : (6 : Int32) - nI r = nI (6 - r) := ii_sub (a := 6) (by omega)
    have h2 := les_r r v hr
    have h3 : les (6 - r) (v + 1) < 2 ^ 31 := by
      have : ∀ a, a < 7 → ∀ v, v < 8 → les a (v + 1) < 2 ^ 31 := by decide +kernel
      exact this _ (by omega) _ (by omega)
    rw [mf_unrank_C13, e6, bn_i (mf_rowsOf_eq (6 - r) (by omega) v (by omega)), if_pos ((nI_ltI (by omega) h3).mpr (by omega)), gi_i (ii_ix hr (by decide)), ii_cl (by omega)]
    show K _ (nI r + (1 : Int32)) _ = _
    rw [nI_1]; rfl
  | d + 1, v, n + 1, hd, hv, hn => by
    have e6 : (6 : Int32) - nI r = nI (6 - r) := ii_sub (a := 6) (by omega)
    have h2 := les_r r v hr
    have h3 : les (6 - r) (v + 1) < 2 ^ 31 := by
      have : ∀ a, a < 7 → ∀ v, v < 8 → les a (v + 1) < 2 ^ 31 := by decide +kernel
      exact this _ (by omega) _ (by omega)
    have h4 := les_mono (7 - r) (show v + 1 ≤ u by omega)
    have h5 : ¬ (nI (L - les (7 - r) v) < nI (les (6 - r) (v + 1))) := fun h => by
      have := (nI_ltI (by omega) h3).mp h
      omega
    rw [mf_unrank_C13, e6, bn_i (mf_rowsOf_eq (6 - r) (by omega) v (by omega)), if_neg h5, bn_i (mf_rowsOf_eq (6 - r) (by omega) v (by omega))]
    show mf_unrank_C13 K n (nI (L - les (7 - r) v) - nI (les (6 - r) (v + 1))) (nI r) (nI v + (1 : Int32)) w = _
    rw [ii_sub (by omega), nI_1, show L - les (7 - r) v - les (6 - r) (v + 1) = L - les (7 - r) (v + 1) by omega]
    exact mf_unrank_in hr hL hu hu1 hu2 d (v + 1) n (by omega) (by omega) (by omega)
theorem mf_unrank_out {s : Nat} (hs : s < 3432) : ∀ (d r n : Nat) (w : mW), d = 7 - r → r ≤ 7 → d < n → (∀ q, q < r → w.2 15 q = nI (ub s q)) → ∃ f, mf_unrank_C4 n (nI (lf s r)) (nI r) w = some (mR w 15 f) ∧ ∀ q, q < 7 → f q = nI (ub s q)
  | d, r, 0, w, _, _, hn, _ => by omega
  | 0, r, n + 1, w, hd, hr, hn, hq => by
    have e : r = 7 := by omega
    subst e
    refine ⟨w.2 15, ?_, hq⟩
    rw [mf_unrank_C4, mR_self]
    exact if_pos ((nI_leI (by decide) (by decide)).mpr (Nat.le_refl 7))
  | d + 1, r, n + 1, w, hd, hr, hn, hq => by
    have h1 : ¬ ((7 : Int32) ≤ nI r) := fun h => by
      have := (nI_leI (a := 7) (b := r) (by decide) (by omega)).mp h
      omega
    have hle : lf s r ≤ s := by
      have : ∀ r, lf s r ≤ s := fun r => by
        induction r with
        | zero => exact Nat.le_refl _
        | succ r ih => rw [lf_s]; omega
      exact this r
    rw [mf_unrank_C4, if_neg h1]
    have h2 := mf_unrank_in (w := w) (K := mf_unrank_C4 n) (r := r) (L := lf s r) (u := ub s r) (by omega) (by omega) (gv_7 _ _) (gv_in _ _) (lf_lt hs r (by omega)).1 (ub s r) 0 fu rfl (Nat.zero_le _) (fu_gt (by have : ub s r ≤ 7 := gv_7 _ _
                                                                                                                                                                                                                    omega))
    rw [les_0, Nat.sub_zero] at h2
    obtain ⟨f, hf1, hf2⟩ := mf_unrank_out hs d (r + 1) n (mR w 15 (upd (w.2 15) r (nI (ub s r)))) (by omega) (by omega) (by omega) (fun q hq1 => by
      rw [mR_at]
      rcases Nat.lt_or_ge q r with h | h
      · rw [upd_ne _ _ (by omega)]; exact hq q h
      · have : q = r := by omega
        subst this; exact upd_at _ _ _)
    refine ⟨f, ?_, hf2⟩
    rw [mR_R] at hf1
    rw [← hf1, lf_s]
    exact h2
theorem mf_unrank_eq {s : Nat} (hs : s < 3432) (w : mW) : ∃ f, mf_unrank (nI s) w = some (mR w 15 f) ∧ ∀ q, q < 7 → f q = nI (ub s q) :=
  mf_unrank_out hs 7 0 fu w rfl (by omega) (fu_gt (by decide)) (fun q h => by omega)
/-- only the scratch cells have changed -/
def Sc (w w' : mW) : Prop := w'.1 0 = w.1 0 ∧ w'.1 1 = w.1 1 ∧ ∀ c, c < 15 → w'.2 c = w.2 c
theorem Sc.rf (w : mW) : Sc w w := ⟨rfl, rfl, fun _ _ => rfl⟩
theorem Sc.tr {a b c : mW} (h : Sc a b) (g : Sc b c) : Sc a c := ⟨g.1.trans h.1, g.2.1.trans h.2.1, fun k hk => (g.2.2 k hk).trans (h.2.2 k hk)⟩
theorem Sc.R {w : mW} {c : Nat} {f : Nat → Int32} (h : 15 ≤ c) : Sc w (mR w c f) := ⟨rfl, rfl, fun k hk => mR_ne w f (by omega)⟩
theorem Sc.S {w : mW} {v : Int32} : Sc w (mS w 2 v) := ⟨rfl, rfl, fun _ _ => rfl⟩
theorem mf_addNext_eq {w : mW} {n : Nat} (t : Int32) (hn : w.1 2 = nI n) (h : n < 49) : mf_addNext t w = some (mS (mR w 16 (upd (w.2 16) n t)) 2 (nI (n + 1))) := by
  unfold mf_addNext
  rw [hn, gi_i (ii_ix h (by decide)), ii_cl (by omega), mU_R]
  show some (mS (mR w 16 (upd (w.2 16) n t)) 2 (w.1 2 + (1 : Int32))) = _
  rw [hn, nI_1]
/-- the board is filled with what a bite leaves -/
theorem mf_bites_fill {K33 : Int32 → mW → Option mW} {K41 : Int32 → Int32 → mW → Option mW} {b : Nat → Nat} (hF : Fall b) {r c N : Nat} (hr : r < 7) (hc : c < b r) (hN : N < 49) : ∀ (d k n : Nat) (w : mW), d = 7 - k → k ≤ 7 → d < n → w.1 2 = nI N → (∀ q, q < 7 → w.2 18 q = nI (b q)) → (∀ q, q < k → w.2 15 q = nI (cutB b r c q)) → ∃ w', mf_bitesOfRows_C54 K33 K41 n (nI r) (nI c) (nI k) w = K41 (nI r) (nI (c + 1)) w' ∧ Sc w w' ∧ w'.1 2 = nI (N + 1) ∧ w'.2 18 = w.2 18 ∧ w'.2 16 = upd (w.2 16) N (nI (rk (cutB b r c)))
  | d, k, 0, w, _, _, hn, _, _, _ => by omega
  | 0, k, n + 1, w, hd, hk, hn, hw2, h18, h15 => by
    have e : k = 7 := by omega
    subst e
    have e1 := mf_rankOf_eq (cutB_fall hF (r := r) (c := c)) h15
    refine ⟨mS (mR w 16 (upd (w.2 16) N (nI (rk (cutB b r c))))) 2 (nI (N + 1)), ?_, ?_, rfl, ?_, ?_⟩
    · rw [mf_bitesOfRows_C54, if_pos (show (7 : Int32) ≤ nI 7 from (nI_leI (a := 7) (b := 7) (by decide) (by decide)).mpr (Nat.le_refl 7)), bn_i e1, bn_i (mf_addNext_eq _ hw2 hN)]
      show K41 (nI r) (nI c + (1 : Int32)) _ = _
      rw [nI_1]
    · exact (Sc.R (by decide)).tr Sc.S
    · show (mR w 16 (upd (w.2 16) N (nI (rk (cutB b r c))))).2 18 = w.2 18
      exact mR_ne w _ (by decide)
    · exact mR_at w 16 (upd (w.2 16) N (nI (rk (cutB b r c))))
  | d + 1, k, n + 1, w, hd, hk, hn, hw2, h18, h15 => by
    have h1 : ¬ ((7 : Int32) ≤ nI k) := fun h => by
      have := (nI_leI (a := 7) (b := k) (by decide) (by omega)).mp h
      omega
    have hb7 := Fall.le hF k (by omega)
    have hb7r := Fall.le hF r (by omega)
    have e : ∃ w1 : mW, mf_bitesOfRows_C54 K33 K41 (n + 1) (nI r) (nI c) (nI k) w = mf_bitesOfRows_C54 K33 K41 n (nI r) (nI c) (nI (k + 1)) w1 ∧ w1 = mR w 15 (upd (w.2 15) k (nI (cutB b r c k))) := by
      refine ⟨_, ?_, rfl⟩
      rw [mf_bitesOfRows_C54, if_neg h1]
      have fin : ∀ v : Int32, v = nI (cutB b r c k) → mf_bitesOfRows_C95 K33 K41 (mf_bitesOfRows_C54 K33 K41 n) (nI r) (nI c) (nI k) (nI k) v w = mf_bitesOfRows_C54 K33 K41 n (nI r) (nI c) (nI (k + 1)) (mR w 15 (upd (w.2 15) k (nI (cutB b r c k)))) := by
        intro v hv
        unfold mf_bitesOfRows_C95
        rw [gi_i (ii_ix (by omega) (by decide)), ii_cl (by omega), hv]
        show mf_bitesOfRows_C54 K33 K41 n (nI r) (nI c) (nI k + (1 : Int32)) _ = _
        rw [nI_1, mU_R]
      have fin2 : cutB b r c k = b k → mf_bitesOfRows_C88 K33 K41 (mf_bitesOfRows_C54 K33 K41 n) (nI r) (nI c) (nI k) (nI k) w = mf_bitesOfRows_C54 K33 K41 n (nI r) (nI c) (nI (k + 1)) (mR w 15 (upd (w.2 15) k (nI (cutB b r c k)))) := by
        intro hv
        unfold mf_bitesOfRows_C88
        rw [gi_i (ii_ix (by omega) (by decide)), ii_cl (by omega)]
        exact fin _ (by rw [h18 k (by omega), hv])
      by_cases hkr : k < r
      · rw [if_pos ((nI_ltI (by omega) (by omega)).mpr hkr)]
        exact fin2 (by unfold cutB; rw [if_neg (by omega)])
      · rw [if_neg (fun h => hkr ((nI_ltI (by omega) (by omega)).mp h)), gi_i (ii_ix (by omega) (by decide)), ii_cl (by omega), h18 k (by omega)]
        by_cases hbc : b k ≤ c
        · rw [if_pos ((nI_leI (by omega) (by omega)).mpr hbc)]
          exact fin2 (by unfold cutB; rw [if_neg (by omega)])
        · rw [if_neg (fun h => hbc ((nI_leI (by omega) (by omega)).mp h))]
          exact fin _ (by unfold cutB; rw [if_pos (by omega)])
    obtain ⟨w1, e1, rfl⟩ := e
    obtain ⟨w', g1, g2, g3, g4, g5⟩ := mf_bites_fill (K33 := K33) (K41 := K41) hF hr hc hN d (k + 1) n (mR w 15 (upd (w.2 15) k (nI (cutB b r c k)))) (by omega) (by omega) (by omega) hw2 (fun q hq => by rw [mR_ne w _ (by decide)]; exact h18 q hq) (fun q hq => by
      rw [mR_at]
      rcases Nat.lt_or_ge q k with h | h
      · rw [upd_ne _ _ (by omega)]; exact h15 q h
      · have : q = k := by omega
        subst this; exact upd_at _ _ _)
    rw [mR_ne w _ (by decide)] at g4 g5
    exact ⟨w', e1.trans g1, (Sc.R (by decide)).tr g2, g3, g4, g5⟩
/-- the bites at row r, columns c on, then the rows behind it -/
theorem mf_bites_row {K33 : Int32 → mW → Option mW} {b : Nat → Nat} (hF : Fall b) {r : Nat} (hr : r < 7) : ∀ (d c n : Nat) (w : mW), d = b r - c → c ≤ b r → d < n → w.1 2 = nI (sm b r + c) → (∀ q, q < 7 → w.2 18 q = nI (b q)) → (∀ r' c', r' < 7 → c' < b r' → sm b r' + c' < sm b r + c → w.2 16 (sm b r' + c') = nI (rk (cutB b r' c'))) → ∃ w', mf_bitesOfRows_C41 K33 n (nI r) (nI c) w = K33 (nI (r + 1)) w' ∧ Sc w w' ∧ w'.1 2 = nI (sm b (r + 1)) ∧ w'.2 18 = w.2 18 ∧ (∀ r' c', r' < 7 → c' < b r' → sm b r' + c' < sm b (r + 1) → w'.2 16 (sm b r' + c') = nI (rk (cutB b r' c')))
  | d, c, 0, w, _, _, hn, _, _, _ => by omega
  | 0, c, n + 1, w, hd, hc, hn, hw2, h18, h16 => by
    have e : c = b r := by omega
    have h7 := Fall.le hF r hr
    refine ⟨w, ?_, Sc.rf w, ?_, rfl, ?_⟩
    · rw [mf_bitesOfRows_C41, gi_i (ii_ix hr (by decide)), ii_cl (by omega), h18 r hr, if_pos ((nI_leI (by omega) (by omega)).mpr (by omega))]
      show K33 (nI r + (1 : Int32)) w = _
      rw [nI_1]
    · rw [hw2, e]; rfl
    · intro r' c' h1 h2 h3
      exact h16 r' c' h1 h2 (by rw [e]; exact h3)
  | d + 1, c, n + 1, w, hd, hc, hn, hw2, h18, h16 => by
    have h7 := Fall.le hF r hr
    have hN : sm b r + c < 49 := by
      have h1 := sm_ix (f := b) (n := 7) hr (show c < b r by omega)
      have h2 := sq_le hF
      unfold sq at h2
      omega
    obtain ⟨w1, g1, g2, g3, g4, g5⟩ := mf_bites_fill (K33 := K33) (K41 := mf_bitesOfRows_C41 K33 n) hF hr (show c < b r by omega) hN 7 0 fu w rfl (by omega) (fu_gt (by decide)) hw2 h18 (fun q hq => by omega)
    obtain ⟨w', k1, k2, k3, k4, k5⟩ := mf_bites_row (K33 := K33) hF hr d (c + 1) n w1 (by omega) (by omega) (by omega) g3 (fun q hq => by rw [g4]; exact h18 q hq) (fun r' c' h1 h2 h3 => by
      rw [g5]
      by_cases hx : sm b r' + c' = sm b r + c
      · obtain ⟨rfl, rfl⟩ := sm_ix_inj h2 (show c < b r by omega) hx
        exact upd_at _ _ _
      · rw [upd_ne _ _ hx]
        exact h16 r' c' h1 h2 (by omega))
    refine ⟨w', ?_, g2.tr k2, k3, k4.trans g4, k5⟩
    rw [← k1, ← g1, mf_bitesOfRows_C41, gi_i (ii_ix hr (by decide)), ii_cl (by omega), h18 r hr, if_neg (fun h => by
      have := (nI_leI (by omega) (by omega)).mp h
      omega)]
    rfl
theorem mf_bites_rows {b : Nat → Nat} (hF : Fall b) : ∀ (d r n : Nat) (w : mW), d = 7 - r → r ≤ 7 → d < n → w.1 2 = nI (sm b r) → (∀ q, q < 7 → w.2 18 q = nI (b q)) → (∀ r' c', r' < 7 → c' < b r' → sm b r' + c' < sm b r → w.2 16 (sm b r' + c') = nI (rk (cutB b r' c'))) → ∃ w', mf_bitesOfRows_C33 n (nI r) w = some w' ∧ Sc w w' ∧ w'.1 2 = nI (sm b 7) ∧ (∀ r' c', r' < 7 → c' < b r' → w'.2 16 (sm b r' + c') = nI (rk (cutB b r' c')))
  | d, r, 0, w, _, _, hn, _, _, _ => by omega
  | 0, r, n + 1, w, hd, hr, hn, hw2, h18, h16 => by
    have e : r = 7 := by omega
    subst e
    refine ⟨w, ?_, Sc.rf w, hw2, fun r' c' h1 h2 => h16 r' c' h1 h2 (sm_ix h1 h2)⟩
    rw [mf_bitesOfRows_C33]
    exact if_pos ((nI_leI (by decide) (by decide)).mpr (Nat.le_refl 7))
  | d + 1, r, n + 1, w, hd, hr, hn, hw2, h18, h16 => by
    have h7 := Fall.le hF r (by omega)
    obtain ⟨w1, g1, g2, g3, g4, g5⟩ := mf_bites_row (K33 := mf_bitesOfRows_C33 n) hF (show r < 7 by omega) (b r) 0 fu w rfl (Nat.zero_le _) (fu_gt (by omega)) hw2 h18 h16
    obtain ⟨w', k1, k2, k3, k4⟩ := mf_bites_rows hF d (r + 1) n w1 (by omega) (by omega) (by omega) g3 (fun q hq => by rw [g4]; exact h18 q hq) g5
    refine ⟨w', ?_, g2.tr k2, k3, k4⟩
    rw [← k1, ← g1, mf_bitesOfRows_C33, if_neg (fun h => by
      have := (nI_leI (a := 7) (b := r) (by decide) (by omega)).mp h
      omega)]
    rfl
theorem mf_bites_copy {b : Nat → Nat} (h7 : ∀ q, q < 7 → b q ≤ 7) : ∀ (d k n : Nat) (w : mW), d = 7 - k → k ≤ 7 → d < n → (∀ q, q < 7 → w.2 15 q = nI (b q)) → (∀ q, q < k → w.2 18 q = nI (b q)) → ∃ w', mf_bitesOfRows_C7 n (nI k) w = mf_bitesOfRows_C33 fu (nI 0) w' ∧ Sc w w' ∧ w'.1 2 = w.1 2 ∧ (∀ q, q < 7 → w'.2 18 q = nI (b q))
  | d, k, 0, w, _, _, hn, _, _ => by omega
  | 0, k, n + 1, w, hd, hk, hn, h15, h18 => by
    have e : k = 7 := by omega
    subst e
    refine ⟨w, ?_, Sc.rf w, rfl, h18⟩
    rw [mf_bitesOfRows_C7]
    exact if_pos ((nI_leI (by decide) (by decide)).mpr (Nat.le_refl 7))
  | d + 1, k, n + 1, w, hd, hk, hn, h15, h18 => by
    obtain ⟨w', g1, g2, g3, g4⟩ := mf_bites_copy h7 d (k + 1) n (mR w 18 (upd (w.2 18) k (nI (b k)))) (by omega) (by omega) (by omega) (fun q hq => by rw [mR_ne w _ (by decide)]; exact h15 q hq) (fun q hq => by
      rw [mR_at]
      rcases Nat.lt_or_ge q k with h | h
      · rw [upd_ne _ _ (by omega)]; exact h18 q h
      · have : q = k := by omega
        subst this; exact upd_at _ _ _)
    refine ⟨w', ?_, (Sc.R (by decide)).tr g2, g3, g4⟩
    rw [← g1, mf_bitesOfRows_C7, if_neg (fun h => by
      have := (nI_leI (a := 7) (b := k) (by decide) (by omega)).mp h
      omega), gi_i (ii_ix (by omega) (by decide)), gi_i (ii_ix (by omega) (by decide)), ii_cl (by omega), h15 k (by omega)]
    show mf_bitesOfRows_C7 n (nI k + (1 : Int32)) _ = _
    rw [nI_1, mU_R]
theorem mf_bitesOfRows_eq {s : Nat} (hs : s < 3432) (A : Nat → Nat) (M : Nat) (w : mW) (h0 : w.1 2 = nI 0) : ∃ w', mf_bitesOfRows (nI s) w = some w' ∧ Sc w w' ∧ w'.1 2 = nI (nb 0 M s) ∧ ∀ i t, Nth 0 A M s i t → w'.2 16 i = nI t := by
  obtain ⟨f, hf1, hf2⟩ := mf_unrank_eq hs w
  have hF := ub_fall hs
  obtain ⟨w1, g1, g2, g3, g4⟩ := mf_bites_copy (b := ub s) (fun q _ => gv_7 _ _) 7 0 fu (mR w 15 f) rfl (by omega) (fu_gt (by decide)) (fun q hq => by rw [mR_at]; exact hf2 q hq) (fun q hq => by omega)
  obtain ⟨w', k1, k2, k3, k4⟩ := mf_bites_rows hF 7 0 fu w1 rfl (by omega) (fu_gt (by decide)) (g3.trans h0) g4 (fun r' c' h1 h2 h3 => absurd h3 (Nat.not_lt_zero _))
  refine ⟨w', ?_, ((Sc.R (by decide)).tr g2).tr k2, k3, fun i t ht => ?_⟩
  · unfold mf_bitesOfRows
    rw [bn_i hf1]
    exact g1.trans k1
  · unfold Nth at ht
    rw [if_pos rfl] at ht
    obtain ⟨r, c, h1, h2, rfl, rfl⟩ := ht
    exact k4 r c h1 h2
