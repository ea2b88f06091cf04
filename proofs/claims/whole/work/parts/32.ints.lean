/-! ===== the machine's ints as numbers ===== -/
theorem ii_sl : ∀ n, n < 32 → ((nI n &&& 31).toBitVec.smod 32).toNat = n := by decide +kernel
theorem ii_and (a b : Nat) : nI a &&& nI b = nI (a &&& b) := by
  apply Int32.toBitVec_inj.1
  show BitVec.ofNat 32 a &&& BitVec.ofNat 32 b = BitVec.ofNat 32 (a &&& b)
  apply BitVec.eq_of_getLsbD_eq
  intro i hi
  simp [hi]
theorem ii_or (a b : Nat) : nI a ||| nI b = nI (a ||| b) := by
  apply Int32.toBitVec_inj.1
  show BitVec.ofNat 32 a ||| BitVec.ofNat 32 b = BitVec.ofNat 32 (a ||| b)
  apply BitVec.eq_of_getLsbD_eq
  intro i hi
  simp [hi]
theorem ii_xor (a b : Nat) : nI a ^^^ nI b = nI (a ^^^ b) := by
  apply Int32.toBitVec_inj.1
  show BitVec.ofNat 32 a ^^^ BitVec.ofNat 32 b = BitVec.ofNat 32 (a ^^^ b)
  apply BitVec.eq_of_getLsbD_eq
  intro i hi
  simp [hi]
theorem ii_not (s a : Nat) : nI s &&& (nI a ^^^ (-1)) = nI (del s a) := by
  apply Int32.toBitVec_inj.1
  show BitVec.ofNat 32 s &&& (BitVec.ofNat 32 a ^^^ BitVec.allOnes 32) = BitVec.ofNat 32 (del s a)
  apply BitVec.eq_of_getLsbD_eq
  intro i hi
  rw [BitVec.getLsbD_and, BitVec.getLsbD_xor, BitVec.getLsbD_ofNat, BitVec.getLsbD_ofNat, BitVec.getLsbD_ofNat, del_bit, BitVec.getLsbD_allOnes]
  simp [hi]
theorem ii_shl {a n : Nat} (hn : n < 32) (h : a * 2 ^ n < 2 ^ 32) : nI a <<< (nI n &&& 31) = nI (a * 2 ^ n) := pk_shlN (nI n &&& 31) n (ii_sl n hn) h
theorem ii_shr {a n : Nat} (hn : n < 32) (h : a < 2 ^ 31) : nI a >>> (nI n &&& 31) = nI (a / 2 ^ n) := pk_shrN h (nI n &&& 31) n (ii_sl n hn)
theorem ii_one {q : Nat} (hq : q < 31) : (1 : Int32) <<< (nI q &&& 31) = nI (2 ^ q) := by
  have h : 2 ^ q < 2 ^ 31 := Nat.pow_lt_pow_right (by decide) hq
  have := ii_shl (a := 1) (n := q) (by omega) (by omega)
  rwa [Nat.one_mul] at this
theorem ii_64 {k : Nat} (hk : k < 24) : (64 : Int32) <<< (nI k &&& 31) = nI (2 ^ (6 + k)) := by
  have h : 2 ^ (6 + k) < 2 ^ 31 := Nat.pow_lt_pow_right (by decide) (by omega)
  rw [Nat.pow_add] at h ⊢
  exact ii_shl (a := 64) (n := k) (by omega) (by omega)
theorem ii_bit {s q : Nat} (hs : s < 2 ^ 31) (hq : q < 32) : (nI s >>> (nI q &&& 31)) &&& (1 : Int32) = nI (if s.testBit q then 1 else 0) := by
  rw [ii_shr hq hs]
  show nI (s / 2 ^ q) &&& nI 1 = _
  rw [ii_and, Nat.and_one_is_mod, Nat.testBit_eq_decide_div_mod_eq]
  have : s / 2 ^ q % 2 < 2 := Nat.mod_lt _ (by decide)
  by_cases h : s / 2 ^ q % 2 = 1
  · simp [h]
  · have h0 : s / 2 ^ q % 2 = 0 := by omega
    simp [h0]
theorem ii_c (n : Nat) : (OfNat.ofNat n : Int32) = nI n := rfl
theorem ii_sub {a b : Nat} (h : b ≤ a) : nI a - nI b = nI (a - b) := pk_sub h
theorem ii_le {a b : Nat} (ha : a < 2 ^ 31) (hb : b < 2 ^ 31) : (nI a ≤ nI b) = (a ≤ b) := propext (nI_leI ha hb)
theorem ii_lt {a b : Nat} (ha : a < 2 ^ 31) (hb : b < 2 ^ 31) : (nI a < nI b) = (a < b) := propext (nI_ltI ha hb)
theorem ii_eq {a b : Nat} (ha : a < 2 ^ 31) (hb : b < 2 ^ 31) : (nI a = nI b) = (a = b) := propext (nI_eq ha hb)
theorem ii_cl {n : Nat} (h : n < 2 ^ 31) : (nI n).toNatClampNeg = n := nI_clamp h
theorem ii_ix {i n : Nat} (h : i < n) (hn : n < 2 ^ 31) : vp_in (nI i) n := vp_in_nI h hn
theorem p2 {n m : Nat} (h : n < m) : 2 ^ n < 2 ^ m := Nat.pow_lt_pow_right (by decide) h
theorem bit_lt {s n : Nat} (h : ∀ i, s.testBit i = true → i < n) : s < 2 ^ n := by
  apply Nat.lt_pow_two_of_testBit
  intro i hi
  cases hb : s.testBit i
  · rfl
  · exact absurd (h i hb) (by omega)
theorem bit_of_lt {s n i : Nat} (h : s < 2 ^ n) (hb : s.testBit i = true) : i < n := by
  rcases Nat.lt_or_ge i n with q | q
  · exact q
  · rw [Nat.testBit_lt_two_pow (Nat.lt_of_lt_of_le h (Nat.pow_le_pow_right (by decide) q))] at hb
    cases hb
/-- the reference's range test, over the wide ints -/
theorem mf_in_eq (a b c : Int64) : mf_in a b c = some (if b.toInt ≤ a.toInt ∧ a.toInt ≤ c.toInt then 1 else 0) := by
  have h1 : (lg_cmp a b < 0) ↔ a.toInt < b.toInt := by
    have := lg_cmp_ge a b
    rw [Int64.le_iff_toInt_le] at this
    have h2 : (lg_cmp a b < 0) ↔ ¬ (0 ≤ lg_cmp a b) := by
      rw [Int32.lt_iff_toInt_lt, Int32.le_iff_toInt_le]; omega
    rw [h2, this]; omega
  have h3 : (0 < lg_cmp a c) ↔ c.toInt < a.toInt := by
    unfold lg_cmp
    simp only [gt_iff_lt, Int64.lt_iff_toInt_lt, ← Int64.toInt_inj]
    by_cases p : c.toInt < a.toInt
    · rw [if_pos p]; exact ⟨fun _ => p, fun _ => by decide⟩
    · rw [if_neg p]
      constructor
      · intro q
        split at q <;> exact absurd q (by decide)
      · intro q; exact absurd q p
  unfold mf_in
  by_cases p : a.toInt < b.toInt
  · rw [if_pos (h1.mpr p), if_neg (by omega)]; rfl
  · rw [if_neg (fun q => p (h1.mp q))]
    by_cases q : c.toInt < a.toInt
    · rw [if_pos (h3.mpr q), if_neg (by omega)]; rfl
    · rw [if_neg (fun z => q (h3.mp z)), if_pos (by omega)]; rfl
theorem i64 (x : Int32) : x.toInt64.toInt = x.toInt := Int32.toInt_toInt64 x
theorem lN_c (n : Nat) : (OfNat.ofNat n : Int64) = lN n := rfl
/-- how many figures of the first 16 -/
theorem cn_16 {s : Nat} (h : s < 2 ^ 15) : cn s 16 = cn s 15 := by
  show cn s 15 + (if s.testBit 15 then 1 else 0) = cn s 15
  rw [Nat.testBit_lt_two_pow h]; rfl
theorem mf_bits_loop {s : Nat} (hs : s < 2 ^ 31) : ∀ (d q n a : Nat), d = 16 - q → q ≤ 16 → d < n → mf_bits_C4 n (nI s) (nI (cn s q)) (nI q) = some (nI (cn s 16))
  | 0, q, n + 1, a, hd, hq, hn => by
    have e : q = 16 := by omega
    subst e
    rw [mf_bits_C4]
    exact if_pos ((nI_leI (by decide) (by decide)).mpr (Nat.le_refl 16))
  | d + 1, q, n + 1, a, hd, hq, hn => by
    rw [mf_bits_C4]
    have h1 : ¬ ((16 : Int32) ≤ nI q) := fun h => by
      have := (nI_leI (a := 16) (b := q) (by decide) (by omega)).mp h
      omega
    rw [if_neg h1]
    show mf_bits_C4 n (nI s) (nI (cn s q) + ((nI s >>> (nI q &&& 31)) &&& (1 : Int32))) (nI q + (1 : Int32)) = _
    rw [ii_bit hs (by omega), nI_add, nI_1]
    exact mf_bits_loop hs d (q + 1) n a (by omega) (by omega) (by omega)
  | d, q, 0, a, hd, hq, hn => by omega
theorem fu_gt {n : Nat} (h : n < 40000) : n < fu := h
theorem mf_bits_eq {s : Nat} (hs : s < 2 ^ 15) : mf_bits (nI s) = some (nI (cn s 15)) := by
  rw [← cn_16 hs]
  exact mf_bits_loop (Nat.lt_trans hs (by decide)) 16 0 fu 0 rfl (by omega) (fu_gt (by decide))
theorem mf_rowsOf_eq : ∀ a, a < 7 → ∀ v, v < 8 → mf_rowsOf (nI a) (nI v) = some (nI (les a (v + 1))) := by decide +kernel
