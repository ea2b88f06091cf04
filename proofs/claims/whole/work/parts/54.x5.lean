/-! ===== class: how many figures ===== -/
def allB (p : Nat → Bool) : Nat → Nat → Bool
  | 0, b => p b
  | k + 1, b => allB p k (2 * b) && allB p k (2 * b + 1)
theorem allB_s {p : Nat → Bool} : ∀ k b s, allB p k b = true → s / 2 ^ k = b → p s = true
  | 0, b, s, h, e => by
    rw [Nat.pow_zero, Nat.div_one] at e
    subst e; exact h
  | k + 1, b, s, h, e => by
    have h' : (allB p k (2 * b) && allB p k (2 * b + 1)) = true := h
    rw [Bool.and_eq_true] at h'
    have e2 : s / 2 ^ k / 2 = b := by rw [Nat.div_div_eq_div_mul, ← Nat.pow_succ]; exact e
    rcases Nat.mod_two_eq_zero_or_one (s / 2 ^ k) with q | q
    · exact allB_s k (2 * b) s h'.1 (by omega)
    · exact allB_s k (2 * b + 1) s h'.2 (by omega)
def bcP (s : Nat) : Bool := match xf_J_bitCount (nI s) with
  | some v => v == nI (cn s 15)
  | none => false
theorem bc_0 : allB bcP 9 0 = true := by decide +kernel
theorem bc_1 : allB bcP 9 1 = true := by decide +kernel
theorem bc_2 : allB bcP 9 2 = true := by decide +kernel
theorem bc_3 : allB bcP 9 3 = true := by decide +kernel
theorem bc_4 : allB bcP 9 4 = true := by decide +kernel
theorem bc_5 : allB bcP 9 5 = true := by decide +kernel
theorem bc_6 : allB bcP 9 6 = true := by decide +kernel
theorem bc_7 : allB bcP 9 7 = true := by decide +kernel
theorem bc_8 : allB bcP 9 8 = true := by decide +kernel
theorem bc_9 : allB bcP 9 9 = true := by decide +kernel
theorem bc_10 : allB bcP 9 10 = true := by decide +kernel
theorem bc_11 : allB bcP 9 11 = true := by decide +kernel
theorem bc_12 : allB bcP 9 12 = true := by decide +kernel
theorem bc_13 : allB bcP 9 13 = true := by decide +kernel
theorem bc_14 : allB bcP 9 14 = true := by decide +kernel
theorem bc_15 : allB bcP 9 15 = true := by decide +kernel
theorem bc_16 : allB bcP 9 16 = true := by decide +kernel
theorem bc_17 : allB bcP 9 17 = true := by decide +kernel
theorem bc_18 : allB bcP 9 18 = true := by decide +kernel
theorem bc_19 : allB bcP 9 19 = true := by decide +kernel
theorem bc_20 : allB bcP 9 20 = true := by decide +kernel
theorem bc_21 : allB bcP 9 21 = true := by decide +kernel
theorem bc_22 : allB bcP 9 22 = true := by decide +kernel
theorem bc_23 : allB bcP 9 23 = true := by decide +kernel
theorem bc_24 : allB bcP 9 24 = true := by decide +kernel
theorem bc_25 : allB bcP 9 25 = true := by decide +kernel
theorem bc_26 : allB bcP 9 26 = true := by decide +kernel
theorem bc_27 : allB bcP 9 27 = true := by decide +kernel
theorem bc_28 : allB bcP 9 28 = true := by decide +kernel
theorem bc_29 : allB bcP 9 29 = true := by decide +kernel
theorem bc_30 : allB bcP 9 30 = true := by decide +kernel
theorem bc_31 : allB bcP 9 31 = true := by decide +kernel
theorem bc_32 : allB bcP 9 32 = true := by decide +kernel
theorem bc_33 : allB bcP 9 33 = true := by decide +kernel
theorem bc_34 : allB bcP 9 34 = true := by decide +kernel
theorem bc_35 : allB bcP 9 35 = true := by decide +kernel
theorem bc_36 : allB bcP 9 36 = true := by decide +kernel
theorem bc_37 : allB bcP 9 37 = true := by decide +kernel
theorem bc_38 : allB bcP 9 38 = true := by decide +kernel
theorem bc_39 : allB bcP 9 39 = true := by decide +kernel
theorem bc_40 : allB bcP 9 40 = true := by decide +kernel
theorem bc_41 : allB bcP 9 41 = true := by decide +kernel
theorem bc_42 : allB bcP 9 42 = true := by decide +kernel
theorem bc_43 : allB bcP 9 43 = true := by decide +kernel
theorem bc_44 : allB bcP 9 44 = true := by decide +kernel
theorem bc_45 : allB bcP 9 45 = true := by decide +kernel
theorem bc_46 : allB bcP 9 46 = true := by decide +kernel
theorem bc_47 : allB bcP 9 47 = true := by decide +kernel
theorem bc_48 : allB bcP 9 48 = true := by decide +kernel
theorem bc_49 : allB bcP 9 49 = true := by decide +kernel
theorem bc_50 : allB bcP 9 50 = true := by decide +kernel
theorem bc_51 : allB bcP 9 51 = true := by decide +kernel
theorem bc_52 : allB bcP 9 52 = true := by decide +kernel
theorem bc_53 : allB bcP 9 53 = true := by decide +kernel
theorem bc_54 : allB bcP 9 54 = true := by decide +kernel
theorem bc_55 : allB bcP 9 55 = true := by decide +kernel
theorem bc_56 : allB bcP 9 56 = true := by decide +kernel
theorem bc_57 : allB bcP 9 57 = true := by decide +kernel
theorem bc_58 : allB bcP 9 58 = true := by decide +kernel
theorem bc_59 : allB bcP 9 59 = true := by decide +kernel
theorem bc_60 : allB bcP 9 60 = true := by decide +kernel
theorem bc_61 : allB bcP 9 61 = true := by decide +kernel
theorem bc_62 : allB bcP 9 62 = true := by decide +kernel
theorem bc_63 : allB bcP 9 63 = true := by decide +kernel
theorem bc_all {k : Nat} (h : k < 64) : allB bcP 9 k = true := by
  rcases (show k = 0 ∨ k = 1 ∨ k = 2 ∨ k = 3 ∨ k = 4 ∨ k = 5 ∨ k = 6 ∨ k = 7 ∨ k = 8 ∨ k = 9 ∨ k = 10 ∨ k = 11 ∨ k = 12 ∨ k = 13 ∨ k = 14 ∨ k = 15 ∨ k = 16 ∨ k = 17 ∨ k = 18 ∨ k = 19 ∨ k = 20 ∨ k = 21 ∨ k = 22 ∨ k = 23 ∨ k = 24 ∨ k = 25 ∨ k = 26 ∨ k = 27 ∨ k = 28 ∨ k = 29 ∨ k = 30 ∨ k = 31 ∨ k = 32 ∨ k = 33 ∨ k = 34 ∨ k = 35 ∨ k = 36 ∨ k = 37 ∨ k = 38 ∨ k = 39 ∨ k = 40 ∨ k = 41 ∨ k = 42 ∨ k = 43 ∨ k = 44 ∨ k = 45 ∨ k = 46 ∨ k = 47 ∨ k = 48 ∨ k = 49 ∨ k = 50 ∨ k = 51 ∨ k = 52 ∨ k = 53 ∨ k = 54 ∨ k = 55 ∨ k = 56 ∨ k = 57 ∨ k = 58 ∨ k = 59 ∨ k = 60 ∨ k = 61 ∨ k = 62 ∨ k = 63 by omega) with rfl | rfl | rfl | rfl | rfl | rfl | rfl | rfl | rfl | rfl | rfl | rfl | rfl | rfl | rfl | rfl | rfl | rfl | rfl | rfl | rfl | rfl | rfl | rfl | rfl | rfl | rfl | rfl | rfl | rfl | rfl | rfl | rfl | rfl | rfl | rfl | rfl | rfl | rfl | rfl | rfl | rfl | rfl | rfl | rfl | rfl | rfl | rfl | rfl | rfl | rfl | rfl | rfl | rfl | rfl | rfl | rfl | rfl | rfl | rfl | rfl | rfl | rfl | rfl
  · exact bc_0
  · exact bc_1
  · exact bc_2
  · exact bc_3
  · exact bc_4
  · exact bc_5
  · exact bc_6
  · exact bc_7
  · exact bc_8
  · exact bc_9
  · exact bc_10
  · exact bc_11
  · exact bc_12
  · exact bc_13
  · exact bc_14
  · exact bc_15
  · exact bc_16
  · exact bc_17
  · exact bc_18
  · exact bc_19
  · exact bc_20
  · exact bc_21
  · exact bc_22
  · exact bc_23
  · exact bc_24
  · exact bc_25
  · exact bc_26
  · exact bc_27
  · exact bc_28
  · exact bc_29
  · exact bc_30
  · exact bc_31
  · exact bc_32
  · exact bc_33
  · exact bc_34
  · exact bc_35
  · exact bc_36
  · exact bc_37
  · exact bc_38
  · exact bc_39
  · exact bc_40
  · exact bc_41
  · exact bc_42
  · exact bc_43
  · exact bc_44
  · exact bc_45
  · exact bc_46
  · exact bc_47
  · exact bc_48
  · exact bc_49
  · exact bc_50
  · exact bc_51
  · exact bc_52
  · exact bc_53
  · exact bc_54
  · exact bc_55
  · exact bc_56
  · exact bc_57
  · exact bc_58
  · exact bc_59
  · exact bc_60
  · exact bc_61
  · exact bc_62
  · exact bc_63
theorem xf_bitCount_eq {s : Nat} (hs : s < 2 ^ 15) : xf_J_bitCount (nI s) = some (nI (cn s 15)) := by
  have h := allB_s 9 (s / 2 ^ 9) s (bc_all (by omega)) rfl
  unfold bcP at h
  cases e : xf_J_bitCount (nI s) with
  | none => rw [e] at h; cases h
  | some v =>
    rw [e] at h
    have h' : (v == nI (cn s 15)) = true := h
    rw [eq_of_beq h']
