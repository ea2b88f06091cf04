/-! ===== class: how many figures ===== -/
def allB (p : Nat → Bool) : Nat → Nat → Bool
  | 0, b => p b
  | k + 1, b => allB p k (2 * b) && allB p k (2 * b + 1)
theorem allB_s {p : Nat → Bool} : ∀ k b s, allB p k b = true → s / 2 ^ k = b → p s = true
  | 0, b, s, h, e => by
    rw [Nat.pow_zero, Nat.div_one] at e
    subst e; exact h
  | k + 1, b, s, h, e => by
    have h' : (allB p k (2 * b) && allB p k (2 * b + 1)) = true := h
    rw [Bool.and_eq_true] at h'
    have e2 : s / 2 ^ k / 2 = b := by rw [Nat.div_div_eq_div_mul, ← Nat.pow_succ]; exact e
    rcases Nat.mod_two_eq_zero_or_one (s / 2 ^ k) with q | q
    · exact allB_s k (2 * b) s h'.1 (by omega)
    · exact allB_s k (2 * b + 1) s h'.2 (by omega)
def bcn (s : Nat) : Nat := (s.testBit 0).toNat + (s.testBit 1).toNat + (s.testBit 2).toNat + (s.testBit 3).toNat + (s.testBit 4).toNat + (s.testBit 5).toNat + (s.testBit 6).toNat + (s.testBit 7).toNat + (s.testBit 8).toNat + (s.testBit 9).toNat + (s.testBit 10).toNat + (s.testBit 11).toNat + (s.testBit 12).toNat + (s.testBit 13).toNat + (s.testBit 14).toNat
def bcP (s : Nat) : Bool := match xf_J_bitCount (nI s) with
  | some v => v == nI (cn s 15)
  | none => false
set_option maxRecDepth 100000 in
theorem bc_all : allB bcP 9 0 = true := by decide +kernel
