/-! a quotient of small numbers is a number -/
theorem dd_row : ∀ l : Nat, l < 85 → ∀ s : Nat, s < 85 → (0 < s → FP.ddiv (FP.i2d (Int32.ofInt (l : Int))) (FP.i2d (Int32.ofInt (s : Int))) &&& 0x7fffffffffffffff ≤ 0x7ff0000000000000) := by decide +kernel
theorem dd_ok {l s : Int} (hl : 0 ≤ l ∧ l ≤ 84) (hs : 0 < s ∧ s ≤ 84) : vf_n64 (FP.ddiv (FP.i2d (Int32.ofInt l)) (FP.i2d (Int32.ofInt s))) := by
  obtain ⟨a, rfl⟩ := Int.eq_ofNat_of_zero_le hl.1
  obtain ⟨b, rfl⟩ := Int.eq_ofNat_of_zero_le (Int.le_of_lt hs.1)
  exact dd_row a (by omega) b (by omega) (by omega)
