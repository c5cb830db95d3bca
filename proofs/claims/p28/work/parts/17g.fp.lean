/-! a mean compared with itself -/
theorem dc_row : ∀ l : Nat, l < 85 → ∀ s : Nat, s < 85 → (0 < s → dC (FP.ddiv (FP.i2d (Int32.ofInt (l : Int))) (FP.i2d (Int32.ofInt (s : Int)))) (FP.ddiv (FP.i2d (Int32.ofInt (l : Int))) (FP.i2d (Int32.ofInt (s : Int)))) .l = 0) := by decide +kernel
theorem dc_ok {l s : Int} (hl : 0 ≤ l ∧ l ≤ 84) (hs : 0 < s ∧ s ≤ 84) : dC (FP.ddiv (FP.i2d (Int32.ofInt l)) (FP.i2d (Int32.ofInt s))) (FP.ddiv (FP.i2d (Int32.ofInt l)) (FP.i2d (Int32.ofInt s))) .l = 0 := by
  obtain ⟨a, rfl⟩ := Int.eq_ofNat_of_zero_le hl.1
  obtain ⟨b, rfl⟩ := Int.eq_ofNat_of_zero_le (show 0 ≤ s by omega)
  exact dc_row a (by omega) b (by omega) (by omega)
theorem dc_0 : dC 0 0 .l = 0 := by decide +kernel
