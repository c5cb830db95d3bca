theorem nek (r a b : Nat) (h : Nat.beq a b = false) : r + a ≠ r + b := fun e => by
  have : a = b := Nat.add_left_cancel e
  rw [this, Nat.beq_refl] at h; exact Bool.noConfusion h
theorem ltk (r a b : Nat) (h : Nat.ble (a + 1) b = true) : r + a < r + b := Nat.add_lt_add_left (Nat.le_of_ble_eq_true h) r
theorem lek (r a n b : Nat) (h : Nat.ble (a + n) b = true) : r + a + n ≤ r + b := by rw [Nat.add_assoc]; exact Nat.add_le_add_left (Nat.le_of_ble_eq_true h) r
