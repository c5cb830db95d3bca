theorem up_row {M : Nat → Int → Int} {r : Nat} {k v : Int} {r' : Nat} (h : r' ≠ r) : up M r k v r' = M r' := funext fun _ => if_neg (fun e => h e.1)
theorem up_self {M : Nat → Int → Int} {r : Nat} {k v : Int} : up M r k v r = uf (M r) k v := by
  funext k'
  unfold up uf
  by_cases h : k' = k
  · rw [if_pos ⟨rfl, h⟩, if_pos h]
  · rw [if_neg (fun e => h e.2), if_neg h]
theorem cpy_row {M : Nat → Int → Int} {a b : Nat} {sp dp n : Int} {r' : Nat} (h : r' ≠ b) : cpy M a sp b dp n r' = M r' := funext fun _ => if_neg (fun e => h e.1)
