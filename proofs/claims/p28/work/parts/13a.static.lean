/-! how the objects lie: an object of a kind at a name has its parts at the names behind it -/
def isRows (S : SD) (r : Nat) : Prop := sT S r = 7 ∧ sR S r 2 = r + 1 ∧ sR S r 3 = r + 2 ∧ sT S (r + 1) = 11 ∧ sN S (r + 1) = 10 ∧ sT S (r + 2) = 11 ∧ sN S (r + 2) = 120
def isInks (S : SD) (r : Nat) : Prop := sT S r = 4 ∧ sR S r 0 = r + 1 ∧ sR S r 1 = r + 2 ∧ sR S r 2 = r + 3 ∧ sT S (r + 1) = 11 ∧ sN S (r + 1) = 10 ∧ sT S (r + 2) = 11 ∧ sN S (r + 2) = 10 ∧ sT S (r + 3) = 11 ∧ sN S (r + 3) = 10
def isSheet (S : SD) (r : Nat) : Prop := sT S r = 8 ∧ sR S r 0 = r + 1 ∧ sR S r 1 = r + 4 ∧ sR S r 2 = r + 7 ∧ sR S r 3 = r + 8 ∧ isRows S (r + 1) ∧ isRows S (r + 4) ∧ sT S (r + 7) = 11 ∧ sN S (r + 7) = 7 ∧ isInks S (r + 8)
def isFits (S : SD) (r : Nat) : Prop := sT S r = 2 ∧ sR S r 0 = r + 1 ∧ sT S (r + 1) = 11 ∧ sN S (r + 1) = 420
def isPlan (S : SD) (r : Nat) : Prop := sT S r = 6 ∧ sR S r 0 = r + 1 ∧ sR S r 1 = r + 2 ∧ sR S r 2 = r + 3 ∧ sT S (r + 1) = 11 ∧ sN S (r + 1) = 13 ∧ sT S (r + 2) = 11 ∧ sN S (r + 2) = 12 ∧ sT S (r + 3) = 11 ∧ sN S (r + 3) = 10
/-- the reference: its object and its eleven rows -/
def isMod (S : SD) (r : Nat) : Prop := (sT S r = 10 ∧ sR S r 0 = r + 1 ∧ sR S r 1 = r + 2 ∧ sR S r 2 = r + 3 ∧ sR S r 3 = r + 4 ∧ sR S r 6 = r + 5 ∧ sR S r 9 = r + 6 ∧ sR S r 10 = r + 7 ∧ sR S r 12 = r + 8 ∧ sR S r 13 = r + 9 ∧ sR S r 14 = r + 10 ∧ sR S r 16 = r + 11) ∧
  (sT S (r + 1) = 11 ∧ sT S (r + 2) = 11 ∧ sT S (r + 3) = 11 ∧ sT S (r + 4) = 11 ∧ sT S (r + 5) = 11 ∧ sT S (r + 6) = 11 ∧ sT S (r + 7) = 11 ∧ sT S (r + 8) = 11 ∧ sT S (r + 9) = 11 ∧ sT S (r + 10) = 11 ∧ sT S (r + 11) = 11) ∧
  (sN S (r + 1) = 195 ∧ sN S (r + 2) = 780 ∧ sN S (r + 3) = 195 ∧ sN S (r + 4) = 195 ∧ sN S (r + 5) = 150 ∧ sN S (r + 6) = 13 ∧ sN S (r + 7) = 12 ∧ sN S (r + 8) = 7 ∧ sN S (r + 9) = 1365 ∧ sN S (r + 10) = 7 ∧ sN S (r + 11) = 4)
theorem up_eq (M : Nat → Int → Int) (r : Nat) (k v : Int) : up M r k v r k = v := if_pos ⟨rfl, rfl⟩
theorem up_at (M : Nat → Int → Int) (r : Nat) (k v : Int) {k' : Int} (h : k' = k) : up M r k v r k' = v := if_pos ⟨rfl, h⟩
theorem up_r {M : Nat → Int → Int} {r : Nat} {k v : Int} {r' : Nat} {k' : Int} (h : r' ≠ r) : up M r k v r' k' = M r' k' := if_neg (fun e => h e.1)
theorem up_k {M : Nat → Int → Int} {r : Nat} {k v : Int} {r' : Nat} {k' : Int} (h : k' ≠ k) : up M r k v r' k' = M r' k' := if_neg (fun e => h e.2)
theorem up_def (M : Nat → Int → Int) (r : Nat) (k v : Int) (r' : Nat) (k' : Int) : up M r k v r' k' = if r' = r ∧ k' = k then v else M r' k' := rfl
theorem cpy_r {M : Nat → Int → Int} {a b : Nat} {sp dp n : Int} {r : Nat} {k : Int} (h : r ≠ b) : cpy M a sp b dp n r k = M r k := if_neg (fun e => h e.1)
theorem cpy_in {M : Nat → Int → Int} {a b : Nat} {sp dp n : Int} {k : Int} (h : dp ≤ k ∧ k < dp + n) : cpy M a sp b dp n b k = M a (sp + (k - dp)) := if_pos ⟨rfl, h⟩
theorem cpy_out {M : Nat → Int → Int} {a b : Nat} {sp dp n : Int} {r : Nat} {k : Int} (h : ¬ (dp ≤ k ∧ k < dp + n)) : cpy M a sp b dp n r k = M r k := if_neg (fun e => h e.2)
theorem cpy_0 (M : Nat → Int → Int) (a : Nat) (q : Int) (b : Nat) (o : Int) : cpy M a q b o 0 = M := by
  funext r k
  exact if_neg (by omega)
theorem cpy_s {M : Nat → Int → Int} {a : Nat} {q : Int} {b : Nat} {o i k v : Int} (h : a ≠ b ∨ o ≤ q) (hi : 0 ≤ i) (hk : k = o + i) (hv : v = cpy M a q b o i a (q + i)) : up (cpy M a q b o i) b k v = cpy M a q b o (i + 1) := by
  subst hk
  subst hv
  funext r j
  rw [up_def]
  by_cases h1 : r = b ∧ j = o + i
  · obtain ⟨rfl, rfl⟩ := h1
    rw [if_pos ⟨rfl, rfl⟩, cpy_in (by omega)]
    by_cases h2 : a = r
    · subst h2
      rw [cpy_out (by omega)]
      congr 1; omega
    · rw [cpy_r h2]
      congr 1; omega
  · rw [if_neg h1]
    by_cases h2 : r = b
    · subst h2
      by_cases h3 : o ≤ j ∧ j < o + i
      · rw [cpy_in h3, cpy_in (by omega)]
      · rw [cpy_out h3, cpy_out (by omega)]
    · rw [cpy_r h2, cpy_r h2]
/-- one cell's ints as a whole -/
def ro (M : Nat → Int → Int) (r : Nat) (g : Int → Int) : Nat → Int → Int := fun r' => if r' = r then g else M r'
theorem ro_eq (M : Nat → Int → Int) (r : Nat) (g : Int → Int) : ro M r g r = g := if_pos rfl
theorem ro_ne {M : Nat → Int → Int} {r r' : Nat} {g : Int → Int} (h : r' ≠ r) : ro M r g r' = M r' := if_neg h
theorem ro_ro (M : Nat → Int → Int) (r : Nat) (g g' : Int → Int) : ro (ro M r g) r g' = ro M r g' := by
  funext r'
  unfold ro
  split <;> rfl
theorem ro_id (M : Nat → Int → Int) (r : Nat) : ro M r (M r) = M := by
  funext r'
  unfold ro
  split
  · rename_i h; rw [h]
  · rfl
def uf (f : Int → Int) (k v : Int) : Int → Int := fun j => if j = k then v else f j
theorem uf_eq (f : Int → Int) (k v : Int) : uf f k v k = v := if_pos rfl
theorem uf_at (f : Int → Int) {k k' : Int} (v : Int) (h : k' = k) : uf f k v k' = v := if_pos h
theorem uf_ne {f : Int → Int} {k k' v : Int} (h : k' ≠ k) : uf f k v k' = f k' := if_neg h
theorem up_ro (M : Nat → Int → Int) (r : Nat) (k v : Int) : up M r k v = ro M r (uf (M r) k v) := by
  funext r' k'
  unfold up ro uf
  by_cases h : r' = r
  · subst h
    by_cases h2 : k' = k
    · simp [h2]
    · simp [h2]
  · simp [h]
