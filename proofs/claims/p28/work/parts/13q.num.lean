/-! numbers of things, and the whole row -/
noncomputable def numN (P : Int → Prop) : Nat → Int
  | 0 => 0
  | k + 1 => numN P k + @ite Int (P k) (Classical.propDecidable _) 1 0
noncomputable def num (P : Int → Prop) (n : Int) : Int := numN P n.toNat
theorem num_0 {P : Int → Prop} : num P 0 = 0 := rfl
theorem num_t {P : Int → Prop} {k : Int} (h : 0 ≤ k) (hp : P k) : num P (k + 1) = num P k + 1 := by
  obtain ⟨n, rfl⟩ := Int.eq_ofNat_of_zero_le h
  show numN P n + @ite Int (P n) (Classical.propDecidable _) 1 0 = _
  rw [@if_pos _ (Classical.propDecidable _) hp]
  rfl
theorem num_f {P : Int → Prop} {k : Int} (h : 0 ≤ k) (hp : ¬ P k) : num P (k + 1) = num P k := by
  obtain ⟨n, rfl⟩ := Int.eq_ofNat_of_zero_le h
  show numN P n + @ite Int (P n) (Classical.propDecidable _) 1 0 = _
  rw [@if_neg _ (Classical.propDecidable _) hp]
  exact Int.add_zero _
theorem numN_r (P : Int → Prop) : ∀ n : Nat, 0 ≤ numN P n ∧ numN P n ≤ n
  | 0 => ⟨Int.le_refl _, Int.le_refl _⟩
  | n + 1 => by
    have := numN_r P n
    show 0 ≤ numN P n + @ite Int (P n) (Classical.propDecidable _) 1 0 ∧ numN P n + @ite Int (P n) (Classical.propDecidable _) 1 0 ≤ _
    split <;> omega
theorem num_r {P : Int → Prop} {n : Int} (h : 0 ≤ n) : 0 ≤ num P n ∧ num P n ≤ n := by
  have := numN_r P n.toNat
  unfold num
  omega
def WdAll (f : Int → Int) : Prop := (0 ≤ f 1 ∧ f 1 ≤ 7) ∧ ∀ w, 0 ≤ w → w < f 1 → WdOk f w ∧ 0 ≤ f (97 + 14 * w + 1) ∧ f (97 + 14 * w + 1) ≤ 3
def RowOk (B : Int) (f : Int → Int) : Prop := StAll f ∧ WdAll f ∧ InkOk B f
def HasP (f : Int → Int) (w : Int) : Prop := ∃ x, Fresh f x ∧ ∃ L, Lst 100 f w x 0 L ∧ L 0 ≠ 100
theorem hasP_no {f : Int → Int} {w x : Int} {L : Int → Int} (hA : StAll f) (hw : WdOk f w) (hx : Fresh f x) (h : Lst 100 f w x 0 L) (h0 : L 0 = 100) : ¬ HasP f w := by
  rintro ⟨x', g1, L', g2, g3⟩
  rw [← fresh_1 hx g1] at g2
  have hw3 := hw.2.2.1
  rcases lst_u (by omega) (by omega) hA hw h g2 0 (by omega) (by omega) with h | h
  · omega
  · omega
def Worn (f : Int → Int) (s : Int) : Prop := f 2 ≤ f (7 + 9 * s + 8)
/-- what value tells -/
def TellV (f : Int → Int) (a v : Int) : Prop := (a < 7 ∧ v = f a) ∨ (a = 7 ∧ v = num (Worn f) (f 0)) ∨ (8 ≤ a ∧ v = num (HasP f) (f 1))
/-- what stamp tells -/
def TellS (f : Int → Int) (s a v : Int) : Prop := (a = 0 ∧ v = f (7 + 9 * s)) ∨ (a = 1 ∧ v = f (7 + 9 * s + 6)) ∨ (a = 2 ∧ v = f (7 + 9 * s + 7)) ∨ (a = 3 ∧ v = f (7 + 9 * s + 8)) ∨ (a = 4 ∧ ((v = 1 ∧ CanT f s) ∨ (v = 0 ∧ ¬ CanT f s))) ∨ ((a < 0 ∨ 5 ≤ a) ∧ ((v = 1 ∧ Worn f s) ∨ (v = 0 ∧ ¬ Worn f s)))
