/-! words that need a stamp; sums of presses -/
def NdW (f : Int → Int) (s w : Int) : Prop := ∃ x, Fresh f x ∧ HasX f w x ∧ ¬ HasX f w (iA x (iX (iL 1 s) (-1)))
theorem nd_f1 {f : Int → Int} {s w x : Int} (hx : Fresh f x) (h : ¬ HasX f w x) : ¬ NdW f s w := by
  rintro ⟨x', h1, h2, -⟩
  rw [fresh_1 h1 hx] at h2
  exact h h2
theorem nd_f2 {f : Int → Int} {s w x : Int} (hx : Fresh f x) (h : HasX f w (iA x (iX (iL 1 s) (-1)))) : ¬ NdW f s w := by
  rintro ⟨x', h1, -, h3⟩
  rw [fresh_1 h1 hx] at h3
  exact h3 h
theorem nd_t {f : Int → Int} {s w x y : Int} (hx : Fresh f x) (hy : Fresh f y) (h : HasX f w x) (h2 : ¬ HasX f w (iA y (iX (iL 1 s) (-1)))) : NdW f s w := ⟨y, hy, by rw [fresh_1 hy hx]; exact h, h2⟩
theorem bs_1 {s : Int} (hs : 0 ≤ s ∧ s < 10) : 0 ≤ iL 1 s ∧ iL 1 s < 1024 ∧ ∀ t, 0 ≤ t → t < 10 → (bs (iL 1 s) t = true ↔ t = s) := by
  obtain ⟨j, rfl⟩ := Int.eq_ofNat_of_zero_le hs.1
  have hp : 2 ^ j < 2 ^ 10 := Nat.pow_lt_pow_right (by decide) (by omega)
  rw [iL_1 j (by omega)]
  refine ⟨Int.natCast_nonneg _, Int.ofNat_lt.mpr hp, fun t h1 h2 => ?_⟩
  obtain ⟨i, rfl⟩ := Int.eq_ofNat_of_zero_le h1
  unfold bs
  simp only [Int.toNat_natCast]
  rw [Nat.testBit_two_pow, decide_eq_true_eq]
  omega
noncomputable def pv (f : Int → Int) (w : Int) : Int := @dite _ (∃ v, ∃ x, Fresh f x ∧ Pno f w x v) (Classical.propDecidable _) (fun h => Classical.choose h) (fun _ => -1)
theorem pv_eq {f : Int → Int} {w x v : Int} {L : Int → Int} (hA : StAll f) (hw : WdOk f w) (hx : Fresh f x) (hL : Lst 100 f w x 0 L) (hv : (v = -1 ∧ L 0 = 100) ∨ (v = L 0 ∧ L 0 ≠ 100)) : pv f w = v := by
  have h : ∃ v, ∃ x, Fresh f x ∧ Pno f w x v := ⟨v, x, hx, L, hL, by split <;> omega⟩
  unfold pv
  rw [@dif_pos _ (Classical.propDecidable _) h]
  obtain ⟨x', h1, h2⟩ := Classical.choose_spec h
  rw [fresh_1 h1 hx] at h2
  exact pno_u hA hw h2 ⟨L, hL, by split <;> omega⟩
def smN (P : Int → Int) : Nat → Int
  | 0 => 0
  | k + 1 => smN P k + P k
def sm (P : Int → Int) (n : Int) : Int := smN P n.toNat
theorem sm_0 {P : Int → Int} : sm P 0 = 0 := rfl
theorem sm_s {P : Int → Int} {k : Int} (h : 0 ≤ k) : sm P (k + 1) = sm P k + P k := by
  obtain ⟨n, rfl⟩ := Int.eq_ofNat_of_zero_le h
  rfl
/-- presses of a word, 100 for none -/
noncomputable def p1 (f : Int → Int) (w : Int) : Int := if pv f w = -1 then 100 else pv f w
noncomputable def allP (f : Int → Int) : Int := sm (p1 f) (f 1)
/-- letters and presses of the words that have a plan -/
noncomputable def lt1 (f : Int → Int) (w : Int) : Int := if pv f w = -1 then 0 else f (97 + 14 * w)
noncomputable def ps1 (f : Int → Int) (w : Int) : Int := if pv f w = -1 then 0 else pv f w
