/-- the stamps below i that are not worn out -/
def FrB (f : Int → Int) (i x : Int) : Prop := 0 ≤ x ∧ x < 1024 ∧ ∀ s, 0 ≤ s → s < 10 → (bs x s = true ↔ s < i ∧ f (7 + 9 * s + 8) < f 2)
theorem FrB_0 {f : Int → Int} : FrB f 0 0 := ⟨by omega, by omega, fun s h1 h2 => by
  constructor
  · intro h
    unfold bs at h
    rw [show (0 : Int).toNat = 0 from rfl, Nat.zero_testBit] at h
    cases h
  · intro h; omega⟩
theorem FrB_1 {f : Int → Int} {i x : Int} (h : FrB f i x) (hi : 0 ≤ i ∧ i < 10) (hw : f (7 + 9 * i + 8) < f 2) : FrB f (i + 1) (iO x (iL 1 i)) := by
  obtain ⟨h1, h2, h3⟩ := h
  obtain ⟨g1, g2, g3⟩ := bs_or ⟨h1, h2⟩ hi
  refine ⟨g1, g2, fun s h4 h5 => ?_⟩
  rw [g3 s h4 h5, h3 s h4 h5]
  constructor
  · rintro (h | rfl)
    · exact ⟨by omega, h.2⟩
    · exact ⟨by omega, hw⟩
  · intro h
    by_cases e : s = i
    · exact Or.inr e
    · exact Or.inl ⟨by omega, h.2⟩
theorem iO_0 {x : Int} (h : 0 ≤ x ∧ x < 1024) : iO x 0 = x := by
  obtain ⟨n, rfl⟩ := Int.eq_ofNat_of_zero_le h.1
  have := iO_n (a := n) (b := 0) (by omega) (by omega)
  rw [Nat.or_zero] at this
  exact this
theorem FrB_2 {f : Int → Int} {i x : Int} (h : FrB f i x) (hi : 0 ≤ i ∧ i < 10) (hw : f 2 ≤ f (7 + 9 * i + 8)) : FrB f (i + 1) (iO x 0) := by
  rw [iO_0 ⟨h.1, h.2.1⟩]
  refine ⟨h.1, h.2.1, fun s h4 h5 => ?_⟩
  rw [h.2.2 s h4 h5]
  constructor
  · intro h; exact ⟨by omega, h.2⟩
  · intro h
    by_cases e : s = i
    · subst e; omega
    · exact ⟨by omega, h.2⟩
