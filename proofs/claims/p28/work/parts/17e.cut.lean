/-! the best part, told four times -/
theorem part_4 {B : Int} {f : Int → Int} {most v0 v1 v2 v3 : Int} (hR : RowOk B f) (hB : 0 ≤ B) (hm : 1 ≤ most ∧ most ≤ 5) (h0 : PartV f 0 most v0) (h1 : PartV f 1 most v1) (h2 : PartV f 2 most v2) (h3 : PartV f 3 most v3) : ((f 1 = 0 ∨ f 0 = 10) ∧ v0 = -1 ∧ v1 = -1 ∧ v2 = -1 ∧ v3 = -1) ∨ ((f 1 ≠ 0 ∧ f 0 ≠ 10) ∧ Cd f most v0 v1 v2 ∧ v3 = sav f v0 v1 v2 ∧ 0 ≤ v3 ∧ ∀ w p n, Cd f most w p n → sav f w p n ≤ v3) := by
  by_cases hz : f 1 = 0 ∨ f 0 = 10
  · have e : ∀ {a v}, PartV f a most v → v = -1 := fun {a v} h => by
      rcases h with ⟨_, h⟩ | ⟨h, _⟩
      · exact h
      · omega
    exact Or.inl ⟨hz, e h0, e h1, e h2, e h3⟩
  · have hz : f 1 ≠ 0 ∧ f 0 ≠ 10 := by omega
    have g : ∀ {a v}, PartV f a most v → ∃ b0 b1 b2 b3, BstI f most (f 1) 0 1 b0 b1 b2 b3 ∧ v = if a = 0 then b0 else if a = 1 then b1 else if a = 2 then b2 else b3 := fun {a v} h => by
      rcases h with ⟨h, _⟩ | ⟨_, h⟩
      · omega
      · exact h
    obtain ⟨b0, b1, b2, b3, hb, e0⟩ := g h0
    have u : ∀ {a v}, PartV f a most v → v = if a = 0 then b0 else if a = 1 then b1 else if a = 2 then b2 else b3 := fun {a v} h => by
      obtain ⟨c0, c1, c2, c3, hc, e⟩ := g h
      obtain ⟨q0, q1, q2, q3⟩ := bstI_u hR hB hz.1 hz.2 hm hb hc
      rw [e, q0, q1, q2, q3]
    have e1 : v1 = b1 := by rw [u h1, if_neg (by omega), if_pos rfl]
    have e2 : v2 = b2 := by rw [u h2, if_neg (by omega), if_neg (by omega), if_pos rfl]
    have e3 : v3 = b3 := by rw [u h3, if_neg (by omega), if_neg (by omega), if_neg (by omega)]
    have e0 : v0 = b0 := by rw [u h0, if_pos rfl]
    have hW1 := hR.2.1.1
    have hw0 := (hR.2.1.2 0 (by omega) (by omega)).1.2.2.1
    have hc : Cd f most 0 0 1 := ⟨by omega, by omega, by omega, by omega⟩
    have hc5 : Cd f 5 0 0 1 := ⟨by omega, by omega, by omega, by omega⟩
    have hs := sav_0 hR hB hz.2 hc5
    have hl : ∀ {w p n}, Cd f most w p n → Lx3 w p n (f 1) 0 1 := fun {w p n} h => by
      have := h.1
      unfold Lx3
      omega
    rw [e0, e1, e2, e3]
    rcases hb with ⟨g1, g2⟩ | ⟨g1, g2, g3, g4, g5⟩
    · have := g2 _ _ _ hc (hl hc); omega
    · exact Or.inr ⟨hz, g1, g3, by omega, fun w p n h => (g5 w p n h (hl h)).1⟩
theorem sav_e {f : Int → Int} {w p n : Int} : allP (cutR f w p n) = allP f - sav f w p n := by unfold sav; omega
