theorem prs1_eq {col s : Int} {f g : Int → Int} (hs : 0 ≤ s) (h6 : g (7 + 9 * s + 6) = col) (h7 : g (7 + 9 * s + 7) = (if f (7 + 9 * s + 6) = col ∧ f (7 + 9 * s + 7) ≠ 0 then f (7 + 9 * s + 7) else f 3) - 1) (h8 : g (7 + 9 * s + 8) = f (7 + 9 * s + 8) + 1) (h4 : g 4 = f 4 + 1)
    (h5 : g 5 = f 5 + (if f (7 + 9 * s + 6) = col ∧ f (7 + 9 * s + 7) ≠ 0 then 0 else 1)) (hc : g 6 = f 6 + (if f (7 + 9 * s + 6) ≠ col ∧ f (7 + 9 * s + 6) ≠ -1 then 1 else 0)) (ho : ∀ k, k ≠ 7 + 9 * s + 6 → k ≠ 7 + 9 * s + 7 → k ≠ 7 + 9 * s + 8 → k ≠ 4 → k ≠ 5 → k ≠ 6 → g k = f k) : g = prs1 col s f := by
  funext k
  unfold prs1
  by_cases e1 : k = 7 + 9 * s + 6
  · rw [if_pos e1, e1]; exact h6
  rw [if_neg e1]
  by_cases e2 : k = 7 + 9 * s + 7
  · rw [if_pos e2, e2]; exact h7
  rw [if_neg e2]
  by_cases e3 : k = 7 + 9 * s + 8
  · rw [if_pos e3, e3]; exact h8
  rw [if_neg e3]
  by_cases e4 : k = 4
  · rw [if_pos e4, e4]; exact h4
  rw [if_neg e4]
  by_cases e5 : k = 5
  · rw [if_pos e5, e5]; exact h5
  rw [if_neg e5]
  by_cases e6 : k = 6
  · rw [if_pos e6, e6]; exact hc
  rw [if_neg e6]
  exact ho k e1 e2 e3 e4 e5 e6
