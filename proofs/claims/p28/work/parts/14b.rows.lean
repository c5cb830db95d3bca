/-! the changes of the row -/
def cleanR (f : Int → Int) (s : Int) : Int → Int := uf (uf (uf f 6 (f 6 + if f (7 + 9 * s + 6) = -1 then 0 else 1)) (7 + 9 * s + 6) (-1)) (7 + 9 * s + 7) 0
def remR (f : Int → Int) (s : Int) : Int → Int := fun k => if k = 0 then f 0 - 1 else if 7 + 9 * s ≤ k ∧ k < 7 + 9 * (f 0 - 1) then f (k + 9) else f k
def dropR (f : Int → Int) (w : Int) : Int → Int := fun k => if k = 1 then f 1 - 1 else if 97 + 14 * w ≤ k ∧ k < 97 + 14 * (f 1 - 1) then f (k + 14) else f k
def cutR (f : Int → Int) (w p n : Int) : Int → Int := fun k => if k = 0 then f 0 + 1 else if k = 7 + 9 * f 0 then n else if 7 + 9 * f 0 + 1 ≤ k ∧ k < 7 + 9 * f 0 + 1 + n then f (97 + 14 * w + 2 + p + (k - (7 + 9 * f 0 + 1))) else if k = 7 + 9 * f 0 + 6 then -1 else if 7 + 9 * f 0 ≤ k ∧ k < 7 + 9 * f 0 + 9 then 0 else f k
/-- a shift of part of a row to the left by d, up to i -/
def shR (f : Int → Int) (c v a d i : Int) : Int → Int := fun k => if k = c then v else if a ≤ k ∧ k < i then f (k + d) else f k
theorem shR_0 {f : Int → Int} {c v a d : Int} : shR f c v a d a = uf f c v := by
  funext k
  unfold shR uf
  by_cases h : k = c
  · rw [if_pos h, if_pos h]
  · rw [if_neg h, if_neg h, if_neg (by omega)]
theorem shR_s {f : Int → Int} {c v a d i x : Int} (hd : 0 < d) (ha : a ≤ i) (hc : c < a) (hx : x = shR f c v a d i (i + d)) : uf (shR f c v a d i) i x = shR f c v a d (i + 1) := by
  have e : x = f (i + d) := by
    rw [hx]
    unfold shR
    rw [if_neg (by omega), if_neg (by omega)]
  subst e
  funext k
  unfold uf shR
  by_cases h : k = i
  · subst h
    rw [if_pos rfl, if_neg (by omega), if_pos (by omega)]
  · rw [if_neg h]
    by_cases h1 : k = c
    · rw [if_pos h1, if_pos h1]
    · rw [if_neg h1, if_neg h1]
      by_cases h2 : a ≤ k ∧ k < i
      · rw [if_pos h2, if_pos (by omega)]
      · rw [if_neg h2, if_neg (by omega)]
theorem shR_c {f : Int → Int} {c v a d i : Int} : shR f c v a d i c = v := if_pos rfl
