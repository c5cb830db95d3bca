/-- a new stamp's place, cleared up to i; with its letters up to j -/
def clrR (f : Int → Int) (a i : Int) : Int → Int := fun k => if a ≤ k ∧ k < a + i then 0 else f k
theorem clrR_0 {f : Int → Int} {a : Int} : clrR f a 0 = f := by
  funext k
  exact if_neg (by omega)
theorem clrR_s {f : Int → Int} {a i k : Int} (hi : 0 ≤ i) (hk : k = a + i) : uf (clrR f a i) k 0 = clrR f a (i + 1) := by
  subst hk
  funext j
  unfold uf clrR
  by_cases h : j = a + i
  · rw [if_pos h, if_pos (by omega)]
  · rw [if_neg h]
    by_cases h2 : a ≤ j ∧ j < a + i
    · rw [if_pos h2, if_pos (by omega)]
    · rw [if_neg h2, if_neg (by omega)]
def clrS (f : Int → Int) (a : Int) : Int → Int := uf (clrR f a 9) (a + 6) (-1)
def letR (f : Int → Int) (w p n i : Int) : Int → Int := fun k => if k = 7 + 9 * f 0 then n else if 7 + 9 * f 0 + 1 ≤ k ∧ k < 7 + 9 * f 0 + 1 + i then f (97 + 14 * w + 2 + p + (k - (7 + 9 * f 0 + 1))) else clrS f (7 + 9 * f 0) k
theorem letR_0 {f : Int → Int} {w p n : Int} : letR f w p n 0 = uf (clrS f (7 + 9 * f 0)) (7 + 9 * f 0) n := by
  funext k
  unfold letR uf
  by_cases h : k = 7 + 9 * f 0
  · rw [if_pos h, if_pos h]
  · rw [if_neg h, if_neg h, if_neg (by omega)]
theorem letR_w {f : Int → Int} {w p n i k : Int} (h0 : 0 ≤ f 0 ∧ f 0 ≤ 9) (hi : i ≤ 5) (hk : 97 ≤ k) : letR f w p n i k = f k := by
  unfold letR clrS clrR
  rw [if_neg (by omega), if_neg (by omega), uf_ne (by omega), if_neg (by omega)]
theorem letR_z {f : Int → Int} {w p n i : Int} (h0 : 0 ≤ f 0 ∧ f 0 ≤ 9) : letR f w p n i 0 = f 0 := by
  unfold letR clrS clrR
  rw [if_neg (by omega), if_neg (by omega), uf_ne (by omega), if_neg (by omega)]
theorem letR_s {f : Int → Int} {w p n i k v : Int} (hi : 0 ≤ i) (hk : k = 7 + 9 * f 0 + 1 + i) (hv : v = f (97 + 14 * w + 2 + p + i)) : uf (letR f w p n i) k v = letR f w p n (i + 1) := by
  subst hk
  subst hv
  funext j
  unfold uf letR
  by_cases h : j = 7 + 9 * f 0 + 1 + i
  · rw [if_pos h, if_neg (by omega), if_pos (by omega)]
    congr 1; omega
  · rw [if_neg h]
    by_cases h1 : j = 7 + 9 * f 0
    · rw [if_pos h1, if_pos h1]
    · rw [if_neg h1, if_neg h1]
      by_cases h2 : 7 + 9 * f 0 + 1 ≤ j ∧ j < 7 + 9 * f 0 + 1 + i
      · rw [if_pos h2, if_pos (by omega)]
      · rw [if_neg h2, if_neg (by omega)]
theorem letR_e {f g : Int → Int} {w p n : Int} (h0 : 0 ≤ f 0 ∧ f 0 ≤ 9) (hn : 1 ≤ n ∧ n ≤ 5) (hg : g = uf (letR f w p n n) 0 (f 0 + 1)) : g = cutR f w p n := by
  subst hg
  funext k
  unfold uf letR cutR clrS
  by_cases h : k = 0
  · rw [if_pos h, if_pos h]
  rw [if_neg h, if_neg h]
  by_cases h1 : k = 7 + 9 * f 0
  · rw [if_pos h1, if_pos h1]
  rw [if_neg h1, if_neg h1]
  by_cases h2 : 7 + 9 * f 0 + 1 ≤ k ∧ k < 7 + 9 * f 0 + 1 + n
  · rw [if_pos h2, if_pos h2]
  rw [if_neg h2, if_neg h2]
  by_cases h3 : k = 7 + 9 * f 0 + 6
  · rw [if_pos h3, h3]; exact uf_eq _ _ _
  rw [if_neg h3, uf_ne h3]
  rfl
