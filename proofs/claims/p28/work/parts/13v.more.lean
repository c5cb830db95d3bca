def BestP (f : Int → Int) (w : Int) (c : Int → Int) (n : Int) : Prop := ∃ x, Fresh f x ∧ Pln f w x c n
theorem bestp_no {f : Int → Int} {w x : Int} (hA : StAll f) (hw : WdOk f w) (hx : Fresh f x) (h : NoP f w x) (c : Int → Int) (n : Int) : ¬ BestP f w c n := by
  rintro ⟨x', g1, L', q, g2, g3, g4, -⟩
  rw [← fresh_1 hx g1] at g2
  obtain ⟨L, h1, h2⟩ := h
  have hw3 := hw.2.2.1
  rcases lst_u (by omega) (by omega) hA hw h1 g2 0 (by omega) (by omega) with h | h
  · omega
  · omega
theorem bestp_u {f : Int → Int} {w n n' : Int} {c c' : Int → Int} (hA : StAll f) (hw : WdOk f w) (h : BestP f w c n) (h' : BestP f w c' n') : n = n' ∧ ∀ i, 0 ≤ i → i < n → c i = c' i := by
  obtain ⟨x, h1, h2⟩ := h
  obtain ⟨x', g1, g2⟩ := h'
  rw [← fresh_1 h1 g1] at g2
  exact pln_u hA hw h2 g2
theorem rcp_0 {f g : Int → Int} {so d : Int} : rcp f so g d 0 = g := by
  funext k
  exact if_neg (by omega)
theorem rcp_s {f g : Int → Int} {so d i k v : Int} (hi : 0 ≤ i) (hk : k = d + i) (hv : v = f (so + i)) : uf (rcp f so g d i) k v = rcp f so g d (i + 1) := by
  subst hk
  subst hv
  funext j
  unfold uf rcp
  by_cases h : j = d + i
  · subst h
    rw [if_pos rfl, if_pos (by omega)]
    congr 1; omega
  · rw [if_neg h]
    by_cases h2 : d ≤ j ∧ j < d + i
    · rw [if_pos h2, if_pos (by omega)]
    · rw [if_neg h2, if_neg (by omega)]
/-- the saved rows p, sv of them, once the row f is saved too -/
def SavedP (p : Int → Int) (sv : Int) (f p' : Int → Int) (sv' : Int) : Prop := (sv = 4 ∧ sv' = 4 ∧ ∀ j k, 0 ≤ j → j < 4 → 0 ≤ k → k < 195 → p' (195 * j + k) = if j = 3 then f k else p (195 * (j + 1) + k)) ∨ (sv ≠ 4 ∧ sv' = sv + 1 ∧ ∀ j k, 0 ≤ j → j < sv' → 0 ≤ k → k < 195 → p' (195 * j + k) = if j = sv then f k else p (195 * j + k))
theorem saved_4 {p f : Int → Int} : SavedP p 4 f (rcp f 0 (rcp p 195 p 0 585) 585 195) 4 := by
  refine Or.inl ⟨rfl, rfl, fun j k h1 h2 h3 h4 => ?_⟩
  by_cases e : j = 3
  · subst e
    rw [if_pos rfl, rcp_in (by omega)]
    congr 1; omega
  · rw [if_neg e, rcp_out (by omega), rcp_in (by omega)]
    congr 1; omega
theorem saved_n {p f : Int → Int} {sv : Int} (h0 : 0 ≤ sv) (h : sv ≠ 4) : SavedP p sv f (rcp f 0 p (195 * sv) 195) (sv + 1) := by
  refine Or.inr ⟨h, rfl, fun j k h1 h2 h3 h4 => ?_⟩
  by_cases e : j = sv
  · subst e
    rw [if_pos rfl, rcp_in (by omega)]
    congr 1; omega
  · rw [if_neg e, rcp_out (by omega)]
