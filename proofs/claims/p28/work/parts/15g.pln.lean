/-! the class's plan -/
def PlnR (M : Nat → Int → Int) (p : Nat) (f : Int → Int) (w x : Int) : Prop := (M p 3 = -1 ∧ NoP f w x ∧ ∀ s, 0 ≤ s → s < 10 → M (p + 3) s = 0) ∨ (∃ n c, Pln f w x c n ∧ M p 3 = n ∧ (∀ i, 0 ≤ i → i < n → M (p + 2) i = c i) ∧ ∀ s, 0 ≤ s → s < 10 → M (p + 3) s = cnt c n s)
theorem PlnR_fr {M M2 : Nat → Int → Int} {p : Nat} {f : Int → Int} {w x : Int} (h : ∀ q, p ≤ q → q < p + 4 → M2 q = M q) (hr : PlnR M p f w x) : PlnR M2 p f w x := by
  unfold PlnR at hr ⊢
  rw [h p (by omega) (by omega), h (p + 2) (by omega) (by omega), h (p + 3) (by omega) (by omega)]
  exact hr
theorem plnx_lt {f L c : Int → Int} {w x p i : Int} (hL : Lst 100 f w x 0 L) (h : PlnX f w x L c p i) (hi : i < L 0) : p < f (97 + 14 * w) := by
  obtain ⟨⟨h1, h2, h3, h4⟩, -⟩ := h
  rcases (show p = f (97 + 14 * w) ∨ p < f (97 + 14 * w) by omega) with e | e
  · have := hL.1
    rw [← e] at this
    omega
  · exact e
theorem plnx_ge {f L c : Int → Int} {w x p i : Int} (hA : StAll f) (hL : Lst 100 f w x 0 L) (h0 : L 0 ≠ 100) (h : PlnX f w x L c p i) (hi : i = L 0) : f (97 + 14 * w) ≤ p := by
  obtain ⟨⟨h1, h2, h3, h4⟩, -⟩ := h
  rcases (show p < f (97 + 14 * w) ∨ f (97 + 14 * w) ≤ p by omega) with e | e
  · obtain ⟨b1, -, -⟩ := hL.2 p h1 e
    rcases b1 with b1 | ⟨s, hm, b1⟩
    · omega
    · have := lst_rng (by omega) hA hL (p + f (7 + 9 * s)) (by have := (may_len hA hm).1; omega) (may_len hA hm).2
      omega
  · exact e
/-- the uses of the stamps, counted as the plan is found -/
theorem uses_s {c c' u u' : Int → Int} {i v : Int} (hi : 0 ≤ i) (h : ∀ s, 0 ≤ s → s < 10 → u s = cnt c i s) (hc : c' = uf c i v) (hu : u' = uf u (v / 2) (u (v / 2) + 1)) : ∀ s, 0 ≤ s → s < 10 → u' s = cnt c' (i + 1) s := by
  intro s a b
  have e1 : cnt c' i s = cnt c i s := cnt_c (fun j q1 q2 => by rw [hc, uf_ne (by omega)])
  have e2 : c' i = v := by rw [hc]; exact uf_eq _ _ _
  rw [cnt_s hi, e1, e2, hu]
  by_cases e : s = v / 2
  · rw [e, uf_eq, if_pos rfl, ← e, h s a b]
  · rw [uf_ne e, if_neg (fun q => e q.symm), h s a b]
    omega
theorem car_1 {col : Int} {c f : Int → Int} {B i n : Int} (hR : RowOk B f) (hB : 0 ≤ B) (hc : 0 ≤ col ∧ col ≤ 3) (hi : 0 ≤ i ∧ i ≤ n) (hp : ∀ j, 0 ≤ j → j < n → 0 ≤ c j ∧ c j / 2 < f 0) : InkOk (B + i) (car col c f i) ∧ InkOnly f (car col c f i) := by
  have h := car_row hR hB hc hi.1 (fun j a b => hp j a (by omega))
  exact ⟨h.1.2.2, h.2⟩
theorem wrt_i {M : Nat → Int → Int} {p : Nat} {f : Int → Int} {w x b : Int} (hA : StAll f) (hw : WdOk f w) (hx : Fresh f x) (h : PlnR M p f w x) (hb : (b = 1 ∧ M p 3 ≠ -1 ∧ ∀ s, 0 ≤ s → s < f 0 → f (7 + 9 * s + 8) + M (p + 3) s ≤ f 2 ∨ M (p + 3) s = 0) ∨ (b = 0 ∧ (M p 3 = -1 ∨ ¬ ∀ s, 0 ≤ s → s < f 0 → f (7 + 9 * s + 8) + M (p + 3) s ≤ f 2 ∨ M (p + 3) s = 0))) : (b = 1 ∧ ∃ n c, Wrt f w c n ∧ M p 3 = n ∧ ∀ i, 0 ≤ i → i < n → M (p + 2) i = c i) ∨ (b = 0 ∧ ∀ c n, ¬ Wrt f w c n) := by
  have hA1 := hA.1
  rcases h with ⟨h1, h2, h3⟩ | ⟨n, c, h1, h2, h3, h4⟩
  · rcases hb with ⟨b1, b2, -⟩ | ⟨b1, -⟩
    · exact absurd h1 b2
    · exact Or.inr ⟨b1, nop_wrt hA hw hx h2⟩
  · have h5 := (pln_le hA hw h1).1
    rcases hb with ⟨b1, b2, b3⟩ | ⟨b1, b2⟩
    · refine Or.inl ⟨b1, n, c, ⟨x, hx, h1, fun s q1 q2 => ?_⟩, h2, h3⟩
      have := b3 s q1 q2
      rw [h4 s q1 (by omega)] at this
      exact this
    · refine Or.inr ⟨b1, wrt_no hA hw hx h1 (fun hall => ?_)⟩
      rcases b2 with b2 | b2
      · omega
      · exact b2 (fun s q1 q2 => by rw [h4 s q1 (by omega)]; exact hall s q1 q2)
/-- the uses that a plan counts are small, and none of stamps that aren't there -/
theorem uses_r {M : Nat → Int → Int} {p : Nat} {f : Int → Int} {w x : Int} (hA : StAll f) (hw : WdOk f w) (h : PlnR M p f w x) : (M p 3 = -1 ∨ (0 ≤ M p 3 ∧ M p 3 ≤ 12)) ∧ ∀ s, 0 ≤ s → s < 10 → (0 ≤ M (p + 3) s ∧ M (p + 3) s ≤ 12) ∧ (f 0 ≤ s → M (p + 3) s = 0) := by
  rcases h with ⟨h1, h2, h3⟩ | ⟨n, c, h1, h2, h3, h4⟩
  · exact ⟨Or.inl h1, fun s a b => by rw [h3 s a b]; omega⟩
  · obtain ⟨h5, h6⟩ := pln_le hA hw h1
    refine ⟨Or.inr (by omega), fun s a b => ?_⟩
    rw [h4 s a b]
    have h7 := cnt_r (c := c) (s := s) h5.1
    refine ⟨by omega, fun hs => ?_⟩
    obtain ⟨N, rfl⟩ := Int.eq_ofNat_of_zero_le h5.1
    clear h1 h2 h3 h4 h7
    have key : ∀ k : Nat, (k : Int) ≤ N → cntN c s k = 0 := by
      intro k
      induction k with
      | zero => intro _; rfl
      | succ k ih =>
        intro hk
        have h8 := h6 k (by omega) (by omega)
        show cntN c s k + (if c k / 2 = s then 1 else 0) = 0
        rw [ih (by omega), if_neg (by omega)]
        rfl
    exact key N (Int.le_refl _)
