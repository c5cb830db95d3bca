/-! a part tried as one more stamp, and taken out again -/
theorem sht_un {M : Nat → Int → Int} {k : Nat} {f : Int → Int} {w p n : Int} (h0 : 0 ≤ f 0 ∧ f 0 ≤ 9) (h7 : f 1 ≤ 7) (hn : n ≤ 5) (hl : ∀ s, 0 ≤ s → s < f 0 → f (7 + 9 * s) ≤ 5) (h : Sht M k (remR (cutR f w p n) (f 0))) : Sht M k f := by
  have e0 : remR (cutR f w p n) (f 0) 0 = f 0 := by rw [remR_0, cutR_0]; omega
  have lo : ∀ q, q ≠ 0 → q < 7 + 9 * f 0 → remR (cutR f w p n) (f 0) q = f q := fun q a b => by rw [remR_lo a b, cutR_lo a b]
  have hi : ∀ q, 97 ≤ q → remR (cutR f w p n) (f 0) q = f q := fun q a => by rw [remR_hi (by omega) (by rw [cutR_0]; omega), cutR_hi h0 hn a]
  generalize remR (cutR f w p n) (f 0) = g at e0 lo hi h
  obtain ⟨⟨a1, a2, a3, a4⟩, a5⟩ := h
  have e1 := lo 1 (by omega) (by omega)
  refine ⟨⟨str_c e0.symm (fun s a b => ?_) (fun s q a b c d => (lo _ (by omega) (by omega)).symm) a1, wdr_c e1.symm (fun q a => (hi q a).symm) a2, col_c e1.symm (fun q a => (hi q a).symm) a3, lim_c (lo 2 (by omega) (by omega)).symm (lo 3 (by omega) (by omega)).symm a4⟩, ink_c e0.symm (fun s a b j c d => (lo _ (by omega) (by omega)).symm) (lo 4 (by omega) (by omega)).symm (lo 5 (by omega) (by omega)).symm (lo 6 (by omega) (by omega)).symm a5⟩
  rw [e0] at b
  rw [lo _ (by omega) (by omega)]
  exact hl s a b
theorem fit_cut {f g9 : Int → Int} {w p n K : Int} (h0 : 0 ≤ f 0 ∧ f 0 ≤ 9) (hn : n ≤ 5) (hK : K = f 0) (hl : ∀ s, 0 ≤ s → s < f 0 → f (7 + 9 * s) ≤ 5) (hwl : ∀ w, 0 ≤ w → w < f 1 → f (97 + 14 * w) ≤ 12) (h : FitG f K g9) : FitG (cutR f w p n) K g9 := by
  subst hK
  exact fitG_c (cutR_lo (by omega) (by omega)) (fun s k a b c d => cutR_lo (by omega) (by omega)) hl (fun v k a b c d => cutR_hi h0 hn (by omega)) hwl h
theorem fit_uncut {f g9 : Int → Int} {w p n K : Int} (h0 : 0 ≤ f 0 ∧ f 0 ≤ 9) (hn : n ≤ 5) (hK : K = f 0) (hl : ∀ s, 0 ≤ s → s < f 0 → f (7 + 9 * s) ≤ 5) (hwl : ∀ w, 0 ≤ w → w < f 1 → f (97 + 14 * w) ≤ 12) (h : FitG (cutR f w p n) K g9) : FitG f K g9 := by
  subst hK
  have e1 : cutR f w p n 1 = f 1 := cutR_lo (by omega) (by omega)
  refine fitG_c (f := cutR f w p n) (g := f) e1.symm (fun s k a b c d => (cutR_lo (by omega) (by omega)).symm) (fun s a b => by rw [cutR_lo (by omega) (by omega)]; exact hl s a b) (fun v k a b c d => (cutR_hi h0 hn (by omega)).symm) (fun v a b => ?_) h
  rw [e1] at b
  rw [cutR_hi h0 hn (by omega)]
  exact hwl v a b
theorem p1_ms {f : Int → Int} {w v : Int} (h : pv f w = v) : p1 f w = if v = -1 then 100 else v := by
  unfold p1
  rw [h]
/-- what the class's search for a part leaves -/
def CutV (f : Int → Int) (most b0 b1 b2 b3 : Int) : Prop := (f 0 = 10 ∧ b0 = -1 ∧ b1 = -1 ∧ b2 = -1 ∧ b3 = -1) ∨ (f 0 ≠ 10 ∧ BstI f most (f 1) 0 1 b0 b1 b2 b3 ∧ (b3 = -1 → b0 = -1 ∧ b1 = -1 ∧ b2 = -1))
theorem cutV_p {f : Int → Int} {most a b0 b1 b2 b3 v : Int} (h1 : 0 ≤ f 1) (h : CutV f most b0 b1 b2 b3) (hv : v = if a = 0 then b0 else if a = 1 then b1 else if a = 2 then b2 else b3) : PartV f a most v := by
  rcases h with ⟨g0, g1, g2, g3, g4⟩ | ⟨g0, g1, g2⟩
  · refine Or.inl ⟨Or.inr g0, ?_⟩
    rw [hv, g1, g2, g3, g4]
    split <;> (try split) <;> (try split) <;> rfl
  · by_cases e : f 1 = 0
    · refine Or.inl ⟨Or.inl e, ?_⟩
      have e3 : b3 = -1 := by
        rcases g1 with ⟨k1, -⟩ | ⟨k1, -⟩
        · exact k1
        · have := k1.1; omega
      obtain ⟨k1, k2, k3⟩ := g2 e3
      rw [hv, k1, k2, k3, e3]
      split <;> (try split) <;> (try split) <;> rfl
    · exact Or.inr ⟨⟨e, g0⟩, b0, b1, b2, b3, g1, hv⟩
theorem bst_ge {f : Int → Int} {most w p n b0 b1 b2 b3 : Int} (h : BstI f most w p n b0 b1 b2 b3) : -1 ≤ b3 := by
  rcases h with h | h
  · omega
  · omega
