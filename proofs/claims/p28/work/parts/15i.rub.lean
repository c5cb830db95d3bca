/-! how the class's object lies: its parts at the names behind it; the history's four sheets in any order -/
def isHist (S : SD) (h : Nat) : Prop := (sT S h = 3 ∧ sR S h 0 = h + 1 ∧ sT S (h + 1) = 13 ∧ sN S (h + 1) = 4) ∧ (isSheet S (h + 2) ∧ isSheet S (h + 14) ∧ isSheet S (h + 26) ∧ isSheet S (h + 38)) ∧ (∀ i : Int, 0 ≤ i → i < 4 → sR S (h + 1) i = h + 2 ∨ sR S (h + 1) i = h + 14 ∨ sR S (h + 1) i = h + 26 ∨ sR S (h + 1) i = h + 38) ∧ ∀ i j : Int, 0 ≤ i → i < 4 → 0 ≤ j → j < 4 → i ≠ j → sR S (h + 1) i ≠ sR S (h + 1) j
def isOrd (S : SD) (o : Nat) : Prop := (sT S o = 5 ∧ sR S o 0 = o + 1 ∧ sR S o 1 = o + 2 ∧ sR S o 2 = o + 3 ∧ sR S o 3 = o + 4 ∧ sR S o 4 = o + 5) ∧ (sT S (o + 1) = 14 ∧ sN S (o + 1) = 8 ∧ sT S (o + 2) = 15 ∧ sN S (o + 2) = 7 ∧ sT S (o + 3) = 11 ∧ sN S (o + 3) = 7 ∧ sT S (o + 4) = 11 ∧ sN S (o + 4) = 7 ∧ sT S (o + 5) = 11 ∧ sN S (o + 5) = 7) ∧ (∀ d : Nat, d < 8 → sR S (o + 1) (d : Int) = o + 6 + 4 * d ∧ isInks S (o + 6 + 4 * d)) ∧ ∀ w : Nat, w < 7 → sR S (o + 2) (w : Int) = o + 38 + 4 * w ∧ isPlan S (o + 38 + 4 * w)
def isCut (S : SD) (c : Nat) : Prop := (sT S c = 1 ∧ sR S c 0 = c + 1 ∧ sR S c 1 = c + 13 ∧ sR S c 2 = c + 15) ∧ isSheet S (c + 1) ∧ isFits S (c + 13) ∧ isPlan S (c + 15)
def isTab (S : SD) : Prop := sT S 2 = 17 ∧ sN S 2 = 26
def isRub (S : SD) (x : Nat) : Prop := (sT S x = 9 ∧ sR S x 0 = x + 1 ∧ sR S x 2 = x + 2 ∧ sR S x 3 = x + 14 ∧ sR S x 4 = x + 26 ∧ sR S x 5 = x + 76 ∧ sR S x 6 = x + 78 ∧ sR S x 7 = x + 82 ∧ sR S x 8 = x + 86 ∧ sR S x 9 = x + 152 ∧ sT S (x + 1) = 11 ∧ sN S (x + 1) = 150) ∧ isSheet S (x + 2) ∧ isSheet S (x + 14) ∧ isHist S (x + 26) ∧ isFits S (x + 76) ∧ isPlan S (x + 78) ∧ isInks S (x + 82) ∧ isOrd S (x + 86) ∧ isCut S (x + 152) ∧ isTab S
/-- the sheet and its table hold the row f -/
def AskR (M : Nat → Int → Int) (x : Nat) (f : Int → Int) : Prop := Sht M (x + 2) f ∧ FitR M (x + 76) f (f 0) ∧ TurR M
theorem AskR_fr {M M2 : Nat → Int → Int} {x : Nat} {f : Int → Int} (h : ∀ q, 2 ≤ q → q < x + 78 → (q < 3 ∨ (x + 2 ≤ q ∧ q < x + 14) ∨ x + 76 ≤ q) → M2 q = M q) (hr : AskR M x f) : AskR M2 x f :=
  ⟨Sht_fr (fun q a b => h q (by omega) (by omega) (by omega)) hr.1, FitR_fr (fun q a b => h q (by omega) (by omega) (by omega)) hr.2.1, TurR_fr (fun q a b => h q (by omega) (by omega) (by omega)) hr.2.2⟩
theorem msV_has {f : Int → Int} {w x v : Int} (hA : StAll f) (hw : WdOk f w) (h : MsV f w x v) : (v = -1 ∧ ¬ HasX f w x) ∨ (¬ v = -1 ∧ HasX f w x) := by
  obtain ⟨L, h1, h2⟩ := h
  rcases h2 with ⟨h2, h3⟩ | ⟨h2, h3, h4⟩
  · exact Or.inl ⟨h2, hasX_no hA hw h1 h3⟩
  · exact Or.inr ⟨by omega, L, h1, h3⟩
theorem hasP_i {f : Int → Int} {w x : Int} (hx : Fresh f x) : HasP f w ↔ HasX f w x := by
  constructor
  · rintro ⟨y, h1, h2⟩
    rw [fresh_1 h1 hx] at h2
    exact h2
  · intro h
    exact ⟨x, hx, h⟩
theorem msV_pv {f : Int → Int} {w x v : Int} (hA : StAll f) (hw : WdOk f w) (hx : Fresh f x) (h : MsV f w x v) : pv f w = v ∧ (v = -1 ∨ (0 ≤ v ∧ v ≤ 12)) := by
  obtain ⟨L, h1, h2⟩ := h
  refine ⟨pv_eq hA hw hx h1 (by omega), by omega⟩
theorem plnR_no {M : Nat → Int → Int} {p : Nat} {f : Int → Int} {w x : Int} (hA : StAll f) (hw : WdOk f w) (hx : Fresh f x) (h : PlnR M p f w x) : (M p 3 = -1 ∧ Pno f w x (-1) ∧ ∀ c n, ¬ BestP f w c n) ∨ (0 ≤ M p 3 ∧ M p 3 ≤ 12 ∧ Pno f w x (M p 3) ∧ BestP f w (M (p + 2)) (M p 3)) := by
  rcases h with ⟨h1, h2, h3⟩ | ⟨n, c, h1, h2, h3, h4⟩
  · obtain ⟨L, g1, g2⟩ := id h2
    exact Or.inl ⟨h1, ⟨L, g1, by rw [if_pos g2]⟩, fun c n => bestp_no hA hw hx h2 c n⟩
  · have h5 := (pln_le hA hw h1).1
    obtain ⟨L, q, g1, g2, g3, g4⟩ := id h1
    rw [h2]
    refine Or.inr ⟨by omega, by omega, ⟨L, g1, by rw [if_neg (by omega)]; exact g2.symm⟩, ?_⟩
    obtain ⟨k1, k2⟩ := g4
    refine ⟨x, hx, L, q, g1, g2, g3, ⟨k1.1, fun j a b => ?_⟩, k2⟩
    rw [h3 j a b]
    exact k1.2 j a b
/-- what writing costs, as the class counts it on a copy -/
theorem cost_i {f c : Int → Int} {w n a v : Int} (h : Wrt f w c n) (hv : v = car (f (97 + 14 * w + 1)) c f n a - f a) : NeedsV f w a v := Or.inr ⟨c, n, h, hv⟩
