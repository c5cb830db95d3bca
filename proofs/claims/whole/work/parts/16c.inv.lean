/-! the law's invariant -/
def CH (x m u L : Nat) (M : Nat → Int → Int) (S : SD) (f p tx t : Int → Int) (sv l : Int) : Prop :=
  ((isRub S x ∧ isMod S m) ∧ (sT S 1 = 16 ∧ sN S 1 = L) ∧ (sT S u = 12 ∧ sN S u = 1)) ∧ (AskR M x f ∧ HisF M S (x + 26) p sv ∧ M (x + 1) = tx ∧ M x 1 = l ∧ CstR M (x + 14) ∧ InkZ M (x + 22) ∧ CstR M (x + 153)) ∧ (M (m + 1) = f ∧ M (m + 2) = p ∧ M m 4 = sv ∧ M (m + 5) = t ∧ M m 7 = l)
def DI (B : Int) (f p tx t : Int → Int) (sv l : Int) : Prop := RowOk B f ∧ (0 ≤ sv ∧ sv ≤ 4) ∧ (∀ j, 0 ≤ j → j < sv → RowOk B (prw p j)) ∧ (0 ≤ l ∧ l ≤ 150) ∧ ∀ k, 0 ≤ k → k < l → (tx k = t k ∧ 0 ≤ t k ∧ t k ≤ 127)
def LawI (B : Int) (x m u L : Nat) (M : Nat → Int → Int) (S : SD) : Prop := ∃ (f p tx t : Int → Int) (sv l : Int), CH x m u L M S f p tx t sv l ∧ DI B f p tx t sv l
/-- at most one exception more -/
def LCn (S S2 : SD) : Prop := S2.2.2.2.2.1 ≤ S.2.2.2.2.1 + 1 ∧ S2.2.2.2.2.2 ≤ S.2.2.2.2.2 + 6
theorem lcn_0 {S : SD} {R2 : Nat → Int → Nat} : LCn S (R2, S.2) := ⟨Nat.le_succ _, Nat.le_add_right _ _⟩
theorem lcn_1 {M : Nat → Int → Int} {S : SD} : LCn S (tk (M, S)).2 := ⟨Nat.le_refl _, Nat.le_refl _⟩
abbrev Geo (x m u : Nat) : Prop := 3 ≤ x ∧ x + 171 ≤ m ∧ m + 12 ≤ u
section INV
variable {x m u L : Nat} {M M2 : Nat → Int → Int} {S : SD} {f p tx t : Int → Int} {sv l B B' : Int}
theorem di_le (hB : B ≤ B') (h : DI B f p tx t sv l) : DI B' f p tx t sv l := ⟨row_le hB h.1, h.2.1, fun j a b => row_le hB (h.2.2.1 j a b), h.2.2.2⟩
/-- what a question leaves -/
theorem ch_ask (G : Geo x m u) (h : CH x m u L M S f p tx t sv l) (hq : ∀ q, (q < x + 78 ∨ (x + 171 ≤ q ∧ q < m + 12)) → M2 q = M q) (hc : CstR M2 (x + 153)) : CH x m u L M2 S f p tx t sv l := by
  obtain ⟨h1, ⟨a1, a2, a3, a4, a5, a6, -⟩, b1, b2, b3, b4, b5⟩ := h
  refine ⟨h1, ⟨AskR_fr (fun q _ b _ => hq q (Or.inl b)) a1, HisF_fr h1.1.1.2.2.2.1 (fun q a b => hq q (by omega)) a2, (hq _ (by omega)).trans a3, (congrFun (hq x (by omega)) 1).trans a4, CstR_fr (fun q a b => hq q (by omega)) a5, InkZ_fr (fun q a b => hq q (by omega)) a6, hc⟩, (hq _ (by omega)).trans b1, (hq _ (by omega)).trans b2, (congrFun (hq m (by omega)) 4).trans b3, (hq _ (by omega)).trans b4, (congrFun (hq m (by omega)) 7).trans b5⟩
theorem ch_out (G : Geo x m u) (h : CH x m u L M S f p tx t sv l) (hq : ∀ q, q ≠ u → M2 q = M q) : CH x m u L M2 S f p tx t sv l :=
  ch_ask G h (fun q a => hq q (by omega)) (CstR_fr (fun q a b => hq q (by omega)) h.2.1.2.2.2.2.2.2)
theorem out_q {S2 : SD} {a : Int} : ∀ q, q ≠ u → (si (M, S2) u 0 a).1 q = M q := fun _ hq => (si_o hq).1
theorem out_u {S2 : SD} {a : Int} : (si (M, S2) u 0 a).1 u 0 = a := if_pos ⟨rfl, rfl⟩
theorem ch_tk (h : CH x m u L M S f p tx t sv l) : CH x m u L M (tk (M, S)).2 f p tx t sv l := h
/-- what the reference leaves -/
theorem ch_ref (G : Geo x m u) (h : CH x m u L M S f p tx t sv l) (hq : ∀ q, q < m → M2 q = M q) (h1 : M2 (m + 1) = f) (h2 : M2 (m + 2) = p) (h3 : M2 m 4 = sv) (h4 : M2 (m + 5) = t) (h5 : M2 m 7 = l) : CH x m u L M2 S f p tx t sv l := by
  obtain ⟨hs, ⟨a1, a2, a3, a4, a5, a6, a7⟩, -⟩ := h
  exact ⟨hs, ⟨AskR_fr (fun q _ b _ => hq q (by omega)) a1, HisF_fr hs.1.1.2.2.2.1 (fun q a b => hq q (by omega)) a2, (hq _ (by omega)).trans a3, (congrFun (hq x (by omega)) 1).trans a4, CstR_fr (fun q a b => hq q (by omega)) a5, InkZ_fr (fun q a b => hq q (by omega)) a6, CstR_fr (fun q a b => hq q (by omega)) a7⟩, h1, h2, h3, h4, h5⟩
/-- a change in both -/
theorem ch_chg {R2 : Nat → Int → Nat} {M3 : Nat → Int → Int} {g p2 : Int → Int} {sv2 : Int} (G : Geo x m u) (h : CH x m u L M S f p tx t sv l) (hfr : ∀ q, q < x + 2 ∨ (x + 14 ≤ q ∧ q < x + 15) ∨ (x + 22 ≤ q ∧ q < x + 26) ∨ (x + 86 ≤ q ∧ q < u) → M2 q = M q) (hc : CstR M2 (x + 14)) (hR : ∀ r i, r ≠ x + 27 → R2 r i = sR S r i) (hX : isRub (R2, S.2) x) (hA : AskR M2 x g) (hN : HisN M2 (R2, S.2) (x + 26) p sv f) (hq : ∀ q, q < m → M3 q = M2 q) (h1 : M3 (m + 1) = g) (h2 : M3 (m + 2) = p2) (h3 : M3 m 4 = sv2) (hp : SavedP p sv f p2 sv2) (h4 : M3 (m + 5) = t) (h5 : M3 m 7 = l) : CH x m u L M3 (R2, S.2) g p2 tx t sv2 l := by
  obtain ⟨hs, ⟨a1, a2, a3, a4, a5, a6, a7⟩, -⟩ := h
  refine ⟨⟨⟨hX, mod_s (fun i => hR m i (by omega)) hs.1.2⟩, hs.2.1, hs.2.2⟩, ⟨AskR_fr (fun q _ b _ => hq q (by omega)) hA, HisF_fr hX.2.2.2.1 (fun q a b => hq q (by omega)) (hN p2 sv2 hp), ((hq _ (by omega)).trans (hfr _ (by omega))).trans a3, ((congrFun (hq x (by omega)) 1).trans (congrFun (hfr x (by omega)) 1)).trans a4, CstR_fr (fun q a b => hq q (by omega)) hc, InkZ_fr (fun q a b => (hq q (by omega)).trans (hfr q (by omega))) a6, CstR_fr (fun q a b => (hq q (by omega)).trans (hfr q (by omega))) a7⟩, h1, h2, h3, h4, h5⟩
theorem cst_ch (h : CH x m u L M S f p tx t sv l) (hfr : ∀ q, x + 14 ≤ q → q < x + 26 → M2 q = M q) : CstR M2 (x + 14) := CstR_fr (fun q a b => hfr q a b) h.2.1.2.2.2.2.1
theorem saved_di {p2 g : Int → Int} {sv2 : Int} (h : DI B f p tx t sv l) (hp : SavedP p sv f p2 sv2) (hg : RowOk B' g) (hB : B ≤ B') : DI B' g p2 tx t sv2 l := by
  obtain ⟨h1, h2, h3, h4⟩ := h
  refine ⟨hg, ?_, fun j a b => ?_, h4⟩
  · rcases hp with ⟨a, b, -⟩ | ⟨a, b, -⟩ <;> omega
  · rcases hp with ⟨c, d, e⟩ | ⟨c, d, e⟩
    · by_cases hj : j = 3
      · exact row_le hB (RowOk_c (fun q q1 q2 => by have h := e j q a (by omega) q1 q2; rw [if_pos hj] at h; exact h) h1)
      · exact row_le hB (RowOk_c (fun q q1 q2 => by have h := e j q a (by omega) q1 q2; rw [if_neg hj] at h; exact h) (h3 (j + 1) (by omega) (by omega)))
    · by_cases hj : j = sv
      · exact row_le hB (RowOk_c (fun q q1 q2 => by have h := e j q a b q1 q2; rw [if_pos hj] at h; exact h) h1)
      · exact row_le hB (RowOk_c (fun q q1 q2 => by have h := e j q a b q1 q2; rw [if_neg hj] at h; exact h) (h3 j a (by omega)))
end INV
