/-! the law: what holds between its calls -/
def InkN (f : Int → Int) : Prop := ∀ s, 0 ≤ s → s < f 0 → f (7 + 9 * s + 6) = -1 → f (7 + 9 * s + 7) = 0
def RowG (B : Int) (f : Int → Int) : Prop := RowOk B f ∧ InkN f
/-- the states saved last, the latest first -/
def Stk : List (Int → Int) → (Int → Int) → Int → Prop
  | [], _, _ => True
  | g :: t, p, sv => 0 < sv ∧ (∀ q, 0 ≤ q → q < 195 → g q = prw p (sv - 1) q) ∧ Stk t p (sv - 1)
def LwP (N B : Int) (x L : Nat) (w : Wd) (f : Int → Int) (fs : List (Int → Int)) (sv : Int) (p tx : Int → Int) (l : Int) : Prop :=
  ((isRub w.2 x ∧ (ty w 1 = 16 ∧ ln w 1 = L)) ∧ x + 171 ≤ nx w ∧ 3 ≤ x) ∧
  (AskR w.1 x f ∧ HisF w.1 w.2 (x + 26) p sv ∧ w.1 (x + 1) = tx ∧ w.1 x 1 = l ∧ CstR w.1 (x + 14) ∧ InkZ w.1 (x + 22) ∧ CstR w.1 (x + 153)) ∧
  (RowG B f ∧ (0 ≤ sv ∧ sv ≤ 4) ∧ (∀ j, 0 ≤ j → j < sv → RowG B (prw p j)) ∧ Stk fs p sv) ∧
  ((0 ≤ l ∧ l ≤ 150) ∧ ∀ k, 0 ≤ k → k < l → 0 ≤ tx k ∧ tx k ≤ 127) ∧
  ((uc w : Int) ≤ N ∧ (us w : Int) ≤ 7 * N + 8000) ∧ (0 ≤ B ∧ B ≤ 1000000000 - 400)
def LwT (N B : Int) (x L : Nat) (w : Wd) (f : Int → Int) (fs : List (Int → Int)) (sv : Int) (tx : Int → Int) (l : Int) : Prop := ∃ p, LwP N B x L w f fs sv p tx l
def LwS (N B : Int) (x L : Nat) (w : Wd) (f : Int → Int) (fs : List (Int → Int)) (sv : Int) : Prop := ∃ tx l, LwT N B x L w f fs sv tx l
theorem rowG_le {B B' : Int} {f : Int → Int} (h : B ≤ B') (hf : RowG B f) : RowG B' f := ⟨row_le h hf.1, hf.2⟩
theorem Stk_0 {fs : List (Int → Int)} {p : Int → Int} {sv : Int} (_ : Stk fs p sv) : Stk [] p sv := trivial
section LwS
variable {N B N' B' : Int} {x L : Nat} {w : Wd} {f : Int → Int} {fs : List (Int → Int)} {sv : Int} {p tx : Int → Int} {l : Int} {M2 : Nat → Int → Int}
theorem lp_ask (h : LwP N B x L w f fs sv p tx l) (hN : N ≤ N') (hq : ∀ q, (q < x + 78 ∨ x + 171 ≤ q) → M2 q = w.1 q) (hc : CstR M2 (x + 153)) : LwP N' B x L (M2, w.2) f fs sv p tx l := by
  obtain ⟨h1, ⟨a1, a2, a3, a4, a5, a6, -⟩, h3, h4, h5, h6⟩ := h
  have u1 : (uc (M2, w.2) : Int) = uc w := rfl
  have u2 : (us (M2, w.2) : Int) = us w := rfl
  exact ⟨h1, ⟨AskR_fr (fun q _ b _ => hq q (Or.inl b)) a1, HisF_fr h1.1.1.2.2.2.1 (fun q a b => hq q (by omega)) a2, (hq _ (by omega)).trans a3, (congrFun (hq x (by omega)) 1).trans a4, CstR_fr (fun q a b => hq q (by omega)) a5, InkZ_fr (fun q a b => hq q (by omega)) a6, hc⟩, h3, h4, ⟨by rw [u1]; omega, by rw [u2]; omega⟩, h6⟩
theorem lp_cst (h : LwP N B x L w f fs sv p tx l) : CstR w.1 (x + 153) := h.2.1.2.2.2.2.2.2
/-- a question that writes the plan and the trial inks alone -/
theorem lp_a86 (h : LwP N B x L w f fs sv p tx l) (hN : N ≤ N') (hq : ∀ q, (q < x + 78 ∨ x + 152 ≤ q) → M2 q = w.1 q) : LwP N' B x L (M2, w.2) f fs sv p tx l :=
  lp_ask h hN (fun q a => hq q (by omega)) (CstR_fr (fun q a b => hq q (by omega)) (lp_cst h))
theorem lp_tk (h : LwP N B x L w f fs sv p tx l) (hN : N + 1 ≤ N') : LwP N' B x L (tk w) f fs sv p tx l := by
  obtain ⟨h1, h2, h3, h4, h5, h6⟩ := h
  have u1 : (uc (tk w) : Int) = uc w + 1 := rfl
  have u2 : (us (tk w) : Int) = us w + 6 := rfl
  exact ⟨h1, h2, h3, h4, ⟨by rw [u1]; omega, by rw [u2]; omega⟩, h6⟩
theorem lp_le (h : LwP N B x L w f fs sv p tx l) (hN : N ≤ N') : LwP N' B x L w f fs sv p tx l := by
  obtain ⟨h1, h2, h3, h4, h5, h6⟩ := h
  exact ⟨h1, h2, h3, h4, ⟨by omega, by omega⟩, h6⟩
theorem lp_B (h : LwP N B x L w f fs sv p tx l) (hB : B ≤ B') (hB2 : B' ≤ 1000000000 - 400) : LwP N B' x L w f fs sv p tx l := by
  obtain ⟨h1, h2, ⟨a, b, c, d⟩, h4, h5, h6⟩ := h
  exact ⟨h1, h2, ⟨rowG_le hB a, b, fun j q1 q2 => rowG_le hB (c j q1 q2), d⟩, h4, h5, ⟨by omega, hB2⟩⟩
theorem ls_le (h : LwS N B x L w f fs sv) (hN : N ≤ N') : LwS N' B x L w f fs sv := by
  obtain ⟨tx, l, p, h⟩ := h
  exact ⟨tx, l, p, lp_le h hN⟩
theorem ls_B (h : LwS N B x L w f fs sv) (hB : B ≤ B') (hB2 : B' ≤ 1000000000 - 400) : LwS N B' x L w f fs sv := by
  obtain ⟨tx, l, p, h⟩ := h
  exact ⟨tx, l, p, lp_B h hB hB2⟩
theorem ls_0 (h : LwS N B x L w f fs sv) : LwS N B x L w f [] sv := by
  obtain ⟨tx, l, p, h1, h2, ⟨a, b, c, d⟩, h4, h5, h6⟩ := h
  exact ⟨tx, l, p, h1, h2, ⟨a, b, c, trivial⟩, h4, h5, h6⟩
theorem ls_row (h : LwS N B x L w f fs sv) : RowG B f := by
  obtain ⟨tx, l, p, h1, h2, ⟨a, b, c, d⟩, h4, h5, h6⟩ := h
  exact a
theorem ls_sv (h : LwS N B x L w f fs sv) : 0 ≤ sv ∧ sv ≤ 4 := by
  obtain ⟨tx, l, p, h1, h2, ⟨a, b, c, d⟩, h4, h5, h6⟩ := h
  exact b
theorem ls_b (h : LwS N B x L w f fs sv) : 0 ≤ B ∧ B ≤ 1000000000 - 400 := by
  obtain ⟨tx, l, p, h1, h2, h3, h4, h5, h6⟩ := h
  exact h6
theorem ls_ty (h : LwS N B x L w f fs sv) : ty w x = 9 := by
  obtain ⟨tx, l, p, h1, h2, h3, h4, h5, h6⟩ := h
  exact h1.1.1.1.1
end LwS
/-! what the wrappers answer -/
noncomputable def vV (f : Int → Int) (a : Int) : Int := if 0 ≤ a ∧ a ≤ 8 then tvf f a else -5000001
noncomputable def sV (f : Int → Int) (s a : Int) : Int := if 0 ≤ s ∧ s < f 0 then (if 0 ≤ a ∧ a ≤ 5 then tsf f s a else -5000001) else -5000003
noncomputable def pV (f : Int → Int) (s i t : Int) : Int := if (0 ≤ s ∧ s < f 0) ∧ 0 ≤ i ∧ i < f (7 + 9 * s) then @ite Int (¬ t = 0 ∧ ¬ CanT f s) (Classical.propDecidable _) (-1) (prL f s i t) else -5000003
noncomputable def wV (f : Int → Int) (w a : Int) : Int := if 0 ≤ w ∧ w < f 1 then (if 0 ≤ a ∧ a ≤ 5 then tw f w a else -5000001) else -5000003
noncomputable def lV (f : Int → Int) (w i : Int) : Int := if (0 ≤ w ∧ w < f 1) ∧ 0 ≤ i ∧ i < f (97 + 14 * w) then f (97 + 14 * w + 2 + i) else -5000003
noncomputable def nV (f : Int → Int) (s : Int) : Int := if 0 ≤ s ∧ s < f 0 then num (NdW f s) (f 1) else -5000003
section ASK
variable {N B N' : Int} {x L : Nat} {w : Wd} {f : Int → Int} {fs : List (Int → Int)} {sv : Int} {v : Int} {Q : Res → Wd → Prop}
theorem v_value {a : Int} (h : LwS N B x L w f fs sv) (hN : N + 1 ≤ N') (hv : vV f a = v) (k : ∀ w', LwS N' B x L w' f fs sv → Q (0, vI v) w') : EvQ 8 128 [vR x, vI a] w Q := by
  have hty := ls_ty h
  obtain ⟨tx, l, p, hL⟩ := h
  refine w_value hty (t_value (M := w.1) (S := w.2) hL.1.1.1 hL.2.1.1 hL.1.2.2 hL.2.2.1.1.1 (fun y M2 hq ha hT => Or.inl ⟨_, rfl, ?_⟩) (fun ha => Or.inr ⟨rfl, ?_⟩))
  · have e : y = v := by rw [← hv, tvf_eq hT]; unfold vV; rw [if_pos ha]
    rw [e]
    exact k _ ⟨tx, l, p, lp_a86 hL (by omega) (fun q a => hq q (by omega))⟩
  · have e : cde 1 = v := by rw [← hv]; unfold vV; rw [if_neg ha]; rfl
    rw [e]
    exact k _ ⟨tx, l, p, lp_tk hL (by omega)⟩
theorem v_stamp {s a : Int} (h : LwS N B x L w f fs sv) (hN : N + 1 ≤ N') (hv : sV f s a = v) (k : ∀ w', LwS N' B x L w' f fs sv → Q (0, vI v) w') : EvQ 6 129 [vR x, vI s, vI a] w Q := by
  have hty := ls_ty h
  obtain ⟨tx, l, p, hL⟩ := h
  refine w_stamp hty (t_stamp (M := w.1) (S := w.2) hL.1.1.1 hL.2.1.1 hL.1.2.2 hL.2.2.1.1.1 (fun y hs ha hT => Or.inl ⟨_, rfl, ?_⟩) (fun hs => Or.inr (Or.inl ⟨rfl, ?_⟩)) (fun hs ha => Or.inr (Or.inr ⟨rfl, ?_⟩)))
  · have e : y = v := by rw [← hv, tsf_eq hT]; unfold sV; rw [if_pos hs, if_pos ha]
    rw [e]
    exact k _ ⟨tx, l, p, lp_le hL (by omega)⟩
  · have e : cde 3 = v := by rw [← hv]; unfold sV; rw [if_neg hs]; rfl
    rw [e]
    exact k _ ⟨tx, l, p, lp_tk hL (by omega)⟩
  · have e : cde 1 = v := by rw [← hv]; unfold sV; rw [if_pos hs, if_neg ha]; rfl
    rw [e]
    exact k _ ⟨tx, l, p, lp_tk hL (by omega)⟩
theorem v_print {s i t : Int} (h : LwS N B x L w f fs sv) (hN : N + 1 ≤ N') (hv : pV f s i t = v) (k : ∀ w', LwS N' B x L w' f fs sv → Q (0, vI v) w') : EvQ 5 130 [vR x, vI s, vI i, vI t] w Q := by
  have hty := ls_ty h
  obtain ⟨tx, l, p, hL⟩ := h
  refine w_print hty (t_print (M := w.1) (S := w.2) hL.1.1.1 hL.2.1.1 hL.1.2.2 hL.2.2.1.1.1 (fun hs hc => Or.inl ⟨_, rfl, ?_⟩) (fun hs ht hc => Or.inl ⟨_, rfl, ?_⟩) (fun hs => Or.inr ⟨rfl, ?_⟩))
  · have e : prL f s i t = v := by
      rw [← hv]; unfold pV; rw [if_pos hs, @if_neg _ (Classical.propDecidable _) (fun h => h.2 (hc h.1))]
    rw [e]
    exact k _ ⟨tx, l, p, lp_le hL (by omega)⟩
  · have e : -1 = v := by rw [← hv]; unfold pV; rw [if_pos hs, @if_pos _ (Classical.propDecidable _) ⟨ht, hc⟩]
    rw [e]
    exact k _ ⟨tx, l, p, lp_le hL (by omega)⟩
  · have e : cde 3 = v := by rw [← hv]; unfold pV; rw [if_neg hs]; rfl
    rw [e]
    exact k _ ⟨tx, l, p, lp_tk hL (by omega)⟩
theorem v_word {j a : Int} (h : LwS N B x L w f fs sv) (hN : N + 1 ≤ N') (hv : wV f j a = v) (k : ∀ w', LwS N' B x L w' f fs sv → Q (0, vI v) w') : EvQ 8 131 [vR x, vI j, vI a] w Q := by
  have hty := ls_ty h
  obtain ⟨tx, l, p, hL⟩ := h
  refine w_word hty (t_word (M := w.1) (S := w.2) hL.1.1.1 hL.2.1.1 hL.1.2.2 hL.2.2.1.1.1 hL.2.2.2.2.2 (fun y M2 hq hj ha hT => Or.inl ⟨_, rfl, ?_⟩) (fun hj => Or.inr (Or.inl ⟨rfl, ?_⟩)) (fun hj ha => Or.inr (Or.inr ⟨rfl, ?_⟩)))
  · have e : y = v := by rw [← hv, tw_eq hL.2.2.1.1.1.1 (hL.2.2.1.1.1.2.1.2 j hj.1 hj.2).1 hT]; unfold wV; rw [if_pos hj, if_pos ha]
    rw [e]
    exact k _ ⟨tx, l, p, lp_a86 hL (by omega) (fun q a => hq q (by omega))⟩
  · have e : cde 3 = v := by rw [← hv]; unfold wV; rw [if_neg hj]; rfl
    rw [e]
    exact k _ ⟨tx, l, p, lp_tk hL (by omega)⟩
  · have e : cde 1 = v := by rw [← hv]; unfold wV; rw [if_pos hj, if_neg ha]; rfl
    rw [e]
    exact k _ ⟨tx, l, p, lp_tk hL (by omega)⟩
theorem v_letter {j i : Int} (h : LwS N B x L w f fs sv) (hN : N + 1 ≤ N') (hv : lV f j i = v) (k : ∀ w', LwS N' B x L w' f fs sv → Q (0, vI v) w') : EvQ 4 132 [vR x, vI j, vI i] w Q := by
  have hty := ls_ty h
  obtain ⟨tx, l, p, hL⟩ := h
  refine w_letter hty (t_letter (M := w.1) (S := w.2) hL.1.1.1 hL.2.1.1 hL.1.2.2 hL.2.2.1.1.1 (fun hj => Or.inl ⟨_, rfl, ?_⟩) (fun hj => Or.inr ⟨rfl, ?_⟩))
  · have e : f (97 + 14 * j + 2 + i) = v := by rw [← hv]; unfold lV; rw [if_pos hj]
    rw [e]
    exact k _ ⟨tx, l, p, lp_le hL (by omega)⟩
  · have e : cde 3 = v := by rw [← hv]; unfold lV; rw [if_neg hj]; rfl
    rw [e]
    exact k _ ⟨tx, l, p, lp_tk hL (by omega)⟩
theorem v_press {j i : Int} (h : LwS N B x L w f fs sv) (hN : N + 1 ≤ N') (k : ∀ w' c n, LwS N' B x L w' f fs sv → (0 ≤ j ∧ j < f 1) → BestP f j c n → (0 ≤ i ∧ i < n) → Q (0, vI (c i)) w') (k3 : ∀ w', LwS N' B x L w' f fs sv → (¬ (0 ≤ j ∧ j < f 1) ∨ ∀ c n, BestP f j c n → ¬ (0 ≤ i ∧ i < n)) → Q (0, vI (-5000003)) w') : EvQ 7 133 [vR x, vI j, vI i] w Q := by
  have hty := ls_ty h
  obtain ⟨tx, l, p, hL⟩ := h
  refine w_press hty (t_press (M := w.1) (S := w.2) hL.1.1.1 hL.2.1.1 hL.1.2.2 hL.2.2.1.1.1 (fun y c n M2 hq hj hb hi e => Or.inl ⟨_, rfl, ?_⟩) (fun M2 hq hn => Or.inr ⟨rfl, ?_⟩))
  · rw [e]
    exact k _ c n ⟨tx, l, p, lp_a86 hL (by omega) (fun q a => hq q (by omega))⟩ hj hb hi
  · exact k3 _ ⟨tx, l, p, lp_tk (lp_a86 hL (Int.le_refl _) (fun q a => hq q (by omega))) (by omega)⟩ hn
theorem v_needed {s : Int} (h : LwS N B x L w f fs sv) (hN : N + 1 ≤ N') (hv : nV f s = v) (k : ∀ w', LwS N' B x L w' f fs sv → Q (0, vI v) w') : EvQ 6 135 [vR x, vI s] w Q := by
  have hty := ls_ty h
  obtain ⟨tx, l, p, hL⟩ := h
  refine w_needed hty (t_needed (M := w.1) (S := w.2) hL.1.1.1 hL.2.1.1 hL.1.2.2 hL.2.2.1.1.1 (fun y M2 hq hs e => Or.inl ⟨_, rfl, ?_⟩) (fun hs => Or.inr ⟨rfl, ?_⟩))
  · have e2 : y = v := by rw [← hv, e]; unfold nV; rw [if_pos hs]
    rw [e2]
    exact k _ ⟨tx, l, p, lp_a86 hL (by omega) (fun q a => hq q (by omega))⟩
  · have e2 : cde 3 = v := by rw [← hv]; unfold nV; rw [if_neg hs]; rfl
    rw [e2]
    exact k _ ⟨tx, l, p, lp_tk hL (by omega)⟩
theorem v_order {i : Int} (h : LwS N B x L w f fs sv) (hN : N + 1 ≤ N') (k : ∀ w' b c, LwS N' B x L w' f fs sv → (0 ≤ i ∧ i < f 1) → BestO f b c → ¬ c = -1 → Q (0, vI (b i)) w') (k3 : ∀ w', LwS N' B x L w' f fs sv → ¬ (0 ≤ i ∧ i < f 1) → Q (0, vI (-5000003)) w') (k2 : ∀ w' b, LwS N' B x L w' f fs sv → (0 ≤ i ∧ i < f 1) → BestO f b (-1) → Q (0, vI (-5000002)) w') : EvQ 17 136 [vR x, vI i] w Q := by
  have hty := ls_ty h
  obtain ⟨tx, l, p, hL⟩ := h
  refine w_order hty (t_order (M := w.1) (S := w.2) hL.1.1.1 hL.2.1.1 hL.1.2.2 hL.2.2.1.1.1 hL.2.2.2.2.2 (fun y M2 hq hi b c hb hc e => Or.inl ⟨_, rfl, ?_⟩) (fun hi => Or.inr (Or.inl ⟨rfl, ?_⟩)) (fun M2 hq hi b hb => Or.inr (Or.inr ⟨rfl, ?_⟩)))
  · rw [e]
    exact k _ b c ⟨tx, l, p, lp_a86 hL (by omega) (fun q a => hq q (by omega))⟩ hi hb hc
  · exact k3 _ ⟨tx, l, p, lp_tk hL (by omega)⟩ hi
  · exact k2 _ b ⟨tx, l, p, lp_tk (lp_a86 hL (Int.le_refl _) (fun q a => hq q (by omega))) (by omega)⟩ hi hb
theorem v_bestCut {a most : Int} (h : LwS N B x L w f fs sv) (hN : N + 1 ≤ N') (k : ∀ w' y, LwS N' B x L w' f fs sv → ((0 ≤ a ∧ a ≤ 3) ∧ 1 ≤ most ∧ most ≤ 5) → PartV f a most y → Q (0, vI y) w') (k1 : ∀ w', LwS N' B x L w' f fs sv → ¬ ((0 ≤ a ∧ a ≤ 3) ∧ 1 ≤ most ∧ most ≤ 5) → Q (0, vI (-5000001)) w') : EvQ 9 137 [vR x, vI a, vI most] w Q := by
  have hty := ls_ty h
  obtain ⟨tx, l, p, hL⟩ := h
  refine w_bestCut hty (t_bestCut (M := w.1) (S := w.2) hL.1.1.1 hL.2.1.1 hL.1.2.2 hL.2.2.1.1.1 (lp_cst hL) hL.2.2.2.2.2 (fun y M2 hq hm hP hc => Or.inl ⟨_, rfl, ?_⟩) (fun hm => Or.inr ⟨rfl, ?_⟩))
  · exact k _ y ⟨tx, l, p, lp_ask hL (by omega) (fun q a => hq q (by omega)) hc⟩ hm hP
  · exact k1 _ ⟨tx, l, p, lp_tk hL (by omega)⟩ hm
theorem v_fewest (h : LwS N B x L w f fs sv) (hN : N + 1 ≤ N') (k : ∀ w' y, LwS N' B x L w' f fs sv → Sml f y → Q (0, vI y) w') : EvQ 7 80 [vR x] w Q := by
  obtain ⟨tx, l, p, hL⟩ := h
  refine t_fewest (M := w.1) (S := w.2) hL.1.1.1 hL.2.1.1 hL.1.2.2 hL.2.2.1.1.1 (fun y M2 hq hs => ?_)
  exact k _ y ⟨tx, l, p, lp_a86 hL (by omega) (fun q a => hq q (by omega))⟩ hs
theorem v_least (h : LwS N B x L w f fs sv) (hN : N + 1 ≤ N') (k : ∀ w' b c, LwS N' B x L w' f fs sv → BestO f b c → Q (0, vI c) w') : EvQ 16 83 [vR x] w Q := by
  obtain ⟨tx, l, p, hL⟩ := h
  refine t_leastCleanings (M := w.1) (S := w.2) hL.1.1.1 hL.2.1.1 hL.1.2.2 hL.2.2.1.1.1 hL.2.2.2.2.2 (fun y M2 hq b hb => ?_)
  exact k _ b y ⟨tx, l, p, lp_a86 hL (by omega) (fun q a => hq q (by omega))⟩ hb
theorem v_mean (h : LwS N B x L w f fs sv) (hN : N + 1 ≤ N') (k : ∀ w', LwS N' B x L w' f fs sv → Q (0, vD (lpp f)) w') : EvQ 5 85 [vR x] w Q := by
  obtain ⟨tx, l, p, hL⟩ := h
  refine t_lettersPerPress (M := w.1) (S := w.2) hL.1.1.1 hL.2.1.1 hL.1.2.2 hL.2.2.1.1.1 (fun y M2 hq e => ?_)
  rw [e]
  exact k _ ⟨tx, l, p, lp_a86 hL (by omega) (fun q a => hq q (by omega))⟩
end ASK
