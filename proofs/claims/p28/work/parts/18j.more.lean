/-! the law: texts kept, the script, the counts -/
theorem pt_c {f tx : Int → Int} {l st a b a' b' n : Int} (ha : a = a') (hb : b = b') (h : PT f tx l st a b n) : PT f tx l st a' b' n := by
  rw [← ha, ← hb]; exact h
section MORE
variable {N B N' B' : Int} {x L : Nat} {w : Wd} {f : Int → Int} {fs : List (Int → Int)} {sv : Int} {tx : Int → Int} {l : Int} {Q : Res → Wd → Prop}
theorem ls_scr (h : LwS N B x L w f fs sv) : ty w 1 = 16 ∧ ln w 1 = L := by
  obtain ⟨tx, l, p, h1, -⟩ := h
  exact h1.1.2
theorem ls_cnt (h : LwS N B x L w f fs sv) : (uc w : Int) ≤ N ∧ (us w : Int) ≤ 7 * N + 8000 := by
  obtain ⟨tx, l, p, h1, h2, h3, h4, h5, h6⟩ := h
  exact h5
theorem t_0 (h : LwT N B x L w f fs sv tx l) : LwT N B x L w f [] sv tx l := by
  obtain ⟨p, h1, h2, ⟨a, b, c, d⟩, h4, h5, h6⟩ := h
  exact ⟨p, h1, h2, ⟨a, b, c, trivial⟩, h4, h5, h6⟩
theorem t_len (h : LwT N B x L w f fs sv tx l) : 0 ≤ l ∧ l ≤ 150 := by
  obtain ⟨p, h1, h2, h3, h4, h5, h6⟩ := h
  exact h4.1
theorem u_undoT {g : Int → Int} (h : LwT N B x L w f (g :: fs) sv tx l) (hN : N + 1 ≤ N') (k : ∀ w', LwT N' B x L w' g fs (sv - 1) tx l → 0 < sv → Q (0, vI (sv - 1)) w') : EvQ 8 138 [vR x] w Q := by
  obtain ⟨p, hL⟩ := h
  obtain ⟨s1, s2, s3⟩ := hL.2.2.1.2.2.2
  have hg : RowG B g := rowG_c (fun q a b => s2 q a b) (hL.2.2.1.2.2.1 (sv - 1) (by omega) (by omega))
  refine w_undo hL.1.1.1.1.1 (t_undo (M := w.1) (S := w.2) hL.1.1.1 hL.2.1.1 hL.1.2.2 hg.1 hL.2.1.2.1 s2 (fun M2 hq hA hH hc => Or.inl ⟨_, rfl, ?_⟩) (fun hc => by exfalso; omega))
  obtain ⟨h1, ⟨a1, a2, a3, a4, a5, a6, a7⟩, ⟨b1, b2, b3, b4⟩, h4, h5, h6⟩ := hL
  have u1 : (uc (M2, w.2) : Int) = uc w := rfl
  have u2 : (us (M2, w.2) : Int) = us w := rfl
  exact k _ ⟨p, h1, ⟨hA, hH, (hq _ (by omega) (by omega)).trans a3, (congrFun (hq x (by omega) (by omega)) 1).trans a4, CstR_fr (fun q a b => hq q (by omega) (by omega)) a5, InkZ_fr (fun q a b => hq q (by omega) (by omega)) a6, CstR_fr (fun q a b => hq q (by omega) (by omega)) a7⟩, ⟨hg, by omega, fun j a b => b3 j a (by omega), s3⟩, h4, ⟨by rw [u1]; omega, by rw [u2]; omega⟩, h6⟩ hc
end MORE
