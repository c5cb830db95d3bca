/-! the law: what its changing calls leave -/
def nsv (sv : Int) : Int := if sv = 4 then 4 else sv + 1
theorem nsv_r {sv : Int} (h : 0 ≤ sv ∧ sv ≤ 4) : 1 ≤ nsv sv ∧ nsv sv ≤ 4 ∧ nsv sv - 1 ≤ sv := by
  unfold nsv
  split <;> omega
theorem saved_ex {p f : Int → Int} {sv : Int} : ∃ p2, SavedP p sv f p2 (nsv sv) := by
  by_cases e : sv = 4
  · refine ⟨fun k => if k / 195 = 3 then f (k % 195) else p (k + 195), Or.inl ⟨e, by unfold nsv; rw [if_pos e], fun j k a b c d => ?_⟩⟩
    have e1 : (195 * j + k) / 195 = j := by omega
    have e2 : (195 * j + k) % 195 = k := by omega
    show (if (195 * j + k) / 195 = 3 then f ((195 * j + k) % 195) else p (195 * j + k + 195)) = _
    rw [e1, e2, show 195 * j + k + 195 = 195 * (j + 1) + k by omega]
  · refine ⟨fun k => if k / 195 = sv then f (k % 195) else p k, Or.inr ⟨e, by unfold nsv; rw [if_neg e], fun j k a b c d => ?_⟩⟩
    have e1 : (195 * j + k) / 195 = j := by omega
    have e2 : (195 * j + k) % 195 = k := by omega
    show (if (195 * j + k) / 195 = sv then f ((195 * j + k) % 195) else p (195 * j + k)) = _
    rw [e1, e2]
theorem stk_len {p : Int → Int} : ∀ (fs : List (Int → Int)) (s : Int), 0 ≤ s → Stk fs p s → (fs.length : Int) ≤ s
  | [], s, h, _ => h
  | g :: t, s, _, ⟨h1, h2, h3⟩ => by
    have := stk_len t (s - 1) (by omega) h3
    show ((t.length + 1 : Nat) : Int) ≤ s
    omega
theorem stk_sh {p p2 : Int → Int} {d : Int} : ∀ (fs : List (Int → Int)) (s : Int), (∀ j k, 0 ≤ j → j < s → 0 ≤ k → k < 195 → p2 (195 * j + k) = p (195 * (j + d) + k)) → (fs.length : Int) ≤ s → Stk fs p (s + d) → Stk fs p2 s
  | [], _, _, _, _ => trivial
  | g :: t, s, h, hl, ⟨h1, h2, h3⟩ => by
    have hl2 : ((t.length + 1 : Nat) : Int) ≤ s := hl
    refine ⟨by omega, fun q a b => ?_, stk_sh t (s - 1) (fun j k a b c e => h j k a (by omega) c e) (by omega) (by rw [show s - 1 + d = s + d - 1 by omega]; exact h3)⟩
    rw [h2 q a b]
    show p (195 * (s + d - 1) + q) = p2 (195 * (s - 1) + q)
    rw [h (s - 1) q (by omega) (by omega) a b, show s - 1 + d = s + d - 1 by omega]
theorem stk_push {p p2 f : Int → Int} {sv : Int} {fs : List (Int → Int)} (hs : 0 ≤ sv ∧ sv ≤ 4) (hl : fs.length ≤ 3) (h : Stk fs p sv) (hp : SavedP p sv f p2 (nsv sv)) : Stk (f :: fs) p2 (nsv sv) := by
  have hn := nsv_r hs
  have hlen := stk_len fs sv hs.1 h
  rcases hp with ⟨h1, h2, h3⟩ | ⟨h1, h2, h3⟩
  · refine ⟨by omega, fun q a b => ?_, ?_⟩
    · show f q = p2 (195 * (nsv sv - 1) + q)
      rw [h2, h3 (4 - 1) q (by omega) (by omega) a b, if_pos (by omega)]
    · rw [h2]
      refine stk_sh (d := 1) fs (4 - 1) (fun j k a b c e => ?_) (by omega) (by rw [h1] at h; exact h)
      rw [h3 j k a (by omega) c e, if_neg (by omega)]
  · refine ⟨by omega, fun q a b => ?_, ?_⟩
    · show f q = p2 (195 * (nsv sv - 1) + q)
      rw [h3 (nsv sv - 1) q (by omega) (by omega) a b, if_pos (by omega)]
    · rw [h2, show sv + 1 - 1 = sv by omega]
      refine stk_sh (d := 0) fs sv (fun j k a b c e => ?_) hlen (by rw [Int.add_zero]; exact h)
      rw [h3 j k a (by omega) c e, if_neg (by omega), Int.add_zero]
theorem inkN_c {f g : Int → Int} (h0 : f 0 ≤ 10) (hk : ∀ q, 0 ≤ q → q < 195 → g q = f q) (h : InkN f) : InkN g := fun s a b => by
  rw [hk 0 (by omega) (by omega)] at b
  rw [hk _ (by omega) (by omega), hk _ (by omega) (by omega)]
  exact h s a b
theorem rowG_c {B : Int} {f g : Int → Int} (hk : ∀ q, 0 ≤ q → q < 195 → g q = f q) (h : RowG B f) : RowG B g := ⟨RowOk_c hk h.1, inkN_c h.1.1.1.2 hk h.2⟩
section CHG
variable {N B N' B' : Int} {x L : Nat} {w : Wd} {f : Int → Int} {fs : List (Int → Int)} {sv : Int} {p tx : Int → Int} {l : Int} {M2 : Nat → Int → Int} {g : Int → Int} {R2 : Nat → Int → Nat}
/-- a change that was saved -/
theorem lp_chg (h : LwP N B x L w f fs sv p tx l) (hN : N ≤ N') (hl : fs.length ≤ 3) (hq : ∀ q, (q < x + 2 ∨ (x + 22 ≤ q ∧ q < x + 26) ∨ x + 86 ≤ q) → M2 q = w.1 q) (hX : isRub (R2, w.2.2) x) (hA : AskR M2 x g) (hH : HisN M2 (R2, w.2.2) (x + 26) p sv f) (hc : CstR M2 (x + 14)) (hg : RowG B' g) (hB : B ≤ B') (hB2 : B' ≤ 1000000000 - 400) : LwT N' B' x L (M2, (R2, w.2.2)) g (f :: fs) (nsv sv) tx l := by
  obtain ⟨h1, ⟨a1, a2, a3, a4, a5, a6, a7⟩, ⟨b1, b2, b3, b4⟩, h4, h5, h6⟩ := h
  obtain ⟨p2, hp⟩ := saved_ex (p := p) (f := f) (sv := sv)
  have hn := nsv_r b2
  have u1 : (uc (M2, (R2, w.2.2)) : Int) = uc w := rfl
  have u2 : (us (M2, (R2, w.2.2)) : Int) = us w := rfl
  refine ⟨p2, ⟨⟨hX, h1.1.2⟩, h1.2⟩, ⟨hA, hH p2 (nsv sv) hp, (hq _ (by omega)).trans a3, (congrFun (hq x (by omega)) 1).trans a4, hc, InkZ_fr (fun q a b => hq q (by omega)) a6, CstR_fr (fun q a b => hq q (by omega)) a7⟩, ⟨hg, by omega, fun j a b => ?_, stk_push b2 hl b4 hp⟩, h4, ⟨by rw [u1]; omega, by rw [u2]; omega⟩, by omega⟩
  rcases hp with ⟨c, d, e⟩ | ⟨c, d, e⟩
  · by_cases hj : j = 3
    · exact rowG_le hB (rowG_c (fun q q1 q2 => by have h := e j q a (by omega) q1 q2; rw [if_pos hj] at h; exact h) b1)
    · exact rowG_le hB (rowG_c (fun q q1 q2 => by have h := e j q a (by omega) q1 q2; rw [if_neg hj] at h; exact h) (b3 (j + 1) (by omega) (by omega)))
  · by_cases hj : j = sv
    · exact rowG_le hB (rowG_c (fun q q1 q2 => by have h := e j q a b q1 q2; rw [if_pos hj] at h; exact h) b1)
    · exact rowG_le hB (rowG_c (fun q q1 q2 => by have h := e j q a b q1 q2; rw [if_neg hj] at h; exact h) (b3 j a (by omega)))
theorem lp_same {M2 : Nat → Int → Int} (h : LwP N B x L w f fs sv p tx l) (hN : N ≤ N') (hq : ∀ q, (q < x + 2 ∨ (x + 22 ≤ q ∧ q < x + 26) ∨ x + 86 ≤ q) → M2 q = w.1 q) (hA : AskR M2 x f) (hH : HisF M2 w.2 (x + 26) p sv) (hc : CstR M2 (x + 14)) : LwP N' B x L (M2, w.2) f fs sv p tx l := by
  obtain ⟨h1, ⟨a1, a2, a3, a4, a5, a6, a7⟩, h3, h4, h5, h6⟩ := h
  have u1 : (uc (M2, w.2) : Int) = uc w := rfl
  have u2 : (us (M2, w.2) : Int) = us w := rfl
  exact ⟨h1, ⟨hA, hH, (hq _ (by omega)).trans a3, (congrFun (hq x (by omega)) 1).trans a4, hc, InkZ_fr (fun q a b => hq q (by omega)) a6, CstR_fr (fun q a b => hq q (by omega)) a7⟩, h3, h4, ⟨by rw [u1]; omega, by rw [u2]; omega⟩, h6⟩
end CHG
/-! an ink that is none has no amount -/
theorem inkN_cut {f : Int → Int} {w q n : Int} (h0 : 0 ≤ f 0) (hn : n ≤ 5) (h : InkN f) : InkN (cutR f w q n) := fun s a b => by
  rw [cutR_0] at b
  by_cases e : s = f 0
  · subst e
    intro _
    unfold cutR
    rw [if_neg (by omega), if_neg (by omega), if_neg (by omega), if_neg (by omega), if_pos (by omega)]
  · rw [cutR_lo (by omega) (by omega), cutR_lo (by omega) (by omega)]
    exact h s a (by omega)
theorem inkN_rem {f : Int → Int} {s : Int} (hs : 0 ≤ s ∧ s < f 0) (h : InkN f) : InkN (remR f s) := fun t a b => by
  rw [remR_0] at b
  by_cases e : t < s
  · rw [remR_lo (by omega) (by omega), remR_lo (by omega) (by omega)]
    exact h t a (by omega)
  · rw [remR_in (by omega) (by omega), remR_in (by omega) (by omega)]
    have := h (t + 1) (by omega) (by omega)
    rwa [show 7 + 9 * t + 6 + 9 = 7 + 9 * (t + 1) + 6 by omega, show 7 + 9 * t + 7 + 9 = 7 + 9 * (t + 1) + 7 by omega]
theorem inkN_lo {f g : Int → Int} (h0 : f 0 ≤ 10) (e0 : g 0 = f 0) (hk : ∀ q, 7 ≤ q → q < 97 → g q = f q) (h : InkN f) : InkN g := fun s a b => by
  rw [e0] at b
  rw [hk _ (by omega) (by omega), hk _ (by omega) (by omega)]
  exact h s a b
theorem inkN_cln {f : Int → Int} {s : Int} (hs : 0 ≤ s) (h : InkN f) : InkN (cleanR f s) := fun t a b => by
  unfold cleanR at b ⊢
  rw [uf_ne (by omega), uf_ne (by omega), uf_ne (by omega)] at b
  by_cases e : t = s
  · subst e
    intro _
    exact uf_eq _ _ _
  · rw [uf_ne (by omega), uf_ne (by omega), uf_ne (by omega), uf_ne (by omega), uf_ne (by omega), uf_ne (by omega)]
    exact h t a b
theorem inkN_prs {f : Int → Int} {col s : Int} (hs : 0 ≤ s) (hc : 0 ≤ col) (h : InkN f) : InkN (prs1 col s f) := fun t a b => by
  rw [prs1_0 hs] at b
  by_cases e : t = s
  · subst e
    intro h9
    have e9 : prs1 col t f (7 + 9 * t + 6) = col := if_pos rfl
    omega
  · rw [prs1_k (by omega) (by omega) (by omega) (by omega) (by omega) (by omega), prs1_k (by omega) (by omega) (by omega) (by omega) (by omega) (by omega)]
    exact h t a b
theorem inkN_car {f c : Int → Int} {col n : Int} (hn0 : 0 ≤ n) (hc : 0 ≤ col) (hp : ∀ i, 0 ≤ i → i < n → 0 ≤ c i) (h : InkN f) : InkN (car col c f n) := by
  obtain ⟨N, rfl⟩ := Int.eq_ofNat_of_zero_le hn0
  have key : ∀ k : Nat, k ≤ N → InkN (carN col c f k) := by
    intro k
    induction k with
    | zero => intro _; exact h
    | succ k ih =>
      intro hk
      have := hp k (by omega) (by omega)
      exact inkN_prs (s := c k / 2) (by omega) hc (ih (by omega))
  exact key N (Nat.le_refl _)
theorem inkN_wrote {f : Int → Int} {w : Int} (hA : StAll f) (hw : WdOk f w ∧ 0 ≤ f (97 + 14 * w + 1) ∧ f (97 + 14 * w + 1) ≤ 3) (h : InkN f) : InkN (wrote f w) := by
  by_cases hc : Can f w
  · obtain ⟨z, hz⟩ := hc
    rw [wrote_t hA hw.1 hz]
    have h2 := wrt_pl hA hw.1 hz
    exact inkN_car h2.1.1 hw.2.1 (fun i a b => (h2.2 i a b).1) h
  · rw [wrote_f hc]
    exact h
theorem inkN_wall {B : Int} {f : Int → Int} (hR : RowOk B f) (hB : 0 ≤ B) (h : InkN f) : ∀ n : Nat, (n : Int) ≤ f 1 → InkN (wallN f n)
  | 0, _ => h
  | n + 1, hn => by
    have r := wall_row hR hB (n : Int) (by omega) (by omega)
    have e : wall f (n : Int) = wallN f n := by unfold wall; rw [Int.toNat_natCast]
    rw [e] at r
    exact inkN_wrote r.1.1 (r.1.2.1.2 n (by omega) (by rw [r.2.2.1]; omega)) (inkN_wall hR hB h n (by omega))
theorem inkN_pw {f g : Int → Int} (h : PW f 0 g) : InkN g := fun s a b _ => (h.2.1 s a b).2.2.2.2.1
section UP
variable {N B N' B' : Int} {x L : Nat} {w : Wd} {f : Int → Int} {fs : List (Int → Int)} {sv : Int} {v : Int} {Q : Res → Wd → Prop}
theorem u_cut {j q n : Int} (h : LwS N B x L w f fs sv) (hN : N + 1 ≤ N') (hl : fs.length ≤ 3) (k : ∀ w', LwS N' B x L w' (cutR f j q n) (f :: fs) (nsv sv) → ((0 ≤ j ∧ j < f 1) ∧ ((0 ≤ q ∧ q < f (97 + 14 * j)) ∧ (1 ≤ n ∧ n ≤ 5) ∧ n ≤ f (97 + 14 * j) - q) ∧ f 0 ≠ 10) → Q (0, vI (f 0)) w') (k3 : ∀ w', LwS N' B x L w' f fs sv → ¬ (0 ≤ j ∧ j < f 1) → Q (0, vI (-5000003)) w') (k1 : ∀ w', LwS N' B x L w' f fs sv → ((0 ≤ j ∧ j < f 1) ∧ ¬ ((0 ≤ q ∧ q < f (97 + 14 * j)) ∧ (1 ≤ n ∧ n ≤ 5) ∧ n ≤ f (97 + 14 * j) - q)) → Q (0, vI (-5000001)) w') (k2 : ∀ w', LwS N' B x L w' f fs sv → ((0 ≤ j ∧ j < f 1) ∧ ((0 ≤ q ∧ q < f (97 + 14 * j)) ∧ (1 ≤ n ∧ n ≤ 5) ∧ n ≤ f (97 + 14 * j) - q) ∧ f 0 = 10) → Q (0, vI (-5000002)) w') : EvQ 8 122 [vR x, vI j, vI q, vI n] w Q := by
  have hty := ls_ty h
  obtain ⟨tx, l, p, hL⟩ := h
  refine w_cut hty (t_cut (M := w.1) (S := w.2) hL.1.1.1 hL.2.1.1 hL.1.2.2 hL.2.2.1.1.1 hL.2.1.2.1 hL.2.2.2.2.2 (fun y M2 R2 hq hR hX hA hH hc e => Or.inl ⟨_, rfl, ?_⟩) (fun hc => Or.inr (Or.inl ⟨rfl, ?_⟩)) (fun hc => Or.inr (Or.inr (Or.inl ⟨rfl, ?_⟩))) (fun hc => Or.inr (Or.inr (Or.inr ⟨rfl, ?_⟩))))
  · rw [e]
    have h0 := hL.2.2.1.1.1.1.1
    exact k _ ⟨tx, l, lp_chg hL (by omega) hl (fun q a => hq q (by omega) (by omega)) hX hA hH (CstR_fr (fun q a b => hq q (by omega) (by omega)) hL.2.1.2.2.2.2.1) ⟨cut_row hL.2.2.1.1.1 hL.2.2.2.2.2.1 (by omega) ⟨hc.1, hc.2.1.1, hc.2.1.2.1, hc.2.1.2.2⟩, inkN_cut h0.1 hc.2.1.2.1.2 hL.2.2.1.1.2⟩ (Int.le_refl _) hL.2.2.2.2.2.2⟩ hc
  · exact k3 _ ⟨tx, l, p, lp_tk hL (by omega)⟩ hc
  · exact k1 _ ⟨tx, l, p, lp_tk hL (by omega)⟩ hc
  · exact k2 _ ⟨tx, l, p, lp_tk hL (by omega)⟩ hc
theorem u_remove {s : Int} (h : LwS N B x L w f fs sv) (hN : N + 1 ≤ N') (hl : fs.length ≤ 3) (k : ∀ w', LwS N' B x L w' (remR f s) (f :: fs) (nsv sv) → (0 ≤ s ∧ s < f 0) → Q (0, vI (f 0 - 1)) w') (k3 : ∀ w', LwS N' B x L w' f fs sv → ¬ (0 ≤ s ∧ s < f 0) → Q (0, vI (-5000003)) w') : EvQ 8 123 [vR x, vI s] w Q := by
  have hty := ls_ty h
  obtain ⟨tx, l, p, hL⟩ := h
  refine w_remove hty (t_remove (M := w.1) (S := w.2) hL.1.1.1 hL.2.1.1 hL.1.2.2 hL.2.2.1.1.1 hL.2.1.2.1 (fun y M2 R2 hq hR hX hA hH hc e => Or.inl ⟨_, rfl, ?_⟩) (fun hc => Or.inr ⟨rfl, ?_⟩))
  · rw [e]
    exact k _ ⟨tx, l, lp_chg hL (by omega) hl (fun q a => hq q (by omega) (by omega)) hX hA hH (CstR_fr (fun q a b => hq q (by omega) (by omega)) hL.2.1.2.2.2.2.1) ⟨row_rem hL.2.2.1.1.1 hc, inkN_rem hc hL.2.2.1.1.2⟩ (Int.le_refl _) hL.2.2.2.2.2.2⟩ hc
  · exact k3 _ ⟨tx, l, p, lp_tk hL (by omega)⟩ hc
theorem u_drop {s : Int} (h : LwS N B x L w f fs sv) (hN : N + 1 ≤ N') (hl : fs.length ≤ 3) (k : ∀ w', LwS N' B x L w' (dropR f s) (f :: fs) (nsv sv) → (0 ≤ s ∧ s < f 1) → Q (0, vI (f 1 - 1)) w') (k3 : ∀ w', LwS N' B x L w' f fs sv → ¬ (0 ≤ s ∧ s < f 1) → Q (0, vI (-5000003)) w') : EvQ 8 124 [vR x, vI s] w Q := by
  have hty := ls_ty h
  obtain ⟨tx, l, p, hL⟩ := h
  refine w_drop hty (t_drop (M := w.1) (S := w.2) hL.1.1.1 hL.2.1.1 hL.1.2.2 hL.2.2.1.1.1 hL.2.1.2.1 (fun y M2 R2 hq hR hX hA hH hc e => Or.inl ⟨_, rfl, ?_⟩) (fun hc => Or.inr ⟨rfl, ?_⟩))
  · rw [e]
    exact k _ ⟨tx, l, lp_chg hL (by omega) hl (fun q a => hq q (by omega) (by omega)) hX hA hH (CstR_fr (fun q a b => hq q (by omega) (by omega)) hL.2.1.2.2.2.2.1) ⟨row_drop hL.2.2.1.1.1 hc, inkN_lo hL.2.2.1.1.1.1.1.2 (dropR_lo (by omega) (by omega)) (fun q a b => dropR_lo (by omega) (by omega)) hL.2.2.1.1.2⟩ (Int.le_refl _) hL.2.2.2.2.2.2⟩ hc
  · exact k3 _ ⟨tx, l, p, lp_tk hL (by omega)⟩ hc
theorem u_setColor {j c : Int} (h : LwS N B x L w f fs sv) (hN : N + 1 ≤ N') (hl : fs.length ≤ 3) (k : ∀ w', LwS N' B x L w' (uf f (97 + 14 * j + 1) c) (f :: fs) (nsv sv) → ((0 ≤ j ∧ j < f 1) ∧ 0 ≤ c ∧ c ≤ 3) → Q (0, vI (f (97 + 14 * j + 1))) w') (k3 : ∀ w', LwS N' B x L w' f fs sv → ¬ (0 ≤ j ∧ j < f 1) → Q (0, vI (-5000003)) w') (k1 : ∀ w', LwS N' B x L w' f fs sv → ((0 ≤ j ∧ j < f 1) ∧ ¬ (0 ≤ c ∧ c ≤ 3)) → Q (0, vI (-5000001)) w') : EvQ 6 125 [vR x, vI j, vI c] w Q := by
  have hty := ls_ty h
  obtain ⟨tx, l, p, hL⟩ := h
  refine w_setColor hty (t_setColor (M := w.1) (S := w.2) hL.1.1.1 hL.2.1.1 hL.1.2.2 hL.2.2.1.1.1 hL.2.1.2.1 (fun y M2 R2 hq hR hX hA hH hc e => Or.inl ⟨_, rfl, ?_⟩) (fun hc => Or.inr (Or.inl ⟨rfl, ?_⟩)) (fun hc => Or.inr (Or.inr ⟨rfl, ?_⟩)))
  · rw [e]
    exact k _ ⟨tx, l, lp_chg hL (by omega) hl (fun q a => hq q (by omega) (by omega)) hX hA hH (CstR_fr (fun q a b => hq q (by omega) (by omega)) hL.2.1.2.2.2.2.1) ⟨row_col hL.2.2.1.1.1 hc.1 hc.2, inkN_lo hL.2.2.1.1.1.1.1.2 (uf_ne (by omega)) (fun q a b => uf_ne (by omega)) hL.2.2.1.1.2⟩ (Int.le_refl _) hL.2.2.2.2.2.2⟩ hc
  · exact k3 _ ⟨tx, l, p, lp_tk hL (by omega)⟩ hc
  · exact k1 _ ⟨tx, l, p, lp_tk hL (by omega)⟩ hc
theorem u_setLimits {a b : Int} (h : LwS N B x L w f fs sv) (hN : N + 1 ≤ N') (hl : fs.length ≤ 3) (k : ∀ w', LwS N' B x L w' (uf (uf f 2 a) 3 b) (f :: fs) (nsv sv) → ((1 ≤ a ∧ a ≤ 200) ∧ 1 ≤ b ∧ b ≤ 20) → Q (0, vI (f 2)) w') (k1 : ∀ w', LwS N' B x L w' f fs sv → ¬ ((1 ≤ a ∧ a ≤ 200) ∧ 1 ≤ b ∧ b ≤ 20) → Q (0, vI (-5000001)) w') : EvQ 6 126 [vR x, vI a, vI b] w Q := by
  have hty := ls_ty h
  obtain ⟨tx, l, p, hL⟩ := h
  refine w_setLimits hty (t_setLimits (M := w.1) (S := w.2) hL.1.1.1 hL.2.1.1 hL.1.2.2 hL.2.2.1.1.1 hL.2.1.2.1 (fun y M2 R2 hq hR hX hA hH hc e => Or.inl ⟨_, rfl, ?_⟩) (fun hc => Or.inr ⟨rfl, ?_⟩))
  · rw [e]
    exact k _ ⟨tx, l, lp_chg hL (by omega) hl (fun q a => hq q (by omega) (by omega)) hX hA hH (CstR_fr (fun q a b => hq q (by omega) (by omega)) hL.2.1.2.2.2.2.1) ⟨row_lim hL.2.2.1.1.1 hc.1 hc.2, inkN_lo hL.2.2.1.1.1.1.1.2 (by rw [uf_ne (by omega), uf_ne (by omega)]) (fun q a b => by rw [uf_ne (by omega), uf_ne (by omega)]) hL.2.2.1.1.2⟩ (Int.le_refl _) hL.2.2.2.2.2.2⟩ hc
  · exact k1 _ ⟨tx, l, p, lp_tk hL (by omega)⟩ hc
theorem u_clean {s : Int} (h : LwS N B x L w f fs sv) (hN : N + 1 ≤ N') (hl : fs.length ≤ 3) (hB : B + 84 ≤ 1000000000 - 400) (k : ∀ w', LwS N' (B + 84) x L w' (cleanR f s) (f :: fs) (nsv sv) → (0 ≤ s ∧ s < f 0) → Q (0, vI (if f (7 + 9 * s + 6) = -1 then 0 else 1)) w') (k3 : ∀ w', LwS N' B x L w' f fs sv → ¬ (0 ≤ s ∧ s < f 0) → Q (0, vI (-5000003)) w') : EvQ 6 127 [vR x, vI s] w Q := by
  have hty := ls_ty h
  obtain ⟨tx, l, p, hL⟩ := h
  refine w_clean hty (t_clean (M := w.1) (S := w.2) hL.1.1.1 hL.2.1.1 hL.1.2.2 hL.2.2.1.1.1 hL.2.1.2.1 hL.2.2.2.2.2 (fun y M2 R2 hq hR hX hA hH hc e => Or.inl ⟨_, rfl, ?_⟩) (fun hc => Or.inr ⟨rfl, ?_⟩))
  · rw [e]
    exact k _ ⟨tx, l, lp_chg hL (by omega) hl (fun q a => hq q (by omega) (by omega)) hX hA hH (CstR_fr (fun q a b => hq q (by omega) (by omega)) hL.2.1.2.2.2.2.1) ⟨row_le (by omega) (row_clean hL.2.2.1.1.1 hL.2.2.2.2.2.1 hc), inkN_cln hc.1 hL.2.2.1.1.2⟩ (by omega) hB⟩ hc
  · exact k3 _ ⟨tx, l, p, lp_tk hL (by omega)⟩ hc
theorem u_write {j : Int} (h : LwS N B x L w f fs sv) (hN : N + 1 ≤ N') (hl : fs.length ≤ 3) (hB : B + 84 ≤ 1000000000 - 400) (k : ∀ w' c n, LwS N' (B + 84) x L w' (car (f (97 + 14 * j + 1)) c f n) (f :: fs) (nsv sv) → (0 ≤ j ∧ j < f 1) → Wrt f j c n → Q (0, vI n) w') (k3 : ∀ w', LwS N' B x L w' f fs sv → ¬ (0 ≤ j ∧ j < f 1) → Q (0, vI (-5000003)) w') (k2 : ∀ w', LwS N' B x L w' f fs sv → (0 ≤ j ∧ j < f 1) → (∀ c n, ¬ Wrt f j c n) → Q (0, vI (-5000002)) w') : EvQ 7 134 [vR x, vI j] w Q := by
  have hty := ls_ty h
  obtain ⟨tx, l, p, hL⟩ := h
  refine w_write hty (t_write (M := w.1) (S := w.2) hL.1.1.1 hL.2.1.1 hL.1.2.2 hL.2.2.1.1.1 hL.2.1.2.1 hL.2.2.2.2.2 (fun y c M2 R2 hq hR hX hA hH hc n hw e => Or.inl ⟨_, rfl, ?_⟩) (fun hc => Or.inr (Or.inl ⟨rfl, ?_⟩)) (fun M2 hq hc hn hA hH => Or.inr (Or.inr ⟨rfl, ?_⟩)))
  · have hj := hL.2.2.1.1.1.2.1.2 j hc.1 hc.2
    have h2 := wrt_pl hL.2.2.1.1.1.1 hj.1 hw
    rw [e] at hA ⊢
    exact k _ c n ⟨tx, l, lp_chg hL (by omega) hl (fun q a => hq q (by omega) (by omega)) hX hA hH (CstR_fr (fun q a b => hq q (by omega) (by omega)) hL.2.1.2.2.2.2.1) ⟨row_le (by omega) (car_row hL.2.2.1.1.1 hL.2.2.2.2.2.1 hj.2 h2.1.1 h2.2).1, inkN_car h2.1.1 hj.2.1 (fun i a b => (h2.2 i a b).1) hL.2.2.1.1.2⟩ (by omega) hB⟩ hc hw
  · exact k3 _ ⟨tx, l, p, lp_tk hL (by omega)⟩ hc
  · exact k2 _ ⟨tx, l, p, lp_tk (lp_same hL (Int.le_refl _) (fun q a => hq q (by omega) (by omega)) hA hH (CstR_fr (fun q a b => hq q (by omega) (by omega)) hL.2.1.2.2.2.2.1)) (by omega)⟩ hc hn
theorem u_writeAll (h : LwS N B x L w f fs sv) (hN : N + 1 ≤ N') (hl : fs.length ≤ 3) (hB : B + 84 ≤ 1000000000 - 400) (k : ∀ w', LwS N' (B + 84) x L w' (wall f (f 1)) (f :: fs) (nsv sv) → Q (0, vI (num (fun w => Can (wall f w) w) (f 1))) w') : EvQ 6 79 [vR x] w Q := by
  obtain ⟨tx, l, p, hL⟩ := h
  refine t_writeAll (M := w.1) (S := w.2) hL.1.1.1 hL.2.1.1 hL.1.2.2 hL.2.2.1.1.1 hL.2.1.2.1 hL.2.2.2.2.2 (fun y M2 R2 hq hR hX hA hH e => ?_)
  rw [e]
  have h1 := hL.2.2.1.1.1.2.1.1
  have hn := inkN_wall hL.2.2.1.1.1 hL.2.2.2.2.2.1 hL.2.2.1.1.2 (f 1).toNat (by omega)
  exact k _ ⟨tx, l, lp_chg hL (by omega) hl (fun q a => hq q (by omega) (by omega)) hX hA hH (CstR_fr (fun q a b => hq q (by omega) (by omega)) hL.2.1.2.2.2.2.1) ⟨row_le (by omega) (wall_row hL.2.2.1.1.1 hL.2.2.2.2.2.1 (f 1) h1.1 (Int.le_refl _)).1, hn⟩ (by omega) hB⟩
theorem u_undo {g : Int → Int} (h : LwS N B x L w f (g :: fs) sv) (hN : N + 1 ≤ N') (k : ∀ w', LwS N' B x L w' g fs (sv - 1) → 0 < sv → Q (0, vI (sv - 1)) w') : EvQ 8 138 [vR x] w Q := by
  have hty := ls_ty h
  obtain ⟨tx, l, p, hL⟩ := h
  obtain ⟨s1, s2, s3⟩ := hL.2.2.1.2.2.2
  have hg : RowG B g := rowG_c (fun q a b => s2 q a b) (hL.2.2.1.2.2.1 (sv - 1) (by omega) (by omega))
  refine w_undo hty (t_undo (M := w.1) (S := w.2) hL.1.1.1 hL.2.1.1 hL.1.2.2 hg.1 hL.2.1.2.1 s2 (fun M2 hq hA hH hc => Or.inl ⟨_, rfl, ?_⟩) (fun hc => by exfalso; omega))
  obtain ⟨h1, ⟨a1, a2, a3, a4, a5, a6, a7⟩, ⟨b1, b2, b3, b4⟩, h4, h5, h6⟩ := hL
  have u1 : (uc (M2, w.2) : Int) = uc w := rfl
  have u2 : (us (M2, w.2) : Int) = us w := rfl
  exact k _ ⟨tx, l, p, h1, ⟨hA, hH, (hq _ (by omega) (by omega)).trans a3, (congrFun (hq x (by omega) (by omega)) 1).trans a4, CstR_fr (fun q a b => hq q (by omega) (by omega)) a5, InkZ_fr (fun q a b => hq q (by omega) (by omega)) a6, CstR_fr (fun q a b => hq q (by omega) (by omega)) a7⟩, ⟨hg, by omega, fun j a b => b3 j a (by omega), s3⟩, h4, ⟨by rw [u1]; omega, by rw [u2]; omega⟩, h6⟩ hc
theorem u_undo0 (h : LwS N B x L w f fs 0) (hN : N + 1 ≤ N') (k : ∀ w', LwS N' B x L w' f fs 0 → Q (0, vI (-5000002)) w') : EvQ 8 138 [vR x] w Q := by
  have hty := ls_ty h
  obtain ⟨tx, l, p, hL⟩ := h
  refine w_undo hty (t_undo (M := w.1) (S := w.2) (g := f) (p := fun k => if -195 ≤ k ∧ k < 0 then f (k + 195) else p k) hL.1.1.1 hL.2.1.1 hL.1.2.2 hL.2.2.1.1.1 ⟨hL.2.1.2.1.1, hL.2.1.2.1.2.1, fun j a b => absurd b (by omega)⟩ (fun q a b => ?_) (fun M2 hq hA hH hc => by exfalso; omega) (fun hc => Or.inr ⟨rfl, ?_⟩))
  · show f q = if -195 ≤ 195 * (0 - 1) + q ∧ 195 * (0 - 1) + q < 0 then f (195 * (0 - 1) + q + 195) else p (195 * (0 - 1) + q)
    rw [if_pos (by omega), show 195 * (0 - 1) + q + 195 = q by omega]
  · exact k _ ⟨tx, l, p, lp_tk hL (by omega)⟩
end UP
