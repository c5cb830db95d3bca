/-! a row of the law's own beside the object -/
theorem rub_ag {w w' : Wd} {k : Nat} (h : Ag w w' 0 (k + 171)) (hk : 3 ≤ k) (hr : isRub w.2 k) : isRub w'.2 k := by
  obtain ⟨⟨a1, a2, a3, a4, a5, a6, a7, a8, a9, a10, a11, a12⟩, b1, b2, b3, b4, b5, b6, b7, b8, b9, b10⟩ := hr
  have e0 := h k (by omega) (by omega)
  have e1 := h (k + 1) (by omega) (by omega)
  have e2 := h 2 (by omega) (by omega)
  exact ⟨⟨e0.2.2.1.trans a1, (congrFun e0.2.1 _).trans a2, (congrFun e0.2.1 _).trans a3, (congrFun e0.2.1 _).trans a4, (congrFun e0.2.1 _).trans a5, (congrFun e0.2.1 _).trans a6, (congrFun e0.2.1 _).trans a7, (congrFun e0.2.1 _).trans a8, (congrFun e0.2.1 _).trans a9, (congrFun e0.2.1 _).trans a10, e1.2.2.1.trans a11, e1.2.2.2.trans a12⟩, sheet_ag (fun q a b => h q (by omega) (by omega)) b1, sheet_ag (fun q a b => h q (by omega) (by omega)) b2, hist_ag (fun q a b => h q (by omega) (by omega)) b3, fits_ag (fun q a b => h q (by omega) (by omega)) b4, plan_ag (fun q a b => h q (by omega) (by omega)) b5, inks_ag (fun q a b => h q (by omega) (by omega)) b6, ord_ag (fun q a b => h q (by omega) (by omega)) b7, cut_ag (fun q a b => h q (by omega) (by omega)) b8, ⟨e2.2.2.1.trans b9, e2.2.2.2.trans b10⟩⟩
theorem hisF_s {M : Nat → Int → Int} {S S2 : SD} {h : Nat} {p : Int → Int} {sv : Int} (hq : ∀ j, sR S2 (h + 1) j = sR S (h + 1) j) (hr : HisF M S h p sv) : HisF M S2 h p sv := by
  obtain ⟨h1, h2, h3⟩ := hr
  refine ⟨h1, h2, fun j a b => ?_⟩
  rw [hq j]
  exact h3 j a b
def FR (x : Nat) (w w' : Wd) : Prop := ∀ q, x + 171 ≤ q → w'.1 q = w.1 q ∧ ty w' q = ty w q ∧ ln w' q = ln w q
def TA (x : Nat) (w : Wd) (T : Nat) (b : Int → Int) (n : Int) : Prop := (x + 171 ≤ T ∧ ty w T = 11 ∧ ln w T = 7) ∧ ∀ j, 0 ≤ j → j < n → gi w T j = b j
theorem ta_fr {x T : Nat} {w w' : Wd} {b : Int → Int} {n : Int} (hf : FR x w w') (h : TA x w T b n) : TA x w' T b n := by
  obtain ⟨⟨h1, h2, h3⟩, h4⟩ := h
  obtain ⟨f1, f2, f3⟩ := hf T h1
  refine ⟨⟨h1, f2.trans h2, f3.trans h3⟩, fun j a c => ?_⟩
  show w'.1 T j = b j
  rw [f1]
  exact h4 j a c
theorem ta_si {x T : Nat} {w : Wd} {b : Int → Int} {n v : Int} (hv : v = b n) (h : TA x w T b n) : TA x (si w T n v) T b (n + 1) := by
  obtain ⟨h1, h4⟩ := h
  refine ⟨h1, fun j a c => ?_⟩
  show (if T = T ∧ j = n then v else w.1 T j) = b j
  by_cases e : j = n
  · rw [if_pos ⟨rfl, e⟩, hv, e]
  · rw [if_neg (fun z => e z.2)]
    exact h4 j a (by omega)
section TOLD
variable {N B N' B' : Int} {x L : Nat} {w : Wd} {f : Int → Int} {fs : List (Int → Int)} {sv : Int} {Q : Res → Wd → Prop}
theorem ls_si {T : Nat} {k v : Int} (h : LwS N B x L w f fs sv) (hT : x + 171 ≤ T) : LwS N B x L (si w T k v) f fs sv := by
  obtain ⟨tx, l, p, h1, ⟨a1, a2, a3, a4, a5, a6, a7⟩, h3, h4, h5, h6⟩ := h
  have hx := h1.2.2
  have hq : ∀ q, q < x + 171 → (si w T k v).1 q = w.1 q := fun q hq => by
    funext j
    exact if_neg (fun z => by omega)
  exact ⟨tx, l, p, h1, ⟨AskR_fr (fun q a b c => hq q (by omega)) a1, HisF_fr h1.1.1.2.2.2.1 (fun q a b => hq q (by omega)) a2, (hq _ (by omega)).trans a3, (congrFun (hq x (by omega)) 1).trans a4, CstR_fr (fun q a b => hq q (by omega)) a5, InkZ_fr (fun q a b => hq q (by omega)) a6, CstR_fr (fun q a b => hq q (by omega)) a7⟩, h3, h4, h5, h6⟩
theorem ls_mk (h : LwS N B x L w f fs sv) (hN : N + 1 ≤ N') : LwS N' B x L (mk w 11 7) f fs sv ∧ ∀ b, TA x (mk w 11 7) (nx w) b 0 := by
  obtain ⟨tx, l, p, hL⟩ := h
  obtain ⟨h1, ⟨a1, a2, a3, a4, a5, a6, a7⟩, h3, h4, h5, h6⟩ := hL
  have hx := h1.2.2
  have hn := h1.2.1
  have hA : Ag w (mk w 11 7) 0 (x + 171) := fun q _ b => mk_o (by omega)
  have hq : ∀ q, q < x + 171 → (mk w 11 7).1 q = w.1 q := fun q b => (hA q (by omega) b).1
  have hr := hA (x + 27) (by omega) (by omega)
  have e1 := hA 1 (by omega) (by omega)
  have u1 : (uc (mk w 11 7) : Int) = uc w + 1 := rfl
  have u2 : (us (mk w 11 7) : Int) = us w + 7 := rfl
  have u3 : nx (mk w 11 7) = nx w + 1 := rfl
  have e2 := mk_e (w := w) (t := 11) (n := 7)
  refine ⟨⟨tx, l, p, ⟨⟨rub_ag hA hx h1.1.1, e1.2.2.1.trans h1.1.2.1, e1.2.2.2.trans h1.1.2.2⟩, by omega, hx⟩, ⟨AskR_fr (fun q a b c => hq q (by omega)) a1, hisF_s (fun j => congrFun hr.2.1 j) (HisF_fr h1.1.1.2.2.2.1 (fun q a b => hq q (by omega)) a2), (hq _ (by omega)).trans a3, (congrFun (hq x (by omega)) 1).trans a4, CstR_fr (fun q a b => hq q (by omega)) a5, InkZ_fr (fun q a b => hq q (by omega)) a6, CstR_fr (fun q a b => hq q (by omega)) a7⟩, h3, h4, ⟨by rw [u1]; omega, by rw [u2]; omega⟩, h6⟩, fun b => ⟨⟨hn, e2.2.1, e2.2.2⟩, fun j a c => by omega⟩⟩
theorem v_order2 {i : Int} (h : LwS N B x L w f fs sv) (hN : N + 1 ≤ N') (hi : 0 ≤ i ∧ i < f 1) {b : Int → Int} {y : Int} (hb : BestO f b y) (hy : ¬ y = -1) (k : ∀ w', FR x w w' → LwS N' B x L w' f fs sv → Q (0, vI (b i)) w') : EvQ 17 136 [vR x, vI i] w Q := by
  have hty := ls_ty h
  obtain ⟨tx, l, p, hL⟩ := h
  refine w_order hty (t_order (M := w.1) (S := w.2) hL.1.1.1 hL.2.1.1 hL.1.2.2 hL.2.2.1.1.1 hL.2.2.2.2.2 (fun v M2 hq _ b' c hb' hc e => Or.inl ⟨_, rfl, ?_⟩) (fun hn => absurd hi hn) (fun M2 hq _ b' hb' => absurd (bestO_u hb hb').1 hy))
  have e2 := (bestO_u hb hb').2 hy i hi.1 hi.2
  rw [e, ← e2]
  exact k (M2, w.2) (fun q hq2 => ⟨hq q (by omega), rfl, rfl⟩) ⟨tx, l, p, lp_a86 hL (by omega) (fun q a => hq q (by omega))⟩
theorem u_write2 {j : Int} (h : LwS N B x L w f fs sv) (hN : N + 1 ≤ N') (hl : fs.length ≤ 3) (hB : B + 84 ≤ 1000000000 - 400) (hj : 0 ≤ j ∧ j < f 1) (hcan : Can f j) (k : ∀ w' c n, FR x w w' → LwS N' (B + 84) x L w' (car (f (97 + 14 * j + 1)) c f n) (f :: fs) (nsv sv) → Wrt f j c n → Q (0, vI n) w') : EvQ 7 134 [vR x, vI j] w Q := by
  have hty := ls_ty h
  obtain ⟨tx, l, p, hL⟩ := h
  refine w_write hty (t_write (M := w.1) (S := w.2) hL.1.1.1 hL.2.1.1 hL.1.2.2 hL.2.2.1.1.1 hL.2.1.2.1 hL.2.2.2.2.2 (fun y c M2 R2 hq hR hX hA hH hc n hw e => Or.inl ⟨_, rfl, ?_⟩) (fun hc => absurd hj hc) (fun M2 hq hc hn hA hH => absurd hcan (can_n hn)))
  have hj9 := hL.2.2.1.1.1.2.1.2 j hj.1 hj.2
  have h2 := wrt_pl hL.2.2.1.1.1.1 hj9.1 hw
  rw [e] at hA ⊢
  exact k (M2, (R2, w.2.2)) c n (fun q hq2 => ⟨hq q (by omega) (by omega), rfl, rfl⟩) ⟨tx, l, lp_chg hL (by omega) hl (fun q a => hq q (by omega) (by omega)) hX hA hH (CstR_fr (fun q a b => hq q (by omega) (by omega)) hL.2.1.2.2.2.2.1) ⟨row_le (by omega) (car_row hL.2.2.1.1.1 hL.2.2.2.2.2.1 hj9.2 h2.1.1 h2.2).1, inkN_car h2.1.1 hj9.2.1 (fun i a b => (h2.2 i a b).1) hL.2.2.1.1.2⟩ (by omega) hB⟩ hw
end TOLD
