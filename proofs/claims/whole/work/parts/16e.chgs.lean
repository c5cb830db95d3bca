/-! the law, case by case: the changes -/
theorem l_cut {B : Int} {M : Nat → Int → Int} {S : SD} {x m u L : Nat} {i : Int} {l5 l6 l7 l8 : V} {Q : Res → Wd → Prop} (G : Geo x m u) (hI : LawI B x m u L M S) (hB : 0 ≤ B ∧ B ≤ 1000000000 - 400) (hi : 0 ≤ i ∧ i + 3 < (L : Int) ∧ L ≤ 2048) (k : ∀ M2 S2, LawI (B + 84) x m u L M2 S2 → LCn S S2 → ∀ l5 l6 l7 l8, WP 20 199 1416 [vR 1, vR x, vR m, vR u, vI i, l5, l6, l7, l8] [] (M2, S2) Q) : WP 20 199 234 [vR 1, vR x, vR m, vR u, vI i, l5, l6, l7, l8] [] (M, S) Q := by
  obtain ⟨f, p, tx, t, sv, l, hC, hD⟩ := hI
  refine h_cut hC.1.2.1 hi ?_
  show EvQ 8 182 [vR x, vI (M 1 (i + 1)), vI (M 1 (i + 2)), vI (M 1 (i + 3)), vR u] (M, S) _
  refine w_cut hC.1.1.1.1.1 ?_
  refine t_cut hC.1.1.1 hC.2.1.1 G.1 hD.1 hC.2.1.2.1 hB (fun v M2 R2 fr hRo hX2 hA2 hN hg hv => ?_) (fun hg => ?_) (fun hg => ?_) (fun hg => ?_)
  · refine Or.inl ⟨_, rfl, hC.1.2.2, 0, rfl, ?_⟩
    have hv0 : (si (M2, (R2, S.2)) u 0 v).1 u 0 = v := out_u
    have hqw : ∀ q, q ≠ u → (si (M2, (R2, S.2)) u 0 v).1 q = M2 q := out_q
    show WP 20 199 257 [vR 1, vR x, vR m, vR u, vI i, l5, l6, l7, l8] [vI 0] ((si (M2, (R2, S.2)) u 0 v).1, (R2, S.2)) Q
    obtain ⟨Mw, hMw⟩ : ∃ z, z = (si (M2, (R2, S.2)) u 0 v).1 := ⟨_, rfl⟩
    rw [← hMw] at hv0 hqw ⊢
    clear hMw
    have hq9 : ∀ q, q < x + 2 ∨ (x + 14 ≤ q ∧ q < x + 15) ∨ (x + 22 ≤ q ∧ q < x + 26) ∨ (x + 86 ≤ q ∧ q < u) → Mw q = M q := fun q a => (hqw q (by omega)).trans (fr q (by omega) (by omega))
    have h1q : Mw 1 = M 1 := hq9 1 (by omega)
    have hm0 : Mw m = M m := hq9 m (by omega)
    have hm1 : Mw (m + 1) = f := (hq9 _ (by omega)).trans hC.2.2.1
    have hm2 : Mw (m + 2) = p := (hq9 _ (by omega)).trans hC.2.2.2.1
    have hm5 : Mw (m + 5) = t := (hq9 _ (by omega)).trans hC.2.2.2.2.2.1
    have hm4 : Mw m 4 = sv := (congrFun hm0 4).trans hC.2.2.2.2.1
    have hm7 : Mw m 7 = l := (congrFun hm0 7).trans hC.2.2.2.2.2.2
    have hc14 : CstR Mw (x + 14) := CstR_fr (fun q a b => (hqw q (by omega)).trans (fr q (by omega) (by omega))) hC.2.1.2.2.2.2.1
    have hAw := AskR_fr (M2 := Mw) (fun q _ b _ => hqw q (by omega)) hA2
    have hNw := HisN_fr (M2 := Mw) hX2.2.2.2.1 (fun q a b => hqw q (by omega)) hN
    refine a_cut (S := (R2, S.2)) (mod_s (fun i => hRo m i (by omega)) hC.1.1.2) hC.1.2.1 hC.1.2.2 hi ?_
    rw [h1q]
    refine r_cut (mod_s (fun i => hRo m i (by omega)) hC.1.1.2) hm1 rfl hm2 (by rw [hm4]; exact hD.2.1) hD.1 (fun y M3 fr3 o2 ho h7 hd => ?_)
    rcases hd with ⟨h5, hn, hg3, hp3, h4⟩ | ⟨h5, hn, hg3, hp3, h4⟩ | ⟨h5, hn, hg3, hp3, h4⟩ | ⟨h5, hn, hr, hg3, p2, hp2, hsp⟩
    · omega
    · omega
    · omega
    · rw [hm4] at hsp
      exact ⟨y, M3, rfl, rfl, (congrFun ho 5).trans h5, (fun _ => (congrFun (fr3 u (by omega) (by omega) (by omega)) 0).trans (hv0.trans (hv.trans hr.symm))), fun l5 l6 => k M3 _ ⟨_, p2, tx, t, o2 4, l, ch_chg (M2 := Mw) G hC hq9 hc14 hRo hX2 hAw hNw (fun q hq => fr3 q (by omega) (by omega) (by omega)) hg3 hp2 (congrFun ho 4) hsp ((fr3 _ (by omega) (by omega) (by omega)).trans hm5) ((congrFun ho 7).trans (h7.trans hm7)), saved_di hD hsp (row_le (by omega) (cut_row hD.1 hB.1 hg.2.2 ⟨hg.1, hg.2.1.1, hg.2.1.2.1, hg.2.1.2.2⟩)) (by omega)⟩ lcn_0 l5 l6 l7 l8⟩
  · refine Or.inr (Or.inl ⟨rfl, 1, rfl, ?_⟩)
    have h2 := ch_tk hC
    have h1q : M 1 = M 1 := rfl
    show WP 20 199 257 [vR 1, vR x, vR m, vR u, vI i, l5, l6, l7, l8] [vI 1] (M, (tk (M, S)).2) Q
    refine a_cut h2.1.1.2 h2.1.2.1 h2.1.2.2 hi ?_
    rw [h1q]
    refine r_cut h2.1.1.2 h2.2.2.1 rfl h2.2.2.2.1 (by rw [h2.2.2.2.2.1]; exact hD.2.1) hD.1 (fun y M3 fr3 o2 ho h7 hd => ?_)
    rcases hd with ⟨h5, hn, hg3, hp3, h4⟩ | ⟨h5, hn, hg3, hp3, h4⟩ | ⟨h5, hn, hg3, hp3, h4⟩ | ⟨h5, hn, hr, hg3, p2, hp2, hsp⟩
    · exact ⟨y, M3, rfl, rfl, (congrFun ho 5).trans h5, (fun h => absurd h (by decide)), fun l5 l6 => k M3 _ ⟨f, p, tx, t, sv, l, ch_ref G h2 (fun q hq => fr3 q (by omega) (by omega) (by omega)) hg3 hp3 ((congrFun ho 4).trans (h4.trans h2.2.2.2.2.1)) ((fr3 _ (by omega) (by omega) (by omega)).trans h2.2.2.2.2.2.1) ((congrFun ho 7).trans (h7.trans h2.2.2.2.2.2.2)), di_le (by omega) hD⟩ lcn_1 l5 l6 l7 l8⟩
    · omega
    · omega
    · omega
  · refine Or.inr (Or.inr (Or.inl ⟨rfl, 2, rfl, ?_⟩))
    have h2 := ch_tk hC
    have h1q : M 1 = M 1 := rfl
    show WP 20 199 257 [vR 1, vR x, vR m, vR u, vI i, l5, l6, l7, l8] [vI 2] (M, (tk (M, S)).2) Q
    refine a_cut h2.1.1.2 h2.1.2.1 h2.1.2.2 hi ?_
    rw [h1q]
    refine r_cut h2.1.1.2 h2.2.2.1 rfl h2.2.2.2.1 (by rw [h2.2.2.2.2.1]; exact hD.2.1) hD.1 (fun y M3 fr3 o2 ho h7 hd => ?_)
    rcases hd with ⟨h5, hn, hg3, hp3, h4⟩ | ⟨h5, hn, hg3, hp3, h4⟩ | ⟨h5, hn, hg3, hp3, h4⟩ | ⟨h5, hn, hr, hg3, p2, hp2, hsp⟩
    · omega
    · exact ⟨y, M3, rfl, rfl, (congrFun ho 5).trans h5, (fun h => absurd h (by decide)), fun l5 l6 => k M3 _ ⟨f, p, tx, t, sv, l, ch_ref G h2 (fun q hq => fr3 q (by omega) (by omega) (by omega)) hg3 hp3 ((congrFun ho 4).trans (h4.trans h2.2.2.2.2.1)) ((fr3 _ (by omega) (by omega) (by omega)).trans h2.2.2.2.2.2.1) ((congrFun ho 7).trans (h7.trans h2.2.2.2.2.2.2)), di_le (by omega) hD⟩ lcn_1 l5 l6 l7 l8⟩
    · omega
    · omega
  · refine Or.inr (Or.inr (Or.inr (⟨rfl, 3, rfl, ?_⟩)))
    have h2 := ch_tk hC
    have h1q : M 1 = M 1 := rfl
    show WP 20 199 257 [vR 1, vR x, vR m, vR u, vI i, l5, l6, l7, l8] [vI 3] (M, (tk (M, S)).2) Q
    refine a_cut h2.1.1.2 h2.1.2.1 h2.1.2.2 hi ?_
    rw [h1q]
    refine r_cut h2.1.1.2 h2.2.2.1 rfl h2.2.2.2.1 (by rw [h2.2.2.2.2.1]; exact hD.2.1) hD.1 (fun y M3 fr3 o2 ho h7 hd => ?_)
    rcases hd with ⟨h5, hn, hg3, hp3, h4⟩ | ⟨h5, hn, hg3, hp3, h4⟩ | ⟨h5, hn, hg3, hp3, h4⟩ | ⟨h5, hn, hr, hg3, p2, hp2, hsp⟩
    · omega
    · omega
    · exact ⟨y, M3, rfl, rfl, (congrFun ho 5).trans h5, (fun h => absurd h (by decide)), fun l5 l6 => k M3 _ ⟨f, p, tx, t, sv, l, ch_ref G h2 (fun q hq => fr3 q (by omega) (by omega) (by omega)) hg3 hp3 ((congrFun ho 4).trans (h4.trans h2.2.2.2.2.1)) ((fr3 _ (by omega) (by omega) (by omega)).trans h2.2.2.2.2.2.1) ((congrFun ho 7).trans (h7.trans h2.2.2.2.2.2.2)), di_le (by omega) hD⟩ lcn_1 l5 l6 l7 l8⟩
    · omega
theorem l_remove {B : Int} {M : Nat → Int → Int} {S : SD} {x m u L : Nat} {i : Int} {l5 l6 l7 l8 : V} {Q : Res → Wd → Prop} (G : Geo x m u) (hI : LawI B x m u L M S) (hB : 0 ≤ B ∧ B ≤ 1000000000 - 400) (hi : 0 ≤ i ∧ i + 3 < (L : Int) ∧ L ≤ 2048) (k : ∀ M2 S2, LawI (B + 84) x m u L M2 S2 → LCn S S2 → ∀ l5 l6 l7 l8, WP 20 199 1416 [vR 1, vR x, vR m, vR u, vI i, l5, l6, l7, l8] [] (M2, S2) Q) : WP 20 199 314 [vR 1, vR x, vR m, vR u, vI i, l5, l6, l7, l8] [] (M, S) Q := by
  obtain ⟨f, p, tx, t, sv, l, hC, hD⟩ := hI
  refine h_remove hC.1.2.1 hi ?_
  show EvQ 8 183 [vR x, vI (M 1 (i + 1)), vR u] (M, S) _
  refine w_remove hC.1.1.1.1.1 ?_
  refine t_remove hC.1.1.1 hC.2.1.1 G.1 hD.1 hC.2.1.2.1 (fun v M2 R2 fr hRo hX2 hA2 hN hg hv => ?_) (fun hg => ?_)
  · refine Or.inl ⟨_, rfl, hC.1.2.2, 0, rfl, ?_⟩
    have hv0 : (si (M2, (R2, S.2)) u 0 v).1 u 0 = v := out_u
    have hqw : ∀ q, q ≠ u → (si (M2, (R2, S.2)) u 0 v).1 q = M2 q := out_q
    show WP 20 199 325 [vR 1, vR x, vR m, vR u, vI i, l5, l6, l7, l8] [vI 0] ((si (M2, (R2, S.2)) u 0 v).1, (R2, S.2)) Q
    obtain ⟨Mw, hMw⟩ : ∃ z, z = (si (M2, (R2, S.2)) u 0 v).1 := ⟨_, rfl⟩
    rw [← hMw] at hv0 hqw ⊢
    clear hMw
    have hq9 : ∀ q, q < x + 2 ∨ (x + 14 ≤ q ∧ q < x + 15) ∨ (x + 22 ≤ q ∧ q < x + 26) ∨ (x + 86 ≤ q ∧ q < u) → Mw q = M q := fun q a => (hqw q (by omega)).trans (fr q (by omega) (by omega))
    have h1q : Mw 1 = M 1 := hq9 1 (by omega)
    have hm0 : Mw m = M m := hq9 m (by omega)
    have hm1 : Mw (m + 1) = f := (hq9 _ (by omega)).trans hC.2.2.1
    have hm2 : Mw (m + 2) = p := (hq9 _ (by omega)).trans hC.2.2.2.1
    have hm5 : Mw (m + 5) = t := (hq9 _ (by omega)).trans hC.2.2.2.2.2.1
    have hm4 : Mw m 4 = sv := (congrFun hm0 4).trans hC.2.2.2.2.1
    have hm7 : Mw m 7 = l := (congrFun hm0 7).trans hC.2.2.2.2.2.2
    have hc14 : CstR Mw (x + 14) := CstR_fr (fun q a b => (hqw q (by omega)).trans (fr q (by omega) (by omega))) hC.2.1.2.2.2.2.1
    have hAw := AskR_fr (M2 := Mw) (fun q _ b _ => hqw q (by omega)) hA2
    have hNw := HisN_fr (M2 := Mw) hX2.2.2.2.1 (fun q a b => hqw q (by omega)) hN
    refine a_remove (S := (R2, S.2)) (mod_s (fun i => hRo m i (by omega)) hC.1.1.2) hC.1.2.1 hC.1.2.2 hi ?_
    rw [h1q]
    refine r_remove (mod_s (fun i => hRo m i (by omega)) hC.1.1.2) hm1 rfl hm2 (by rw [hm4]; exact hD.2.1) hD.1 (fun y M3 fr3 o2 ho h7 hd => ?_)
    rcases hd with ⟨h5, hn, hg3, hp3, h4⟩ | ⟨h5, hn, hr, hg3, p2, hp2, hsp⟩
    · omega
    · rw [hm4] at hsp
      exact ⟨y, M3, rfl, rfl, (congrFun ho 5).trans h5, (fun _ => (congrFun (fr3 u (by omega) (by omega) (by omega)) 0).trans (hv0.trans (hv.trans hr.symm))), fun l5 l6 => k M3 _ ⟨_, p2, tx, t, o2 4, l, ch_chg (M2 := Mw) G hC hq9 hc14 hRo hX2 hAw hNw (fun q hq => fr3 q (by omega) (by omega) (by omega)) hg3 hp2 (congrFun ho 4) hsp ((fr3 _ (by omega) (by omega) (by omega)).trans hm5) ((congrFun ho 7).trans (h7.trans hm7)), saved_di hD hsp (row_le (by omega) (row_rem hD.1 hg)) (by omega)⟩ lcn_0 l5 l6 l7 l8⟩
  · refine Or.inr (⟨rfl, 1, rfl, ?_⟩)
    have h2 := ch_tk hC
    have h1q : M 1 = M 1 := rfl
    show WP 20 199 325 [vR 1, vR x, vR m, vR u, vI i, l5, l6, l7, l8] [vI 1] (M, (tk (M, S)).2) Q
    refine a_remove h2.1.1.2 h2.1.2.1 h2.1.2.2 hi ?_
    rw [h1q]
    refine r_remove h2.1.1.2 h2.2.2.1 rfl h2.2.2.2.1 (by rw [h2.2.2.2.2.1]; exact hD.2.1) hD.1 (fun y M3 fr3 o2 ho h7 hd => ?_)
    rcases hd with ⟨h5, hn, hg3, hp3, h4⟩ | ⟨h5, hn, hr, hg3, p2, hp2, hsp⟩
    · exact ⟨y, M3, rfl, rfl, (congrFun ho 5).trans h5, (fun h => absurd h (by decide)), fun l5 l6 => k M3 _ ⟨f, p, tx, t, sv, l, ch_ref G h2 (fun q hq => fr3 q (by omega) (by omega) (by omega)) hg3 hp3 ((congrFun ho 4).trans (h4.trans h2.2.2.2.2.1)) ((fr3 _ (by omega) (by omega) (by omega)).trans h2.2.2.2.2.2.1) ((congrFun ho 7).trans (h7.trans h2.2.2.2.2.2.2)), di_le (by omega) hD⟩ lcn_1 l5 l6 l7 l8⟩
    · omega
theorem l_drop {B : Int} {M : Nat → Int → Int} {S : SD} {x m u L : Nat} {i : Int} {l5 l6 l7 l8 : V} {Q : Res → Wd → Prop} (G : Geo x m u) (hI : LawI B x m u L M S) (hB : 0 ≤ B ∧ B ≤ 1000000000 - 400) (hi : 0 ≤ i ∧ i + 3 < (L : Int) ∧ L ≤ 2048) (k : ∀ M2 S2, LawI (B + 84) x m u L M2 S2 → LCn S S2 → ∀ l5 l6 l7 l8, WP 20 199 1416 [vR 1, vR x, vR m, vR u, vI i, l5, l6, l7, l8] [] (M2, S2) Q) : WP 20 199 370 [vR 1, vR x, vR m, vR u, vI i, l5, l6, l7, l8] [] (M, S) Q := by
  obtain ⟨f, p, tx, t, sv, l, hC, hD⟩ := hI
  refine h_drop hC.1.2.1 hi ?_
  show EvQ 8 184 [vR x, vI (M 1 (i + 1)), vR u] (M, S) _
  refine w_drop hC.1.1.1.1.1 ?_
  refine t_drop hC.1.1.1 hC.2.1.1 G.1 hD.1 hC.2.1.2.1 (fun v M2 R2 fr hRo hX2 hA2 hN hg hv => ?_) (fun hg => ?_)
  · refine Or.inl ⟨_, rfl, hC.1.2.2, 0, rfl, ?_⟩
    have hv0 : (si (M2, (R2, S.2)) u 0 v).1 u 0 = v := out_u
    have hqw : ∀ q, q ≠ u → (si (M2, (R2, S.2)) u 0 v).1 q = M2 q := out_q
    show WP 20 199 381 [vR 1, vR x, vR m, vR u, vI i, l5, l6, l7, l8] [vI 0] ((si (M2, (R2, S.2)) u 0 v).1, (R2, S.2)) Q
    obtain ⟨Mw, hMw⟩ : ∃ z, z = (si (M2, (R2, S.2)) u 0 v).1 := ⟨_, rfl⟩
    rw [← hMw] at hv0 hqw ⊢
    clear hMw
    have hq9 : ∀ q, q < x + 2 ∨ (x + 14 ≤ q ∧ q < x + 15) ∨ (x + 22 ≤ q ∧ q < x + 26) ∨ (x + 86 ≤ q ∧ q < u) → Mw q = M q := fun q a => (hqw q (by omega)).trans (fr q (by omega) (by omega))
    have h1q : Mw 1 = M 1 := hq9 1 (by omega)
    have hm0 : Mw m = M m := hq9 m (by omega)
    have hm1 : Mw (m + 1) = f := (hq9 _ (by omega)).trans hC.2.2.1
    have hm2 : Mw (m + 2) = p := (hq9 _ (by omega)).trans hC.2.2.2.1
    have hm5 : Mw (m + 5) = t := (hq9 _ (by omega)).trans hC.2.2.2.2.2.1
    have hm4 : Mw m 4 = sv := (congrFun hm0 4).trans hC.2.2.2.2.1
    have hm7 : Mw m 7 = l := (congrFun hm0 7).trans hC.2.2.2.2.2.2
    have hc14 : CstR Mw (x + 14) := CstR_fr (fun q a b => (hqw q (by omega)).trans (fr q (by omega) (by omega))) hC.2.1.2.2.2.2.1
    have hAw := AskR_fr (M2 := Mw) (fun q _ b _ => hqw q (by omega)) hA2
    have hNw := HisN_fr (M2 := Mw) hX2.2.2.2.1 (fun q a b => hqw q (by omega)) hN
    refine a_drop (S := (R2, S.2)) (mod_s (fun i => hRo m i (by omega)) hC.1.1.2) hC.1.2.1 hC.1.2.2 hi ?_
    rw [h1q]
    refine r_drop (mod_s (fun i => hRo m i (by omega)) hC.1.1.2) hm1 rfl hm2 (by rw [hm4]; exact hD.2.1) hD.1 (fun y M3 fr3 o2 ho h7 hd => ?_)
    rcases hd with ⟨h5, hn, hg3, hp3, h4⟩ | ⟨h5, hn, hr, hg3, p2, hp2, hsp⟩
    · omega
    · rw [hm4] at hsp
      exact ⟨y, M3, rfl, rfl, (congrFun ho 5).trans h5, (fun _ => (congrFun (fr3 u (by omega) (by omega) (by omega)) 0).trans (hv0.trans (hv.trans hr.symm))), fun l5 l6 => k M3 _ ⟨_, p2, tx, t, o2 4, l, ch_chg (M2 := Mw) G hC hq9 hc14 hRo hX2 hAw hNw (fun q hq => fr3 q (by omega) (by omega) (by omega)) hg3 hp2 (congrFun ho 4) hsp ((fr3 _ (by omega) (by omega) (by omega)).trans hm5) ((congrFun ho 7).trans (h7.trans hm7)), saved_di hD hsp (row_le (by omega) (row_drop hD.1 hg)) (by omega)⟩ lcn_0 l5 l6 l7 l8⟩
  · refine Or.inr (⟨rfl, 1, rfl, ?_⟩)
    have h2 := ch_tk hC
    have h1q : M 1 = M 1 := rfl
    show WP 20 199 381 [vR 1, vR x, vR m, vR u, vI i, l5, l6, l7, l8] [vI 1] (M, (tk (M, S)).2) Q
    refine a_drop h2.1.1.2 h2.1.2.1 h2.1.2.2 hi ?_
    rw [h1q]
    refine r_drop h2.1.1.2 h2.2.2.1 rfl h2.2.2.2.1 (by rw [h2.2.2.2.2.1]; exact hD.2.1) hD.1 (fun y M3 fr3 o2 ho h7 hd => ?_)
    rcases hd with ⟨h5, hn, hg3, hp3, h4⟩ | ⟨h5, hn, hr, hg3, p2, hp2, hsp⟩
    · exact ⟨y, M3, rfl, rfl, (congrFun ho 5).trans h5, (fun h => absurd h (by decide)), fun l5 l6 => k M3 _ ⟨f, p, tx, t, sv, l, ch_ref G h2 (fun q hq => fr3 q (by omega) (by omega) (by omega)) hg3 hp3 ((congrFun ho 4).trans (h4.trans h2.2.2.2.2.1)) ((fr3 _ (by omega) (by omega) (by omega)).trans h2.2.2.2.2.2.1) ((congrFun ho 7).trans (h7.trans h2.2.2.2.2.2.2)), di_le (by omega) hD⟩ lcn_1 l5 l6 l7 l8⟩
    · omega
theorem l_setColor {B : Int} {M : Nat → Int → Int} {S : SD} {x m u L : Nat} {i : Int} {l5 l6 l7 l8 : V} {Q : Res → Wd → Prop} (G : Geo x m u) (hI : LawI B x m u L M S) (hB : 0 ≤ B ∧ B ≤ 1000000000 - 400) (hi : 0 ≤ i ∧ i + 3 < (L : Int) ∧ L ≤ 2048) (k : ∀ M2 S2, LawI (B + 84) x m u L M2 S2 → LCn S S2 → ∀ l5 l6 l7 l8, WP 20 199 1416 [vR 1, vR x, vR m, vR u, vI i, l5, l6, l7, l8] [] (M2, S2) Q) : WP 20 199 426 [vR 1, vR x, vR m, vR u, vI i, l5, l6, l7, l8] [] (M, S) Q := by
  obtain ⟨f, p, tx, t, sv, l, hC, hD⟩ := hI
  refine h_setColor hC.1.2.1 hi ?_
  show EvQ 6 185 [vR x, vI (M 1 (i + 1)), vI (M 1 (i + 2)), vR u] (M, S) _
  refine w_setColor hC.1.1.1.1.1 ?_
  refine t_setColor hC.1.1.1 hC.2.1.1 G.1 hD.1 hC.2.1.2.1 (fun v M2 R2 fr hRo hX2 hA2 hN hg hv => ?_) (fun hg => ?_) (fun hg => ?_)
  · refine Or.inl ⟨_, rfl, hC.1.2.2, 0, rfl, ?_⟩
    have hv0 : (si (M2, (R2, S.2)) u 0 v).1 u 0 = v := out_u
    have hqw : ∀ q, q ≠ u → (si (M2, (R2, S.2)) u 0 v).1 q = M2 q := out_q
    show WP 20 199 443 [vR 1, vR x, vR m, vR u, vI i, l5, l6, l7, l8] [vI 0] ((si (M2, (R2, S.2)) u 0 v).1, (R2, S.2)) Q
    obtain ⟨Mw, hMw⟩ : ∃ z, z = (si (M2, (R2, S.2)) u 0 v).1 := ⟨_, rfl⟩
    rw [← hMw] at hv0 hqw ⊢
    clear hMw
    have hq9 : ∀ q, q < x + 2 ∨ (x + 14 ≤ q ∧ q < x + 15) ∨ (x + 22 ≤ q ∧ q < x + 26) ∨ (x + 86 ≤ q ∧ q < u) → Mw q = M q := fun q a => (hqw q (by omega)).trans (fr q (by omega) (by omega))
    have h1q : Mw 1 = M 1 := hq9 1 (by omega)
    have hm0 : Mw m = M m := hq9 m (by omega)
    have hm1 : Mw (m + 1) = f := (hq9 _ (by omega)).trans hC.2.2.1
    have hm2 : Mw (m + 2) = p := (hq9 _ (by omega)).trans hC.2.2.2.1
    have hm5 : Mw (m + 5) = t := (hq9 _ (by omega)).trans hC.2.2.2.2.2.1
    have hm4 : Mw m 4 = sv := (congrFun hm0 4).trans hC.2.2.2.2.1
    have hm7 : Mw m 7 = l := (congrFun hm0 7).trans hC.2.2.2.2.2.2
    have hc14 : CstR Mw (x + 14) := CstR_fr (fun q a b => (hqw q (by omega)).trans (fr q (by omega) (by omega))) hC.2.1.2.2.2.2.1
    have hAw := AskR_fr (M2 := Mw) (fun q _ b _ => hqw q (by omega)) hA2
    have hNw := HisN_fr (M2 := Mw) hX2.2.2.2.1 (fun q a b => hqw q (by omega)) hN
    refine a_setColor (S := (R2, S.2)) (mod_s (fun i => hRo m i (by omega)) hC.1.1.2) hC.1.2.1 hC.1.2.2 hi ?_
    rw [h1q]
    refine r_setColor (mod_s (fun i => hRo m i (by omega)) hC.1.1.2) hm1 rfl hm2 (by rw [hm4]; exact hD.2.1) hD.1 (fun y M3 fr3 o2 ho h7 hd => ?_)
    rcases hd with ⟨h5, hn, hg3, hp3, h4⟩ | ⟨h5, hn, hg3, hp3, h4⟩ | ⟨h5, hn, hr, hg3, p2, hp2, hsp⟩
    · omega
    · omega
    · rw [hm4] at hsp
      exact ⟨y, M3, rfl, rfl, (congrFun ho 5).trans h5, (fun _ => (congrFun (fr3 u (by omega) (by omega) (by omega)) 0).trans (hv0.trans (hv.trans hr.symm))), fun l5 l6 => k M3 _ ⟨_, p2, tx, t, o2 4, l, ch_chg (M2 := Mw) G hC hq9 hc14 hRo hX2 hAw hNw (fun q hq => fr3 q (by omega) (by omega) (by omega)) hg3 hp2 (congrFun ho 4) hsp ((fr3 _ (by omega) (by omega) (by omega)).trans hm5) ((congrFun ho 7).trans (h7.trans hm7)), saved_di hD hsp (row_le (by omega) (row_col hD.1 hg.1 hg.2)) (by omega)⟩ lcn_0 l5 l6 l7 l8⟩
  · refine Or.inr (Or.inl ⟨rfl, 1, rfl, ?_⟩)
    have h2 := ch_tk hC
    have h1q : M 1 = M 1 := rfl
    show WP 20 199 443 [vR 1, vR x, vR m, vR u, vI i, l5, l6, l7, l8] [vI 1] (M, (tk (M, S)).2) Q
    refine a_setColor h2.1.1.2 h2.1.2.1 h2.1.2.2 hi ?_
    rw [h1q]
    refine r_setColor h2.1.1.2 h2.2.2.1 rfl h2.2.2.2.1 (by rw [h2.2.2.2.2.1]; exact hD.2.1) hD.1 (fun y M3 fr3 o2 ho h7 hd => ?_)
    rcases hd with ⟨h5, hn, hg3, hp3, h4⟩ | ⟨h5, hn, hg3, hp3, h4⟩ | ⟨h5, hn, hr, hg3, p2, hp2, hsp⟩
    · exact ⟨y, M3, rfl, rfl, (congrFun ho 5).trans h5, (fun h => absurd h (by decide)), fun l5 l6 => k M3 _ ⟨f, p, tx, t, sv, l, ch_ref G h2 (fun q hq => fr3 q (by omega) (by omega) (by omega)) hg3 hp3 ((congrFun ho 4).trans (h4.trans h2.2.2.2.2.1)) ((fr3 _ (by omega) (by omega) (by omega)).trans h2.2.2.2.2.2.1) ((congrFun ho 7).trans (h7.trans h2.2.2.2.2.2.2)), di_le (by omega) hD⟩ lcn_1 l5 l6 l7 l8⟩
    · omega
    · omega
  · refine Or.inr (Or.inr (⟨rfl, 2, rfl, ?_⟩))
    have h2 := ch_tk hC
    have h1q : M 1 = M 1 := rfl
    show WP 20 199 443 [vR 1, vR x, vR m, vR u, vI i, l5, l6, l7, l8] [vI 2] (M, (tk (M, S)).2) Q
    refine a_setColor h2.1.1.2 h2.1.2.1 h2.1.2.2 hi ?_
    rw [h1q]
    refine r_setColor h2.1.1.2 h2.2.2.1 rfl h2.2.2.2.1 (by rw [h2.2.2.2.2.1]; exact hD.2.1) hD.1 (fun y M3 fr3 o2 ho h7 hd => ?_)
    rcases hd with ⟨h5, hn, hg3, hp3, h4⟩ | ⟨h5, hn, hg3, hp3, h4⟩ | ⟨h5, hn, hr, hg3, p2, hp2, hsp⟩
    · omega
    · exact ⟨y, M3, rfl, rfl, (congrFun ho 5).trans h5, (fun h => absurd h (by decide)), fun l5 l6 => k M3 _ ⟨f, p, tx, t, sv, l, ch_ref G h2 (fun q hq => fr3 q (by omega) (by omega) (by omega)) hg3 hp3 ((congrFun ho 4).trans (h4.trans h2.2.2.2.2.1)) ((fr3 _ (by omega) (by omega) (by omega)).trans h2.2.2.2.2.2.1) ((congrFun ho 7).trans (h7.trans h2.2.2.2.2.2.2)), di_le (by omega) hD⟩ lcn_1 l5 l6 l7 l8⟩
    · omega
theorem l_setLimits {B : Int} {M : Nat → Int → Int} {S : SD} {x m u L : Nat} {i : Int} {l5 l6 l7 l8 : V} {Q : Res → Wd → Prop} (G : Geo x m u) (hI : LawI B x m u L M S) (hB : 0 ≤ B ∧ B ≤ 1000000000 - 400) (hi : 0 ≤ i ∧ i + 3 < (L : Int) ∧ L ≤ 2048) (k : ∀ M2 S2, LawI (B + 84) x m u L M2 S2 → LCn S S2 → ∀ l5 l6 l7 l8, WP 20 199 1416 [vR 1, vR x, vR m, vR u, vI i, l5, l6, l7, l8] [] (M2, S2) Q) : WP 20 199 494 [vR 1, vR x, vR m, vR u, vI i, l5, l6, l7, l8] [] (M, S) Q := by
  obtain ⟨f, p, tx, t, sv, l, hC, hD⟩ := hI
  refine h_setLimits hC.1.2.1 hi ?_
  show EvQ 6 186 [vR x, vI (M 1 (i + 1)), vI (M 1 (i + 2)), vR u] (M, S) _
  refine w_setLimits hC.1.1.1.1.1 ?_
  refine t_setLimits hC.1.1.1 hC.2.1.1 G.1 hD.1 hC.2.1.2.1 (fun v M2 R2 fr hRo hX2 hA2 hN hg hv => ?_) (fun hg => ?_)
  · refine Or.inl ⟨_, rfl, hC.1.2.2, 0, rfl, ?_⟩
    have hv0 : (si (M2, (R2, S.2)) u 0 v).1 u 0 = v := out_u
    have hqw : ∀ q, q ≠ u → (si (M2, (R2, S.2)) u 0 v).1 q = M2 q := out_q
    show WP 20 199 511 [vR 1, vR x, vR m, vR u, vI i, l5, l6, l7, l8] [vI 0] ((si (M2, (R2, S.2)) u 0 v).1, (R2, S.2)) Q
    obtain ⟨Mw, hMw⟩ : ∃ z, z = (si (M2, (R2, S.2)) u 0 v).1 := ⟨_, rfl⟩
    rw [← hMw] at hv0 hqw ⊢
    clear hMw
    have hq9 : ∀ q, q < x + 2 ∨ (x + 14 ≤ q ∧ q < x + 15) ∨ (x + 22 ≤ q ∧ q < x + 26) ∨ (x + 86 ≤ q ∧ q < u) → Mw q = M q := fun q a => (hqw q (by omega)).trans (fr q (by omega) (by omega))
    have h1q : Mw 1 = M 1 := hq9 1 (by omega)
    have hm0 : Mw m = M m := hq9 m (by omega)
    have hm1 : Mw (m + 1) = f := (hq9 _ (by omega)).trans hC.2.2.1
    have hm2 : Mw (m + 2) = p := (hq9 _ (by omega)).trans hC.2.2.2.1
    have hm5 : Mw (m + 5) = t := (hq9 _ (by omega)).trans hC.2.2.2.2.2.1
    have hm4 : Mw m 4 = sv := (congrFun hm0 4).trans hC.2.2.2.2.1
    have hm7 : Mw m 7 = l := (congrFun hm0 7).trans hC.2.2.2.2.2.2
    have hc14 : CstR Mw (x + 14) := CstR_fr (fun q a b => (hqw q (by omega)).trans (fr q (by omega) (by omega))) hC.2.1.2.2.2.2.1
    have hAw := AskR_fr (M2 := Mw) (fun q _ b _ => hqw q (by omega)) hA2
    have hNw := HisN_fr (M2 := Mw) hX2.2.2.2.1 (fun q a b => hqw q (by omega)) hN
    refine a_setLimits (S := (R2, S.2)) (mod_s (fun i => hRo m i (by omega)) hC.1.1.2) hC.1.2.1 hC.1.2.2 hi ?_
    rw [h1q]
    refine r_setLimits (mod_s (fun i => hRo m i (by omega)) hC.1.1.2) hm1 rfl hm2 (by rw [hm4]; exact hD.2.1) hD.1 (fun y M3 fr3 o2 ho h7 hd => ?_)
    rcases hd with ⟨h5, hn, hg3, hp3, h4⟩ | ⟨h5, hn, hr, hg3, p2, hp2, hsp⟩
    · omega
    · rw [hm4] at hsp
      exact ⟨y, M3, rfl, rfl, (congrFun ho 5).trans h5, (fun _ => (congrFun (fr3 u (by omega) (by omega) (by omega)) 0).trans (hv0.trans (hv.trans hr.symm))), fun l5 l6 => k M3 _ ⟨_, p2, tx, t, o2 4, l, ch_chg (M2 := Mw) G hC hq9 hc14 hRo hX2 hAw hNw (fun q hq => fr3 q (by omega) (by omega) (by omega)) hg3 hp2 (congrFun ho 4) hsp ((fr3 _ (by omega) (by omega) (by omega)).trans hm5) ((congrFun ho 7).trans (h7.trans hm7)), saved_di hD hsp (row_le (by omega) (row_lim hD.1 hg.1 hg.2)) (by omega)⟩ lcn_0 l5 l6 l7 l8⟩
  · refine Or.inr (⟨rfl, 1, rfl, ?_⟩)
    have h2 := ch_tk hC
    have h1q : M 1 = M 1 := rfl
    show WP 20 199 511 [vR 1, vR x, vR m, vR u, vI i, l5, l6, l7, l8] [vI 1] (M, (tk (M, S)).2) Q
    refine a_setLimits h2.1.1.2 h2.1.2.1 h2.1.2.2 hi ?_
    rw [h1q]
    refine r_setLimits h2.1.1.2 h2.2.2.1 rfl h2.2.2.2.1 (by rw [h2.2.2.2.2.1]; exact hD.2.1) hD.1 (fun y M3 fr3 o2 ho h7 hd => ?_)
    rcases hd with ⟨h5, hn, hg3, hp3, h4⟩ | ⟨h5, hn, hr, hg3, p2, hp2, hsp⟩
    · exact ⟨y, M3, rfl, rfl, (congrFun ho 5).trans h5, (fun h => absurd h (by decide)), fun l5 l6 => k M3 _ ⟨f, p, tx, t, sv, l, ch_ref G h2 (fun q hq => fr3 q (by omega) (by omega) (by omega)) hg3 hp3 ((congrFun ho 4).trans (h4.trans h2.2.2.2.2.1)) ((fr3 _ (by omega) (by omega) (by omega)).trans h2.2.2.2.2.2.1) ((congrFun ho 7).trans (h7.trans h2.2.2.2.2.2.2)), di_le (by omega) hD⟩ lcn_1 l5 l6 l7 l8⟩
    · omega
theorem l_clean {B : Int} {M : Nat → Int → Int} {S : SD} {x m u L : Nat} {i : Int} {l5 l6 l7 l8 : V} {Q : Res → Wd → Prop} (G : Geo x m u) (hI : LawI B x m u L M S) (hB : 0 ≤ B ∧ B ≤ 1000000000 - 400) (hi : 0 ≤ i ∧ i + 3 < (L : Int) ∧ L ≤ 2048) (k : ∀ M2 S2, LawI (B + 84) x m u L M2 S2 → LCn S S2 → ∀ l5 l6 l7 l8, WP 20 199 1416 [vR 1, vR x, vR m, vR u, vI i, l5, l6, l7, l8] [] (M2, S2) Q) : WP 20 199 562 [vR 1, vR x, vR m, vR u, vI i, l5, l6, l7, l8] [] (M, S) Q := by
  obtain ⟨f, p, tx, t, sv, l, hC, hD⟩ := hI
  refine h_clean hC.1.2.1 hi ?_
  show EvQ 6 187 [vR x, vI (M 1 (i + 1)), vR u] (M, S) _
  refine w_clean hC.1.1.1.1.1 ?_
  refine t_clean hC.1.1.1 hC.2.1.1 G.1 hD.1 hC.2.1.2.1 hB (fun v M2 R2 fr hRo hX2 hA2 hN hg hv => ?_) (fun hg => ?_)
  · refine Or.inl ⟨_, rfl, hC.1.2.2, 0, rfl, ?_⟩
    have hv0 : (si (M2, (R2, S.2)) u 0 v).1 u 0 = v := out_u
    have hqw : ∀ q, q ≠ u → (si (M2, (R2, S.2)) u 0 v).1 q = M2 q := out_q
    show WP 20 199 573 [vR 1, vR x, vR m, vR u, vI i, l5, l6, l7, l8] [vI 0] ((si (M2, (R2, S.2)) u 0 v).1, (R2, S.2)) Q
    obtain ⟨Mw, hMw⟩ : ∃ z, z = (si (M2, (R2, S.2)) u 0 v).1 := ⟨_, rfl⟩
    rw [← hMw] at hv0 hqw ⊢
    clear hMw
    have hq9 : ∀ q, q < x + 2 ∨ (x + 14 ≤ q ∧ q < x + 15) ∨ (x + 22 ≤ q ∧ q < x + 26) ∨ (x + 86 ≤ q ∧ q < u) → Mw q = M q := fun q a => (hqw q (by omega)).trans (fr q (by omega) (by omega))
    have h1q : Mw 1 = M 1 := hq9 1 (by omega)
    have hm0 : Mw m = M m := hq9 m (by omega)
    have hm1 : Mw (m + 1) = f := (hq9 _ (by omega)).trans hC.2.2.1
    have hm2 : Mw (m + 2) = p := (hq9 _ (by omega)).trans hC.2.2.2.1
    have hm5 : Mw (m + 5) = t := (hq9 _ (by omega)).trans hC.2.2.2.2.2.1
    have hm4 : Mw m 4 = sv := (congrFun hm0 4).trans hC.2.2.2.2.1
    have hm7 : Mw m 7 = l := (congrFun hm0 7).trans hC.2.2.2.2.2.2
    have hc14 : CstR Mw (x + 14) := CstR_fr (fun q a b => (hqw q (by omega)).trans (fr q (by omega) (by omega))) hC.2.1.2.2.2.2.1
    have hAw := AskR_fr (M2 := Mw) (fun q _ b _ => hqw q (by omega)) hA2
    have hNw := HisN_fr (M2 := Mw) hX2.2.2.2.1 (fun q a b => hqw q (by omega)) hN
    refine a_clean (S := (R2, S.2)) (mod_s (fun i => hRo m i (by omega)) hC.1.1.2) hC.1.2.1 hC.1.2.2 hi ?_
    rw [h1q]
    refine r_clean (mod_s (fun i => hRo m i (by omega)) hC.1.1.2) hm1 rfl hm2 (by rw [hm4]; exact hD.2.1) hD.1 (by omega) (fun y M3 fr3 o2 ho h7 hd => ?_)
    rcases hd with ⟨h5, hn, hg3, hp3, h4⟩ | ⟨h5, hn, hr, hg3, p2, hp2, hsp⟩
    · omega
    · rw [hm4] at hsp
      exact ⟨y, M3, rfl, rfl, (congrFun ho 5).trans h5, (fun _ => (congrFun (fr3 u (by omega) (by omega) (by omega)) 0).trans (hv0.trans (hv.trans hr.symm))), fun l5 l6 => k M3 _ ⟨_, p2, tx, t, o2 4, l, ch_chg (M2 := Mw) G hC hq9 hc14 hRo hX2 hAw hNw (fun q hq => fr3 q (by omega) (by omega) (by omega)) hg3 hp2 (congrFun ho 4) hsp ((fr3 _ (by omega) (by omega) (by omega)).trans hm5) ((congrFun ho 7).trans (h7.trans hm7)), saved_di hD hsp (row_le (by omega) (row_clean hD.1 hB.1 hg)) (by omega)⟩ lcn_0 l5 l6 l7 l8⟩
  · refine Or.inr (⟨rfl, 1, rfl, ?_⟩)
    have h2 := ch_tk hC
    have h1q : M 1 = M 1 := rfl
    show WP 20 199 573 [vR 1, vR x, vR m, vR u, vI i, l5, l6, l7, l8] [vI 1] (M, (tk (M, S)).2) Q
    refine a_clean h2.1.1.2 h2.1.2.1 h2.1.2.2 hi ?_
    rw [h1q]
    refine r_clean h2.1.1.2 h2.2.2.1 rfl h2.2.2.2.1 (by rw [h2.2.2.2.2.1]; exact hD.2.1) hD.1 (by omega) (fun y M3 fr3 o2 ho h7 hd => ?_)
    rcases hd with ⟨h5, hn, hg3, hp3, h4⟩ | ⟨h5, hn, hr, hg3, p2, hp2, hsp⟩
    · exact ⟨y, M3, rfl, rfl, (congrFun ho 5).trans h5, (fun h => absurd h (by decide)), fun l5 l6 => k M3 _ ⟨f, p, tx, t, sv, l, ch_ref G h2 (fun q hq => fr3 q (by omega) (by omega) (by omega)) hg3 hp3 ((congrFun ho 4).trans (h4.trans h2.2.2.2.2.1)) ((fr3 _ (by omega) (by omega) (by omega)).trans h2.2.2.2.2.2.1) ((congrFun ho 7).trans (h7.trans h2.2.2.2.2.2.2)), di_le (by omega) hD⟩ lcn_1 l5 l6 l7 l8⟩
    · omega
theorem l_write {B : Int} {M : Nat → Int → Int} {S : SD} {x m u L : Nat} {i : Int} {l5 l6 l7 l8 : V} {Q : Res → Wd → Prop} (G : Geo x m u) (hI : LawI B x m u L M S) (hB : 0 ≤ B ∧ B ≤ 1000000000 - 400) (hi : 0 ≤ i ∧ i + 3 < (L : Int) ∧ L ≤ 2048) (k : ∀ M2 S2, LawI (B + 84) x m u L M2 S2 → LCn S S2 → ∀ l5 l6 l7 l8, WP 20 199 1416 [vR 1, vR x, vR m, vR u, vI i, l5, l6, l7, l8] [] (M2, S2) Q) : WP 20 199 1042 [vR 1, vR x, vR m, vR u, vI i, l5, l6, l7, l8] [] (M, S) Q := by
  obtain ⟨f, p, tx, t, sv, l, hC, hD⟩ := hI
  refine h_write hC.1.2.1 hi ?_
  show EvQ 7 194 [vR x, vI (M 1 (i + 1)), vR u] (M, S) _
  refine w_write hC.1.1.1.1.1 ?_
  refine t_write hC.1.1.1 hC.2.1.1 G.1 hD.1 hC.2.1.2.1 hB (fun v c M2 R2 fr hRo hX2 hA2 hN hg n1 hw1 hv => ?_) (fun hg => ?_) (fun M2 fr hg hno hA2 hH2 => ?_)
  · refine Or.inl ⟨_, rfl, hC.1.2.2, 0, rfl, ?_⟩
    have hv0 : (si (M2, (R2, S.2)) u 0 v).1 u 0 = v := out_u
    have hqw : ∀ q, q ≠ u → (si (M2, (R2, S.2)) u 0 v).1 q = M2 q := out_q
    show WP 20 199 1053 [vR 1, vR x, vR m, vR u, vI i, l5, l6, l7, l8] [vI 0] ((si (M2, (R2, S.2)) u 0 v).1, (R2, S.2)) Q
    obtain ⟨Mw, hMw⟩ : ∃ z, z = (si (M2, (R2, S.2)) u 0 v).1 := ⟨_, rfl⟩
    rw [← hMw] at hv0 hqw ⊢
    clear hMw
    have hq9 : ∀ q, q < x + 2 ∨ (x + 14 ≤ q ∧ q < x + 15) ∨ (x + 22 ≤ q ∧ q < x + 26) ∨ (x + 86 ≤ q ∧ q < u) → Mw q = M q := fun q a => (hqw q (by omega)).trans (fr q (by omega) (by omega))
    have h1q : Mw 1 = M 1 := hq9 1 (by omega)
    have hm0 : Mw m = M m := hq9 m (by omega)
    have hm1 : Mw (m + 1) = f := (hq9 _ (by omega)).trans hC.2.2.1
    have hm2 : Mw (m + 2) = p := (hq9 _ (by omega)).trans hC.2.2.2.1
    have hm5 : Mw (m + 5) = t := (hq9 _ (by omega)).trans hC.2.2.2.2.2.1
    have hm4 : Mw m 4 = sv := (congrFun hm0 4).trans hC.2.2.2.2.1
    have hm7 : Mw m 7 = l := (congrFun hm0 7).trans hC.2.2.2.2.2.2
    have hc14 : CstR Mw (x + 14) := CstR_fr (fun q a b => (hqw q (by omega)).trans (fr q (by omega) (by omega))) hC.2.1.2.2.2.2.1
    have hAw := AskR_fr (M2 := Mw) (fun q _ b _ => hqw q (by omega)) hA2
    have hNw := HisN_fr (M2 := Mw) hX2.2.2.2.1 (fun q a b => hqw q (by omega)) hN
    refine a_write (S := (R2, S.2)) (mod_s (fun i => hRo m i (by omega)) hC.1.1.2) hC.1.2.1 hC.1.2.2 hi ?_
    rw [h1q]
    refine r_write (mod_s (fun i => hRo m i (by omega)) hC.1.1.2) hm1 rfl hm2 (by rw [hm4]; exact hD.2.1) hD.1 (by omega) (fun y M3 fr3 o2 ho h7 hd => ?_)
    rcases hd with ⟨h5, hn, hg3, hp3, h4⟩ | ⟨h5, hn, hno2, hg3, hp3, h4⟩ | ⟨h5, hn, c2, n2, hw2, hr, hg3, p2, hp2, hsp⟩
    · omega
    · exact absurd hw1 (hno2 c n1)
    · rw [hm4] at hsp
      rw [hv, ← wrote_t hD.1.1 (hD.1.2.1.2 _ hg.1 hg.2).1 hw1] at hAw
      rw [← wrote_t hD.1.1 (hD.1.2.1.2 _ hg.1 hg.2).1 hw2] at hg3
      exact ⟨y, M3, rfl, rfl, (congrFun ho 5).trans h5, (fun _ => (congrFun (fr3 u (by omega) (by omega) (by omega) (by omega) (by omega)) 0).trans (hv0.trans ((hv.trans (wrt_u hD.1.1 (hD.1.2.1.2 _ hg.1 hg.2).1 hw1 hw2).1).trans hr.symm))), fun l5 l6 => k M3 _ ⟨_, p2, tx, t, o2 4, l, ch_chg (M2 := Mw) G hC hq9 hc14 hRo hX2 hAw hNw (fun q hq => fr3 q (by omega) (by omega) (by omega) (by omega) (by omega)) hg3 hp2 (congrFun ho 4) hsp ((fr3 _ (by omega) (by omega) (by omega) (by omega) (by omega)).trans hm5) ((congrFun ho 7).trans (h7.trans hm7)), saved_di hD hsp (row_le (by omega) (wrote_row hD.1 hB.1 hg).1) (by omega)⟩ lcn_0 l5 l6 l7 l8⟩
  · refine Or.inr (Or.inl ⟨rfl, 1, rfl, ?_⟩)
    have h2 := ch_tk hC
    have h1q : M 1 = M 1 := rfl
    show WP 20 199 1053 [vR 1, vR x, vR m, vR u, vI i, l5, l6, l7, l8] [vI 1] (M, (tk (M, S)).2) Q
    refine a_write h2.1.1.2 h2.1.2.1 h2.1.2.2 hi ?_
    rw [h1q]
    refine r_write h2.1.1.2 h2.2.2.1 rfl h2.2.2.2.1 (by rw [h2.2.2.2.2.1]; exact hD.2.1) hD.1 (by omega) (fun y M3 fr3 o2 ho h7 hd => ?_)
    rcases hd with ⟨h5, hn, hg3, hp3, h4⟩ | ⟨h5, hn, hno2, hg3, hp3, h4⟩ | ⟨h5, hn, c2, n2, hw2, hr, hg3, p2, hp2, hsp⟩
    · exact ⟨y, M3, rfl, rfl, (congrFun ho 5).trans h5, (fun h => absurd h (by decide)), fun l5 l6 => k M3 _ ⟨f, p, tx, t, sv, l, ch_ref G h2 (fun q hq => fr3 q (by omega) (by omega) (by omega) (by omega) (by omega)) hg3 hp3 ((congrFun ho 4).trans (h4.trans h2.2.2.2.2.1)) ((fr3 _ (by omega) (by omega) (by omega) (by omega) (by omega)).trans h2.2.2.2.2.2.1) ((congrFun ho 7).trans (h7.trans h2.2.2.2.2.2.2)), di_le (by omega) hD⟩ lcn_1 l5 l6 l7 l8⟩
    · omega
    · omega
  · refine Or.inr (Or.inr (⟨rfl, 2, rfl, ?_⟩))
    have h2b : CH x m u L M2 S f p tx t sv l := ⟨hC.1, ⟨hA2, hH2, (fr _ (by omega) (by omega)).trans hC.2.1.2.2.1, (congrFun (fr x (by omega) (by omega)) 1).trans hC.2.1.2.2.2.1, CstR_fr (fun q a b => fr q (by omega) (by omega)) hC.2.1.2.2.2.2.1, InkZ_fr (fun q a b => fr q (by omega) (by omega)) hC.2.1.2.2.2.2.2.1, CstR_fr (fun q a b => fr q (by omega) (by omega)) hC.2.1.2.2.2.2.2.2⟩, (fr _ (by omega) (by omega)).trans hC.2.2.1, (fr _ (by omega) (by omega)).trans hC.2.2.2.1, (congrFun (fr m (by omega) (by omega)) 4).trans hC.2.2.2.2.1, (fr _ (by omega) (by omega)).trans hC.2.2.2.2.2.1, (congrFun (fr m (by omega) (by omega)) 7).trans hC.2.2.2.2.2.2⟩
    have h2 := ch_tk h2b
    have h1q : M2 1 = M 1 := fr 1 (by omega) (by omega)
    show WP 20 199 1053 [vR 1, vR x, vR m, vR u, vI i, l5, l6, l7, l8] [vI 2] (M2, (tk (M2, S)).2) Q
    refine a_write h2.1.1.2 h2.1.2.1 h2.1.2.2 hi ?_
    rw [h1q]
    refine r_write h2.1.1.2 h2.2.2.1 rfl h2.2.2.2.1 (by rw [h2.2.2.2.2.1]; exact hD.2.1) hD.1 (by omega) (fun y M3 fr3 o2 ho h7 hd => ?_)
    rcases hd with ⟨h5, hn, hg3, hp3, h4⟩ | ⟨h5, hn, hno2, hg3, hp3, h4⟩ | ⟨h5, hn, c2, n2, hw2, hr, hg3, p2, hp2, hsp⟩
    · omega
    · exact ⟨y, M3, rfl, rfl, (congrFun ho 5).trans h5, (fun h => absurd h (by decide)), fun l5 l6 => k M3 _ ⟨f, p, tx, t, sv, l, ch_ref G h2 (fun q hq => fr3 q (by omega) (by omega) (by omega) (by omega) (by omega)) hg3 hp3 ((congrFun ho 4).trans (h4.trans h2.2.2.2.2.1)) ((fr3 _ (by omega) (by omega) (by omega) (by omega) (by omega)).trans h2.2.2.2.2.2.1) ((congrFun ho 7).trans (h7.trans h2.2.2.2.2.2.2)), di_le (by omega) hD⟩ lcn_1 l5 l6 l7 l8⟩
    · exact absurd hw2 (hno c2 n2)
