/-! the law, case by case: the questions -/
theorem l_value {B : Int} {M : Nat → Int → Int} {S : SD} {x m u L : Nat} {i : Int} {l5 l6 l7 l8 : V} {Q : Res → Wd → Prop} (G : Geo x m u) (hI : LawI B x m u L M S) (hB : 0 ≤ B ∧ B ≤ 1000000000 - 400) (hi : 0 ≤ i ∧ i + 3 < (L : Int) ∧ L ≤ 2048) (k : ∀ M2 S2, LawI (B + 84) x m u L M2 S2 → LCn S S2 → ∀ l5 l6 l7 l8, WP 20 199 1416 [vR 1, vR x, vR m, vR u, vI i, l5, l6, l7, l8] [] (M2, S2) Q) : WP 20 199 618 [vR 1, vR x, vR m, vR u, vI i, l5, l6, l7, l8] [] (M, S) Q := by
  obtain ⟨f, p, tx, t, sv, l, hC, hD⟩ := hI
  refine h_value hC.1.2.1 hi ?_
  show EvQ 8 188 [vR x, vI (M 1 (i + 1)), vR u] (M, S) _
  refine w_value hC.1.1.1.1.1 ?_
  refine t_value hC.1.1.1 hC.2.1.1 G.1 hD.1 (fun v M2 fr hg hv => ?_) (fun hg => ?_)
  · refine Or.inl ⟨_, rfl, hC.1.2.2, 0, rfl, ?_⟩
    have h2 := ch_out (u := u) G (ch_ask G hC (fun q hq => fr q (by omega)) (CstR_fr (fun q a b => fr q (by omega)) hC.2.1.2.2.2.2.2.2)) (out_q (S2 := S) (a := v))
    have hv0 : (si (M2, S) u 0 v).1 u 0 = v := out_u
    have h1q : (si (M2, S) u 0 v).1 1 = M 1 := (out_q 1 (by omega)).trans (fr 1 (by omega))
    show WP 20 199 629 [vR 1, vR x, vR m, vR u, vI i, l5, l6, l7, l8] [vI 0] ((si (M2, S) u 0 v).1, S) Q
    obtain ⟨Mw, hMw⟩ : ∃ z, z = (si (M2, S) u 0 v).1 := ⟨_, rfl⟩
    rw [← hMw] at h2 hv0 h1q ⊢
    refine a_value h2.1.1.2 h2.1.2.1 h2.1.2.2 hi ?_
    rw [h1q]
    refine r_value h2.1.1.2 h2.2.2.1 rfl hD.1 (fun y M3 fr3 o2 ho h4 h7 hd => ?_)
    rcases hd with ⟨h5, hn⟩ | ⟨h5, hn, hr⟩
    · omega
    · exact ⟨y, M3, rfl, rfl, (congrFun ho 5).trans h5, (fun _ => (congrFun (fr3 u (by omega) (by omega)) 0).trans (hv0.trans ((tvf_eq hv).trans (tvf_eq hr).symm))), fun l5 l6 => k M3 _ ⟨f, p, tx, t, sv, l, ch_ref G h2 (fun q hq => fr3 q (by omega) (by omega)) ((fr3 _ (by omega) (by omega)).trans h2.2.2.1) ((fr3 _ (by omega) (by omega)).trans h2.2.2.2.1) ((congrFun ho 4).trans (h4.trans h2.2.2.2.2.1)) ((fr3 _ (by omega) (by omega)).trans h2.2.2.2.2.2.1) ((congrFun ho 7).trans (h7.trans h2.2.2.2.2.2.2)), di_le (by omega) hD⟩ lcn_0 l5 l6 l7 l8⟩
  · refine Or.inr (⟨rfl, 1, rfl, ?_⟩)
    have h2 := ch_tk hC
    have h1q : M 1 = M 1 := rfl
    show WP 20 199 629 [vR 1, vR x, vR m, vR u, vI i, l5, l6, l7, l8] [vI 1] (M, (tk (M, S)).2) Q
    refine a_value h2.1.1.2 h2.1.2.1 h2.1.2.2 hi ?_
    rw [h1q]
    refine r_value h2.1.1.2 h2.2.2.1 rfl hD.1 (fun y M3 fr3 o2 ho h4 h7 hd => ?_)
    rcases hd with ⟨h5, hn⟩ | ⟨h5, hn, hr⟩
    · exact ⟨y, M3, rfl, rfl, (congrFun ho 5).trans h5, (fun h => absurd h (by decide)), fun l5 l6 => k M3 _ ⟨f, p, tx, t, sv, l, ch_ref G h2 (fun q hq => fr3 q (by omega) (by omega)) ((fr3 _ (by omega) (by omega)).trans h2.2.2.1) ((fr3 _ (by omega) (by omega)).trans h2.2.2.2.1) ((congrFun ho 4).trans (h4.trans h2.2.2.2.2.1)) ((fr3 _ (by omega) (by omega)).trans h2.2.2.2.2.2.1) ((congrFun ho 7).trans (h7.trans h2.2.2.2.2.2.2)), di_le (by omega) hD⟩ lcn_1 l5 l6 l7 l8⟩
    · omega
theorem l_stamp {B : Int} {M : Nat → Int → Int} {S : SD} {x m u L : Nat} {i : Int} {l5 l6 l7 l8 : V} {Q : Res → Wd → Prop} (G : Geo x m u) (hI : LawI B x m u L M S) (hB : 0 ≤ B ∧ B ≤ 1000000000 - 400) (hi : 0 ≤ i ∧ i + 3 < (L : Int) ∧ L ≤ 2048) (k : ∀ M2 S2, LawI (B + 84) x m u L M2 S2 → LCn S S2 → ∀ l5 l6 l7 l8, WP 20 199 1416 [vR 1, vR x, vR m, vR u, vI i, l5, l6, l7, l8] [] (M2, S2) Q) : WP 20 199 674 [vR 1, vR x, vR m, vR u, vI i, l5, l6, l7, l8] [] (M, S) Q := by
  obtain ⟨f, p, tx, t, sv, l, hC, hD⟩ := hI
  refine h_stamp hC.1.2.1 hi ?_
  show EvQ 6 189 [vR x, vI (M 1 (i + 1)), vI (M 1 (i + 2)), vR u] (M, S) _
  refine w_stamp hC.1.1.1.1.1 ?_
  refine t_stamp hC.1.1.1 hC.2.1.1 G.1 hD.1 (fun v hg hg2 hv => ?_) (fun hg => ?_) (fun hg hg2 => ?_)
  · refine Or.inl ⟨_, rfl, hC.1.2.2, 0, rfl, ?_⟩
    have h2 := ch_out (u := u) G hC (out_q (S2 := S) (a := v))
    have hv0 : (si (M, S) u 0 v).1 u 0 = v := out_u
    have h1q : (si (M, S) u 0 v).1 1 = M 1 := (out_q 1 (by omega))
    show WP 20 199 691 [vR 1, vR x, vR m, vR u, vI i, l5, l6, l7, l8] [vI 0] ((si (M, S) u 0 v).1, S) Q
    obtain ⟨Mw, hMw⟩ : ∃ z, z = (si (M, S) u 0 v).1 := ⟨_, rfl⟩
    rw [← hMw] at h2 hv0 h1q ⊢
    refine a_stamp h2.1.1.2 h2.1.2.1 h2.1.2.2 hi ?_
    rw [h1q]
    refine r_stamp h2.1.1.2 h2.2.2.1 rfl hD.1 (fun y M3 fr3 o2 ho h4 h7 hd => ?_)
    rcases hd with ⟨h5, hn⟩ | ⟨h5, hn, hn2⟩ | ⟨h5, hn, hn2, hr⟩
    · omega
    · omega
    · exact ⟨y, M3, rfl, rfl, (congrFun ho 5).trans h5, (fun _ => (congrFun (fr3 u (by omega)) 0).trans (hv0.trans ((tsf_eq hv).trans (tsf_eq hr).symm))), fun l5 l6 => k M3 _ ⟨f, p, tx, t, sv, l, ch_ref G h2 (fun q hq => fr3 q (by omega)) ((fr3 _ (by omega)).trans h2.2.2.1) ((fr3 _ (by omega)).trans h2.2.2.2.1) ((congrFun ho 4).trans (h4.trans h2.2.2.2.2.1)) ((fr3 _ (by omega)).trans h2.2.2.2.2.2.1) ((congrFun ho 7).trans (h7.trans h2.2.2.2.2.2.2)), di_le (by omega) hD⟩ lcn_0 l5 l6 l7 l8⟩
  · refine Or.inr (Or.inl ⟨rfl, 1, rfl, ?_⟩)
    have h2 := ch_tk hC
    have h1q : M 1 = M 1 := rfl
    show WP 20 199 691 [vR 1, vR x, vR m, vR u, vI i, l5, l6, l7, l8] [vI 1] (M, (tk (M, S)).2) Q
    refine a_stamp h2.1.1.2 h2.1.2.1 h2.1.2.2 hi ?_
    rw [h1q]
    refine r_stamp h2.1.1.2 h2.2.2.1 rfl hD.1 (fun y M3 fr3 o2 ho h4 h7 hd => ?_)
    rcases hd with ⟨h5, hn⟩ | ⟨h5, hn, hn2⟩ | ⟨h5, hn, hn2, hr⟩
    · exact ⟨y, M3, rfl, rfl, (congrFun ho 5).trans h5, (fun h => absurd h (by decide)), fun l5 l6 => k M3 _ ⟨f, p, tx, t, sv, l, ch_ref G h2 (fun q hq => fr3 q (by omega)) ((fr3 _ (by omega)).trans h2.2.2.1) ((fr3 _ (by omega)).trans h2.2.2.2.1) ((congrFun ho 4).trans (h4.trans h2.2.2.2.2.1)) ((fr3 _ (by omega)).trans h2.2.2.2.2.2.1) ((congrFun ho 7).trans (h7.trans h2.2.2.2.2.2.2)), di_le (by omega) hD⟩ lcn_1 l5 l6 l7 l8⟩
    · omega
    · omega
  · refine Or.inr (Or.inr (⟨rfl, 2, rfl, ?_⟩))
    have h2 := ch_tk hC
    have h1q : M 1 = M 1 := rfl
    show WP 20 199 691 [vR 1, vR x, vR m, vR u, vI i, l5, l6, l7, l8] [vI 2] (M, (tk (M, S)).2) Q
    refine a_stamp h2.1.1.2 h2.1.2.1 h2.1.2.2 hi ?_
    rw [h1q]
    refine r_stamp h2.1.1.2 h2.2.2.1 rfl hD.1 (fun y M3 fr3 o2 ho h4 h7 hd => ?_)
    rcases hd with ⟨h5, hn⟩ | ⟨h5, hn, hn2⟩ | ⟨h5, hn, hn2, hr⟩
    · omega
    · exact ⟨y, M3, rfl, rfl, (congrFun ho 5).trans h5, (fun h => absurd h (by decide)), fun l5 l6 => k M3 _ ⟨f, p, tx, t, sv, l, ch_ref G h2 (fun q hq => fr3 q (by omega)) ((fr3 _ (by omega)).trans h2.2.2.1) ((fr3 _ (by omega)).trans h2.2.2.2.1) ((congrFun ho 4).trans (h4.trans h2.2.2.2.2.1)) ((fr3 _ (by omega)).trans h2.2.2.2.2.2.1) ((congrFun ho 7).trans (h7.trans h2.2.2.2.2.2.2)), di_le (by omega) hD⟩ lcn_1 l5 l6 l7 l8⟩
    · omega
theorem l_print {B : Int} {M : Nat → Int → Int} {S : SD} {x m u L : Nat} {i : Int} {l5 l6 l7 l8 : V} {Q : Res → Wd → Prop} (G : Geo x m u) (hI : LawI B x m u L M S) (hB : 0 ≤ B ∧ B ≤ 1000000000 - 400) (hi : 0 ≤ i ∧ i + 3 < (L : Int) ∧ L ≤ 2048) (k : ∀ M2 S2, LawI (B + 84) x m u L M2 S2 → LCn S S2 → ∀ l5 l6 l7 l8, WP 20 199 1416 [vR 1, vR x, vR m, vR u, vI i, l5, l6, l7, l8] [] (M2, S2) Q) : WP 20 199 742 [vR 1, vR x, vR m, vR u, vI i, l5, l6, l7, l8] [] (M, S) Q := by
  obtain ⟨f, p, tx, t, sv, l, hC, hD⟩ := hI
  refine h_print hC.1.2.1 hi ?_
  show EvQ 5 190 [vR x, vI (M 1 (i + 1)), vI (M 1 (i + 2)), vI (if M 1 (i + 3) = 0 then 0 else 1), vR u] (M, S) _
  refine w_print hC.1.1.1.1.1 ?_
  refine t_print hC.1.1.1 hC.2.1.1 G.1 hD.1 (fun hg hcan => ?_) (fun hg ht hnc => ?_) (fun hg => ?_)
  · refine Or.inl ⟨_, rfl, hC.1.2.2, 0, rfl, ?_⟩
    have h2 := ch_out (u := u) G hC (out_q (S2 := S) (a := (prL f (M 1 (i + 1)) (M 1 (i + 2)) (if M 1 (i + 3) = 0 then 0 else 1))))
    have hv0 : (si (M, S) u 0 (prL f (M 1 (i + 1)) (M 1 (i + 2)) (if M 1 (i + 3) = 0 then 0 else 1))).1 u 0 = (prL f (M 1 (i + 1)) (M 1 (i + 2)) (if M 1 (i + 3) = 0 then 0 else 1)) := out_u
    have h1q : (si (M, S) u 0 (prL f (M 1 (i + 1)) (M 1 (i + 2)) (if M 1 (i + 3) = 0 then 0 else 1))).1 1 = M 1 := (out_q 1 (by omega))
    show WP 20 199 773 [vR 1, vR x, vR m, vR u, vI i, l5, l6, l7, l8] [vI 0] ((si (M, S) u 0 (prL f (M 1 (i + 1)) (M 1 (i + 2)) (if M 1 (i + 3) = 0 then 0 else 1))).1, S) Q
    obtain ⟨Mw, hMw⟩ : ∃ z, z = (si (M, S) u 0 (prL f (M 1 (i + 1)) (M 1 (i + 2)) (if M 1 (i + 3) = 0 then 0 else 1))).1 := ⟨_, rfl⟩
    rw [← hMw] at h2 hv0 h1q ⊢
    refine a_print h2.1.1.2 h2.1.2.1 h2.1.2.2 hi ?_
    rw [h1q]
    refine r_print h2.1.1.2 h2.2.2.1 rfl hD.1 (fun y M3 fr3 o2 ho h4 h7 hd => ?_)
    rcases hd with ⟨h5, hn⟩ | ⟨h5, hn, ht0, hc0, hr⟩ | ⟨h5, hn, hc1, hr⟩
    · omega
    · exact absurd (hcan ht0) hc0
    · exact ⟨y, M3, rfl, rfl, (congrFun ho 5).trans h5, (fun _ => (congrFun (fr3 u (by omega)) 0).trans (hv0.trans hr.symm)), fun l5 l6 => k M3 _ ⟨f, p, tx, t, sv, l, ch_ref G h2 (fun q hq => fr3 q (by omega)) ((fr3 _ (by omega)).trans h2.2.2.1) ((fr3 _ (by omega)).trans h2.2.2.2.1) ((congrFun ho 4).trans (h4.trans h2.2.2.2.2.1)) ((fr3 _ (by omega)).trans h2.2.2.2.2.2.1) ((congrFun ho 7).trans (h7.trans h2.2.2.2.2.2.2)), di_le (by omega) hD⟩ lcn_0 l5 l6 l7 l8⟩
  · refine Or.inl ⟨_, rfl, hC.1.2.2, 0, rfl, ?_⟩
    have h2 := ch_out (u := u) G hC (out_q (S2 := S) (a := (-1)))
    have hv0 : (si (M, S) u 0 (-1)).1 u 0 = (-1) := out_u
    have h1q : (si (M, S) u 0 (-1)).1 1 = M 1 := (out_q 1 (by omega))
    show WP 20 199 773 [vR 1, vR x, vR m, vR u, vI i, l5, l6, l7, l8] [vI 0] ((si (M, S) u 0 (-1)).1, S) Q
    obtain ⟨Mw, hMw⟩ : ∃ z, z = (si (M, S) u 0 (-1)).1 := ⟨_, rfl⟩
    rw [← hMw] at h2 hv0 h1q ⊢
    refine a_print h2.1.1.2 h2.1.2.1 h2.1.2.2 hi ?_
    rw [h1q]
    refine r_print h2.1.1.2 h2.2.2.1 rfl hD.1 (fun y M3 fr3 o2 ho h4 h7 hd => ?_)
    rcases hd with ⟨h5, hn⟩ | ⟨h5, hn, ht0, hc0, hr⟩ | ⟨h5, hn, hc1, hr⟩
    · omega
    · exact ⟨y, M3, rfl, rfl, (congrFun ho 5).trans h5, (fun _ => (congrFun (fr3 u (by omega)) 0).trans (hv0.trans hr.symm)), fun l5 l6 => k M3 _ ⟨f, p, tx, t, sv, l, ch_ref G h2 (fun q hq => fr3 q (by omega)) ((fr3 _ (by omega)).trans h2.2.2.1) ((fr3 _ (by omega)).trans h2.2.2.2.1) ((congrFun ho 4).trans (h4.trans h2.2.2.2.2.1)) ((fr3 _ (by omega)).trans h2.2.2.2.2.2.1) ((congrFun ho 7).trans (h7.trans h2.2.2.2.2.2.2)), di_le (by omega) hD⟩ lcn_0 l5 l6 l7 l8⟩
    · exact absurd (hc1 ht) hnc
  · refine Or.inr (⟨rfl, 1, rfl, ?_⟩)
    have h2 := ch_tk hC
    have h1q : M 1 = M 1 := rfl
    show WP 20 199 773 [vR 1, vR x, vR m, vR u, vI i, l5, l6, l7, l8] [vI 1] (M, (tk (M, S)).2) Q
    refine a_print h2.1.1.2 h2.1.2.1 h2.1.2.2 hi ?_
    rw [h1q]
    refine r_print h2.1.1.2 h2.2.2.1 rfl hD.1 (fun y M3 fr3 o2 ho h4 h7 hd => ?_)
    rcases hd with ⟨h5, hn⟩ | ⟨h5, hn, ht0, hc0, hr⟩ | ⟨h5, hn, hc1, hr⟩
    · exact ⟨y, M3, rfl, rfl, (congrFun ho 5).trans h5, (fun h => absurd h (by decide)), fun l5 l6 => k M3 _ ⟨f, p, tx, t, sv, l, ch_ref G h2 (fun q hq => fr3 q (by omega)) ((fr3 _ (by omega)).trans h2.2.2.1) ((fr3 _ (by omega)).trans h2.2.2.2.1) ((congrFun ho 4).trans (h4.trans h2.2.2.2.2.1)) ((fr3 _ (by omega)).trans h2.2.2.2.2.2.1) ((congrFun ho 7).trans (h7.trans h2.2.2.2.2.2.2)), di_le (by omega) hD⟩ lcn_1 l5 l6 l7 l8⟩
    · omega
    · omega
theorem l_word {B : Int} {M : Nat → Int → Int} {S : SD} {x m u L : Nat} {i : Int} {l5 l6 l7 l8 : V} {Q : Res → Wd → Prop} (G : Geo x m u) (hI : LawI B x m u L M S) (hB : 0 ≤ B ∧ B ≤ 1000000000 - 400) (hi : 0 ≤ i ∧ i + 3 < (L : Int) ∧ L ≤ 2048) (k : ∀ M2 S2, LawI (B + 84) x m u L M2 S2 → LCn S S2 → ∀ l5 l6 l7 l8, WP 20 199 1416 [vR 1, vR x, vR m, vR u, vI i, l5, l6, l7, l8] [] (M2, S2) Q) : WP 20 199 838 [vR 1, vR x, vR m, vR u, vI i, l5, l6, l7, l8] [] (M, S) Q := by
  obtain ⟨f, p, tx, t, sv, l, hC, hD⟩ := hI
  refine h_word hC.1.2.1 hi ?_
  show EvQ 8 191 [vR x, vI (M 1 (i + 1)), vI (M 1 (i + 2)), vR u] (M, S) _
  refine w_word hC.1.1.1.1.1 ?_
  refine t_word hC.1.1.1 hC.2.1.1 G.1 hD.1 hB (fun v M2 fr hg hg2 hv => ?_) (fun hg => ?_) (fun hg hg2 => ?_)
  · refine Or.inl ⟨_, rfl, hC.1.2.2, 0, rfl, ?_⟩
    have h2 := ch_out (u := u) G (ch_ask G hC (fun q hq => fr q (by omega)) (CstR_fr (fun q a b => fr q (by omega)) hC.2.1.2.2.2.2.2.2)) (out_q (S2 := S) (a := v))
    have hv0 : (si (M2, S) u 0 v).1 u 0 = v := out_u
    have h1q : (si (M2, S) u 0 v).1 1 = M 1 := (out_q 1 (by omega)).trans (fr 1 (by omega))
    show WP 20 199 855 [vR 1, vR x, vR m, vR u, vI i, l5, l6, l7, l8] [vI 0] ((si (M2, S) u 0 v).1, S) Q
    obtain ⟨Mw, hMw⟩ : ∃ z, z = (si (M2, S) u 0 v).1 := ⟨_, rfl⟩
    rw [← hMw] at h2 hv0 h1q ⊢
    refine a_word h2.1.1.2 h2.1.2.1 h2.1.2.2 hi ?_
    rw [h1q]
    refine r_word h2.1.1.2 h2.2.2.1 rfl hD.1 (by omega) (fun y M3 fr3 hf3 o2 ho h4 h7 hd => ?_)
    rcases hd with ⟨h5, hn⟩ | ⟨h5, hn, hn2⟩ | ⟨h5, hn, hn2, hr⟩
    · omega
    · omega
    · exact ⟨y, M3, rfl, rfl, (congrFun ho 5).trans h5, (fun _ => (congrFun (fr3 u (by omega) (by omega) (by omega) (by omega) (by omega)) 0).trans (hv0.trans (tellW_u hD.1.1 (hD.1.2.1.2 _ hg.1 hg.2).1 hv hr))), fun l5 l6 => k M3 _ ⟨f, p, tx, t, sv, l, ch_ref G h2 (fun q hq => fr3 q (by omega) (by omega) (by omega) (by omega) (by omega)) hf3 ((fr3 _ (by omega) (by omega) (by omega) (by omega) (by omega)).trans h2.2.2.2.1) ((congrFun ho 4).trans (h4.trans h2.2.2.2.2.1)) ((fr3 _ (by omega) (by omega) (by omega) (by omega) (by omega)).trans h2.2.2.2.2.2.1) ((congrFun ho 7).trans (h7.trans h2.2.2.2.2.2.2)), di_le (by omega) hD⟩ lcn_0 l5 l6 l7 l8⟩
  · refine Or.inr (Or.inl ⟨rfl, 1, rfl, ?_⟩)
    have h2 := ch_tk hC
    have h1q : M 1 = M 1 := rfl
    show WP 20 199 855 [vR 1, vR x, vR m, vR u, vI i, l5, l6, l7, l8] [vI 1] (M, (tk (M, S)).2) Q
    refine a_word h2.1.1.2 h2.1.2.1 h2.1.2.2 hi ?_
    rw [h1q]
    refine r_word h2.1.1.2 h2.2.2.1 rfl hD.1 (by omega) (fun y M3 fr3 hf3 o2 ho h4 h7 hd => ?_)
    rcases hd with ⟨h5, hn⟩ | ⟨h5, hn, hn2⟩ | ⟨h5, hn, hn2, hr⟩
    · exact ⟨y, M3, rfl, rfl, (congrFun ho 5).trans h5, (fun h => absurd h (by decide)), fun l5 l6 => k M3 _ ⟨f, p, tx, t, sv, l, ch_ref G h2 (fun q hq => fr3 q (by omega) (by omega) (by omega) (by omega) (by omega)) hf3 ((fr3 _ (by omega) (by omega) (by omega) (by omega) (by omega)).trans h2.2.2.2.1) ((congrFun ho 4).trans (h4.trans h2.2.2.2.2.1)) ((fr3 _ (by omega) (by omega) (by omega) (by omega) (by omega)).trans h2.2.2.2.2.2.1) ((congrFun ho 7).trans (h7.trans h2.2.2.2.2.2.2)), di_le (by omega) hD⟩ lcn_1 l5 l6 l7 l8⟩
    · omega
    · omega
  · refine Or.inr (Or.inr (⟨rfl, 2, rfl, ?_⟩))
    have h2 := ch_tk hC
    have h1q : M 1 = M 1 := rfl
    show WP 20 199 855 [vR 1, vR x, vR m, vR u, vI i, l5, l6, l7, l8] [vI 2] (M, (tk (M, S)).2) Q
    refine a_word h2.1.1.2 h2.1.2.1 h2.1.2.2 hi ?_
    rw [h1q]
    refine r_word h2.1.1.2 h2.2.2.1 rfl hD.1 (by omega) (fun y M3 fr3 hf3 o2 ho h4 h7 hd => ?_)
    rcases hd with ⟨h5, hn⟩ | ⟨h5, hn, hn2⟩ | ⟨h5, hn, hn2, hr⟩
    · omega
    · exact ⟨y, M3, rfl, rfl, (congrFun ho 5).trans h5, (fun h => absurd h (by decide)), fun l5 l6 => k M3 _ ⟨f, p, tx, t, sv, l, ch_ref G h2 (fun q hq => fr3 q (by omega) (by omega) (by omega) (by omega) (by omega)) hf3 ((fr3 _ (by omega) (by omega) (by omega) (by omega) (by omega)).trans h2.2.2.2.1) ((congrFun ho 4).trans (h4.trans h2.2.2.2.2.1)) ((fr3 _ (by omega) (by omega) (by omega) (by omega) (by omega)).trans h2.2.2.2.2.2.1) ((congrFun ho 7).trans (h7.trans h2.2.2.2.2.2.2)), di_le (by omega) hD⟩ lcn_1 l5 l6 l7 l8⟩
    · omega
theorem l_letter {B : Int} {M : Nat → Int → Int} {S : SD} {x m u L : Nat} {i : Int} {l5 l6 l7 l8 : V} {Q : Res → Wd → Prop} (G : Geo x m u) (hI : LawI B x m u L M S) (hB : 0 ≤ B ∧ B ≤ 1000000000 - 400) (hi : 0 ≤ i ∧ i + 3 < (L : Int) ∧ L ≤ 2048) (k : ∀ M2 S2, LawI (B + 84) x m u L M2 S2 → LCn S S2 → ∀ l5 l6 l7 l8, WP 20 199 1416 [vR 1, vR x, vR m, vR u, vI i, l5, l6, l7, l8] [] (M2, S2) Q) : WP 20 199 906 [vR 1, vR x, vR m, vR u, vI i, l5, l6, l7, l8] [] (M, S) Q := by
  obtain ⟨f, p, tx, t, sv, l, hC, hD⟩ := hI
  refine h_letter hC.1.2.1 hi ?_
  show EvQ 4 192 [vR x, vI (M 1 (i + 1)), vI (M 1 (i + 2)), vR u] (M, S) _
  refine w_letter hC.1.1.1.1.1 ?_
  refine t_letter hC.1.1.1 hC.2.1.1 G.1 hD.1 (fun hg => ?_) (fun hg => ?_)
  · refine Or.inl ⟨_, rfl, hC.1.2.2, 0, rfl, ?_⟩
    have h2 := ch_out (u := u) G hC (out_q (S2 := S) (a := (f (97 + 14 * M 1 (i + 1) + 2 + M 1 (i + 2)))))
    have hv0 : (si (M, S) u 0 (f (97 + 14 * M 1 (i + 1) + 2 + M 1 (i + 2)))).1 u 0 = (f (97 + 14 * M 1 (i + 1) + 2 + M 1 (i + 2))) := out_u
    have h1q : (si (M, S) u 0 (f (97 + 14 * M 1 (i + 1) + 2 + M 1 (i + 2)))).1 1 = M 1 := (out_q 1 (by omega))
    show WP 20 199 923 [vR 1, vR x, vR m, vR u, vI i, l5, l6, l7, l8] [vI 0] ((si (M, S) u 0 (f (97 + 14 * M 1 (i + 1) + 2 + M 1 (i + 2)))).1, S) Q
    obtain ⟨Mw, hMw⟩ : ∃ z, z = (si (M, S) u 0 (f (97 + 14 * M 1 (i + 1) + 2 + M 1 (i + 2)))).1 := ⟨_, rfl⟩
    rw [← hMw] at h2 hv0 h1q ⊢
    refine a_letter h2.1.1.2 h2.1.2.1 h2.1.2.2 hi ?_
    rw [h1q]
    refine r_letter h2.1.1.2 h2.2.2.1 rfl hD.1 (fun y M3 fr3 o2 ho h4 h7 hd => ?_)
    rcases hd with ⟨h5, hn⟩ | ⟨h5, hn, hr⟩
    · omega
    · exact ⟨y, M3, rfl, rfl, (congrFun ho 5).trans h5, (fun _ => (congrFun (fr3 u (by omega)) 0).trans (hv0.trans hr.symm)), fun l5 l6 => k M3 _ ⟨f, p, tx, t, sv, l, ch_ref G h2 (fun q hq => fr3 q (by omega)) ((fr3 _ (by omega)).trans h2.2.2.1) ((fr3 _ (by omega)).trans h2.2.2.2.1) ((congrFun ho 4).trans (h4.trans h2.2.2.2.2.1)) ((fr3 _ (by omega)).trans h2.2.2.2.2.2.1) ((congrFun ho 7).trans (h7.trans h2.2.2.2.2.2.2)), di_le (by omega) hD⟩ lcn_0 l5 l6 l7 l8⟩
  · refine Or.inr (⟨rfl, 1, rfl, ?_⟩)
    have h2 := ch_tk hC
    have h1q : M 1 = M 1 := rfl
    show WP 20 199 923 [vR 1, vR x, vR m, vR u, vI i, l5, l6, l7, l8] [vI 1] (M, (tk (M, S)).2) Q
    refine a_letter h2.1.1.2 h2.1.2.1 h2.1.2.2 hi ?_
    rw [h1q]
    refine r_letter h2.1.1.2 h2.2.2.1 rfl hD.1 (fun y M3 fr3 o2 ho h4 h7 hd => ?_)
    rcases hd with ⟨h5, hn⟩ | ⟨h5, hn, hr⟩
    · exact ⟨y, M3, rfl, rfl, (congrFun ho 5).trans h5, (fun h => absurd h (by decide)), fun l5 l6 => k M3 _ ⟨f, p, tx, t, sv, l, ch_ref G h2 (fun q hq => fr3 q (by omega)) ((fr3 _ (by omega)).trans h2.2.2.1) ((fr3 _ (by omega)).trans h2.2.2.2.1) ((congrFun ho 4).trans (h4.trans h2.2.2.2.2.1)) ((fr3 _ (by omega)).trans h2.2.2.2.2.2.1) ((congrFun ho 7).trans (h7.trans h2.2.2.2.2.2.2)), di_le (by omega) hD⟩ lcn_1 l5 l6 l7 l8⟩
    · omega
theorem l_press {B : Int} {M : Nat → Int → Int} {S : SD} {x m u L : Nat} {i : Int} {l5 l6 l7 l8 : V} {Q : Res → Wd → Prop} (G : Geo x m u) (hI : LawI B x m u L M S) (hB : 0 ≤ B ∧ B ≤ 1000000000 - 400) (hi : 0 ≤ i ∧ i + 3 < (L : Int) ∧ L ≤ 2048) (k : ∀ M2 S2, LawI (B + 84) x m u L M2 S2 → LCn S S2 → ∀ l5 l6 l7 l8, WP 20 199 1416 [vR 1, vR x, vR m, vR u, vI i, l5, l6, l7, l8] [] (M2, S2) Q) : WP 20 199 974 [vR 1, vR x, vR m, vR u, vI i, l5, l6, l7, l8] [] (M, S) Q := by
  obtain ⟨f, p, tx, t, sv, l, hC, hD⟩ := hI
  refine h_press hC.1.2.1 hi ?_
  show EvQ 7 193 [vR x, vI (M 1 (i + 1)), vI (M 1 (i + 2)), vR u] (M, S) _
  refine w_press hC.1.1.1.1.1 ?_
  refine t_press hC.1.1.1 hC.2.1.1 G.1 hD.1 (fun v c n M2 fr hw hb hin hv => ?_) (fun M2 fr hno => ?_)
  · refine Or.inl ⟨_, rfl, hC.1.2.2, 0, rfl, ?_⟩
    have h2 := ch_out (u := u) G (ch_ask G hC (fun q hq => fr q (by omega)) (CstR_fr (fun q a b => fr q (by omega)) hC.2.1.2.2.2.2.2.2)) (out_q (S2 := S) (a := v))
    have hv0 : (si (M2, S) u 0 v).1 u 0 = v := out_u
    have h1q : (si (M2, S) u 0 v).1 1 = M 1 := (out_q 1 (by omega)).trans (fr 1 (by omega))
    show WP 20 199 991 [vR 1, vR x, vR m, vR u, vI i, l5, l6, l7, l8] [vI 0] ((si (M2, S) u 0 v).1, S) Q
    obtain ⟨Mw, hMw⟩ : ∃ z, z = (si (M2, S) u 0 v).1 := ⟨_, rfl⟩
    rw [← hMw] at h2 hv0 h1q ⊢
    refine a_press h2.1.1.2 h2.1.2.1 h2.1.2.2 hi ?_
    rw [h1q]
    refine r_press h2.1.1.2 h2.2.2.1 rfl hD.1 (fun y M3 fr3 o2 ho h4 h7 hd => ?_)
    rcases hd with ⟨h5, hn⟩ | ⟨h5, hw2, c2, n2, hb2, hi2, hr⟩
    · exact absurd hin (hn c n hw hb)
    · exact ⟨y, M3, rfl, rfl, (congrFun ho 5).trans h5, (fun _ => (congrFun (fr3 u (by omega) (by omega) (by omega)) 0).trans (hv0.trans ((hv.trans ((bestp_u hD.1.1 (hD.1.2.1.2 _ hw.1 hw.2).1 hb hb2).2 _ hin.1 hin.2)).trans hr.symm))), fun l5 l6 => k M3 _ ⟨f, p, tx, t, sv, l, ch_ref G h2 (fun q hq => fr3 q (by omega) (by omega) (by omega)) ((fr3 _ (by omega) (by omega) (by omega)).trans h2.2.2.1) ((fr3 _ (by omega) (by omega) (by omega)).trans h2.2.2.2.1) ((congrFun ho 4).trans (h4.trans h2.2.2.2.2.1)) ((fr3 _ (by omega) (by omega) (by omega)).trans h2.2.2.2.2.2.1) ((congrFun ho 7).trans (h7.trans h2.2.2.2.2.2.2)), di_le (by omega) hD⟩ lcn_0 l5 l6 l7 l8⟩
  · refine Or.inr (⟨rfl, 1, rfl, ?_⟩)
    have h2 := ch_tk (ch_ask G hC (fun q hq => fr q (by omega)) (CstR_fr (fun q a b => fr q (by omega)) hC.2.1.2.2.2.2.2.2))
    have h1q : M2 1 = M 1 := fr 1 (by omega)
    show WP 20 199 991 [vR 1, vR x, vR m, vR u, vI i, l5, l6, l7, l8] [vI 1] (M2, (tk (M2, S)).2) Q
    refine a_press h2.1.1.2 h2.1.2.1 h2.1.2.2 hi ?_
    rw [h1q]
    refine r_press h2.1.1.2 h2.2.2.1 rfl hD.1 (fun y M3 fr3 o2 ho h4 h7 hd => ?_)
    rcases hd with ⟨h5, hn⟩ | ⟨h5, hw2, c2, n2, hb2, hi2, hr⟩
    · exact ⟨y, M3, rfl, rfl, (congrFun ho 5).trans h5, (fun h => absurd h (by decide)), fun l5 l6 => k M3 _ ⟨f, p, tx, t, sv, l, ch_ref G h2 (fun q hq => fr3 q (by omega) (by omega) (by omega)) ((fr3 _ (by omega) (by omega) (by omega)).trans h2.2.2.1) ((fr3 _ (by omega) (by omega) (by omega)).trans h2.2.2.2.1) ((congrFun ho 4).trans (h4.trans h2.2.2.2.2.1)) ((fr3 _ (by omega) (by omega) (by omega)).trans h2.2.2.2.2.2.1) ((congrFun ho 7).trans (h7.trans h2.2.2.2.2.2.2)), di_le (by omega) hD⟩ lcn_1 l5 l6 l7 l8⟩
    · exact absurd hi2 (hno.elim (fun h => absurd hw2 h) (fun h => h c2 n2 hb2))
theorem l_needed {B : Int} {M : Nat → Int → Int} {S : SD} {x m u L : Nat} {i : Int} {l5 l6 l7 l8 : V} {Q : Res → Wd → Prop} (G : Geo x m u) (hI : LawI B x m u L M S) (hB : 0 ≤ B ∧ B ≤ 1000000000 - 400) (hi : 0 ≤ i ∧ i + 3 < (L : Int) ∧ L ≤ 2048) (k : ∀ M2 S2, LawI (B + 84) x m u L M2 S2 → LCn S S2 → ∀ l5 l6 l7 l8, WP 20 199 1416 [vR 1, vR x, vR m, vR u, vI i, l5, l6, l7, l8] [] (M2, S2) Q) : WP 20 199 1124 [vR 1, vR x, vR m, vR u, vI i, l5, l6, l7, l8] [] (M, S) Q := by
  obtain ⟨f, p, tx, t, sv, l, hC, hD⟩ := hI
  refine h_needed hC.1.2.1 hi ?_
  show EvQ 6 195 [vR x, vI (M 1 (i + 1)), vR u] (M, S) _
  refine w_needed hC.1.1.1.1.1 ?_
  refine t_needed hC.1.1.1 hC.2.1.1 G.1 hD.1 (fun v M2 fr hg hv => ?_) (fun hg => ?_)
  · refine Or.inl ⟨_, rfl, hC.1.2.2, 0, rfl, ?_⟩
    have h2 := ch_out (u := u) G (ch_ask G hC (fun q hq => fr q (by omega)) (CstR_fr (fun q a b => fr q (by omega)) hC.2.1.2.2.2.2.2.2)) (out_q (S2 := S) (a := v))
    have hv0 : (si (M2, S) u 0 v).1 u 0 = v := out_u
    have h1q : (si (M2, S) u 0 v).1 1 = M 1 := (out_q 1 (by omega)).trans (fr 1 (by omega))
    show WP 20 199 1135 [vR 1, vR x, vR m, vR u, vI i, l5, l6, l7, l8] [vI 0] ((si (M2, S) u 0 v).1, S) Q
    obtain ⟨Mw, hMw⟩ : ∃ z, z = (si (M2, S) u 0 v).1 := ⟨_, rfl⟩
    rw [← hMw] at h2 hv0 h1q ⊢
    refine a_needed h2.1.1.2 h2.1.2.1 h2.1.2.2 hi ?_
    rw [h1q]
    refine r_needed h2.1.1.2 h2.2.2.1 rfl hD.1 (fun y M3 fr3 o2 ho h4 h7 hd => ?_)
    rcases hd with ⟨h5, hn⟩ | ⟨h5, hn, hr⟩
    · omega
    · exact ⟨y, M3, rfl, rfl, (congrFun ho 5).trans h5, (fun _ => (congrFun (fr3 u (by omega) (by omega)) 0).trans (hv0.trans (hv.trans hr.symm))), fun l5 l6 => k M3 _ ⟨f, p, tx, t, sv, l, ch_ref G h2 (fun q hq => fr3 q (by omega) (by omega)) ((fr3 _ (by omega) (by omega)).trans h2.2.2.1) ((fr3 _ (by omega) (by omega)).trans h2.2.2.2.1) ((congrFun ho 4).trans (h4.trans h2.2.2.2.2.1)) ((fr3 _ (by omega) (by omega)).trans h2.2.2.2.2.2.1) ((congrFun ho 7).trans (h7.trans h2.2.2.2.2.2.2)), di_le (by omega) hD⟩ lcn_0 l5 l6 l7 l8⟩
  · refine Or.inr (⟨rfl, 1, rfl, ?_⟩)
    have h2 := ch_tk hC
    have h1q : M 1 = M 1 := rfl
    show WP 20 199 1135 [vR 1, vR x, vR m, vR u, vI i, l5, l6, l7, l8] [vI 1] (M, (tk (M, S)).2) Q
    refine a_needed h2.1.1.2 h2.1.2.1 h2.1.2.2 hi ?_
    rw [h1q]
    refine r_needed h2.1.1.2 h2.2.2.1 rfl hD.1 (fun y M3 fr3 o2 ho h4 h7 hd => ?_)
    rcases hd with ⟨h5, hn⟩ | ⟨h5, hn, hr⟩
    · exact ⟨y, M3, rfl, rfl, (congrFun ho 5).trans h5, (fun h => absurd h (by decide)), fun l5 l6 => k M3 _ ⟨f, p, tx, t, sv, l, ch_ref G h2 (fun q hq => fr3 q (by omega) (by omega)) ((fr3 _ (by omega) (by omega)).trans h2.2.2.1) ((fr3 _ (by omega) (by omega)).trans h2.2.2.2.1) ((congrFun ho 4).trans (h4.trans h2.2.2.2.2.1)) ((fr3 _ (by omega) (by omega)).trans h2.2.2.2.2.2.1) ((congrFun ho 7).trans (h7.trans h2.2.2.2.2.2.2)), di_le (by omega) hD⟩ lcn_1 l5 l6 l7 l8⟩
    · omega
theorem l_order {B : Int} {M : Nat → Int → Int} {S : SD} {x m u L : Nat} {i : Int} {l5 l6 l7 l8 : V} {Q : Res → Wd → Prop} (G : Geo x m u) (hI : LawI B x m u L M S) (hB : 0 ≤ B ∧ B ≤ 1000000000 - 400) (hi : 0 ≤ i ∧ i + 3 < (L : Int) ∧ L ≤ 2048) (k : ∀ M2 S2, LawI (B + 84) x m u L M2 S2 → LCn S S2 → ∀ l5 l6 l7 l8, WP 20 199 1416 [vR 1, vR x, vR m, vR u, vI i, l5, l6, l7, l8] [] (M2, S2) Q) : WP 20 199 1180 [vR 1, vR x, vR m, vR u, vI i, l5, l6, l7, l8] [] (M, S) Q := by
  obtain ⟨f, p, tx, t, sv, l, hC, hD⟩ := hI
  refine h_order hC.1.2.1 hi ?_
  show EvQ 17 196 [vR x, vI (M 1 (i + 1)), vR u] (M, S) _
  refine w_order hC.1.1.1.1.1 ?_
  refine t_order hC.1.1.1 hC.2.1.1 G.1 hD.1 hB (fun v M2 fr hg b c hb hc hv => ?_) (fun hg => ?_) (fun M2 fr hg b hb => ?_)
  · refine Or.inl ⟨_, rfl, hC.1.2.2, 0, rfl, ?_⟩
    have h2 := ch_out (u := u) G (ch_ask G hC (fun q hq => fr q (by omega)) (CstR_fr (fun q a b => fr q (by omega)) hC.2.1.2.2.2.2.2.2)) (out_q (S2 := S) (a := v))
    have hv0 : (si (M2, S) u 0 v).1 u 0 = v := out_u
    have h1q : (si (M2, S) u 0 v).1 1 = M 1 := (out_q 1 (by omega)).trans (fr 1 (by omega))
    show WP 20 199 1191 [vR 1, vR x, vR m, vR u, vI i, l5, l6, l7, l8] [vI 0] ((si (M2, S) u 0 v).1, S) Q
    obtain ⟨Mw, hMw⟩ : ∃ z, z = (si (M2, S) u 0 v).1 := ⟨_, rfl⟩
    rw [← hMw] at h2 hv0 h1q ⊢
    refine a_order h2.1.1.2 h2.1.2.1 h2.1.2.2 hi ?_
    rw [h1q]
    refine r_order h2.1.1.2 h2.2.2.1 rfl hD.1 hB (fun y M3 fr3 hf3 o2 ho h4 h7 hd => ?_)
    rcases hd with ⟨h5, hn⟩ | ⟨h5, hn, b2, hb2⟩ | ⟨h5, hn, b2, c2, hb2, hc2, hr⟩
    · omega
    · exact absurd (bestO_u hb hb2).1 hc
    · exact ⟨y, M3, rfl, rfl, (congrFun ho 5).trans h5, (fun _ => (congrFun (fr3 u (by omega) (by omega) (by omega) (by omega) (by omega) (by omega) (by omega) (by omega) (by omega)) 0).trans (hv0.trans ((hv.trans ((bestO_u hb hb2).2 hc _ hg.1 hg.2)).trans hr.symm))), fun l5 l6 => k M3 _ ⟨f, p, tx, t, sv, l, ch_ref G h2 (fun q hq => fr3 q (by omega) (by omega) (by omega) (by omega) (by omega) (by omega) (by omega) (by omega) (by omega)) hf3 ((fr3 _ (by omega) (by omega) (by omega) (by omega) (by omega) (by omega) (by omega) (by omega) (by omega)).trans h2.2.2.2.1) ((congrFun ho 4).trans (h4.trans h2.2.2.2.2.1)) ((fr3 _ (by omega) (by omega) (by omega) (by omega) (by omega) (by omega) (by omega) (by omega) (by omega)).trans h2.2.2.2.2.2.1) ((congrFun ho 7).trans (h7.trans h2.2.2.2.2.2.2)), di_le (by omega) hD⟩ lcn_0 l5 l6 l7 l8⟩
  · refine Or.inr (Or.inl ⟨rfl, 1, rfl, ?_⟩)
    have h2 := ch_tk hC
    have h1q : M 1 = M 1 := rfl
    show WP 20 199 1191 [vR 1, vR x, vR m, vR u, vI i, l5, l6, l7, l8] [vI 1] (M, (tk (M, S)).2) Q
    refine a_order h2.1.1.2 h2.1.2.1 h2.1.2.2 hi ?_
    rw [h1q]
    refine r_order h2.1.1.2 h2.2.2.1 rfl hD.1 hB (fun y M3 fr3 hf3 o2 ho h4 h7 hd => ?_)
    rcases hd with ⟨h5, hn⟩ | ⟨h5, hn, b2, hb2⟩ | ⟨h5, hn, b2, c2, hb2, hc2, hr⟩
    · exact ⟨y, M3, rfl, rfl, (congrFun ho 5).trans h5, (fun h => absurd h (by decide)), fun l5 l6 => k M3 _ ⟨f, p, tx, t, sv, l, ch_ref G h2 (fun q hq => fr3 q (by omega) (by omega) (by omega) (by omega) (by omega) (by omega) (by omega) (by omega) (by omega)) hf3 ((fr3 _ (by omega) (by omega) (by omega) (by omega) (by omega) (by omega) (by omega) (by omega) (by omega)).trans h2.2.2.2.1) ((congrFun ho 4).trans (h4.trans h2.2.2.2.2.1)) ((fr3 _ (by omega) (by omega) (by omega) (by omega) (by omega) (by omega) (by omega) (by omega) (by omega)).trans h2.2.2.2.2.2.1) ((congrFun ho 7).trans (h7.trans h2.2.2.2.2.2.2)), di_le (by omega) hD⟩ lcn_1 l5 l6 l7 l8⟩
    · omega
    · omega
  · refine Or.inr (Or.inr (⟨rfl, 2, rfl, ?_⟩))
    have h2 := ch_tk (ch_ask G hC (fun q hq => fr q (by omega)) (CstR_fr (fun q a b => fr q (by omega)) hC.2.1.2.2.2.2.2.2))
    have h1q : M2 1 = M 1 := fr 1 (by omega)
    show WP 20 199 1191 [vR 1, vR x, vR m, vR u, vI i, l5, l6, l7, l8] [vI 2] (M2, (tk (M2, S)).2) Q
    refine a_order h2.1.1.2 h2.1.2.1 h2.1.2.2 hi ?_
    rw [h1q]
    refine r_order h2.1.1.2 h2.2.2.1 rfl hD.1 hB (fun y M3 fr3 hf3 o2 ho h4 h7 hd => ?_)
    rcases hd with ⟨h5, hn⟩ | ⟨h5, hn, b2, hb2⟩ | ⟨h5, hn, b2, c2, hb2, hc2, hr⟩
    · omega
    · exact ⟨y, M3, rfl, rfl, (congrFun ho 5).trans h5, (fun h => absurd h (by decide)), fun l5 l6 => k M3 _ ⟨f, p, tx, t, sv, l, ch_ref G h2 (fun q hq => fr3 q (by omega) (by omega) (by omega) (by omega) (by omega) (by omega) (by omega) (by omega) (by omega)) hf3 ((fr3 _ (by omega) (by omega) (by omega) (by omega) (by omega) (by omega) (by omega) (by omega) (by omega)).trans h2.2.2.2.1) ((congrFun ho 4).trans (h4.trans h2.2.2.2.2.1)) ((fr3 _ (by omega) (by omega) (by omega) (by omega) (by omega) (by omega) (by omega) (by omega) (by omega)).trans h2.2.2.2.2.2.1) ((congrFun ho 7).trans (h7.trans h2.2.2.2.2.2.2)), di_le (by omega) hD⟩ lcn_1 l5 l6 l7 l8⟩
    · exact absurd (bestO_u hb2 hb).1 hc2
theorem l_bestCut {B : Int} {M : Nat → Int → Int} {S : SD} {x m u L : Nat} {i : Int} {l5 l6 l7 l8 : V} {Q : Res → Wd → Prop} (G : Geo x m u) (hI : LawI B x m u L M S) (hB : 0 ≤ B ∧ B ≤ 1000000000 - 400) (hi : 0 ≤ i ∧ i + 3 < (L : Int) ∧ L ≤ 2048) (k : ∀ M2 S2, LawI (B + 84) x m u L M2 S2 → LCn S S2 → ∀ l5 l6 l7 l8, WP 20 199 1416 [vR 1, vR x, vR m, vR u, vI i, l5, l6, l7, l8] [] (M2, S2) Q) : WP 20 199 1249 [vR 1, vR x, vR m, vR u, vI i, l5, l6, l7, l8] [] (M, S) Q := by
  obtain ⟨f, p, tx, t, sv, l, hC, hD⟩ := hI
  refine h_bestCut hC.1.2.1 hi ?_
  show EvQ 9 197 [vR x, vI (M 1 (i + 1)), vI (M 1 (i + 2)), vR u] (M, S) _
  refine w_bestCut hC.1.1.1.1.1 ?_
  refine t_bestCut hC.1.1.1 hC.2.1.1 G.1 hD.1 hC.2.1.2.2.2.2.2.2 hB (fun v M2 fr hg hv hcs => ?_) (fun hg => ?_)
  · refine Or.inl ⟨_, rfl, hC.1.2.2, 0, rfl, ?_⟩
    have h2 := ch_out (u := u) G (ch_ask G hC (fun q hq => fr q (by omega)) hcs) (out_q (S2 := S) (a := v))
    have hv0 : (si (M2, S) u 0 v).1 u 0 = v := out_u
    have h1q : (si (M2, S) u 0 v).1 1 = M 1 := (out_q 1 (by omega)).trans (fr 1 (by omega))
    show WP 20 199 1266 [vR 1, vR x, vR m, vR u, vI i, l5, l6, l7, l8] [vI 0] ((si (M2, S) u 0 v).1, S) Q
    obtain ⟨Mw, hMw⟩ : ∃ z, z = (si (M2, S) u 0 v).1 := ⟨_, rfl⟩
    rw [← hMw] at h2 hv0 h1q ⊢
    refine a_bestCut h2.1.1.2 h2.1.2.1 h2.1.2.2 hi ?_
    rw [h1q]
    refine r_bestCut h2.1.1.2 h2.2.2.1 rfl hD.1 (by omega) (fun y M3 fr3 hf3 o2 ho h4 h7 hd => ?_)
    rcases hd with ⟨h5, hn⟩ | ⟨h5, hn, hr⟩
    · omega
    · exact ⟨y, M3, rfl, rfl, (congrFun ho 5).trans h5, (fun _ => (congrFun (fr3 u (by omega) (by omega) (by omega) (by omega) (by omega)) 0).trans (hv0.trans (partV_u hD.1 hB.1 hg.2 hv hr))), fun l5 l6 => k M3 _ ⟨f, p, tx, t, sv, l, ch_ref G h2 (fun q hq => fr3 q (by omega) (by omega) (by omega) (by omega) (by omega)) hf3 ((fr3 _ (by omega) (by omega) (by omega) (by omega) (by omega)).trans h2.2.2.2.1) ((congrFun ho 4).trans (h4.trans h2.2.2.2.2.1)) ((fr3 _ (by omega) (by omega) (by omega) (by omega) (by omega)).trans h2.2.2.2.2.2.1) ((congrFun ho 7).trans (h7.trans h2.2.2.2.2.2.2)), di_le (by omega) hD⟩ lcn_0 l5 l6 l7 l8⟩
  · refine Or.inr (⟨rfl, 1, rfl, ?_⟩)
    have h2 := ch_tk hC
    have h1q : M 1 = M 1 := rfl
    show WP 20 199 1266 [vR 1, vR x, vR m, vR u, vI i, l5, l6, l7, l8] [vI 1] (M, (tk (M, S)).2) Q
    refine a_bestCut h2.1.1.2 h2.1.2.1 h2.1.2.2 hi ?_
    rw [h1q]
    refine r_bestCut h2.1.1.2 h2.2.2.1 rfl hD.1 (by omega) (fun y M3 fr3 hf3 o2 ho h4 h7 hd => ?_)
    rcases hd with ⟨h5, hn⟩ | ⟨h5, hn, hr⟩
    · exact ⟨y, M3, rfl, rfl, (congrFun ho 5).trans h5, (fun h => absurd h (by decide)), fun l5 l6 => k M3 _ ⟨f, p, tx, t, sv, l, ch_ref G h2 (fun q hq => fr3 q (by omega) (by omega) (by omega) (by omega) (by omega)) hf3 ((fr3 _ (by omega) (by omega) (by omega) (by omega) (by omega)).trans h2.2.2.2.1) ((congrFun ho 4).trans (h4.trans h2.2.2.2.2.1)) ((fr3 _ (by omega) (by omega) (by omega) (by omega) (by omega)).trans h2.2.2.2.2.2.1) ((congrFun ho 7).trans (h7.trans h2.2.2.2.2.2.2)), di_le (by omega) hD⟩ lcn_1 l5 l6 l7 l8⟩
    · omega
