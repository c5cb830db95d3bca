/-! the law, case by case: the rest -/
theorem l_append {B : Int} {M : Nat → Int → Int} {S : SD} {x m u L : Nat} {i : Int} {l5 l6 l7 l8 : V} {Q : Res → Wd → Prop} (G : Geo x m u) (hI : LawI B x m u L M S) (hB : 0 ≤ B ∧ B ≤ 1000000000 - 400) (hi : 0 ≤ i ∧ i + 3 < (L : Int) ∧ L ≤ 2048) (k : ∀ M2 S2, LawI (B + 84) x m u L M2 S2 → LCn S S2 → ∀ l5 l6 l7 l8, WP 20 199 1416 [vR 1, vR x, vR m, vR u, vI i, l5, l6, l7, l8] [] (M2, S2) Q) : WP 20 199 152 [vR 1, vR x, vR m, vR u, vI i, l5, l6, l7, l8] [] (M, S) Q := by
  obtain ⟨f, p, tx, t, sv, l, hC, hD⟩ := hI
  refine h_append hC.1.2.1 hi ?_
  show EvQ 2 181 [vR x, vI (M 1 (i + 1)), vR u] (M, S) _
  refine w_append hC.1.1.1.1.1 ?_
  have hl1 : M x 1 = l := hC.2.1.2.2.2.1
  refine t_append (ox := M x) (tx := tx) hC.1.1.1 rfl hC.2.1.2.2.1 (by rw [hl1]; exact hD.2.2.2.1) (fun M2 fr hg hne hx htx => ?_) (fun hg => ?_) (fun hg he => ?_)
  · refine Or.inl ⟨_, rfl, hC.1.2.2, 0, rfl, ?_⟩
    have hv0 : (si (M2, S) u 0 (M x 1 + 1)).1 u 0 = (M x 1 + 1) := out_u
    have hqw : ∀ q, q ≠ u → (si (M2, S) u 0 (M x 1 + 1)).1 q = M2 q := out_q
    show WP 20 199 163 [vR 1, vR x, vR m, vR u, vI i, l5, l6, l7, l8] [vI 0] ((si (M2, S) u 0 (M x 1 + 1)).1, S) Q
    obtain ⟨Mw, hMw⟩ : ∃ z, z = (si (M2, S) u 0 (M x 1 + 1)).1 := ⟨_, rfl⟩
    rw [← hMw] at hv0 hqw ⊢
    clear hMw
    have hq9 : ∀ q, q ≠ x → q ≠ x + 1 → q ≠ u → Mw q = M q := fun q a b c => (hqw q c).trans (fr q a b)
    have h1q : Mw 1 = M 1 := hq9 1 (by omega) (by omega) (by omega)
    have hm0 : Mw m = M m := hq9 m (by omega) (by omega) (by omega)
    have hm1 : Mw (m + 1) = f := (hq9 _ (by omega) (by omega) (by omega)).trans hC.2.2.1
    have hm5 : Mw (m + 5) = t := (hq9 _ (by omega) (by omega) (by omega)).trans hC.2.2.2.2.2.1
    have hm7 : Mw m 7 = l := (congrFun hm0 7).trans hC.2.2.2.2.2.2
    have hx0 : Mw x = uf (M x) 1 (M x 1 + 1) := (hqw _ (by omega)).trans hx
    have hx1 : Mw (x + 1) = uf tx (M x 1) (M 1 (i + 1)) := (hqw _ (by omega)).trans htx
    refine a_append hC.1.1.2 hC.1.2.1 hC.1.2.2 hi ?_
    rw [h1q]
    refine r_append hC.1.1.2 hm1 rfl hm5 (by rw [hm7]; exact hD.2.2.2.1) (fun y M3 fr3 o2 ho h4 hd => ?_)
    rcases hd with ⟨h5, hn, -⟩ | ⟨h5, hn, he, -⟩ | ⟨h5, hn, hne2, h7, hr, ht3⟩
    · exact absurd hg hn
    · exact absurd (by rw [hl1, ← hm7]; exact he) hne
    · have hq3 : ∀ q, q < m → q ≠ x → q ≠ x + 1 → M3 q = M q := fun q a b c => (fr3 q (by omega) (by omega)).trans (hq9 q b c (by omega))
      rw [hm7] at ht3 h7 hr
      rw [hl1] at hx1 hx0 hv0
      refine ⟨y, M3, rfl, rfl, (congrFun ho 5).trans h5, fun _ => (congrFun (fr3 u (by omega) (by omega)) 0).trans (hv0.trans hr.symm), fun l5 l6 => k M3 S ⟨f, p, uf tx l (M 1 (i + 1)), uf t l (M 1 (i + 1)), sv, l + 1, ⟨hC.1, ⟨AskR_fr (fun q a b c => hq3 q (by omega) (by omega) (by omega)) hC.2.1.1, HisF_fr hC.1.1.1.2.2.2.1 (fun q a b => hq3 q (by omega) (by omega) (by omega)) hC.2.1.2.1, (fr3 _ (by omega) (by omega)).trans hx1, (congrFun ((fr3 _ (by omega) (by omega)).trans hx0) 1).trans (uf_eq _ _ _), CstR_fr (fun q a b => hq3 q (by omega) (by omega) (by omega)) hC.2.1.2.2.2.2.1, InkZ_fr (fun q a b => hq3 q (by omega) (by omega) (by omega)) hC.2.1.2.2.2.2.2.1, CstR_fr (fun q a b => hq3 q (by omega) (by omega) (by omega)) hC.2.1.2.2.2.2.2.2⟩, (fr3 _ (by omega) (by omega)).trans hm1, ((fr3 _ (by omega) (by omega)).trans (hq9 _ (by omega) (by omega) (by omega))).trans hC.2.2.2.1, (congrFun ho 4).trans (h4.trans ((congrFun hm0 4).trans hC.2.2.2.2.1)), ht3, (congrFun ho 7).trans h7⟩, ?_⟩ lcn_0 l5 l6 l7 l8⟩
      obtain ⟨d1, d2, d3, d4, d5⟩ := hD
      refine ⟨row_le (by omega) d1, d2, fun j a b => row_le (by omega) (d3 j a b), ⟨by omega, by omega⟩, fun k9 a b => ?_⟩
      by_cases hk : k9 = l
      · rw [hk, uf_eq, uf_eq]; exact ⟨rfl, hg⟩
      · rw [uf_ne hk, uf_ne hk]; exact d5 k9 a (by omega)
  · refine Or.inr (Or.inl ⟨rfl, 1, rfl, ?_⟩)
    have h2 := ch_tk hC
    show WP 20 199 163 [vR 1, vR x, vR m, vR u, vI i, l5, l6, l7, l8] [vI 1] (M, (tk (M, S)).2) Q
    refine a_append h2.1.1.2 h2.1.2.1 h2.1.2.2 hi ?_
    have hm7 : M m 7 = l := h2.2.2.2.2.2.2
    refine r_append h2.1.1.2 h2.2.2.1 rfl h2.2.2.2.2.2.1 (by rw [hm7]; exact hD.2.2.2.1) (fun y M3 fr3 o2 ho h4 hd => ?_)
    rcases hd with ⟨h5, hn, h7, ht3⟩ | ⟨h5, hn, he2, h7, ht3⟩ | ⟨h5, hn, hne2, h7, hr, ht3⟩
    · exact ⟨y, M3, rfl, rfl, (congrFun ho 5).trans h5, (fun h => absurd h (by decide)), fun l5 l6 => k M3 _ ⟨f, p, tx, t, sv, l, ch_ref G h2 (fun q hq => fr3 q (by omega) (by omega)) ((fr3 _ (by omega) (by omega)).trans h2.2.2.1) ((fr3 _ (by omega) (by omega)).trans h2.2.2.2.1) ((congrFun ho 4).trans (h4.trans h2.2.2.2.2.1)) ht3 ((congrFun ho 7).trans (h7.trans h2.2.2.2.2.2.2)), di_le (by omega) hD⟩ lcn_1 l5 l6 l7 l8⟩
    · omega
    · omega
  · refine Or.inr (Or.inr ⟨rfl, 2, rfl, ?_⟩)
    have h2 := ch_tk hC
    show WP 20 199 163 [vR 1, vR x, vR m, vR u, vI i, l5, l6, l7, l8] [vI 2] (M, (tk (M, S)).2) Q
    refine a_append h2.1.1.2 h2.1.2.1 h2.1.2.2 hi ?_
    have hm7 : M m 7 = l := h2.2.2.2.2.2.2
    refine r_append h2.1.1.2 h2.2.2.1 rfl h2.2.2.2.2.2.1 (by rw [hm7]; exact hD.2.2.2.1) (fun y M3 fr3 o2 ho h4 hd => ?_)
    rcases hd with ⟨h5, hn, h7, ht3⟩ | ⟨h5, hn, he2, h7, ht3⟩ | ⟨h5, hn, hne2, h7, hr, ht3⟩
    · omega
    · exact ⟨y, M3, rfl, rfl, (congrFun ho 5).trans h5, (fun h => absurd h (by decide)), fun l5 l6 => k M3 _ ⟨f, p, tx, t, sv, l, ch_ref G h2 (fun q hq => fr3 q (by omega) (by omega)) ((fr3 _ (by omega) (by omega)).trans h2.2.2.1) ((fr3 _ (by omega) (by omega)).trans h2.2.2.2.1) ((congrFun ho 4).trans (h4.trans h2.2.2.2.2.1)) ht3 ((congrFun ho 7).trans (h7.trans h2.2.2.2.2.2.2)), di_le (by omega) hD⟩ lcn_1 l5 l6 l7 l8⟩
    · exact absurd (by rw [hm7, ← hl1]; exact he) hne2
theorem l_undo {B : Int} {M : Nat → Int → Int} {S : SD} {x m u L : Nat} {i : Int} {l5 l6 l7 l8 : V} {Q : Res → Wd → Prop} (G : Geo x m u) (hI : LawI B x m u L M S) (hB : 0 ≤ B ∧ B ≤ 1000000000 - 400) (hi : 0 ≤ i ∧ i + 3 < (L : Int) ∧ L ≤ 2048) (k : ∀ M2 S2, LawI (B + 84) x m u L M2 S2 → LCn S S2 → ∀ l5 l6 l7 l8, WP 20 199 1416 [vR 1, vR x, vR m, vR u, vI i, l5, l6, l7, l8] [] (M2, S2) Q) : WP 20 199 1358 [vR 1, vR x, vR m, vR u, vI i, l5, l6, l7, l8] [] (M, S) Q := by
  obtain ⟨f, p, tx, t, sv, l, hC, hD⟩ := hI
  refine h_undo hC.1.2.1 hi ?_
  show EvQ 8 198 [vR x, vR u] (M, S) _
  refine w_undo hC.1.1.1.1.1 ?_
  by_cases hs : sv = 0
  · have hH : HisF M S (x + 26) (fun k => f (k + 195)) 0 := ⟨by have h := hC.2.1.2.1.1; rw [hs] at h; exact h, hC.2.1.2.1.2.1, fun j a b => absurd b (by omega)⟩
    refine t_undo (g := f) (f := f) (sv := 0) hC.1.1.1 hC.2.1.1 G.1 hD.1 hH (fun q a b => by show f q = f (195 * (0 - 1) + q + 195); congr 1; omega) (fun M2 fr hA2 hH2 h0 => absurd h0 (by omega)) (fun _ => ?_)
    refine Or.inr ⟨rfl, 1, rfl, ?_⟩
    have h2 := ch_tk hC
    show WP 20 199 1363 [vR 1, vR x, vR m, vR u, vI i, l5, l6, l7, l8] [vI 1] (M, (tk (M, S)).2) Q
    refine a_undo h2.1.1.2 h2.1.2.1 h2.1.2.2 hi ?_
    have hm4 : M m 4 = sv := h2.2.2.2.2.1
    refine r_undo h2.1.1.2 h2.2.2.1 rfl h2.2.2.2.1 (by rw [hm4]; exact hD.2.1) (fun y M3 fr3 o2 ho h7 hd => ?_)
    rcases hd with ⟨h5, hn, h4, hg3⟩ | ⟨h5, hn, -⟩
    · exact ⟨y, M3, rfl, rfl, (congrFun ho 5).trans h5, (fun h => absurd h (by decide)), fun l5 l6 => k M3 _ ⟨f, p, tx, t, sv, l, ch_ref G h2 (fun q hq => fr3 q (by omega) (by omega)) hg3 ((fr3 _ (by omega) (by omega)).trans h2.2.2.2.1) ((congrFun ho 4).trans (h4.trans h2.2.2.2.2.1)) ((fr3 _ (by omega) (by omega)).trans h2.2.2.2.2.2.1) ((congrFun ho 7).trans (h7.trans h2.2.2.2.2.2.2)), di_le (by omega) hD⟩ lcn_1 l5 l6 l7 l8⟩
    · rw [hm4] at hn; omega
  · have hs0 : 0 < sv := by have := hD.2.1.1; omega
    have hRg : RowOk B (rcp p (195 * (sv - 1)) f 0 195) := RowOk_c (fun q a b => und_row q a b) (hD.2.2.1 (sv - 1) (by omega) (by omega))
    refine t_undo (g := rcp p (195 * (sv - 1)) f 0 195) (f := f) (sv := sv) hC.1.1.1 hC.2.1.1 G.1 hRg hC.2.1.2.1 (fun q a b => und_row q a b) (fun M2 fr hA2 hH2 _ => ?_) (fun h => absurd h hs)
    refine Or.inl ⟨_, rfl, hC.1.2.2, 0, rfl, ?_⟩
    have hv0 : (si (M2, S) u 0 (sv - 1)).1 u 0 = (sv - 1) := out_u
    have hqw : ∀ q, q ≠ u → (si (M2, S) u 0 (sv - 1)).1 q = M2 q := out_q
    show WP 20 199 1363 [vR 1, vR x, vR m, vR u, vI i, l5, l6, l7, l8] [vI 0] ((si (M2, S) u 0 (sv - 1)).1, S) Q
    obtain ⟨Mw, hMw⟩ : ∃ z, z = (si (M2, S) u 0 (sv - 1)).1 := ⟨_, rfl⟩
    rw [← hMw] at hv0 hqw ⊢
    clear hMw
    have hq9 : ∀ q, q < x + 2 ∨ (x + 14 ≤ q ∧ q < x + 26) ∨ (x + 86 ≤ q ∧ q < u) → Mw q = M q := fun q a => (hqw q (by omega)).trans (fr q (by omega) (by omega))
    have hm0 : Mw m = M m := hq9 m (by omega)
    have hm4 : Mw m 4 = sv := (congrFun hm0 4).trans hC.2.2.2.2.1
    refine a_undo hC.1.1.2 hC.1.2.1 hC.1.2.2 hi ?_
    refine r_undo hC.1.1.2 ((hq9 (m + 1) (by omega)).trans hC.2.2.1) rfl ((hq9 (m + 2) (by omega)).trans hC.2.2.2.1) (by rw [hm4]; exact hD.2.1) (fun y M3 fr3 o2 ho h7 hd => ?_)
    rcases hd with ⟨h5, hn, -⟩ | ⟨h5, hn, h4, hr, hg3⟩
    · rw [hm4] at hn; omega
    · rw [hm4] at h4 hr hg3
      have hq3 : ∀ q, q < x + 2 ∨ (x + 14 ≤ q ∧ q < x + 26) ∨ (x + 86 ≤ q ∧ q < m) → M3 q = M q := fun q a => (fr3 q (by omega) (by omega)).trans (hq9 q (by omega))
      have hq2 : ∀ q, q < m → M3 q = M2 q := fun q a => (fr3 q (by omega) (by omega)).trans (hqw q (by omega))
      refine ⟨y, M3, rfl, rfl, (congrFun ho 5).trans h5, fun _ => (congrFun (fr3 u (by omega) (by omega)) 0).trans (hv0.trans hr.symm), fun l5 l6 => k M3 S ⟨_, p, tx, t, sv - 1, l, ⟨hC.1, ⟨AskR_fr (fun q a b c => hq2 q (by omega)) hA2, HisF_fr hC.1.1.1.2.2.2.1 (fun q a b => hq2 q (by omega)) hH2, (hq3 _ (by omega)).trans hC.2.1.2.2.1, (congrFun (hq3 x (by omega)) 1).trans hC.2.1.2.2.2.1, CstR_fr (fun q a b => hq3 q (by omega)) hC.2.1.2.2.2.2.1, InkZ_fr (fun q a b => hq3 q (by omega)) hC.2.1.2.2.2.2.2.1, CstR_fr (fun q a b => hq3 q (by omega)) hC.2.1.2.2.2.2.2.2⟩, hg3, (fr3 _ (by omega) (by omega)).trans ((hq9 _ (by omega)).trans hC.2.2.2.1), (congrFun ho 4).trans h4, (fr3 _ (by omega) (by omega)).trans ((hq9 _ (by omega)).trans hC.2.2.2.2.2.1), (congrFun ho 7).trans (h7.trans ((congrFun hm0 7).trans hC.2.2.2.2.2.2))⟩, ⟨row_le (by omega) hRg, ⟨by omega, by have := hD.2.1.2; omega⟩, fun j a b => row_le (by omega) (hD.2.2.1 j a (by omega)), hD.2.2.2⟩⟩ lcn_0 l5 l6 l7 l8⟩
