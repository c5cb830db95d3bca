theorem l_clearText {B : Int} {M : Nat → Int → Int} {S : SD} {x m u L : Nat} {i : Int} {l5 l6 l7 l8 : V} {Q : Res → Wd → Prop} (G : Geo x m u) (hI : LawI B x m u L M S) (hB : 0 ≤ B ∧ B ≤ 1000000000 - 400) (hi : 0 ≤ i ∧ i + 3 < (L : Int) ∧ L ≤ 2048) (k : ∀ M2 S2, LawI (B + 84) x m u L M2 S2 → LCn S S2 → ∀ l5 l6 l7 l8, WP 20 199 1416 [vR 1, vR x, vR m, vR u, vI i, l5, l6, l7, l8] [] (M2, S2) Q) : WP 20 199 208 [vR 1, vR x, vR m, vR u, vI i, l5, l6, l7, l8] [] (M, S) Q := by
  obtain ⟨f, p, tx, t, sv, l, hC, hD⟩ := hI
  refine b_clearText (L := L) hC.1.1.1.1.1 ?_
  refine t_clearText hC.1.1.1 rfl (fun M2 fr hx => ⟨_, rfl, hC.1.1.2.1.1, ?_⟩)
  have hm0 : M2 m = M m := fr m (by omega)
  refine r_clearText hC.1.1.2 rfl (fun y M3 fr3 o2 ho h4 h5 h7 hr => ?_)
  have hq3 : ∀ q, q ≠ x → q ≠ m → M3 q = M q := fun q a b => (fr3 q b).trans (fr q a)
  refine ⟨congrArg (fun z => ((0, vI z) : Res)) (by rw [hr, hm0, hC.2.1.2.2.2.1, hC.2.2.2.2.2.2]), k M3 _ ⟨f, p, tx, t, sv, 0, ⟨hC.1, ⟨AskR_fr (fun q a b c => hq3 q (by omega) (by omega)) hC.2.1.1, HisF_fr hC.1.1.1.2.2.2.1 (fun q a b => hq3 q (by omega) (by omega)) hC.2.1.2.1, (hq3 _ (by omega) (by omega)).trans hC.2.1.2.2.1, (congrFun ((fr3 _ (by omega)).trans hx) 1).trans (uf_eq _ _ _), CstR_fr (fun q a b => hq3 q (by omega) (by omega)) hC.2.1.2.2.2.2.1, InkZ_fr (fun q a b => hq3 q (by omega) (by omega)) hC.2.1.2.2.2.2.2.1, CstR_fr (fun q a b => hq3 q (by omega) (by omega)) hC.2.1.2.2.2.2.2.2⟩, (hq3 _ (by omega) (by omega)).trans hC.2.2.1, (hq3 _ (by omega) (by omega)).trans hC.2.2.2.1, (congrFun ho 4).trans (h4.trans ((congrFun hm0 4).trans hC.2.2.2.2.1)), (hq3 _ (by omega) (by omega)).trans hC.2.2.2.2.2.1, (congrFun ho 7).trans h7⟩, ⟨row_le (by omega) hD.1, hD.2.1, fun j a b => row_le (by omega) (hD.2.2.1 j a b), ⟨by omega, by omega⟩, fun k9 a b => absurd b (by omega)⟩⟩ lcn_0 l5 l6 l7 l8⟩
theorem l_writeAll {B : Int} {M : Nat → Int → Int} {S : SD} {x m u L : Nat} {i : Int} {l5 l6 l7 l8 : V} {Q : Res → Wd → Prop} (G : Geo x m u) (hI : LawI B x m u L M S) (hB : 0 ≤ B ∧ B ≤ 1000000000 - 400) (hi : 0 ≤ i ∧ i + 3 < (L : Int) ∧ L ≤ 2048) (k : ∀ M2 S2, LawI (B + 84) x m u L M2 S2 → LCn S S2 → ∀ l5 l6 l7 l8, WP 20 199 1416 [vR 1, vR x, vR m, vR u, vI i, l5, l6, l7, l8] [] (M2, S2) Q) : WP 20 199 1098 [vR 1, vR x, vR m, vR u, vI i, l5, l6, l7, l8] [] (M, S) Q := by
  obtain ⟨f, p, tx, t, sv, l, hC, hD⟩ := hI
  refine b_writeAll (L := L) hC.1.1.1.1.1 ?_
  refine t_writeAll hC.1.1.1 hC.2.1.1 G.1 hD.1 hC.2.1.2.1 hB (fun v M2 R2 fr hRo hX2 hA2 hN hv => ⟨_, rfl, hC.1.1.2.1.1, ?_⟩)
  have hq9 : ∀ q, q < x + 2 ∨ (x + 14 ≤ q ∧ q < x + 15) ∨ (x + 22 ≤ q ∧ q < x + 26) ∨ (x + 86 ≤ q ∧ q < u) → M2 q = M q := fun q a => fr q (by omega) (by omega)
  have hm0 : M2 m = M m := hq9 m (by omega)
  have hm1 : M2 (m + 1) = f := (hq9 _ (by omega)).trans hC.2.2.1
  have hm2 : M2 (m + 2) = p := (hq9 _ (by omega)).trans hC.2.2.2.1
  have hm5 : M2 (m + 5) = t := (hq9 _ (by omega)).trans hC.2.2.2.2.2.1
  have hm4 : M2 m 4 = sv := (congrFun hm0 4).trans hC.2.2.2.2.1
  have hm7 : M2 m 7 = l := (congrFun hm0 7).trans hC.2.2.2.2.2.2
  have hc14 : CstR M2 (x + 14) := CstR_fr (fun q a b => fr q (by omega) (by omega)) hC.2.1.2.2.2.2.1
  refine r_writeAll (S := (R2, S.2)) (mod_s (fun i => hRo m i (by omega)) hC.1.1.2) hm1 rfl hm2 (by rw [hm4]; exact hD.2.1) hD.1 hB (fun y M3 fr3 o2 ho h7 h5 hr hg3 p2 hp2 hsp => ?_)
  rw [hm4] at hsp
  have h17 : f 1 ≤ 7 := by have := hD.1.2.1.1.2; omega
  have h10 : 0 ≤ f 1 := hD.1.2.1.1.1
  have hrow : RowOk (B + 84) (wall f (f 1)) := row_le (by omega) (wall_row hD.1 hB.1 (f 1) h10 (Int.le_refl _)).1
  exact ⟨congrArg (fun z => ((0, vI z) : Res)) (by rw [hr, hv]), k M3 _ ⟨_, p2, tx, t, o2 4, l, ch_chg (M2 := M2) G hC hq9 hc14 hRo hX2 hA2 hN (fun q hq => fr3 q (by omega) (by omega) (by omega) (by omega) (by omega)) hg3 hp2 (congrFun ho 4) hsp ((fr3 _ (by omega) (by omega) (by omega) (by omega) (by omega)).trans hm5) ((congrFun ho 7).trans (h7.trans hm7)), saved_di hD hsp hrow (by omega)⟩ lcn_0 l5 l6 l7 l8⟩
theorem ps_c {t t' g : Int → Int} : ∀ n : Nat, (∀ k : Int, 0 ≤ k → k < n → t k = t' k) → psN t g n = psN t' g n
  | 0, _ => rfl
  | n + 1, h => by
    have h1 := ps_c (g := g) n (fun k a b => h k a (by omega))
    have h2 : t n = t' n := h n (by omega) (by omega)
    unfold psN
    rw [h1, h2]
theorem ps_c2 {t t' g : Int → Int} {len i : Int} (h : ∀ k, 0 ≤ k → k < len → t k = t' k) (hi : i ≤ len) (h0 : 0 ≤ len) : ps t g i = ps t' g i := ps_c _ (fun k a b => h k a (by omega))
theorem err_c {t t' g : Int → Int} {len e : Int} (h : ∀ k, 0 ≤ k → k < len → t k = t' k) (h0 : 0 ≤ len) (he : Err t len g e) : Err t' len g e := by
  obtain ⟨h1, h2⟩ := he
  refine ⟨h1, ?_⟩
  rcases h2 with ⟨a, st, q, b, c⟩ | ⟨a, ⟨z, b⟩, c⟩
  · exact Or.inl ⟨a, st, q, by rw [← ps_c2 h h1.2 h0]; exact b, c⟩
  · exact Or.inr ⟨a, ⟨z, by rw [← ps_c2 h h1.2 h0]; exact b⟩, by rw [← ps_c2 h (by omega) h0]; exact c⟩
theorem l_parse {B : Int} {M : Nat → Int → Int} {S : SD} {x m u L : Nat} {i : Int} {l5 l6 l7 l8 : V} {Q : Res → Wd → Prop} (G : Geo x m u) (hI : LawI B x m u L M S) (hB : 0 ≤ B ∧ B ≤ 1000000000 - 400) (hi : 0 ≤ i ∧ i + 3 < (L : Int) ∧ L ≤ 2048) (k : ∀ M2 S2, LawI (B + 84) x m u L M2 S2 → LCn S S2 → ∀ l5 l6 l7 l8, WP 20 199 1416 [vR 1, vR x, vR m, vR u, vI i, l5, l6, l7, l8] [] (M2, S2) Q) : WP 20 199 221 [vR 1, vR x, vR m, vR u, vI i, l5, l6, l7, l8] [] (M, S) Q := by
  obtain ⟨f, p, tx, t, sv, l, hC, hD⟩ := hI
  have hl1 : M x 1 = l := hC.2.1.2.2.2.1
  have htt : ∀ k, 0 ≤ k → k < l → tx k = t k := fun k a b => (hD.2.2.2.2 k a b).1
  refine b_parse (L := L) hC.1.1.1.1.1 ?_
  refine t_parse (ox := M x) (tx := tx) hC.1.1.1 hC.2.1.1 G.1 hD.1 hC.2.1.2.1 rfl hC.2.1.2.2.1 (by rw [hl1]; exact hD.2.2.2.1) (fun k a b => by have h := hD.2.2.2.2 k a (by omega); omega) hC.2.1.2.2.2.2.1 hC.2.1.2.2.2.2.2.1 hB (fun g M2 R2 fr hRo hX2 hA2 hN hps hc14 => ⟨_, rfl, hC.1.1.2.1.1, ?_⟩) (fun e M2 fr he hA2 hH2 hc14 => ⟨_, rfl, hC.1.1.2.1.1, ?_⟩)
  · have hq9 : ∀ q, q < x + 2 ∨ (x + 14 ≤ q ∧ q < x + 15) ∨ (x + 22 ≤ q ∧ q < x + 26) ∨ (x + 86 ≤ q ∧ q < u) → M2 q = M q := fun q a => fr q (by omega) (by omega) (by omega)
    have hm0 : M2 m = M m := hq9 m (by omega)
    have hm1 : M2 (m + 1) = f := (hq9 _ (by omega)).trans hC.2.2.1
    have hm2 : M2 (m + 2) = p := (hq9 _ (by omega)).trans hC.2.2.2.1
    have hm5 : M2 (m + 5) = t := (hq9 _ (by omega)).trans hC.2.2.2.2.2.1
    have hm4 : M2 m 4 = sv := (congrFun hm0 4).trans hC.2.2.2.2.1
    have hm7 : M2 m 7 = l := (congrFun hm0 7).trans hC.2.2.2.2.2.2
    rw [hl1, ps_c2 htt (Int.le_refl _) hD.2.2.2.1.1] at hps
    refine r_parse (S := (R2, S.2)) (mod_s (fun i => hRo m i (by omega)) hC.1.1.2) hm1 rfl hm2 (by rw [hm4]; exact hD.2.1) hm5 (by rw [hm7]; exact hD.2.2.2.1) hD.1 (fun y M3 fr3 o2 ho h7 h5 hd => ?_)
    rw [hm7] at hd
    rcases hd with ⟨e, he, -⟩ | ⟨g2, hps2, hr, hg3, p2, hp2, hsp⟩
    · exact (err_ok he hps).elim
    · have hgg : g = g2 := by rw [hps] at hps2; exact congrArg Prod.snd (Option.some.inj hps2)
      rw [← hgg] at hg3 hr
      rw [hm4] at hsp
      have hrow : RowOk (B + 84) g := row_le (by omega) (pw_row hB.1 (pw_i hps) hD.1)
      exact ⟨congrArg (fun z => ((0, vI z) : Res)) hr, k M3 _ ⟨_, p2, tx, t, o2 4, l, ch_chg (M2 := M2) G hC hq9 hc14 hRo hX2 hA2 hN (fun q hq => fr3 q (by omega) (by omega) (by omega) (by omega) (by omega)) hg3 hp2 (congrFun ho 4) hsp ((fr3 _ (by omega) (by omega) (by omega) (by omega) (by omega)).trans hm5) ((congrFun ho 7).trans (h7.trans hm7)), saved_di hD hsp hrow (by omega)⟩ lcn_0 l5 l6 l7 l8⟩
  · have hq9 : ∀ q, q < x + 2 ∨ (x + 14 ≤ q ∧ q < x + 15) ∨ (x + 22 ≤ q ∧ q < x + 26) ∨ (x + 86 ≤ q ∧ q < u) → M2 q = M q := fun q a => fr q (by omega) (by omega) (by omega)
    have hm0 : M2 m = M m := hq9 m (by omega)
    have hm1 : M2 (m + 1) = f := (hq9 _ (by omega)).trans hC.2.2.1
    have hm2 : M2 (m + 2) = p := (hq9 _ (by omega)).trans hC.2.2.2.1
    have hm5 : M2 (m + 5) = t := (hq9 _ (by omega)).trans hC.2.2.2.2.2.1
    have hm4 : M2 m 4 = sv := (congrFun hm0 4).trans hC.2.2.2.2.1
    have hm7 : M2 m 7 = l := (congrFun hm0 7).trans hC.2.2.2.2.2.2
    rw [hl1] at he
    have he := err_c htt hD.2.2.2.1.1 he
    have h2 : CH x m u L M2 S f p tx t sv l := ⟨hC.1, ⟨hA2, hH2, (hq9 _ (by omega)).trans hC.2.1.2.2.1, (congrFun (hq9 x (by omega)) 1).trans hl1, hc14, InkZ_fr (fun q a b => hq9 q (by omega)) hC.2.1.2.2.2.2.2.1, CstR_fr (fun q a b => hq9 q (by omega)) hC.2.1.2.2.2.2.2.2⟩, hm1, hm2, hm4, hm5, hm7⟩
    refine r_parse hC.1.1.2 hm1 rfl hm2 (by rw [hm4]; exact hD.2.1) hm5 (by rw [hm7]; exact hD.2.2.2.1) hD.1 (fun y M3 fr3 o2 ho h7 h5 hd => ?_)
    rw [hm7] at hd
    rcases hd with ⟨e2, he2, hr, hg3, hp3, h4⟩ | ⟨g2, hps2, -⟩
    · have hee := err_u he he2
      exact ⟨congrArg (fun z => ((0, vI z) : Res)) (by rw [hr, hee]), k M3 _ ⟨f, p, tx, t, sv, l, ch_ref G h2 (fun q hq => fr3 q (by omega) (by omega) (by omega) (by omega) (by omega)) hg3 hp3 ((congrFun ho 4).trans (h4.trans hm4)) ((fr3 _ (by omega) (by omega) (by omega) (by omega) (by omega)).trans hm5) ((congrFun ho 7).trans (h7.trans hm7)), di_le (by omega) hD⟩ lcn_0 l5 l6 l7 l8⟩
    · exact (err_ok he hps2).elim
theorem l_lettersPerPress {B : Int} {M : Nat → Int → Int} {S : SD} {x m u L : Nat} {i : Int} {l5 l6 l7 l8 : V} {Q : Res → Wd → Prop} (G : Geo x m u) (hI : LawI B x m u L M S) (hB : 0 ≤ B ∧ B ≤ 1000000000 - 400) (hi : 0 ≤ i ∧ i + 3 < (L : Int) ∧ L ≤ 2048) (k : ∀ M2 S2, LawI (B + 84) x m u L M2 S2 → LCn S S2 → ∀ l5 l6 l7 l8, WP 20 199 1416 [vR 1, vR x, vR m, vR u, vI i, l5, l6, l7, l8] [] (M2, S2) Q) : WP 20 199 1317 [vR 1, vR x, vR m, vR u, vI i, l5, l6, l7, l8] [] (M, S) Q := by
  obtain ⟨f, p, tx, t, sv, l, hC, hD⟩ := hI
  refine WP.blk 1 ?_
  show WP 20 199 1318 [vR 1, vR x, vR m, vR u, vI i, l5, l6, l7, l8] [vR x] (M, S) Q
  refine WP.cl (a := [vR x]) (rest := []) rfl rfl rfl rfl ⟨hC.1.1.1.1.1, trivial⟩ (by decide) (t_lettersPerPress hC.1.1.1 hC.2.1.1 G.1 hD.1 (fun v M2 fr hv => ⟨rfl, ?_⟩))
  subst hv
  have h2 := ch_ask G hC (fun q hq => fr q (by omega)) (CstR_fr (fun q a b => fr q (by omega)) hC.2.1.2.2.2.2.2.2)
  show WP 20 199 1321 [vR 1, vR x, vR m, vR u, vI i, l5, l6, l7, l8] [vD (lpp f)] (M2, S) Q
  refine WP.blk 1 ?_
  show WP 20 199 1323 [vR 1, vR x, vR m, vR u, vI i, vD (lpp f), none, l7, l8] [] (M2, S) Q
  refine WP.blk 1 ?_
  show WP 20 199 1324 [vR 1, vR x, vR m, vR u, vI i, vD (lpp f), none, l7, l8] [vR m] (M2, S) Q
  refine WP.cl (a := [vR m]) (rest := []) rfl rfl rfl rfl ⟨hC.1.1.2.1.1, trivial⟩ (by decide) (r_lettersPerPress h2.1.1.2 h2.2.2.1 rfl hD.1 (fun v M3 fr3 o2 ho h4 h7 h5 hv => ⟨rfl, ?_⟩))
  subst hv
  show WP 20 199 1327 [vR 1, vR x, vR m, vR u, vI i, vD (lpp f), none, l7, l8] [vD (lpp f)] (M3, S) Q
  refine WP.blk 1 ?_
  show WP 20 199 1329 [vR 1, vR x, vR m, vR u, vI i, vD (lpp f), none, vD (lpp f), none] [] (M3, S) Q
  refine WP.blk 1 ?_
  show WP 20 199 1331 [vR 1, vR x, vR m, vR u, vI i, vD (lpp f), none, vD (lpp f), none] [vD (lpp f)] (M3, S) Q
  refine WP.blk 1 ?_
  show WP 20 199 1333 [vR 1, vR x, vR m, vR u, vI i, vD (lpp f), none, vD (lpp f), none] [vD (lpp f), vD (lpp f)] (M3, S) Q
  refine WP.blk 1 ?_
  show WP 20 199 1334 [vR 1, vR x, vR m, vR u, vI i, vD (lpp f), none, vD (lpp f), none] [vI (dC (lpp f) (lpp f) .l)] (M3, S) Q
  have hk : WP 20 199 1416 [vR 1, vR x, vR m, vR u, vI i, vD (lpp f), none, vD (lpp f), none] [] (M3, S) Q := k M3 _ ⟨f, p, tx, t, sv, l, ch_ref G h2 (fun q hq => fr3 q (by omega) (by omega)) ((fr3 _ (by omega) (by omega)).trans h2.2.2.1) ((fr3 _ (by omega) (by omega)).trans h2.2.2.2.1) ((congrFun ho 4).trans (h4.trans h2.2.2.2.2.1)) ((fr3 _ (by omega) (by omega)).trans h2.2.2.2.2.2.1) ((congrFun ho 7).trans (h7.trans h2.2.2.2.2.2.2)), di_le (by omega) hD⟩ lcn_0 _ _ _ _
  have hg : ∀ pc, pc = 1355 → WP 20 199 pc [vR 1, vR x, vR m, vR u, vI i, vD (lpp f), none, vD (lpp f), none] [] (M3, S) Q := fun pc h => by
    rw [h]
    refine WP.blk 1 ?_
    exact hk
  refine WP.blk 1 ?_
  show WP 20 199 (if cnd .eq (dC (lpp f) (lpp f) .l) 0 = true then 1355 else 1337) [vR 1, vR x, vR m, vR u, vI i, vD (lpp f), none, vD (lpp f), none] [] (M3, S) Q
  refine br_eq (fun _ => hg _ rfl) (fun hne => ?_)
  refine WP.blk 1 ?_
  show WP 20 199 1339 [vR 1, vR x, vR m, vR u, vI i, vD (lpp f), none, vD (lpp f), none] [vD (lpp f)] (M3, S) Q
  refine WP.blk 1 ?_
  show WP 20 199 1341 [vR 1, vR x, vR m, vR u, vI i, vD (lpp f), none, vD (lpp f), none] [vD (lpp f), vD (lpp f)] (M3, S) Q
  refine WP.blk 1 ?_
  show WP 20 199 1342 [vR 1, vR x, vR m, vR u, vI i, vD (lpp f), none, vD (lpp f), none] [vI (dC (lpp f) (lpp f) .l)] (M3, S) Q
  refine WP.blk 1 ?_
  show WP 20 199 (if cnd .eq (dC (lpp f) (lpp f) .l) 0 = true then 1353 else 1345) [vR 1, vR x, vR m, vR u, vI i, vD (lpp f), none, vD (lpp f), none] [] (M3, S) Q
  refine br_eq (fun h => absurd h hne) (fun _ => ?_)
  refine WP.blk 1 ?_
  show WP 20 199 1347 [vR 1, vR x, vR m, vR u, vI i, vD (lpp f), none, vD (lpp f), none] [vD (lpp f)] (M3, S) Q
  refine WP.blk 1 ?_
  show WP 20 199 1349 [vR 1, vR x, vR m, vR u, vI i, vD (lpp f), none, vD (lpp f), none] [vD (lpp f), vD (lpp f)] (M3, S) Q
  refine WP.blk 1 ?_
  show WP 20 199 1350 [vR 1, vR x, vR m, vR u, vI i, vD (lpp f), none, vD (lpp f), none] [vI (dC (lpp f) (lpp f) .l)] (M3, S) Q
  refine WP.blk 1 ?_
  show WP 20 199 (if cnd .ne (dC (lpp f) (lpp f) .l) 0 = true then 1355 else 1353) [vR 1, vR x, vR m, vR u, vI i, vD (lpp f), none, vD (lpp f), none] [] (M3, S) Q
  exact br_ne (fun _ => hg _ rfl) (fun h => absurd h hne)
theorem l_fewest {B : Int} {M : Nat → Int → Int} {S : SD} {x m u L : Nat} {i : Int} {l5 l6 l7 l8 : V} {Q : Res → Wd → Prop} (G : Geo x m u) (hI : LawI B x m u L M S) (hB : 0 ≤ B ∧ B ≤ 1000000000 - 400) (hi : 0 ≤ i ∧ i + 3 < (L : Int) ∧ L ≤ 2048) (k : ∀ M2 S2, LawI (B + 84) x m u L M2 S2 → LCn S S2 → ∀ l5 l6 l7 l8, WP 20 199 1416 [vR 1, vR x, vR m, vR u, vI i, l5, l6, l7, l8] [] (M2, S2) Q) : WP 20 199 1111 [vR 1, vR x, vR m, vR u, vI i, l5, l6, l7, l8] [] (M, S) Q := by
  obtain ⟨f, p, tx, t, sv, l, hC, hD⟩ := hI
  refine b_fewest (L := L) hC.1.1.1.1.1 ?_
  refine t_fewest hC.1.1.1 hC.2.1.1 G.1 hD.1 (fun v M2 fr hv => ⟨_, rfl, hC.1.1.2.1.1, ?_⟩)
  have h2 := ch_ask G hC (fun q hq => fr q (by omega)) (CstR_fr (fun q a b => fr q (by omega)) hC.2.1.2.2.2.2.2.2)
  refine r_fewest h2.1.1.2 h2.2.2.1 rfl hD.1 (fun y M3 fr3 o2 ho h4 h7 h5 hr => ?_)
  exact ⟨congrArg (fun z => ((0, vI z) : Res)) (sml_u hr hv), k M3 _ ⟨f, p, tx, t, sv, l, ch_ref G h2 (fun q hq => fr3 q (by omega) (by omega)) ((fr3 _ (by omega) (by omega)).trans h2.2.2.1) ((fr3 _ (by omega) (by omega)).trans h2.2.2.2.1) ((congrFun ho 4).trans (h4.trans h2.2.2.2.2.1)) ((fr3 _ (by omega) (by omega)).trans h2.2.2.2.2.2.1) ((congrFun ho 7).trans (h7.trans h2.2.2.2.2.2.2)), di_le (by omega) hD⟩ lcn_0 l5 l6 l7 l8⟩
theorem l_leastCleanings {B : Int} {M : Nat → Int → Int} {S : SD} {x m u L : Nat} {i : Int} {l5 l6 l7 l8 : V} {Q : Res → Wd → Prop} (G : Geo x m u) (hI : LawI B x m u L M S) (hB : 0 ≤ B ∧ B ≤ 1000000000 - 400) (hi : 0 ≤ i ∧ i + 3 < (L : Int) ∧ L ≤ 2048) (k : ∀ M2 S2, LawI (B + 84) x m u L M2 S2 → LCn S S2 → ∀ l5 l6 l7 l8, WP 20 199 1416 [vR 1, vR x, vR m, vR u, vI i, l5, l6, l7, l8] [] (M2, S2) Q) : WP 20 199 1236 [vR 1, vR x, vR m, vR u, vI i, l5, l6, l7, l8] [] (M, S) Q := by
  obtain ⟨f, p, tx, t, sv, l, hC, hD⟩ := hI
  refine b_leastCleanings (L := L) hC.1.1.1.1.1 ?_
  refine t_leastCleanings hC.1.1.1 hC.2.1.1 G.1 hD.1 hB (fun v M2 fr b hb => ⟨_, rfl, hC.1.1.2.1.1, ?_⟩)
  have h2 := ch_ask G hC (fun q hq => fr q (by omega)) (CstR_fr (fun q a b => fr q (by omega)) hC.2.1.2.2.2.2.2.2)
  refine r_leastCleanings h2.1.1.2 h2.2.2.1 rfl hD.1 hB (fun y M3 fr3 hf3 o2 ho h4 h7 hd => ?_)
  obtain ⟨h5, b2, hb2⟩ := hd
  exact ⟨congrArg (fun z => ((0, vI z) : Res)) ((bestO_u hb2 hb).1), k M3 _ ⟨f, p, tx, t, sv, l, ch_ref G h2 (fun q hq => fr3 q (by omega) (by omega) (by omega) (by omega) (by omega) (by omega) (by omega) (by omega) (by omega)) hf3 ((fr3 _ (by omega) (by omega) (by omega) (by omega) (by omega) (by omega) (by omega) (by omega) (by omega)).trans h2.2.2.2.1) ((congrFun ho 4).trans (h4.trans h2.2.2.2.2.1)) ((fr3 _ (by omega) (by omega) (by omega) (by omega) (by omega) (by omega) (by omega) (by omega) (by omega)).trans h2.2.2.2.2.2.1) ((congrFun ho 7).trans (h7.trans h2.2.2.2.2.2.2)), di_le (by omega) hD⟩ lcn_0 l5 l6 l7 l8⟩
theorem l_digest {B : Int} {M : Nat → Int → Int} {S : SD} {x m u L : Nat} {i : Int} {l5 l6 l7 l8 : V} {Q : Res → Wd → Prop} (G : Geo x m u) (hI : LawI B x m u L M S) (hB : 0 ≤ B ∧ B ≤ 1000000000 - 400) (hi : 0 ≤ i ∧ i + 3 < (L : Int) ∧ L ≤ 2048) (k : ∀ M2 S2, LawI (B + 84) x m u L M2 S2 → LCn S S2 → ∀ l5 l6 l7 l8, WP 20 199 1416 [vR 1, vR x, vR m, vR u, vI i, l5, l6, l7, l8] [] (M2, S2) Q) : WP 20 199 1402 [vR 1, vR x, vR m, vR u, vI i, l5, l6, l7, l8] [] (M, S) Q := by
  obtain ⟨f, p, tx, t, sv, l, hC, hD⟩ := hI
  refine b_digest (L := L) hC.1.1.1.1.1 ?_
  refine t_digest hC.1.1.1 hC.2.1.1 G.1 hD.1 rfl rfl hB (fun v M2 fr hv => ⟨_, rfl, hC.1.1.2.1.1, ?_⟩)
  have h2 := ch_ask G hC (fun q hq => fr q (by omega)) (CstR_fr (fun q a b => fr q (by omega)) hC.2.1.2.2.2.2.2.2)
  refine r_digest h2.1.1.2 h2.2.2.1 rfl hD.1 (by omega) (fun y M3 fr3 hf3 o2 ho h4 h7 h5 hr => ?_)
  rw [h2.2.2.2.2.2.2, h2.2.2.2.2.1] at hr
  rw [hC.2.1.2.2.2.1, hC.2.1.2.1.1.1] at hv
  exact ⟨congrArg (fun z => ((0, vL z) : Res)) (dig_u hr hv), k M3 _ ⟨f, p, tx, t, sv, l, ch_ref G h2 (fun q hq => fr3 q (by omega) (by omega) (by omega) (by omega) (by omega)) hf3 ((fr3 _ (by omega) (by omega) (by omega) (by omega) (by omega)).trans h2.2.2.2.1) ((congrFun ho 4).trans (h4.trans h2.2.2.2.2.1)) ((fr3 _ (by omega) (by omega) (by omega) (by omega) (by omega)).trans h2.2.2.2.2.2.1) ((congrFun ho 7).trans (h7.trans h2.2.2.2.2.2.2)), di_le (by omega) hD⟩ lcn_0 l5 l6 l7 l8⟩
