theorem rub_ag {w w' : Wd} {k : Nat} (h : Ag w w' 0 (k + 171)) (hk : 3 ≤ k) (hr : isRub w.2 k) : isRub w'.2 k := by
  obtain ⟨⟨a1, a2, a3, a4, a5, a6, a7, a8, a9, a10, a11, a12⟩, b1, b2, b3, b4, b5, b6, b7, b8, b9, b10⟩ := hr
  have e0 := h k (by omega) (by omega)
  have e1 := h (k + 1) (by omega) (by omega)
  have e2 := h 2 (by omega) (by omega)
  exact ⟨⟨e0.2.2.1.trans a1, (congrFun e0.2.1 _).trans a2, (congrFun e0.2.1 _).trans a3, (congrFun e0.2.1 _).trans a4, (congrFun e0.2.1 _).trans a5, (congrFun e0.2.1 _).trans a6, (congrFun e0.2.1 _).trans a7, (congrFun e0.2.1 _).trans a8, (congrFun e0.2.1 _).trans a9, (congrFun e0.2.1 _).trans a10, e1.2.2.1.trans a11, e1.2.2.2.trans a12⟩, sheet_ag (fun q a b => h q (by omega) (by omega)) b1, sheet_ag (fun q a b => h q (by omega) (by omega)) b2, hist_ag (fun q a b => h q (by omega) (by omega)) b3, fits_ag (fun q a b => h q (by omega) (by omega)) b4, plan_ag (fun q a b => h q (by omega) (by omega)) b5, inks_ag (fun q a b => h q (by omega) (by omega)) b6, ord_ag (fun q a b => h q (by omega) (by omega)) b7, cut_ag (fun q a b => h q (by omega) (by omega)) b8, ⟨e2.2.2.1.trans b9, e2.2.2.2.trans b10⟩⟩
theorem mod_ag {w w' : Wd} {k : Nat} (h : Ag w w' k (k + 12)) (hr : isMod w.2 k) : isMod w'.2 k := by
  obtain ⟨⟨a0, a1, a2, a3, a4, a5, a6, a7, a8, a9, a10, a11⟩, ⟨b1, b2, b3, b4, b5, b6, b7, b8, b9, b10, b11⟩, ⟨c1, c2, c3, c4, c5, c6, c7, c8, c9, c10, c11⟩⟩ := hr
  have e0 := h k (by omega) (by omega)
  have e1 := h (k + 1) (by omega) (by omega)
  have e2 := h (k + 2) (by omega) (by omega)
  have e3 := h (k + 3) (by omega) (by omega)
  have e4 := h (k + 4) (by omega) (by omega)
  have e5 := h (k + 5) (by omega) (by omega)
  have e6 := h (k + 6) (by omega) (by omega)
  have e7 := h (k + 7) (by omega) (by omega)
  have e8 := h (k + 8) (by omega) (by omega)
  have e9 := h (k + 9) (by omega) (by omega)
  have e10 := h (k + 10) (by omega) (by omega)
  have e11 := h (k + 11) (by omega) (by omega)
  exact ⟨⟨e0.2.2.1.trans a0, (congrFun e0.2.1 _).trans a1, (congrFun e0.2.1 _).trans a2, (congrFun e0.2.1 _).trans a3, (congrFun e0.2.1 _).trans a4, (congrFun e0.2.1 _).trans a5, (congrFun e0.2.1 _).trans a6, (congrFun e0.2.1 _).trans a7, (congrFun e0.2.1 _).trans a8, (congrFun e0.2.1 _).trans a9, (congrFun e0.2.1 _).trans a10, (congrFun e0.2.1 _).trans a11⟩, ⟨e1.2.2.1.trans b1, e2.2.2.1.trans b2, e3.2.2.1.trans b3, e4.2.2.1.trans b4, e5.2.2.1.trans b5, e6.2.2.1.trans b6, e7.2.2.1.trans b7, e8.2.2.1.trans b8, e9.2.2.1.trans b9, e10.2.2.1.trans b10, e11.2.2.1.trans b11⟩, ⟨e1.2.2.2.trans c1, e2.2.2.2.trans c2, e3.2.2.2.trans c3, e4.2.2.2.trans c4, e5.2.2.2.trans c5, e6.2.2.2.trans c6, e7.2.2.2.trans c7, e8.2.2.2.trans c8, e9.2.2.2.trans c9, e10.2.2.2.trans c10, e11.2.2.2.trans c11⟩⟩
theorem row_new {f : Int → Int} (h : f 0 = 0 ∧ f 1 = 0 ∧ f 2 = 100 ∧ f 3 = 5 ∧ f 4 = 0 ∧ f 5 = 0 ∧ f 6 = 0) : RowOk 0 f := by
  obtain ⟨h0, h1, h2, h3, h4, h5, h6⟩ := h
  exact ⟨⟨by omega, fun s a b => absurd b (by omega)⟩, ⟨by omega, fun w a b => absurd b (by omega)⟩, fun s a b => absurd b (by omega), by omega, by omega, by omega, by omega, by omega⟩
theorem ask_new {M : Nat → Int → Int} {x : Nat} {f : Int → Int} (h : f 0 = 0 ∧ f 1 = 0 ∧ f 2 = 100 ∧ f 3 = 5 ∧ f 4 = 0 ∧ f 5 = 0 ∧ f 6 = 0) (hz : ShZ M (x + 2)) (ht : TurR M) : AskR M x f := by
  obtain ⟨h0, h1, h2, h3, h4, h5, h6⟩ := h
  obtain ⟨c, d, e⟩ := hz
  refine ⟨⟨⟨⟨⟨c.1, c.2.1, d.1.trans h0.symm⟩, by omega, fun s a b => absurd b (by omega)⟩, ⟨⟨c.2.2.1, c.2.2.2, d.2.1.trans h1.symm⟩, by omega, fun s a b => absurd b (by omega)⟩, fun w a b => absurd b (by omega), d.2.2.1.trans h2.symm, d.2.2.2.trans h3.symm⟩, inkZ_r (f := f) e ⟨⟨by omega, by omega, Or.inl rfl⟩, fun s a b => absurd b (by omega), fun s a b => absurd b (by omega), ⟨rfl, rfl, h4, h5, h6⟩, fun _ _ => rfl⟩⟩, fun w p n a b => absurd b (by omega), ht⟩
set_option maxHeartbeats 1000000 in
/-- the law's start: w0 has the script in 1, the table in 2 -/
theorem law_from {w0 : Wd} {L : Nat} (hL : L ≤ 2048) (hn0 : nx w0 = 3) (hu0 : uc w0 = 0) (hs0 : us w0 = 0) (h1 : ty w0 1 = 16 ∧ ln w0 1 = L) (h2 : ty w0 2 = 17 ∧ ln w0 2 = 26) (ht : ∀ i, 0 ≤ i → i < 26 → gi w0 2 i = tur i) : WP 20 199 0 [vR 1, none, none, none, none, none, none, none, none] [] w0 (fun r w' => r = (0, vI 1) ∧ uc w' ≤ 601024 ∧ us w' ≤ 7293034) := by
  obtain ⟨Q, hQ⟩ : ∃ Q : Res → Wd → Prop, Q = (fun r w' => r = (0, vI 1) ∧ uc w' ≤ 601024 ∧ us w' ≤ 7293034) := ⟨_, rfl⟩
  rw [← hQ]
  refine WP.blk 1 ?_
  show WP 20 199 3 [vR 1, none, none, none, none, none, none, none, none] [vR (nx w0)] (mk w0 9 10) Q
  rw [hn0]
  obtain ⟨w1, hw1⟩ : ∃ y, y = mk w0 9 10 := ⟨_, rfl⟩
  rw [← hw1]
  have A1 : ∀ q, q ≠ 3 → gi w1 q = gi w0 q ∧ gr w1 q = gr w0 q ∧ ty w1 q = ty w0 q ∧ ln w1 q = ln w0 q := fun q hq => by rw [hw1]; exact mk_o (by rw [hn0]; exact hq)
  have e1 := mk_e (w := w0) (t := 9) (n := 10)
  rw [← hw1, hn0] at e1
  have hn1 : nx w1 = 4 := by rw [hw1]; exact congrArg (· + 1) hn0
  have hu1 : uc w1 = 1 := by rw [hw1]; exact congrArg (· + 1) hu0
  have hs1 : us w1 = 10 := by rw [hw1]; exact congrArg (· + 10) hs0
  have b2 : ty w1 2 = 17 ∧ ln w1 2 = 26 := ⟨(A1 2 (by decide)).2.2.1.trans h2.1, (A1 2 (by decide)).2.2.2.trans h2.2⟩
  refine WP.blk 1 ?_
  show WP 20 199 4 [vR 1, none, none, none, none, none, none, none, none] [vR 3, vR 3] w1 Q
  refine WP.cl (a := [vR 3]) (rest := [vR 3]) rfl rfl rfl rfl trivial (by decide) (c_rub (r := 3) hn1 e1.2.1 e1.1 (by decide) b2 (fun w2 A2 hn2 hu2 hs2 r1 r2 r3 r4 r5 r6 => ⟨rfl, ?_⟩))
  show WP 20 199 7 [vR 1, none, none, none, none, none, none, none, none] [vR 3] w2 Q
  refine WP.blk 1 ?_
  show WP 20 199 8 [vR 1, vR 3, none, none, none, none, none, none, none] [] w2 Q
  refine WP.blk 1 ?_
  show WP 20 199 11 [vR 1, vR 3, none, none, none, none, none, none, none] [vR (nx w2)] (mk w2 10 18) Q
  rw [hn2]
  obtain ⟨w3, hw3⟩ : ∃ y, y = mk w2 10 18 := ⟨_, rfl⟩
  rw [← hw3]
  have A3 : ∀ q, q ≠ 174 → gi w3 q = gi w2 q ∧ gr w3 q = gr w2 q ∧ ty w3 q = ty w2 q ∧ ln w3 q = ln w2 q := fun q hq => by rw [hw3]; exact mk_o (by rw [hn2]; exact hq)
  have e3 := mk_e (w := w2) (t := 10) (n := 18)
  rw [← hw3, hn2] at e3
  have hn3 : nx w3 = 175 := by rw [hw3]; exact congrArg (· + 1) hn2
  have hu3 : uc w3 = 172 := by rw [hw3]; show uc w2 + 1 = 172; omega
  have hs3 : us w3 = 10+3956+18 := by rw [hw3]; show us w2 + 18 = _; omega
  refine WP.blk 1 ?_
  show WP 20 199 12 [vR 1, vR 3, none, none, none, none, none, none, none] [vR 174, vR 174] w3 Q
  refine WP.cl (a := [vR 174]) (rest := [vR 174]) rfl rfl rfl rfl trivial (by decide) (c_mod (r := 174) hn3 e3.2.1 e3.1 (fun w4 A4 hn4 hu4 hs4 m1 m2 m3 m4 => ⟨rfl, ?_⟩))
  show WP 20 199 15 [vR 1, vR 3, none, none, none, none, none, none, none] [vR 174] w4 Q
  refine WP.blk 1 ?_
  show WP 20 199 16 [vR 1, vR 3, vR 174, none, none, none, none, none, none] [] w4 Q
  refine WP.blk 1 ?_
  show WP 20 199 17 [vR 1, vR 3, vR 174, none, none, none, none, none, none] [vI 1] w4 Q
  refine WP.blk 1 ?_
  show ((0 : Int) ≤ 1 ∧ (1 : Int) ≤ 100000) ∧ WP 20 199 19 [vR 1, vR 3, vR 174, none, none, none, none, none, none] [vR (nx w4)] (mk w4 12 1) Q
  refine ⟨⟨by decide, by decide⟩, ?_⟩
  rw [hn4]
  obtain ⟨w5, hw5⟩ : ∃ y, y = mk w4 12 1 := ⟨_, rfl⟩
  rw [← hw5]
  have A5 : ∀ q, q ≠ 186 → gi w5 q = gi w4 q ∧ gr w5 q = gr w4 q ∧ ty w5 q = ty w4 q ∧ ln w5 q = ln w4 q := fun q hq => by rw [hw5]; exact mk_o (by rw [hn4]; exact hq)
  have e5 := mk_e (w := w4) (t := 12) (n := 1)
  rw [← hw5, hn4] at e5
  have hu5 : uc w5 = 184 := by rw [hw5]; show uc w4 + 1 = 184; omega
  have hs5 : us w5 = 10+3956+18+2923+1 := by rw [hw5]; show us w4 + 1 = _; omega
  refine WP.blk 1 ?_
  show WP 20 199 20 [vR 1, vR 3, vR 174, vR 186, none, none, none, none, none] [] w5 Q
  refine WP.blk 1 ?_
  show WP 20 199 21 [vR 1, vR 3, vR 174, vR 186, none, none, none, none, none] [vI 0] w5 Q
  refine WP.blk 1 ?_
  show WP 20 199 23 [vR 1, vR 3, vR 174, vR 186, vI 0, none, none, none, none] [] w5 Q
  have B5 : Ag w2 w5 0 174 := fun q _ b => by
    have a := A3 q (by omega); have c := A4 q (by omega) (by omega); have d := A5 q (by omega)
    exact ⟨d.1.trans (c.1.trans a.1), d.2.1.trans (c.2.1.trans a.2.1), d.2.2.1.trans (c.2.2.1.trans a.2.2.1), d.2.2.2.trans (c.2.2.2.trans a.2.2.2)⟩
  have B0 : Ag w0 w5 0 3 := fun q _ b => by
    have a := A1 q (by omega); have c := A2 q (by omega) (by omega); have d := B5 q (by omega) (by omega)
    exact ⟨d.1.trans (c.1.trans a.1), d.2.1.trans (c.2.1.trans a.2.1), d.2.2.1.trans (c.2.2.1.trans a.2.2.1), d.2.2.2.trans (c.2.2.2.trans a.2.2.2)⟩
  have x1 := B0 1 (by omega) (by omega)
  have x2 := B0 2 (by omega) (by omega)
  have hT : TurR (gi w5) := fun i a b => by rw [x2.1]; exact ht i a b
  have g1 := (A5 (174 + 1) (by omega)).1
  have g0 := (A5 174 (by omega)).1
  rw [← g1] at m2
  have q1 : isRub w5.2 3 := rub_ag B5 (by decide) r1
  have q2 : ShZ (gi w5) (3 + 2) := shZ_ag (fun q a b => B5 q (by omega) (by omega)) r2
  have q3 : ShZ (gi w5) (3 + 14) := shZ_ag (fun q a b => B5 q (by omega) (by omega)) r3
  have q4 : HisZ (gi w5) (3 + 26) := hisZ_ag (fun q a b => B5 q (by omega) (by omega)) r4
  have q5 : gi w5 3 1 = 0 := (congrFun (B5 3 (by omega) (by omega)).1 1).trans r5
  have q6 : CstX (gi w5) (3 + 152) := cstX_ag (fun q a b => B5 q (by omega) (by omega)) r6
  have q7 : isMod w5.2 174 := mod_ag (fun q a b => A5 q (by omega)) m1
  have q8 : gi w5 174 4 = 0 := (congrFun g0 4).trans m3
  have q9 : gi w5 174 7 = 0 := (congrFun g0 7).trans m4
  have hI : LawI (21 * 0) 3 174 186 L (gi w5) w5.2 := ⟨gi w5 (174 + 1), gi w5 (174 + 2), gi w5 (3 + 1), gi w5 (174 + 5), 0, 0, ⟨⟨⟨q1, q7⟩, ⟨x1.2.2.1.trans h1.1, x1.2.2.2.trans h1.2⟩, e5.2⟩, ⟨ask_new m2 q2 hT, hisZ_f q4, rfl, q5, q3.1, q3.2.2, q6⟩, rfl, rfl, q8, rfl, q9⟩, ⟨row_new m2, ⟨by decide, by decide⟩, fun j a b => absurd b (by omega), ⟨by decide, by decide⟩, fun k a b => absurd b (by omega)⟩⟩
  rw [hQ]
  exact law_loop (x := 3) (m := 174) (u := 186) ⟨by decide, by decide, by decide⟩ hL (L + 1) 0 none none none none (gi w5) w5.2 (by decide) (by omega) (by omega) hI (by have h : w5.2.2.2.2.2.1 = 184 := hu5; omega) (by have h : w5.2.2.2.2.2.2 = 10+3956+18+2923+1 := hs5; omega)
