/-! the law: its start -/
theorem row_new {f : Int → Int} (h : f 0 = 0 ∧ f 1 = 0 ∧ f 2 = 100 ∧ f 3 = 5 ∧ f 4 = 0 ∧ f 5 = 0 ∧ f 6 = 0) : RowOk 0 f := by
  obtain ⟨h0, h1, h2, h3, h4, h5, h6⟩ := h
  exact ⟨⟨by omega, fun s a b => absurd b (by omega)⟩, ⟨by omega, fun w a b => absurd b (by omega)⟩, fun s a b => absurd b (by omega), by omega, by omega, by omega, by omega, by omega⟩
theorem ask_new {M : Nat → Int → Int} {x : Nat} {f : Int → Int} (h : f 0 = 0 ∧ f 1 = 0 ∧ f 2 = 100 ∧ f 3 = 5 ∧ f 4 = 0 ∧ f 5 = 0 ∧ f 6 = 0) (hz : ShZ M (x + 2)) (ht : TurR M) : AskR M x f := by
  obtain ⟨h0, h1, h2, h3, h4, h5, h6⟩ := h
  obtain ⟨c, d, e⟩ := hz
  refine ⟨⟨⟨⟨⟨c.1, c.2.1, d.1.trans h0.symm⟩, by omega, fun s a b => absurd b (by omega)⟩, ⟨⟨c.2.2.1, c.2.2.2, d.2.1.trans h1.symm⟩, by omega, fun s a b => absurd b (by omega)⟩, fun w a b => absurd b (by omega), d.2.2.1.trans h2.symm, d.2.2.2.trans h3.symm⟩, inkZ_r (f := f) e ⟨⟨by omega, by omega, Or.inl rfl⟩, fun s a b => absurd b (by omega), fun s a b => absurd b (by omega), ⟨rfl, rfl, h4, h5, h6⟩, fun _ _ => rfl⟩⟩, fun w p n a b => absurd b (by omega), ht⟩
def f00 : Int → Int := fun k => if k = 2 then 100 else if k = 3 then 5 else 0
theorem f00_z : f00 0 = 0 ∧ f00 1 = 0 ∧ f00 2 = 100 ∧ f00 3 = 5 ∧ f00 4 = 0 ∧ f00 5 = 0 ∧ f00 6 = 0 := ⟨rfl, rfl, rfl, rfl, rfl, rfl, rfl⟩
set_option maxHeartbeats 1000000 in
/-- the law's start: w0 has the script in 1, the table in 2 -/
theorem law_from {w0 : Wd} {L : Nat} (hn0 : nx w0 = 3) (hu0 : uc w0 = 0) (hs0 : us w0 = 0) (h1 : ty w0 1 = 16 ∧ ln w0 1 = L) (h2 : ty w0 2 = 17 ∧ ln w0 2 = 26) (ht : ∀ i, 0 ≤ i → i < 26 → gi w0 2 i = tur i) : WP 19 139 0 [vR 1, none, none, none, none, none, none, none, none, none] [] w0 (fun r w' => r = (0, vI 1) ∧ uc w' ≤ 975894 ∧ us w' ≤ 6173787) := by
  obtain ⟨Q, hQ⟩ : ∃ Q : Res → Wd → Prop, Q = (fun r w' => r = (0, vI 1) ∧ uc w' ≤ 975894 ∧ us w' ≤ 6173787) := ⟨_, rfl⟩
  rw [← hQ]
  refine WP.blk 1 ?_
  show WP 19 139 3 [vR 1, none, none, none, none, none, none, none, none, none] [vR (nx w0)] (mk w0 9 10) Q
  rw [hn0]
  obtain ⟨w1, hw1⟩ : ∃ y, y = mk w0 9 10 := ⟨_, rfl⟩
  rw [← hw1]
  have A1 : ∀ q, q ≠ 3 → gi w1 q = gi w0 q ∧ gr w1 q = gr w0 q ∧ ty w1 q = ty w0 q ∧ ln w1 q = ln w0 q := fun q hq => by rw [hw1]; exact mk_o (by rw [hn0]; exact hq)
  have e1 := mk_e (w := w0) (t := 9) (n := 10)
  rw [← hw1, hn0] at e1
  have hn1 : nx w1 = 4 := by rw [hw1]; exact congrArg (· + 1) hn0
  have hu1 : uc w1 = 1 := by rw [hw1]; exact congrArg (· + 1) hu0
  have hs1 : us w1 = 10 := by rw [hw1]; exact congrArg (· + 10) hs0
  have b2 : ty w1 2 = 17 ∧ ln w1 2 = 26 := ⟨(A1 2 (by decide)).2.2.1.trans h2.1, (A1 2 (by decide)).2.2.2.trans h2.2⟩
  refine WP.blk 1 ?_
  show WP 19 139 4 [vR 1, none, none, none, none, none, none, none, none, none] [vR 3, vR 3] w1 Q
  refine WP.cl (a := [vR 3]) (rest := [vR 3]) rfl rfl rfl rfl trivial (by decide) (c_rub (r := 3) hn1 e1.2.1 e1.1 (by decide) b2 (fun w2 A2 hn2 hu2 hs2 r1 r2 r3 r4 r5 r6 => ⟨rfl, ?_⟩))
  show WP 19 139 7 [vR 1, none, none, none, none, none, none, none, none, none] [vR 3] w2 Q
  refine WP.blk 1 ?_
  show WP 19 139 8 [vR 1, vR 3, none, none, none, none, none, none, none, none] [] w2 Q
  have B0 : Ag w0 w2 0 3 := fun q _ b => by
    have a := A1 q (by omega); have c := A2 q (by omega) (by omega)
    exact ⟨c.1.trans a.1, c.2.1.trans a.2.1, c.2.2.1.trans a.2.2.1, c.2.2.2.trans a.2.2.2⟩
  have x1 := B0 1 (by omega) (by omega)
  have x2 := B0 2 (by omega) (by omega)
  have hT : TurR (gi w2) := fun i a b => by rw [x2.1]; exact ht i a b
  have hI : LwS 200 0 3 L w2 f00 [] 0 := ⟨gi w2 (3 + 1), 0, f00, ⟨⟨r1, x1.2.2.1.trans h1.1, x1.2.2.2.trans h1.2⟩, by omega, by decide⟩, ⟨ask_new f00_z r2 hT, hisZ_f r4, rfl, r5, r3.1, r3.2.2, r6⟩, ⟨⟨row_new f00_z, fun s a b => absurd b (by show ¬ s < 0; omega)⟩, ⟨by decide, by decide⟩, fun j a b => absurd b (by omega), trivial⟩, ⟨⟨by decide, by decide⟩, fun k a b => absurd b (by omega)⟩, ⟨by omega, by omega⟩, by decide, by decide⟩
  exact law_walk9 hI (fun w' a b => by rw [hQ]; exact ⟨rfl, by omega, by omega⟩)
