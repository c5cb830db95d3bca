/-! what is made -/
theorem mk_o {w : Wd} {t n q : Nat} (h : q ≠ nx w) : gi (mk w t n) q = gi w q ∧ gr (mk w t n) q = gr w q ∧ ty (mk w t n) q = ty w q ∧ ln (mk w t n) q = ln w q :=
  ⟨funext fun _ => if_neg h, funext fun _ => if_neg h, if_neg h, if_neg h⟩
theorem mk_e {w : Wd} {t n : Nat} : gi (mk w t n) (nx w) = (fun _ => 0) ∧ ty (mk w t n) (nx w) = t ∧ ln (mk w t n) (nx w) = n := ⟨funext fun _ => if_pos rfl, if_pos rfl, if_pos rfl⟩
theorem sr_o {w : Wd} {r v q : Nat} {k : Int} (h : q ≠ r) : gi (sr w r k v) q = gi w q ∧ gr (sr w r k v) q = gr w q ∧ ty (sr w r k v) q = ty w q ∧ ln (sr w r k v) q = ln w q := ⟨rfl, funext fun _ => if_neg (fun e => h e.1), rfl, rfl⟩
theorem sr_e {w : Wd} {r v : Nat} {k : Int} : gr (sr w r k v) r k = v := if_pos ⟨rfl, rfl⟩
theorem sr_k {w : Wd} {r v : Nat} {k i : Int} (h : i ≠ k) : gr (sr w r k v) r i = gr w r i := if_neg (fun e => h e.2)
theorem si_o {w : Wd} {r q : Nat} {k v : Int} (h : q ≠ r) : gi (si w r k v) q = gi w q ∧ gr (si w r k v) q = gr w q ∧ ty (si w r k v) q = ty w q ∧ ln (si w r k v) q = ln w q := ⟨funext fun _ => if_neg (fun e => h e.1), rfl, rfl, rfl⟩
theorem si_e {w : Wd} {r : Nat} {k v : Int} : gi (si w r k v) r k = v := if_pos ⟨rfl, rfl⟩
theorem si_k {w : Wd} {r : Nat} {k v i : Int} (h : i ≠ k) : gi (si w r k v) r i = gi w r i := if_neg (fun e => h e.2)
/-- the cells from lo to hi are as they were -/
def Ag (w w' : Wd) (lo hi : Nat) : Prop := ∀ q, lo ≤ q → q < hi → gi w' q = gi w q ∧ gr w' q = gr w q ∧ ty w' q = ty w q ∧ ln w' q = ln w q
theorem rows_ag {w w' : Wd} {k : Nat} (h : Ag w w' k (k + 3)) (hr : isRows w.2 k) : isRows w'.2 k := by
  obtain ⟨h1, h2, h3, h4, h5, h6, h7⟩ := hr
  have a0 := h k (by omega) (by omega)
  have a1 := h (k + 1) (by omega) (by omega)
  have a2 := h (k + 2) (by omega) (by omega)
  exact ⟨a0.2.2.1.trans h1, (congrFun a0.2.1 _).trans h2, (congrFun a0.2.1 _).trans h3, a1.2.2.1.trans h4, a1.2.2.2.trans h5, a2.2.2.1.trans h6, a2.2.2.2.trans h7⟩
theorem inks_ag {w w' : Wd} {k : Nat} (h : Ag w w' k (k + 4)) (hr : isInks w.2 k) : isInks w'.2 k := by
  obtain ⟨h1, h2, h3, h4, h5, h6, h7, h8, h9, h10⟩ := hr
  have a0 := h k (by omega) (by omega)
  have a1 := h (k + 1) (by omega) (by omega)
  have a2 := h (k + 2) (by omega) (by omega)
  have a3 := h (k + 3) (by omega) (by omega)
  exact ⟨a0.2.2.1.trans h1, (congrFun a0.2.1 _).trans h2, (congrFun a0.2.1 _).trans h3, (congrFun a0.2.1 _).trans h4, a1.2.2.1.trans h5, a1.2.2.2.trans h6, a2.2.2.1.trans h7, a2.2.2.2.trans h8, a3.2.2.1.trans h9, a3.2.2.2.trans h10⟩
theorem plan_ag {w w' : Wd} {k : Nat} (h : Ag w w' k (k + 4)) (hr : isPlan w.2 k) : isPlan w'.2 k := by
  obtain ⟨h1, h2, h3, h4, h5, h6, h7, h8, h9, h10⟩ := hr
  have a0 := h k (by omega) (by omega)
  have a1 := h (k + 1) (by omega) (by omega)
  have a2 := h (k + 2) (by omega) (by omega)
  have a3 := h (k + 3) (by omega) (by omega)
  exact ⟨a0.2.2.1.trans h1, (congrFun a0.2.1 _).trans h2, (congrFun a0.2.1 _).trans h3, (congrFun a0.2.1 _).trans h4, a1.2.2.1.trans h5, a1.2.2.2.trans h6, a2.2.2.1.trans h7, a2.2.2.2.trans h8, a3.2.2.1.trans h9, a3.2.2.2.trans h10⟩
theorem fits_ag {w w' : Wd} {k : Nat} (h : Ag w w' k (k + 2)) (hr : isFits w.2 k) : isFits w'.2 k := by
  obtain ⟨h1, h2, h3, h4⟩ := hr
  have a0 := h k (by omega) (by omega)
  have a1 := h (k + 1) (by omega) (by omega)
  exact ⟨a0.2.2.1.trans h1, (congrFun a0.2.1 _).trans h2, a1.2.2.1.trans h3, a1.2.2.2.trans h4⟩
theorem sheet_ag {w w' : Wd} {k : Nat} (h : Ag w w' k (k + 12)) (hr : isSheet w.2 k) : isSheet w'.2 k := by
  obtain ⟨h1, h2, h3, h4, h5, h6, h7, h8, h9, h10⟩ := hr
  have a0 := h k (by omega) (by omega)
  have a7 := h (k + 7) (by omega) (by omega)
  exact ⟨a0.2.2.1.trans h1, (congrFun a0.2.1 _).trans h2, (congrFun a0.2.1 _).trans h3, (congrFun a0.2.1 _).trans h4, (congrFun a0.2.1 _).trans h5, rows_ag (fun q a b => h q (by omega) (by omega)) h6, rows_ag (fun q a b => h q (by omega) (by omega)) h7, a7.2.2.1.trans h8, a7.2.2.2.trans h9, inks_ag (fun q a b => h q (by omega) (by omega)) h10⟩
theorem hist_ag {w w' : Wd} {k : Nat} (h : Ag w w' k (k + 50)) (hr : isHist w.2 k) : isHist w'.2 k := by
  obtain ⟨⟨h1, h2, h3, h4⟩, ⟨g1, g2, g3, g4⟩, g5, g6⟩ := hr
  have a0 := h k (by omega) (by omega)
  have a1 := h (k + 1) (by omega) (by omega)
  refine ⟨⟨a0.2.2.1.trans h1, (congrFun a0.2.1 _).trans h2, a1.2.2.1.trans h3, a1.2.2.2.trans h4⟩, ⟨sheet_ag (fun q a b => h q (by omega) (by omega)) g1, sheet_ag (fun q a b => h q (by omega) (by omega)) g2, sheet_ag (fun q a b => h q (by omega) (by omega)) g3, sheet_ag (fun q a b => h q (by omega) (by omega)) g4⟩, fun i a b => ?_, fun i j a b c d e => ?_⟩
  · have e : sR w'.2 (k + 1) i = sR w.2 (k + 1) i := congrFun a1.2.1 i
    rw [e]; exact g5 i a b
  · have e1 : sR w'.2 (k + 1) i = sR w.2 (k + 1) i := congrFun a1.2.1 i
    have e2 : sR w'.2 (k + 1) j = sR w.2 (k + 1) j := congrFun a1.2.1 j
    rw [e1, e2]; exact g6 i j a b c d e
theorem ord_ag {w w' : Wd} {k : Nat} (h : Ag w w' k (k + 66)) (hr : isOrd w.2 k) : isOrd w'.2 k := by
  obtain ⟨⟨h1, h2, h3, h4, h5, h6⟩, ⟨p1, p2, p3, p4, p5, p6, p7, p8, p9, p10⟩, h8, h9⟩ := hr
  have a0 := h k (by omega) (by omega)
  have a1 := h (k + 1) (by omega) (by omega)
  have a2 := h (k + 2) (by omega) (by omega)
  have a3 := h (k + 3) (by omega) (by omega)
  have a4 := h (k + 4) (by omega) (by omega)
  have a5 := h (k + 5) (by omega) (by omega)
  refine ⟨⟨a0.2.2.1.trans h1, (congrFun a0.2.1 _).trans h2, (congrFun a0.2.1 _).trans h3, (congrFun a0.2.1 _).trans h4, (congrFun a0.2.1 _).trans h5, (congrFun a0.2.1 _).trans h6⟩, ⟨a1.2.2.1.trans p1, a1.2.2.2.trans p2, a2.2.2.1.trans p3, a2.2.2.2.trans p4, a3.2.2.1.trans p5, a3.2.2.2.trans p6, a4.2.2.1.trans p7, a4.2.2.2.trans p8, a5.2.2.1.trans p9, a5.2.2.2.trans p10⟩, fun d hd => ?_, fun v hv => ?_⟩
  · obtain ⟨q1, q2⟩ := h8 d hd
    exact ⟨(congrFun a1.2.1 _).trans q1, inks_ag (fun q a b => h q (by omega) (by omega)) q2⟩
  · obtain ⟨q1, q2⟩ := h9 v hv
    exact ⟨(congrFun a2.2.1 _).trans q1, plan_ag (fun q a b => h q (by omega) (by omega)) q2⟩
theorem cut_ag {w w' : Wd} {k : Nat} (h : Ag w w' k (k + 19)) (hr : isCut w.2 k) : isCut w'.2 k := by
  obtain ⟨⟨h1, h2, h3, h4⟩, h5, h6, h7⟩ := hr
  have a0 := h k (by omega) (by omega)
  exact ⟨⟨a0.2.2.1.trans h1, (congrFun a0.2.1 _).trans h2, (congrFun a0.2.1 _).trans h3, (congrFun a0.2.1 _).trans h4⟩, sheet_ag (fun q a b => h q (by omega) (by omega)) h5, fits_ag (fun q a b => h q (by omega) (by omega)) h6, plan_ag (fun q a b => h q (by omega) (by omega)) h7⟩
/-- a new sheet -/
def ShZ (M : Nat → Int → Int) (k : Nat) : Prop := CstR M k ∧ (M (k + 1) 4 = 0 ∧ M (k + 4) 4 = 0 ∧ M k 4 = 100 ∧ M k 5 = 5) ∧ InkZ M (k + 8)
theorem shZ_ag {w w' : Wd} {k : Nat} (h : Ag w w' k (k + 12)) (hr : ShZ (gi w) k) : ShZ (gi w') k := by
  obtain ⟨h1, ⟨h2, h3, h4, h5⟩, h6⟩ := hr
  have a0 := (h k (by omega) (by omega)).1
  have a1 := (h (k + 1) (by omega) (by omega)).1
  have a4 := (h (k + 4) (by omega) (by omega)).1
  exact ⟨CstR_fr (fun q a b => (h q a b).1) h1, ⟨(congrFun a1 4).trans h2, (congrFun a4 4).trans h3, (congrFun a0 4).trans h4, (congrFun a0 5).trans h5⟩, InkZ_fr (fun q a b => (h q (by omega) (by omega)).1) h6⟩
theorem inkZ_ag {w w' : Wd} {k : Nat} (h : Ag w w' k (k + 4)) (hr : InkZ (gi w) k) : InkZ (gi w') k := InkZ_fr (fun q a b => (h q (by omega) (by omega)).1) hr
theorem cst_ag {w w' : Wd} {k : Nat} (h : Ag w w' k (k + 12)) (hr : CstR (gi w) k) : CstR (gi w') k := CstR_fr (fun q a b => (h q a b).1) hr
theorem lt4_cases {d : Nat} (h : d < 4) : d = 0 ∨ d = 1 ∨ d = 2 ∨ d = 3 := by omega
