set_option maxHeartbeats 4000000 in
theorem c_cut {w : Wd} {r : Nat} (hn : nx w = r + 1) (ht : ty w r = 1) (hz : gi w r = (fun _ => 0)) {Q : Res → Wd → Prop} (k : ∀ w2, Ag w w2 0 r → nx w2 = r + 19 → uc w2 = uc w + 18 → us w2 = us w + 779 → isCut w2.2 r → CstR (gi w2) (r + 1) → Q (0, none) w2) : EvQ 4 0 [vR r] w Q := by
  refine EvQ.enter (ls := [vR r]) (Nat.le_of_ble_eq_true rfl) rfl ?_
  have hu0 : uc w = uc w + 0 := rfl
  have hs0 : us w = us w + 0 := rfl
  have hg0 : ∀ q, q < r → gi w q = gi w q ∧ gr w q = gr w q ∧ ty w q = ty w q ∧ ln w q = ln w q := fun _ _ => ⟨rfl, rfl, rfl, rfl⟩
  refine WP.blk 1 ?_
  show WP 3 0 1 [vR r] [vR r] w Q
  refine WP.blk 1 ?_
  show WP 3 0 4 [vR r] [] w Q
  refine WP.blk 1 ?_
  show WP 3 0 5 [vR r] [vR r] w Q
  refine WP.blk 1 ?_
  show WP 3 0 8 [vR r] [vR (nx w), vR r] (mk w 8 6) Q
  rw [hn]
  obtain ⟨w1, hw1⟩ : ∃ y9, y9 = mk w 8 6 := ⟨_, rfl⟩
  rw [← hw1]
  have A2 : ∀ q, q ≠ r + 1 → gi w1 q = gi w q ∧ gr w1 q = gr w q ∧ ty w1 q = ty w q ∧ ln w1 q = ln w q := fun q hq => by rw [hw1]; exact mk_o (by rw [hn]; exact hq)
  have f3 : ty w1 r = 1 := (A2 _ (nek r 0 1 rfl)).2.2.1.trans ht
  have f4 : gi w1 r = (fun _ => 0) := (A2 _ (nek r 0 1 rfl)).1.trans hz
  have e5 := mk_e (w := w) (t := 8) (n := 6)
  rw [← hw1, hn] at e5
  have n6 : nx w1 = r + 2 := by rw [hw1]; exact congrArg (· + 1) hn
  have u7 : uc w1 = uc w + 1 := by rw [hw1]; exact congrArg (· + 1) hu0
  have s8 : us w1 = us w + 6 := by rw [hw1]; exact congrArg (· + 6) hs0
  have g9 : ∀ q, q < r → gi w1 q = gi w q ∧ gr w1 q = gr w q ∧ ty w1 q = ty w q ∧ ln w1 q = ln w q := fun q hq => by have a := A2 q (Nat.ne_of_lt (Nat.lt_of_lt_of_le hq (Nat.le_add_right r 1))); have b := hg0 q hq; exact ⟨a.1.trans b.1, a.2.1.trans b.2.1, a.2.2.1.trans b.2.2.1, a.2.2.2.trans b.2.2.2⟩
  clear A2 hg0 hs0 hu0 hw1
  refine WP.blk 1 ?_
  show WP 3 0 9 [vR r] [vR (r + 1), vR (r + 1), vR r] w1 Q
  refine WP.cl (a := [vR (r + 1)]) (rest := [vR (r + 1), vR r]) rfl rfl rfl rfl trivial (by decide) (c_sheet n6 e5.2.1 e5.1 (fun w10 hA11 hni12 hui12 hsi12 f13 f14 => ⟨rfl, ?_⟩))
  show WP 3 0 12 [vR r] [vR (r + 1), vR r] w10 Q
  have A11 : ∀ q, q < r + 1 → gi w10 q = gi w1 q ∧ gr w10 q = gr w1 q ∧ ty w10 q = ty w1 q ∧ ln w10 q = ln w1 q := fun q hq => hA11 q (Nat.zero_le _) hq
  have f15 : ty w10 r = 1 := (A11 _ (ltk r 0 1 rfl)).2.2.1.trans f3
  have f16 : gi w10 r = (fun _ => 0) := (A11 _ (ltk r 0 1 rfl)).1.trans f4
  have ni12 : nx w10 = r + 13 := hni12
  have ui12 : uc w10 = uc w + 12 := hui12.trans (congrArg (· + 11) u7)
  have si12 : us w10 = us w + 319 := hsi12.trans (congrArg (· + 313) s8)
  have g17 : ∀ q, q < r → gi w10 q = gi w q ∧ gr w10 q = gr w q ∧ ty w10 q = ty w q ∧ ln w10 q = ln w q := fun q hq => by have a := A11 q (Nat.lt_of_lt_of_le hq (Nat.le_add_right r 1)); have b := g9 q hq; exact ⟨a.1.trans b.1, a.2.1.trans b.2.1, a.2.2.1.trans b.2.2.1, a.2.2.2.trans b.2.2.2⟩
  clear A11 e5 f3 f4 g9 hA11 hni12 hsi12 hui12 n6 s8 u7
  refine WP.blk 1 ?_
  show ty w10 r = 1 ∧ WP 3 0 15 [vR r] [] (sr w10 r 0 (r + 1)) Q
  refine ⟨f15, ?_⟩
  obtain ⟨w18, hw18⟩ : ∃ y9, y9 = sr w10 r 0 (r + 1) := ⟨_, rfl⟩
  rw [← hw18]
  have A19 : ∀ q, q ≠ r → gi w18 q = gi w10 q ∧ gr w18 q = gr w10 q ∧ ty w18 q = ty w10 q ∧ ln w18 q = ln w10 q := fun q hq => by rw [hw18]; exact sr_o hq
  have f20 : isSheet w18.2 (r + 1) := sheet_ag (fun q a b => A19 q (Nat.ne_of_gt (Nat.lt_of_lt_of_le (ltk r 0 1 rfl) a))) f13
  have f21 : ShZ (gi w18) (r + 1) := shZ_ag (fun q a b => A19 q (Nat.ne_of_gt (Nat.lt_of_lt_of_le (ltk r 0 1 rfl) a))) f14
  have f22 : ty w18 (r + 1) = 8 := (A19 _ (nek r 1 0 rfl)).2.2.1.trans f13.1
  have f23 : ty w18 r = 1 := by rw [hw18]; exact f15
  have f24 : gi w18 r = (fun _ => 0) := by rw [hw18]; exact f16
  have f25 : gr w18 r 0 = (r + 1) := by rw [hw18]; exact sr_e
  have n26 : nx w18 = r + 13 := by rw [hw18]; exact ni12
  have u27 : uc w18 = uc w + 12 := by rw [hw18]; exact ui12
  have s28 : us w18 = us w + 319 := by rw [hw18]; exact si12
  have g29 : ∀ q, q < r → gi w18 q = gi w q ∧ gr w18 q = gr w q ∧ ty w18 q = ty w q ∧ ln w18 q = ln w q := fun q hq => by have a := A19 q (Nat.ne_of_lt (Nat.lt_of_lt_of_le hq (Nat.le_add_right r 0))); have b := g17 q hq; exact ⟨a.1.trans b.1, a.2.1.trans b.2.1, a.2.2.1.trans b.2.2.1, a.2.2.2.trans b.2.2.2⟩
  clear A19 f13 f14 f15 f16 g17 hw18 ni12 si12 ui12
  refine WP.blk 1 ?_
  show WP 3 0 16 [vR r] [vR r] w18 Q
  refine WP.blk 1 ?_
  show WP 3 0 19 [vR r] [vR (nx w18), vR r] (mk w18 2 1) Q
  rw [n26]
  obtain ⟨w30, hw30⟩ : ∃ y9, y9 = mk w18 2 1 := ⟨_, rfl⟩
  rw [← hw30]
  have A31 : ∀ q, q ≠ r + 13 → gi w30 q = gi w18 q ∧ gr w30 q = gr w18 q ∧ ty w30 q = ty w18 q ∧ ln w30 q = ln w18 q := fun q hq => by rw [hw30]; exact mk_o (by rw [n26]; exact hq)
  have f32 : isSheet w30.2 (r + 1) := sheet_ag (fun q a b => A31 q (Nat.ne_of_lt (Nat.lt_of_lt_of_le b (lek r 1 12 13 rfl)))) f20
  have f33 : ShZ (gi w30) (r + 1) := shZ_ag (fun q a b => A31 q (Nat.ne_of_lt (Nat.lt_of_lt_of_le b (lek r 1 12 13 rfl)))) f21
  have f34 : ty w30 (r + 1) = 8 := (A31 _ (nek r 1 13 rfl)).2.2.1.trans f22
  have f35 : ty w30 r = 1 := (A31 _ (nek r 0 13 rfl)).2.2.1.trans f23
  have f36 : gi w30 r = (fun _ => 0) := (A31 _ (nek r 0 13 rfl)).1.trans f24
  have f37 : gr w30 r 0 = (r + 1) := (congrFun (A31 _ (nek r 0 13 rfl)).2.1 _).trans f25
  have e38 := mk_e (w := w18) (t := 2) (n := 1)
  rw [← hw30, n26] at e38
  have n39 : nx w30 = r + 14 := by rw [hw30]; exact congrArg (· + 1) n26
  have u40 : uc w30 = uc w + 13 := by rw [hw30]; exact congrArg (· + 1) u27
  have s41 : us w30 = us w + 320 := by rw [hw30]; exact congrArg (· + 1) s28
  have g42 : ∀ q, q < r → gi w30 q = gi w q ∧ gr w30 q = gr w q ∧ ty w30 q = ty w q ∧ ln w30 q = ln w q := fun q hq => by have a := A31 q (Nat.ne_of_lt (Nat.lt_of_lt_of_le hq (Nat.le_add_right r 13))); have b := g29 q hq; exact ⟨a.1.trans b.1, a.2.1.trans b.2.1, a.2.2.1.trans b.2.2.1, a.2.2.2.trans b.2.2.2⟩
  clear A31 f20 f21 f22 f23 f24 f25 g29 hw30 n26 s28 u27
  refine WP.blk 1 ?_
  show WP 3 0 20 [vR r] [vR (r + 13), vR (r + 13), vR r] w30 Q
  refine WP.cl (a := [vR (r + 13)]) (rest := [vR (r + 13), vR r]) rfl rfl rfl rfl trivial (by decide) (c_fits n39 e38.2.1 e38.1 (fun w43 hA44 hni45 hui45 hsi45 f46 => ⟨rfl, ?_⟩))
  show WP 3 0 23 [vR r] [vR (r + 13), vR r] w43 Q
  have A44 : ∀ q, q < r + 13 → gi w43 q = gi w30 q ∧ gr w43 q = gr w30 q ∧ ty w43 q = ty w30 q ∧ ln w43 q = ln w30 q := fun q hq => hA44 q (Nat.zero_le _) hq
  have f47 : isSheet w43.2 (r + 1) := sheet_ag (fun q a b => A44 q (Nat.lt_of_lt_of_le b (lek r 1 12 13 rfl))) f32
  have f48 : ShZ (gi w43) (r + 1) := shZ_ag (fun q a b => A44 q (Nat.lt_of_lt_of_le b (lek r 1 12 13 rfl))) f33
  have f49 : ty w43 (r + 1) = 8 := (A44 _ (ltk r 1 13 rfl)).2.2.1.trans f34
  have f50 : ty w43 r = 1 := (A44 _ (ltk r 0 13 rfl)).2.2.1.trans f35
  have f51 : gi w43 r = (fun _ => 0) := (A44 _ (ltk r 0 13 rfl)).1.trans f36
  have f52 : gr w43 r 0 = (r + 1) := (congrFun (A44 _ (ltk r 0 13 rfl)).2.1 _).trans f37
  have ni45 : nx w43 = r + 15 := hni45
  have ui45 : uc w43 = uc w + 14 := hui45.trans (congrArg (· + 1) u40)
  have si45 : us w43 = us w + 740 := hsi45.trans (congrArg (· + 420) s41)
  have g53 : ∀ q, q < r → gi w43 q = gi w q ∧ gr w43 q = gr w q ∧ ty w43 q = ty w q ∧ ln w43 q = ln w q := fun q hq => by have a := A44 q (Nat.lt_of_lt_of_le hq (Nat.le_add_right r 13)); have b := g42 q hq; exact ⟨a.1.trans b.1, a.2.1.trans b.2.1, a.2.2.1.trans b.2.2.1, a.2.2.2.trans b.2.2.2⟩
  clear A44 e38 f32 f33 f34 f35 f36 f37 g42 hA44 hni45 hsi45 hui45 n39 s41 u40
  refine WP.blk 1 ?_
  show ty w43 r = 1 ∧ WP 3 0 26 [vR r] [] (sr w43 r 1 (r + 13)) Q
  refine ⟨f50, ?_⟩
  obtain ⟨w54, hw54⟩ : ∃ y9, y9 = sr w43 r 1 (r + 13) := ⟨_, rfl⟩
  rw [← hw54]
  have A55 : ∀ q, q ≠ r → gi w54 q = gi w43 q ∧ gr w54 q = gr w43 q ∧ ty w54 q = ty w43 q ∧ ln w54 q = ln w43 q := fun q hq => by rw [hw54]; exact sr_o hq
  have f56 : isSheet w54.2 (r + 1) := sheet_ag (fun q a b => A55 q (Nat.ne_of_gt (Nat.lt_of_lt_of_le (ltk r 0 1 rfl) a))) f47
  have f57 : ShZ (gi w54) (r + 1) := shZ_ag (fun q a b => A55 q (Nat.ne_of_gt (Nat.lt_of_lt_of_le (ltk r 0 1 rfl) a))) f48
  have f58 : ty w54 (r + 1) = 8 := (A55 _ (nek r 1 0 rfl)).2.2.1.trans f49
  have f59 : isFits w54.2 (r + 13) := fits_ag (fun q a b => A55 q (Nat.ne_of_gt (Nat.lt_of_lt_of_le (ltk r 0 13 rfl) a))) f46
  have f60 : ty w54 r = 1 := by rw [hw54]; exact f50
  have f61 : gi w54 r = (fun _ => 0) := by rw [hw54]; exact f51
  have f62 : gr w54 r 0 = (r + 1) := by rw [hw54]; exact (sr_k (by decide)).trans f52
  have f63 : gr w54 r 1 = (r + 13) := by rw [hw54]; exact sr_e
  have n64 : nx w54 = r + 15 := by rw [hw54]; exact ni45
  have u65 : uc w54 = uc w + 14 := by rw [hw54]; exact ui45
  have s66 : us w54 = us w + 740 := by rw [hw54]; exact si45
  have g67 : ∀ q, q < r → gi w54 q = gi w q ∧ gr w54 q = gr w q ∧ ty w54 q = ty w q ∧ ln w54 q = ln w q := fun q hq => by have a := A55 q (Nat.ne_of_lt (Nat.lt_of_lt_of_le hq (Nat.le_add_right r 0))); have b := g53 q hq; exact ⟨a.1.trans b.1, a.2.1.trans b.2.1, a.2.2.1.trans b.2.2.1, a.2.2.2.trans b.2.2.2⟩
  clear A55 f46 f47 f48 f49 f50 f51 f52 g53 hw54 ni45 si45 ui45
  refine WP.blk 1 ?_
  show WP 3 0 27 [vR r] [vR r] w54 Q
  refine WP.blk 1 ?_
  show WP 3 0 30 [vR r] [vR (nx w54), vR r] (mk w54 6 4) Q
  rw [n64]
  obtain ⟨w68, hw68⟩ : ∃ y9, y9 = mk w54 6 4 := ⟨_, rfl⟩
  rw [← hw68]
  have A69 : ∀ q, q ≠ r + 15 → gi w68 q = gi w54 q ∧ gr w68 q = gr w54 q ∧ ty w68 q = ty w54 q ∧ ln w68 q = ln w54 q := fun q hq => by rw [hw68]; exact mk_o (by rw [n64]; exact hq)
  have f70 : isSheet w68.2 (r + 1) := sheet_ag (fun q a b => A69 q (Nat.ne_of_lt (Nat.lt_of_lt_of_le b (lek r 1 12 15 rfl)))) f56
  have f71 : ShZ (gi w68) (r + 1) := shZ_ag (fun q a b => A69 q (Nat.ne_of_lt (Nat.lt_of_lt_of_le b (lek r 1 12 15 rfl)))) f57
  have f72 : ty w68 (r + 1) = 8 := (A69 _ (nek r 1 15 rfl)).2.2.1.trans f58
  have f73 : isFits w68.2 (r + 13) := fits_ag (fun q a b => A69 q (Nat.ne_of_lt (Nat.lt_of_lt_of_le b (lek r 13 2 15 rfl)))) f59
  have f74 : ty w68 r = 1 := (A69 _ (nek r 0 15 rfl)).2.2.1.trans f60
  have f75 : gi w68 r = (fun _ => 0) := (A69 _ (nek r 0 15 rfl)).1.trans f61
  have f76 : gr w68 r 0 = (r + 1) := (congrFun (A69 _ (nek r 0 15 rfl)).2.1 _).trans f62
  have f77 : gr w68 r 1 = (r + 13) := (congrFun (A69 _ (nek r 0 15 rfl)).2.1 _).trans f63
  have e78 := mk_e (w := w54) (t := 6) (n := 4)
  rw [← hw68, n64] at e78
  have n79 : nx w68 = r + 16 := by rw [hw68]; exact congrArg (· + 1) n64
  have u80 : uc w68 = uc w + 15 := by rw [hw68]; exact congrArg (· + 1) u65
  have s81 : us w68 = us w + 744 := by rw [hw68]; exact congrArg (· + 4) s66
  have g82 : ∀ q, q < r → gi w68 q = gi w q ∧ gr w68 q = gr w q ∧ ty w68 q = ty w q ∧ ln w68 q = ln w q := fun q hq => by have a := A69 q (Nat.ne_of_lt (Nat.lt_of_lt_of_le hq (Nat.le_add_right r 15))); have b := g67 q hq; exact ⟨a.1.trans b.1, a.2.1.trans b.2.1, a.2.2.1.trans b.2.2.1, a.2.2.2.trans b.2.2.2⟩
  clear A69 f56 f57 f58 f59 f60 f61 f62 f63 g67 hw68 n64 s66 u65
  refine WP.blk 1 ?_
  show WP 3 0 31 [vR r] [vR (r + 15), vR (r + 15), vR r] w68 Q
  refine WP.cl (a := [vR (r + 15)]) (rest := [vR (r + 15), vR r]) rfl rfl rfl rfl trivial (by decide) (c_plan n79 e78.2.1 e78.1 (fun w83 hA84 hni85 hui85 hsi85 f86 => ⟨rfl, ?_⟩))
  show WP 3 0 34 [vR r] [vR (r + 15), vR r] w83 Q
  have A84 : ∀ q, q < r + 15 → gi w83 q = gi w68 q ∧ gr w83 q = gr w68 q ∧ ty w83 q = ty w68 q ∧ ln w83 q = ln w68 q := fun q hq => hA84 q (Nat.zero_le _) hq
  have f87 : isSheet w83.2 (r + 1) := sheet_ag (fun q a b => A84 q (Nat.lt_of_lt_of_le b (lek r 1 12 15 rfl))) f70
  have f88 : ShZ (gi w83) (r + 1) := shZ_ag (fun q a b => A84 q (Nat.lt_of_lt_of_le b (lek r 1 12 15 rfl))) f71
  have f89 : ty w83 (r + 1) = 8 := (A84 _ (ltk r 1 15 rfl)).2.2.1.trans f72
  have f90 : isFits w83.2 (r + 13) := fits_ag (fun q a b => A84 q (Nat.lt_of_lt_of_le b (lek r 13 2 15 rfl))) f73
  have f91 : ty w83 r = 1 := (A84 _ (ltk r 0 15 rfl)).2.2.1.trans f74
  have f92 : gi w83 r = (fun _ => 0) := (A84 _ (ltk r 0 15 rfl)).1.trans f75
  have f93 : gr w83 r 0 = (r + 1) := (congrFun (A84 _ (ltk r 0 15 rfl)).2.1 _).trans f76
  have f94 : gr w83 r 1 = (r + 13) := (congrFun (A84 _ (ltk r 0 15 rfl)).2.1 _).trans f77
  have ni85 : nx w83 = r + 19 := hni85
  have ui85 : uc w83 = uc w + 18 := hui85.trans (congrArg (· + 3) u80)
  have si85 : us w83 = us w + 779 := hsi85.trans (congrArg (· + 35) s81)
  have g95 : ∀ q, q < r → gi w83 q = gi w q ∧ gr w83 q = gr w q ∧ ty w83 q = ty w q ∧ ln w83 q = ln w q := fun q hq => by have a := A84 q (Nat.lt_of_lt_of_le hq (Nat.le_add_right r 15)); have b := g82 q hq; exact ⟨a.1.trans b.1, a.2.1.trans b.2.1, a.2.2.1.trans b.2.2.1, a.2.2.2.trans b.2.2.2⟩
  clear A84 e78 f70 f71 f72 f73 f74 f75 f76 f77 g82 hA84 hni85 hsi85 hui85 n79 s81 u80
  refine WP.blk 1 ?_
  show ty w83 r = 1 ∧ WP 3 0 37 [vR r] [] (sr w83 r 2 (r + 15)) Q
  refine ⟨f91, ?_⟩
  obtain ⟨w96, hw96⟩ : ∃ y9, y9 = sr w83 r 2 (r + 15) := ⟨_, rfl⟩
  rw [← hw96]
  have A97 : ∀ q, q ≠ r → gi w96 q = gi w83 q ∧ gr w96 q = gr w83 q ∧ ty w96 q = ty w83 q ∧ ln w96 q = ln w83 q := fun q hq => by rw [hw96]; exact sr_o hq
  have f98 : isSheet w96.2 (r + 1) := sheet_ag (fun q a b => A97 q (Nat.ne_of_gt (Nat.lt_of_lt_of_le (ltk r 0 1 rfl) a))) f87
  have f99 : ShZ (gi w96) (r + 1) := shZ_ag (fun q a b => A97 q (Nat.ne_of_gt (Nat.lt_of_lt_of_le (ltk r 0 1 rfl) a))) f88
  have f100 : ty w96 (r + 1) = 8 := (A97 _ (nek r 1 0 rfl)).2.2.1.trans f89
  have f101 : isFits w96.2 (r + 13) := fits_ag (fun q a b => A97 q (Nat.ne_of_gt (Nat.lt_of_lt_of_le (ltk r 0 13 rfl) a))) f90
  have f102 : isPlan w96.2 (r + 15) := plan_ag (fun q a b => A97 q (Nat.ne_of_gt (Nat.lt_of_lt_of_le (ltk r 0 15 rfl) a))) f86
  have f103 : ty w96 r = 1 := by rw [hw96]; exact f91
  have f104 : gi w96 r = (fun _ => 0) := by rw [hw96]; exact f92
  have f105 : gr w96 r 0 = (r + 1) := by rw [hw96]; exact (sr_k (by decide)).trans f93
  have f106 : gr w96 r 1 = (r + 13) := by rw [hw96]; exact (sr_k (by decide)).trans f94
  have f107 : gr w96 r 2 = (r + 15) := by rw [hw96]; exact sr_e
  have n108 : nx w96 = r + 19 := by rw [hw96]; exact ni85
  have u109 : uc w96 = uc w + 18 := by rw [hw96]; exact ui85
  have s110 : us w96 = us w + 779 := by rw [hw96]; exact si85
  have g111 : ∀ q, q < r → gi w96 q = gi w q ∧ gr w96 q = gr w q ∧ ty w96 q = ty w q ∧ ln w96 q = ln w q := fun q hq => by have a := A97 q (Nat.ne_of_lt (Nat.lt_of_lt_of_le hq (Nat.le_add_right r 0))); have b := g95 q hq; exact ⟨a.1.trans b.1, a.2.1.trans b.2.1, a.2.2.1.trans b.2.2.1, a.2.2.2.trans b.2.2.2⟩
  clear A97 f86 f87 f88 f89 f90 f91 f92 f93 f94 g95 hw96 ni85 si85 ui85
  exact WP.ret rfl rfl rfl trivial (k _ (fun q _ hq => g111 q hq) n108 u109 s110 ⟨⟨f103, f105, f106, f107⟩, f98, f101, f102⟩ f99.1)
/-- a new history -/
def HisZ (M : Nat → Int → Int) (h : Nat) : Prop := M h 1 = 0 ∧ CstR M (h + 2) ∧ CstR M (h + 14) ∧ CstR M (h + 26) ∧ CstR M (h + 38)
theorem hisZ_i {M : Nat → Int → Int} {S : SD} {h : Nat} {p : Int → Int} (hr : HisF M S h p 0) : HisZ M h := ⟨hr.1.1, hr.2.1⟩
theorem hisZ_f {M : Nat → Int → Int} {S : SD} {h : Nat} {p : Int → Int} (hr : HisZ M h) : HisF M S h p 0 := ⟨⟨hr.1, by omega, by omega⟩, hr.2, fun j a b => by omega⟩
theorem hisZ_ag {w w' : Wd} {k : Nat} (h : Ag w w' k (k + 50)) (hr : HisZ (gi w) k) : HisZ (gi w') k := by
  obtain ⟨h1, h2, h3, h4, h5⟩ := hr
  exact ⟨(congrFun (h k (by omega) (by omega)).1 1).trans h1, CstR_fr (fun q a b => (h q (by omega) (by omega)).1) h2, CstR_fr (fun q a b => (h q (by omega) (by omega)).1) h3, CstR_fr (fun q a b => (h q (by omega) (by omega)).1) h4, CstR_fr (fun q a b => (h q (by omega) (by omega)).1) h5⟩
def CstX (M : Nat → Int → Int) (c : Nat) : Prop := CstR M (c + 1)
theorem cstX_ag {w w' : Wd} {k : Nat} (h : Ag w w' k (k + 19)) (hr : CstX (gi w) k) : CstX (gi w') k := CstR_fr (fun q a b => (h q (by omega) (by omega)).1) hr
set_option maxHeartbeats 4000000 in
theorem c_rub {w : Wd} {r : Nat} (hn : nx w = r + 1) (ht : ty w r = 9) (hz : gi w r = (fun _ => 0)) (hr : 3 ≤ r) (hT : ty w 2 = 17 ∧ ln w 2 = 26) {Q : Res → Wd → Prop} (k : ∀ w2, Ag w w2 0 r → nx w2 = r + 171 → uc w2 = uc w + 170 → us w2 = us w + 3956 → isRub w2.2 r → ShZ (gi w2) (r + 2) → ShZ (gi w2) (r + 14) → HisZ (gi w2) (r + 26) → gi w2 r 1 = 0 → CstX (gi w2) (r + 152) → Q (0, none) w2) : EvQ 5 62 [vR r] w Q := by
  refine EvQ.enter (ls := [vR r]) (Nat.le_of_ble_eq_true rfl) rfl ?_
  have hu0 : uc w = uc w + 0 := rfl
  have hs0 : us w = us w + 0 := rfl
  have hg0 : ∀ q, q < r → gi w q = gi w q ∧ gr w q = gr w q ∧ ty w q = ty w q ∧ ln w q = ln w q := fun _ _ => ⟨rfl, rfl, rfl, rfl⟩
  refine WP.blk 1 ?_
  show WP 4 62 1 [vR r] [vR r] w Q
  refine WP.blk 1 ?_
  show WP 4 62 4 [vR r] [] w Q
  refine WP.blk 1 ?_
  show WP 4 62 5 [vR r] [vR r] w Q
  refine WP.blk 1 ?_
  show WP 4 62 8 [vR r] [vI 150, vR r] w Q
  refine WP.blk 1 ?_
  show ((0 : Int) ≤ 150 ∧ (150 : Int) ≤ 100000) ∧ WP 4 62 10 [vR r] [vR (nx w), vR r] (mk w 11 150) Q
  refine ⟨⟨by decide, by decide⟩, ?_⟩
  rw [hn]
  obtain ⟨w1, hw1⟩ : ∃ y9, y9 = mk w 11 150 := ⟨_, rfl⟩
  rw [← hw1]
  have A2 : ∀ q, q ≠ r + 1 → gi w1 q = gi w q ∧ gr w1 q = gr w q ∧ ty w1 q = ty w q ∧ ln w1 q = ln w q := fun q hq => by rw [hw1]; exact mk_o (by rw [hn]; exact hq)
  have f3 : ty w1 r = 9 := (A2 _ (nek r 0 1 rfl)).2.2.1.trans ht
  have f4 : gi w1 r = (fun _ => 0) := (A2 _ (nek r 0 1 rfl)).1.trans hz
  have e5 := mk_e (w := w) (t := 11) (n := 150)
  rw [← hw1, hn] at e5
  have n6 : nx w1 = r + 2 := by rw [hw1]; exact congrArg (· + 1) hn
  have u7 : uc w1 = uc w + 1 := by rw [hw1]; exact congrArg (· + 1) hu0
  have s8 : us w1 = us w + 150 := by rw [hw1]; exact congrArg (· + 150) hs0
  have g9 : ∀ q, q < r → gi w1 q = gi w q ∧ gr w1 q = gr w q ∧ ty w1 q = ty w q ∧ ln w1 q = ln w q := fun q hq => by have a := A2 q (Nat.ne_of_lt (Nat.lt_of_lt_of_le hq (Nat.le_add_right r 1))); have b := hg0 q hq; exact ⟨a.1.trans b.1, a.2.1.trans b.2.1, a.2.2.1.trans b.2.2.1, a.2.2.2.trans b.2.2.2⟩
  clear A2 hg0 hs0 hu0 hw1
  refine WP.blk 1 ?_
  show ty w1 r = 9 ∧ WP 4 62 13 [vR r] [] (sr w1 r 0 (r + 1)) Q
  refine ⟨f3, ?_⟩
  obtain ⟨w10, hw10⟩ : ∃ y9, y9 = sr w1 r 0 (r + 1) := ⟨_, rfl⟩
  rw [← hw10]
  have A11 : ∀ q, q ≠ r → gi w10 q = gi w1 q ∧ gr w10 q = gr w1 q ∧ ty w10 q = ty w1 q ∧ ln w10 q = ln w1 q := fun q hq => by rw [hw10]; exact sr_o hq
  have f12 : ty w10 (r + 1) = 11 := (A11 _ (nek r 1 0 rfl)).2.2.1.trans e5.2.1
  have f13 : ln w10 (r + 1) = 150 := (A11 _ (nek r 1 0 rfl)).2.2.2.trans e5.2.2
  have f14 : gi w10 (r + 1) = (fun _ => 0) := (A11 _ (nek r 1 0 rfl)).1.trans e5.1
  have f15 : ty w10 r = 9 := by rw [hw10]; exact f3
  have f16 : gi w10 r = (fun _ => 0) := by rw [hw10]; exact f4
  have f17 : gr w10 r 0 = (r + 1) := by rw [hw10]; exact sr_e
  have n18 : nx w10 = r + 2 := by rw [hw10]; exact n6
  have u19 : uc w10 = uc w + 1 := by rw [hw10]; exact u7
  have s20 : us w10 = us w + 150 := by rw [hw10]; exact s8
  have g21 : ∀ q, q < r → gi w10 q = gi w q ∧ gr w10 q = gr w q ∧ ty w10 q = ty w q ∧ ln w10 q = ln w q := fun q hq => by have a := A11 q (Nat.ne_of_lt (Nat.lt_of_lt_of_le hq (Nat.le_add_right r 0))); have b := g9 q hq; exact ⟨a.1.trans b.1, a.2.1.trans b.2.1, a.2.2.1.trans b.2.2.1, a.2.2.2.trans b.2.2.2⟩
  clear A11 e5 f3 f4 g9 hw10 n6 s8 u7
  refine WP.blk 1 ?_
  show WP 4 62 14 [vR r] [vR r] w10 Q
  refine WP.blk 1 ?_
  show WP 4 62 17 [vR r] [vR (nx w10), vR r] (mk w10 8 6) Q
  rw [n18]
  obtain ⟨w22, hw22⟩ : ∃ y9, y9 = mk w10 8 6 := ⟨_, rfl⟩
  rw [← hw22]
  have A23 : ∀ q, q ≠ r + 2 → gi w22 q = gi w10 q ∧ gr w22 q = gr w10 q ∧ ty w22 q = ty w10 q ∧ ln w22 q = ln w10 q := fun q hq => by rw [hw22]; exact mk_o (by rw [n18]; exact hq)
  have f24 : ty w22 (r + 1) = 11 := (A23 _ (nek r 1 2 rfl)).2.2.1.trans f12
  have f25 : ln w22 (r + 1) = 150 := (A23 _ (nek r 1 2 rfl)).2.2.2.trans f13
  have f26 : gi w22 (r + 1) = (fun _ => 0) := (A23 _ (nek r 1 2 rfl)).1.trans f14
  have f27 : ty w22 r = 9 := (A23 _ (nek r 0 2 rfl)).2.2.1.trans f15
  have f28 : gi w22 r = (fun _ => 0) := (A23 _ (nek r 0 2 rfl)).1.trans f16
  have f29 : gr w22 r 0 = (r + 1) := (congrFun (A23 _ (nek r 0 2 rfl)).2.1 _).trans f17
  have e30 := mk_e (w := w10) (t := 8) (n := 6)
  rw [← hw22, n18] at e30
  have n31 : nx w22 = r + 3 := by rw [hw22]; exact congrArg (· + 1) n18
  have u32 : uc w22 = uc w + 2 := by rw [hw22]; exact congrArg (· + 1) u19
  have s33 : us w22 = us w + 156 := by rw [hw22]; exact congrArg (· + 6) s20
  have g34 : ∀ q, q < r → gi w22 q = gi w q ∧ gr w22 q = gr w q ∧ ty w22 q = ty w q ∧ ln w22 q = ln w q := fun q hq => by have a := A23 q (Nat.ne_of_lt (Nat.lt_of_lt_of_le hq (Nat.le_add_right r 2))); have b := g21 q hq; exact ⟨a.1.trans b.1, a.2.1.trans b.2.1, a.2.2.1.trans b.2.2.1, a.2.2.2.trans b.2.2.2⟩
  clear A23 f12 f13 f14 f15 f16 f17 g21 hw22 n18 s20 u19
  refine WP.blk 1 ?_
  show WP 4 62 18 [vR r] [vR (r + 2), vR (r + 2), vR r] w22 Q
  refine WP.cl (a := [vR (r + 2)]) (rest := [vR (r + 2), vR r]) rfl rfl rfl rfl trivial (by decide) (c_sheet n31 e30.2.1 e30.1 (fun w35 hA36 hni37 hui37 hsi37 f38 f39 => ⟨rfl, ?_⟩))
  show WP 4 62 21 [vR r] [vR (r + 2), vR r] w35 Q
  have A36 : ∀ q, q < r + 2 → gi w35 q = gi w22 q ∧ gr w35 q = gr w22 q ∧ ty w35 q = ty w22 q ∧ ln w35 q = ln w22 q := fun q hq => hA36 q (Nat.zero_le _) hq
  have f40 : ty w35 (r + 1) = 11 := (A36 _ (ltk r 1 2 rfl)).2.2.1.trans f24
  have f41 : ln w35 (r + 1) = 150 := (A36 _ (ltk r 1 2 rfl)).2.2.2.trans f25
  have f42 : gi w35 (r + 1) = (fun _ => 0) := (A36 _ (ltk r 1 2 rfl)).1.trans f26
  have f43 : ty w35 r = 9 := (A36 _ (ltk r 0 2 rfl)).2.2.1.trans f27
  have f44 : gi w35 r = (fun _ => 0) := (A36 _ (ltk r 0 2 rfl)).1.trans f28
  have f45 : gr w35 r 0 = (r + 1) := (congrFun (A36 _ (ltk r 0 2 rfl)).2.1 _).trans f29
  have ni37 : nx w35 = r + 14 := hni37
  have ui37 : uc w35 = uc w + 13 := hui37.trans (congrArg (· + 11) u32)
  have si37 : us w35 = us w + 469 := hsi37.trans (congrArg (· + 313) s33)
  have g46 : ∀ q, q < r → gi w35 q = gi w q ∧ gr w35 q = gr w q ∧ ty w35 q = ty w q ∧ ln w35 q = ln w q := fun q hq => by have a := A36 q (Nat.lt_of_lt_of_le hq (Nat.le_add_right r 2)); have b := g34 q hq; exact ⟨a.1.trans b.1, a.2.1.trans b.2.1, a.2.2.1.trans b.2.2.1, a.2.2.2.trans b.2.2.2⟩
  clear A36 e30 f24 f25 f26 f27 f28 f29 g34 hA36 hni37 hsi37 hui37 n31 s33 u32
  refine WP.blk 1 ?_
  show ty w35 r = 9 ∧ WP 4 62 24 [vR r] [] (sr w35 r 2 (r + 2)) Q
  refine ⟨f43, ?_⟩
  obtain ⟨w47, hw47⟩ : ∃ y9, y9 = sr w35 r 2 (r + 2) := ⟨_, rfl⟩
  rw [← hw47]
  have A48 : ∀ q, q ≠ r → gi w47 q = gi w35 q ∧ gr w47 q = gr w35 q ∧ ty w47 q = ty w35 q ∧ ln w47 q = ln w35 q := fun q hq => by rw [hw47]; exact sr_o hq
  have f49 : ty w47 (r + 1) = 11 := (A48 _ (nek r 1 0 rfl)).2.2.1.trans f40
  have f50 : ln w47 (r + 1) = 150 := (A48 _ (nek r 1 0 rfl)).2.2.2.trans f41
  have f51 : gi w47 (r + 1) = (fun _ => 0) := (A48 _ (nek r 1 0 rfl)).1.trans f42
  have f52 : isSheet w47.2 (r + 2) := sheet_ag (fun q a b => A48 q (Nat.ne_of_gt (Nat.lt_of_lt_of_le (ltk r 0 2 rfl) a))) f38
  have f53 : ShZ (gi w47) (r + 2) := shZ_ag (fun q a b => A48 q (Nat.ne_of_gt (Nat.lt_of_lt_of_le (ltk r 0 2 rfl) a))) f39
  have f54 : ty w47 r = 9 := by rw [hw47]; exact f43
  have f55 : gi w47 r = (fun _ => 0) := by rw [hw47]; exact f44
  have f56 : gr w47 r 0 = (r + 1) := by rw [hw47]; exact (sr_k (by decide)).trans f45
  have f57 : gr w47 r 2 = (r + 2) := by rw [hw47]; exact sr_e
  have n58 : nx w47 = r + 14 := by rw [hw47]; exact ni37
  have u59 : uc w47 = uc w + 13 := by rw [hw47]; exact ui37
  have s60 : us w47 = us w + 469 := by rw [hw47]; exact si37
  have g61 : ∀ q, q < r → gi w47 q = gi w q ∧ gr w47 q = gr w q ∧ ty w47 q = ty w q ∧ ln w47 q = ln w q := fun q hq => by have a := A48 q (Nat.ne_of_lt (Nat.lt_of_lt_of_le hq (Nat.le_add_right r 0))); have b := g46 q hq; exact ⟨a.1.trans b.1, a.2.1.trans b.2.1, a.2.2.1.trans b.2.2.1, a.2.2.2.trans b.2.2.2⟩
  clear A48 f38 f39 f40 f41 f42 f43 f44 f45 g46 hw47 ni37 si37 ui37
  refine WP.blk 1 ?_
  show WP 4 62 25 [vR r] [vR r] w47 Q
  refine WP.blk 1 ?_
  show WP 4 62 28 [vR r] [vR (nx w47), vR r] (mk w47 8 6) Q
  rw [n58]
  obtain ⟨w62, hw62⟩ : ∃ y9, y9 = mk w47 8 6 := ⟨_, rfl⟩
  rw [← hw62]
  have A63 : ∀ q, q ≠ r + 14 → gi w62 q = gi w47 q ∧ gr w62 q = gr w47 q ∧ ty w62 q = ty w47 q ∧ ln w62 q = ln w47 q := fun q hq => by rw [hw62]; exact mk_o (by rw [n58]; exact hq)
  have f64 : ty w62 (r + 1) = 11 := (A63 _ (nek r 1 14 rfl)).2.2.1.trans f49
  have f65 : ln w62 (r + 1) = 150 := (A63 _ (nek r 1 14 rfl)).2.2.2.trans f50
  have f66 : gi w62 (r + 1) = (fun _ => 0) := (A63 _ (nek r 1 14 rfl)).1.trans f51
  have f67 : isSheet w62.2 (r + 2) := sheet_ag (fun q a b => A63 q (Nat.ne_of_lt (Nat.lt_of_lt_of_le b (lek r 2 12 14 rfl)))) f52
  have f68 : ShZ (gi w62) (r + 2) := shZ_ag (fun q a b => A63 q (Nat.ne_of_lt (Nat.lt_of_lt_of_le b (lek r 2 12 14 rfl)))) f53
  have f69 : ty w62 r = 9 := (A63 _ (nek r 0 14 rfl)).2.2.1.trans f54
  have f70 : gi w62 r = (fun _ => 0) := (A63 _ (nek r 0 14 rfl)).1.trans f55
  have f71 : gr w62 r 0 = (r + 1) := (congrFun (A63 _ (nek r 0 14 rfl)).2.1 _).trans f56
  have f72 : gr w62 r 2 = (r + 2) := (congrFun (A63 _ (nek r 0 14 rfl)).2.1 _).trans f57
  have e73 := mk_e (w := w47) (t := 8) (n := 6)
  rw [← hw62, n58] at e73
  have n74 : nx w62 = r + 15 := by rw [hw62]; exact congrArg (· + 1) n58
  have u75 : uc w62 = uc w + 14 := by rw [hw62]; exact congrArg (· + 1) u59
  have s76 : us w62 = us w + 475 := by rw [hw62]; exact congrArg (· + 6) s60
  have g77 : ∀ q, q < r → gi w62 q = gi w q ∧ gr w62 q = gr w q ∧ ty w62 q = ty w q ∧ ln w62 q = ln w q := fun q hq => by have a := A63 q (Nat.ne_of_lt (Nat.lt_of_lt_of_le hq (Nat.le_add_right r 14))); have b := g61 q hq; exact ⟨a.1.trans b.1, a.2.1.trans b.2.1, a.2.2.1.trans b.2.2.1, a.2.2.2.trans b.2.2.2⟩
  clear A63 f49 f50 f51 f52 f53 f54 f55 f56 f57 g61 hw62 n58 s60 u59
  refine WP.blk 1 ?_
  show WP 4 62 29 [vR r] [vR (r + 14), vR (r + 14), vR r] w62 Q
  refine WP.cl (a := [vR (r + 14)]) (rest := [vR (r + 14), vR r]) rfl rfl rfl rfl trivial (by decide) (c_sheet n74 e73.2.1 e73.1 (fun w78 hA79 hni80 hui80 hsi80 f81 f82 => ⟨rfl, ?_⟩))
  show WP 4 62 32 [vR r] [vR (r + 14), vR r] w78 Q
  have A79 : ∀ q, q < r + 14 → gi w78 q = gi w62 q ∧ gr w78 q = gr w62 q ∧ ty w78 q = ty w62 q ∧ ln w78 q = ln w62 q := fun q hq => hA79 q (Nat.zero_le _) hq
  have f83 : ty w78 (r + 1) = 11 := (A79 _ (ltk r 1 14 rfl)).2.2.1.trans f64
  have f84 : ln w78 (r + 1) = 150 := (A79 _ (ltk r 1 14 rfl)).2.2.2.trans f65
  have f85 : gi w78 (r + 1) = (fun _ => 0) := (A79 _ (ltk r 1 14 rfl)).1.trans f66
  have f86 : isSheet w78.2 (r + 2) := sheet_ag (fun q a b => A79 q (Nat.lt_of_lt_of_le b (lek r 2 12 14 rfl))) f67
  have f87 : ShZ (gi w78) (r + 2) := shZ_ag (fun q a b => A79 q (Nat.lt_of_lt_of_le b (lek r 2 12 14 rfl))) f68
  have f88 : ty w78 r = 9 := (A79 _ (ltk r 0 14 rfl)).2.2.1.trans f69
  have f89 : gi w78 r = (fun _ => 0) := (A79 _ (ltk r 0 14 rfl)).1.trans f70
  have f90 : gr w78 r 0 = (r + 1) := (congrFun (A79 _ (ltk r 0 14 rfl)).2.1 _).trans f71
  have f91 : gr w78 r 2 = (r + 2) := (congrFun (A79 _ (ltk r 0 14 rfl)).2.1 _).trans f72
  have ni80 : nx w78 = r + 26 := hni80
  have ui80 : uc w78 = uc w + 25 := hui80.trans (congrArg (· + 11) u75)
  have si80 : us w78 = us w + 788 := hsi80.trans (congrArg (· + 313) s76)
  have g92 : ∀ q, q < r → gi w78 q = gi w q ∧ gr w78 q = gr w q ∧ ty w78 q = ty w q ∧ ln w78 q = ln w q := fun q hq => by have a := A79 q (Nat.lt_of_lt_of_le hq (Nat.le_add_right r 14)); have b := g77 q hq; exact ⟨a.1.trans b.1, a.2.1.trans b.2.1, a.2.2.1.trans b.2.2.1, a.2.2.2.trans b.2.2.2⟩
  clear A79 e73 f64 f65 f66 f67 f68 f69 f70 f71 f72 g77 hA79 hni80 hsi80 hui80 n74 s76 u75
  refine WP.blk 1 ?_
  show ty w78 r = 9 ∧ WP 4 62 35 [vR r] [] (sr w78 r 3 (r + 14)) Q
  refine ⟨f88, ?_⟩
  obtain ⟨w93, hw93⟩ : ∃ y9, y9 = sr w78 r 3 (r + 14) := ⟨_, rfl⟩
  rw [← hw93]
  have A94 : ∀ q, q ≠ r → gi w93 q = gi w78 q ∧ gr w93 q = gr w78 q ∧ ty w93 q = ty w78 q ∧ ln w93 q = ln w78 q := fun q hq => by rw [hw93]; exact sr_o hq
  have f95 : ty w93 (r + 1) = 11 := (A94 _ (nek r 1 0 rfl)).2.2.1.trans f83
  have f96 : ln w93 (r + 1) = 150 := (A94 _ (nek r 1 0 rfl)).2.2.2.trans f84
  have f97 : gi w93 (r + 1) = (fun _ => 0) := (A94 _ (nek r 1 0 rfl)).1.trans f85
  have f98 : isSheet w93.2 (r + 2) := sheet_ag (fun q a b => A94 q (Nat.ne_of_gt (Nat.lt_of_lt_of_le (ltk r 0 2 rfl) a))) f86
  have f99 : ShZ (gi w93) (r + 2) := shZ_ag (fun q a b => A94 q (Nat.ne_of_gt (Nat.lt_of_lt_of_le (ltk r 0 2 rfl) a))) f87
  have f100 : isSheet w93.2 (r + 14) := sheet_ag (fun q a b => A94 q (Nat.ne_of_gt (Nat.lt_of_lt_of_le (ltk r 0 14 rfl) a))) f81
  have f101 : ShZ (gi w93) (r + 14) := shZ_ag (fun q a b => A94 q (Nat.ne_of_gt (Nat.lt_of_lt_of_le (ltk r 0 14 rfl) a))) f82
  have f102 : ty w93 r = 9 := by rw [hw93]; exact f88
  have f103 : gi w93 r = (fun _ => 0) := by rw [hw93]; exact f89
  have f104 : gr w93 r 0 = (r + 1) := by rw [hw93]; exact (sr_k (by decide)).trans f90
  have f105 : gr w93 r 2 = (r + 2) := by rw [hw93]; exact (sr_k (by decide)).trans f91
  have f106 : gr w93 r 3 = (r + 14) := by rw [hw93]; exact sr_e
  have n107 : nx w93 = r + 26 := by rw [hw93]; exact ni80
  have u108 : uc w93 = uc w + 25 := by rw [hw93]; exact ui80
  have s109 : us w93 = us w + 788 := by rw [hw93]; exact si80
  have g110 : ∀ q, q < r → gi w93 q = gi w q ∧ gr w93 q = gr w q ∧ ty w93 q = ty w q ∧ ln w93 q = ln w q := fun q hq => by have a := A94 q (Nat.ne_of_lt (Nat.lt_of_lt_of_le hq (Nat.le_add_right r 0))); have b := g92 q hq; exact ⟨a.1.trans b.1, a.2.1.trans b.2.1, a.2.2.1.trans b.2.2.1, a.2.2.2.trans b.2.2.2⟩
  clear A94 f81 f82 f83 f84 f85 f86 f87 f88 f89 f90 f91 g92 hw93 ni80 si80 ui80
  refine WP.blk 1 ?_
  show WP 4 62 36 [vR r] [vR r] w93 Q
  refine WP.blk 1 ?_
  show WP 4 62 39 [vR r] [vR (nx w93), vR r] (mk w93 3 2) Q
  rw [n107]
  obtain ⟨w111, hw111⟩ : ∃ y9, y9 = mk w93 3 2 := ⟨_, rfl⟩
  rw [← hw111]
  have A112 : ∀ q, q ≠ r + 26 → gi w111 q = gi w93 q ∧ gr w111 q = gr w93 q ∧ ty w111 q = ty w93 q ∧ ln w111 q = ln w93 q := fun q hq => by rw [hw111]; exact mk_o (by rw [n107]; exact hq)
  have f113 : ty w111 (r + 1) = 11 := (A112 _ (nek r 1 26 rfl)).2.2.1.trans f95
  have f114 : ln w111 (r + 1) = 150 := (A112 _ (nek r 1 26 rfl)).2.2.2.trans f96
  have f115 : gi w111 (r + 1) = (fun _ => 0) := (A112 _ (nek r 1 26 rfl)).1.trans f97
  have f116 : isSheet w111.2 (r + 2) := sheet_ag (fun q a b => A112 q (Nat.ne_of_lt (Nat.lt_of_lt_of_le b (lek r 2 12 26 rfl)))) f98
  have f117 : ShZ (gi w111) (r + 2) := shZ_ag (fun q a b => A112 q (Nat.ne_of_lt (Nat.lt_of_lt_of_le b (lek r 2 12 26 rfl)))) f99
  have f118 : isSheet w111.2 (r + 14) := sheet_ag (fun q a b => A112 q (Nat.ne_of_lt (Nat.lt_of_lt_of_le b (lek r 14 12 26 rfl)))) f100
  have f119 : ShZ (gi w111) (r + 14) := shZ_ag (fun q a b => A112 q (Nat.ne_of_lt (Nat.lt_of_lt_of_le b (lek r 14 12 26 rfl)))) f101
  have f120 : ty w111 r = 9 := (A112 _ (nek r 0 26 rfl)).2.2.1.trans f102
  have f121 : gi w111 r = (fun _ => 0) := (A112 _ (nek r 0 26 rfl)).1.trans f103
  have f122 : gr w111 r 0 = (r + 1) := (congrFun (A112 _ (nek r 0 26 rfl)).2.1 _).trans f104
  have f123 : gr w111 r 2 = (r + 2) := (congrFun (A112 _ (nek r 0 26 rfl)).2.1 _).trans f105
  have f124 : gr w111 r 3 = (r + 14) := (congrFun (A112 _ (nek r 0 26 rfl)).2.1 _).trans f106
  have e125 := mk_e (w := w93) (t := 3) (n := 2)
  rw [← hw111, n107] at e125
  have n126 : nx w111 = r + 27 := by rw [hw111]; exact congrArg (· + 1) n107
  have u127 : uc w111 = uc w + 26 := by rw [hw111]; exact congrArg (· + 1) u108
  have s128 : us w111 = us w + 790 := by rw [hw111]; exact congrArg (· + 2) s109
  have g129 : ∀ q, q < r → gi w111 q = gi w q ∧ gr w111 q = gr w q ∧ ty w111 q = ty w q ∧ ln w111 q = ln w q := fun q hq => by have a := A112 q (Nat.ne_of_lt (Nat.lt_of_lt_of_le hq (Nat.le_add_right r 26))); have b := g110 q hq; exact ⟨a.1.trans b.1, a.2.1.trans b.2.1, a.2.2.1.trans b.2.2.1, a.2.2.2.trans b.2.2.2⟩
  clear A112 f100 f101 f102 f103 f104 f105 f106 f95 f96 f97 f98 f99 g110 hw111 n107 s109 u108
  refine WP.blk 1 ?_
  show WP 4 62 40 [vR r] [vR (r + 26), vR (r + 26), vR r] w111 Q
  refine WP.cl (a := [vR (r + 26)]) (rest := [vR (r + 26), vR r]) rfl rfl rfl rfl trivial (by decide) (c_hist (p := fun _ => 0) n126 e125.2.1 e125.1 (fun w130 hA131 hni132 hui132 hsi132 f133 f134 => ⟨rfl, ?_⟩))
  show WP 4 62 43 [vR r] [vR (r + 26), vR r] w130 Q
  have A131 : ∀ q, q < r + 26 → gi w130 q = gi w111 q ∧ gr w130 q = gr w111 q ∧ ty w130 q = ty w111 q ∧ ln w130 q = ln w111 q := fun q hq => hA131 q (Nat.zero_le _) hq
  have f135 : ty w130 (r + 1) = 11 := (A131 _ (ltk r 1 26 rfl)).2.2.1.trans f113
  have f136 : ln w130 (r + 1) = 150 := (A131 _ (ltk r 1 26 rfl)).2.2.2.trans f114
  have f137 : gi w130 (r + 1) = (fun _ => 0) := (A131 _ (ltk r 1 26 rfl)).1.trans f115
  have f138 : isSheet w130.2 (r + 2) := sheet_ag (fun q a b => A131 q (Nat.lt_of_lt_of_le b (lek r 2 12 26 rfl))) f116
  have f139 : ShZ (gi w130) (r + 2) := shZ_ag (fun q a b => A131 q (Nat.lt_of_lt_of_le b (lek r 2 12 26 rfl))) f117
  have f140 : isSheet w130.2 (r + 14) := sheet_ag (fun q a b => A131 q (Nat.lt_of_lt_of_le b (lek r 14 12 26 rfl))) f118
  have f141 : ShZ (gi w130) (r + 14) := shZ_ag (fun q a b => A131 q (Nat.lt_of_lt_of_le b (lek r 14 12 26 rfl))) f119
  have f142 : ty w130 r = 9 := (A131 _ (ltk r 0 26 rfl)).2.2.1.trans f120
  have f143 : gi w130 r = (fun _ => 0) := (A131 _ (ltk r 0 26 rfl)).1.trans f121
  have f144 : gr w130 r 0 = (r + 1) := (congrFun (A131 _ (ltk r 0 26 rfl)).2.1 _).trans f122
  have f145 : gr w130 r 2 = (r + 2) := (congrFun (A131 _ (ltk r 0 26 rfl)).2.1 _).trans f123
  have f146 : gr w130 r 3 = (r + 14) := (congrFun (A131 _ (ltk r 0 26 rfl)).2.1 _).trans f124
  have ni132 : nx w130 = r + 76 := hni132
  have ui132 : uc w130 = uc w + 75 := hui132.trans (congrArg (· + 49) u127)
  have si132 : us w130 = us w + 2070 := hsi132.trans (congrArg (· + 1280) s128)
  have g147 : ∀ q, q < r → gi w130 q = gi w q ∧ gr w130 q = gr w q ∧ ty w130 q = ty w q ∧ ln w130 q = ln w q := fun q hq => by have a := A131 q (Nat.lt_of_lt_of_le hq (Nat.le_add_right r 26)); have b := g129 q hq; exact ⟨a.1.trans b.1, a.2.1.trans b.2.1, a.2.2.1.trans b.2.2.1, a.2.2.2.trans b.2.2.2⟩
  clear A131 e125 f113 f114 f115 f116 f117 f118 f119 f120 f121 f122 f123 f124 g129 hA131 hni132 hsi132 hui132 n126 s128 u127
  have f148 : HisZ (gi w130) (r + 26) := hisZ_i f134
  refine WP.blk 1 ?_
  show ty w130 r = 9 ∧ WP 4 62 46 [vR r] [] (sr w130 r 4 (r + 26)) Q
  refine ⟨f142, ?_⟩
  obtain ⟨w149, hw149⟩ : ∃ y9, y9 = sr w130 r 4 (r + 26) := ⟨_, rfl⟩
  rw [← hw149]
  have A150 : ∀ q, q ≠ r → gi w149 q = gi w130 q ∧ gr w149 q = gr w130 q ∧ ty w149 q = ty w130 q ∧ ln w149 q = ln w130 q := fun q hq => by rw [hw149]; exact sr_o hq
  have f151 : ty w149 (r + 1) = 11 := (A150 _ (nek r 1 0 rfl)).2.2.1.trans f135
  have f152 : ln w149 (r + 1) = 150 := (A150 _ (nek r 1 0 rfl)).2.2.2.trans f136
  have f153 : gi w149 (r + 1) = (fun _ => 0) := (A150 _ (nek r 1 0 rfl)).1.trans f137
  have f154 : isSheet w149.2 (r + 2) := sheet_ag (fun q a b => A150 q (Nat.ne_of_gt (Nat.lt_of_lt_of_le (ltk r 0 2 rfl) a))) f138
  have f155 : ShZ (gi w149) (r + 2) := shZ_ag (fun q a b => A150 q (Nat.ne_of_gt (Nat.lt_of_lt_of_le (ltk r 0 2 rfl) a))) f139
  have f156 : isSheet w149.2 (r + 14) := sheet_ag (fun q a b => A150 q (Nat.ne_of_gt (Nat.lt_of_lt_of_le (ltk r 0 14 rfl) a))) f140
  have f157 : ShZ (gi w149) (r + 14) := shZ_ag (fun q a b => A150 q (Nat.ne_of_gt (Nat.lt_of_lt_of_le (ltk r 0 14 rfl) a))) f141
  have f158 : isHist w149.2 (r + 26) := hist_ag (fun q a b => A150 q (Nat.ne_of_gt (Nat.lt_of_lt_of_le (ltk r 0 26 rfl) a))) f133
  have f159 : HisZ (gi w149) (r + 26) := hisZ_ag (fun q a b => A150 q (Nat.ne_of_gt (Nat.lt_of_lt_of_le (ltk r 0 26 rfl) a))) f148
  have f160 : ty w149 r = 9 := by rw [hw149]; exact f142
  have f161 : gi w149 r = (fun _ => 0) := by rw [hw149]; exact f143
  have f162 : gr w149 r 0 = (r + 1) := by rw [hw149]; exact (sr_k (by decide)).trans f144
  have f163 : gr w149 r 2 = (r + 2) := by rw [hw149]; exact (sr_k (by decide)).trans f145
  have f164 : gr w149 r 3 = (r + 14) := by rw [hw149]; exact (sr_k (by decide)).trans f146
  have f165 : gr w149 r 4 = (r + 26) := by rw [hw149]; exact sr_e
  have n166 : nx w149 = r + 76 := by rw [hw149]; exact ni132
  have u167 : uc w149 = uc w + 75 := by rw [hw149]; exact ui132
  have s168 : us w149 = us w + 2070 := by rw [hw149]; exact si132
  have g169 : ∀ q, q < r → gi w149 q = gi w q ∧ gr w149 q = gr w q ∧ ty w149 q = ty w q ∧ ln w149 q = ln w q := fun q hq => by have a := A150 q (Nat.ne_of_lt (Nat.lt_of_lt_of_le hq (Nat.le_add_right r 0))); have b := g147 q hq; exact ⟨a.1.trans b.1, a.2.1.trans b.2.1, a.2.2.1.trans b.2.2.1, a.2.2.2.trans b.2.2.2⟩
  clear A150 f133 f134 f135 f136 f137 f138 f139 f140 f141 f142 f143 f144 f145 f146 f148 g147 hw149 ni132 si132 ui132
  refine WP.blk 1 ?_
  show WP 4 62 47 [vR r] [vR r] w149 Q
  refine WP.blk 1 ?_
  show WP 4 62 50 [vR r] [vR (nx w149), vR r] (mk w149 2 1) Q
  rw [n166]
  obtain ⟨w170, hw170⟩ : ∃ y9, y9 = mk w149 2 1 := ⟨_, rfl⟩
  rw [← hw170]
  have A171 : ∀ q, q ≠ r + 76 → gi w170 q = gi w149 q ∧ gr w170 q = gr w149 q ∧ ty w170 q = ty w149 q ∧ ln w170 q = ln w149 q := fun q hq => by rw [hw170]; exact mk_o (by rw [n166]; exact hq)
  have f172 : ty w170 (r + 1) = 11 := (A171 _ (nek r 1 76 rfl)).2.2.1.trans f151
  have f173 : ln w170 (r + 1) = 150 := (A171 _ (nek r 1 76 rfl)).2.2.2.trans f152
  have f174 : gi w170 (r + 1) = (fun _ => 0) := (A171 _ (nek r 1 76 rfl)).1.trans f153
  have f175 : isSheet w170.2 (r + 2) := sheet_ag (fun q a b => A171 q (Nat.ne_of_lt (Nat.lt_of_lt_of_le b (lek r 2 12 76 rfl)))) f154
  have f176 : ShZ (gi w170) (r + 2) := shZ_ag (fun q a b => A171 q (Nat.ne_of_lt (Nat.lt_of_lt_of_le b (lek r 2 12 76 rfl)))) f155
  have f177 : isSheet w170.2 (r + 14) := sheet_ag (fun q a b => A171 q (Nat.ne_of_lt (Nat.lt_of_lt_of_le b (lek r 14 12 76 rfl)))) f156
  have f178 : ShZ (gi w170) (r + 14) := shZ_ag (fun q a b => A171 q (Nat.ne_of_lt (Nat.lt_of_lt_of_le b (lek r 14 12 76 rfl)))) f157
  have f179 : isHist w170.2 (r + 26) := hist_ag (fun q a b => A171 q (Nat.ne_of_lt (Nat.lt_of_lt_of_le b (lek r 26 50 76 rfl)))) f158
  have f180 : HisZ (gi w170) (r + 26) := hisZ_ag (fun q a b => A171 q (Nat.ne_of_lt (Nat.lt_of_lt_of_le b (lek r 26 50 76 rfl)))) f159
  have f181 : ty w170 r = 9 := (A171 _ (nek r 0 76 rfl)).2.2.1.trans f160
  have f182 : gi w170 r = (fun _ => 0) := (A171 _ (nek r 0 76 rfl)).1.trans f161
  have f183 : gr w170 r 0 = (r + 1) := (congrFun (A171 _ (nek r 0 76 rfl)).2.1 _).trans f162
  have f184 : gr w170 r 2 = (r + 2) := (congrFun (A171 _ (nek r 0 76 rfl)).2.1 _).trans f163
  have f185 : gr w170 r 3 = (r + 14) := (congrFun (A171 _ (nek r 0 76 rfl)).2.1 _).trans f164
  have f186 : gr w170 r 4 = (r + 26) := (congrFun (A171 _ (nek r 0 76 rfl)).2.1 _).trans f165
  have e187 := mk_e (w := w149) (t := 2) (n := 1)
  rw [← hw170, n166] at e187
  have n188 : nx w170 = r + 77 := by rw [hw170]; exact congrArg (· + 1) n166
  have u189 : uc w170 = uc w + 76 := by rw [hw170]; exact congrArg (· + 1) u167
  have s190 : us w170 = us w + 2071 := by rw [hw170]; exact congrArg (· + 1) s168
  have g191 : ∀ q, q < r → gi w170 q = gi w q ∧ gr w170 q = gr w q ∧ ty w170 q = ty w q ∧ ln w170 q = ln w q := fun q hq => by have a := A171 q (Nat.ne_of_lt (Nat.lt_of_lt_of_le hq (Nat.le_add_right r 76))); have b := g169 q hq; exact ⟨a.1.trans b.1, a.2.1.trans b.2.1, a.2.2.1.trans b.2.2.1, a.2.2.2.trans b.2.2.2⟩
  clear A171 f151 f152 f153 f154 f155 f156 f157 f158 f159 f160 f161 f162 f163 f164 f165 g169 hw170 n166 s168 u167
  refine WP.blk 1 ?_
  show WP 4 62 51 [vR r] [vR (r + 76), vR (r + 76), vR r] w170 Q
  refine WP.cl (a := [vR (r + 76)]) (rest := [vR (r + 76), vR r]) rfl rfl rfl rfl trivial (by decide) (c_fits n188 e187.2.1 e187.1 (fun w192 hA193 hni194 hui194 hsi194 f195 => ⟨rfl, ?_⟩))
  show WP 4 62 54 [vR r] [vR (r + 76), vR r] w192 Q
  have A193 : ∀ q, q < r + 76 → gi w192 q = gi w170 q ∧ gr w192 q = gr w170 q ∧ ty w192 q = ty w170 q ∧ ln w192 q = ln w170 q := fun q hq => hA193 q (Nat.zero_le _) hq
  have f196 : ty w192 (r + 1) = 11 := (A193 _ (ltk r 1 76 rfl)).2.2.1.trans f172
  have f197 : ln w192 (r + 1) = 150 := (A193 _ (ltk r 1 76 rfl)).2.2.2.trans f173
  have f198 : gi w192 (r + 1) = (fun _ => 0) := (A193 _ (ltk r 1 76 rfl)).1.trans f174
  have f199 : isSheet w192.2 (r + 2) := sheet_ag (fun q a b => A193 q (Nat.lt_of_lt_of_le b (lek r 2 12 76 rfl))) f175
  have f200 : ShZ (gi w192) (r + 2) := shZ_ag (fun q a b => A193 q (Nat.lt_of_lt_of_le b (lek r 2 12 76 rfl))) f176
  have f201 : isSheet w192.2 (r + 14) := sheet_ag (fun q a b => A193 q (Nat.lt_of_lt_of_le b (lek r 14 12 76 rfl))) f177
  have f202 : ShZ (gi w192) (r + 14) := shZ_ag (fun q a b => A193 q (Nat.lt_of_lt_of_le b (lek r 14 12 76 rfl))) f178
  have f203 : isHist w192.2 (r + 26) := hist_ag (fun q a b => A193 q (Nat.lt_of_lt_of_le b (lek r 26 50 76 rfl))) f179
  have f204 : HisZ (gi w192) (r + 26) := hisZ_ag (fun q a b => A193 q (Nat.lt_of_lt_of_le b (lek r 26 50 76 rfl))) f180
  have f205 : ty w192 r = 9 := (A193 _ (ltk r 0 76 rfl)).2.2.1.trans f181
  have f206 : gi w192 r = (fun _ => 0) := (A193 _ (ltk r 0 76 rfl)).1.trans f182
  have f207 : gr w192 r 0 = (r + 1) := (congrFun (A193 _ (ltk r 0 76 rfl)).2.1 _).trans f183
  have f208 : gr w192 r 2 = (r + 2) := (congrFun (A193 _ (ltk r 0 76 rfl)).2.1 _).trans f184
  have f209 : gr w192 r 3 = (r + 14) := (congrFun (A193 _ (ltk r 0 76 rfl)).2.1 _).trans f185
  have f210 : gr w192 r 4 = (r + 26) := (congrFun (A193 _ (ltk r 0 76 rfl)).2.1 _).trans f186
  have ni194 : nx w192 = r + 78 := hni194
  have ui194 : uc w192 = uc w + 77 := hui194.trans (congrArg (· + 1) u189)
  have si194 : us w192 = us w + 2491 := hsi194.trans (congrArg (· + 420) s190)
  have g211 : ∀ q, q < r → gi w192 q = gi w q ∧ gr w192 q = gr w q ∧ ty w192 q = ty w q ∧ ln w192 q = ln w q := fun q hq => by have a := A193 q (Nat.lt_of_lt_of_le hq (Nat.le_add_right r 76)); have b := g191 q hq; exact ⟨a.1.trans b.1, a.2.1.trans b.2.1, a.2.2.1.trans b.2.2.1, a.2.2.2.trans b.2.2.2⟩
  clear A193 e187 f172 f173 f174 f175 f176 f177 f178 f179 f180 f181 f182 f183 f184 f185 f186 g191 hA193 hni194 hsi194 hui194 n188 s190 u189
  refine WP.blk 1 ?_
  show ty w192 r = 9 ∧ WP 4 62 57 [vR r] [] (sr w192 r 5 (r + 76)) Q
  refine ⟨f205, ?_⟩
  obtain ⟨w212, hw212⟩ : ∃ y9, y9 = sr w192 r 5 (r + 76) := ⟨_, rfl⟩
  rw [← hw212]
  have A213 : ∀ q, q ≠ r → gi w212 q = gi w192 q ∧ gr w212 q = gr w192 q ∧ ty w212 q = ty w192 q ∧ ln w212 q = ln w192 q := fun q hq => by rw [hw212]; exact sr_o hq
  have f214 : ty w212 (r + 1) = 11 := (A213 _ (nek r 1 0 rfl)).2.2.1.trans f196
  have f215 : ln w212 (r + 1) = 150 := (A213 _ (nek r 1 0 rfl)).2.2.2.trans f197
  have f216 : gi w212 (r + 1) = (fun _ => 0) := (A213 _ (nek r 1 0 rfl)).1.trans f198
  have f217 : isSheet w212.2 (r + 2) := sheet_ag (fun q a b => A213 q (Nat.ne_of_gt (Nat.lt_of_lt_of_le (ltk r 0 2 rfl) a))) f199
  have f218 : ShZ (gi w212) (r + 2) := shZ_ag (fun q a b => A213 q (Nat.ne_of_gt (Nat.lt_of_lt_of_le (ltk r 0 2 rfl) a))) f200
  have f219 : isSheet w212.2 (r + 14) := sheet_ag (fun q a b => A213 q (Nat.ne_of_gt (Nat.lt_of_lt_of_le (ltk r 0 14 rfl) a))) f201
  have f220 : ShZ (gi w212) (r + 14) := shZ_ag (fun q a b => A213 q (Nat.ne_of_gt (Nat.lt_of_lt_of_le (ltk r 0 14 rfl) a))) f202
  have f221 : isHist w212.2 (r + 26) := hist_ag (fun q a b => A213 q (Nat.ne_of_gt (Nat.lt_of_lt_of_le (ltk r 0 26 rfl) a))) f203
  have f222 : HisZ (gi w212) (r + 26) := hisZ_ag (fun q a b => A213 q (Nat.ne_of_gt (Nat.lt_of_lt_of_le (ltk r 0 26 rfl) a))) f204
  have f223 : isFits w212.2 (r + 76) := fits_ag (fun q a b => A213 q (Nat.ne_of_gt (Nat.lt_of_lt_of_le (ltk r 0 76 rfl) a))) f195
  have f224 : ty w212 r = 9 := by rw [hw212]; exact f205
  have f225 : gi w212 r = (fun _ => 0) := by rw [hw212]; exact f206
  have f226 : gr w212 r 0 = (r + 1) := by rw [hw212]; exact (sr_k (by decide)).trans f207
  have f227 : gr w212 r 2 = (r + 2) := by rw [hw212]; exact (sr_k (by decide)).trans f208
  have f228 : gr w212 r 3 = (r + 14) := by rw [hw212]; exact (sr_k (by decide)).trans f209
  have f229 : gr w212 r 4 = (r + 26) := by rw [hw212]; exact (sr_k (by decide)).trans f210
  have f230 : gr w212 r 5 = (r + 76) := by rw [hw212]; exact sr_e
  have n231 : nx w212 = r + 78 := by rw [hw212]; exact ni194
  have u232 : uc w212 = uc w + 77 := by rw [hw212]; exact ui194
  have s233 : us w212 = us w + 2491 := by rw [hw212]; exact si194
  have g234 : ∀ q, q < r → gi w212 q = gi w q ∧ gr w212 q = gr w q ∧ ty w212 q = ty w q ∧ ln w212 q = ln w q := fun q hq => by have a := A213 q (Nat.ne_of_lt (Nat.lt_of_lt_of_le hq (Nat.le_add_right r 0))); have b := g211 q hq; exact ⟨a.1.trans b.1, a.2.1.trans b.2.1, a.2.2.1.trans b.2.2.1, a.2.2.2.trans b.2.2.2⟩
  clear A213 f195 f196 f197 f198 f199 f200 f201 f202 f203 f204 f205 f206 f207 f208 f209 f210 g211 hw212 ni194 si194 ui194
  refine WP.blk 1 ?_
  show WP 4 62 58 [vR r] [vR r] w212 Q
  refine WP.blk 1 ?_
  show WP 4 62 61 [vR r] [vR (nx w212), vR r] (mk w212 6 4) Q
  rw [n231]
  obtain ⟨w235, hw235⟩ : ∃ y9, y9 = mk w212 6 4 := ⟨_, rfl⟩
  rw [← hw235]
  have A236 : ∀ q, q ≠ r + 78 → gi w235 q = gi w212 q ∧ gr w235 q = gr w212 q ∧ ty w235 q = ty w212 q ∧ ln w235 q = ln w212 q := fun q hq => by rw [hw235]; exact mk_o (by rw [n231]; exact hq)
  have f237 : ty w235 (r + 1) = 11 := (A236 _ (nek r 1 78 rfl)).2.2.1.trans f214
  have f238 : ln w235 (r + 1) = 150 := (A236 _ (nek r 1 78 rfl)).2.2.2.trans f215
  have f239 : gi w235 (r + 1) = (fun _ => 0) := (A236 _ (nek r 1 78 rfl)).1.trans f216
  have f240 : isSheet w235.2 (r + 2) := sheet_ag (fun q a b => A236 q (Nat.ne_of_lt (Nat.lt_of_lt_of_le b (lek r 2 12 78 rfl)))) f217
  have f241 : ShZ (gi w235) (r + 2) := shZ_ag (fun q a b => A236 q (Nat.ne_of_lt (Nat.lt_of_lt_of_le b (lek r 2 12 78 rfl)))) f218
  have f242 : isSheet w235.2 (r + 14) := sheet_ag (fun q a b => A236 q (Nat.ne_of_lt (Nat.lt_of_lt_of_le b (lek r 14 12 78 rfl)))) f219
  have f243 : ShZ (gi w235) (r + 14) := shZ_ag (fun q a b => A236 q (Nat.ne_of_lt (Nat.lt_of_lt_of_le b (lek r 14 12 78 rfl)))) f220
  have f244 : isHist w235.2 (r + 26) := hist_ag (fun q a b => A236 q (Nat.ne_of_lt (Nat.lt_of_lt_of_le b (lek r 26 50 78 rfl)))) f221
  have f245 : HisZ (gi w235) (r + 26) := hisZ_ag (fun q a b => A236 q (Nat.ne_of_lt (Nat.lt_of_lt_of_le b (lek r 26 50 78 rfl)))) f222
  have f246 : isFits w235.2 (r + 76) := fits_ag (fun q a b => A236 q (Nat.ne_of_lt (Nat.lt_of_lt_of_le b (lek r 76 2 78 rfl)))) f223
  have f247 : ty w235 r = 9 := (A236 _ (nek r 0 78 rfl)).2.2.1.trans f224
  have f248 : gi w235 r = (fun _ => 0) := (A236 _ (nek r 0 78 rfl)).1.trans f225
  have f249 : gr w235 r 0 = (r + 1) := (congrFun (A236 _ (nek r 0 78 rfl)).2.1 _).trans f226
  have f250 : gr w235 r 2 = (r + 2) := (congrFun (A236 _ (nek r 0 78 rfl)).2.1 _).trans f227
  have f251 : gr w235 r 3 = (r + 14) := (congrFun (A236 _ (nek r 0 78 rfl)).2.1 _).trans f228
  have f252 : gr w235 r 4 = (r + 26) := (congrFun (A236 _ (nek r 0 78 rfl)).2.1 _).trans f229
  have f253 : gr w235 r 5 = (r + 76) := (congrFun (A236 _ (nek r 0 78 rfl)).2.1 _).trans f230
  have e254 := mk_e (w := w212) (t := 6) (n := 4)
  rw [← hw235, n231] at e254
  have n255 : nx w235 = r + 79 := by rw [hw235]; exact congrArg (· + 1) n231
  have u256 : uc w235 = uc w + 78 := by rw [hw235]; exact congrArg (· + 1) u232
  have s257 : us w235 = us w + 2495 := by rw [hw235]; exact congrArg (· + 4) s233
  have g258 : ∀ q, q < r → gi w235 q = gi w q ∧ gr w235 q = gr w q ∧ ty w235 q = ty w q ∧ ln w235 q = ln w q := fun q hq => by have a := A236 q (Nat.ne_of_lt (Nat.lt_of_lt_of_le hq (Nat.le_add_right r 78))); have b := g234 q hq; exact ⟨a.1.trans b.1, a.2.1.trans b.2.1, a.2.2.1.trans b.2.2.1, a.2.2.2.trans b.2.2.2⟩
  clear A236 f214 f215 f216 f217 f218 f219 f220 f221 f222 f223 f224 f225 f226 f227 f228 f229 f230 g234 hw235 n231 s233 u232
  refine WP.blk 1 ?_
  show WP 4 62 62 [vR r] [vR (r + 78), vR (r + 78), vR r] w235 Q
  refine WP.cl (a := [vR (r + 78)]) (rest := [vR (r + 78), vR r]) rfl rfl rfl rfl trivial (by decide) (c_plan n255 e254.2.1 e254.1 (fun w259 hA260 hni261 hui261 hsi261 f262 => ⟨rfl, ?_⟩))
  show WP 4 62 65 [vR r] [vR (r + 78), vR r] w259 Q
  have A260 : ∀ q, q < r + 78 → gi w259 q = gi w235 q ∧ gr w259 q = gr w235 q ∧ ty w259 q = ty w235 q ∧ ln w259 q = ln w235 q := fun q hq => hA260 q (Nat.zero_le _) hq
  have f263 : ty w259 (r + 1) = 11 := (A260 _ (ltk r 1 78 rfl)).2.2.1.trans f237
  have f264 : ln w259 (r + 1) = 150 := (A260 _ (ltk r 1 78 rfl)).2.2.2.trans f238
  have f265 : gi w259 (r + 1) = (fun _ => 0) := (A260 _ (ltk r 1 78 rfl)).1.trans f239
  have f266 : isSheet w259.2 (r + 2) := sheet_ag (fun q a b => A260 q (Nat.lt_of_lt_of_le b (lek r 2 12 78 rfl))) f240
  have f267 : ShZ (gi w259) (r + 2) := shZ_ag (fun q a b => A260 q (Nat.lt_of_lt_of_le b (lek r 2 12 78 rfl))) f241
  have f268 : isSheet w259.2 (r + 14) := sheet_ag (fun q a b => A260 q (Nat.lt_of_lt_of_le b (lek r 14 12 78 rfl))) f242
  have f269 : ShZ (gi w259) (r + 14) := shZ_ag (fun q a b => A260 q (Nat.lt_of_lt_of_le b (lek r 14 12 78 rfl))) f243
  have f270 : isHist w259.2 (r + 26) := hist_ag (fun q a b => A260 q (Nat.lt_of_lt_of_le b (lek r 26 50 78 rfl))) f244
  have f271 : HisZ (gi w259) (r + 26) := hisZ_ag (fun q a b => A260 q (Nat.lt_of_lt_of_le b (lek r 26 50 78 rfl))) f245
  have f272 : isFits w259.2 (r + 76) := fits_ag (fun q a b => A260 q (Nat.lt_of_lt_of_le b (lek r 76 2 78 rfl))) f246
  have f273 : ty w259 r = 9 := (A260 _ (ltk r 0 78 rfl)).2.2.1.trans f247
  have f274 : gi w259 r = (fun _ => 0) := (A260 _ (ltk r 0 78 rfl)).1.trans f248
  have f275 : gr w259 r 0 = (r + 1) := (congrFun (A260 _ (ltk r 0 78 rfl)).2.1 _).trans f249
  have f276 : gr w259 r 2 = (r + 2) := (congrFun (A260 _ (ltk r 0 78 rfl)).2.1 _).trans f250
  have f277 : gr w259 r 3 = (r + 14) := (congrFun (A260 _ (ltk r 0 78 rfl)).2.1 _).trans f251
  have f278 : gr w259 r 4 = (r + 26) := (congrFun (A260 _ (ltk r 0 78 rfl)).2.1 _).trans f252
  have f279 : gr w259 r 5 = (r + 76) := (congrFun (A260 _ (ltk r 0 78 rfl)).2.1 _).trans f253
  have ni261 : nx w259 = r + 82 := hni261
  have ui261 : uc w259 = uc w + 81 := hui261.trans (congrArg (· + 3) u256)
  have si261 : us w259 = us w + 2530 := hsi261.trans (congrArg (· + 35) s257)
  have g280 : ∀ q, q < r → gi w259 q = gi w q ∧ gr w259 q = gr w q ∧ ty w259 q = ty w q ∧ ln w259 q = ln w q := fun q hq => by have a := A260 q (Nat.lt_of_lt_of_le hq (Nat.le_add_right r 78)); have b := g258 q hq; exact ⟨a.1.trans b.1, a.2.1.trans b.2.1, a.2.2.1.trans b.2.2.1, a.2.2.2.trans b.2.2.2⟩
  clear A260 e254 f237 f238 f239 f240 f241 f242 f243 f244 f245 f246 f247 f248 f249 f250 f251 f252 f253 g258 hA260 hni261 hsi261 hui261 n255 s257 u256
  refine WP.blk 1 ?_
  show ty w259 r = 9 ∧ WP 4 62 68 [vR r] [] (sr w259 r 6 (r + 78)) Q
  refine ⟨f273, ?_⟩
  obtain ⟨w281, hw281⟩ : ∃ y9, y9 = sr w259 r 6 (r + 78) := ⟨_, rfl⟩
  rw [← hw281]
  have A282 : ∀ q, q ≠ r → gi w281 q = gi w259 q ∧ gr w281 q = gr w259 q ∧ ty w281 q = ty w259 q ∧ ln w281 q = ln w259 q := fun q hq => by rw [hw281]; exact sr_o hq
  have f283 : ty w281 (r + 1) = 11 := (A282 _ (nek r 1 0 rfl)).2.2.1.trans f263
  have f284 : ln w281 (r + 1) = 150 := (A282 _ (nek r 1 0 rfl)).2.2.2.trans f264
  have f285 : gi w281 (r + 1) = (fun _ => 0) := (A282 _ (nek r 1 0 rfl)).1.trans f265
  have f286 : isSheet w281.2 (r + 2) := sheet_ag (fun q a b => A282 q (Nat.ne_of_gt (Nat.lt_of_lt_of_le (ltk r 0 2 rfl) a))) f266
  have f287 : ShZ (gi w281) (r + 2) := shZ_ag (fun q a b => A282 q (Nat.ne_of_gt (Nat.lt_of_lt_of_le (ltk r 0 2 rfl) a))) f267
  have f288 : isSheet w281.2 (r + 14) := sheet_ag (fun q a b => A282 q (Nat.ne_of_gt (Nat.lt_of_lt_of_le (ltk r 0 14 rfl) a))) f268
  have f289 : ShZ (gi w281) (r + 14) := shZ_ag (fun q a b => A282 q (Nat.ne_of_gt (Nat.lt_of_lt_of_le (ltk r 0 14 rfl) a))) f269
  have f290 : isHist w281.2 (r + 26) := hist_ag (fun q a b => A282 q (Nat.ne_of_gt (Nat.lt_of_lt_of_le (ltk r 0 26 rfl) a))) f270
  have f291 : HisZ (gi w281) (r + 26) := hisZ_ag (fun q a b => A282 q (Nat.ne_of_gt (Nat.lt_of_lt_of_le (ltk r 0 26 rfl) a))) f271
  have f292 : isFits w281.2 (r + 76) := fits_ag (fun q a b => A282 q (Nat.ne_of_gt (Nat.lt_of_lt_of_le (ltk r 0 76 rfl) a))) f272
  have f293 : isPlan w281.2 (r + 78) := plan_ag (fun q a b => A282 q (Nat.ne_of_gt (Nat.lt_of_lt_of_le (ltk r 0 78 rfl) a))) f262
  have f294 : ty w281 r = 9 := by rw [hw281]; exact f273
  have f295 : gi w281 r = (fun _ => 0) := by rw [hw281]; exact f274
  have f296 : gr w281 r 0 = (r + 1) := by rw [hw281]; exact (sr_k (by decide)).trans f275
  have f297 : gr w281 r 2 = (r + 2) := by rw [hw281]; exact (sr_k (by decide)).trans f276
  have f298 : gr w281 r 3 = (r + 14) := by rw [hw281]; exact (sr_k (by decide)).trans f277
  have f299 : gr w281 r 4 = (r + 26) := by rw [hw281]; exact (sr_k (by decide)).trans f278
  have f300 : gr w281 r 5 = (r + 76) := by rw [hw281]; exact (sr_k (by decide)).trans f279
  have f301 : gr w281 r 6 = (r + 78) := by rw [hw281]; exact sr_e
  have n302 : nx w281 = r + 82 := by rw [hw281]; exact ni261
  have u303 : uc w281 = uc w + 81 := by rw [hw281]; exact ui261
  have s304 : us w281 = us w + 2530 := by rw [hw281]; exact si261
  have g305 : ∀ q, q < r → gi w281 q = gi w q ∧ gr w281 q = gr w q ∧ ty w281 q = ty w q ∧ ln w281 q = ln w q := fun q hq => by have a := A282 q (Nat.ne_of_lt (Nat.lt_of_lt_of_le hq (Nat.le_add_right r 0))); have b := g280 q hq; exact ⟨a.1.trans b.1, a.2.1.trans b.2.1, a.2.2.1.trans b.2.2.1, a.2.2.2.trans b.2.2.2⟩
  clear A282 f262 f263 f264 f265 f266 f267 f268 f269 f270 f271 f272 f273 f274 f275 f276 f277 f278 f279 g280 hw281 ni261 si261 ui261
  refine WP.blk 1 ?_
  show WP 4 62 69 [vR r] [vR r] w281 Q
  refine WP.blk 1 ?_
  show WP 4 62 72 [vR r] [vR (nx w281), vR r] (mk w281 4 6) Q
  rw [n302]
  obtain ⟨w306, hw306⟩ : ∃ y9, y9 = mk w281 4 6 := ⟨_, rfl⟩
  rw [← hw306]
  have A307 : ∀ q, q ≠ r + 82 → gi w306 q = gi w281 q ∧ gr w306 q = gr w281 q ∧ ty w306 q = ty w281 q ∧ ln w306 q = ln w281 q := fun q hq => by rw [hw306]; exact mk_o (by rw [n302]; exact hq)
  have f308 : ty w306 (r + 1) = 11 := (A307 _ (nek r 1 82 rfl)).2.2.1.trans f283
  have f309 : ln w306 (r + 1) = 150 := (A307 _ (nek r 1 82 rfl)).2.2.2.trans f284
  have f310 : gi w306 (r + 1) = (fun _ => 0) := (A307 _ (nek r 1 82 rfl)).1.trans f285
  have f311 : isSheet w306.2 (r + 2) := sheet_ag (fun q a b => A307 q (Nat.ne_of_lt (Nat.lt_of_lt_of_le b (lek r 2 12 82 rfl)))) f286
  have f312 : ShZ (gi w306) (r + 2) := shZ_ag (fun q a b => A307 q (Nat.ne_of_lt (Nat.lt_of_lt_of_le b (lek r 2 12 82 rfl)))) f287
  have f313 : isSheet w306.2 (r + 14) := sheet_ag (fun q a b => A307 q (Nat.ne_of_lt (Nat.lt_of_lt_of_le b (lek r 14 12 82 rfl)))) f288
  have f314 : ShZ (gi w306) (r + 14) := shZ_ag (fun q a b => A307 q (Nat.ne_of_lt (Nat.lt_of_lt_of_le b (lek r 14 12 82 rfl)))) f289
  have f315 : isHist w306.2 (r + 26) := hist_ag (fun q a b => A307 q (Nat.ne_of_lt (Nat.lt_of_lt_of_le b (lek r 26 50 82 rfl)))) f290
  have f316 : HisZ (gi w306) (r + 26) := hisZ_ag (fun q a b => A307 q (Nat.ne_of_lt (Nat.lt_of_lt_of_le b (lek r 26 50 82 rfl)))) f291
  have f317 : isFits w306.2 (r + 76) := fits_ag (fun q a b => A307 q (Nat.ne_of_lt (Nat.lt_of_lt_of_le b (lek r 76 2 82 rfl)))) f292
  have f318 : isPlan w306.2 (r + 78) := plan_ag (fun q a b => A307 q (Nat.ne_of_lt (Nat.lt_of_lt_of_le b (lek r 78 4 82 rfl)))) f293
  have f319 : ty w306 r = 9 := (A307 _ (nek r 0 82 rfl)).2.2.1.trans f294
  have f320 : gi w306 r = (fun _ => 0) := (A307 _ (nek r 0 82 rfl)).1.trans f295
  have f321 : gr w306 r 0 = (r + 1) := (congrFun (A307 _ (nek r 0 82 rfl)).2.1 _).trans f296
  have f322 : gr w306 r 2 = (r + 2) := (congrFun (A307 _ (nek r 0 82 rfl)).2.1 _).trans f297
  have f323 : gr w306 r 3 = (r + 14) := (congrFun (A307 _ (nek r 0 82 rfl)).2.1 _).trans f298
  have f324 : gr w306 r 4 = (r + 26) := (congrFun (A307 _ (nek r 0 82 rfl)).2.1 _).trans f299
  have f325 : gr w306 r 5 = (r + 76) := (congrFun (A307 _ (nek r 0 82 rfl)).2.1 _).trans f300
  have f326 : gr w306 r 6 = (r + 78) := (congrFun (A307 _ (nek r 0 82 rfl)).2.1 _).trans f301
  have e327 := mk_e (w := w281) (t := 4) (n := 6)
  rw [← hw306, n302] at e327
  have n328 : nx w306 = r + 83 := by rw [hw306]; exact congrArg (· + 1) n302
  have u329 : uc w306 = uc w + 82 := by rw [hw306]; exact congrArg (· + 1) u303
  have s330 : us w306 = us w + 2536 := by rw [hw306]; exact congrArg (· + 6) s304
  have g331 : ∀ q, q < r → gi w306 q = gi w q ∧ gr w306 q = gr w q ∧ ty w306 q = ty w q ∧ ln w306 q = ln w q := fun q hq => by have a := A307 q (Nat.ne_of_lt (Nat.lt_of_lt_of_le hq (Nat.le_add_right r 82))); have b := g305 q hq; exact ⟨a.1.trans b.1, a.2.1.trans b.2.1, a.2.2.1.trans b.2.2.1, a.2.2.2.trans b.2.2.2⟩
  clear A307 f283 f284 f285 f286 f287 f288 f289 f290 f291 f292 f293 f294 f295 f296 f297 f298 f299 f300 f301 g305 hw306 n302 s304 u303
  refine WP.blk 1 ?_
  show WP 4 62 73 [vR r] [vR (r + 82), vR (r + 82), vR r] w306 Q
  refine WP.cl (a := [vR (r + 82)]) (rest := [vR (r + 82), vR r]) rfl rfl rfl rfl trivial (by decide) (c_inks n328 e327.2.1 e327.1 (fun w332 hA333 hni334 hui334 hsi334 f335 f336 => ⟨rfl, ?_⟩))
  show WP 4 62 76 [vR r] [vR (r + 82), vR r] w332 Q
  have A333 : ∀ q, q < r + 82 → gi w332 q = gi w306 q ∧ gr w332 q = gr w306 q ∧ ty w332 q = ty w306 q ∧ ln w332 q = ln w306 q := fun q hq => hA333 q (Nat.zero_le _) hq
  have f337 : ty w332 (r + 1) = 11 := (A333 _ (ltk r 1 82 rfl)).2.2.1.trans f308
  have f338 : ln w332 (r + 1) = 150 := (A333 _ (ltk r 1 82 rfl)).2.2.2.trans f309
  have f339 : gi w332 (r + 1) = (fun _ => 0) := (A333 _ (ltk r 1 82 rfl)).1.trans f310
  have f340 : isSheet w332.2 (r + 2) := sheet_ag (fun q a b => A333 q (Nat.lt_of_lt_of_le b (lek r 2 12 82 rfl))) f311
  have f341 : ShZ (gi w332) (r + 2) := shZ_ag (fun q a b => A333 q (Nat.lt_of_lt_of_le b (lek r 2 12 82 rfl))) f312
  have f342 : isSheet w332.2 (r + 14) := sheet_ag (fun q a b => A333 q (Nat.lt_of_lt_of_le b (lek r 14 12 82 rfl))) f313
  have f343 : ShZ (gi w332) (r + 14) := shZ_ag (fun q a b => A333 q (Nat.lt_of_lt_of_le b (lek r 14 12 82 rfl))) f314
  have f344 : isHist w332.2 (r + 26) := hist_ag (fun q a b => A333 q (Nat.lt_of_lt_of_le b (lek r 26 50 82 rfl))) f315
  have f345 : HisZ (gi w332) (r + 26) := hisZ_ag (fun q a b => A333 q (Nat.lt_of_lt_of_le b (lek r 26 50 82 rfl))) f316
  have f346 : isFits w332.2 (r + 76) := fits_ag (fun q a b => A333 q (Nat.lt_of_lt_of_le b (lek r 76 2 82 rfl))) f317
  have f347 : isPlan w332.2 (r + 78) := plan_ag (fun q a b => A333 q (Nat.lt_of_lt_of_le b (lek r 78 4 82 rfl))) f318
  have f348 : ty w332 r = 9 := (A333 _ (ltk r 0 82 rfl)).2.2.1.trans f319
  have f349 : gi w332 r = (fun _ => 0) := (A333 _ (ltk r 0 82 rfl)).1.trans f320
  have f350 : gr w332 r 0 = (r + 1) := (congrFun (A333 _ (ltk r 0 82 rfl)).2.1 _).trans f321
  have f351 : gr w332 r 2 = (r + 2) := (congrFun (A333 _ (ltk r 0 82 rfl)).2.1 _).trans f322
  have f352 : gr w332 r 3 = (r + 14) := (congrFun (A333 _ (ltk r 0 82 rfl)).2.1 _).trans f323
  have f353 : gr w332 r 4 = (r + 26) := (congrFun (A333 _ (ltk r 0 82 rfl)).2.1 _).trans f324
  have f354 : gr w332 r 5 = (r + 76) := (congrFun (A333 _ (ltk r 0 82 rfl)).2.1 _).trans f325
  have f355 : gr w332 r 6 = (r + 78) := (congrFun (A333 _ (ltk r 0 82 rfl)).2.1 _).trans f326
  have ni334 : nx w332 = r + 86 := hni334
  have ui334 : uc w332 = uc w + 85 := hui334.trans (congrArg (· + 3) u329)
  have si334 : us w332 = us w + 2566 := hsi334.trans (congrArg (· + 30) s330)
  have g356 : ∀ q, q < r → gi w332 q = gi w q ∧ gr w332 q = gr w q ∧ ty w332 q = ty w q ∧ ln w332 q = ln w q := fun q hq => by have a := A333 q (Nat.lt_of_lt_of_le hq (Nat.le_add_right r 82)); have b := g331 q hq; exact ⟨a.1.trans b.1, a.2.1.trans b.2.1, a.2.2.1.trans b.2.2.1, a.2.2.2.trans b.2.2.2⟩
  clear A333 e327 f308 f309 f310 f311 f312 f313 f314 f315 f316 f317 f318 f319 f320 f321 f322 f323 f324 f325 f326 g331 hA333 hni334 hsi334 hui334 n328 s330 u329
  refine WP.blk 1 ?_
  show ty w332 r = 9 ∧ WP 4 62 79 [vR r] [] (sr w332 r 7 (r + 82)) Q
  refine ⟨f348, ?_⟩
  obtain ⟨w357, hw357⟩ : ∃ y9, y9 = sr w332 r 7 (r + 82) := ⟨_, rfl⟩
  rw [← hw357]
  have A358 : ∀ q, q ≠ r → gi w357 q = gi w332 q ∧ gr w357 q = gr w332 q ∧ ty w357 q = ty w332 q ∧ ln w357 q = ln w332 q := fun q hq => by rw [hw357]; exact sr_o hq
  have f359 : ty w357 (r + 1) = 11 := (A358 _ (nek r 1 0 rfl)).2.2.1.trans f337
  have f360 : ln w357 (r + 1) = 150 := (A358 _ (nek r 1 0 rfl)).2.2.2.trans f338
  have f361 : gi w357 (r + 1) = (fun _ => 0) := (A358 _ (nek r 1 0 rfl)).1.trans f339
  have f362 : isSheet w357.2 (r + 2) := sheet_ag (fun q a b => A358 q (Nat.ne_of_gt (Nat.lt_of_lt_of_le (ltk r 0 2 rfl) a))) f340
  have f363 : ShZ (gi w357) (r + 2) := shZ_ag (fun q a b => A358 q (Nat.ne_of_gt (Nat.lt_of_lt_of_le (ltk r 0 2 rfl) a))) f341
  have f364 : isSheet w357.2 (r + 14) := sheet_ag (fun q a b => A358 q (Nat.ne_of_gt (Nat.lt_of_lt_of_le (ltk r 0 14 rfl) a))) f342
  have f365 : ShZ (gi w357) (r + 14) := shZ_ag (fun q a b => A358 q (Nat.ne_of_gt (Nat.lt_of_lt_of_le (ltk r 0 14 rfl) a))) f343
  have f366 : isHist w357.2 (r + 26) := hist_ag (fun q a b => A358 q (Nat.ne_of_gt (Nat.lt_of_lt_of_le (ltk r 0 26 rfl) a))) f344
  have f367 : HisZ (gi w357) (r + 26) := hisZ_ag (fun q a b => A358 q (Nat.ne_of_gt (Nat.lt_of_lt_of_le (ltk r 0 26 rfl) a))) f345
  have f368 : isFits w357.2 (r + 76) := fits_ag (fun q a b => A358 q (Nat.ne_of_gt (Nat.lt_of_lt_of_le (ltk r 0 76 rfl) a))) f346
  have f369 : isPlan w357.2 (r + 78) := plan_ag (fun q a b => A358 q (Nat.ne_of_gt (Nat.lt_of_lt_of_le (ltk r 0 78 rfl) a))) f347
  have f370 : isInks w357.2 (r + 82) := inks_ag (fun q a b => A358 q (Nat.ne_of_gt (Nat.lt_of_lt_of_le (ltk r 0 82 rfl) a))) f335
  have f371 : InkZ (gi w357) (r + 82) := inkZ_ag (fun q a b => A358 q (Nat.ne_of_gt (Nat.lt_of_lt_of_le (ltk r 0 82 rfl) a))) f336
  have f372 : ty w357 r = 9 := by rw [hw357]; exact f348
  have f373 : gi w357 r = (fun _ => 0) := by rw [hw357]; exact f349
  have f374 : gr w357 r 0 = (r + 1) := by rw [hw357]; exact (sr_k (by decide)).trans f350
  have f375 : gr w357 r 2 = (r + 2) := by rw [hw357]; exact (sr_k (by decide)).trans f351
  have f376 : gr w357 r 3 = (r + 14) := by rw [hw357]; exact (sr_k (by decide)).trans f352
  have f377 : gr w357 r 4 = (r + 26) := by rw [hw357]; exact (sr_k (by decide)).trans f353
  have f378 : gr w357 r 5 = (r + 76) := by rw [hw357]; exact (sr_k (by decide)).trans f354
  have f379 : gr w357 r 6 = (r + 78) := by rw [hw357]; exact (sr_k (by decide)).trans f355
  have f380 : gr w357 r 7 = (r + 82) := by rw [hw357]; exact sr_e
  have n381 : nx w357 = r + 86 := by rw [hw357]; exact ni334
  have u382 : uc w357 = uc w + 85 := by rw [hw357]; exact ui334
  have s383 : us w357 = us w + 2566 := by rw [hw357]; exact si334
  have g384 : ∀ q, q < r → gi w357 q = gi w q ∧ gr w357 q = gr w q ∧ ty w357 q = ty w q ∧ ln w357 q = ln w q := fun q hq => by have a := A358 q (Nat.ne_of_lt (Nat.lt_of_lt_of_le hq (Nat.le_add_right r 0))); have b := g356 q hq; exact ⟨a.1.trans b.1, a.2.1.trans b.2.1, a.2.2.1.trans b.2.2.1, a.2.2.2.trans b.2.2.2⟩
  clear A358 f335 f336 f337 f338 f339 f340 f341 f342 f343 f344 f345 f346 f347 f348 f349 f350 f351 f352 f353 f354 f355 g356 hw357 ni334 si334 ui334
  refine WP.blk 1 ?_
  show WP 4 62 80 [vR r] [vR r] w357 Q
  refine WP.blk 1 ?_
  show WP 4 62 83 [vR r] [vR (nx w357), vR r] (mk w357 5 7) Q
  rw [n381]
  obtain ⟨w385, hw385⟩ : ∃ y9, y9 = mk w357 5 7 := ⟨_, rfl⟩
  rw [← hw385]
  have A386 : ∀ q, q ≠ r + 86 → gi w385 q = gi w357 q ∧ gr w385 q = gr w357 q ∧ ty w385 q = ty w357 q ∧ ln w385 q = ln w357 q := fun q hq => by rw [hw385]; exact mk_o (by rw [n381]; exact hq)
  have f387 : ty w385 (r + 1) = 11 := (A386 _ (nek r 1 86 rfl)).2.2.1.trans f359
  have f388 : ln w385 (r + 1) = 150 := (A386 _ (nek r 1 86 rfl)).2.2.2.trans f360
  have f389 : gi w385 (r + 1) = (fun _ => 0) := (A386 _ (nek r 1 86 rfl)).1.trans f361
  have f390 : isSheet w385.2 (r + 2) := sheet_ag (fun q a b => A386 q (Nat.ne_of_lt (Nat.lt_of_lt_of_le b (lek r 2 12 86 rfl)))) f362
  have f391 : ShZ (gi w385) (r + 2) := shZ_ag (fun q a b => A386 q (Nat.ne_of_lt (Nat.lt_of_lt_of_le b (lek r 2 12 86 rfl)))) f363
  have f392 : isSheet w385.2 (r + 14) := sheet_ag (fun q a b => A386 q (Nat.ne_of_lt (Nat.lt_of_lt_of_le b (lek r 14 12 86 rfl)))) f364
  have f393 : ShZ (gi w385) (r + 14) := shZ_ag (fun q a b => A386 q (Nat.ne_of_lt (Nat.lt_of_lt_of_le b (lek r 14 12 86 rfl)))) f365
  have f394 : isHist w385.2 (r + 26) := hist_ag (fun q a b => A386 q (Nat.ne_of_lt (Nat.lt_of_lt_of_le b (lek r 26 50 86 rfl)))) f366
  have f395 : HisZ (gi w385) (r + 26) := hisZ_ag (fun q a b => A386 q (Nat.ne_of_lt (Nat.lt_of_lt_of_le b (lek r 26 50 86 rfl)))) f367
  have f396 : isFits w385.2 (r + 76) := fits_ag (fun q a b => A386 q (Nat.ne_of_lt (Nat.lt_of_lt_of_le b (lek r 76 2 86 rfl)))) f368
  have f397 : isPlan w385.2 (r + 78) := plan_ag (fun q a b => A386 q (Nat.ne_of_lt (Nat.lt_of_lt_of_le b (lek r 78 4 86 rfl)))) f369
  have f398 : isInks w385.2 (r + 82) := inks_ag (fun q a b => A386 q (Nat.ne_of_lt (Nat.lt_of_lt_of_le b (lek r 82 4 86 rfl)))) f370
  have f399 : InkZ (gi w385) (r + 82) := inkZ_ag (fun q a b => A386 q (Nat.ne_of_lt (Nat.lt_of_lt_of_le b (lek r 82 4 86 rfl)))) f371
  have f400 : ty w385 r = 9 := (A386 _ (nek r 0 86 rfl)).2.2.1.trans f372
  have f401 : gi w385 r = (fun _ => 0) := (A386 _ (nek r 0 86 rfl)).1.trans f373
  have f402 : gr w385 r 0 = (r + 1) := (congrFun (A386 _ (nek r 0 86 rfl)).2.1 _).trans f374
  have f403 : gr w385 r 2 = (r + 2) := (congrFun (A386 _ (nek r 0 86 rfl)).2.1 _).trans f375
  have f404 : gr w385 r 3 = (r + 14) := (congrFun (A386 _ (nek r 0 86 rfl)).2.1 _).trans f376
  have f405 : gr w385 r 4 = (r + 26) := (congrFun (A386 _ (nek r 0 86 rfl)).2.1 _).trans f377
  have f406 : gr w385 r 5 = (r + 76) := (congrFun (A386 _ (nek r 0 86 rfl)).2.1 _).trans f378
  have f407 : gr w385 r 6 = (r + 78) := (congrFun (A386 _ (nek r 0 86 rfl)).2.1 _).trans f379
  have f408 : gr w385 r 7 = (r + 82) := (congrFun (A386 _ (nek r 0 86 rfl)).2.1 _).trans f380
  have e409 := mk_e (w := w357) (t := 5) (n := 7)
  rw [← hw385, n381] at e409
  have n410 : nx w385 = r + 87 := by rw [hw385]; exact congrArg (· + 1) n381
  have u411 : uc w385 = uc w + 86 := by rw [hw385]; exact congrArg (· + 1) u382
  have s412 : us w385 = us w + 2573 := by rw [hw385]; exact congrArg (· + 7) s383
  have g413 : ∀ q, q < r → gi w385 q = gi w q ∧ gr w385 q = gr w q ∧ ty w385 q = ty w q ∧ ln w385 q = ln w q := fun q hq => by have a := A386 q (Nat.ne_of_lt (Nat.lt_of_lt_of_le hq (Nat.le_add_right r 86))); have b := g384 q hq; exact ⟨a.1.trans b.1, a.2.1.trans b.2.1, a.2.2.1.trans b.2.2.1, a.2.2.2.trans b.2.2.2⟩
  clear A386 f359 f360 f361 f362 f363 f364 f365 f366 f367 f368 f369 f370 f371 f372 f373 f374 f375 f376 f377 f378 f379 f380 g384 hw385 n381 s383 u382
  refine WP.blk 1 ?_
  show WP 4 62 84 [vR r] [vR (r + 86), vR (r + 86), vR r] w385 Q
  refine WP.cl (a := [vR (r + 86)]) (rest := [vR (r + 86), vR r]) rfl rfl rfl rfl trivial (by decide) (c_ord n410 e409.2.1 e409.1 (fun w414 hA415 hni416 hui416 hsi416 f417 => ⟨rfl, ?_⟩))
  show WP 4 62 87 [vR r] [vR (r + 86), vR r] w414 Q
  have A415 : ∀ q, q < r + 86 → gi w414 q = gi w385 q ∧ gr w414 q = gr w385 q ∧ ty w414 q = ty w385 q ∧ ln w414 q = ln w385 q := fun q hq => hA415 q (Nat.zero_le _) hq
  have f418 : ty w414 (r + 1) = 11 := (A415 _ (ltk r 1 86 rfl)).2.2.1.trans f387
  have f419 : ln w414 (r + 1) = 150 := (A415 _ (ltk r 1 86 rfl)).2.2.2.trans f388
  have f420 : gi w414 (r + 1) = (fun _ => 0) := (A415 _ (ltk r 1 86 rfl)).1.trans f389
  have f421 : isSheet w414.2 (r + 2) := sheet_ag (fun q a b => A415 q (Nat.lt_of_lt_of_le b (lek r 2 12 86 rfl))) f390
  have f422 : ShZ (gi w414) (r + 2) := shZ_ag (fun q a b => A415 q (Nat.lt_of_lt_of_le b (lek r 2 12 86 rfl))) f391
  have f423 : isSheet w414.2 (r + 14) := sheet_ag (fun q a b => A415 q (Nat.lt_of_lt_of_le b (lek r 14 12 86 rfl))) f392
  have f424 : ShZ (gi w414) (r + 14) := shZ_ag (fun q a b => A415 q (Nat.lt_of_lt_of_le b (lek r 14 12 86 rfl))) f393
  have f425 : isHist w414.2 (r + 26) := hist_ag (fun q a b => A415 q (Nat.lt_of_lt_of_le b (lek r 26 50 86 rfl))) f394
  have f426 : HisZ (gi w414) (r + 26) := hisZ_ag (fun q a b => A415 q (Nat.lt_of_lt_of_le b (lek r 26 50 86 rfl))) f395
  have f427 : isFits w414.2 (r + 76) := fits_ag (fun q a b => A415 q (Nat.lt_of_lt_of_le b (lek r 76 2 86 rfl))) f396
  have f428 : isPlan w414.2 (r + 78) := plan_ag (fun q a b => A415 q (Nat.lt_of_lt_of_le b (lek r 78 4 86 rfl))) f397
  have f429 : isInks w414.2 (r + 82) := inks_ag (fun q a b => A415 q (Nat.lt_of_lt_of_le b (lek r 82 4 86 rfl))) f398
  have f430 : InkZ (gi w414) (r + 82) := inkZ_ag (fun q a b => A415 q (Nat.lt_of_lt_of_le b (lek r 82 4 86 rfl))) f399
  have f431 : ty w414 r = 9 := (A415 _ (ltk r 0 86 rfl)).2.2.1.trans f400
  have f432 : gi w414 r = (fun _ => 0) := (A415 _ (ltk r 0 86 rfl)).1.trans f401
  have f433 : gr w414 r 0 = (r + 1) := (congrFun (A415 _ (ltk r 0 86 rfl)).2.1 _).trans f402
  have f434 : gr w414 r 2 = (r + 2) := (congrFun (A415 _ (ltk r 0 86 rfl)).2.1 _).trans f403
  have f435 : gr w414 r 3 = (r + 14) := (congrFun (A415 _ (ltk r 0 86 rfl)).2.1 _).trans f404
  have f436 : gr w414 r 4 = (r + 26) := (congrFun (A415 _ (ltk r 0 86 rfl)).2.1 _).trans f405
  have f437 : gr w414 r 5 = (r + 76) := (congrFun (A415 _ (ltk r 0 86 rfl)).2.1 _).trans f406
  have f438 : gr w414 r 6 = (r + 78) := (congrFun (A415 _ (ltk r 0 86 rfl)).2.1 _).trans f407
  have f439 : gr w414 r 7 = (r + 82) := (congrFun (A415 _ (ltk r 0 86 rfl)).2.1 _).trans f408
  have ni416 : nx w414 = r + 152 := hni416
  have ui416 : uc w414 = uc w + 151 := hui416.trans (congrArg (· + 65) u411)
  have si416 : us w414 = us w + 3170 := hsi416.trans (congrArg (· + 597) s412)
  have g440 : ∀ q, q < r → gi w414 q = gi w q ∧ gr w414 q = gr w q ∧ ty w414 q = ty w q ∧ ln w414 q = ln w q := fun q hq => by have a := A415 q (Nat.lt_of_lt_of_le hq (Nat.le_add_right r 86)); have b := g413 q hq; exact ⟨a.1.trans b.1, a.2.1.trans b.2.1, a.2.2.1.trans b.2.2.1, a.2.2.2.trans b.2.2.2⟩
  clear A415 e409 f387 f388 f389 f390 f391 f392 f393 f394 f395 f396 f397 f398 f399 f400 f401 f402 f403 f404 f405 f406 f407 f408 g413 hA415 hni416 hsi416 hui416 n410 s412 u411
  refine WP.blk 1 ?_
  show ty w414 r = 9 ∧ WP 4 62 90 [vR r] [] (sr w414 r 8 (r + 86)) Q
  refine ⟨f431, ?_⟩
  obtain ⟨w441, hw441⟩ : ∃ y9, y9 = sr w414 r 8 (r + 86) := ⟨_, rfl⟩
  rw [← hw441]
  have A442 : ∀ q, q ≠ r → gi w441 q = gi w414 q ∧ gr w441 q = gr w414 q ∧ ty w441 q = ty w414 q ∧ ln w441 q = ln w414 q := fun q hq => by rw [hw441]; exact sr_o hq
  have f443 : ty w441 (r + 1) = 11 := (A442 _ (nek r 1 0 rfl)).2.2.1.trans f418
  have f444 : ln w441 (r + 1) = 150 := (A442 _ (nek r 1 0 rfl)).2.2.2.trans f419
  have f445 : gi w441 (r + 1) = (fun _ => 0) := (A442 _ (nek r 1 0 rfl)).1.trans f420
  have f446 : isSheet w441.2 (r + 2) := sheet_ag (fun q a b => A442 q (Nat.ne_of_gt (Nat.lt_of_lt_of_le (ltk r 0 2 rfl) a))) f421
  have f447 : ShZ (gi w441) (r + 2) := shZ_ag (fun q a b => A442 q (Nat.ne_of_gt (Nat.lt_of_lt_of_le (ltk r 0 2 rfl) a))) f422
  have f448 : isSheet w441.2 (r + 14) := sheet_ag (fun q a b => A442 q (Nat.ne_of_gt (Nat.lt_of_lt_of_le (ltk r 0 14 rfl) a))) f423
  have f449 : ShZ (gi w441) (r + 14) := shZ_ag (fun q a b => A442 q (Nat.ne_of_gt (Nat.lt_of_lt_of_le (ltk r 0 14 rfl) a))) f424
  have f450 : isHist w441.2 (r + 26) := hist_ag (fun q a b => A442 q (Nat.ne_of_gt (Nat.lt_of_lt_of_le (ltk r 0 26 rfl) a))) f425
  have f451 : HisZ (gi w441) (r + 26) := hisZ_ag (fun q a b => A442 q (Nat.ne_of_gt (Nat.lt_of_lt_of_le (ltk r 0 26 rfl) a))) f426
  have f452 : isFits w441.2 (r + 76) := fits_ag (fun q a b => A442 q (Nat.ne_of_gt (Nat.lt_of_lt_of_le (ltk r 0 76 rfl) a))) f427
  have f453 : isPlan w441.2 (r + 78) := plan_ag (fun q a b => A442 q (Nat.ne_of_gt (Nat.lt_of_lt_of_le (ltk r 0 78 rfl) a))) f428
  have f454 : isInks w441.2 (r + 82) := inks_ag (fun q a b => A442 q (Nat.ne_of_gt (Nat.lt_of_lt_of_le (ltk r 0 82 rfl) a))) f429
  have f455 : InkZ (gi w441) (r + 82) := inkZ_ag (fun q a b => A442 q (Nat.ne_of_gt (Nat.lt_of_lt_of_le (ltk r 0 82 rfl) a))) f430
  have f456 : isOrd w441.2 (r + 86) := ord_ag (fun q a b => A442 q (Nat.ne_of_gt (Nat.lt_of_lt_of_le (ltk r 0 86 rfl) a))) f417
  have f457 : ty w441 r = 9 := by rw [hw441]; exact f431
  have f458 : gi w441 r = (fun _ => 0) := by rw [hw441]; exact f432
  have f459 : gr w441 r 0 = (r + 1) := by rw [hw441]; exact (sr_k (by decide)).trans f433
  have f460 : gr w441 r 2 = (r + 2) := by rw [hw441]; exact (sr_k (by decide)).trans f434
  have f461 : gr w441 r 3 = (r + 14) := by rw [hw441]; exact (sr_k (by decide)).trans f435
  have f462 : gr w441 r 4 = (r + 26) := by rw [hw441]; exact (sr_k (by decide)).trans f436
  have f463 : gr w441 r 5 = (r + 76) := by rw [hw441]; exact (sr_k (by decide)).trans f437
  have f464 : gr w441 r 6 = (r + 78) := by rw [hw441]; exact (sr_k (by decide)).trans f438
  have f465 : gr w441 r 7 = (r + 82) := by rw [hw441]; exact (sr_k (by decide)).trans f439
  have f466 : gr w441 r 8 = (r + 86) := by rw [hw441]; exact sr_e
  have n467 : nx w441 = r + 152 := by rw [hw441]; exact ni416
  have u468 : uc w441 = uc w + 151 := by rw [hw441]; exact ui416
  have s469 : us w441 = us w + 3170 := by rw [hw441]; exact si416
  have g470 : ∀ q, q < r → gi w441 q = gi w q ∧ gr w441 q = gr w q ∧ ty w441 q = ty w q ∧ ln w441 q = ln w q := fun q hq => by have a := A442 q (Nat.ne_of_lt (Nat.lt_of_lt_of_le hq (Nat.le_add_right r 0))); have b := g440 q hq; exact ⟨a.1.trans b.1, a.2.1.trans b.2.1, a.2.2.1.trans b.2.2.1, a.2.2.2.trans b.2.2.2⟩
  clear A442 f417 f418 f419 f420 f421 f422 f423 f424 f425 f426 f427 f428 f429 f430 f431 f432 f433 f434 f435 f436 f437 f438 f439 g440 hw441 ni416 si416 ui416
  refine WP.blk 1 ?_
  show WP 4 62 91 [vR r] [vR r] w441 Q
  refine WP.blk 1 ?_
  show WP 4 62 94 [vR r] [vR (nx w441), vR r] (mk w441 1 7) Q
  rw [n467]
  obtain ⟨w471, hw471⟩ : ∃ y9, y9 = mk w441 1 7 := ⟨_, rfl⟩
  rw [← hw471]
  have A472 : ∀ q, q ≠ r + 152 → gi w471 q = gi w441 q ∧ gr w471 q = gr w441 q ∧ ty w471 q = ty w441 q ∧ ln w471 q = ln w441 q := fun q hq => by rw [hw471]; exact mk_o (by rw [n467]; exact hq)
  have f473 : ty w471 (r + 1) = 11 := (A472 _ (nek r 1 152 rfl)).2.2.1.trans f443
  have f474 : ln w471 (r + 1) = 150 := (A472 _ (nek r 1 152 rfl)).2.2.2.trans f444
  have f475 : gi w471 (r + 1) = (fun _ => 0) := (A472 _ (nek r 1 152 rfl)).1.trans f445
  have f476 : isSheet w471.2 (r + 2) := sheet_ag (fun q a b => A472 q (Nat.ne_of_lt (Nat.lt_of_lt_of_le b (lek r 2 12 152 rfl)))) f446
  have f477 : ShZ (gi w471) (r + 2) := shZ_ag (fun q a b => A472 q (Nat.ne_of_lt (Nat.lt_of_lt_of_le b (lek r 2 12 152 rfl)))) f447
  have f478 : isSheet w471.2 (r + 14) := sheet_ag (fun q a b => A472 q (Nat.ne_of_lt (Nat.lt_of_lt_of_le b (lek r 14 12 152 rfl)))) f448
  have f479 : ShZ (gi w471) (r + 14) := shZ_ag (fun q a b => A472 q (Nat.ne_of_lt (Nat.lt_of_lt_of_le b (lek r 14 12 152 rfl)))) f449
  have f480 : isHist w471.2 (r + 26) := hist_ag (fun q a b => A472 q (Nat.ne_of_lt (Nat.lt_of_lt_of_le b (lek r 26 50 152 rfl)))) f450
  have f481 : HisZ (gi w471) (r + 26) := hisZ_ag (fun q a b => A472 q (Nat.ne_of_lt (Nat.lt_of_lt_of_le b (lek r 26 50 152 rfl)))) f451
  have f482 : isFits w471.2 (r + 76) := fits_ag (fun q a b => A472 q (Nat.ne_of_lt (Nat.lt_of_lt_of_le b (lek r 76 2 152 rfl)))) f452
  have f483 : isPlan w471.2 (r + 78) := plan_ag (fun q a b => A472 q (Nat.ne_of_lt (Nat.lt_of_lt_of_le b (lek r 78 4 152 rfl)))) f453
  have f484 : isInks w471.2 (r + 82) := inks_ag (fun q a b => A472 q (Nat.ne_of_lt (Nat.lt_of_lt_of_le b (lek r 82 4 152 rfl)))) f454
  have f485 : InkZ (gi w471) (r + 82) := inkZ_ag (fun q a b => A472 q (Nat.ne_of_lt (Nat.lt_of_lt_of_le b (lek r 82 4 152 rfl)))) f455
  have f486 : isOrd w471.2 (r + 86) := ord_ag (fun q a b => A472 q (Nat.ne_of_lt (Nat.lt_of_lt_of_le b (lek r 86 66 152 rfl)))) f456
  have f487 : ty w471 r = 9 := (A472 _ (nek r 0 152 rfl)).2.2.1.trans f457
  have f488 : gi w471 r = (fun _ => 0) := (A472 _ (nek r 0 152 rfl)).1.trans f458
  have f489 : gr w471 r 0 = (r + 1) := (congrFun (A472 _ (nek r 0 152 rfl)).2.1 _).trans f459
  have f490 : gr w471 r 2 = (r + 2) := (congrFun (A472 _ (nek r 0 152 rfl)).2.1 _).trans f460
  have f491 : gr w471 r 3 = (r + 14) := (congrFun (A472 _ (nek r 0 152 rfl)).2.1 _).trans f461
  have f492 : gr w471 r 4 = (r + 26) := (congrFun (A472 _ (nek r 0 152 rfl)).2.1 _).trans f462
  have f493 : gr w471 r 5 = (r + 76) := (congrFun (A472 _ (nek r 0 152 rfl)).2.1 _).trans f463
  have f494 : gr w471 r 6 = (r + 78) := (congrFun (A472 _ (nek r 0 152 rfl)).2.1 _).trans f464
  have f495 : gr w471 r 7 = (r + 82) := (congrFun (A472 _ (nek r 0 152 rfl)).2.1 _).trans f465
  have f496 : gr w471 r 8 = (r + 86) := (congrFun (A472 _ (nek r 0 152 rfl)).2.1 _).trans f466
  have e497 := mk_e (w := w441) (t := 1) (n := 7)
  rw [← hw471, n467] at e497
  have n498 : nx w471 = r + 153 := by rw [hw471]; exact congrArg (· + 1) n467
  have u499 : uc w471 = uc w + 152 := by rw [hw471]; exact congrArg (· + 1) u468
  have s500 : us w471 = us w + 3177 := by rw [hw471]; exact congrArg (· + 7) s469
  have g501 : ∀ q, q < r → gi w471 q = gi w q ∧ gr w471 q = gr w q ∧ ty w471 q = ty w q ∧ ln w471 q = ln w q := fun q hq => by have a := A472 q (Nat.ne_of_lt (Nat.lt_of_lt_of_le hq (Nat.le_add_right r 152))); have b := g470 q hq; exact ⟨a.1.trans b.1, a.2.1.trans b.2.1, a.2.2.1.trans b.2.2.1, a.2.2.2.trans b.2.2.2⟩
  clear A472 f443 f444 f445 f446 f447 f448 f449 f450 f451 f452 f453 f454 f455 f456 f457 f458 f459 f460 f461 f462 f463 f464 f465 f466 g470 hw471 n467 s469 u468
  refine WP.blk 1 ?_
  show WP 4 62 95 [vR r] [vR (r + 152), vR (r + 152), vR r] w471 Q
  refine WP.cl (a := [vR (r + 152)]) (rest := [vR (r + 152), vR r]) rfl rfl rfl rfl trivial (by decide) (c_cut n498 e497.2.1 e497.1 (fun w502 hA503 hni504 hui504 hsi504 f505 f506 => ⟨rfl, ?_⟩))
  show WP 4 62 98 [vR r] [vR (r + 152), vR r] w502 Q
  have A503 : ∀ q, q < r + 152 → gi w502 q = gi w471 q ∧ gr w502 q = gr w471 q ∧ ty w502 q = ty w471 q ∧ ln w502 q = ln w471 q := fun q hq => hA503 q (Nat.zero_le _) hq
  have f507 : ty w502 (r + 1) = 11 := (A503 _ (ltk r 1 152 rfl)).2.2.1.trans f473
  have f508 : ln w502 (r + 1) = 150 := (A503 _ (ltk r 1 152 rfl)).2.2.2.trans f474
  have f509 : gi w502 (r + 1) = (fun _ => 0) := (A503 _ (ltk r 1 152 rfl)).1.trans f475
  have f510 : isSheet w502.2 (r + 2) := sheet_ag (fun q a b => A503 q (Nat.lt_of_lt_of_le b (lek r 2 12 152 rfl))) f476
  have f511 : ShZ (gi w502) (r + 2) := shZ_ag (fun q a b => A503 q (Nat.lt_of_lt_of_le b (lek r 2 12 152 rfl))) f477
  have f512 : isSheet w502.2 (r + 14) := sheet_ag (fun q a b => A503 q (Nat.lt_of_lt_of_le b (lek r 14 12 152 rfl))) f478
  have f513 : ShZ (gi w502) (r + 14) := shZ_ag (fun q a b => A503 q (Nat.lt_of_lt_of_le b (lek r 14 12 152 rfl))) f479
  have f514 : isHist w502.2 (r + 26) := hist_ag (fun q a b => A503 q (Nat.lt_of_lt_of_le b (lek r 26 50 152 rfl))) f480
  have f515 : HisZ (gi w502) (r + 26) := hisZ_ag (fun q a b => A503 q (Nat.lt_of_lt_of_le b (lek r 26 50 152 rfl))) f481
  have f516 : isFits w502.2 (r + 76) := fits_ag (fun q a b => A503 q (Nat.lt_of_lt_of_le b (lek r 76 2 152 rfl))) f482
  have f517 : isPlan w502.2 (r + 78) := plan_ag (fun q a b => A503 q (Nat.lt_of_lt_of_le b (lek r 78 4 152 rfl))) f483
  have f518 : isInks w502.2 (r + 82) := inks_ag (fun q a b => A503 q (Nat.lt_of_lt_of_le b (lek r 82 4 152 rfl))) f484
  have f519 : InkZ (gi w502) (r + 82) := inkZ_ag (fun q a b => A503 q (Nat.lt_of_lt_of_le b (lek r 82 4 152 rfl))) f485
  have f520 : isOrd w502.2 (r + 86) := ord_ag (fun q a b => A503 q (Nat.lt_of_lt_of_le b (lek r 86 66 152 rfl))) f486
  have f521 : ty w502 r = 9 := (A503 _ (ltk r 0 152 rfl)).2.2.1.trans f487
  have f522 : gi w502 r = (fun _ => 0) := (A503 _ (ltk r 0 152 rfl)).1.trans f488
  have f523 : gr w502 r 0 = (r + 1) := (congrFun (A503 _ (ltk r 0 152 rfl)).2.1 _).trans f489
  have f524 : gr w502 r 2 = (r + 2) := (congrFun (A503 _ (ltk r 0 152 rfl)).2.1 _).trans f490
  have f525 : gr w502 r 3 = (r + 14) := (congrFun (A503 _ (ltk r 0 152 rfl)).2.1 _).trans f491
  have f526 : gr w502 r 4 = (r + 26) := (congrFun (A503 _ (ltk r 0 152 rfl)).2.1 _).trans f492
  have f527 : gr w502 r 5 = (r + 76) := (congrFun (A503 _ (ltk r 0 152 rfl)).2.1 _).trans f493
  have f528 : gr w502 r 6 = (r + 78) := (congrFun (A503 _ (ltk r 0 152 rfl)).2.1 _).trans f494
  have f529 : gr w502 r 7 = (r + 82) := (congrFun (A503 _ (ltk r 0 152 rfl)).2.1 _).trans f495
  have f530 : gr w502 r 8 = (r + 86) := (congrFun (A503 _ (ltk r 0 152 rfl)).2.1 _).trans f496
  have ni504 : nx w502 = r + 171 := hni504
  have ui504 : uc w502 = uc w + 170 := hui504.trans (congrArg (· + 18) u499)
  have si504 : us w502 = us w + 3956 := hsi504.trans (congrArg (· + 779) s500)
  have g531 : ∀ q, q < r → gi w502 q = gi w q ∧ gr w502 q = gr w q ∧ ty w502 q = ty w q ∧ ln w502 q = ln w q := fun q hq => by have a := A503 q (Nat.lt_of_lt_of_le hq (Nat.le_add_right r 152)); have b := g501 q hq; exact ⟨a.1.trans b.1, a.2.1.trans b.2.1, a.2.2.1.trans b.2.2.1, a.2.2.2.trans b.2.2.2⟩
  clear A503 e497 f473 f474 f475 f476 f477 f478 f479 f480 f481 f482 f483 f484 f485 f486 f487 f488 f489 f490 f491 f492 f493 f494 f495 f496 g501 hA503 hni504 hsi504 hui504 n498 s500 u499
  have f532 : CstX (gi w502) (r + 152) := f506
  refine WP.blk 1 ?_
  show ty w502 r = 9 ∧ WP 4 62 101 [vR r] [] (sr w502 r 9 (r + 152)) Q
  refine ⟨f521, ?_⟩
  obtain ⟨w533, hw533⟩ : ∃ y9, y9 = sr w502 r 9 (r + 152) := ⟨_, rfl⟩
  rw [← hw533]
  have A534 : ∀ q, q ≠ r → gi w533 q = gi w502 q ∧ gr w533 q = gr w502 q ∧ ty w533 q = ty w502 q ∧ ln w533 q = ln w502 q := fun q hq => by rw [hw533]; exact sr_o hq
  have f535 : ty w533 (r + 1) = 11 := (A534 _ (nek r 1 0 rfl)).2.2.1.trans f507
  have f536 : ln w533 (r + 1) = 150 := (A534 _ (nek r 1 0 rfl)).2.2.2.trans f508
  have f537 : gi w533 (r + 1) = (fun _ => 0) := (A534 _ (nek r 1 0 rfl)).1.trans f509
  have f538 : isSheet w533.2 (r + 2) := sheet_ag (fun q a b => A534 q (Nat.ne_of_gt (Nat.lt_of_lt_of_le (ltk r 0 2 rfl) a))) f510
  have f539 : ShZ (gi w533) (r + 2) := shZ_ag (fun q a b => A534 q (Nat.ne_of_gt (Nat.lt_of_lt_of_le (ltk r 0 2 rfl) a))) f511
  have f540 : isSheet w533.2 (r + 14) := sheet_ag (fun q a b => A534 q (Nat.ne_of_gt (Nat.lt_of_lt_of_le (ltk r 0 14 rfl) a))) f512
  have f541 : ShZ (gi w533) (r + 14) := shZ_ag (fun q a b => A534 q (Nat.ne_of_gt (Nat.lt_of_lt_of_le (ltk r 0 14 rfl) a))) f513
  have f542 : isHist w533.2 (r + 26) := hist_ag (fun q a b => A534 q (Nat.ne_of_gt (Nat.lt_of_lt_of_le (ltk r 0 26 rfl) a))) f514
  have f543 : HisZ (gi w533) (r + 26) := hisZ_ag (fun q a b => A534 q (Nat.ne_of_gt (Nat.lt_of_lt_of_le (ltk r 0 26 rfl) a))) f515
  have f544 : isFits w533.2 (r + 76) := fits_ag (fun q a b => A534 q (Nat.ne_of_gt (Nat.lt_of_lt_of_le (ltk r 0 76 rfl) a))) f516
  have f545 : isPlan w533.2 (r + 78) := plan_ag (fun q a b => A534 q (Nat.ne_of_gt (Nat.lt_of_lt_of_le (ltk r 0 78 rfl) a))) f517
  have f546 : isInks w533.2 (r + 82) := inks_ag (fun q a b => A534 q (Nat.ne_of_gt (Nat.lt_of_lt_of_le (ltk r 0 82 rfl) a))) f518
  have f547 : InkZ (gi w533) (r + 82) := inkZ_ag (fun q a b => A534 q (Nat.ne_of_gt (Nat.lt_of_lt_of_le (ltk r 0 82 rfl) a))) f519
  have f548 : isOrd w533.2 (r + 86) := ord_ag (fun q a b => A534 q (Nat.ne_of_gt (Nat.lt_of_lt_of_le (ltk r 0 86 rfl) a))) f520
  have f549 : isCut w533.2 (r + 152) := cut_ag (fun q a b => A534 q (Nat.ne_of_gt (Nat.lt_of_lt_of_le (ltk r 0 152 rfl) a))) f505
  have f550 : CstX (gi w533) (r + 152) := cstX_ag (fun q a b => A534 q (Nat.ne_of_gt (Nat.lt_of_lt_of_le (ltk r 0 152 rfl) a))) f532
  have f551 : ty w533 r = 9 := by rw [hw533]; exact f521
  have f552 : gi w533 r = (fun _ => 0) := by rw [hw533]; exact f522
  have f553 : gr w533 r 0 = (r + 1) := by rw [hw533]; exact (sr_k (by decide)).trans f523
  have f554 : gr w533 r 2 = (r + 2) := by rw [hw533]; exact (sr_k (by decide)).trans f524
  have f555 : gr w533 r 3 = (r + 14) := by rw [hw533]; exact (sr_k (by decide)).trans f525
  have f556 : gr w533 r 4 = (r + 26) := by rw [hw533]; exact (sr_k (by decide)).trans f526
  have f557 : gr w533 r 5 = (r + 76) := by rw [hw533]; exact (sr_k (by decide)).trans f527
  have f558 : gr w533 r 6 = (r + 78) := by rw [hw533]; exact (sr_k (by decide)).trans f528
  have f559 : gr w533 r 7 = (r + 82) := by rw [hw533]; exact (sr_k (by decide)).trans f529
  have f560 : gr w533 r 8 = (r + 86) := by rw [hw533]; exact (sr_k (by decide)).trans f530
  have f561 : gr w533 r 9 = (r + 152) := by rw [hw533]; exact sr_e
  have n562 : nx w533 = r + 171 := by rw [hw533]; exact ni504
  have u563 : uc w533 = uc w + 170 := by rw [hw533]; exact ui504
  have s564 : us w533 = us w + 3956 := by rw [hw533]; exact si504
  have g565 : ∀ q, q < r → gi w533 q = gi w q ∧ gr w533 q = gr w q ∧ ty w533 q = ty w q ∧ ln w533 q = ln w q := fun q hq => by have a := A534 q (Nat.ne_of_lt (Nat.lt_of_lt_of_le hq (Nat.le_add_right r 0))); have b := g531 q hq; exact ⟨a.1.trans b.1, a.2.1.trans b.2.1, a.2.2.1.trans b.2.2.1, a.2.2.2.trans b.2.2.2⟩
  clear A534 f505 f506 f507 f508 f509 f510 f511 f512 f513 f514 f515 f516 f517 f518 f519 f520 f521 f522 f523 f524 f525 f526 f527 f528 f529 f530 f532 g531 hw533 ni504 si504 ui504
  exact WP.ret rfl rfl rfl trivial (k _ (fun q _ hq => g565 q hq) n562 u563 s564 ⟨⟨f551, f553, f554, f555, f556, f557, f558, f559, f560, f561, f535, f536⟩, f538, f540, f542, f544, f545, f546, f548, f549, ⟨((g565 2 (by omega)).2.2.1).trans hT.1, ((g565 2 (by omega)).2.2.2).trans hT.2⟩⟩ f539 f541 f543 (congrFun f552 1) f550)
