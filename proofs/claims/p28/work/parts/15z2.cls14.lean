set_option maxHeartbeats 4000000 in
theorem c_ord {w : Wd} {r : Nat} (hn : nx w = r + 1) (ht : ty w r = 5) (hz : gi w r = (fun _ => 0)) {Q : Res → Wd → Prop} (k : ∀ w2, Ag w w2 0 r → nx w2 = r + 66 → uc w2 = uc w + 65 → us w2 = us w + 597 → isOrd w2.2 r → Q (0, none) w2) : EvQ 3 26 [vR r] w Q := by
  refine EvQ.enter (ls := [vR r, none]) (Nat.le_of_ble_eq_true rfl) rfl ?_
  have hu0 : uc w = uc w + 0 := rfl
  have hs0 : us w = us w + 0 := rfl
  have hg0 : ∀ q, q < r → gi w q = gi w q ∧ gr w q = gr w q ∧ ty w q = ty w q ∧ ln w q = ln w q := fun _ _ => ⟨rfl, rfl, rfl, rfl⟩
  refine WP.blk 1 ?_
  show WP 2 26 1 [vR r, none] [vR r] w Q
  refine WP.blk 1 ?_
  show WP 2 26 4 [vR r, none] [] w Q
  refine WP.blk 1 ?_
  show WP 2 26 5 [vR r, none] [vR r] w Q
  refine WP.blk 1 ?_
  show WP 2 26 7 [vR r, none] [vI 8, vR r] w Q
  refine WP.blk 1 ?_
  show ((0 : Int) ≤ 8 ∧ (8 : Int) ≤ 100000) ∧ WP 2 26 10 [vR r, none] [vR (nx w), vR r] (mk w 14 8) Q
  refine ⟨⟨by decide, by decide⟩, ?_⟩
  rw [hn]
  obtain ⟨w1, hw1⟩ : ∃ y9, y9 = mk w 14 8 := ⟨_, rfl⟩
  rw [← hw1]
  have A2 : ∀ q, q ≠ r + 1 → gi w1 q = gi w q ∧ gr w1 q = gr w q ∧ ty w1 q = ty w q ∧ ln w1 q = ln w q := fun q hq => by rw [hw1]; exact mk_o (by rw [hn]; exact hq)
  have f3 : ty w1 r = 5 := (A2 _ (nek r 0 1 rfl)).2.2.1.trans ht
  have f4 : gi w1 r = (fun _ => 0) := (A2 _ (nek r 0 1 rfl)).1.trans hz
  have e5 := mk_e (w := w) (t := 14) (n := 8)
  rw [← hw1, hn] at e5
  have n6 : nx w1 = r + 2 := by rw [hw1]; exact congrArg (· + 1) hn
  have u7 : uc w1 = uc w + 1 := by rw [hw1]; exact congrArg (· + 1) hu0
  have s8 : us w1 = us w + 8 := by rw [hw1]; exact congrArg (· + 8) hs0
  have g9 : ∀ q, q < r → gi w1 q = gi w q ∧ gr w1 q = gr w q ∧ ty w1 q = ty w q ∧ ln w1 q = ln w q := fun q hq => by have a := A2 q (Nat.ne_of_lt (Nat.lt_of_lt_of_le hq (Nat.le_add_right r 1))); have b := hg0 q hq; exact ⟨a.1.trans b.1, a.2.1.trans b.2.1, a.2.2.1.trans b.2.2.1, a.2.2.2.trans b.2.2.2⟩
  clear A2 hg0 hs0 hu0 hw1
  refine WP.blk 1 ?_
  show ty w1 r = 5 ∧ WP 2 26 13 [vR r, none] [] (sr w1 r 0 (r + 1)) Q
  refine ⟨f3, ?_⟩
  obtain ⟨w10, hw10⟩ : ∃ y9, y9 = sr w1 r 0 (r + 1) := ⟨_, rfl⟩
  rw [← hw10]
  have A11 : ∀ q, q ≠ r → gi w10 q = gi w1 q ∧ gr w10 q = gr w1 q ∧ ty w10 q = ty w1 q ∧ ln w10 q = ln w1 q := fun q hq => by rw [hw10]; exact sr_o hq
  have f12 : ty w10 (r + 1) = 14 := (A11 _ (nek r 1 0 rfl)).2.2.1.trans e5.2.1
  have f13 : ln w10 (r + 1) = 8 := (A11 _ (nek r 1 0 rfl)).2.2.2.trans e5.2.2
  have f14 : gi w10 (r + 1) = (fun _ => 0) := (A11 _ (nek r 1 0 rfl)).1.trans e5.1
  have f15 : ty w10 r = 5 := by rw [hw10]; exact f3
  have f16 : gi w10 r = (fun _ => 0) := by rw [hw10]; exact f4
  have f17 : gr w10 r 0 = (r + 1) := by rw [hw10]; exact sr_e
  have n18 : nx w10 = r + 2 := by rw [hw10]; exact n6
  have u19 : uc w10 = uc w + 1 := by rw [hw10]; exact u7
  have s20 : us w10 = us w + 8 := by rw [hw10]; exact s8
  have g21 : ∀ q, q < r → gi w10 q = gi w q ∧ gr w10 q = gr w q ∧ ty w10 q = ty w q ∧ ln w10 q = ln w q := fun q hq => by have a := A11 q (Nat.ne_of_lt (Nat.lt_of_lt_of_le hq (Nat.le_add_right r 0))); have b := g9 q hq; exact ⟨a.1.trans b.1, a.2.1.trans b.2.1, a.2.2.1.trans b.2.2.1, a.2.2.2.trans b.2.2.2⟩
  clear A11 e5 f3 f4 g9 hw10 n6 s8 u7
  refine WP.blk 1 ?_
  show WP 2 26 14 [vR r, none] [vR r] w10 Q
  refine WP.blk 1 ?_
  show WP 2 26 16 [vR r, none] [vI 7, vR r] w10 Q
  refine WP.blk 1 ?_
  show ((0 : Int) ≤ 7 ∧ (7 : Int) ≤ 100000) ∧ WP 2 26 19 [vR r, none] [vR (nx w10), vR r] (mk w10 15 7) Q
  refine ⟨⟨by decide, by decide⟩, ?_⟩
  rw [n18]
  obtain ⟨w22, hw22⟩ : ∃ y9, y9 = mk w10 15 7 := ⟨_, rfl⟩
  rw [← hw22]
  have A23 : ∀ q, q ≠ r + 2 → gi w22 q = gi w10 q ∧ gr w22 q = gr w10 q ∧ ty w22 q = ty w10 q ∧ ln w22 q = ln w10 q := fun q hq => by rw [hw22]; exact mk_o (by rw [n18]; exact hq)
  have f24 : ty w22 (r + 1) = 14 := (A23 _ (nek r 1 2 rfl)).2.2.1.trans f12
  have f25 : ln w22 (r + 1) = 8 := (A23 _ (nek r 1 2 rfl)).2.2.2.trans f13
  have f26 : gi w22 (r + 1) = (fun _ => 0) := (A23 _ (nek r 1 2 rfl)).1.trans f14
  have f27 : ty w22 r = 5 := (A23 _ (nek r 0 2 rfl)).2.2.1.trans f15
  have f28 : gi w22 r = (fun _ => 0) := (A23 _ (nek r 0 2 rfl)).1.trans f16
  have f29 : gr w22 r 0 = (r + 1) := (congrFun (A23 _ (nek r 0 2 rfl)).2.1 _).trans f17
  have e30 := mk_e (w := w10) (t := 15) (n := 7)
  rw [← hw22, n18] at e30
  have n31 : nx w22 = r + 3 := by rw [hw22]; exact congrArg (· + 1) n18
  have u32 : uc w22 = uc w + 2 := by rw [hw22]; exact congrArg (· + 1) u19
  have s33 : us w22 = us w + 15 := by rw [hw22]; exact congrArg (· + 7) s20
  have g34 : ∀ q, q < r → gi w22 q = gi w q ∧ gr w22 q = gr w q ∧ ty w22 q = ty w q ∧ ln w22 q = ln w q := fun q hq => by have a := A23 q (Nat.ne_of_lt (Nat.lt_of_lt_of_le hq (Nat.le_add_right r 2))); have b := g21 q hq; exact ⟨a.1.trans b.1, a.2.1.trans b.2.1, a.2.2.1.trans b.2.2.1, a.2.2.2.trans b.2.2.2⟩
  clear A23 f12 f13 f14 f15 f16 f17 g21 hw22 n18 s20 u19
  refine WP.blk 1 ?_
  show ty w22 r = 5 ∧ WP 2 26 22 [vR r, none] [] (sr w22 r 1 (r + 2)) Q
  refine ⟨f27, ?_⟩
  obtain ⟨w35, hw35⟩ : ∃ y9, y9 = sr w22 r 1 (r + 2) := ⟨_, rfl⟩
  rw [← hw35]
  have A36 : ∀ q, q ≠ r → gi w35 q = gi w22 q ∧ gr w35 q = gr w22 q ∧ ty w35 q = ty w22 q ∧ ln w35 q = ln w22 q := fun q hq => by rw [hw35]; exact sr_o hq
  have f37 : ty w35 (r + 1) = 14 := (A36 _ (nek r 1 0 rfl)).2.2.1.trans f24
  have f38 : ln w35 (r + 1) = 8 := (A36 _ (nek r 1 0 rfl)).2.2.2.trans f25
  have f39 : gi w35 (r + 1) = (fun _ => 0) := (A36 _ (nek r 1 0 rfl)).1.trans f26
  have f40 : ty w35 (r + 2) = 15 := (A36 _ (nek r 2 0 rfl)).2.2.1.trans e30.2.1
  have f41 : ln w35 (r + 2) = 7 := (A36 _ (nek r 2 0 rfl)).2.2.2.trans e30.2.2
  have f42 : gi w35 (r + 2) = (fun _ => 0) := (A36 _ (nek r 2 0 rfl)).1.trans e30.1
  have f43 : ty w35 r = 5 := by rw [hw35]; exact f27
  have f44 : gi w35 r = (fun _ => 0) := by rw [hw35]; exact f28
  have f45 : gr w35 r 0 = (r + 1) := by rw [hw35]; exact (sr_k (by decide)).trans f29
  have f46 : gr w35 r 1 = (r + 2) := by rw [hw35]; exact sr_e
  have n47 : nx w35 = r + 3 := by rw [hw35]; exact n31
  have u48 : uc w35 = uc w + 2 := by rw [hw35]; exact u32
  have s49 : us w35 = us w + 15 := by rw [hw35]; exact s33
  have g50 : ∀ q, q < r → gi w35 q = gi w q ∧ gr w35 q = gr w q ∧ ty w35 q = ty w q ∧ ln w35 q = ln w q := fun q hq => by have a := A36 q (Nat.ne_of_lt (Nat.lt_of_lt_of_le hq (Nat.le_add_right r 0))); have b := g34 q hq; exact ⟨a.1.trans b.1, a.2.1.trans b.2.1, a.2.2.1.trans b.2.2.1, a.2.2.2.trans b.2.2.2⟩
  clear A36 e30 f24 f25 f26 f27 f28 f29 g34 hw35 n31 s33 u32
  refine WP.blk 1 ?_
  show WP 2 26 23 [vR r, none] [vR r] w35 Q
  refine WP.blk 1 ?_
  show WP 2 26 25 [vR r, none] [vI 7, vR r] w35 Q
  refine WP.blk 1 ?_
  show ((0 : Int) ≤ 7 ∧ (7 : Int) ≤ 100000) ∧ WP 2 26 27 [vR r, none] [vR (nx w35), vR r] (mk w35 11 7) Q
  refine ⟨⟨by decide, by decide⟩, ?_⟩
  rw [n47]
  obtain ⟨w51, hw51⟩ : ∃ y9, y9 = mk w35 11 7 := ⟨_, rfl⟩
  rw [← hw51]
  have A52 : ∀ q, q ≠ r + 3 → gi w51 q = gi w35 q ∧ gr w51 q = gr w35 q ∧ ty w51 q = ty w35 q ∧ ln w51 q = ln w35 q := fun q hq => by rw [hw51]; exact mk_o (by rw [n47]; exact hq)
  have f53 : ty w51 (r + 1) = 14 := (A52 _ (nek r 1 3 rfl)).2.2.1.trans f37
  have f54 : ln w51 (r + 1) = 8 := (A52 _ (nek r 1 3 rfl)).2.2.2.trans f38
  have f55 : gi w51 (r + 1) = (fun _ => 0) := (A52 _ (nek r 1 3 rfl)).1.trans f39
  have f56 : ty w51 (r + 2) = 15 := (A52 _ (nek r 2 3 rfl)).2.2.1.trans f40
  have f57 : ln w51 (r + 2) = 7 := (A52 _ (nek r 2 3 rfl)).2.2.2.trans f41
  have f58 : gi w51 (r + 2) = (fun _ => 0) := (A52 _ (nek r 2 3 rfl)).1.trans f42
  have f59 : ty w51 r = 5 := (A52 _ (nek r 0 3 rfl)).2.2.1.trans f43
  have f60 : gi w51 r = (fun _ => 0) := (A52 _ (nek r 0 3 rfl)).1.trans f44
  have f61 : gr w51 r 0 = (r + 1) := (congrFun (A52 _ (nek r 0 3 rfl)).2.1 _).trans f45
  have f62 : gr w51 r 1 = (r + 2) := (congrFun (A52 _ (nek r 0 3 rfl)).2.1 _).trans f46
  have e63 := mk_e (w := w35) (t := 11) (n := 7)
  rw [← hw51, n47] at e63
  have n64 : nx w51 = r + 4 := by rw [hw51]; exact congrArg (· + 1) n47
  have u65 : uc w51 = uc w + 3 := by rw [hw51]; exact congrArg (· + 1) u48
  have s66 : us w51 = us w + 22 := by rw [hw51]; exact congrArg (· + 7) s49
  have g67 : ∀ q, q < r → gi w51 q = gi w q ∧ gr w51 q = gr w q ∧ ty w51 q = ty w q ∧ ln w51 q = ln w q := fun q hq => by have a := A52 q (Nat.ne_of_lt (Nat.lt_of_lt_of_le hq (Nat.le_add_right r 3))); have b := g50 q hq; exact ⟨a.1.trans b.1, a.2.1.trans b.2.1, a.2.2.1.trans b.2.2.1, a.2.2.2.trans b.2.2.2⟩
  clear A52 f37 f38 f39 f40 f41 f42 f43 f44 f45 f46 g50 hw51 n47 s49 u48
  refine WP.blk 1 ?_
  show ty w51 r = 5 ∧ WP 2 26 30 [vR r, none] [] (sr w51 r 2 (r + 3)) Q
  refine ⟨f59, ?_⟩
  obtain ⟨w68, hw68⟩ : ∃ y9, y9 = sr w51 r 2 (r + 3) := ⟨_, rfl⟩
  rw [← hw68]
  have A69 : ∀ q, q ≠ r → gi w68 q = gi w51 q ∧ gr w68 q = gr w51 q ∧ ty w68 q = ty w51 q ∧ ln w68 q = ln w51 q := fun q hq => by rw [hw68]; exact sr_o hq
  have f70 : ty w68 (r + 1) = 14 := (A69 _ (nek r 1 0 rfl)).2.2.1.trans f53
  have f71 : ln w68 (r + 1) = 8 := (A69 _ (nek r 1 0 rfl)).2.2.2.trans f54
  have f72 : gi w68 (r + 1) = (fun _ => 0) := (A69 _ (nek r 1 0 rfl)).1.trans f55
  have f73 : ty w68 (r + 2) = 15 := (A69 _ (nek r 2 0 rfl)).2.2.1.trans f56
  have f74 : ln w68 (r + 2) = 7 := (A69 _ (nek r 2 0 rfl)).2.2.2.trans f57
  have f75 : gi w68 (r + 2) = (fun _ => 0) := (A69 _ (nek r 2 0 rfl)).1.trans f58
  have f76 : ty w68 (r + 3) = 11 := (A69 _ (nek r 3 0 rfl)).2.2.1.trans e63.2.1
  have f77 : ln w68 (r + 3) = 7 := (A69 _ (nek r 3 0 rfl)).2.2.2.trans e63.2.2
  have f78 : gi w68 (r + 3) = (fun _ => 0) := (A69 _ (nek r 3 0 rfl)).1.trans e63.1
  have f79 : ty w68 r = 5 := by rw [hw68]; exact f59
  have f80 : gi w68 r = (fun _ => 0) := by rw [hw68]; exact f60
  have f81 : gr w68 r 0 = (r + 1) := by rw [hw68]; exact (sr_k (by decide)).trans f61
  have f82 : gr w68 r 1 = (r + 2) := by rw [hw68]; exact (sr_k (by decide)).trans f62
  have f83 : gr w68 r 2 = (r + 3) := by rw [hw68]; exact sr_e
  have n84 : nx w68 = r + 4 := by rw [hw68]; exact n64
  have u85 : uc w68 = uc w + 3 := by rw [hw68]; exact u65
  have s86 : us w68 = us w + 22 := by rw [hw68]; exact s66
  have g87 : ∀ q, q < r → gi w68 q = gi w q ∧ gr w68 q = gr w q ∧ ty w68 q = ty w q ∧ ln w68 q = ln w q := fun q hq => by have a := A69 q (Nat.ne_of_lt (Nat.lt_of_lt_of_le hq (Nat.le_add_right r 0))); have b := g67 q hq; exact ⟨a.1.trans b.1, a.2.1.trans b.2.1, a.2.2.1.trans b.2.2.1, a.2.2.2.trans b.2.2.2⟩
  clear A69 e63 f53 f54 f55 f56 f57 f58 f59 f60 f61 f62 g67 hw68 n64 s66 u65
  refine WP.blk 1 ?_
  show WP 2 26 31 [vR r, none] [vR r] w68 Q
  refine WP.blk 1 ?_
  show WP 2 26 33 [vR r, none] [vI 7, vR r] w68 Q
  refine WP.blk 1 ?_
  show ((0 : Int) ≤ 7 ∧ (7 : Int) ≤ 100000) ∧ WP 2 26 35 [vR r, none] [vR (nx w68), vR r] (mk w68 11 7) Q
  refine ⟨⟨by decide, by decide⟩, ?_⟩
  rw [n84]
  obtain ⟨w88, hw88⟩ : ∃ y9, y9 = mk w68 11 7 := ⟨_, rfl⟩
  rw [← hw88]
  have A89 : ∀ q, q ≠ r + 4 → gi w88 q = gi w68 q ∧ gr w88 q = gr w68 q ∧ ty w88 q = ty w68 q ∧ ln w88 q = ln w68 q := fun q hq => by rw [hw88]; exact mk_o (by rw [n84]; exact hq)
  have f90 : ty w88 (r + 1) = 14 := (A89 _ (nek r 1 4 rfl)).2.2.1.trans f70
  have f91 : ln w88 (r + 1) = 8 := (A89 _ (nek r 1 4 rfl)).2.2.2.trans f71
  have f92 : gi w88 (r + 1) = (fun _ => 0) := (A89 _ (nek r 1 4 rfl)).1.trans f72
  have f93 : ty w88 (r + 2) = 15 := (A89 _ (nek r 2 4 rfl)).2.2.1.trans f73
  have f94 : ln w88 (r + 2) = 7 := (A89 _ (nek r 2 4 rfl)).2.2.2.trans f74
  have f95 : gi w88 (r + 2) = (fun _ => 0) := (A89 _ (nek r 2 4 rfl)).1.trans f75
  have f96 : ty w88 (r + 3) = 11 := (A89 _ (nek r 3 4 rfl)).2.2.1.trans f76
  have f97 : ln w88 (r + 3) = 7 := (A89 _ (nek r 3 4 rfl)).2.2.2.trans f77
  have f98 : gi w88 (r + 3) = (fun _ => 0) := (A89 _ (nek r 3 4 rfl)).1.trans f78
  have f99 : ty w88 r = 5 := (A89 _ (nek r 0 4 rfl)).2.2.1.trans f79
  have f100 : gi w88 r = (fun _ => 0) := (A89 _ (nek r 0 4 rfl)).1.trans f80
  have f101 : gr w88 r 0 = (r + 1) := (congrFun (A89 _ (nek r 0 4 rfl)).2.1 _).trans f81
  have f102 : gr w88 r 1 = (r + 2) := (congrFun (A89 _ (nek r 0 4 rfl)).2.1 _).trans f82
  have f103 : gr w88 r 2 = (r + 3) := (congrFun (A89 _ (nek r 0 4 rfl)).2.1 _).trans f83
  have e104 := mk_e (w := w68) (t := 11) (n := 7)
  rw [← hw88, n84] at e104
  have n105 : nx w88 = r + 5 := by rw [hw88]; exact congrArg (· + 1) n84
  have u106 : uc w88 = uc w + 4 := by rw [hw88]; exact congrArg (· + 1) u85
  have s107 : us w88 = us w + 29 := by rw [hw88]; exact congrArg (· + 7) s86
  have g108 : ∀ q, q < r → gi w88 q = gi w q ∧ gr w88 q = gr w q ∧ ty w88 q = ty w q ∧ ln w88 q = ln w q := fun q hq => by have a := A89 q (Nat.ne_of_lt (Nat.lt_of_lt_of_le hq (Nat.le_add_right r 4))); have b := g87 q hq; exact ⟨a.1.trans b.1, a.2.1.trans b.2.1, a.2.2.1.trans b.2.2.1, a.2.2.2.trans b.2.2.2⟩
  clear A89 f70 f71 f72 f73 f74 f75 f76 f77 f78 f79 f80 f81 f82 f83 g87 hw88 n84 s86 u85
  refine WP.blk 1 ?_
  show ty w88 r = 5 ∧ WP 2 26 38 [vR r, none] [] (sr w88 r 3 (r + 4)) Q
  refine ⟨f99, ?_⟩
  obtain ⟨w109, hw109⟩ : ∃ y9, y9 = sr w88 r 3 (r + 4) := ⟨_, rfl⟩
  rw [← hw109]
  have A110 : ∀ q, q ≠ r → gi w109 q = gi w88 q ∧ gr w109 q = gr w88 q ∧ ty w109 q = ty w88 q ∧ ln w109 q = ln w88 q := fun q hq => by rw [hw109]; exact sr_o hq
  have f111 : ty w109 (r + 1) = 14 := (A110 _ (nek r 1 0 rfl)).2.2.1.trans f90
  have f112 : ln w109 (r + 1) = 8 := (A110 _ (nek r 1 0 rfl)).2.2.2.trans f91
  have f113 : gi w109 (r + 1) = (fun _ => 0) := (A110 _ (nek r 1 0 rfl)).1.trans f92
  have f114 : ty w109 (r + 2) = 15 := (A110 _ (nek r 2 0 rfl)).2.2.1.trans f93
  have f115 : ln w109 (r + 2) = 7 := (A110 _ (nek r 2 0 rfl)).2.2.2.trans f94
  have f116 : gi w109 (r + 2) = (fun _ => 0) := (A110 _ (nek r 2 0 rfl)).1.trans f95
  have f117 : ty w109 (r + 3) = 11 := (A110 _ (nek r 3 0 rfl)).2.2.1.trans f96
  have f118 : ln w109 (r + 3) = 7 := (A110 _ (nek r 3 0 rfl)).2.2.2.trans f97
  have f119 : gi w109 (r + 3) = (fun _ => 0) := (A110 _ (nek r 3 0 rfl)).1.trans f98
  have f120 : ty w109 (r + 4) = 11 := (A110 _ (nek r 4 0 rfl)).2.2.1.trans e104.2.1
  have f121 : ln w109 (r + 4) = 7 := (A110 _ (nek r 4 0 rfl)).2.2.2.trans e104.2.2
  have f122 : gi w109 (r + 4) = (fun _ => 0) := (A110 _ (nek r 4 0 rfl)).1.trans e104.1
  have f123 : ty w109 r = 5 := by rw [hw109]; exact f99
  have f124 : gi w109 r = (fun _ => 0) := by rw [hw109]; exact f100
  have f125 : gr w109 r 0 = (r + 1) := by rw [hw109]; exact (sr_k (by decide)).trans f101
  have f126 : gr w109 r 1 = (r + 2) := by rw [hw109]; exact (sr_k (by decide)).trans f102
  have f127 : gr w109 r 2 = (r + 3) := by rw [hw109]; exact (sr_k (by decide)).trans f103
  have f128 : gr w109 r 3 = (r + 4) := by rw [hw109]; exact sr_e
  have n129 : nx w109 = r + 5 := by rw [hw109]; exact n105
  have u130 : uc w109 = uc w + 4 := by rw [hw109]; exact u106
  have s131 : us w109 = us w + 29 := by rw [hw109]; exact s107
  have g132 : ∀ q, q < r → gi w109 q = gi w q ∧ gr w109 q = gr w q ∧ ty w109 q = ty w q ∧ ln w109 q = ln w q := fun q hq => by have a := A110 q (Nat.ne_of_lt (Nat.lt_of_lt_of_le hq (Nat.le_add_right r 0))); have b := g108 q hq; exact ⟨a.1.trans b.1, a.2.1.trans b.2.1, a.2.2.1.trans b.2.2.1, a.2.2.2.trans b.2.2.2⟩
  clear A110 e104 f100 f101 f102 f103 f90 f91 f92 f93 f94 f95 f96 f97 f98 f99 g108 hw109 n105 s107 u106
  refine WP.blk 1 ?_
  show WP 2 26 39 [vR r, none] [vR r] w109 Q
  refine WP.blk 1 ?_
  show WP 2 26 41 [vR r, none] [vI 7, vR r] w109 Q
  refine WP.blk 1 ?_
  show ((0 : Int) ≤ 7 ∧ (7 : Int) ≤ 100000) ∧ WP 2 26 43 [vR r, none] [vR (nx w109), vR r] (mk w109 11 7) Q
  refine ⟨⟨by decide, by decide⟩, ?_⟩
  rw [n129]
  obtain ⟨w133, hw133⟩ : ∃ y9, y9 = mk w109 11 7 := ⟨_, rfl⟩
  rw [← hw133]
  have A134 : ∀ q, q ≠ r + 5 → gi w133 q = gi w109 q ∧ gr w133 q = gr w109 q ∧ ty w133 q = ty w109 q ∧ ln w133 q = ln w109 q := fun q hq => by rw [hw133]; exact mk_o (by rw [n129]; exact hq)
  have f135 : ty w133 (r + 1) = 14 := (A134 _ (nek r 1 5 rfl)).2.2.1.trans f111
  have f136 : ln w133 (r + 1) = 8 := (A134 _ (nek r 1 5 rfl)).2.2.2.trans f112
  have f137 : gi w133 (r + 1) = (fun _ => 0) := (A134 _ (nek r 1 5 rfl)).1.trans f113
  have f138 : ty w133 (r + 2) = 15 := (A134 _ (nek r 2 5 rfl)).2.2.1.trans f114
  have f139 : ln w133 (r + 2) = 7 := (A134 _ (nek r 2 5 rfl)).2.2.2.trans f115
  have f140 : gi w133 (r + 2) = (fun _ => 0) := (A134 _ (nek r 2 5 rfl)).1.trans f116
  have f141 : ty w133 (r + 3) = 11 := (A134 _ (nek r 3 5 rfl)).2.2.1.trans f117
  have f142 : ln w133 (r + 3) = 7 := (A134 _ (nek r 3 5 rfl)).2.2.2.trans f118
  have f143 : gi w133 (r + 3) = (fun _ => 0) := (A134 _ (nek r 3 5 rfl)).1.trans f119
  have f144 : ty w133 (r + 4) = 11 := (A134 _ (nek r 4 5 rfl)).2.2.1.trans f120
  have f145 : ln w133 (r + 4) = 7 := (A134 _ (nek r 4 5 rfl)).2.2.2.trans f121
  have f146 : gi w133 (r + 4) = (fun _ => 0) := (A134 _ (nek r 4 5 rfl)).1.trans f122
  have f147 : ty w133 r = 5 := (A134 _ (nek r 0 5 rfl)).2.2.1.trans f123
  have f148 : gi w133 r = (fun _ => 0) := (A134 _ (nek r 0 5 rfl)).1.trans f124
  have f149 : gr w133 r 0 = (r + 1) := (congrFun (A134 _ (nek r 0 5 rfl)).2.1 _).trans f125
  have f150 : gr w133 r 1 = (r + 2) := (congrFun (A134 _ (nek r 0 5 rfl)).2.1 _).trans f126
  have f151 : gr w133 r 2 = (r + 3) := (congrFun (A134 _ (nek r 0 5 rfl)).2.1 _).trans f127
  have f152 : gr w133 r 3 = (r + 4) := (congrFun (A134 _ (nek r 0 5 rfl)).2.1 _).trans f128
  have e153 := mk_e (w := w109) (t := 11) (n := 7)
  rw [← hw133, n129] at e153
  have n154 : nx w133 = r + 6 := by rw [hw133]; exact congrArg (· + 1) n129
  have u155 : uc w133 = uc w + 5 := by rw [hw133]; exact congrArg (· + 1) u130
  have s156 : us w133 = us w + 36 := by rw [hw133]; exact congrArg (· + 7) s131
  have g157 : ∀ q, q < r → gi w133 q = gi w q ∧ gr w133 q = gr w q ∧ ty w133 q = ty w q ∧ ln w133 q = ln w q := fun q hq => by have a := A134 q (Nat.ne_of_lt (Nat.lt_of_lt_of_le hq (Nat.le_add_right r 5))); have b := g132 q hq; exact ⟨a.1.trans b.1, a.2.1.trans b.2.1, a.2.2.1.trans b.2.2.1, a.2.2.2.trans b.2.2.2⟩
  clear A134 f111 f112 f113 f114 f115 f116 f117 f118 f119 f120 f121 f122 f123 f124 f125 f126 f127 f128 g132 hw133 n129 s131 u130
  refine WP.blk 1 ?_
  show ty w133 r = 5 ∧ WP 2 26 46 [vR r, none] [] (sr w133 r 4 (r + 5)) Q
  refine ⟨f147, ?_⟩
  obtain ⟨w158, hw158⟩ : ∃ y9, y9 = sr w133 r 4 (r + 5) := ⟨_, rfl⟩
  rw [← hw158]
  have A159 : ∀ q, q ≠ r → gi w158 q = gi w133 q ∧ gr w158 q = gr w133 q ∧ ty w158 q = ty w133 q ∧ ln w158 q = ln w133 q := fun q hq => by rw [hw158]; exact sr_o hq
  have f160 : ty w158 (r + 1) = 14 := (A159 _ (nek r 1 0 rfl)).2.2.1.trans f135
  have f161 : ln w158 (r + 1) = 8 := (A159 _ (nek r 1 0 rfl)).2.2.2.trans f136
  have f162 : gi w158 (r + 1) = (fun _ => 0) := (A159 _ (nek r 1 0 rfl)).1.trans f137
  have f163 : ty w158 (r + 2) = 15 := (A159 _ (nek r 2 0 rfl)).2.2.1.trans f138
  have f164 : ln w158 (r + 2) = 7 := (A159 _ (nek r 2 0 rfl)).2.2.2.trans f139
  have f165 : gi w158 (r + 2) = (fun _ => 0) := (A159 _ (nek r 2 0 rfl)).1.trans f140
  have f166 : ty w158 (r + 3) = 11 := (A159 _ (nek r 3 0 rfl)).2.2.1.trans f141
  have f167 : ln w158 (r + 3) = 7 := (A159 _ (nek r 3 0 rfl)).2.2.2.trans f142
  have f168 : gi w158 (r + 3) = (fun _ => 0) := (A159 _ (nek r 3 0 rfl)).1.trans f143
  have f169 : ty w158 (r + 4) = 11 := (A159 _ (nek r 4 0 rfl)).2.2.1.trans f144
  have f170 : ln w158 (r + 4) = 7 := (A159 _ (nek r 4 0 rfl)).2.2.2.trans f145
  have f171 : gi w158 (r + 4) = (fun _ => 0) := (A159 _ (nek r 4 0 rfl)).1.trans f146
  have f172 : ty w158 (r + 5) = 11 := (A159 _ (nek r 5 0 rfl)).2.2.1.trans e153.2.1
  have f173 : ln w158 (r + 5) = 7 := (A159 _ (nek r 5 0 rfl)).2.2.2.trans e153.2.2
  have f174 : gi w158 (r + 5) = (fun _ => 0) := (A159 _ (nek r 5 0 rfl)).1.trans e153.1
  have f175 : ty w158 r = 5 := by rw [hw158]; exact f147
  have f176 : gi w158 r = (fun _ => 0) := by rw [hw158]; exact f148
  have f177 : gr w158 r 0 = (r + 1) := by rw [hw158]; exact (sr_k (by decide)).trans f149
  have f178 : gr w158 r 1 = (r + 2) := by rw [hw158]; exact (sr_k (by decide)).trans f150
  have f179 : gr w158 r 2 = (r + 3) := by rw [hw158]; exact (sr_k (by decide)).trans f151
  have f180 : gr w158 r 3 = (r + 4) := by rw [hw158]; exact (sr_k (by decide)).trans f152
  have f181 : gr w158 r 4 = (r + 5) := by rw [hw158]; exact sr_e
  have n182 : nx w158 = r + 6 := by rw [hw158]; exact n154
  have u183 : uc w158 = uc w + 5 := by rw [hw158]; exact u155
  have s184 : us w158 = us w + 36 := by rw [hw158]; exact s156
  have g185 : ∀ q, q < r → gi w158 q = gi w q ∧ gr w158 q = gr w q ∧ ty w158 q = ty w q ∧ ln w158 q = ln w q := fun q hq => by have a := A159 q (Nat.ne_of_lt (Nat.lt_of_lt_of_le hq (Nat.le_add_right r 0))); have b := g157 q hq; exact ⟨a.1.trans b.1, a.2.1.trans b.2.1, a.2.2.1.trans b.2.2.1, a.2.2.2.trans b.2.2.2⟩
  clear A159 e153 f135 f136 f137 f138 f139 f140 f141 f142 f143 f144 f145 f146 f147 f148 f149 f150 f151 f152 g157 hw158 n154 s156 u155
  refine WP.blk 1 ?_
  show WP 2 26 47 [vR r, none] [vI 0] w158 Q
  refine WP.blk 1 ?_
  show WP 2 26 48 [vR r, vI 0] [] w158 Q
  refine WP.blk 1 ?_
  show WP 2 26 49 [vR r, vI 0] [vI 0] w158 Q
  refine WP.blk 1 ?_
  show WP 2 26 51 [vR r, vI 0] [vI 7, vI 0] w158 Q
  refine WP.blk 1 ?_
  show WP 2 26 54 [vR r, vI 0] [] w158 Q
  refine WP.blk 1 ?_
  show WP 2 26 55 [vR r, vI 0] [vR r] w158 Q
  refine WP.blk 1 ?_
  show (ty w158 r = 5 ∧ gr w158 r 0 ≠ 0) ∧ WP 2 26 58 [vR r, vI 0] [vR (gr w158 r 0)] w158 Q
  refine ⟨⟨f175, by rw [f177]; exact Nat.succ_ne_zero _⟩, ?_⟩
  rw [f177]
  refine WP.blk 1 ?_
  show WP 2 26 59 [vR r, vI 0] [vI 0, vR (r + 1)] w158 Q
  refine WP.blk 1 ?_
  show WP 2 26 62 [vR r, vI 0] [vR (nx w158), vI 0, vR (r + 1)] (mk w158 4 6) Q
  rw [n182]
  obtain ⟨w186, hw186⟩ : ∃ y9, y9 = mk w158 4 6 := ⟨_, rfl⟩
  rw [← hw186]
  have A187 : ∀ q, q ≠ r + 6 → gi w186 q = gi w158 q ∧ gr w186 q = gr w158 q ∧ ty w186 q = ty w158 q ∧ ln w186 q = ln w158 q := fun q hq => by rw [hw186]; exact mk_o (by rw [n182]; exact hq)
  have f188 : ty w186 (r + 1) = 14 := (A187 _ (nek r 1 6 rfl)).2.2.1.trans f160
  have f189 : ln w186 (r + 1) = 8 := (A187 _ (nek r 1 6 rfl)).2.2.2.trans f161
  have f190 : gi w186 (r + 1) = (fun _ => 0) := (A187 _ (nek r 1 6 rfl)).1.trans f162
  have f191 : ty w186 (r + 2) = 15 := (A187 _ (nek r 2 6 rfl)).2.2.1.trans f163
  have f192 : ln w186 (r + 2) = 7 := (A187 _ (nek r 2 6 rfl)).2.2.2.trans f164
  have f193 : gi w186 (r + 2) = (fun _ => 0) := (A187 _ (nek r 2 6 rfl)).1.trans f165
  have f194 : ty w186 (r + 3) = 11 := (A187 _ (nek r 3 6 rfl)).2.2.1.trans f166
  have f195 : ln w186 (r + 3) = 7 := (A187 _ (nek r 3 6 rfl)).2.2.2.trans f167
  have f196 : gi w186 (r + 3) = (fun _ => 0) := (A187 _ (nek r 3 6 rfl)).1.trans f168
  have f197 : ty w186 (r + 4) = 11 := (A187 _ (nek r 4 6 rfl)).2.2.1.trans f169
  have f198 : ln w186 (r + 4) = 7 := (A187 _ (nek r 4 6 rfl)).2.2.2.trans f170
  have f199 : gi w186 (r + 4) = (fun _ => 0) := (A187 _ (nek r 4 6 rfl)).1.trans f171
  have f200 : ty w186 (r + 5) = 11 := (A187 _ (nek r 5 6 rfl)).2.2.1.trans f172
  have f201 : ln w186 (r + 5) = 7 := (A187 _ (nek r 5 6 rfl)).2.2.2.trans f173
  have f202 : gi w186 (r + 5) = (fun _ => 0) := (A187 _ (nek r 5 6 rfl)).1.trans f174
  have f203 : ty w186 r = 5 := (A187 _ (nek r 0 6 rfl)).2.2.1.trans f175
  have f204 : gi w186 r = (fun _ => 0) := (A187 _ (nek r 0 6 rfl)).1.trans f176
  have f205 : gr w186 r 0 = (r + 1) := (congrFun (A187 _ (nek r 0 6 rfl)).2.1 _).trans f177
  have f206 : gr w186 r 1 = (r + 2) := (congrFun (A187 _ (nek r 0 6 rfl)).2.1 _).trans f178
  have f207 : gr w186 r 2 = (r + 3) := (congrFun (A187 _ (nek r 0 6 rfl)).2.1 _).trans f179
  have f208 : gr w186 r 3 = (r + 4) := (congrFun (A187 _ (nek r 0 6 rfl)).2.1 _).trans f180
  have f209 : gr w186 r 4 = (r + 5) := (congrFun (A187 _ (nek r 0 6 rfl)).2.1 _).trans f181
  have e210 := mk_e (w := w158) (t := 4) (n := 6)
  rw [← hw186, n182] at e210
  have n211 : nx w186 = r + 7 := by rw [hw186]; exact congrArg (· + 1) n182
  have u212 : uc w186 = uc w + 6 := by rw [hw186]; exact congrArg (· + 1) u183
  have s213 : us w186 = us w + 42 := by rw [hw186]; exact congrArg (· + 6) s184
  have g214 : ∀ q, q < r → gi w186 q = gi w q ∧ gr w186 q = gr w q ∧ ty w186 q = ty w q ∧ ln w186 q = ln w q := fun q hq => by have a := A187 q (Nat.ne_of_lt (Nat.lt_of_lt_of_le hq (Nat.le_add_right r 6))); have b := g185 q hq; exact ⟨a.1.trans b.1, a.2.1.trans b.2.1, a.2.2.1.trans b.2.2.1, a.2.2.2.trans b.2.2.2⟩
  clear A187 f160 f161 f162 f163 f164 f165 f166 f167 f168 f169 f170 f171 f172 f173 f174 f175 f176 f177 f178 f179 f180 f181 g185 hw186 n182 s184 u183
  refine WP.blk 1 ?_
  show WP 2 26 63 [vR r, vI 0] [vR (r + 6), vR (r + 6), vI 0, vR (r + 1)] w186 Q
  refine WP.cl (a := [vR (r + 6)]) (rest := [vR (r + 6), vI 0, vR (r + 1)]) rfl rfl rfl rfl trivial (by decide) (c_inks n211 e210.2.1 e210.1 (fun w215 hA216 hni217 hui217 hsi217 f218 f219 => ⟨rfl, ?_⟩))
  show WP 2 26 66 [vR r, vI 0] [vR (r + 6), vI 0, vR (r + 1)] w215 Q
  have A216 : ∀ q, q < r + 6 → gi w215 q = gi w186 q ∧ gr w215 q = gr w186 q ∧ ty w215 q = ty w186 q ∧ ln w215 q = ln w186 q := fun q hq => hA216 q (Nat.zero_le _) hq
  have f220 : ty w215 (r + 1) = 14 := (A216 _ (ltk r 1 6 rfl)).2.2.1.trans f188
  have f221 : ln w215 (r + 1) = 8 := (A216 _ (ltk r 1 6 rfl)).2.2.2.trans f189
  have f222 : gi w215 (r + 1) = (fun _ => 0) := (A216 _ (ltk r 1 6 rfl)).1.trans f190
  have f223 : ty w215 (r + 2) = 15 := (A216 _ (ltk r 2 6 rfl)).2.2.1.trans f191
  have f224 : ln w215 (r + 2) = 7 := (A216 _ (ltk r 2 6 rfl)).2.2.2.trans f192
  have f225 : gi w215 (r + 2) = (fun _ => 0) := (A216 _ (ltk r 2 6 rfl)).1.trans f193
  have f226 : ty w215 (r + 3) = 11 := (A216 _ (ltk r 3 6 rfl)).2.2.1.trans f194
  have f227 : ln w215 (r + 3) = 7 := (A216 _ (ltk r 3 6 rfl)).2.2.2.trans f195
  have f228 : gi w215 (r + 3) = (fun _ => 0) := (A216 _ (ltk r 3 6 rfl)).1.trans f196
  have f229 : ty w215 (r + 4) = 11 := (A216 _ (ltk r 4 6 rfl)).2.2.1.trans f197
  have f230 : ln w215 (r + 4) = 7 := (A216 _ (ltk r 4 6 rfl)).2.2.2.trans f198
  have f231 : gi w215 (r + 4) = (fun _ => 0) := (A216 _ (ltk r 4 6 rfl)).1.trans f199
  have f232 : ty w215 (r + 5) = 11 := (A216 _ (ltk r 5 6 rfl)).2.2.1.trans f200
  have f233 : ln w215 (r + 5) = 7 := (A216 _ (ltk r 5 6 rfl)).2.2.2.trans f201
  have f234 : gi w215 (r + 5) = (fun _ => 0) := (A216 _ (ltk r 5 6 rfl)).1.trans f202
  have f235 : ty w215 r = 5 := (A216 _ (ltk r 0 6 rfl)).2.2.1.trans f203
  have f236 : gi w215 r = (fun _ => 0) := (A216 _ (ltk r 0 6 rfl)).1.trans f204
  have f237 : gr w215 r 0 = (r + 1) := (congrFun (A216 _ (ltk r 0 6 rfl)).2.1 _).trans f205
  have f238 : gr w215 r 1 = (r + 2) := (congrFun (A216 _ (ltk r 0 6 rfl)).2.1 _).trans f206
  have f239 : gr w215 r 2 = (r + 3) := (congrFun (A216 _ (ltk r 0 6 rfl)).2.1 _).trans f207
  have f240 : gr w215 r 3 = (r + 4) := (congrFun (A216 _ (ltk r 0 6 rfl)).2.1 _).trans f208
  have f241 : gr w215 r 4 = (r + 5) := (congrFun (A216 _ (ltk r 0 6 rfl)).2.1 _).trans f209
  have ni217 : nx w215 = r + 10 := hni217
  have ui217 : uc w215 = uc w + 9 := hui217.trans (congrArg (· + 3) u212)
  have si217 : us w215 = us w + 72 := hsi217.trans (congrArg (· + 30) s213)
  have g242 : ∀ q, q < r → gi w215 q = gi w q ∧ gr w215 q = gr w q ∧ ty w215 q = ty w q ∧ ln w215 q = ln w q := fun q hq => by have a := A216 q (Nat.lt_of_lt_of_le hq (Nat.le_add_right r 6)); have b := g214 q hq; exact ⟨a.1.trans b.1, a.2.1.trans b.2.1, a.2.2.1.trans b.2.2.1, a.2.2.2.trans b.2.2.2⟩
  clear A216 e210 f188 f189 f190 f191 f192 f193 f194 f195 f196 f197 f198 f199 f200 f201 f202 f203 f204 f205 f206 f207 f208 f209 g214 hA216 hni217 hsi217 hui217 n211 s213 u212
  refine WP.blk 1 ?_
  show (ref3 (ty w215 (r + 1)) ∧ 0 ≤ (0 : Int) ∧ (0 : Int) < (ln w215 (r + 1) : Int) ∧ ty w215 (r + 6) = el3 (ty w215 (r + 1))) ∧ WP 2 26 67 [vR r, vI 0] [] (sr w215 (r + 1) 0 (r + 6)) Q
  refine ⟨⟨Or.inr (Or.inl f220), by decide, by rw [f221]; decide, by rw [f220]; exact f218.1⟩, ?_⟩
  obtain ⟨w243, hw243⟩ : ∃ y9, y9 = sr w215 (r + 1) 0 (r + 6) := ⟨_, rfl⟩
  rw [← hw243]
  have A244 : ∀ q, q ≠ r + 1 → gi w243 q = gi w215 q ∧ gr w243 q = gr w215 q ∧ ty w243 q = ty w215 q ∧ ln w243 q = ln w215 q := fun q hq => by rw [hw243]; exact sr_o hq
  have f245 : ty w243 (r + 2) = 15 := (A244 _ (nek r 2 1 rfl)).2.2.1.trans f223
  have f246 : ln w243 (r + 2) = 7 := (A244 _ (nek r 2 1 rfl)).2.2.2.trans f224
  have f247 : gi w243 (r + 2) = (fun _ => 0) := (A244 _ (nek r 2 1 rfl)).1.trans f225
  have f248 : ty w243 (r + 3) = 11 := (A244 _ (nek r 3 1 rfl)).2.2.1.trans f226
  have f249 : ln w243 (r + 3) = 7 := (A244 _ (nek r 3 1 rfl)).2.2.2.trans f227
  have f250 : gi w243 (r + 3) = (fun _ => 0) := (A244 _ (nek r 3 1 rfl)).1.trans f228
  have f251 : ty w243 (r + 4) = 11 := (A244 _ (nek r 4 1 rfl)).2.2.1.trans f229
  have f252 : ln w243 (r + 4) = 7 := (A244 _ (nek r 4 1 rfl)).2.2.2.trans f230
  have f253 : gi w243 (r + 4) = (fun _ => 0) := (A244 _ (nek r 4 1 rfl)).1.trans f231
  have f254 : ty w243 (r + 5) = 11 := (A244 _ (nek r 5 1 rfl)).2.2.1.trans f232
  have f255 : ln w243 (r + 5) = 7 := (A244 _ (nek r 5 1 rfl)).2.2.2.trans f233
  have f256 : gi w243 (r + 5) = (fun _ => 0) := (A244 _ (nek r 5 1 rfl)).1.trans f234
  have f257 : ty w243 r = 5 := (A244 _ (nek r 0 1 rfl)).2.2.1.trans f235
  have f258 : gi w243 r = (fun _ => 0) := (A244 _ (nek r 0 1 rfl)).1.trans f236
  have f259 : gr w243 r 0 = (r + 1) := (congrFun (A244 _ (nek r 0 1 rfl)).2.1 _).trans f237
  have f260 : gr w243 r 1 = (r + 2) := (congrFun (A244 _ (nek r 0 1 rfl)).2.1 _).trans f238
  have f261 : gr w243 r 2 = (r + 3) := (congrFun (A244 _ (nek r 0 1 rfl)).2.1 _).trans f239
  have f262 : gr w243 r 3 = (r + 4) := (congrFun (A244 _ (nek r 0 1 rfl)).2.1 _).trans f240
  have f263 : gr w243 r 4 = (r + 5) := (congrFun (A244 _ (nek r 0 1 rfl)).2.1 _).trans f241
  have f264 : isInks w243.2 (r + 6) := inks_ag (fun q a b => A244 q (Nat.ne_of_gt (Nat.lt_of_lt_of_le (ltk r 1 6 rfl) a))) f218
  have f265 : ty w243 (r + 6) = 4 := (A244 _ (nek r 6 1 rfl)).2.2.1.trans f218.1
  have f266 : ty w243 (r + 1) = 14 := by rw [hw243]; exact f220
  have f267 : ln w243 (r + 1) = 8 := by rw [hw243]; exact f221
  have f268 : gi w243 (r + 1) = (fun _ => 0) := by rw [hw243]; exact f222
  have f269 : gr w243 (r + 1) 0 = (r + 6) := by rw [hw243]; exact sr_e
  have n270 : nx w243 = r + 10 := by rw [hw243]; exact ni217
  have u271 : uc w243 = uc w + 9 := by rw [hw243]; exact ui217
  have s272 : us w243 = us w + 72 := by rw [hw243]; exact si217
  have g273 : ∀ q, q < r → gi w243 q = gi w q ∧ gr w243 q = gr w q ∧ ty w243 q = ty w q ∧ ln w243 q = ln w q := fun q hq => by have a := A244 q (Nat.ne_of_lt (Nat.lt_of_lt_of_le hq (Nat.le_add_right r 1))); have b := g242 q hq; exact ⟨a.1.trans b.1, a.2.1.trans b.2.1, a.2.2.1.trans b.2.2.1, a.2.2.2.trans b.2.2.2⟩
  clear A244 f218 f219 f220 f221 f222 f223 f224 f225 f226 f227 f228 f229 f230 f231 f232 f233 f234 f235 f236 f237 f238 f239 f240 f241 g242 hw243 ni217 si217 ui217
  refine WP.blk 1 ?_
  show ir (0 + 1) ∧ WP 2 26 70 [vR r, vI 1] [] w243 Q
  refine ⟨⟨by decide, by decide⟩, ?_⟩
  refine WP.blk 1 ?_
  show WP 2 26 48 [vR r, vI 1] [] w243 Q
  refine WP.blk 1 ?_
  show WP 2 26 49 [vR r, vI 1] [vI 1] w243 Q
  refine WP.blk 1 ?_
  show WP 2 26 51 [vR r, vI 1] [vI 7, vI 1] w243 Q
  refine WP.blk 1 ?_
  show WP 2 26 54 [vR r, vI 1] [] w243 Q
  refine WP.blk 1 ?_
  show WP 2 26 55 [vR r, vI 1] [vR r] w243 Q
  refine WP.blk 1 ?_
  show (ty w243 r = 5 ∧ gr w243 r 0 ≠ 0) ∧ WP 2 26 58 [vR r, vI 1] [vR (gr w243 r 0)] w243 Q
  refine ⟨⟨f257, by rw [f259]; exact Nat.succ_ne_zero _⟩, ?_⟩
  rw [f259]
  refine WP.blk 1 ?_
  show WP 2 26 59 [vR r, vI 1] [vI 1, vR (r + 1)] w243 Q
  refine WP.blk 1 ?_
  show WP 2 26 62 [vR r, vI 1] [vR (nx w243), vI 1, vR (r + 1)] (mk w243 4 6) Q
  rw [n270]
  obtain ⟨w274, hw274⟩ : ∃ y9, y9 = mk w243 4 6 := ⟨_, rfl⟩
  rw [← hw274]
  have A275 : ∀ q, q ≠ r + 10 → gi w274 q = gi w243 q ∧ gr w274 q = gr w243 q ∧ ty w274 q = ty w243 q ∧ ln w274 q = ln w243 q := fun q hq => by rw [hw274]; exact mk_o (by rw [n270]; exact hq)
  have f276 : ty w274 (r + 2) = 15 := (A275 _ (nek r 2 10 rfl)).2.2.1.trans f245
  have f277 : ln w274 (r + 2) = 7 := (A275 _ (nek r 2 10 rfl)).2.2.2.trans f246
  have f278 : gi w274 (r + 2) = (fun _ => 0) := (A275 _ (nek r 2 10 rfl)).1.trans f247
  have f279 : ty w274 (r + 3) = 11 := (A275 _ (nek r 3 10 rfl)).2.2.1.trans f248
  have f280 : ln w274 (r + 3) = 7 := (A275 _ (nek r 3 10 rfl)).2.2.2.trans f249
  have f281 : gi w274 (r + 3) = (fun _ => 0) := (A275 _ (nek r 3 10 rfl)).1.trans f250
  have f282 : ty w274 (r + 4) = 11 := (A275 _ (nek r 4 10 rfl)).2.2.1.trans f251
  have f283 : ln w274 (r + 4) = 7 := (A275 _ (nek r 4 10 rfl)).2.2.2.trans f252
  have f284 : gi w274 (r + 4) = (fun _ => 0) := (A275 _ (nek r 4 10 rfl)).1.trans f253
  have f285 : ty w274 (r + 5) = 11 := (A275 _ (nek r 5 10 rfl)).2.2.1.trans f254
  have f286 : ln w274 (r + 5) = 7 := (A275 _ (nek r 5 10 rfl)).2.2.2.trans f255
  have f287 : gi w274 (r + 5) = (fun _ => 0) := (A275 _ (nek r 5 10 rfl)).1.trans f256
  have f288 : ty w274 r = 5 := (A275 _ (nek r 0 10 rfl)).2.2.1.trans f257
  have f289 : gi w274 r = (fun _ => 0) := (A275 _ (nek r 0 10 rfl)).1.trans f258
  have f290 : gr w274 r 0 = (r + 1) := (congrFun (A275 _ (nek r 0 10 rfl)).2.1 _).trans f259
  have f291 : gr w274 r 1 = (r + 2) := (congrFun (A275 _ (nek r 0 10 rfl)).2.1 _).trans f260
  have f292 : gr w274 r 2 = (r + 3) := (congrFun (A275 _ (nek r 0 10 rfl)).2.1 _).trans f261
  have f293 : gr w274 r 3 = (r + 4) := (congrFun (A275 _ (nek r 0 10 rfl)).2.1 _).trans f262
  have f294 : gr w274 r 4 = (r + 5) := (congrFun (A275 _ (nek r 0 10 rfl)).2.1 _).trans f263
  have f295 : isInks w274.2 (r + 6) := inks_ag (fun q a b => A275 q (Nat.ne_of_lt (Nat.lt_of_lt_of_le b (lek r 6 4 10 rfl)))) f264
  have f296 : ty w274 (r + 6) = 4 := (A275 _ (nek r 6 10 rfl)).2.2.1.trans f265
  have f297 : ty w274 (r + 1) = 14 := (A275 _ (nek r 1 10 rfl)).2.2.1.trans f266
  have f298 : ln w274 (r + 1) = 8 := (A275 _ (nek r 1 10 rfl)).2.2.2.trans f267
  have f299 : gi w274 (r + 1) = (fun _ => 0) := (A275 _ (nek r 1 10 rfl)).1.trans f268
  have f300 : gr w274 (r + 1) 0 = (r + 6) := (congrFun (A275 _ (nek r 1 10 rfl)).2.1 _).trans f269
  have e301 := mk_e (w := w243) (t := 4) (n := 6)
  rw [← hw274, n270] at e301
  have n302 : nx w274 = r + 11 := by rw [hw274]; exact congrArg (· + 1) n270
  have u303 : uc w274 = uc w + 10 := by rw [hw274]; exact congrArg (· + 1) u271
  have s304 : us w274 = us w + 78 := by rw [hw274]; exact congrArg (· + 6) s272
  have g305 : ∀ q, q < r → gi w274 q = gi w q ∧ gr w274 q = gr w q ∧ ty w274 q = ty w q ∧ ln w274 q = ln w q := fun q hq => by have a := A275 q (Nat.ne_of_lt (Nat.lt_of_lt_of_le hq (Nat.le_add_right r 10))); have b := g273 q hq; exact ⟨a.1.trans b.1, a.2.1.trans b.2.1, a.2.2.1.trans b.2.2.1, a.2.2.2.trans b.2.2.2⟩
  clear A275 f245 f246 f247 f248 f249 f250 f251 f252 f253 f254 f255 f256 f257 f258 f259 f260 f261 f262 f263 f264 f265 f266 f267 f268 f269 g273 hw274 n270 s272 u271
  refine WP.blk 1 ?_
  show WP 2 26 63 [vR r, vI 1] [vR (r + 10), vR (r + 10), vI 1, vR (r + 1)] w274 Q
  refine WP.cl (a := [vR (r + 10)]) (rest := [vR (r + 10), vI 1, vR (r + 1)]) rfl rfl rfl rfl trivial (by decide) (c_inks n302 e301.2.1 e301.1 (fun w306 hA307 hni308 hui308 hsi308 f309 f310 => ⟨rfl, ?_⟩))
  show WP 2 26 66 [vR r, vI 1] [vR (r + 10), vI 1, vR (r + 1)] w306 Q
  have A307 : ∀ q, q < r + 10 → gi w306 q = gi w274 q ∧ gr w306 q = gr w274 q ∧ ty w306 q = ty w274 q ∧ ln w306 q = ln w274 q := fun q hq => hA307 q (Nat.zero_le _) hq
  have f311 : ty w306 (r + 2) = 15 := (A307 _ (ltk r 2 10 rfl)).2.2.1.trans f276
  have f312 : ln w306 (r + 2) = 7 := (A307 _ (ltk r 2 10 rfl)).2.2.2.trans f277
  have f313 : gi w306 (r + 2) = (fun _ => 0) := (A307 _ (ltk r 2 10 rfl)).1.trans f278
  have f314 : ty w306 (r + 3) = 11 := (A307 _ (ltk r 3 10 rfl)).2.2.1.trans f279
  have f315 : ln w306 (r + 3) = 7 := (A307 _ (ltk r 3 10 rfl)).2.2.2.trans f280
  have f316 : gi w306 (r + 3) = (fun _ => 0) := (A307 _ (ltk r 3 10 rfl)).1.trans f281
  have f317 : ty w306 (r + 4) = 11 := (A307 _ (ltk r 4 10 rfl)).2.2.1.trans f282
  have f318 : ln w306 (r + 4) = 7 := (A307 _ (ltk r 4 10 rfl)).2.2.2.trans f283
  have f319 : gi w306 (r + 4) = (fun _ => 0) := (A307 _ (ltk r 4 10 rfl)).1.trans f284
  have f320 : ty w306 (r + 5) = 11 := (A307 _ (ltk r 5 10 rfl)).2.2.1.trans f285
  have f321 : ln w306 (r + 5) = 7 := (A307 _ (ltk r 5 10 rfl)).2.2.2.trans f286
  have f322 : gi w306 (r + 5) = (fun _ => 0) := (A307 _ (ltk r 5 10 rfl)).1.trans f287
  have f323 : ty w306 r = 5 := (A307 _ (ltk r 0 10 rfl)).2.2.1.trans f288
  have f324 : gi w306 r = (fun _ => 0) := (A307 _ (ltk r 0 10 rfl)).1.trans f289
  have f325 : gr w306 r 0 = (r + 1) := (congrFun (A307 _ (ltk r 0 10 rfl)).2.1 _).trans f290
  have f326 : gr w306 r 1 = (r + 2) := (congrFun (A307 _ (ltk r 0 10 rfl)).2.1 _).trans f291
  have f327 : gr w306 r 2 = (r + 3) := (congrFun (A307 _ (ltk r 0 10 rfl)).2.1 _).trans f292
  have f328 : gr w306 r 3 = (r + 4) := (congrFun (A307 _ (ltk r 0 10 rfl)).2.1 _).trans f293
  have f329 : gr w306 r 4 = (r + 5) := (congrFun (A307 _ (ltk r 0 10 rfl)).2.1 _).trans f294
  have f330 : isInks w306.2 (r + 6) := inks_ag (fun q a b => A307 q (Nat.lt_of_lt_of_le b (lek r 6 4 10 rfl))) f295
  have f331 : ty w306 (r + 6) = 4 := (A307 _ (ltk r 6 10 rfl)).2.2.1.trans f296
  have f332 : ty w306 (r + 1) = 14 := (A307 _ (ltk r 1 10 rfl)).2.2.1.trans f297
  have f333 : ln w306 (r + 1) = 8 := (A307 _ (ltk r 1 10 rfl)).2.2.2.trans f298
  have f334 : gi w306 (r + 1) = (fun _ => 0) := (A307 _ (ltk r 1 10 rfl)).1.trans f299
  have f335 : gr w306 (r + 1) 0 = (r + 6) := (congrFun (A307 _ (ltk r 1 10 rfl)).2.1 _).trans f300
  have ni308 : nx w306 = r + 14 := hni308
  have ui308 : uc w306 = uc w + 13 := hui308.trans (congrArg (· + 3) u303)
  have si308 : us w306 = us w + 108 := hsi308.trans (congrArg (· + 30) s304)
  have g336 : ∀ q, q < r → gi w306 q = gi w q ∧ gr w306 q = gr w q ∧ ty w306 q = ty w q ∧ ln w306 q = ln w q := fun q hq => by have a := A307 q (Nat.lt_of_lt_of_le hq (Nat.le_add_right r 10)); have b := g305 q hq; exact ⟨a.1.trans b.1, a.2.1.trans b.2.1, a.2.2.1.trans b.2.2.1, a.2.2.2.trans b.2.2.2⟩
  clear A307 e301 f276 f277 f278 f279 f280 f281 f282 f283 f284 f285 f286 f287 f288 f289 f290 f291 f292 f293 f294 f295 f296 f297 f298 f299 f300 g305 hA307 hni308 hsi308 hui308 n302 s304 u303
  refine WP.blk 1 ?_
  show (ref3 (ty w306 (r + 1)) ∧ 0 ≤ (1 : Int) ∧ (1 : Int) < (ln w306 (r + 1) : Int) ∧ ty w306 (r + 10) = el3 (ty w306 (r + 1))) ∧ WP 2 26 67 [vR r, vI 1] [] (sr w306 (r + 1) 1 (r + 10)) Q
  refine ⟨⟨Or.inr (Or.inl f332), by decide, by rw [f333]; decide, by rw [f332]; exact f309.1⟩, ?_⟩
  obtain ⟨w337, hw337⟩ : ∃ y9, y9 = sr w306 (r + 1) 1 (r + 10) := ⟨_, rfl⟩
  rw [← hw337]
  have A338 : ∀ q, q ≠ r + 1 → gi w337 q = gi w306 q ∧ gr w337 q = gr w306 q ∧ ty w337 q = ty w306 q ∧ ln w337 q = ln w306 q := fun q hq => by rw [hw337]; exact sr_o hq
  have f339 : ty w337 (r + 2) = 15 := (A338 _ (nek r 2 1 rfl)).2.2.1.trans f311
  have f340 : ln w337 (r + 2) = 7 := (A338 _ (nek r 2 1 rfl)).2.2.2.trans f312
  have f341 : gi w337 (r + 2) = (fun _ => 0) := (A338 _ (nek r 2 1 rfl)).1.trans f313
  have f342 : ty w337 (r + 3) = 11 := (A338 _ (nek r 3 1 rfl)).2.2.1.trans f314
  have f343 : ln w337 (r + 3) = 7 := (A338 _ (nek r 3 1 rfl)).2.2.2.trans f315
  have f344 : gi w337 (r + 3) = (fun _ => 0) := (A338 _ (nek r 3 1 rfl)).1.trans f316
  have f345 : ty w337 (r + 4) = 11 := (A338 _ (nek r 4 1 rfl)).2.2.1.trans f317
  have f346 : ln w337 (r + 4) = 7 := (A338 _ (nek r 4 1 rfl)).2.2.2.trans f318
  have f347 : gi w337 (r + 4) = (fun _ => 0) := (A338 _ (nek r 4 1 rfl)).1.trans f319
  have f348 : ty w337 (r + 5) = 11 := (A338 _ (nek r 5 1 rfl)).2.2.1.trans f320
  have f349 : ln w337 (r + 5) = 7 := (A338 _ (nek r 5 1 rfl)).2.2.2.trans f321
  have f350 : gi w337 (r + 5) = (fun _ => 0) := (A338 _ (nek r 5 1 rfl)).1.trans f322
  have f351 : ty w337 r = 5 := (A338 _ (nek r 0 1 rfl)).2.2.1.trans f323
  have f352 : gi w337 r = (fun _ => 0) := (A338 _ (nek r 0 1 rfl)).1.trans f324
  have f353 : gr w337 r 0 = (r + 1) := (congrFun (A338 _ (nek r 0 1 rfl)).2.1 _).trans f325
  have f354 : gr w337 r 1 = (r + 2) := (congrFun (A338 _ (nek r 0 1 rfl)).2.1 _).trans f326
  have f355 : gr w337 r 2 = (r + 3) := (congrFun (A338 _ (nek r 0 1 rfl)).2.1 _).trans f327
  have f356 : gr w337 r 3 = (r + 4) := (congrFun (A338 _ (nek r 0 1 rfl)).2.1 _).trans f328
  have f357 : gr w337 r 4 = (r + 5) := (congrFun (A338 _ (nek r 0 1 rfl)).2.1 _).trans f329
  have f358 : isInks w337.2 (r + 6) := inks_ag (fun q a b => A338 q (Nat.ne_of_gt (Nat.lt_of_lt_of_le (ltk r 1 6 rfl) a))) f330
  have f359 : ty w337 (r + 6) = 4 := (A338 _ (nek r 6 1 rfl)).2.2.1.trans f331
  have f360 : isInks w337.2 (r + 10) := inks_ag (fun q a b => A338 q (Nat.ne_of_gt (Nat.lt_of_lt_of_le (ltk r 1 10 rfl) a))) f309
  have f361 : ty w337 (r + 10) = 4 := (A338 _ (nek r 10 1 rfl)).2.2.1.trans f309.1
  have f362 : ty w337 (r + 1) = 14 := by rw [hw337]; exact f332
  have f363 : ln w337 (r + 1) = 8 := by rw [hw337]; exact f333
  have f364 : gi w337 (r + 1) = (fun _ => 0) := by rw [hw337]; exact f334
  have f365 : gr w337 (r + 1) 0 = (r + 6) := by rw [hw337]; exact (sr_k (by decide)).trans f335
  have f366 : gr w337 (r + 1) 1 = (r + 10) := by rw [hw337]; exact sr_e
  have n367 : nx w337 = r + 14 := by rw [hw337]; exact ni308
  have u368 : uc w337 = uc w + 13 := by rw [hw337]; exact ui308
  have s369 : us w337 = us w + 108 := by rw [hw337]; exact si308
  have g370 : ∀ q, q < r → gi w337 q = gi w q ∧ gr w337 q = gr w q ∧ ty w337 q = ty w q ∧ ln w337 q = ln w q := fun q hq => by have a := A338 q (Nat.ne_of_lt (Nat.lt_of_lt_of_le hq (Nat.le_add_right r 1))); have b := g336 q hq; exact ⟨a.1.trans b.1, a.2.1.trans b.2.1, a.2.2.1.trans b.2.2.1, a.2.2.2.trans b.2.2.2⟩
  clear A338 f309 f310 f311 f312 f313 f314 f315 f316 f317 f318 f319 f320 f321 f322 f323 f324 f325 f326 f327 f328 f329 f330 f331 f332 f333 f334 f335 g336 hw337 ni308 si308 ui308
  refine WP.blk 1 ?_
  show ir (1 + 1) ∧ WP 2 26 70 [vR r, vI 2] [] w337 Q
  refine ⟨⟨by decide, by decide⟩, ?_⟩
  refine WP.blk 1 ?_
  show WP 2 26 48 [vR r, vI 2] [] w337 Q
  refine WP.blk 1 ?_
  show WP 2 26 49 [vR r, vI 2] [vI 2] w337 Q
  refine WP.blk 1 ?_
  show WP 2 26 51 [vR r, vI 2] [vI 7, vI 2] w337 Q
  refine WP.blk 1 ?_
  show WP 2 26 54 [vR r, vI 2] [] w337 Q
  refine WP.blk 1 ?_
  show WP 2 26 55 [vR r, vI 2] [vR r] w337 Q
  refine WP.blk 1 ?_
  show (ty w337 r = 5 ∧ gr w337 r 0 ≠ 0) ∧ WP 2 26 58 [vR r, vI 2] [vR (gr w337 r 0)] w337 Q
  refine ⟨⟨f351, by rw [f353]; exact Nat.succ_ne_zero _⟩, ?_⟩
  rw [f353]
  refine WP.blk 1 ?_
  show WP 2 26 59 [vR r, vI 2] [vI 2, vR (r + 1)] w337 Q
  refine WP.blk 1 ?_
  show WP 2 26 62 [vR r, vI 2] [vR (nx w337), vI 2, vR (r + 1)] (mk w337 4 6) Q
  rw [n367]
  obtain ⟨w371, hw371⟩ : ∃ y9, y9 = mk w337 4 6 := ⟨_, rfl⟩
  rw [← hw371]
  have A372 : ∀ q, q ≠ r + 14 → gi w371 q = gi w337 q ∧ gr w371 q = gr w337 q ∧ ty w371 q = ty w337 q ∧ ln w371 q = ln w337 q := fun q hq => by rw [hw371]; exact mk_o (by rw [n367]; exact hq)
  have f373 : ty w371 (r + 2) = 15 := (A372 _ (nek r 2 14 rfl)).2.2.1.trans f339
  have f374 : ln w371 (r + 2) = 7 := (A372 _ (nek r 2 14 rfl)).2.2.2.trans f340
  have f375 : gi w371 (r + 2) = (fun _ => 0) := (A372 _ (nek r 2 14 rfl)).1.trans f341
  have f376 : ty w371 (r + 3) = 11 := (A372 _ (nek r 3 14 rfl)).2.2.1.trans f342
  have f377 : ln w371 (r + 3) = 7 := (A372 _ (nek r 3 14 rfl)).2.2.2.trans f343
  have f378 : gi w371 (r + 3) = (fun _ => 0) := (A372 _ (nek r 3 14 rfl)).1.trans f344
  have f379 : ty w371 (r + 4) = 11 := (A372 _ (nek r 4 14 rfl)).2.2.1.trans f345
  have f380 : ln w371 (r + 4) = 7 := (A372 _ (nek r 4 14 rfl)).2.2.2.trans f346
  have f381 : gi w371 (r + 4) = (fun _ => 0) := (A372 _ (nek r 4 14 rfl)).1.trans f347
  have f382 : ty w371 (r + 5) = 11 := (A372 _ (nek r 5 14 rfl)).2.2.1.trans f348
  have f383 : ln w371 (r + 5) = 7 := (A372 _ (nek r 5 14 rfl)).2.2.2.trans f349
  have f384 : gi w371 (r + 5) = (fun _ => 0) := (A372 _ (nek r 5 14 rfl)).1.trans f350
  have f385 : ty w371 r = 5 := (A372 _ (nek r 0 14 rfl)).2.2.1.trans f351
  have f386 : gi w371 r = (fun _ => 0) := (A372 _ (nek r 0 14 rfl)).1.trans f352
  have f387 : gr w371 r 0 = (r + 1) := (congrFun (A372 _ (nek r 0 14 rfl)).2.1 _).trans f353
  have f388 : gr w371 r 1 = (r + 2) := (congrFun (A372 _ (nek r 0 14 rfl)).2.1 _).trans f354
  have f389 : gr w371 r 2 = (r + 3) := (congrFun (A372 _ (nek r 0 14 rfl)).2.1 _).trans f355
  have f390 : gr w371 r 3 = (r + 4) := (congrFun (A372 _ (nek r 0 14 rfl)).2.1 _).trans f356
  have f391 : gr w371 r 4 = (r + 5) := (congrFun (A372 _ (nek r 0 14 rfl)).2.1 _).trans f357
  have f392 : isInks w371.2 (r + 6) := inks_ag (fun q a b => A372 q (Nat.ne_of_lt (Nat.lt_of_lt_of_le b (lek r 6 4 14 rfl)))) f358
  have f393 : ty w371 (r + 6) = 4 := (A372 _ (nek r 6 14 rfl)).2.2.1.trans f359
  have f394 : isInks w371.2 (r + 10) := inks_ag (fun q a b => A372 q (Nat.ne_of_lt (Nat.lt_of_lt_of_le b (lek r 10 4 14 rfl)))) f360
  have f395 : ty w371 (r + 10) = 4 := (A372 _ (nek r 10 14 rfl)).2.2.1.trans f361
  have f396 : ty w371 (r + 1) = 14 := (A372 _ (nek r 1 14 rfl)).2.2.1.trans f362
  have f397 : ln w371 (r + 1) = 8 := (A372 _ (nek r 1 14 rfl)).2.2.2.trans f363
  have f398 : gi w371 (r + 1) = (fun _ => 0) := (A372 _ (nek r 1 14 rfl)).1.trans f364
  have f399 : gr w371 (r + 1) 0 = (r + 6) := (congrFun (A372 _ (nek r 1 14 rfl)).2.1 _).trans f365
  have f400 : gr w371 (r + 1) 1 = (r + 10) := (congrFun (A372 _ (nek r 1 14 rfl)).2.1 _).trans f366
  have e401 := mk_e (w := w337) (t := 4) (n := 6)
  rw [← hw371, n367] at e401
  have n402 : nx w371 = r + 15 := by rw [hw371]; exact congrArg (· + 1) n367
  have u403 : uc w371 = uc w + 14 := by rw [hw371]; exact congrArg (· + 1) u368
  have s404 : us w371 = us w + 114 := by rw [hw371]; exact congrArg (· + 6) s369
  have g405 : ∀ q, q < r → gi w371 q = gi w q ∧ gr w371 q = gr w q ∧ ty w371 q = ty w q ∧ ln w371 q = ln w q := fun q hq => by have a := A372 q (Nat.ne_of_lt (Nat.lt_of_lt_of_le hq (Nat.le_add_right r 14))); have b := g370 q hq; exact ⟨a.1.trans b.1, a.2.1.trans b.2.1, a.2.2.1.trans b.2.2.1, a.2.2.2.trans b.2.2.2⟩
  clear A372 f339 f340 f341 f342 f343 f344 f345 f346 f347 f348 f349 f350 f351 f352 f353 f354 f355 f356 f357 f358 f359 f360 f361 f362 f363 f364 f365 f366 g370 hw371 n367 s369 u368
  refine WP.blk 1 ?_
  show WP 2 26 63 [vR r, vI 2] [vR (r + 14), vR (r + 14), vI 2, vR (r + 1)] w371 Q
  refine WP.cl (a := [vR (r + 14)]) (rest := [vR (r + 14), vI 2, vR (r + 1)]) rfl rfl rfl rfl trivial (by decide) (c_inks n402 e401.2.1 e401.1 (fun w406 hA407 hni408 hui408 hsi408 f409 f410 => ⟨rfl, ?_⟩))
  show WP 2 26 66 [vR r, vI 2] [vR (r + 14), vI 2, vR (r + 1)] w406 Q
  have A407 : ∀ q, q < r + 14 → gi w406 q = gi w371 q ∧ gr w406 q = gr w371 q ∧ ty w406 q = ty w371 q ∧ ln w406 q = ln w371 q := fun q hq => hA407 q (Nat.zero_le _) hq
  have f411 : ty w406 (r + 2) = 15 := (A407 _ (ltk r 2 14 rfl)).2.2.1.trans f373
  have f412 : ln w406 (r + 2) = 7 := (A407 _ (ltk r 2 14 rfl)).2.2.2.trans f374
  have f413 : gi w406 (r + 2) = (fun _ => 0) := (A407 _ (ltk r 2 14 rfl)).1.trans f375
  have f414 : ty w406 (r + 3) = 11 := (A407 _ (ltk r 3 14 rfl)).2.2.1.trans f376
  have f415 : ln w406 (r + 3) = 7 := (A407 _ (ltk r 3 14 rfl)).2.2.2.trans f377
  have f416 : gi w406 (r + 3) = (fun _ => 0) := (A407 _ (ltk r 3 14 rfl)).1.trans f378
  have f417 : ty w406 (r + 4) = 11 := (A407 _ (ltk r 4 14 rfl)).2.2.1.trans f379
  have f418 : ln w406 (r + 4) = 7 := (A407 _ (ltk r 4 14 rfl)).2.2.2.trans f380
  have f419 : gi w406 (r + 4) = (fun _ => 0) := (A407 _ (ltk r 4 14 rfl)).1.trans f381
  have f420 : ty w406 (r + 5) = 11 := (A407 _ (ltk r 5 14 rfl)).2.2.1.trans f382
  have f421 : ln w406 (r + 5) = 7 := (A407 _ (ltk r 5 14 rfl)).2.2.2.trans f383
  have f422 : gi w406 (r + 5) = (fun _ => 0) := (A407 _ (ltk r 5 14 rfl)).1.trans f384
  have f423 : ty w406 r = 5 := (A407 _ (ltk r 0 14 rfl)).2.2.1.trans f385
  have f424 : gi w406 r = (fun _ => 0) := (A407 _ (ltk r 0 14 rfl)).1.trans f386
  have f425 : gr w406 r 0 = (r + 1) := (congrFun (A407 _ (ltk r 0 14 rfl)).2.1 _).trans f387
  have f426 : gr w406 r 1 = (r + 2) := (congrFun (A407 _ (ltk r 0 14 rfl)).2.1 _).trans f388
  have f427 : gr w406 r 2 = (r + 3) := (congrFun (A407 _ (ltk r 0 14 rfl)).2.1 _).trans f389
  have f428 : gr w406 r 3 = (r + 4) := (congrFun (A407 _ (ltk r 0 14 rfl)).2.1 _).trans f390
  have f429 : gr w406 r 4 = (r + 5) := (congrFun (A407 _ (ltk r 0 14 rfl)).2.1 _).trans f391
  have f430 : isInks w406.2 (r + 6) := inks_ag (fun q a b => A407 q (Nat.lt_of_lt_of_le b (lek r 6 4 14 rfl))) f392
  have f431 : ty w406 (r + 6) = 4 := (A407 _ (ltk r 6 14 rfl)).2.2.1.trans f393
  have f432 : isInks w406.2 (r + 10) := inks_ag (fun q a b => A407 q (Nat.lt_of_lt_of_le b (lek r 10 4 14 rfl))) f394
  have f433 : ty w406 (r + 10) = 4 := (A407 _ (ltk r 10 14 rfl)).2.2.1.trans f395
  have f434 : ty w406 (r + 1) = 14 := (A407 _ (ltk r 1 14 rfl)).2.2.1.trans f396
  have f435 : ln w406 (r + 1) = 8 := (A407 _ (ltk r 1 14 rfl)).2.2.2.trans f397
  have f436 : gi w406 (r + 1) = (fun _ => 0) := (A407 _ (ltk r 1 14 rfl)).1.trans f398
  have f437 : gr w406 (r + 1) 0 = (r + 6) := (congrFun (A407 _ (ltk r 1 14 rfl)).2.1 _).trans f399
  have f438 : gr w406 (r + 1) 1 = (r + 10) := (congrFun (A407 _ (ltk r 1 14 rfl)).2.1 _).trans f400
  have ni408 : nx w406 = r + 18 := hni408
  have ui408 : uc w406 = uc w + 17 := hui408.trans (congrArg (· + 3) u403)
  have si408 : us w406 = us w + 144 := hsi408.trans (congrArg (· + 30) s404)
  have g439 : ∀ q, q < r → gi w406 q = gi w q ∧ gr w406 q = gr w q ∧ ty w406 q = ty w q ∧ ln w406 q = ln w q := fun q hq => by have a := A407 q (Nat.lt_of_lt_of_le hq (Nat.le_add_right r 14)); have b := g405 q hq; exact ⟨a.1.trans b.1, a.2.1.trans b.2.1, a.2.2.1.trans b.2.2.1, a.2.2.2.trans b.2.2.2⟩
  clear A407 e401 f373 f374 f375 f376 f377 f378 f379 f380 f381 f382 f383 f384 f385 f386 f387 f388 f389 f390 f391 f392 f393 f394 f395 f396 f397 f398 f399 f400 g405 hA407 hni408 hsi408 hui408 n402 s404 u403
  refine WP.blk 1 ?_
  show (ref3 (ty w406 (r + 1)) ∧ 0 ≤ (2 : Int) ∧ (2 : Int) < (ln w406 (r + 1) : Int) ∧ ty w406 (r + 14) = el3 (ty w406 (r + 1))) ∧ WP 2 26 67 [vR r, vI 2] [] (sr w406 (r + 1) 2 (r + 14)) Q
  refine ⟨⟨Or.inr (Or.inl f434), by decide, by rw [f435]; decide, by rw [f434]; exact f409.1⟩, ?_⟩
  obtain ⟨w440, hw440⟩ : ∃ y9, y9 = sr w406 (r + 1) 2 (r + 14) := ⟨_, rfl⟩
  rw [← hw440]
  have A441 : ∀ q, q ≠ r + 1 → gi w440 q = gi w406 q ∧ gr w440 q = gr w406 q ∧ ty w440 q = ty w406 q ∧ ln w440 q = ln w406 q := fun q hq => by rw [hw440]; exact sr_o hq
  have f442 : ty w440 (r + 2) = 15 := (A441 _ (nek r 2 1 rfl)).2.2.1.trans f411
  have f443 : ln w440 (r + 2) = 7 := (A441 _ (nek r 2 1 rfl)).2.2.2.trans f412
  have f444 : gi w440 (r + 2) = (fun _ => 0) := (A441 _ (nek r 2 1 rfl)).1.trans f413
  have f445 : ty w440 (r + 3) = 11 := (A441 _ (nek r 3 1 rfl)).2.2.1.trans f414
  have f446 : ln w440 (r + 3) = 7 := (A441 _ (nek r 3 1 rfl)).2.2.2.trans f415
  have f447 : gi w440 (r + 3) = (fun _ => 0) := (A441 _ (nek r 3 1 rfl)).1.trans f416
  have f448 : ty w440 (r + 4) = 11 := (A441 _ (nek r 4 1 rfl)).2.2.1.trans f417
  have f449 : ln w440 (r + 4) = 7 := (A441 _ (nek r 4 1 rfl)).2.2.2.trans f418
  have f450 : gi w440 (r + 4) = (fun _ => 0) := (A441 _ (nek r 4 1 rfl)).1.trans f419
  have f451 : ty w440 (r + 5) = 11 := (A441 _ (nek r 5 1 rfl)).2.2.1.trans f420
  have f452 : ln w440 (r + 5) = 7 := (A441 _ (nek r 5 1 rfl)).2.2.2.trans f421
  have f453 : gi w440 (r + 5) = (fun _ => 0) := (A441 _ (nek r 5 1 rfl)).1.trans f422
  have f454 : ty w440 r = 5 := (A441 _ (nek r 0 1 rfl)).2.2.1.trans f423
  have f455 : gi w440 r = (fun _ => 0) := (A441 _ (nek r 0 1 rfl)).1.trans f424
  have f456 : gr w440 r 0 = (r + 1) := (congrFun (A441 _ (nek r 0 1 rfl)).2.1 _).trans f425
  have f457 : gr w440 r 1 = (r + 2) := (congrFun (A441 _ (nek r 0 1 rfl)).2.1 _).trans f426
  have f458 : gr w440 r 2 = (r + 3) := (congrFun (A441 _ (nek r 0 1 rfl)).2.1 _).trans f427
  have f459 : gr w440 r 3 = (r + 4) := (congrFun (A441 _ (nek r 0 1 rfl)).2.1 _).trans f428
  have f460 : gr w440 r 4 = (r + 5) := (congrFun (A441 _ (nek r 0 1 rfl)).2.1 _).trans f429
  have f461 : isInks w440.2 (r + 6) := inks_ag (fun q a b => A441 q (Nat.ne_of_gt (Nat.lt_of_lt_of_le (ltk r 1 6 rfl) a))) f430
  have f462 : ty w440 (r + 6) = 4 := (A441 _ (nek r 6 1 rfl)).2.2.1.trans f431
  have f463 : isInks w440.2 (r + 10) := inks_ag (fun q a b => A441 q (Nat.ne_of_gt (Nat.lt_of_lt_of_le (ltk r 1 10 rfl) a))) f432
  have f464 : ty w440 (r + 10) = 4 := (A441 _ (nek r 10 1 rfl)).2.2.1.trans f433
  have f465 : isInks w440.2 (r + 14) := inks_ag (fun q a b => A441 q (Nat.ne_of_gt (Nat.lt_of_lt_of_le (ltk r 1 14 rfl) a))) f409
  have f466 : ty w440 (r + 14) = 4 := (A441 _ (nek r 14 1 rfl)).2.2.1.trans f409.1
  have f467 : ty w440 (r + 1) = 14 := by rw [hw440]; exact f434
  have f468 : ln w440 (r + 1) = 8 := by rw [hw440]; exact f435
  have f469 : gi w440 (r + 1) = (fun _ => 0) := by rw [hw440]; exact f436
  have f470 : gr w440 (r + 1) 0 = (r + 6) := by rw [hw440]; exact (sr_k (by decide)).trans f437
  have f471 : gr w440 (r + 1) 1 = (r + 10) := by rw [hw440]; exact (sr_k (by decide)).trans f438
  have f472 : gr w440 (r + 1) 2 = (r + 14) := by rw [hw440]; exact sr_e
  have n473 : nx w440 = r + 18 := by rw [hw440]; exact ni408
  have u474 : uc w440 = uc w + 17 := by rw [hw440]; exact ui408
  have s475 : us w440 = us w + 144 := by rw [hw440]; exact si408
  have g476 : ∀ q, q < r → gi w440 q = gi w q ∧ gr w440 q = gr w q ∧ ty w440 q = ty w q ∧ ln w440 q = ln w q := fun q hq => by have a := A441 q (Nat.ne_of_lt (Nat.lt_of_lt_of_le hq (Nat.le_add_right r 1))); have b := g439 q hq; exact ⟨a.1.trans b.1, a.2.1.trans b.2.1, a.2.2.1.trans b.2.2.1, a.2.2.2.trans b.2.2.2⟩
  clear A441 f409 f410 f411 f412 f413 f414 f415 f416 f417 f418 f419 f420 f421 f422 f423 f424 f425 f426 f427 f428 f429 f430 f431 f432 f433 f434 f435 f436 f437 f438 g439 hw440 ni408 si408 ui408
  refine WP.blk 1 ?_
  show ir (2 + 1) ∧ WP 2 26 70 [vR r, vI 3] [] w440 Q
  refine ⟨⟨by decide, by decide⟩, ?_⟩
  refine WP.blk 1 ?_
  show WP 2 26 48 [vR r, vI 3] [] w440 Q
  refine WP.blk 1 ?_
  show WP 2 26 49 [vR r, vI 3] [vI 3] w440 Q
  refine WP.blk 1 ?_
  show WP 2 26 51 [vR r, vI 3] [vI 7, vI 3] w440 Q
  refine WP.blk 1 ?_
  show WP 2 26 54 [vR r, vI 3] [] w440 Q
  refine WP.blk 1 ?_
  show WP 2 26 55 [vR r, vI 3] [vR r] w440 Q
  refine WP.blk 1 ?_
  show (ty w440 r = 5 ∧ gr w440 r 0 ≠ 0) ∧ WP 2 26 58 [vR r, vI 3] [vR (gr w440 r 0)] w440 Q
  refine ⟨⟨f454, by rw [f456]; exact Nat.succ_ne_zero _⟩, ?_⟩
  rw [f456]
  refine WP.blk 1 ?_
  show WP 2 26 59 [vR r, vI 3] [vI 3, vR (r + 1)] w440 Q
  refine WP.blk 1 ?_
  show WP 2 26 62 [vR r, vI 3] [vR (nx w440), vI 3, vR (r + 1)] (mk w440 4 6) Q
  rw [n473]
  obtain ⟨w477, hw477⟩ : ∃ y9, y9 = mk w440 4 6 := ⟨_, rfl⟩
  rw [← hw477]
  have A478 : ∀ q, q ≠ r + 18 → gi w477 q = gi w440 q ∧ gr w477 q = gr w440 q ∧ ty w477 q = ty w440 q ∧ ln w477 q = ln w440 q := fun q hq => by rw [hw477]; exact mk_o (by rw [n473]; exact hq)
  have f479 : ty w477 (r + 2) = 15 := (A478 _ (nek r 2 18 rfl)).2.2.1.trans f442
  have f480 : ln w477 (r + 2) = 7 := (A478 _ (nek r 2 18 rfl)).2.2.2.trans f443
  have f481 : gi w477 (r + 2) = (fun _ => 0) := (A478 _ (nek r 2 18 rfl)).1.trans f444
  have f482 : ty w477 (r + 3) = 11 := (A478 _ (nek r 3 18 rfl)).2.2.1.trans f445
  have f483 : ln w477 (r + 3) = 7 := (A478 _ (nek r 3 18 rfl)).2.2.2.trans f446
  have f484 : gi w477 (r + 3) = (fun _ => 0) := (A478 _ (nek r 3 18 rfl)).1.trans f447
  have f485 : ty w477 (r + 4) = 11 := (A478 _ (nek r 4 18 rfl)).2.2.1.trans f448
  have f486 : ln w477 (r + 4) = 7 := (A478 _ (nek r 4 18 rfl)).2.2.2.trans f449
  have f487 : gi w477 (r + 4) = (fun _ => 0) := (A478 _ (nek r 4 18 rfl)).1.trans f450
  have f488 : ty w477 (r + 5) = 11 := (A478 _ (nek r 5 18 rfl)).2.2.1.trans f451
  have f489 : ln w477 (r + 5) = 7 := (A478 _ (nek r 5 18 rfl)).2.2.2.trans f452
  have f490 : gi w477 (r + 5) = (fun _ => 0) := (A478 _ (nek r 5 18 rfl)).1.trans f453
  have f491 : ty w477 r = 5 := (A478 _ (nek r 0 18 rfl)).2.2.1.trans f454
  have f492 : gi w477 r = (fun _ => 0) := (A478 _ (nek r 0 18 rfl)).1.trans f455
  have f493 : gr w477 r 0 = (r + 1) := (congrFun (A478 _ (nek r 0 18 rfl)).2.1 _).trans f456
  have f494 : gr w477 r 1 = (r + 2) := (congrFun (A478 _ (nek r 0 18 rfl)).2.1 _).trans f457
  have f495 : gr w477 r 2 = (r + 3) := (congrFun (A478 _ (nek r 0 18 rfl)).2.1 _).trans f458
  have f496 : gr w477 r 3 = (r + 4) := (congrFun (A478 _ (nek r 0 18 rfl)).2.1 _).trans f459
  have f497 : gr w477 r 4 = (r + 5) := (congrFun (A478 _ (nek r 0 18 rfl)).2.1 _).trans f460
  have f498 : isInks w477.2 (r + 6) := inks_ag (fun q a b => A478 q (Nat.ne_of_lt (Nat.lt_of_lt_of_le b (lek r 6 4 18 rfl)))) f461
  have f499 : ty w477 (r + 6) = 4 := (A478 _ (nek r 6 18 rfl)).2.2.1.trans f462
  have f500 : isInks w477.2 (r + 10) := inks_ag (fun q a b => A478 q (Nat.ne_of_lt (Nat.lt_of_lt_of_le b (lek r 10 4 18 rfl)))) f463
  have f501 : ty w477 (r + 10) = 4 := (A478 _ (nek r 10 18 rfl)).2.2.1.trans f464
  have f502 : isInks w477.2 (r + 14) := inks_ag (fun q a b => A478 q (Nat.ne_of_lt (Nat.lt_of_lt_of_le b (lek r 14 4 18 rfl)))) f465
  have f503 : ty w477 (r + 14) = 4 := (A478 _ (nek r 14 18 rfl)).2.2.1.trans f466
  have f504 : ty w477 (r + 1) = 14 := (A478 _ (nek r 1 18 rfl)).2.2.1.trans f467
  have f505 : ln w477 (r + 1) = 8 := (A478 _ (nek r 1 18 rfl)).2.2.2.trans f468
  have f506 : gi w477 (r + 1) = (fun _ => 0) := (A478 _ (nek r 1 18 rfl)).1.trans f469
  have f507 : gr w477 (r + 1) 0 = (r + 6) := (congrFun (A478 _ (nek r 1 18 rfl)).2.1 _).trans f470
  have f508 : gr w477 (r + 1) 1 = (r + 10) := (congrFun (A478 _ (nek r 1 18 rfl)).2.1 _).trans f471
  have f509 : gr w477 (r + 1) 2 = (r + 14) := (congrFun (A478 _ (nek r 1 18 rfl)).2.1 _).trans f472
  have e510 := mk_e (w := w440) (t := 4) (n := 6)
  rw [← hw477, n473] at e510
  have n511 : nx w477 = r + 19 := by rw [hw477]; exact congrArg (· + 1) n473
  have u512 : uc w477 = uc w + 18 := by rw [hw477]; exact congrArg (· + 1) u474
  have s513 : us w477 = us w + 150 := by rw [hw477]; exact congrArg (· + 6) s475
  have g514 : ∀ q, q < r → gi w477 q = gi w q ∧ gr w477 q = gr w q ∧ ty w477 q = ty w q ∧ ln w477 q = ln w q := fun q hq => by have a := A478 q (Nat.ne_of_lt (Nat.lt_of_lt_of_le hq (Nat.le_add_right r 18))); have b := g476 q hq; exact ⟨a.1.trans b.1, a.2.1.trans b.2.1, a.2.2.1.trans b.2.2.1, a.2.2.2.trans b.2.2.2⟩
  clear A478 f442 f443 f444 f445 f446 f447 f448 f449 f450 f451 f452 f453 f454 f455 f456 f457 f458 f459 f460 f461 f462 f463 f464 f465 f466 f467 f468 f469 f470 f471 f472 g476 hw477 n473 s475 u474
  refine WP.blk 1 ?_
  show WP 2 26 63 [vR r, vI 3] [vR (r + 18), vR (r + 18), vI 3, vR (r + 1)] w477 Q
  refine WP.cl (a := [vR (r + 18)]) (rest := [vR (r + 18), vI 3, vR (r + 1)]) rfl rfl rfl rfl trivial (by decide) (c_inks n511 e510.2.1 e510.1 (fun w515 hA516 hni517 hui517 hsi517 f518 f519 => ⟨rfl, ?_⟩))
  show WP 2 26 66 [vR r, vI 3] [vR (r + 18), vI 3, vR (r + 1)] w515 Q
  have A516 : ∀ q, q < r + 18 → gi w515 q = gi w477 q ∧ gr w515 q = gr w477 q ∧ ty w515 q = ty w477 q ∧ ln w515 q = ln w477 q := fun q hq => hA516 q (Nat.zero_le _) hq
  have f520 : ty w515 (r + 2) = 15 := (A516 _ (ltk r 2 18 rfl)).2.2.1.trans f479
  have f521 : ln w515 (r + 2) = 7 := (A516 _ (ltk r 2 18 rfl)).2.2.2.trans f480
  have f522 : gi w515 (r + 2) = (fun _ => 0) := (A516 _ (ltk r 2 18 rfl)).1.trans f481
  have f523 : ty w515 (r + 3) = 11 := (A516 _ (ltk r 3 18 rfl)).2.2.1.trans f482
  have f524 : ln w515 (r + 3) = 7 := (A516 _ (ltk r 3 18 rfl)).2.2.2.trans f483
  have f525 : gi w515 (r + 3) = (fun _ => 0) := (A516 _ (ltk r 3 18 rfl)).1.trans f484
  have f526 : ty w515 (r + 4) = 11 := (A516 _ (ltk r 4 18 rfl)).2.2.1.trans f485
  have f527 : ln w515 (r + 4) = 7 := (A516 _ (ltk r 4 18 rfl)).2.2.2.trans f486
  have f528 : gi w515 (r + 4) = (fun _ => 0) := (A516 _ (ltk r 4 18 rfl)).1.trans f487
  have f529 : ty w515 (r + 5) = 11 := (A516 _ (ltk r 5 18 rfl)).2.2.1.trans f488
  have f530 : ln w515 (r + 5) = 7 := (A516 _ (ltk r 5 18 rfl)).2.2.2.trans f489
  have f531 : gi w515 (r + 5) = (fun _ => 0) := (A516 _ (ltk r 5 18 rfl)).1.trans f490
  have f532 : ty w515 r = 5 := (A516 _ (ltk r 0 18 rfl)).2.2.1.trans f491
  have f533 : gi w515 r = (fun _ => 0) := (A516 _ (ltk r 0 18 rfl)).1.trans f492
  have f534 : gr w515 r 0 = (r + 1) := (congrFun (A516 _ (ltk r 0 18 rfl)).2.1 _).trans f493
  have f535 : gr w515 r 1 = (r + 2) := (congrFun (A516 _ (ltk r 0 18 rfl)).2.1 _).trans f494
  have f536 : gr w515 r 2 = (r + 3) := (congrFun (A516 _ (ltk r 0 18 rfl)).2.1 _).trans f495
  have f537 : gr w515 r 3 = (r + 4) := (congrFun (A516 _ (ltk r 0 18 rfl)).2.1 _).trans f496
  have f538 : gr w515 r 4 = (r + 5) := (congrFun (A516 _ (ltk r 0 18 rfl)).2.1 _).trans f497
  have f539 : isInks w515.2 (r + 6) := inks_ag (fun q a b => A516 q (Nat.lt_of_lt_of_le b (lek r 6 4 18 rfl))) f498
  have f540 : ty w515 (r + 6) = 4 := (A516 _ (ltk r 6 18 rfl)).2.2.1.trans f499
  have f541 : isInks w515.2 (r + 10) := inks_ag (fun q a b => A516 q (Nat.lt_of_lt_of_le b (lek r 10 4 18 rfl))) f500
  have f542 : ty w515 (r + 10) = 4 := (A516 _ (ltk r 10 18 rfl)).2.2.1.trans f501
  have f543 : isInks w515.2 (r + 14) := inks_ag (fun q a b => A516 q (Nat.lt_of_lt_of_le b (lek r 14 4 18 rfl))) f502
  have f544 : ty w515 (r + 14) = 4 := (A516 _ (ltk r 14 18 rfl)).2.2.1.trans f503
  have f545 : ty w515 (r + 1) = 14 := (A516 _ (ltk r 1 18 rfl)).2.2.1.trans f504
  have f546 : ln w515 (r + 1) = 8 := (A516 _ (ltk r 1 18 rfl)).2.2.2.trans f505
  have f547 : gi w515 (r + 1) = (fun _ => 0) := (A516 _ (ltk r 1 18 rfl)).1.trans f506
  have f548 : gr w515 (r + 1) 0 = (r + 6) := (congrFun (A516 _ (ltk r 1 18 rfl)).2.1 _).trans f507
  have f549 : gr w515 (r + 1) 1 = (r + 10) := (congrFun (A516 _ (ltk r 1 18 rfl)).2.1 _).trans f508
  have f550 : gr w515 (r + 1) 2 = (r + 14) := (congrFun (A516 _ (ltk r 1 18 rfl)).2.1 _).trans f509
  have ni517 : nx w515 = r + 22 := hni517
  have ui517 : uc w515 = uc w + 21 := hui517.trans (congrArg (· + 3) u512)
  have si517 : us w515 = us w + 180 := hsi517.trans (congrArg (· + 30) s513)
  have g551 : ∀ q, q < r → gi w515 q = gi w q ∧ gr w515 q = gr w q ∧ ty w515 q = ty w q ∧ ln w515 q = ln w q := fun q hq => by have a := A516 q (Nat.lt_of_lt_of_le hq (Nat.le_add_right r 18)); have b := g514 q hq; exact ⟨a.1.trans b.1, a.2.1.trans b.2.1, a.2.2.1.trans b.2.2.1, a.2.2.2.trans b.2.2.2⟩
  clear A516 e510 f479 f480 f481 f482 f483 f484 f485 f486 f487 f488 f489 f490 f491 f492 f493 f494 f495 f496 f497 f498 f499 f500 f501 f502 f503 f504 f505 f506 f507 f508 f509 g514 hA516 hni517 hsi517 hui517 n511 s513 u512
  refine WP.blk 1 ?_
  show (ref3 (ty w515 (r + 1)) ∧ 0 ≤ (3 : Int) ∧ (3 : Int) < (ln w515 (r + 1) : Int) ∧ ty w515 (r + 18) = el3 (ty w515 (r + 1))) ∧ WP 2 26 67 [vR r, vI 3] [] (sr w515 (r + 1) 3 (r + 18)) Q
  refine ⟨⟨Or.inr (Or.inl f545), by decide, by rw [f546]; decide, by rw [f545]; exact f518.1⟩, ?_⟩
  obtain ⟨w552, hw552⟩ : ∃ y9, y9 = sr w515 (r + 1) 3 (r + 18) := ⟨_, rfl⟩
  rw [← hw552]
  have A553 : ∀ q, q ≠ r + 1 → gi w552 q = gi w515 q ∧ gr w552 q = gr w515 q ∧ ty w552 q = ty w515 q ∧ ln w552 q = ln w515 q := fun q hq => by rw [hw552]; exact sr_o hq
  have f554 : ty w552 (r + 2) = 15 := (A553 _ (nek r 2 1 rfl)).2.2.1.trans f520
  have f555 : ln w552 (r + 2) = 7 := (A553 _ (nek r 2 1 rfl)).2.2.2.trans f521
  have f556 : gi w552 (r + 2) = (fun _ => 0) := (A553 _ (nek r 2 1 rfl)).1.trans f522
  have f557 : ty w552 (r + 3) = 11 := (A553 _ (nek r 3 1 rfl)).2.2.1.trans f523
  have f558 : ln w552 (r + 3) = 7 := (A553 _ (nek r 3 1 rfl)).2.2.2.trans f524
  have f559 : gi w552 (r + 3) = (fun _ => 0) := (A553 _ (nek r 3 1 rfl)).1.trans f525
  have f560 : ty w552 (r + 4) = 11 := (A553 _ (nek r 4 1 rfl)).2.2.1.trans f526
  have f561 : ln w552 (r + 4) = 7 := (A553 _ (nek r 4 1 rfl)).2.2.2.trans f527
  have f562 : gi w552 (r + 4) = (fun _ => 0) := (A553 _ (nek r 4 1 rfl)).1.trans f528
  have f563 : ty w552 (r + 5) = 11 := (A553 _ (nek r 5 1 rfl)).2.2.1.trans f529
  have f564 : ln w552 (r + 5) = 7 := (A553 _ (nek r 5 1 rfl)).2.2.2.trans f530
  have f565 : gi w552 (r + 5) = (fun _ => 0) := (A553 _ (nek r 5 1 rfl)).1.trans f531
  have f566 : ty w552 r = 5 := (A553 _ (nek r 0 1 rfl)).2.2.1.trans f532
  have f567 : gi w552 r = (fun _ => 0) := (A553 _ (nek r 0 1 rfl)).1.trans f533
  have f568 : gr w552 r 0 = (r + 1) := (congrFun (A553 _ (nek r 0 1 rfl)).2.1 _).trans f534
  have f569 : gr w552 r 1 = (r + 2) := (congrFun (A553 _ (nek r 0 1 rfl)).2.1 _).trans f535
  have f570 : gr w552 r 2 = (r + 3) := (congrFun (A553 _ (nek r 0 1 rfl)).2.1 _).trans f536
  have f571 : gr w552 r 3 = (r + 4) := (congrFun (A553 _ (nek r 0 1 rfl)).2.1 _).trans f537
  have f572 : gr w552 r 4 = (r + 5) := (congrFun (A553 _ (nek r 0 1 rfl)).2.1 _).trans f538
  have f573 : isInks w552.2 (r + 6) := inks_ag (fun q a b => A553 q (Nat.ne_of_gt (Nat.lt_of_lt_of_le (ltk r 1 6 rfl) a))) f539
  have f574 : ty w552 (r + 6) = 4 := (A553 _ (nek r 6 1 rfl)).2.2.1.trans f540
  have f575 : isInks w552.2 (r + 10) := inks_ag (fun q a b => A553 q (Nat.ne_of_gt (Nat.lt_of_lt_of_le (ltk r 1 10 rfl) a))) f541
  have f576 : ty w552 (r + 10) = 4 := (A553 _ (nek r 10 1 rfl)).2.2.1.trans f542
  have f577 : isInks w552.2 (r + 14) := inks_ag (fun q a b => A553 q (Nat.ne_of_gt (Nat.lt_of_lt_of_le (ltk r 1 14 rfl) a))) f543
  have f578 : ty w552 (r + 14) = 4 := (A553 _ (nek r 14 1 rfl)).2.2.1.trans f544
  have f579 : isInks w552.2 (r + 18) := inks_ag (fun q a b => A553 q (Nat.ne_of_gt (Nat.lt_of_lt_of_le (ltk r 1 18 rfl) a))) f518
  have f580 : ty w552 (r + 18) = 4 := (A553 _ (nek r 18 1 rfl)).2.2.1.trans f518.1
  have f581 : ty w552 (r + 1) = 14 := by rw [hw552]; exact f545
  have f582 : ln w552 (r + 1) = 8 := by rw [hw552]; exact f546
  have f583 : gi w552 (r + 1) = (fun _ => 0) := by rw [hw552]; exact f547
  have f584 : gr w552 (r + 1) 0 = (r + 6) := by rw [hw552]; exact (sr_k (by decide)).trans f548
  have f585 : gr w552 (r + 1) 1 = (r + 10) := by rw [hw552]; exact (sr_k (by decide)).trans f549
  have f586 : gr w552 (r + 1) 2 = (r + 14) := by rw [hw552]; exact (sr_k (by decide)).trans f550
  have f587 : gr w552 (r + 1) 3 = (r + 18) := by rw [hw552]; exact sr_e
  have n588 : nx w552 = r + 22 := by rw [hw552]; exact ni517
  have u589 : uc w552 = uc w + 21 := by rw [hw552]; exact ui517
  have s590 : us w552 = us w + 180 := by rw [hw552]; exact si517
  have g591 : ∀ q, q < r → gi w552 q = gi w q ∧ gr w552 q = gr w q ∧ ty w552 q = ty w q ∧ ln w552 q = ln w q := fun q hq => by have a := A553 q (Nat.ne_of_lt (Nat.lt_of_lt_of_le hq (Nat.le_add_right r 1))); have b := g551 q hq; exact ⟨a.1.trans b.1, a.2.1.trans b.2.1, a.2.2.1.trans b.2.2.1, a.2.2.2.trans b.2.2.2⟩
  clear A553 f518 f519 f520 f521 f522 f523 f524 f525 f526 f527 f528 f529 f530 f531 f532 f533 f534 f535 f536 f537 f538 f539 f540 f541 f542 f543 f544 f545 f546 f547 f548 f549 f550 g551 hw552 ni517 si517 ui517
  refine WP.blk 1 ?_
  show ir (3 + 1) ∧ WP 2 26 70 [vR r, vI 4] [] w552 Q
  refine ⟨⟨by decide, by decide⟩, ?_⟩
  refine WP.blk 1 ?_
  show WP 2 26 48 [vR r, vI 4] [] w552 Q
  refine WP.blk 1 ?_
  show WP 2 26 49 [vR r, vI 4] [vI 4] w552 Q
  refine WP.blk 1 ?_
  show WP 2 26 51 [vR r, vI 4] [vI 7, vI 4] w552 Q
  refine WP.blk 1 ?_
  show WP 2 26 54 [vR r, vI 4] [] w552 Q
  refine WP.blk 1 ?_
  show WP 2 26 55 [vR r, vI 4] [vR r] w552 Q
  refine WP.blk 1 ?_
  show (ty w552 r = 5 ∧ gr w552 r 0 ≠ 0) ∧ WP 2 26 58 [vR r, vI 4] [vR (gr w552 r 0)] w552 Q
  refine ⟨⟨f566, by rw [f568]; exact Nat.succ_ne_zero _⟩, ?_⟩
  rw [f568]
  refine WP.blk 1 ?_
  show WP 2 26 59 [vR r, vI 4] [vI 4, vR (r + 1)] w552 Q
  refine WP.blk 1 ?_
  show WP 2 26 62 [vR r, vI 4] [vR (nx w552), vI 4, vR (r + 1)] (mk w552 4 6) Q
  rw [n588]
  obtain ⟨w592, hw592⟩ : ∃ y9, y9 = mk w552 4 6 := ⟨_, rfl⟩
  rw [← hw592]
  have A593 : ∀ q, q ≠ r + 22 → gi w592 q = gi w552 q ∧ gr w592 q = gr w552 q ∧ ty w592 q = ty w552 q ∧ ln w592 q = ln w552 q := fun q hq => by rw [hw592]; exact mk_o (by rw [n588]; exact hq)
  have f594 : ty w592 (r + 2) = 15 := (A593 _ (nek r 2 22 rfl)).2.2.1.trans f554
  have f595 : ln w592 (r + 2) = 7 := (A593 _ (nek r 2 22 rfl)).2.2.2.trans f555
  have f596 : gi w592 (r + 2) = (fun _ => 0) := (A593 _ (nek r 2 22 rfl)).1.trans f556
  have f597 : ty w592 (r + 3) = 11 := (A593 _ (nek r 3 22 rfl)).2.2.1.trans f557
  have f598 : ln w592 (r + 3) = 7 := (A593 _ (nek r 3 22 rfl)).2.2.2.trans f558
  have f599 : gi w592 (r + 3) = (fun _ => 0) := (A593 _ (nek r 3 22 rfl)).1.trans f559
  have f600 : ty w592 (r + 4) = 11 := (A593 _ (nek r 4 22 rfl)).2.2.1.trans f560
  have f601 : ln w592 (r + 4) = 7 := (A593 _ (nek r 4 22 rfl)).2.2.2.trans f561
  have f602 : gi w592 (r + 4) = (fun _ => 0) := (A593 _ (nek r 4 22 rfl)).1.trans f562
  have f603 : ty w592 (r + 5) = 11 := (A593 _ (nek r 5 22 rfl)).2.2.1.trans f563
  have f604 : ln w592 (r + 5) = 7 := (A593 _ (nek r 5 22 rfl)).2.2.2.trans f564
  have f605 : gi w592 (r + 5) = (fun _ => 0) := (A593 _ (nek r 5 22 rfl)).1.trans f565
  have f606 : ty w592 r = 5 := (A593 _ (nek r 0 22 rfl)).2.2.1.trans f566
  have f607 : gi w592 r = (fun _ => 0) := (A593 _ (nek r 0 22 rfl)).1.trans f567
  have f608 : gr w592 r 0 = (r + 1) := (congrFun (A593 _ (nek r 0 22 rfl)).2.1 _).trans f568
  have f609 : gr w592 r 1 = (r + 2) := (congrFun (A593 _ (nek r 0 22 rfl)).2.1 _).trans f569
  have f610 : gr w592 r 2 = (r + 3) := (congrFun (A593 _ (nek r 0 22 rfl)).2.1 _).trans f570
  have f611 : gr w592 r 3 = (r + 4) := (congrFun (A593 _ (nek r 0 22 rfl)).2.1 _).trans f571
  have f612 : gr w592 r 4 = (r + 5) := (congrFun (A593 _ (nek r 0 22 rfl)).2.1 _).trans f572
  have f613 : isInks w592.2 (r + 6) := inks_ag (fun q a b => A593 q (Nat.ne_of_lt (Nat.lt_of_lt_of_le b (lek r 6 4 22 rfl)))) f573
  have f614 : ty w592 (r + 6) = 4 := (A593 _ (nek r 6 22 rfl)).2.2.1.trans f574
  have f615 : isInks w592.2 (r + 10) := inks_ag (fun q a b => A593 q (Nat.ne_of_lt (Nat.lt_of_lt_of_le b (lek r 10 4 22 rfl)))) f575
  have f616 : ty w592 (r + 10) = 4 := (A593 _ (nek r 10 22 rfl)).2.2.1.trans f576
  have f617 : isInks w592.2 (r + 14) := inks_ag (fun q a b => A593 q (Nat.ne_of_lt (Nat.lt_of_lt_of_le b (lek r 14 4 22 rfl)))) f577
  have f618 : ty w592 (r + 14) = 4 := (A593 _ (nek r 14 22 rfl)).2.2.1.trans f578
  have f619 : isInks w592.2 (r + 18) := inks_ag (fun q a b => A593 q (Nat.ne_of_lt (Nat.lt_of_lt_of_le b (lek r 18 4 22 rfl)))) f579
  have f620 : ty w592 (r + 18) = 4 := (A593 _ (nek r 18 22 rfl)).2.2.1.trans f580
  have f621 : ty w592 (r + 1) = 14 := (A593 _ (nek r 1 22 rfl)).2.2.1.trans f581
  have f622 : ln w592 (r + 1) = 8 := (A593 _ (nek r 1 22 rfl)).2.2.2.trans f582
  have f623 : gi w592 (r + 1) = (fun _ => 0) := (A593 _ (nek r 1 22 rfl)).1.trans f583
  have f624 : gr w592 (r + 1) 0 = (r + 6) := (congrFun (A593 _ (nek r 1 22 rfl)).2.1 _).trans f584
  have f625 : gr w592 (r + 1) 1 = (r + 10) := (congrFun (A593 _ (nek r 1 22 rfl)).2.1 _).trans f585
  have f626 : gr w592 (r + 1) 2 = (r + 14) := (congrFun (A593 _ (nek r 1 22 rfl)).2.1 _).trans f586
  have f627 : gr w592 (r + 1) 3 = (r + 18) := (congrFun (A593 _ (nek r 1 22 rfl)).2.1 _).trans f587
  have e628 := mk_e (w := w552) (t := 4) (n := 6)
  rw [← hw592, n588] at e628
  have n629 : nx w592 = r + 23 := by rw [hw592]; exact congrArg (· + 1) n588
  have u630 : uc w592 = uc w + 22 := by rw [hw592]; exact congrArg (· + 1) u589
  have s631 : us w592 = us w + 186 := by rw [hw592]; exact congrArg (· + 6) s590
  have g632 : ∀ q, q < r → gi w592 q = gi w q ∧ gr w592 q = gr w q ∧ ty w592 q = ty w q ∧ ln w592 q = ln w q := fun q hq => by have a := A593 q (Nat.ne_of_lt (Nat.lt_of_lt_of_le hq (Nat.le_add_right r 22))); have b := g591 q hq; exact ⟨a.1.trans b.1, a.2.1.trans b.2.1, a.2.2.1.trans b.2.2.1, a.2.2.2.trans b.2.2.2⟩
  clear A593 f554 f555 f556 f557 f558 f559 f560 f561 f562 f563 f564 f565 f566 f567 f568 f569 f570 f571 f572 f573 f574 f575 f576 f577 f578 f579 f580 f581 f582 f583 f584 f585 f586 f587 g591 hw592 n588 s590 u589
  refine WP.blk 1 ?_
  show WP 2 26 63 [vR r, vI 4] [vR (r + 22), vR (r + 22), vI 4, vR (r + 1)] w592 Q
  refine WP.cl (a := [vR (r + 22)]) (rest := [vR (r + 22), vI 4, vR (r + 1)]) rfl rfl rfl rfl trivial (by decide) (c_inks n629 e628.2.1 e628.1 (fun w633 hA634 hni635 hui635 hsi635 f636 f637 => ⟨rfl, ?_⟩))
  show WP 2 26 66 [vR r, vI 4] [vR (r + 22), vI 4, vR (r + 1)] w633 Q
  have A634 : ∀ q, q < r + 22 → gi w633 q = gi w592 q ∧ gr w633 q = gr w592 q ∧ ty w633 q = ty w592 q ∧ ln w633 q = ln w592 q := fun q hq => hA634 q (Nat.zero_le _) hq
  have f638 : ty w633 (r + 2) = 15 := (A634 _ (ltk r 2 22 rfl)).2.2.1.trans f594
  have f639 : ln w633 (r + 2) = 7 := (A634 _ (ltk r 2 22 rfl)).2.2.2.trans f595
  have f640 : gi w633 (r + 2) = (fun _ => 0) := (A634 _ (ltk r 2 22 rfl)).1.trans f596
  have f641 : ty w633 (r + 3) = 11 := (A634 _ (ltk r 3 22 rfl)).2.2.1.trans f597
  have f642 : ln w633 (r + 3) = 7 := (A634 _ (ltk r 3 22 rfl)).2.2.2.trans f598
  have f643 : gi w633 (r + 3) = (fun _ => 0) := (A634 _ (ltk r 3 22 rfl)).1.trans f599
  have f644 : ty w633 (r + 4) = 11 := (A634 _ (ltk r 4 22 rfl)).2.2.1.trans f600
  have f645 : ln w633 (r + 4) = 7 := (A634 _ (ltk r 4 22 rfl)).2.2.2.trans f601
  have f646 : gi w633 (r + 4) = (fun _ => 0) := (A634 _ (ltk r 4 22 rfl)).1.trans f602
  have f647 : ty w633 (r + 5) = 11 := (A634 _ (ltk r 5 22 rfl)).2.2.1.trans f603
  have f648 : ln w633 (r + 5) = 7 := (A634 _ (ltk r 5 22 rfl)).2.2.2.trans f604
  have f649 : gi w633 (r + 5) = (fun _ => 0) := (A634 _ (ltk r 5 22 rfl)).1.trans f605
  have f650 : ty w633 r = 5 := (A634 _ (ltk r 0 22 rfl)).2.2.1.trans f606
  have f651 : gi w633 r = (fun _ => 0) := (A634 _ (ltk r 0 22 rfl)).1.trans f607
  have f652 : gr w633 r 0 = (r + 1) := (congrFun (A634 _ (ltk r 0 22 rfl)).2.1 _).trans f608
  have f653 : gr w633 r 1 = (r + 2) := (congrFun (A634 _ (ltk r 0 22 rfl)).2.1 _).trans f609
  have f654 : gr w633 r 2 = (r + 3) := (congrFun (A634 _ (ltk r 0 22 rfl)).2.1 _).trans f610
  have f655 : gr w633 r 3 = (r + 4) := (congrFun (A634 _ (ltk r 0 22 rfl)).2.1 _).trans f611
  have f656 : gr w633 r 4 = (r + 5) := (congrFun (A634 _ (ltk r 0 22 rfl)).2.1 _).trans f612
  have f657 : isInks w633.2 (r + 6) := inks_ag (fun q a b => A634 q (Nat.lt_of_lt_of_le b (lek r 6 4 22 rfl))) f613
  have f658 : ty w633 (r + 6) = 4 := (A634 _ (ltk r 6 22 rfl)).2.2.1.trans f614
  have f659 : isInks w633.2 (r + 10) := inks_ag (fun q a b => A634 q (Nat.lt_of_lt_of_le b (lek r 10 4 22 rfl))) f615
  have f660 : ty w633 (r + 10) = 4 := (A634 _ (ltk r 10 22 rfl)).2.2.1.trans f616
  have f661 : isInks w633.2 (r + 14) := inks_ag (fun q a b => A634 q (Nat.lt_of_lt_of_le b (lek r 14 4 22 rfl))) f617
  have f662 : ty w633 (r + 14) = 4 := (A634 _ (ltk r 14 22 rfl)).2.2.1.trans f618
  have f663 : isInks w633.2 (r + 18) := inks_ag (fun q a b => A634 q (Nat.lt_of_lt_of_le b (lek r 18 4 22 rfl))) f619
  have f664 : ty w633 (r + 18) = 4 := (A634 _ (ltk r 18 22 rfl)).2.2.1.trans f620
  have f665 : ty w633 (r + 1) = 14 := (A634 _ (ltk r 1 22 rfl)).2.2.1.trans f621
  have f666 : ln w633 (r + 1) = 8 := (A634 _ (ltk r 1 22 rfl)).2.2.2.trans f622
  have f667 : gi w633 (r + 1) = (fun _ => 0) := (A634 _ (ltk r 1 22 rfl)).1.trans f623
  have f668 : gr w633 (r + 1) 0 = (r + 6) := (congrFun (A634 _ (ltk r 1 22 rfl)).2.1 _).trans f624
  have f669 : gr w633 (r + 1) 1 = (r + 10) := (congrFun (A634 _ (ltk r 1 22 rfl)).2.1 _).trans f625
  have f670 : gr w633 (r + 1) 2 = (r + 14) := (congrFun (A634 _ (ltk r 1 22 rfl)).2.1 _).trans f626
  have f671 : gr w633 (r + 1) 3 = (r + 18) := (congrFun (A634 _ (ltk r 1 22 rfl)).2.1 _).trans f627
  have ni635 : nx w633 = r + 26 := hni635
  have ui635 : uc w633 = uc w + 25 := hui635.trans (congrArg (· + 3) u630)
  have si635 : us w633 = us w + 216 := hsi635.trans (congrArg (· + 30) s631)
  have g672 : ∀ q, q < r → gi w633 q = gi w q ∧ gr w633 q = gr w q ∧ ty w633 q = ty w q ∧ ln w633 q = ln w q := fun q hq => by have a := A634 q (Nat.lt_of_lt_of_le hq (Nat.le_add_right r 22)); have b := g632 q hq; exact ⟨a.1.trans b.1, a.2.1.trans b.2.1, a.2.2.1.trans b.2.2.1, a.2.2.2.trans b.2.2.2⟩
  clear A634 e628 f594 f595 f596 f597 f598 f599 f600 f601 f602 f603 f604 f605 f606 f607 f608 f609 f610 f611 f612 f613 f614 f615 f616 f617 f618 f619 f620 f621 f622 f623 f624 f625 f626 f627 g632 hA634 hni635 hsi635 hui635 n629 s631 u630
  refine WP.blk 1 ?_
  show (ref3 (ty w633 (r + 1)) ∧ 0 ≤ (4 : Int) ∧ (4 : Int) < (ln w633 (r + 1) : Int) ∧ ty w633 (r + 22) = el3 (ty w633 (r + 1))) ∧ WP 2 26 67 [vR r, vI 4] [] (sr w633 (r + 1) 4 (r + 22)) Q
  refine ⟨⟨Or.inr (Or.inl f665), by decide, by rw [f666]; decide, by rw [f665]; exact f636.1⟩, ?_⟩
  obtain ⟨w673, hw673⟩ : ∃ y9, y9 = sr w633 (r + 1) 4 (r + 22) := ⟨_, rfl⟩
  rw [← hw673]
  have A674 : ∀ q, q ≠ r + 1 → gi w673 q = gi w633 q ∧ gr w673 q = gr w633 q ∧ ty w673 q = ty w633 q ∧ ln w673 q = ln w633 q := fun q hq => by rw [hw673]; exact sr_o hq
  have f675 : ty w673 (r + 2) = 15 := (A674 _ (nek r 2 1 rfl)).2.2.1.trans f638
  have f676 : ln w673 (r + 2) = 7 := (A674 _ (nek r 2 1 rfl)).2.2.2.trans f639
  have f677 : gi w673 (r + 2) = (fun _ => 0) := (A674 _ (nek r 2 1 rfl)).1.trans f640
  have f678 : ty w673 (r + 3) = 11 := (A674 _ (nek r 3 1 rfl)).2.2.1.trans f641
  have f679 : ln w673 (r + 3) = 7 := (A674 _ (nek r 3 1 rfl)).2.2.2.trans f642
  have f680 : gi w673 (r + 3) = (fun _ => 0) := (A674 _ (nek r 3 1 rfl)).1.trans f643
  have f681 : ty w673 (r + 4) = 11 := (A674 _ (nek r 4 1 rfl)).2.2.1.trans f644
  have f682 : ln w673 (r + 4) = 7 := (A674 _ (nek r 4 1 rfl)).2.2.2.trans f645
  have f683 : gi w673 (r + 4) = (fun _ => 0) := (A674 _ (nek r 4 1 rfl)).1.trans f646
  have f684 : ty w673 (r + 5) = 11 := (A674 _ (nek r 5 1 rfl)).2.2.1.trans f647
  have f685 : ln w673 (r + 5) = 7 := (A674 _ (nek r 5 1 rfl)).2.2.2.trans f648
  have f686 : gi w673 (r + 5) = (fun _ => 0) := (A674 _ (nek r 5 1 rfl)).1.trans f649
  have f687 : ty w673 r = 5 := (A674 _ (nek r 0 1 rfl)).2.2.1.trans f650
  have f688 : gi w673 r = (fun _ => 0) := (A674 _ (nek r 0 1 rfl)).1.trans f651
  have f689 : gr w673 r 0 = (r + 1) := (congrFun (A674 _ (nek r 0 1 rfl)).2.1 _).trans f652
  have f690 : gr w673 r 1 = (r + 2) := (congrFun (A674 _ (nek r 0 1 rfl)).2.1 _).trans f653
  have f691 : gr w673 r 2 = (r + 3) := (congrFun (A674 _ (nek r 0 1 rfl)).2.1 _).trans f654
  have f692 : gr w673 r 3 = (r + 4) := (congrFun (A674 _ (nek r 0 1 rfl)).2.1 _).trans f655
  have f693 : gr w673 r 4 = (r + 5) := (congrFun (A674 _ (nek r 0 1 rfl)).2.1 _).trans f656
  have f694 : isInks w673.2 (r + 6) := inks_ag (fun q a b => A674 q (Nat.ne_of_gt (Nat.lt_of_lt_of_le (ltk r 1 6 rfl) a))) f657
  have f695 : ty w673 (r + 6) = 4 := (A674 _ (nek r 6 1 rfl)).2.2.1.trans f658
  have f696 : isInks w673.2 (r + 10) := inks_ag (fun q a b => A674 q (Nat.ne_of_gt (Nat.lt_of_lt_of_le (ltk r 1 10 rfl) a))) f659
  have f697 : ty w673 (r + 10) = 4 := (A674 _ (nek r 10 1 rfl)).2.2.1.trans f660
  have f698 : isInks w673.2 (r + 14) := inks_ag (fun q a b => A674 q (Nat.ne_of_gt (Nat.lt_of_lt_of_le (ltk r 1 14 rfl) a))) f661
  have f699 : ty w673 (r + 14) = 4 := (A674 _ (nek r 14 1 rfl)).2.2.1.trans f662
  have f700 : isInks w673.2 (r + 18) := inks_ag (fun q a b => A674 q (Nat.ne_of_gt (Nat.lt_of_lt_of_le (ltk r 1 18 rfl) a))) f663
  have f701 : ty w673 (r + 18) = 4 := (A674 _ (nek r 18 1 rfl)).2.2.1.trans f664
  have f702 : isInks w673.2 (r + 22) := inks_ag (fun q a b => A674 q (Nat.ne_of_gt (Nat.lt_of_lt_of_le (ltk r 1 22 rfl) a))) f636
  have f703 : ty w673 (r + 22) = 4 := (A674 _ (nek r 22 1 rfl)).2.2.1.trans f636.1
  have f704 : ty w673 (r + 1) = 14 := by rw [hw673]; exact f665
  have f705 : ln w673 (r + 1) = 8 := by rw [hw673]; exact f666
  have f706 : gi w673 (r + 1) = (fun _ => 0) := by rw [hw673]; exact f667
  have f707 : gr w673 (r + 1) 0 = (r + 6) := by rw [hw673]; exact (sr_k (by decide)).trans f668
  have f708 : gr w673 (r + 1) 1 = (r + 10) := by rw [hw673]; exact (sr_k (by decide)).trans f669
  have f709 : gr w673 (r + 1) 2 = (r + 14) := by rw [hw673]; exact (sr_k (by decide)).trans f670
  have f710 : gr w673 (r + 1) 3 = (r + 18) := by rw [hw673]; exact (sr_k (by decide)).trans f671
  have f711 : gr w673 (r + 1) 4 = (r + 22) := by rw [hw673]; exact sr_e
  have n712 : nx w673 = r + 26 := by rw [hw673]; exact ni635
  have u713 : uc w673 = uc w + 25 := by rw [hw673]; exact ui635
  have s714 : us w673 = us w + 216 := by rw [hw673]; exact si635
  have g715 : ∀ q, q < r → gi w673 q = gi w q ∧ gr w673 q = gr w q ∧ ty w673 q = ty w q ∧ ln w673 q = ln w q := fun q hq => by have a := A674 q (Nat.ne_of_lt (Nat.lt_of_lt_of_le hq (Nat.le_add_right r 1))); have b := g672 q hq; exact ⟨a.1.trans b.1, a.2.1.trans b.2.1, a.2.2.1.trans b.2.2.1, a.2.2.2.trans b.2.2.2⟩
  clear A674 f636 f637 f638 f639 f640 f641 f642 f643 f644 f645 f646 f647 f648 f649 f650 f651 f652 f653 f654 f655 f656 f657 f658 f659 f660 f661 f662 f663 f664 f665 f666 f667 f668 f669 f670 f671 g672 hw673 ni635 si635 ui635
  refine WP.blk 1 ?_
  show ir (4 + 1) ∧ WP 2 26 70 [vR r, vI 5] [] w673 Q
  refine ⟨⟨by decide, by decide⟩, ?_⟩
  refine WP.blk 1 ?_
  show WP 2 26 48 [vR r, vI 5] [] w673 Q
  refine WP.blk 1 ?_
  show WP 2 26 49 [vR r, vI 5] [vI 5] w673 Q
  refine WP.blk 1 ?_
  show WP 2 26 51 [vR r, vI 5] [vI 7, vI 5] w673 Q
  refine WP.blk 1 ?_
  show WP 2 26 54 [vR r, vI 5] [] w673 Q
  refine WP.blk 1 ?_
  show WP 2 26 55 [vR r, vI 5] [vR r] w673 Q
  refine WP.blk 1 ?_
  show (ty w673 r = 5 ∧ gr w673 r 0 ≠ 0) ∧ WP 2 26 58 [vR r, vI 5] [vR (gr w673 r 0)] w673 Q
  refine ⟨⟨f687, by rw [f689]; exact Nat.succ_ne_zero _⟩, ?_⟩
  rw [f689]
  refine WP.blk 1 ?_
  show WP 2 26 59 [vR r, vI 5] [vI 5, vR (r + 1)] w673 Q
  refine WP.blk 1 ?_
  show WP 2 26 62 [vR r, vI 5] [vR (nx w673), vI 5, vR (r + 1)] (mk w673 4 6) Q
  rw [n712]
  obtain ⟨w716, hw716⟩ : ∃ y9, y9 = mk w673 4 6 := ⟨_, rfl⟩
  rw [← hw716]
  have A717 : ∀ q, q ≠ r + 26 → gi w716 q = gi w673 q ∧ gr w716 q = gr w673 q ∧ ty w716 q = ty w673 q ∧ ln w716 q = ln w673 q := fun q hq => by rw [hw716]; exact mk_o (by rw [n712]; exact hq)
  have f718 : ty w716 (r + 2) = 15 := (A717 _ (nek r 2 26 rfl)).2.2.1.trans f675
  have f719 : ln w716 (r + 2) = 7 := (A717 _ (nek r 2 26 rfl)).2.2.2.trans f676
  have f720 : gi w716 (r + 2) = (fun _ => 0) := (A717 _ (nek r 2 26 rfl)).1.trans f677
  have f721 : ty w716 (r + 3) = 11 := (A717 _ (nek r 3 26 rfl)).2.2.1.trans f678
  have f722 : ln w716 (r + 3) = 7 := (A717 _ (nek r 3 26 rfl)).2.2.2.trans f679
  have f723 : gi w716 (r + 3) = (fun _ => 0) := (A717 _ (nek r 3 26 rfl)).1.trans f680
  have f724 : ty w716 (r + 4) = 11 := (A717 _ (nek r 4 26 rfl)).2.2.1.trans f681
  have f725 : ln w716 (r + 4) = 7 := (A717 _ (nek r 4 26 rfl)).2.2.2.trans f682
  have f726 : gi w716 (r + 4) = (fun _ => 0) := (A717 _ (nek r 4 26 rfl)).1.trans f683
  have f727 : ty w716 (r + 5) = 11 := (A717 _ (nek r 5 26 rfl)).2.2.1.trans f684
  have f728 : ln w716 (r + 5) = 7 := (A717 _ (nek r 5 26 rfl)).2.2.2.trans f685
  have f729 : gi w716 (r + 5) = (fun _ => 0) := (A717 _ (nek r 5 26 rfl)).1.trans f686
  have f730 : ty w716 r = 5 := (A717 _ (nek r 0 26 rfl)).2.2.1.trans f687
  have f731 : gi w716 r = (fun _ => 0) := (A717 _ (nek r 0 26 rfl)).1.trans f688
  have f732 : gr w716 r 0 = (r + 1) := (congrFun (A717 _ (nek r 0 26 rfl)).2.1 _).trans f689
  have f733 : gr w716 r 1 = (r + 2) := (congrFun (A717 _ (nek r 0 26 rfl)).2.1 _).trans f690
  have f734 : gr w716 r 2 = (r + 3) := (congrFun (A717 _ (nek r 0 26 rfl)).2.1 _).trans f691
  have f735 : gr w716 r 3 = (r + 4) := (congrFun (A717 _ (nek r 0 26 rfl)).2.1 _).trans f692
  have f736 : gr w716 r 4 = (r + 5) := (congrFun (A717 _ (nek r 0 26 rfl)).2.1 _).trans f693
  have f737 : isInks w716.2 (r + 6) := inks_ag (fun q a b => A717 q (Nat.ne_of_lt (Nat.lt_of_lt_of_le b (lek r 6 4 26 rfl)))) f694
  have f738 : ty w716 (r + 6) = 4 := (A717 _ (nek r 6 26 rfl)).2.2.1.trans f695
  have f739 : isInks w716.2 (r + 10) := inks_ag (fun q a b => A717 q (Nat.ne_of_lt (Nat.lt_of_lt_of_le b (lek r 10 4 26 rfl)))) f696
  have f740 : ty w716 (r + 10) = 4 := (A717 _ (nek r 10 26 rfl)).2.2.1.trans f697
  have f741 : isInks w716.2 (r + 14) := inks_ag (fun q a b => A717 q (Nat.ne_of_lt (Nat.lt_of_lt_of_le b (lek r 14 4 26 rfl)))) f698
  have f742 : ty w716 (r + 14) = 4 := (A717 _ (nek r 14 26 rfl)).2.2.1.trans f699
  have f743 : isInks w716.2 (r + 18) := inks_ag (fun q a b => A717 q (Nat.ne_of_lt (Nat.lt_of_lt_of_le b (lek r 18 4 26 rfl)))) f700
  have f744 : ty w716 (r + 18) = 4 := (A717 _ (nek r 18 26 rfl)).2.2.1.trans f701
  have f745 : isInks w716.2 (r + 22) := inks_ag (fun q a b => A717 q (Nat.ne_of_lt (Nat.lt_of_lt_of_le b (lek r 22 4 26 rfl)))) f702
  have f746 : ty w716 (r + 22) = 4 := (A717 _ (nek r 22 26 rfl)).2.2.1.trans f703
  have f747 : ty w716 (r + 1) = 14 := (A717 _ (nek r 1 26 rfl)).2.2.1.trans f704
  have f748 : ln w716 (r + 1) = 8 := (A717 _ (nek r 1 26 rfl)).2.2.2.trans f705
  have f749 : gi w716 (r + 1) = (fun _ => 0) := (A717 _ (nek r 1 26 rfl)).1.trans f706
  have f750 : gr w716 (r + 1) 0 = (r + 6) := (congrFun (A717 _ (nek r 1 26 rfl)).2.1 _).trans f707
  have f751 : gr w716 (r + 1) 1 = (r + 10) := (congrFun (A717 _ (nek r 1 26 rfl)).2.1 _).trans f708
  have f752 : gr w716 (r + 1) 2 = (r + 14) := (congrFun (A717 _ (nek r 1 26 rfl)).2.1 _).trans f709
  have f753 : gr w716 (r + 1) 3 = (r + 18) := (congrFun (A717 _ (nek r 1 26 rfl)).2.1 _).trans f710
  have f754 : gr w716 (r + 1) 4 = (r + 22) := (congrFun (A717 _ (nek r 1 26 rfl)).2.1 _).trans f711
  have e755 := mk_e (w := w673) (t := 4) (n := 6)
  rw [← hw716, n712] at e755
  have n756 : nx w716 = r + 27 := by rw [hw716]; exact congrArg (· + 1) n712
  have u757 : uc w716 = uc w + 26 := by rw [hw716]; exact congrArg (· + 1) u713
  have s758 : us w716 = us w + 222 := by rw [hw716]; exact congrArg (· + 6) s714
  have g759 : ∀ q, q < r → gi w716 q = gi w q ∧ gr w716 q = gr w q ∧ ty w716 q = ty w q ∧ ln w716 q = ln w q := fun q hq => by have a := A717 q (Nat.ne_of_lt (Nat.lt_of_lt_of_le hq (Nat.le_add_right r 26))); have b := g715 q hq; exact ⟨a.1.trans b.1, a.2.1.trans b.2.1, a.2.2.1.trans b.2.2.1, a.2.2.2.trans b.2.2.2⟩
  clear A717 f675 f676 f677 f678 f679 f680 f681 f682 f683 f684 f685 f686 f687 f688 f689 f690 f691 f692 f693 f694 f695 f696 f697 f698 f699 f700 f701 f702 f703 f704 f705 f706 f707 f708 f709 f710 f711 g715 hw716 n712 s714 u713
  refine WP.blk 1 ?_
  show WP 2 26 63 [vR r, vI 5] [vR (r + 26), vR (r + 26), vI 5, vR (r + 1)] w716 Q
  refine WP.cl (a := [vR (r + 26)]) (rest := [vR (r + 26), vI 5, vR (r + 1)]) rfl rfl rfl rfl trivial (by decide) (c_inks n756 e755.2.1 e755.1 (fun w760 hA761 hni762 hui762 hsi762 f763 f764 => ⟨rfl, ?_⟩))
  show WP 2 26 66 [vR r, vI 5] [vR (r + 26), vI 5, vR (r + 1)] w760 Q
  have A761 : ∀ q, q < r + 26 → gi w760 q = gi w716 q ∧ gr w760 q = gr w716 q ∧ ty w760 q = ty w716 q ∧ ln w760 q = ln w716 q := fun q hq => hA761 q (Nat.zero_le _) hq
  have f765 : ty w760 (r + 2) = 15 := (A761 _ (ltk r 2 26 rfl)).2.2.1.trans f718
  have f766 : ln w760 (r + 2) = 7 := (A761 _ (ltk r 2 26 rfl)).2.2.2.trans f719
  have f767 : gi w760 (r + 2) = (fun _ => 0) := (A761 _ (ltk r 2 26 rfl)).1.trans f720
  have f768 : ty w760 (r + 3) = 11 := (A761 _ (ltk r 3 26 rfl)).2.2.1.trans f721
  have f769 : ln w760 (r + 3) = 7 := (A761 _ (ltk r 3 26 rfl)).2.2.2.trans f722
  have f770 : gi w760 (r + 3) = (fun _ => 0) := (A761 _ (ltk r 3 26 rfl)).1.trans f723
  have f771 : ty w760 (r + 4) = 11 := (A761 _ (ltk r 4 26 rfl)).2.2.1.trans f724
  have f772 : ln w760 (r + 4) = 7 := (A761 _ (ltk r 4 26 rfl)).2.2.2.trans f725
  have f773 : gi w760 (r + 4) = (fun _ => 0) := (A761 _ (ltk r 4 26 rfl)).1.trans f726
  have f774 : ty w760 (r + 5) = 11 := (A761 _ (ltk r 5 26 rfl)).2.2.1.trans f727
  have f775 : ln w760 (r + 5) = 7 := (A761 _ (ltk r 5 26 rfl)).2.2.2.trans f728
  have f776 : gi w760 (r + 5) = (fun _ => 0) := (A761 _ (ltk r 5 26 rfl)).1.trans f729
  have f777 : ty w760 r = 5 := (A761 _ (ltk r 0 26 rfl)).2.2.1.trans f730
  have f778 : gi w760 r = (fun _ => 0) := (A761 _ (ltk r 0 26 rfl)).1.trans f731
  have f779 : gr w760 r 0 = (r + 1) := (congrFun (A761 _ (ltk r 0 26 rfl)).2.1 _).trans f732
  have f780 : gr w760 r 1 = (r + 2) := (congrFun (A761 _ (ltk r 0 26 rfl)).2.1 _).trans f733
  have f781 : gr w760 r 2 = (r + 3) := (congrFun (A761 _ (ltk r 0 26 rfl)).2.1 _).trans f734
  have f782 : gr w760 r 3 = (r + 4) := (congrFun (A761 _ (ltk r 0 26 rfl)).2.1 _).trans f735
  have f783 : gr w760 r 4 = (r + 5) := (congrFun (A761 _ (ltk r 0 26 rfl)).2.1 _).trans f736
  have f784 : isInks w760.2 (r + 6) := inks_ag (fun q a b => A761 q (Nat.lt_of_lt_of_le b (lek r 6 4 26 rfl))) f737
  have f785 : ty w760 (r + 6) = 4 := (A761 _ (ltk r 6 26 rfl)).2.2.1.trans f738
  have f786 : isInks w760.2 (r + 10) := inks_ag (fun q a b => A761 q (Nat.lt_of_lt_of_le b (lek r 10 4 26 rfl))) f739
  have f787 : ty w760 (r + 10) = 4 := (A761 _ (ltk r 10 26 rfl)).2.2.1.trans f740
  have f788 : isInks w760.2 (r + 14) := inks_ag (fun q a b => A761 q (Nat.lt_of_lt_of_le b (lek r 14 4 26 rfl))) f741
  have f789 : ty w760 (r + 14) = 4 := (A761 _ (ltk r 14 26 rfl)).2.2.1.trans f742
  have f790 : isInks w760.2 (r + 18) := inks_ag (fun q a b => A761 q (Nat.lt_of_lt_of_le b (lek r 18 4 26 rfl))) f743
  have f791 : ty w760 (r + 18) = 4 := (A761 _ (ltk r 18 26 rfl)).2.2.1.trans f744
  have f792 : isInks w760.2 (r + 22) := inks_ag (fun q a b => A761 q (Nat.lt_of_lt_of_le b (lek r 22 4 26 rfl))) f745
  have f793 : ty w760 (r + 22) = 4 := (A761 _ (ltk r 22 26 rfl)).2.2.1.trans f746
  have f794 : ty w760 (r + 1) = 14 := (A761 _ (ltk r 1 26 rfl)).2.2.1.trans f747
  have f795 : ln w760 (r + 1) = 8 := (A761 _ (ltk r 1 26 rfl)).2.2.2.trans f748
  have f796 : gi w760 (r + 1) = (fun _ => 0) := (A761 _ (ltk r 1 26 rfl)).1.trans f749
  have f797 : gr w760 (r + 1) 0 = (r + 6) := (congrFun (A761 _ (ltk r 1 26 rfl)).2.1 _).trans f750
  have f798 : gr w760 (r + 1) 1 = (r + 10) := (congrFun (A761 _ (ltk r 1 26 rfl)).2.1 _).trans f751
  have f799 : gr w760 (r + 1) 2 = (r + 14) := (congrFun (A761 _ (ltk r 1 26 rfl)).2.1 _).trans f752
  have f800 : gr w760 (r + 1) 3 = (r + 18) := (congrFun (A761 _ (ltk r 1 26 rfl)).2.1 _).trans f753
  have f801 : gr w760 (r + 1) 4 = (r + 22) := (congrFun (A761 _ (ltk r 1 26 rfl)).2.1 _).trans f754
  have ni762 : nx w760 = r + 30 := hni762
  have ui762 : uc w760 = uc w + 29 := hui762.trans (congrArg (· + 3) u757)
  have si762 : us w760 = us w + 252 := hsi762.trans (congrArg (· + 30) s758)
  have g802 : ∀ q, q < r → gi w760 q = gi w q ∧ gr w760 q = gr w q ∧ ty w760 q = ty w q ∧ ln w760 q = ln w q := fun q hq => by have a := A761 q (Nat.lt_of_lt_of_le hq (Nat.le_add_right r 26)); have b := g759 q hq; exact ⟨a.1.trans b.1, a.2.1.trans b.2.1, a.2.2.1.trans b.2.2.1, a.2.2.2.trans b.2.2.2⟩
  clear A761 e755 f718 f719 f720 f721 f722 f723 f724 f725 f726 f727 f728 f729 f730 f731 f732 f733 f734 f735 f736 f737 f738 f739 f740 f741 f742 f743 f744 f745 f746 f747 f748 f749 f750 f751 f752 f753 f754 g759 hA761 hni762 hsi762 hui762 n756 s758 u757
  refine WP.blk 1 ?_
  show (ref3 (ty w760 (r + 1)) ∧ 0 ≤ (5 : Int) ∧ (5 : Int) < (ln w760 (r + 1) : Int) ∧ ty w760 (r + 26) = el3 (ty w760 (r + 1))) ∧ WP 2 26 67 [vR r, vI 5] [] (sr w760 (r + 1) 5 (r + 26)) Q
  refine ⟨⟨Or.inr (Or.inl f794), by decide, by rw [f795]; decide, by rw [f794]; exact f763.1⟩, ?_⟩
  obtain ⟨w803, hw803⟩ : ∃ y9, y9 = sr w760 (r + 1) 5 (r + 26) := ⟨_, rfl⟩
  rw [← hw803]
  have A804 : ∀ q, q ≠ r + 1 → gi w803 q = gi w760 q ∧ gr w803 q = gr w760 q ∧ ty w803 q = ty w760 q ∧ ln w803 q = ln w760 q := fun q hq => by rw [hw803]; exact sr_o hq
  have f805 : ty w803 (r + 2) = 15 := (A804 _ (nek r 2 1 rfl)).2.2.1.trans f765
  have f806 : ln w803 (r + 2) = 7 := (A804 _ (nek r 2 1 rfl)).2.2.2.trans f766
  have f807 : gi w803 (r + 2) = (fun _ => 0) := (A804 _ (nek r 2 1 rfl)).1.trans f767
  have f808 : ty w803 (r + 3) = 11 := (A804 _ (nek r 3 1 rfl)).2.2.1.trans f768
  have f809 : ln w803 (r + 3) = 7 := (A804 _ (nek r 3 1 rfl)).2.2.2.trans f769
  have f810 : gi w803 (r + 3) = (fun _ => 0) := (A804 _ (nek r 3 1 rfl)).1.trans f770
  have f811 : ty w803 (r + 4) = 11 := (A804 _ (nek r 4 1 rfl)).2.2.1.trans f771
  have f812 : ln w803 (r + 4) = 7 := (A804 _ (nek r 4 1 rfl)).2.2.2.trans f772
  have f813 : gi w803 (r + 4) = (fun _ => 0) := (A804 _ (nek r 4 1 rfl)).1.trans f773
  have f814 : ty w803 (r + 5) = 11 := (A804 _ (nek r 5 1 rfl)).2.2.1.trans f774
  have f815 : ln w803 (r + 5) = 7 := (A804 _ (nek r 5 1 rfl)).2.2.2.trans f775
  have f816 : gi w803 (r + 5) = (fun _ => 0) := (A804 _ (nek r 5 1 rfl)).1.trans f776
  have f817 : ty w803 r = 5 := (A804 _ (nek r 0 1 rfl)).2.2.1.trans f777
  have f818 : gi w803 r = (fun _ => 0) := (A804 _ (nek r 0 1 rfl)).1.trans f778
  have f819 : gr w803 r 0 = (r + 1) := (congrFun (A804 _ (nek r 0 1 rfl)).2.1 _).trans f779
  have f820 : gr w803 r 1 = (r + 2) := (congrFun (A804 _ (nek r 0 1 rfl)).2.1 _).trans f780
  have f821 : gr w803 r 2 = (r + 3) := (congrFun (A804 _ (nek r 0 1 rfl)).2.1 _).trans f781
  have f822 : gr w803 r 3 = (r + 4) := (congrFun (A804 _ (nek r 0 1 rfl)).2.1 _).trans f782
  have f823 : gr w803 r 4 = (r + 5) := (congrFun (A804 _ (nek r 0 1 rfl)).2.1 _).trans f783
  have f824 : isInks w803.2 (r + 6) := inks_ag (fun q a b => A804 q (Nat.ne_of_gt (Nat.lt_of_lt_of_le (ltk r 1 6 rfl) a))) f784
  have f825 : ty w803 (r + 6) = 4 := (A804 _ (nek r 6 1 rfl)).2.2.1.trans f785
  have f826 : isInks w803.2 (r + 10) := inks_ag (fun q a b => A804 q (Nat.ne_of_gt (Nat.lt_of_lt_of_le (ltk r 1 10 rfl) a))) f786
  have f827 : ty w803 (r + 10) = 4 := (A804 _ (nek r 10 1 rfl)).2.2.1.trans f787
  have f828 : isInks w803.2 (r + 14) := inks_ag (fun q a b => A804 q (Nat.ne_of_gt (Nat.lt_of_lt_of_le (ltk r 1 14 rfl) a))) f788
  have f829 : ty w803 (r + 14) = 4 := (A804 _ (nek r 14 1 rfl)).2.2.1.trans f789
  have f830 : isInks w803.2 (r + 18) := inks_ag (fun q a b => A804 q (Nat.ne_of_gt (Nat.lt_of_lt_of_le (ltk r 1 18 rfl) a))) f790
  have f831 : ty w803 (r + 18) = 4 := (A804 _ (nek r 18 1 rfl)).2.2.1.trans f791
  have f832 : isInks w803.2 (r + 22) := inks_ag (fun q a b => A804 q (Nat.ne_of_gt (Nat.lt_of_lt_of_le (ltk r 1 22 rfl) a))) f792
  have f833 : ty w803 (r + 22) = 4 := (A804 _ (nek r 22 1 rfl)).2.2.1.trans f793
  have f834 : isInks w803.2 (r + 26) := inks_ag (fun q a b => A804 q (Nat.ne_of_gt (Nat.lt_of_lt_of_le (ltk r 1 26 rfl) a))) f763
  have f835 : ty w803 (r + 26) = 4 := (A804 _ (nek r 26 1 rfl)).2.2.1.trans f763.1
  have f836 : ty w803 (r + 1) = 14 := by rw [hw803]; exact f794
  have f837 : ln w803 (r + 1) = 8 := by rw [hw803]; exact f795
  have f838 : gi w803 (r + 1) = (fun _ => 0) := by rw [hw803]; exact f796
  have f839 : gr w803 (r + 1) 0 = (r + 6) := by rw [hw803]; exact (sr_k (by decide)).trans f797
  have f840 : gr w803 (r + 1) 1 = (r + 10) := by rw [hw803]; exact (sr_k (by decide)).trans f798
  have f841 : gr w803 (r + 1) 2 = (r + 14) := by rw [hw803]; exact (sr_k (by decide)).trans f799
  have f842 : gr w803 (r + 1) 3 = (r + 18) := by rw [hw803]; exact (sr_k (by decide)).trans f800
  have f843 : gr w803 (r + 1) 4 = (r + 22) := by rw [hw803]; exact (sr_k (by decide)).trans f801
  have f844 : gr w803 (r + 1) 5 = (r + 26) := by rw [hw803]; exact sr_e
  have n845 : nx w803 = r + 30 := by rw [hw803]; exact ni762
  have u846 : uc w803 = uc w + 29 := by rw [hw803]; exact ui762
  have s847 : us w803 = us w + 252 := by rw [hw803]; exact si762
  have g848 : ∀ q, q < r → gi w803 q = gi w q ∧ gr w803 q = gr w q ∧ ty w803 q = ty w q ∧ ln w803 q = ln w q := fun q hq => by have a := A804 q (Nat.ne_of_lt (Nat.lt_of_lt_of_le hq (Nat.le_add_right r 1))); have b := g802 q hq; exact ⟨a.1.trans b.1, a.2.1.trans b.2.1, a.2.2.1.trans b.2.2.1, a.2.2.2.trans b.2.2.2⟩
  clear A804 f763 f764 f765 f766 f767 f768 f769 f770 f771 f772 f773 f774 f775 f776 f777 f778 f779 f780 f781 f782 f783 f784 f785 f786 f787 f788 f789 f790 f791 f792 f793 f794 f795 f796 f797 f798 f799 f800 f801 g802 hw803 ni762 si762 ui762
  refine WP.blk 1 ?_
  show ir (5 + 1) ∧ WP 2 26 70 [vR r, vI 6] [] w803 Q
  refine ⟨⟨by decide, by decide⟩, ?_⟩
  refine WP.blk 1 ?_
  show WP 2 26 48 [vR r, vI 6] [] w803 Q
  refine WP.blk 1 ?_
  show WP 2 26 49 [vR r, vI 6] [vI 6] w803 Q
  refine WP.blk 1 ?_
  show WP 2 26 51 [vR r, vI 6] [vI 7, vI 6] w803 Q
  refine WP.blk 1 ?_
  show WP 2 26 54 [vR r, vI 6] [] w803 Q
  refine WP.blk 1 ?_
  show WP 2 26 55 [vR r, vI 6] [vR r] w803 Q
  refine WP.blk 1 ?_
  show (ty w803 r = 5 ∧ gr w803 r 0 ≠ 0) ∧ WP 2 26 58 [vR r, vI 6] [vR (gr w803 r 0)] w803 Q
  refine ⟨⟨f817, by rw [f819]; exact Nat.succ_ne_zero _⟩, ?_⟩
  rw [f819]
  refine WP.blk 1 ?_
  show WP 2 26 59 [vR r, vI 6] [vI 6, vR (r + 1)] w803 Q
  refine WP.blk 1 ?_
  show WP 2 26 62 [vR r, vI 6] [vR (nx w803), vI 6, vR (r + 1)] (mk w803 4 6) Q
  rw [n845]
  obtain ⟨w849, hw849⟩ : ∃ y9, y9 = mk w803 4 6 := ⟨_, rfl⟩
  rw [← hw849]
  have A850 : ∀ q, q ≠ r + 30 → gi w849 q = gi w803 q ∧ gr w849 q = gr w803 q ∧ ty w849 q = ty w803 q ∧ ln w849 q = ln w803 q := fun q hq => by rw [hw849]; exact mk_o (by rw [n845]; exact hq)
  have f851 : ty w849 (r + 2) = 15 := (A850 _ (nek r 2 30 rfl)).2.2.1.trans f805
  have f852 : ln w849 (r + 2) = 7 := (A850 _ (nek r 2 30 rfl)).2.2.2.trans f806
  have f853 : gi w849 (r + 2) = (fun _ => 0) := (A850 _ (nek r 2 30 rfl)).1.trans f807
  have f854 : ty w849 (r + 3) = 11 := (A850 _ (nek r 3 30 rfl)).2.2.1.trans f808
  have f855 : ln w849 (r + 3) = 7 := (A850 _ (nek r 3 30 rfl)).2.2.2.trans f809
  have f856 : gi w849 (r + 3) = (fun _ => 0) := (A850 _ (nek r 3 30 rfl)).1.trans f810
  have f857 : ty w849 (r + 4) = 11 := (A850 _ (nek r 4 30 rfl)).2.2.1.trans f811
  have f858 : ln w849 (r + 4) = 7 := (A850 _ (nek r 4 30 rfl)).2.2.2.trans f812
  have f859 : gi w849 (r + 4) = (fun _ => 0) := (A850 _ (nek r 4 30 rfl)).1.trans f813
  have f860 : ty w849 (r + 5) = 11 := (A850 _ (nek r 5 30 rfl)).2.2.1.trans f814
  have f861 : ln w849 (r + 5) = 7 := (A850 _ (nek r 5 30 rfl)).2.2.2.trans f815
  have f862 : gi w849 (r + 5) = (fun _ => 0) := (A850 _ (nek r 5 30 rfl)).1.trans f816
  have f863 : ty w849 r = 5 := (A850 _ (nek r 0 30 rfl)).2.2.1.trans f817
  have f864 : gi w849 r = (fun _ => 0) := (A850 _ (nek r 0 30 rfl)).1.trans f818
  have f865 : gr w849 r 0 = (r + 1) := (congrFun (A850 _ (nek r 0 30 rfl)).2.1 _).trans f819
  have f866 : gr w849 r 1 = (r + 2) := (congrFun (A850 _ (nek r 0 30 rfl)).2.1 _).trans f820
  have f867 : gr w849 r 2 = (r + 3) := (congrFun (A850 _ (nek r 0 30 rfl)).2.1 _).trans f821
  have f868 : gr w849 r 3 = (r + 4) := (congrFun (A850 _ (nek r 0 30 rfl)).2.1 _).trans f822
  have f869 : gr w849 r 4 = (r + 5) := (congrFun (A850 _ (nek r 0 30 rfl)).2.1 _).trans f823
  have f870 : isInks w849.2 (r + 6) := inks_ag (fun q a b => A850 q (Nat.ne_of_lt (Nat.lt_of_lt_of_le b (lek r 6 4 30 rfl)))) f824
  have f871 : ty w849 (r + 6) = 4 := (A850 _ (nek r 6 30 rfl)).2.2.1.trans f825
  have f872 : isInks w849.2 (r + 10) := inks_ag (fun q a b => A850 q (Nat.ne_of_lt (Nat.lt_of_lt_of_le b (lek r 10 4 30 rfl)))) f826
  have f873 : ty w849 (r + 10) = 4 := (A850 _ (nek r 10 30 rfl)).2.2.1.trans f827
  have f874 : isInks w849.2 (r + 14) := inks_ag (fun q a b => A850 q (Nat.ne_of_lt (Nat.lt_of_lt_of_le b (lek r 14 4 30 rfl)))) f828
  have f875 : ty w849 (r + 14) = 4 := (A850 _ (nek r 14 30 rfl)).2.2.1.trans f829
  have f876 : isInks w849.2 (r + 18) := inks_ag (fun q a b => A850 q (Nat.ne_of_lt (Nat.lt_of_lt_of_le b (lek r 18 4 30 rfl)))) f830
  have f877 : ty w849 (r + 18) = 4 := (A850 _ (nek r 18 30 rfl)).2.2.1.trans f831
  have f878 : isInks w849.2 (r + 22) := inks_ag (fun q a b => A850 q (Nat.ne_of_lt (Nat.lt_of_lt_of_le b (lek r 22 4 30 rfl)))) f832
  have f879 : ty w849 (r + 22) = 4 := (A850 _ (nek r 22 30 rfl)).2.2.1.trans f833
  have f880 : isInks w849.2 (r + 26) := inks_ag (fun q a b => A850 q (Nat.ne_of_lt (Nat.lt_of_lt_of_le b (lek r 26 4 30 rfl)))) f834
  have f881 : ty w849 (r + 26) = 4 := (A850 _ (nek r 26 30 rfl)).2.2.1.trans f835
  have f882 : ty w849 (r + 1) = 14 := (A850 _ (nek r 1 30 rfl)).2.2.1.trans f836
  have f883 : ln w849 (r + 1) = 8 := (A850 _ (nek r 1 30 rfl)).2.2.2.trans f837
  have f884 : gi w849 (r + 1) = (fun _ => 0) := (A850 _ (nek r 1 30 rfl)).1.trans f838
  have f885 : gr w849 (r + 1) 0 = (r + 6) := (congrFun (A850 _ (nek r 1 30 rfl)).2.1 _).trans f839
  have f886 : gr w849 (r + 1) 1 = (r + 10) := (congrFun (A850 _ (nek r 1 30 rfl)).2.1 _).trans f840
  have f887 : gr w849 (r + 1) 2 = (r + 14) := (congrFun (A850 _ (nek r 1 30 rfl)).2.1 _).trans f841
  have f888 : gr w849 (r + 1) 3 = (r + 18) := (congrFun (A850 _ (nek r 1 30 rfl)).2.1 _).trans f842
  have f889 : gr w849 (r + 1) 4 = (r + 22) := (congrFun (A850 _ (nek r 1 30 rfl)).2.1 _).trans f843
  have f890 : gr w849 (r + 1) 5 = (r + 26) := (congrFun (A850 _ (nek r 1 30 rfl)).2.1 _).trans f844
  have e891 := mk_e (w := w803) (t := 4) (n := 6)
  rw [← hw849, n845] at e891
  have n892 : nx w849 = r + 31 := by rw [hw849]; exact congrArg (· + 1) n845
  have u893 : uc w849 = uc w + 30 := by rw [hw849]; exact congrArg (· + 1) u846
  have s894 : us w849 = us w + 258 := by rw [hw849]; exact congrArg (· + 6) s847
  have g895 : ∀ q, q < r → gi w849 q = gi w q ∧ gr w849 q = gr w q ∧ ty w849 q = ty w q ∧ ln w849 q = ln w q := fun q hq => by have a := A850 q (Nat.ne_of_lt (Nat.lt_of_lt_of_le hq (Nat.le_add_right r 30))); have b := g848 q hq; exact ⟨a.1.trans b.1, a.2.1.trans b.2.1, a.2.2.1.trans b.2.2.1, a.2.2.2.trans b.2.2.2⟩
  clear A850 f805 f806 f807 f808 f809 f810 f811 f812 f813 f814 f815 f816 f817 f818 f819 f820 f821 f822 f823 f824 f825 f826 f827 f828 f829 f830 f831 f832 f833 f834 f835 f836 f837 f838 f839 f840 f841 f842 f843 f844 g848 hw849 n845 s847 u846
  refine WP.blk 1 ?_
  show WP 2 26 63 [vR r, vI 6] [vR (r + 30), vR (r + 30), vI 6, vR (r + 1)] w849 Q
  refine WP.cl (a := [vR (r + 30)]) (rest := [vR (r + 30), vI 6, vR (r + 1)]) rfl rfl rfl rfl trivial (by decide) (c_inks n892 e891.2.1 e891.1 (fun w896 hA897 hni898 hui898 hsi898 f899 f900 => ⟨rfl, ?_⟩))
  show WP 2 26 66 [vR r, vI 6] [vR (r + 30), vI 6, vR (r + 1)] w896 Q
  have A897 : ∀ q, q < r + 30 → gi w896 q = gi w849 q ∧ gr w896 q = gr w849 q ∧ ty w896 q = ty w849 q ∧ ln w896 q = ln w849 q := fun q hq => hA897 q (Nat.zero_le _) hq
  have f901 : ty w896 (r + 2) = 15 := (A897 _ (ltk r 2 30 rfl)).2.2.1.trans f851
  have f902 : ln w896 (r + 2) = 7 := (A897 _ (ltk r 2 30 rfl)).2.2.2.trans f852
  have f903 : gi w896 (r + 2) = (fun _ => 0) := (A897 _ (ltk r 2 30 rfl)).1.trans f853
  have f904 : ty w896 (r + 3) = 11 := (A897 _ (ltk r 3 30 rfl)).2.2.1.trans f854
  have f905 : ln w896 (r + 3) = 7 := (A897 _ (ltk r 3 30 rfl)).2.2.2.trans f855
  have f906 : gi w896 (r + 3) = (fun _ => 0) := (A897 _ (ltk r 3 30 rfl)).1.trans f856
  have f907 : ty w896 (r + 4) = 11 := (A897 _ (ltk r 4 30 rfl)).2.2.1.trans f857
  have f908 : ln w896 (r + 4) = 7 := (A897 _ (ltk r 4 30 rfl)).2.2.2.trans f858
  have f909 : gi w896 (r + 4) = (fun _ => 0) := (A897 _ (ltk r 4 30 rfl)).1.trans f859
  have f910 : ty w896 (r + 5) = 11 := (A897 _ (ltk r 5 30 rfl)).2.2.1.trans f860
  have f911 : ln w896 (r + 5) = 7 := (A897 _ (ltk r 5 30 rfl)).2.2.2.trans f861
  have f912 : gi w896 (r + 5) = (fun _ => 0) := (A897 _ (ltk r 5 30 rfl)).1.trans f862
  have f913 : ty w896 r = 5 := (A897 _ (ltk r 0 30 rfl)).2.2.1.trans f863
  have f914 : gi w896 r = (fun _ => 0) := (A897 _ (ltk r 0 30 rfl)).1.trans f864
  have f915 : gr w896 r 0 = (r + 1) := (congrFun (A897 _ (ltk r 0 30 rfl)).2.1 _).trans f865
  have f916 : gr w896 r 1 = (r + 2) := (congrFun (A897 _ (ltk r 0 30 rfl)).2.1 _).trans f866
  have f917 : gr w896 r 2 = (r + 3) := (congrFun (A897 _ (ltk r 0 30 rfl)).2.1 _).trans f867
  have f918 : gr w896 r 3 = (r + 4) := (congrFun (A897 _ (ltk r 0 30 rfl)).2.1 _).trans f868
  have f919 : gr w896 r 4 = (r + 5) := (congrFun (A897 _ (ltk r 0 30 rfl)).2.1 _).trans f869
  have f920 : isInks w896.2 (r + 6) := inks_ag (fun q a b => A897 q (Nat.lt_of_lt_of_le b (lek r 6 4 30 rfl))) f870
  have f921 : ty w896 (r + 6) = 4 := (A897 _ (ltk r 6 30 rfl)).2.2.1.trans f871
  have f922 : isInks w896.2 (r + 10) := inks_ag (fun q a b => A897 q (Nat.lt_of_lt_of_le b (lek r 10 4 30 rfl))) f872
  have f923 : ty w896 (r + 10) = 4 := (A897 _ (ltk r 10 30 rfl)).2.2.1.trans f873
  have f924 : isInks w896.2 (r + 14) := inks_ag (fun q a b => A897 q (Nat.lt_of_lt_of_le b (lek r 14 4 30 rfl))) f874
  have f925 : ty w896 (r + 14) = 4 := (A897 _ (ltk r 14 30 rfl)).2.2.1.trans f875
  have f926 : isInks w896.2 (r + 18) := inks_ag (fun q a b => A897 q (Nat.lt_of_lt_of_le b (lek r 18 4 30 rfl))) f876
  have f927 : ty w896 (r + 18) = 4 := (A897 _ (ltk r 18 30 rfl)).2.2.1.trans f877
  have f928 : isInks w896.2 (r + 22) := inks_ag (fun q a b => A897 q (Nat.lt_of_lt_of_le b (lek r 22 4 30 rfl))) f878
  have f929 : ty w896 (r + 22) = 4 := (A897 _ (ltk r 22 30 rfl)).2.2.1.trans f879
  have f930 : isInks w896.2 (r + 26) := inks_ag (fun q a b => A897 q (Nat.lt_of_lt_of_le b (lek r 26 4 30 rfl))) f880
  have f931 : ty w896 (r + 26) = 4 := (A897 _ (ltk r 26 30 rfl)).2.2.1.trans f881
  have f932 : ty w896 (r + 1) = 14 := (A897 _ (ltk r 1 30 rfl)).2.2.1.trans f882
  have f933 : ln w896 (r + 1) = 8 := (A897 _ (ltk r 1 30 rfl)).2.2.2.trans f883
  have f934 : gi w896 (r + 1) = (fun _ => 0) := (A897 _ (ltk r 1 30 rfl)).1.trans f884
  have f935 : gr w896 (r + 1) 0 = (r + 6) := (congrFun (A897 _ (ltk r 1 30 rfl)).2.1 _).trans f885
  have f936 : gr w896 (r + 1) 1 = (r + 10) := (congrFun (A897 _ (ltk r 1 30 rfl)).2.1 _).trans f886
  have f937 : gr w896 (r + 1) 2 = (r + 14) := (congrFun (A897 _ (ltk r 1 30 rfl)).2.1 _).trans f887
  have f938 : gr w896 (r + 1) 3 = (r + 18) := (congrFun (A897 _ (ltk r 1 30 rfl)).2.1 _).trans f888
  have f939 : gr w896 (r + 1) 4 = (r + 22) := (congrFun (A897 _ (ltk r 1 30 rfl)).2.1 _).trans f889
  have f940 : gr w896 (r + 1) 5 = (r + 26) := (congrFun (A897 _ (ltk r 1 30 rfl)).2.1 _).trans f890
  have ni898 : nx w896 = r + 34 := hni898
  have ui898 : uc w896 = uc w + 33 := hui898.trans (congrArg (· + 3) u893)
  have si898 : us w896 = us w + 288 := hsi898.trans (congrArg (· + 30) s894)
  have g941 : ∀ q, q < r → gi w896 q = gi w q ∧ gr w896 q = gr w q ∧ ty w896 q = ty w q ∧ ln w896 q = ln w q := fun q hq => by have a := A897 q (Nat.lt_of_lt_of_le hq (Nat.le_add_right r 30)); have b := g895 q hq; exact ⟨a.1.trans b.1, a.2.1.trans b.2.1, a.2.2.1.trans b.2.2.1, a.2.2.2.trans b.2.2.2⟩
  clear A897 e891 f851 f852 f853 f854 f855 f856 f857 f858 f859 f860 f861 f862 f863 f864 f865 f866 f867 f868 f869 f870 f871 f872 f873 f874 f875 f876 f877 f878 f879 f880 f881 f882 f883 f884 f885 f886 f887 f888 f889 f890 g895 hA897 hni898 hsi898 hui898 n892 s894 u893
  refine WP.blk 1 ?_
  show (ref3 (ty w896 (r + 1)) ∧ 0 ≤ (6 : Int) ∧ (6 : Int) < (ln w896 (r + 1) : Int) ∧ ty w896 (r + 30) = el3 (ty w896 (r + 1))) ∧ WP 2 26 67 [vR r, vI 6] [] (sr w896 (r + 1) 6 (r + 30)) Q
  refine ⟨⟨Or.inr (Or.inl f932), by decide, by rw [f933]; decide, by rw [f932]; exact f899.1⟩, ?_⟩
  obtain ⟨w942, hw942⟩ : ∃ y9, y9 = sr w896 (r + 1) 6 (r + 30) := ⟨_, rfl⟩
  rw [← hw942]
  have A943 : ∀ q, q ≠ r + 1 → gi w942 q = gi w896 q ∧ gr w942 q = gr w896 q ∧ ty w942 q = ty w896 q ∧ ln w942 q = ln w896 q := fun q hq => by rw [hw942]; exact sr_o hq
  have f944 : ty w942 (r + 2) = 15 := (A943 _ (nek r 2 1 rfl)).2.2.1.trans f901
  have f945 : ln w942 (r + 2) = 7 := (A943 _ (nek r 2 1 rfl)).2.2.2.trans f902
  have f946 : gi w942 (r + 2) = (fun _ => 0) := (A943 _ (nek r 2 1 rfl)).1.trans f903
  have f947 : ty w942 (r + 3) = 11 := (A943 _ (nek r 3 1 rfl)).2.2.1.trans f904
  have f948 : ln w942 (r + 3) = 7 := (A943 _ (nek r 3 1 rfl)).2.2.2.trans f905
  have f949 : gi w942 (r + 3) = (fun _ => 0) := (A943 _ (nek r 3 1 rfl)).1.trans f906
  have f950 : ty w942 (r + 4) = 11 := (A943 _ (nek r 4 1 rfl)).2.2.1.trans f907
  have f951 : ln w942 (r + 4) = 7 := (A943 _ (nek r 4 1 rfl)).2.2.2.trans f908
  have f952 : gi w942 (r + 4) = (fun _ => 0) := (A943 _ (nek r 4 1 rfl)).1.trans f909
  have f953 : ty w942 (r + 5) = 11 := (A943 _ (nek r 5 1 rfl)).2.2.1.trans f910
  have f954 : ln w942 (r + 5) = 7 := (A943 _ (nek r 5 1 rfl)).2.2.2.trans f911
  have f955 : gi w942 (r + 5) = (fun _ => 0) := (A943 _ (nek r 5 1 rfl)).1.trans f912
  have f956 : ty w942 r = 5 := (A943 _ (nek r 0 1 rfl)).2.2.1.trans f913
  have f957 : gi w942 r = (fun _ => 0) := (A943 _ (nek r 0 1 rfl)).1.trans f914
  have f958 : gr w942 r 0 = (r + 1) := (congrFun (A943 _ (nek r 0 1 rfl)).2.1 _).trans f915
  have f959 : gr w942 r 1 = (r + 2) := (congrFun (A943 _ (nek r 0 1 rfl)).2.1 _).trans f916
  have f960 : gr w942 r 2 = (r + 3) := (congrFun (A943 _ (nek r 0 1 rfl)).2.1 _).trans f917
  have f961 : gr w942 r 3 = (r + 4) := (congrFun (A943 _ (nek r 0 1 rfl)).2.1 _).trans f918
  have f962 : gr w942 r 4 = (r + 5) := (congrFun (A943 _ (nek r 0 1 rfl)).2.1 _).trans f919
  have f963 : isInks w942.2 (r + 6) := inks_ag (fun q a b => A943 q (Nat.ne_of_gt (Nat.lt_of_lt_of_le (ltk r 1 6 rfl) a))) f920
  have f964 : ty w942 (r + 6) = 4 := (A943 _ (nek r 6 1 rfl)).2.2.1.trans f921
  have f965 : isInks w942.2 (r + 10) := inks_ag (fun q a b => A943 q (Nat.ne_of_gt (Nat.lt_of_lt_of_le (ltk r 1 10 rfl) a))) f922
  have f966 : ty w942 (r + 10) = 4 := (A943 _ (nek r 10 1 rfl)).2.2.1.trans f923
  have f967 : isInks w942.2 (r + 14) := inks_ag (fun q a b => A943 q (Nat.ne_of_gt (Nat.lt_of_lt_of_le (ltk r 1 14 rfl) a))) f924
  have f968 : ty w942 (r + 14) = 4 := (A943 _ (nek r 14 1 rfl)).2.2.1.trans f925
  have f969 : isInks w942.2 (r + 18) := inks_ag (fun q a b => A943 q (Nat.ne_of_gt (Nat.lt_of_lt_of_le (ltk r 1 18 rfl) a))) f926
  have f970 : ty w942 (r + 18) = 4 := (A943 _ (nek r 18 1 rfl)).2.2.1.trans f927
  have f971 : isInks w942.2 (r + 22) := inks_ag (fun q a b => A943 q (Nat.ne_of_gt (Nat.lt_of_lt_of_le (ltk r 1 22 rfl) a))) f928
  have f972 : ty w942 (r + 22) = 4 := (A943 _ (nek r 22 1 rfl)).2.2.1.trans f929
  have f973 : isInks w942.2 (r + 26) := inks_ag (fun q a b => A943 q (Nat.ne_of_gt (Nat.lt_of_lt_of_le (ltk r 1 26 rfl) a))) f930
  have f974 : ty w942 (r + 26) = 4 := (A943 _ (nek r 26 1 rfl)).2.2.1.trans f931
  have f975 : isInks w942.2 (r + 30) := inks_ag (fun q a b => A943 q (Nat.ne_of_gt (Nat.lt_of_lt_of_le (ltk r 1 30 rfl) a))) f899
  have f976 : ty w942 (r + 30) = 4 := (A943 _ (nek r 30 1 rfl)).2.2.1.trans f899.1
  have f977 : ty w942 (r + 1) = 14 := by rw [hw942]; exact f932
  have f978 : ln w942 (r + 1) = 8 := by rw [hw942]; exact f933
  have f979 : gi w942 (r + 1) = (fun _ => 0) := by rw [hw942]; exact f934
  have f980 : gr w942 (r + 1) 0 = (r + 6) := by rw [hw942]; exact (sr_k (by decide)).trans f935
  have f981 : gr w942 (r + 1) 1 = (r + 10) := by rw [hw942]; exact (sr_k (by decide)).trans f936
  have f982 : gr w942 (r + 1) 2 = (r + 14) := by rw [hw942]; exact (sr_k (by decide)).trans f937
  have f983 : gr w942 (r + 1) 3 = (r + 18) := by rw [hw942]; exact (sr_k (by decide)).trans f938
  have f984 : gr w942 (r + 1) 4 = (r + 22) := by rw [hw942]; exact (sr_k (by decide)).trans f939
  have f985 : gr w942 (r + 1) 5 = (r + 26) := by rw [hw942]; exact (sr_k (by decide)).trans f940
  have f986 : gr w942 (r + 1) 6 = (r + 30) := by rw [hw942]; exact sr_e
  have n987 : nx w942 = r + 34 := by rw [hw942]; exact ni898
  have u988 : uc w942 = uc w + 33 := by rw [hw942]; exact ui898
  have s989 : us w942 = us w + 288 := by rw [hw942]; exact si898
  have g990 : ∀ q, q < r → gi w942 q = gi w q ∧ gr w942 q = gr w q ∧ ty w942 q = ty w q ∧ ln w942 q = ln w q := fun q hq => by have a := A943 q (Nat.ne_of_lt (Nat.lt_of_lt_of_le hq (Nat.le_add_right r 1))); have b := g941 q hq; exact ⟨a.1.trans b.1, a.2.1.trans b.2.1, a.2.2.1.trans b.2.2.1, a.2.2.2.trans b.2.2.2⟩
  clear A943 f899 f900 f901 f902 f903 f904 f905 f906 f907 f908 f909 f910 f911 f912 f913 f914 f915 f916 f917 f918 f919 f920 f921 f922 f923 f924 f925 f926 f927 f928 f929 f930 f931 f932 f933 f934 f935 f936 f937 f938 f939 f940 g941 hw942 ni898 si898 ui898
  refine WP.blk 1 ?_
  show ir (6 + 1) ∧ WP 2 26 70 [vR r, vI 7] [] w942 Q
  refine ⟨⟨by decide, by decide⟩, ?_⟩
  refine WP.blk 1 ?_
  show WP 2 26 48 [vR r, vI 7] [] w942 Q
  refine WP.blk 1 ?_
  show WP 2 26 49 [vR r, vI 7] [vI 7] w942 Q
  refine WP.blk 1 ?_
  show WP 2 26 51 [vR r, vI 7] [vI 7, vI 7] w942 Q
  refine WP.blk 1 ?_
  show WP 2 26 54 [vR r, vI 7] [] w942 Q
  refine WP.blk 1 ?_
  show WP 2 26 55 [vR r, vI 7] [vR r] w942 Q
  refine WP.blk 1 ?_
  show (ty w942 r = 5 ∧ gr w942 r 0 ≠ 0) ∧ WP 2 26 58 [vR r, vI 7] [vR (gr w942 r 0)] w942 Q
  refine ⟨⟨f956, by rw [f958]; exact Nat.succ_ne_zero _⟩, ?_⟩
  rw [f958]
  refine WP.blk 1 ?_
  show WP 2 26 59 [vR r, vI 7] [vI 7, vR (r + 1)] w942 Q
  refine WP.blk 1 ?_
  show WP 2 26 62 [vR r, vI 7] [vR (nx w942), vI 7, vR (r + 1)] (mk w942 4 6) Q
  rw [n987]
  obtain ⟨w991, hw991⟩ : ∃ y9, y9 = mk w942 4 6 := ⟨_, rfl⟩
  rw [← hw991]
  have A992 : ∀ q, q ≠ r + 34 → gi w991 q = gi w942 q ∧ gr w991 q = gr w942 q ∧ ty w991 q = ty w942 q ∧ ln w991 q = ln w942 q := fun q hq => by rw [hw991]; exact mk_o (by rw [n987]; exact hq)
  have f993 : ty w991 (r + 2) = 15 := (A992 _ (nek r 2 34 rfl)).2.2.1.trans f944
  have f994 : ln w991 (r + 2) = 7 := (A992 _ (nek r 2 34 rfl)).2.2.2.trans f945
  have f995 : gi w991 (r + 2) = (fun _ => 0) := (A992 _ (nek r 2 34 rfl)).1.trans f946
  have f996 : ty w991 (r + 3) = 11 := (A992 _ (nek r 3 34 rfl)).2.2.1.trans f947
  have f997 : ln w991 (r + 3) = 7 := (A992 _ (nek r 3 34 rfl)).2.2.2.trans f948
  have f998 : gi w991 (r + 3) = (fun _ => 0) := (A992 _ (nek r 3 34 rfl)).1.trans f949
  have f999 : ty w991 (r + 4) = 11 := (A992 _ (nek r 4 34 rfl)).2.2.1.trans f950
  have f1000 : ln w991 (r + 4) = 7 := (A992 _ (nek r 4 34 rfl)).2.2.2.trans f951
  have f1001 : gi w991 (r + 4) = (fun _ => 0) := (A992 _ (nek r 4 34 rfl)).1.trans f952
  have f1002 : ty w991 (r + 5) = 11 := (A992 _ (nek r 5 34 rfl)).2.2.1.trans f953
  have f1003 : ln w991 (r + 5) = 7 := (A992 _ (nek r 5 34 rfl)).2.2.2.trans f954
  have f1004 : gi w991 (r + 5) = (fun _ => 0) := (A992 _ (nek r 5 34 rfl)).1.trans f955
  have f1005 : ty w991 r = 5 := (A992 _ (nek r 0 34 rfl)).2.2.1.trans f956
  have f1006 : gi w991 r = (fun _ => 0) := (A992 _ (nek r 0 34 rfl)).1.trans f957
  have f1007 : gr w991 r 0 = (r + 1) := (congrFun (A992 _ (nek r 0 34 rfl)).2.1 _).trans f958
  have f1008 : gr w991 r 1 = (r + 2) := (congrFun (A992 _ (nek r 0 34 rfl)).2.1 _).trans f959
  have f1009 : gr w991 r 2 = (r + 3) := (congrFun (A992 _ (nek r 0 34 rfl)).2.1 _).trans f960
  have f1010 : gr w991 r 3 = (r + 4) := (congrFun (A992 _ (nek r 0 34 rfl)).2.1 _).trans f961
  have f1011 : gr w991 r 4 = (r + 5) := (congrFun (A992 _ (nek r 0 34 rfl)).2.1 _).trans f962
  have f1012 : isInks w991.2 (r + 6) := inks_ag (fun q a b => A992 q (Nat.ne_of_lt (Nat.lt_of_lt_of_le b (lek r 6 4 34 rfl)))) f963
  have f1013 : ty w991 (r + 6) = 4 := (A992 _ (nek r 6 34 rfl)).2.2.1.trans f964
  have f1014 : isInks w991.2 (r + 10) := inks_ag (fun q a b => A992 q (Nat.ne_of_lt (Nat.lt_of_lt_of_le b (lek r 10 4 34 rfl)))) f965
  have f1015 : ty w991 (r + 10) = 4 := (A992 _ (nek r 10 34 rfl)).2.2.1.trans f966
  have f1016 : isInks w991.2 (r + 14) := inks_ag (fun q a b => A992 q (Nat.ne_of_lt (Nat.lt_of_lt_of_le b (lek r 14 4 34 rfl)))) f967
  have f1017 : ty w991 (r + 14) = 4 := (A992 _ (nek r 14 34 rfl)).2.2.1.trans f968
  have f1018 : isInks w991.2 (r + 18) := inks_ag (fun q a b => A992 q (Nat.ne_of_lt (Nat.lt_of_lt_of_le b (lek r 18 4 34 rfl)))) f969
  have f1019 : ty w991 (r + 18) = 4 := (A992 _ (nek r 18 34 rfl)).2.2.1.trans f970
  have f1020 : isInks w991.2 (r + 22) := inks_ag (fun q a b => A992 q (Nat.ne_of_lt (Nat.lt_of_lt_of_le b (lek r 22 4 34 rfl)))) f971
  have f1021 : ty w991 (r + 22) = 4 := (A992 _ (nek r 22 34 rfl)).2.2.1.trans f972
  have f1022 : isInks w991.2 (r + 26) := inks_ag (fun q a b => A992 q (Nat.ne_of_lt (Nat.lt_of_lt_of_le b (lek r 26 4 34 rfl)))) f973
  have f1023 : ty w991 (r + 26) = 4 := (A992 _ (nek r 26 34 rfl)).2.2.1.trans f974
  have f1024 : isInks w991.2 (r + 30) := inks_ag (fun q a b => A992 q (Nat.ne_of_lt (Nat.lt_of_lt_of_le b (lek r 30 4 34 rfl)))) f975
  have f1025 : ty w991 (r + 30) = 4 := (A992 _ (nek r 30 34 rfl)).2.2.1.trans f976
  have f1026 : ty w991 (r + 1) = 14 := (A992 _ (nek r 1 34 rfl)).2.2.1.trans f977
  have f1027 : ln w991 (r + 1) = 8 := (A992 _ (nek r 1 34 rfl)).2.2.2.trans f978
  have f1028 : gi w991 (r + 1) = (fun _ => 0) := (A992 _ (nek r 1 34 rfl)).1.trans f979
  have f1029 : gr w991 (r + 1) 0 = (r + 6) := (congrFun (A992 _ (nek r 1 34 rfl)).2.1 _).trans f980
  have f1030 : gr w991 (r + 1) 1 = (r + 10) := (congrFun (A992 _ (nek r 1 34 rfl)).2.1 _).trans f981
  have f1031 : gr w991 (r + 1) 2 = (r + 14) := (congrFun (A992 _ (nek r 1 34 rfl)).2.1 _).trans f982
  have f1032 : gr w991 (r + 1) 3 = (r + 18) := (congrFun (A992 _ (nek r 1 34 rfl)).2.1 _).trans f983
  have f1033 : gr w991 (r + 1) 4 = (r + 22) := (congrFun (A992 _ (nek r 1 34 rfl)).2.1 _).trans f984
  have f1034 : gr w991 (r + 1) 5 = (r + 26) := (congrFun (A992 _ (nek r 1 34 rfl)).2.1 _).trans f985
  have f1035 : gr w991 (r + 1) 6 = (r + 30) := (congrFun (A992 _ (nek r 1 34 rfl)).2.1 _).trans f986
  have e1036 := mk_e (w := w942) (t := 4) (n := 6)
  rw [← hw991, n987] at e1036
  have n1037 : nx w991 = r + 35 := by rw [hw991]; exact congrArg (· + 1) n987
  have u1038 : uc w991 = uc w + 34 := by rw [hw991]; exact congrArg (· + 1) u988
  have s1039 : us w991 = us w + 294 := by rw [hw991]; exact congrArg (· + 6) s989
  have g1040 : ∀ q, q < r → gi w991 q = gi w q ∧ gr w991 q = gr w q ∧ ty w991 q = ty w q ∧ ln w991 q = ln w q := fun q hq => by have a := A992 q (Nat.ne_of_lt (Nat.lt_of_lt_of_le hq (Nat.le_add_right r 34))); have b := g990 q hq; exact ⟨a.1.trans b.1, a.2.1.trans b.2.1, a.2.2.1.trans b.2.2.1, a.2.2.2.trans b.2.2.2⟩
  clear A992 f944 f945 f946 f947 f948 f949 f950 f951 f952 f953 f954 f955 f956 f957 f958 f959 f960 f961 f962 f963 f964 f965 f966 f967 f968 f969 f970 f971 f972 f973 f974 f975 f976 f977 f978 f979 f980 f981 f982 f983 f984 f985 f986 g990 hw991 n987 s989 u988
  refine WP.blk 1 ?_
  show WP 2 26 63 [vR r, vI 7] [vR (r + 34), vR (r + 34), vI 7, vR (r + 1)] w991 Q
  refine WP.cl (a := [vR (r + 34)]) (rest := [vR (r + 34), vI 7, vR (r + 1)]) rfl rfl rfl rfl trivial (by decide) (c_inks n1037 e1036.2.1 e1036.1 (fun w1041 hA1042 hni1043 hui1043 hsi1043 f1044 f1045 => ⟨rfl, ?_⟩))
  show WP 2 26 66 [vR r, vI 7] [vR (r + 34), vI 7, vR (r + 1)] w1041 Q
  have A1042 : ∀ q, q < r + 34 → gi w1041 q = gi w991 q ∧ gr w1041 q = gr w991 q ∧ ty w1041 q = ty w991 q ∧ ln w1041 q = ln w991 q := fun q hq => hA1042 q (Nat.zero_le _) hq
  have f1046 : ty w1041 (r + 2) = 15 := (A1042 _ (ltk r 2 34 rfl)).2.2.1.trans f993
  have f1047 : ln w1041 (r + 2) = 7 := (A1042 _ (ltk r 2 34 rfl)).2.2.2.trans f994
  have f1048 : gi w1041 (r + 2) = (fun _ => 0) := (A1042 _ (ltk r 2 34 rfl)).1.trans f995
  have f1049 : ty w1041 (r + 3) = 11 := (A1042 _ (ltk r 3 34 rfl)).2.2.1.trans f996
  have f1050 : ln w1041 (r + 3) = 7 := (A1042 _ (ltk r 3 34 rfl)).2.2.2.trans f997
  have f1051 : gi w1041 (r + 3) = (fun _ => 0) := (A1042 _ (ltk r 3 34 rfl)).1.trans f998
  have f1052 : ty w1041 (r + 4) = 11 := (A1042 _ (ltk r 4 34 rfl)).2.2.1.trans f999
  have f1053 : ln w1041 (r + 4) = 7 := (A1042 _ (ltk r 4 34 rfl)).2.2.2.trans f1000
  have f1054 : gi w1041 (r + 4) = (fun _ => 0) := (A1042 _ (ltk r 4 34 rfl)).1.trans f1001
  have f1055 : ty w1041 (r + 5) = 11 := (A1042 _ (ltk r 5 34 rfl)).2.2.1.trans f1002
  have f1056 : ln w1041 (r + 5) = 7 := (A1042 _ (ltk r 5 34 rfl)).2.2.2.trans f1003
  have f1057 : gi w1041 (r + 5) = (fun _ => 0) := (A1042 _ (ltk r 5 34 rfl)).1.trans f1004
  have f1058 : ty w1041 r = 5 := (A1042 _ (ltk r 0 34 rfl)).2.2.1.trans f1005
  have f1059 : gi w1041 r = (fun _ => 0) := (A1042 _ (ltk r 0 34 rfl)).1.trans f1006
  have f1060 : gr w1041 r 0 = (r + 1) := (congrFun (A1042 _ (ltk r 0 34 rfl)).2.1 _).trans f1007
  have f1061 : gr w1041 r 1 = (r + 2) := (congrFun (A1042 _ (ltk r 0 34 rfl)).2.1 _).trans f1008
  have f1062 : gr w1041 r 2 = (r + 3) := (congrFun (A1042 _ (ltk r 0 34 rfl)).2.1 _).trans f1009
  have f1063 : gr w1041 r 3 = (r + 4) := (congrFun (A1042 _ (ltk r 0 34 rfl)).2.1 _).trans f1010
  have f1064 : gr w1041 r 4 = (r + 5) := (congrFun (A1042 _ (ltk r 0 34 rfl)).2.1 _).trans f1011
  have f1065 : isInks w1041.2 (r + 6) := inks_ag (fun q a b => A1042 q (Nat.lt_of_lt_of_le b (lek r 6 4 34 rfl))) f1012
  have f1066 : ty w1041 (r + 6) = 4 := (A1042 _ (ltk r 6 34 rfl)).2.2.1.trans f1013
  have f1067 : isInks w1041.2 (r + 10) := inks_ag (fun q a b => A1042 q (Nat.lt_of_lt_of_le b (lek r 10 4 34 rfl))) f1014
  have f1068 : ty w1041 (r + 10) = 4 := (A1042 _ (ltk r 10 34 rfl)).2.2.1.trans f1015
  have f1069 : isInks w1041.2 (r + 14) := inks_ag (fun q a b => A1042 q (Nat.lt_of_lt_of_le b (lek r 14 4 34 rfl))) f1016
  have f1070 : ty w1041 (r + 14) = 4 := (A1042 _ (ltk r 14 34 rfl)).2.2.1.trans f1017
  have f1071 : isInks w1041.2 (r + 18) := inks_ag (fun q a b => A1042 q (Nat.lt_of_lt_of_le b (lek r 18 4 34 rfl))) f1018
  have f1072 : ty w1041 (r + 18) = 4 := (A1042 _ (ltk r 18 34 rfl)).2.2.1.trans f1019
  have f1073 : isInks w1041.2 (r + 22) := inks_ag (fun q a b => A1042 q (Nat.lt_of_lt_of_le b (lek r 22 4 34 rfl))) f1020
  have f1074 : ty w1041 (r + 22) = 4 := (A1042 _ (ltk r 22 34 rfl)).2.2.1.trans f1021
  have f1075 : isInks w1041.2 (r + 26) := inks_ag (fun q a b => A1042 q (Nat.lt_of_lt_of_le b (lek r 26 4 34 rfl))) f1022
  have f1076 : ty w1041 (r + 26) = 4 := (A1042 _ (ltk r 26 34 rfl)).2.2.1.trans f1023
  have f1077 : isInks w1041.2 (r + 30) := inks_ag (fun q a b => A1042 q (Nat.lt_of_lt_of_le b (lek r 30 4 34 rfl))) f1024
  have f1078 : ty w1041 (r + 30) = 4 := (A1042 _ (ltk r 30 34 rfl)).2.2.1.trans f1025
  have f1079 : ty w1041 (r + 1) = 14 := (A1042 _ (ltk r 1 34 rfl)).2.2.1.trans f1026
  have f1080 : ln w1041 (r + 1) = 8 := (A1042 _ (ltk r 1 34 rfl)).2.2.2.trans f1027
  have f1081 : gi w1041 (r + 1) = (fun _ => 0) := (A1042 _ (ltk r 1 34 rfl)).1.trans f1028
  have f1082 : gr w1041 (r + 1) 0 = (r + 6) := (congrFun (A1042 _ (ltk r 1 34 rfl)).2.1 _).trans f1029
  have f1083 : gr w1041 (r + 1) 1 = (r + 10) := (congrFun (A1042 _ (ltk r 1 34 rfl)).2.1 _).trans f1030
  have f1084 : gr w1041 (r + 1) 2 = (r + 14) := (congrFun (A1042 _ (ltk r 1 34 rfl)).2.1 _).trans f1031
  have f1085 : gr w1041 (r + 1) 3 = (r + 18) := (congrFun (A1042 _ (ltk r 1 34 rfl)).2.1 _).trans f1032
  have f1086 : gr w1041 (r + 1) 4 = (r + 22) := (congrFun (A1042 _ (ltk r 1 34 rfl)).2.1 _).trans f1033
  have f1087 : gr w1041 (r + 1) 5 = (r + 26) := (congrFun (A1042 _ (ltk r 1 34 rfl)).2.1 _).trans f1034
  have f1088 : gr w1041 (r + 1) 6 = (r + 30) := (congrFun (A1042 _ (ltk r 1 34 rfl)).2.1 _).trans f1035
  have ni1043 : nx w1041 = r + 38 := hni1043
  have ui1043 : uc w1041 = uc w + 37 := hui1043.trans (congrArg (· + 3) u1038)
  have si1043 : us w1041 = us w + 324 := hsi1043.trans (congrArg (· + 30) s1039)
  have g1089 : ∀ q, q < r → gi w1041 q = gi w q ∧ gr w1041 q = gr w q ∧ ty w1041 q = ty w q ∧ ln w1041 q = ln w q := fun q hq => by have a := A1042 q (Nat.lt_of_lt_of_le hq (Nat.le_add_right r 34)); have b := g1040 q hq; exact ⟨a.1.trans b.1, a.2.1.trans b.2.1, a.2.2.1.trans b.2.2.1, a.2.2.2.trans b.2.2.2⟩
  clear A1042 e1036 f1000 f1001 f1002 f1003 f1004 f1005 f1006 f1007 f1008 f1009 f1010 f1011 f1012 f1013 f1014 f1015 f1016 f1017 f1018 f1019 f1020 f1021 f1022 f1023 f1024 f1025 f1026 f1027 f1028 f1029 f1030 f1031 f1032 f1033 f1034 f1035 f993 f994 f995 f996 f997 f998 f999 g1040 hA1042 hni1043 hsi1043 hui1043 n1037 s1039 u1038
  refine WP.blk 1 ?_
  show (ref3 (ty w1041 (r + 1)) ∧ 0 ≤ (7 : Int) ∧ (7 : Int) < (ln w1041 (r + 1) : Int) ∧ ty w1041 (r + 34) = el3 (ty w1041 (r + 1))) ∧ WP 2 26 67 [vR r, vI 7] [] (sr w1041 (r + 1) 7 (r + 34)) Q
  refine ⟨⟨Or.inr (Or.inl f1079), by decide, by rw [f1080]; decide, by rw [f1079]; exact f1044.1⟩, ?_⟩
  obtain ⟨w1090, hw1090⟩ : ∃ y9, y9 = sr w1041 (r + 1) 7 (r + 34) := ⟨_, rfl⟩
  rw [← hw1090]
  have A1091 : ∀ q, q ≠ r + 1 → gi w1090 q = gi w1041 q ∧ gr w1090 q = gr w1041 q ∧ ty w1090 q = ty w1041 q ∧ ln w1090 q = ln w1041 q := fun q hq => by rw [hw1090]; exact sr_o hq
  have f1092 : ty w1090 (r + 2) = 15 := (A1091 _ (nek r 2 1 rfl)).2.2.1.trans f1046
  have f1093 : ln w1090 (r + 2) = 7 := (A1091 _ (nek r 2 1 rfl)).2.2.2.trans f1047
  have f1094 : gi w1090 (r + 2) = (fun _ => 0) := (A1091 _ (nek r 2 1 rfl)).1.trans f1048
  have f1095 : ty w1090 (r + 3) = 11 := (A1091 _ (nek r 3 1 rfl)).2.2.1.trans f1049
  have f1096 : ln w1090 (r + 3) = 7 := (A1091 _ (nek r 3 1 rfl)).2.2.2.trans f1050
  have f1097 : gi w1090 (r + 3) = (fun _ => 0) := (A1091 _ (nek r 3 1 rfl)).1.trans f1051
  have f1098 : ty w1090 (r + 4) = 11 := (A1091 _ (nek r 4 1 rfl)).2.2.1.trans f1052
  have f1099 : ln w1090 (r + 4) = 7 := (A1091 _ (nek r 4 1 rfl)).2.2.2.trans f1053
  have f1100 : gi w1090 (r + 4) = (fun _ => 0) := (A1091 _ (nek r 4 1 rfl)).1.trans f1054
  have f1101 : ty w1090 (r + 5) = 11 := (A1091 _ (nek r 5 1 rfl)).2.2.1.trans f1055
  have f1102 : ln w1090 (r + 5) = 7 := (A1091 _ (nek r 5 1 rfl)).2.2.2.trans f1056
  have f1103 : gi w1090 (r + 5) = (fun _ => 0) := (A1091 _ (nek r 5 1 rfl)).1.trans f1057
  have f1104 : ty w1090 r = 5 := (A1091 _ (nek r 0 1 rfl)).2.2.1.trans f1058
  have f1105 : gi w1090 r = (fun _ => 0) := (A1091 _ (nek r 0 1 rfl)).1.trans f1059
  have f1106 : gr w1090 r 0 = (r + 1) := (congrFun (A1091 _ (nek r 0 1 rfl)).2.1 _).trans f1060
  have f1107 : gr w1090 r 1 = (r + 2) := (congrFun (A1091 _ (nek r 0 1 rfl)).2.1 _).trans f1061
  have f1108 : gr w1090 r 2 = (r + 3) := (congrFun (A1091 _ (nek r 0 1 rfl)).2.1 _).trans f1062
  have f1109 : gr w1090 r 3 = (r + 4) := (congrFun (A1091 _ (nek r 0 1 rfl)).2.1 _).trans f1063
  have f1110 : gr w1090 r 4 = (r + 5) := (congrFun (A1091 _ (nek r 0 1 rfl)).2.1 _).trans f1064
  have f1111 : isInks w1090.2 (r + 6) := inks_ag (fun q a b => A1091 q (Nat.ne_of_gt (Nat.lt_of_lt_of_le (ltk r 1 6 rfl) a))) f1065
  have f1112 : ty w1090 (r + 6) = 4 := (A1091 _ (nek r 6 1 rfl)).2.2.1.trans f1066
  have f1113 : isInks w1090.2 (r + 10) := inks_ag (fun q a b => A1091 q (Nat.ne_of_gt (Nat.lt_of_lt_of_le (ltk r 1 10 rfl) a))) f1067
  have f1114 : ty w1090 (r + 10) = 4 := (A1091 _ (nek r 10 1 rfl)).2.2.1.trans f1068
  have f1115 : isInks w1090.2 (r + 14) := inks_ag (fun q a b => A1091 q (Nat.ne_of_gt (Nat.lt_of_lt_of_le (ltk r 1 14 rfl) a))) f1069
  have f1116 : ty w1090 (r + 14) = 4 := (A1091 _ (nek r 14 1 rfl)).2.2.1.trans f1070
  have f1117 : isInks w1090.2 (r + 18) := inks_ag (fun q a b => A1091 q (Nat.ne_of_gt (Nat.lt_of_lt_of_le (ltk r 1 18 rfl) a))) f1071
  have f1118 : ty w1090 (r + 18) = 4 := (A1091 _ (nek r 18 1 rfl)).2.2.1.trans f1072
  have f1119 : isInks w1090.2 (r + 22) := inks_ag (fun q a b => A1091 q (Nat.ne_of_gt (Nat.lt_of_lt_of_le (ltk r 1 22 rfl) a))) f1073
  have f1120 : ty w1090 (r + 22) = 4 := (A1091 _ (nek r 22 1 rfl)).2.2.1.trans f1074
  have f1121 : isInks w1090.2 (r + 26) := inks_ag (fun q a b => A1091 q (Nat.ne_of_gt (Nat.lt_of_lt_of_le (ltk r 1 26 rfl) a))) f1075
  have f1122 : ty w1090 (r + 26) = 4 := (A1091 _ (nek r 26 1 rfl)).2.2.1.trans f1076
  have f1123 : isInks w1090.2 (r + 30) := inks_ag (fun q a b => A1091 q (Nat.ne_of_gt (Nat.lt_of_lt_of_le (ltk r 1 30 rfl) a))) f1077
  have f1124 : ty w1090 (r + 30) = 4 := (A1091 _ (nek r 30 1 rfl)).2.2.1.trans f1078
  have f1125 : isInks w1090.2 (r + 34) := inks_ag (fun q a b => A1091 q (Nat.ne_of_gt (Nat.lt_of_lt_of_le (ltk r 1 34 rfl) a))) f1044
  have f1126 : ty w1090 (r + 34) = 4 := (A1091 _ (nek r 34 1 rfl)).2.2.1.trans f1044.1
  have f1127 : ty w1090 (r + 1) = 14 := by rw [hw1090]; exact f1079
  have f1128 : ln w1090 (r + 1) = 8 := by rw [hw1090]; exact f1080
  have f1129 : gi w1090 (r + 1) = (fun _ => 0) := by rw [hw1090]; exact f1081
  have f1130 : gr w1090 (r + 1) 0 = (r + 6) := by rw [hw1090]; exact (sr_k (by decide)).trans f1082
  have f1131 : gr w1090 (r + 1) 1 = (r + 10) := by rw [hw1090]; exact (sr_k (by decide)).trans f1083
  have f1132 : gr w1090 (r + 1) 2 = (r + 14) := by rw [hw1090]; exact (sr_k (by decide)).trans f1084
  have f1133 : gr w1090 (r + 1) 3 = (r + 18) := by rw [hw1090]; exact (sr_k (by decide)).trans f1085
  have f1134 : gr w1090 (r + 1) 4 = (r + 22) := by rw [hw1090]; exact (sr_k (by decide)).trans f1086
  have f1135 : gr w1090 (r + 1) 5 = (r + 26) := by rw [hw1090]; exact (sr_k (by decide)).trans f1087
  have f1136 : gr w1090 (r + 1) 6 = (r + 30) := by rw [hw1090]; exact (sr_k (by decide)).trans f1088
  have f1137 : gr w1090 (r + 1) 7 = (r + 34) := by rw [hw1090]; exact sr_e
  have n1138 : nx w1090 = r + 38 := by rw [hw1090]; exact ni1043
  have u1139 : uc w1090 = uc w + 37 := by rw [hw1090]; exact ui1043
  have s1140 : us w1090 = us w + 324 := by rw [hw1090]; exact si1043
  have g1141 : ∀ q, q < r → gi w1090 q = gi w q ∧ gr w1090 q = gr w q ∧ ty w1090 q = ty w q ∧ ln w1090 q = ln w q := fun q hq => by have a := A1091 q (Nat.ne_of_lt (Nat.lt_of_lt_of_le hq (Nat.le_add_right r 1))); have b := g1089 q hq; exact ⟨a.1.trans b.1, a.2.1.trans b.2.1, a.2.2.1.trans b.2.2.1, a.2.2.2.trans b.2.2.2⟩
  clear A1091 f1044 f1045 f1046 f1047 f1048 f1049 f1050 f1051 f1052 f1053 f1054 f1055 f1056 f1057 f1058 f1059 f1060 f1061 f1062 f1063 f1064 f1065 f1066 f1067 f1068 f1069 f1070 f1071 f1072 f1073 f1074 f1075 f1076 f1077 f1078 f1079 f1080 f1081 f1082 f1083 f1084 f1085 f1086 f1087 f1088 g1089 hw1090 ni1043 si1043 ui1043
  refine WP.blk 1 ?_
  show ir (7 + 1) ∧ WP 2 26 70 [vR r, vI 8] [] w1090 Q
  refine ⟨⟨by decide, by decide⟩, ?_⟩
  refine WP.blk 1 ?_
  show WP 2 26 48 [vR r, vI 8] [] w1090 Q
  refine WP.blk 1 ?_
  show WP 2 26 49 [vR r, vI 8] [vI 8] w1090 Q
  refine WP.blk 1 ?_
  show WP 2 26 51 [vR r, vI 8] [vI 7, vI 8] w1090 Q
  refine WP.blk 1 ?_
  show WP 2 26 73 [vR r, vI 8] [] w1090 Q
  refine WP.blk 1 ?_
  show WP 2 26 74 [vR r, vI 8] [vI 0] w1090 Q
  refine WP.blk 1 ?_
  show WP 2 26 75 [vR r, vI 0] [] w1090 Q
  refine WP.blk 1 ?_
  show WP 2 26 76 [vR r, vI 0] [vI 0] w1090 Q
  refine WP.blk 1 ?_
  show WP 2 26 78 [vR r, vI 0] [vI 7, vI 0] w1090 Q
  refine WP.blk 1 ?_
  show WP 2 26 81 [vR r, vI 0] [] w1090 Q
  refine WP.blk 1 ?_
  show WP 2 26 82 [vR r, vI 0] [vR r] w1090 Q
  refine WP.blk 1 ?_
  show (ty w1090 r = 5 ∧ gr w1090 r 1 ≠ 0) ∧ WP 2 26 85 [vR r, vI 0] [vR (gr w1090 r 1)] w1090 Q
  refine ⟨⟨f1104, by rw [f1107]; exact Nat.succ_ne_zero _⟩, ?_⟩
  rw [f1107]
  refine WP.blk 1 ?_
  show WP 2 26 86 [vR r, vI 0] [vI 0, vR (r + 2)] w1090 Q
  refine WP.blk 1 ?_
  show WP 2 26 89 [vR r, vI 0] [vR (nx w1090), vI 0, vR (r + 2)] (mk w1090 6 4) Q
  rw [n1138]
  obtain ⟨w1142, hw1142⟩ : ∃ y9, y9 = mk w1090 6 4 := ⟨_, rfl⟩
  rw [← hw1142]
  have A1143 : ∀ q, q ≠ r + 38 → gi w1142 q = gi w1090 q ∧ gr w1142 q = gr w1090 q ∧ ty w1142 q = ty w1090 q ∧ ln w1142 q = ln w1090 q := fun q hq => by rw [hw1142]; exact mk_o (by rw [n1138]; exact hq)
  have f1144 : ty w1142 (r + 2) = 15 := (A1143 _ (nek r 2 38 rfl)).2.2.1.trans f1092
  have f1145 : ln w1142 (r + 2) = 7 := (A1143 _ (nek r 2 38 rfl)).2.2.2.trans f1093
  have f1146 : gi w1142 (r + 2) = (fun _ => 0) := (A1143 _ (nek r 2 38 rfl)).1.trans f1094
  have f1147 : ty w1142 (r + 3) = 11 := (A1143 _ (nek r 3 38 rfl)).2.2.1.trans f1095
  have f1148 : ln w1142 (r + 3) = 7 := (A1143 _ (nek r 3 38 rfl)).2.2.2.trans f1096
  have f1149 : gi w1142 (r + 3) = (fun _ => 0) := (A1143 _ (nek r 3 38 rfl)).1.trans f1097
  have f1150 : ty w1142 (r + 4) = 11 := (A1143 _ (nek r 4 38 rfl)).2.2.1.trans f1098
  have f1151 : ln w1142 (r + 4) = 7 := (A1143 _ (nek r 4 38 rfl)).2.2.2.trans f1099
  have f1152 : gi w1142 (r + 4) = (fun _ => 0) := (A1143 _ (nek r 4 38 rfl)).1.trans f1100
  have f1153 : ty w1142 (r + 5) = 11 := (A1143 _ (nek r 5 38 rfl)).2.2.1.trans f1101
  have f1154 : ln w1142 (r + 5) = 7 := (A1143 _ (nek r 5 38 rfl)).2.2.2.trans f1102
  have f1155 : gi w1142 (r + 5) = (fun _ => 0) := (A1143 _ (nek r 5 38 rfl)).1.trans f1103
  have f1156 : ty w1142 r = 5 := (A1143 _ (nek r 0 38 rfl)).2.2.1.trans f1104
  have f1157 : gi w1142 r = (fun _ => 0) := (A1143 _ (nek r 0 38 rfl)).1.trans f1105
  have f1158 : gr w1142 r 0 = (r + 1) := (congrFun (A1143 _ (nek r 0 38 rfl)).2.1 _).trans f1106
  have f1159 : gr w1142 r 1 = (r + 2) := (congrFun (A1143 _ (nek r 0 38 rfl)).2.1 _).trans f1107
  have f1160 : gr w1142 r 2 = (r + 3) := (congrFun (A1143 _ (nek r 0 38 rfl)).2.1 _).trans f1108
  have f1161 : gr w1142 r 3 = (r + 4) := (congrFun (A1143 _ (nek r 0 38 rfl)).2.1 _).trans f1109
  have f1162 : gr w1142 r 4 = (r + 5) := (congrFun (A1143 _ (nek r 0 38 rfl)).2.1 _).trans f1110
  have f1163 : isInks w1142.2 (r + 6) := inks_ag (fun q a b => A1143 q (Nat.ne_of_lt (Nat.lt_of_lt_of_le b (lek r 6 4 38 rfl)))) f1111
  have f1164 : ty w1142 (r + 6) = 4 := (A1143 _ (nek r 6 38 rfl)).2.2.1.trans f1112
  have f1165 : isInks w1142.2 (r + 10) := inks_ag (fun q a b => A1143 q (Nat.ne_of_lt (Nat.lt_of_lt_of_le b (lek r 10 4 38 rfl)))) f1113
  have f1166 : ty w1142 (r + 10) = 4 := (A1143 _ (nek r 10 38 rfl)).2.2.1.trans f1114
  have f1167 : isInks w1142.2 (r + 14) := inks_ag (fun q a b => A1143 q (Nat.ne_of_lt (Nat.lt_of_lt_of_le b (lek r 14 4 38 rfl)))) f1115
  have f1168 : ty w1142 (r + 14) = 4 := (A1143 _ (nek r 14 38 rfl)).2.2.1.trans f1116
  have f1169 : isInks w1142.2 (r + 18) := inks_ag (fun q a b => A1143 q (Nat.ne_of_lt (Nat.lt_of_lt_of_le b (lek r 18 4 38 rfl)))) f1117
  have f1170 : ty w1142 (r + 18) = 4 := (A1143 _ (nek r 18 38 rfl)).2.2.1.trans f1118
  have f1171 : isInks w1142.2 (r + 22) := inks_ag (fun q a b => A1143 q (Nat.ne_of_lt (Nat.lt_of_lt_of_le b (lek r 22 4 38 rfl)))) f1119
  have f1172 : ty w1142 (r + 22) = 4 := (A1143 _ (nek r 22 38 rfl)).2.2.1.trans f1120
  have f1173 : isInks w1142.2 (r + 26) := inks_ag (fun q a b => A1143 q (Nat.ne_of_lt (Nat.lt_of_lt_of_le b (lek r 26 4 38 rfl)))) f1121
  have f1174 : ty w1142 (r + 26) = 4 := (A1143 _ (nek r 26 38 rfl)).2.2.1.trans f1122
  have f1175 : isInks w1142.2 (r + 30) := inks_ag (fun q a b => A1143 q (Nat.ne_of_lt (Nat.lt_of_lt_of_le b (lek r 30 4 38 rfl)))) f1123
  have f1176 : ty w1142 (r + 30) = 4 := (A1143 _ (nek r 30 38 rfl)).2.2.1.trans f1124
  have f1177 : isInks w1142.2 (r + 34) := inks_ag (fun q a b => A1143 q (Nat.ne_of_lt (Nat.lt_of_lt_of_le b (lek r 34 4 38 rfl)))) f1125
  have f1178 : ty w1142 (r + 34) = 4 := (A1143 _ (nek r 34 38 rfl)).2.2.1.trans f1126
  have f1179 : ty w1142 (r + 1) = 14 := (A1143 _ (nek r 1 38 rfl)).2.2.1.trans f1127
  have f1180 : ln w1142 (r + 1) = 8 := (A1143 _ (nek r 1 38 rfl)).2.2.2.trans f1128
  have f1181 : gi w1142 (r + 1) = (fun _ => 0) := (A1143 _ (nek r 1 38 rfl)).1.trans f1129
  have f1182 : gr w1142 (r + 1) 0 = (r + 6) := (congrFun (A1143 _ (nek r 1 38 rfl)).2.1 _).trans f1130
  have f1183 : gr w1142 (r + 1) 1 = (r + 10) := (congrFun (A1143 _ (nek r 1 38 rfl)).2.1 _).trans f1131
  have f1184 : gr w1142 (r + 1) 2 = (r + 14) := (congrFun (A1143 _ (nek r 1 38 rfl)).2.1 _).trans f1132
  have f1185 : gr w1142 (r + 1) 3 = (r + 18) := (congrFun (A1143 _ (nek r 1 38 rfl)).2.1 _).trans f1133
  have f1186 : gr w1142 (r + 1) 4 = (r + 22) := (congrFun (A1143 _ (nek r 1 38 rfl)).2.1 _).trans f1134
  have f1187 : gr w1142 (r + 1) 5 = (r + 26) := (congrFun (A1143 _ (nek r 1 38 rfl)).2.1 _).trans f1135
  have f1188 : gr w1142 (r + 1) 6 = (r + 30) := (congrFun (A1143 _ (nek r 1 38 rfl)).2.1 _).trans f1136
  have f1189 : gr w1142 (r + 1) 7 = (r + 34) := (congrFun (A1143 _ (nek r 1 38 rfl)).2.1 _).trans f1137
  have e1190 := mk_e (w := w1090) (t := 6) (n := 4)
  rw [← hw1142, n1138] at e1190
  have n1191 : nx w1142 = r + 39 := by rw [hw1142]; exact congrArg (· + 1) n1138
  have u1192 : uc w1142 = uc w + 38 := by rw [hw1142]; exact congrArg (· + 1) u1139
  have s1193 : us w1142 = us w + 328 := by rw [hw1142]; exact congrArg (· + 4) s1140
  have g1194 : ∀ q, q < r → gi w1142 q = gi w q ∧ gr w1142 q = gr w q ∧ ty w1142 q = ty w q ∧ ln w1142 q = ln w q := fun q hq => by have a := A1143 q (Nat.ne_of_lt (Nat.lt_of_lt_of_le hq (Nat.le_add_right r 38))); have b := g1141 q hq; exact ⟨a.1.trans b.1, a.2.1.trans b.2.1, a.2.2.1.trans b.2.2.1, a.2.2.2.trans b.2.2.2⟩
  clear A1143 f1092 f1093 f1094 f1095 f1096 f1097 f1098 f1099 f1100 f1101 f1102 f1103 f1104 f1105 f1106 f1107 f1108 f1109 f1110 f1111 f1112 f1113 f1114 f1115 f1116 f1117 f1118 f1119 f1120 f1121 f1122 f1123 f1124 f1125 f1126 f1127 f1128 f1129 f1130 f1131 f1132 f1133 f1134 f1135 f1136 f1137 g1141 hw1142 n1138 s1140 u1139
  refine WP.blk 1 ?_
  show WP 2 26 90 [vR r, vI 0] [vR (r + 38), vR (r + 38), vI 0, vR (r + 2)] w1142 Q
  refine WP.cl (a := [vR (r + 38)]) (rest := [vR (r + 38), vI 0, vR (r + 2)]) rfl rfl rfl rfl trivial (by decide) (c_plan n1191 e1190.2.1 e1190.1 (fun w1195 hA1196 hni1197 hui1197 hsi1197 f1198 => ⟨rfl, ?_⟩))
  show WP 2 26 93 [vR r, vI 0] [vR (r + 38), vI 0, vR (r + 2)] w1195 Q
  have A1196 : ∀ q, q < r + 38 → gi w1195 q = gi w1142 q ∧ gr w1195 q = gr w1142 q ∧ ty w1195 q = ty w1142 q ∧ ln w1195 q = ln w1142 q := fun q hq => hA1196 q (Nat.zero_le _) hq
  have f1199 : ty w1195 (r + 2) = 15 := (A1196 _ (ltk r 2 38 rfl)).2.2.1.trans f1144
  have f1200 : ln w1195 (r + 2) = 7 := (A1196 _ (ltk r 2 38 rfl)).2.2.2.trans f1145
  have f1201 : gi w1195 (r + 2) = (fun _ => 0) := (A1196 _ (ltk r 2 38 rfl)).1.trans f1146
  have f1202 : ty w1195 (r + 3) = 11 := (A1196 _ (ltk r 3 38 rfl)).2.2.1.trans f1147
  have f1203 : ln w1195 (r + 3) = 7 := (A1196 _ (ltk r 3 38 rfl)).2.2.2.trans f1148
  have f1204 : gi w1195 (r + 3) = (fun _ => 0) := (A1196 _ (ltk r 3 38 rfl)).1.trans f1149
  have f1205 : ty w1195 (r + 4) = 11 := (A1196 _ (ltk r 4 38 rfl)).2.2.1.trans f1150
  have f1206 : ln w1195 (r + 4) = 7 := (A1196 _ (ltk r 4 38 rfl)).2.2.2.trans f1151
  have f1207 : gi w1195 (r + 4) = (fun _ => 0) := (A1196 _ (ltk r 4 38 rfl)).1.trans f1152
  have f1208 : ty w1195 (r + 5) = 11 := (A1196 _ (ltk r 5 38 rfl)).2.2.1.trans f1153
  have f1209 : ln w1195 (r + 5) = 7 := (A1196 _ (ltk r 5 38 rfl)).2.2.2.trans f1154
  have f1210 : gi w1195 (r + 5) = (fun _ => 0) := (A1196 _ (ltk r 5 38 rfl)).1.trans f1155
  have f1211 : ty w1195 r = 5 := (A1196 _ (ltk r 0 38 rfl)).2.2.1.trans f1156
  have f1212 : gi w1195 r = (fun _ => 0) := (A1196 _ (ltk r 0 38 rfl)).1.trans f1157
  have f1213 : gr w1195 r 0 = (r + 1) := (congrFun (A1196 _ (ltk r 0 38 rfl)).2.1 _).trans f1158
  have f1214 : gr w1195 r 1 = (r + 2) := (congrFun (A1196 _ (ltk r 0 38 rfl)).2.1 _).trans f1159
  have f1215 : gr w1195 r 2 = (r + 3) := (congrFun (A1196 _ (ltk r 0 38 rfl)).2.1 _).trans f1160
  have f1216 : gr w1195 r 3 = (r + 4) := (congrFun (A1196 _ (ltk r 0 38 rfl)).2.1 _).trans f1161
  have f1217 : gr w1195 r 4 = (r + 5) := (congrFun (A1196 _ (ltk r 0 38 rfl)).2.1 _).trans f1162
  have f1218 : isInks w1195.2 (r + 6) := inks_ag (fun q a b => A1196 q (Nat.lt_of_lt_of_le b (lek r 6 4 38 rfl))) f1163
  have f1219 : ty w1195 (r + 6) = 4 := (A1196 _ (ltk r 6 38 rfl)).2.2.1.trans f1164
  have f1220 : isInks w1195.2 (r + 10) := inks_ag (fun q a b => A1196 q (Nat.lt_of_lt_of_le b (lek r 10 4 38 rfl))) f1165
  have f1221 : ty w1195 (r + 10) = 4 := (A1196 _ (ltk r 10 38 rfl)).2.2.1.trans f1166
  have f1222 : isInks w1195.2 (r + 14) := inks_ag (fun q a b => A1196 q (Nat.lt_of_lt_of_le b (lek r 14 4 38 rfl))) f1167
  have f1223 : ty w1195 (r + 14) = 4 := (A1196 _ (ltk r 14 38 rfl)).2.2.1.trans f1168
  have f1224 : isInks w1195.2 (r + 18) := inks_ag (fun q a b => A1196 q (Nat.lt_of_lt_of_le b (lek r 18 4 38 rfl))) f1169
  have f1225 : ty w1195 (r + 18) = 4 := (A1196 _ (ltk r 18 38 rfl)).2.2.1.trans f1170
  have f1226 : isInks w1195.2 (r + 22) := inks_ag (fun q a b => A1196 q (Nat.lt_of_lt_of_le b (lek r 22 4 38 rfl))) f1171
  have f1227 : ty w1195 (r + 22) = 4 := (A1196 _ (ltk r 22 38 rfl)).2.2.1.trans f1172
  have f1228 : isInks w1195.2 (r + 26) := inks_ag (fun q a b => A1196 q (Nat.lt_of_lt_of_le b (lek r 26 4 38 rfl))) f1173
  have f1229 : ty w1195 (r + 26) = 4 := (A1196 _ (ltk r 26 38 rfl)).2.2.1.trans f1174
  have f1230 : isInks w1195.2 (r + 30) := inks_ag (fun q a b => A1196 q (Nat.lt_of_lt_of_le b (lek r 30 4 38 rfl))) f1175
  have f1231 : ty w1195 (r + 30) = 4 := (A1196 _ (ltk r 30 38 rfl)).2.2.1.trans f1176
  have f1232 : isInks w1195.2 (r + 34) := inks_ag (fun q a b => A1196 q (Nat.lt_of_lt_of_le b (lek r 34 4 38 rfl))) f1177
  have f1233 : ty w1195 (r + 34) = 4 := (A1196 _ (ltk r 34 38 rfl)).2.2.1.trans f1178
  have f1234 : ty w1195 (r + 1) = 14 := (A1196 _ (ltk r 1 38 rfl)).2.2.1.trans f1179
  have f1235 : ln w1195 (r + 1) = 8 := (A1196 _ (ltk r 1 38 rfl)).2.2.2.trans f1180
  have f1236 : gi w1195 (r + 1) = (fun _ => 0) := (A1196 _ (ltk r 1 38 rfl)).1.trans f1181
  have f1237 : gr w1195 (r + 1) 0 = (r + 6) := (congrFun (A1196 _ (ltk r 1 38 rfl)).2.1 _).trans f1182
  have f1238 : gr w1195 (r + 1) 1 = (r + 10) := (congrFun (A1196 _ (ltk r 1 38 rfl)).2.1 _).trans f1183
  have f1239 : gr w1195 (r + 1) 2 = (r + 14) := (congrFun (A1196 _ (ltk r 1 38 rfl)).2.1 _).trans f1184
  have f1240 : gr w1195 (r + 1) 3 = (r + 18) := (congrFun (A1196 _ (ltk r 1 38 rfl)).2.1 _).trans f1185
  have f1241 : gr w1195 (r + 1) 4 = (r + 22) := (congrFun (A1196 _ (ltk r 1 38 rfl)).2.1 _).trans f1186
  have f1242 : gr w1195 (r + 1) 5 = (r + 26) := (congrFun (A1196 _ (ltk r 1 38 rfl)).2.1 _).trans f1187
  have f1243 : gr w1195 (r + 1) 6 = (r + 30) := (congrFun (A1196 _ (ltk r 1 38 rfl)).2.1 _).trans f1188
  have f1244 : gr w1195 (r + 1) 7 = (r + 34) := (congrFun (A1196 _ (ltk r 1 38 rfl)).2.1 _).trans f1189
  have ni1197 : nx w1195 = r + 42 := hni1197
  have ui1197 : uc w1195 = uc w + 41 := hui1197.trans (congrArg (· + 3) u1192)
  have si1197 : us w1195 = us w + 363 := hsi1197.trans (congrArg (· + 35) s1193)
  have g1245 : ∀ q, q < r → gi w1195 q = gi w q ∧ gr w1195 q = gr w q ∧ ty w1195 q = ty w q ∧ ln w1195 q = ln w q := fun q hq => by have a := A1196 q (Nat.lt_of_lt_of_le hq (Nat.le_add_right r 38)); have b := g1194 q hq; exact ⟨a.1.trans b.1, a.2.1.trans b.2.1, a.2.2.1.trans b.2.2.1, a.2.2.2.trans b.2.2.2⟩
  clear A1196 e1190 f1144 f1145 f1146 f1147 f1148 f1149 f1150 f1151 f1152 f1153 f1154 f1155 f1156 f1157 f1158 f1159 f1160 f1161 f1162 f1163 f1164 f1165 f1166 f1167 f1168 f1169 f1170 f1171 f1172 f1173 f1174 f1175 f1176 f1177 f1178 f1179 f1180 f1181 f1182 f1183 f1184 f1185 f1186 f1187 f1188 f1189 g1194 hA1196 hni1197 hsi1197 hui1197 n1191 s1193 u1192
  refine WP.blk 1 ?_
  show (ref3 (ty w1195 (r + 2)) ∧ 0 ≤ (0 : Int) ∧ (0 : Int) < (ln w1195 (r + 2) : Int) ∧ ty w1195 (r + 38) = el3 (ty w1195 (r + 2))) ∧ WP 2 26 94 [vR r, vI 0] [] (sr w1195 (r + 2) 0 (r + 38)) Q
  refine ⟨⟨Or.inr (Or.inr f1199), by decide, by rw [f1200]; decide, by rw [f1199]; exact f1198.1⟩, ?_⟩
  obtain ⟨w1246, hw1246⟩ : ∃ y9, y9 = sr w1195 (r + 2) 0 (r + 38) := ⟨_, rfl⟩
  rw [← hw1246]
  have A1247 : ∀ q, q ≠ r + 2 → gi w1246 q = gi w1195 q ∧ gr w1246 q = gr w1195 q ∧ ty w1246 q = ty w1195 q ∧ ln w1246 q = ln w1195 q := fun q hq => by rw [hw1246]; exact sr_o hq
  have f1248 : ty w1246 (r + 3) = 11 := (A1247 _ (nek r 3 2 rfl)).2.2.1.trans f1202
  have f1249 : ln w1246 (r + 3) = 7 := (A1247 _ (nek r 3 2 rfl)).2.2.2.trans f1203
  have f1250 : gi w1246 (r + 3) = (fun _ => 0) := (A1247 _ (nek r 3 2 rfl)).1.trans f1204
  have f1251 : ty w1246 (r + 4) = 11 := (A1247 _ (nek r 4 2 rfl)).2.2.1.trans f1205
  have f1252 : ln w1246 (r + 4) = 7 := (A1247 _ (nek r 4 2 rfl)).2.2.2.trans f1206
  have f1253 : gi w1246 (r + 4) = (fun _ => 0) := (A1247 _ (nek r 4 2 rfl)).1.trans f1207
  have f1254 : ty w1246 (r + 5) = 11 := (A1247 _ (nek r 5 2 rfl)).2.2.1.trans f1208
  have f1255 : ln w1246 (r + 5) = 7 := (A1247 _ (nek r 5 2 rfl)).2.2.2.trans f1209
  have f1256 : gi w1246 (r + 5) = (fun _ => 0) := (A1247 _ (nek r 5 2 rfl)).1.trans f1210
  have f1257 : ty w1246 r = 5 := (A1247 _ (nek r 0 2 rfl)).2.2.1.trans f1211
  have f1258 : gi w1246 r = (fun _ => 0) := (A1247 _ (nek r 0 2 rfl)).1.trans f1212
  have f1259 : gr w1246 r 0 = (r + 1) := (congrFun (A1247 _ (nek r 0 2 rfl)).2.1 _).trans f1213
  have f1260 : gr w1246 r 1 = (r + 2) := (congrFun (A1247 _ (nek r 0 2 rfl)).2.1 _).trans f1214
  have f1261 : gr w1246 r 2 = (r + 3) := (congrFun (A1247 _ (nek r 0 2 rfl)).2.1 _).trans f1215
  have f1262 : gr w1246 r 3 = (r + 4) := (congrFun (A1247 _ (nek r 0 2 rfl)).2.1 _).trans f1216
  have f1263 : gr w1246 r 4 = (r + 5) := (congrFun (A1247 _ (nek r 0 2 rfl)).2.1 _).trans f1217
  have f1264 : isInks w1246.2 (r + 6) := inks_ag (fun q a b => A1247 q (Nat.ne_of_gt (Nat.lt_of_lt_of_le (ltk r 2 6 rfl) a))) f1218
  have f1265 : ty w1246 (r + 6) = 4 := (A1247 _ (nek r 6 2 rfl)).2.2.1.trans f1219
  have f1266 : isInks w1246.2 (r + 10) := inks_ag (fun q a b => A1247 q (Nat.ne_of_gt (Nat.lt_of_lt_of_le (ltk r 2 10 rfl) a))) f1220
  have f1267 : ty w1246 (r + 10) = 4 := (A1247 _ (nek r 10 2 rfl)).2.2.1.trans f1221
  have f1268 : isInks w1246.2 (r + 14) := inks_ag (fun q a b => A1247 q (Nat.ne_of_gt (Nat.lt_of_lt_of_le (ltk r 2 14 rfl) a))) f1222
  have f1269 : ty w1246 (r + 14) = 4 := (A1247 _ (nek r 14 2 rfl)).2.2.1.trans f1223
  have f1270 : isInks w1246.2 (r + 18) := inks_ag (fun q a b => A1247 q (Nat.ne_of_gt (Nat.lt_of_lt_of_le (ltk r 2 18 rfl) a))) f1224
  have f1271 : ty w1246 (r + 18) = 4 := (A1247 _ (nek r 18 2 rfl)).2.2.1.trans f1225
  have f1272 : isInks w1246.2 (r + 22) := inks_ag (fun q a b => A1247 q (Nat.ne_of_gt (Nat.lt_of_lt_of_le (ltk r 2 22 rfl) a))) f1226
  have f1273 : ty w1246 (r + 22) = 4 := (A1247 _ (nek r 22 2 rfl)).2.2.1.trans f1227
  have f1274 : isInks w1246.2 (r + 26) := inks_ag (fun q a b => A1247 q (Nat.ne_of_gt (Nat.lt_of_lt_of_le (ltk r 2 26 rfl) a))) f1228
  have f1275 : ty w1246 (r + 26) = 4 := (A1247 _ (nek r 26 2 rfl)).2.2.1.trans f1229
  have f1276 : isInks w1246.2 (r + 30) := inks_ag (fun q a b => A1247 q (Nat.ne_of_gt (Nat.lt_of_lt_of_le (ltk r 2 30 rfl) a))) f1230
  have f1277 : ty w1246 (r + 30) = 4 := (A1247 _ (nek r 30 2 rfl)).2.2.1.trans f1231
  have f1278 : isInks w1246.2 (r + 34) := inks_ag (fun q a b => A1247 q (Nat.ne_of_gt (Nat.lt_of_lt_of_le (ltk r 2 34 rfl) a))) f1232
  have f1279 : ty w1246 (r + 34) = 4 := (A1247 _ (nek r 34 2 rfl)).2.2.1.trans f1233
  have f1280 : ty w1246 (r + 1) = 14 := (A1247 _ (nek r 1 2 rfl)).2.2.1.trans f1234
  have f1281 : ln w1246 (r + 1) = 8 := (A1247 _ (nek r 1 2 rfl)).2.2.2.trans f1235
  have f1282 : gi w1246 (r + 1) = (fun _ => 0) := (A1247 _ (nek r 1 2 rfl)).1.trans f1236
  have f1283 : gr w1246 (r + 1) 0 = (r + 6) := (congrFun (A1247 _ (nek r 1 2 rfl)).2.1 _).trans f1237
  have f1284 : gr w1246 (r + 1) 1 = (r + 10) := (congrFun (A1247 _ (nek r 1 2 rfl)).2.1 _).trans f1238
  have f1285 : gr w1246 (r + 1) 2 = (r + 14) := (congrFun (A1247 _ (nek r 1 2 rfl)).2.1 _).trans f1239
  have f1286 : gr w1246 (r + 1) 3 = (r + 18) := (congrFun (A1247 _ (nek r 1 2 rfl)).2.1 _).trans f1240
  have f1287 : gr w1246 (r + 1) 4 = (r + 22) := (congrFun (A1247 _ (nek r 1 2 rfl)).2.1 _).trans f1241
  have f1288 : gr w1246 (r + 1) 5 = (r + 26) := (congrFun (A1247 _ (nek r 1 2 rfl)).2.1 _).trans f1242
  have f1289 : gr w1246 (r + 1) 6 = (r + 30) := (congrFun (A1247 _ (nek r 1 2 rfl)).2.1 _).trans f1243
  have f1290 : gr w1246 (r + 1) 7 = (r + 34) := (congrFun (A1247 _ (nek r 1 2 rfl)).2.1 _).trans f1244
  have f1291 : isPlan w1246.2 (r + 38) := plan_ag (fun q a b => A1247 q (Nat.ne_of_gt (Nat.lt_of_lt_of_le (ltk r 2 38 rfl) a))) f1198
  have f1292 : ty w1246 (r + 38) = 6 := (A1247 _ (nek r 38 2 rfl)).2.2.1.trans f1198.1
  have f1293 : ty w1246 (r + 2) = 15 := by rw [hw1246]; exact f1199
  have f1294 : ln w1246 (r + 2) = 7 := by rw [hw1246]; exact f1200
  have f1295 : gi w1246 (r + 2) = (fun _ => 0) := by rw [hw1246]; exact f1201
  have f1296 : gr w1246 (r + 2) 0 = (r + 38) := by rw [hw1246]; exact sr_e
  have n1297 : nx w1246 = r + 42 := by rw [hw1246]; exact ni1197
  have u1298 : uc w1246 = uc w + 41 := by rw [hw1246]; exact ui1197
  have s1299 : us w1246 = us w + 363 := by rw [hw1246]; exact si1197
  have g1300 : ∀ q, q < r → gi w1246 q = gi w q ∧ gr w1246 q = gr w q ∧ ty w1246 q = ty w q ∧ ln w1246 q = ln w q := fun q hq => by have a := A1247 q (Nat.ne_of_lt (Nat.lt_of_lt_of_le hq (Nat.le_add_right r 2))); have b := g1245 q hq; exact ⟨a.1.trans b.1, a.2.1.trans b.2.1, a.2.2.1.trans b.2.2.1, a.2.2.2.trans b.2.2.2⟩
  clear A1247 f1198 f1199 f1200 f1201 f1202 f1203 f1204 f1205 f1206 f1207 f1208 f1209 f1210 f1211 f1212 f1213 f1214 f1215 f1216 f1217 f1218 f1219 f1220 f1221 f1222 f1223 f1224 f1225 f1226 f1227 f1228 f1229 f1230 f1231 f1232 f1233 f1234 f1235 f1236 f1237 f1238 f1239 f1240 f1241 f1242 f1243 f1244 g1245 hw1246 ni1197 si1197 ui1197
  refine WP.blk 1 ?_
  show ir (0 + 1) ∧ WP 2 26 97 [vR r, vI 1] [] w1246 Q
  refine ⟨⟨by decide, by decide⟩, ?_⟩
  refine WP.blk 1 ?_
  show WP 2 26 75 [vR r, vI 1] [] w1246 Q
  refine WP.blk 1 ?_
  show WP 2 26 76 [vR r, vI 1] [vI 1] w1246 Q
  refine WP.blk 1 ?_
  show WP 2 26 78 [vR r, vI 1] [vI 7, vI 1] w1246 Q
  refine WP.blk 1 ?_
  show WP 2 26 81 [vR r, vI 1] [] w1246 Q
  refine WP.blk 1 ?_
  show WP 2 26 82 [vR r, vI 1] [vR r] w1246 Q
  refine WP.blk 1 ?_
  show (ty w1246 r = 5 ∧ gr w1246 r 1 ≠ 0) ∧ WP 2 26 85 [vR r, vI 1] [vR (gr w1246 r 1)] w1246 Q
  refine ⟨⟨f1257, by rw [f1260]; exact Nat.succ_ne_zero _⟩, ?_⟩
  rw [f1260]
  refine WP.blk 1 ?_
  show WP 2 26 86 [vR r, vI 1] [vI 1, vR (r + 2)] w1246 Q
  refine WP.blk 1 ?_
  show WP 2 26 89 [vR r, vI 1] [vR (nx w1246), vI 1, vR (r + 2)] (mk w1246 6 4) Q
  rw [n1297]
  obtain ⟨w1301, hw1301⟩ : ∃ y9, y9 = mk w1246 6 4 := ⟨_, rfl⟩
  rw [← hw1301]
  have A1302 : ∀ q, q ≠ r + 42 → gi w1301 q = gi w1246 q ∧ gr w1301 q = gr w1246 q ∧ ty w1301 q = ty w1246 q ∧ ln w1301 q = ln w1246 q := fun q hq => by rw [hw1301]; exact mk_o (by rw [n1297]; exact hq)
  have f1303 : ty w1301 (r + 3) = 11 := (A1302 _ (nek r 3 42 rfl)).2.2.1.trans f1248
  have f1304 : ln w1301 (r + 3) = 7 := (A1302 _ (nek r 3 42 rfl)).2.2.2.trans f1249
  have f1305 : gi w1301 (r + 3) = (fun _ => 0) := (A1302 _ (nek r 3 42 rfl)).1.trans f1250
  have f1306 : ty w1301 (r + 4) = 11 := (A1302 _ (nek r 4 42 rfl)).2.2.1.trans f1251
  have f1307 : ln w1301 (r + 4) = 7 := (A1302 _ (nek r 4 42 rfl)).2.2.2.trans f1252
  have f1308 : gi w1301 (r + 4) = (fun _ => 0) := (A1302 _ (nek r 4 42 rfl)).1.trans f1253
  have f1309 : ty w1301 (r + 5) = 11 := (A1302 _ (nek r 5 42 rfl)).2.2.1.trans f1254
  have f1310 : ln w1301 (r + 5) = 7 := (A1302 _ (nek r 5 42 rfl)).2.2.2.trans f1255
  have f1311 : gi w1301 (r + 5) = (fun _ => 0) := (A1302 _ (nek r 5 42 rfl)).1.trans f1256
  have f1312 : ty w1301 r = 5 := (A1302 _ (nek r 0 42 rfl)).2.2.1.trans f1257
  have f1313 : gi w1301 r = (fun _ => 0) := (A1302 _ (nek r 0 42 rfl)).1.trans f1258
  have f1314 : gr w1301 r 0 = (r + 1) := (congrFun (A1302 _ (nek r 0 42 rfl)).2.1 _).trans f1259
  have f1315 : gr w1301 r 1 = (r + 2) := (congrFun (A1302 _ (nek r 0 42 rfl)).2.1 _).trans f1260
  have f1316 : gr w1301 r 2 = (r + 3) := (congrFun (A1302 _ (nek r 0 42 rfl)).2.1 _).trans f1261
  have f1317 : gr w1301 r 3 = (r + 4) := (congrFun (A1302 _ (nek r 0 42 rfl)).2.1 _).trans f1262
  have f1318 : gr w1301 r 4 = (r + 5) := (congrFun (A1302 _ (nek r 0 42 rfl)).2.1 _).trans f1263
  have f1319 : isInks w1301.2 (r + 6) := inks_ag (fun q a b => A1302 q (Nat.ne_of_lt (Nat.lt_of_lt_of_le b (lek r 6 4 42 rfl)))) f1264
  have f1320 : ty w1301 (r + 6) = 4 := (A1302 _ (nek r 6 42 rfl)).2.2.1.trans f1265
  have f1321 : isInks w1301.2 (r + 10) := inks_ag (fun q a b => A1302 q (Nat.ne_of_lt (Nat.lt_of_lt_of_le b (lek r 10 4 42 rfl)))) f1266
  have f1322 : ty w1301 (r + 10) = 4 := (A1302 _ (nek r 10 42 rfl)).2.2.1.trans f1267
  have f1323 : isInks w1301.2 (r + 14) := inks_ag (fun q a b => A1302 q (Nat.ne_of_lt (Nat.lt_of_lt_of_le b (lek r 14 4 42 rfl)))) f1268
  have f1324 : ty w1301 (r + 14) = 4 := (A1302 _ (nek r 14 42 rfl)).2.2.1.trans f1269
  have f1325 : isInks w1301.2 (r + 18) := inks_ag (fun q a b => A1302 q (Nat.ne_of_lt (Nat.lt_of_lt_of_le b (lek r 18 4 42 rfl)))) f1270
  have f1326 : ty w1301 (r + 18) = 4 := (A1302 _ (nek r 18 42 rfl)).2.2.1.trans f1271
  have f1327 : isInks w1301.2 (r + 22) := inks_ag (fun q a b => A1302 q (Nat.ne_of_lt (Nat.lt_of_lt_of_le b (lek r 22 4 42 rfl)))) f1272
  have f1328 : ty w1301 (r + 22) = 4 := (A1302 _ (nek r 22 42 rfl)).2.2.1.trans f1273
  have f1329 : isInks w1301.2 (r + 26) := inks_ag (fun q a b => A1302 q (Nat.ne_of_lt (Nat.lt_of_lt_of_le b (lek r 26 4 42 rfl)))) f1274
  have f1330 : ty w1301 (r + 26) = 4 := (A1302 _ (nek r 26 42 rfl)).2.2.1.trans f1275
  have f1331 : isInks w1301.2 (r + 30) := inks_ag (fun q a b => A1302 q (Nat.ne_of_lt (Nat.lt_of_lt_of_le b (lek r 30 4 42 rfl)))) f1276
  have f1332 : ty w1301 (r + 30) = 4 := (A1302 _ (nek r 30 42 rfl)).2.2.1.trans f1277
  have f1333 : isInks w1301.2 (r + 34) := inks_ag (fun q a b => A1302 q (Nat.ne_of_lt (Nat.lt_of_lt_of_le b (lek r 34 4 42 rfl)))) f1278
  have f1334 : ty w1301 (r + 34) = 4 := (A1302 _ (nek r 34 42 rfl)).2.2.1.trans f1279
  have f1335 : ty w1301 (r + 1) = 14 := (A1302 _ (nek r 1 42 rfl)).2.2.1.trans f1280
  have f1336 : ln w1301 (r + 1) = 8 := (A1302 _ (nek r 1 42 rfl)).2.2.2.trans f1281
  have f1337 : gi w1301 (r + 1) = (fun _ => 0) := (A1302 _ (nek r 1 42 rfl)).1.trans f1282
  have f1338 : gr w1301 (r + 1) 0 = (r + 6) := (congrFun (A1302 _ (nek r 1 42 rfl)).2.1 _).trans f1283
  have f1339 : gr w1301 (r + 1) 1 = (r + 10) := (congrFun (A1302 _ (nek r 1 42 rfl)).2.1 _).trans f1284
  have f1340 : gr w1301 (r + 1) 2 = (r + 14) := (congrFun (A1302 _ (nek r 1 42 rfl)).2.1 _).trans f1285
  have f1341 : gr w1301 (r + 1) 3 = (r + 18) := (congrFun (A1302 _ (nek r 1 42 rfl)).2.1 _).trans f1286
  have f1342 : gr w1301 (r + 1) 4 = (r + 22) := (congrFun (A1302 _ (nek r 1 42 rfl)).2.1 _).trans f1287
  have f1343 : gr w1301 (r + 1) 5 = (r + 26) := (congrFun (A1302 _ (nek r 1 42 rfl)).2.1 _).trans f1288
  have f1344 : gr w1301 (r + 1) 6 = (r + 30) := (congrFun (A1302 _ (nek r 1 42 rfl)).2.1 _).trans f1289
  have f1345 : gr w1301 (r + 1) 7 = (r + 34) := (congrFun (A1302 _ (nek r 1 42 rfl)).2.1 _).trans f1290
  have f1346 : isPlan w1301.2 (r + 38) := plan_ag (fun q a b => A1302 q (Nat.ne_of_lt (Nat.lt_of_lt_of_le b (lek r 38 4 42 rfl)))) f1291
  have f1347 : ty w1301 (r + 38) = 6 := (A1302 _ (nek r 38 42 rfl)).2.2.1.trans f1292
  have f1348 : ty w1301 (r + 2) = 15 := (A1302 _ (nek r 2 42 rfl)).2.2.1.trans f1293
  have f1349 : ln w1301 (r + 2) = 7 := (A1302 _ (nek r 2 42 rfl)).2.2.2.trans f1294
  have f1350 : gi w1301 (r + 2) = (fun _ => 0) := (A1302 _ (nek r 2 42 rfl)).1.trans f1295
  have f1351 : gr w1301 (r + 2) 0 = (r + 38) := (congrFun (A1302 _ (nek r 2 42 rfl)).2.1 _).trans f1296
  have e1352 := mk_e (w := w1246) (t := 6) (n := 4)
  rw [← hw1301, n1297] at e1352
  have n1353 : nx w1301 = r + 43 := by rw [hw1301]; exact congrArg (· + 1) n1297
  have u1354 : uc w1301 = uc w + 42 := by rw [hw1301]; exact congrArg (· + 1) u1298
  have s1355 : us w1301 = us w + 367 := by rw [hw1301]; exact congrArg (· + 4) s1299
  have g1356 : ∀ q, q < r → gi w1301 q = gi w q ∧ gr w1301 q = gr w q ∧ ty w1301 q = ty w q ∧ ln w1301 q = ln w q := fun q hq => by have a := A1302 q (Nat.ne_of_lt (Nat.lt_of_lt_of_le hq (Nat.le_add_right r 42))); have b := g1300 q hq; exact ⟨a.1.trans b.1, a.2.1.trans b.2.1, a.2.2.1.trans b.2.2.1, a.2.2.2.trans b.2.2.2⟩
  clear A1302 f1248 f1249 f1250 f1251 f1252 f1253 f1254 f1255 f1256 f1257 f1258 f1259 f1260 f1261 f1262 f1263 f1264 f1265 f1266 f1267 f1268 f1269 f1270 f1271 f1272 f1273 f1274 f1275 f1276 f1277 f1278 f1279 f1280 f1281 f1282 f1283 f1284 f1285 f1286 f1287 f1288 f1289 f1290 f1291 f1292 f1293 f1294 f1295 f1296 g1300 hw1301 n1297 s1299 u1298
  refine WP.blk 1 ?_
  show WP 2 26 90 [vR r, vI 1] [vR (r + 42), vR (r + 42), vI 1, vR (r + 2)] w1301 Q
  refine WP.cl (a := [vR (r + 42)]) (rest := [vR (r + 42), vI 1, vR (r + 2)]) rfl rfl rfl rfl trivial (by decide) (c_plan n1353 e1352.2.1 e1352.1 (fun w1357 hA1358 hni1359 hui1359 hsi1359 f1360 => ⟨rfl, ?_⟩))
  show WP 2 26 93 [vR r, vI 1] [vR (r + 42), vI 1, vR (r + 2)] w1357 Q
  have A1358 : ∀ q, q < r + 42 → gi w1357 q = gi w1301 q ∧ gr w1357 q = gr w1301 q ∧ ty w1357 q = ty w1301 q ∧ ln w1357 q = ln w1301 q := fun q hq => hA1358 q (Nat.zero_le _) hq
  have f1361 : ty w1357 (r + 3) = 11 := (A1358 _ (ltk r 3 42 rfl)).2.2.1.trans f1303
  have f1362 : ln w1357 (r + 3) = 7 := (A1358 _ (ltk r 3 42 rfl)).2.2.2.trans f1304
  have f1363 : gi w1357 (r + 3) = (fun _ => 0) := (A1358 _ (ltk r 3 42 rfl)).1.trans f1305
  have f1364 : ty w1357 (r + 4) = 11 := (A1358 _ (ltk r 4 42 rfl)).2.2.1.trans f1306
  have f1365 : ln w1357 (r + 4) = 7 := (A1358 _ (ltk r 4 42 rfl)).2.2.2.trans f1307
  have f1366 : gi w1357 (r + 4) = (fun _ => 0) := (A1358 _ (ltk r 4 42 rfl)).1.trans f1308
  have f1367 : ty w1357 (r + 5) = 11 := (A1358 _ (ltk r 5 42 rfl)).2.2.1.trans f1309
  have f1368 : ln w1357 (r + 5) = 7 := (A1358 _ (ltk r 5 42 rfl)).2.2.2.trans f1310
  have f1369 : gi w1357 (r + 5) = (fun _ => 0) := (A1358 _ (ltk r 5 42 rfl)).1.trans f1311
  have f1370 : ty w1357 r = 5 := (A1358 _ (ltk r 0 42 rfl)).2.2.1.trans f1312
  have f1371 : gi w1357 r = (fun _ => 0) := (A1358 _ (ltk r 0 42 rfl)).1.trans f1313
  have f1372 : gr w1357 r 0 = (r + 1) := (congrFun (A1358 _ (ltk r 0 42 rfl)).2.1 _).trans f1314
  have f1373 : gr w1357 r 1 = (r + 2) := (congrFun (A1358 _ (ltk r 0 42 rfl)).2.1 _).trans f1315
  have f1374 : gr w1357 r 2 = (r + 3) := (congrFun (A1358 _ (ltk r 0 42 rfl)).2.1 _).trans f1316
  have f1375 : gr w1357 r 3 = (r + 4) := (congrFun (A1358 _ (ltk r 0 42 rfl)).2.1 _).trans f1317
  have f1376 : gr w1357 r 4 = (r + 5) := (congrFun (A1358 _ (ltk r 0 42 rfl)).2.1 _).trans f1318
  have f1377 : isInks w1357.2 (r + 6) := inks_ag (fun q a b => A1358 q (Nat.lt_of_lt_of_le b (lek r 6 4 42 rfl))) f1319
  have f1378 : ty w1357 (r + 6) = 4 := (A1358 _ (ltk r 6 42 rfl)).2.2.1.trans f1320
  have f1379 : isInks w1357.2 (r + 10) := inks_ag (fun q a b => A1358 q (Nat.lt_of_lt_of_le b (lek r 10 4 42 rfl))) f1321
  have f1380 : ty w1357 (r + 10) = 4 := (A1358 _ (ltk r 10 42 rfl)).2.2.1.trans f1322
  have f1381 : isInks w1357.2 (r + 14) := inks_ag (fun q a b => A1358 q (Nat.lt_of_lt_of_le b (lek r 14 4 42 rfl))) f1323
  have f1382 : ty w1357 (r + 14) = 4 := (A1358 _ (ltk r 14 42 rfl)).2.2.1.trans f1324
  have f1383 : isInks w1357.2 (r + 18) := inks_ag (fun q a b => A1358 q (Nat.lt_of_lt_of_le b (lek r 18 4 42 rfl))) f1325
  have f1384 : ty w1357 (r + 18) = 4 := (A1358 _ (ltk r 18 42 rfl)).2.2.1.trans f1326
  have f1385 : isInks w1357.2 (r + 22) := inks_ag (fun q a b => A1358 q (Nat.lt_of_lt_of_le b (lek r 22 4 42 rfl))) f1327
  have f1386 : ty w1357 (r + 22) = 4 := (A1358 _ (ltk r 22 42 rfl)).2.2.1.trans f1328
  have f1387 : isInks w1357.2 (r + 26) := inks_ag (fun q a b => A1358 q (Nat.lt_of_lt_of_le b (lek r 26 4 42 rfl))) f1329
  have f1388 : ty w1357 (r + 26) = 4 := (A1358 _ (ltk r 26 42 rfl)).2.2.1.trans f1330
  have f1389 : isInks w1357.2 (r + 30) := inks_ag (fun q a b => A1358 q (Nat.lt_of_lt_of_le b (lek r 30 4 42 rfl))) f1331
  have f1390 : ty w1357 (r + 30) = 4 := (A1358 _ (ltk r 30 42 rfl)).2.2.1.trans f1332
  have f1391 : isInks w1357.2 (r + 34) := inks_ag (fun q a b => A1358 q (Nat.lt_of_lt_of_le b (lek r 34 4 42 rfl))) f1333
  have f1392 : ty w1357 (r + 34) = 4 := (A1358 _ (ltk r 34 42 rfl)).2.2.1.trans f1334
  have f1393 : ty w1357 (r + 1) = 14 := (A1358 _ (ltk r 1 42 rfl)).2.2.1.trans f1335
  have f1394 : ln w1357 (r + 1) = 8 := (A1358 _ (ltk r 1 42 rfl)).2.2.2.trans f1336
  have f1395 : gi w1357 (r + 1) = (fun _ => 0) := (A1358 _ (ltk r 1 42 rfl)).1.trans f1337
  have f1396 : gr w1357 (r + 1) 0 = (r + 6) := (congrFun (A1358 _ (ltk r 1 42 rfl)).2.1 _).trans f1338
  have f1397 : gr w1357 (r + 1) 1 = (r + 10) := (congrFun (A1358 _ (ltk r 1 42 rfl)).2.1 _).trans f1339
  have f1398 : gr w1357 (r + 1) 2 = (r + 14) := (congrFun (A1358 _ (ltk r 1 42 rfl)).2.1 _).trans f1340
  have f1399 : gr w1357 (r + 1) 3 = (r + 18) := (congrFun (A1358 _ (ltk r 1 42 rfl)).2.1 _).trans f1341
  have f1400 : gr w1357 (r + 1) 4 = (r + 22) := (congrFun (A1358 _ (ltk r 1 42 rfl)).2.1 _).trans f1342
  have f1401 : gr w1357 (r + 1) 5 = (r + 26) := (congrFun (A1358 _ (ltk r 1 42 rfl)).2.1 _).trans f1343
  have f1402 : gr w1357 (r + 1) 6 = (r + 30) := (congrFun (A1358 _ (ltk r 1 42 rfl)).2.1 _).trans f1344
  have f1403 : gr w1357 (r + 1) 7 = (r + 34) := (congrFun (A1358 _ (ltk r 1 42 rfl)).2.1 _).trans f1345
  have f1404 : isPlan w1357.2 (r + 38) := plan_ag (fun q a b => A1358 q (Nat.lt_of_lt_of_le b (lek r 38 4 42 rfl))) f1346
  have f1405 : ty w1357 (r + 38) = 6 := (A1358 _ (ltk r 38 42 rfl)).2.2.1.trans f1347
  have f1406 : ty w1357 (r + 2) = 15 := (A1358 _ (ltk r 2 42 rfl)).2.2.1.trans f1348
  have f1407 : ln w1357 (r + 2) = 7 := (A1358 _ (ltk r 2 42 rfl)).2.2.2.trans f1349
  have f1408 : gi w1357 (r + 2) = (fun _ => 0) := (A1358 _ (ltk r 2 42 rfl)).1.trans f1350
  have f1409 : gr w1357 (r + 2) 0 = (r + 38) := (congrFun (A1358 _ (ltk r 2 42 rfl)).2.1 _).trans f1351
  have ni1359 : nx w1357 = r + 46 := hni1359
  have ui1359 : uc w1357 = uc w + 45 := hui1359.trans (congrArg (· + 3) u1354)
  have si1359 : us w1357 = us w + 402 := hsi1359.trans (congrArg (· + 35) s1355)
  have g1410 : ∀ q, q < r → gi w1357 q = gi w q ∧ gr w1357 q = gr w q ∧ ty w1357 q = ty w q ∧ ln w1357 q = ln w q := fun q hq => by have a := A1358 q (Nat.lt_of_lt_of_le hq (Nat.le_add_right r 42)); have b := g1356 q hq; exact ⟨a.1.trans b.1, a.2.1.trans b.2.1, a.2.2.1.trans b.2.2.1, a.2.2.2.trans b.2.2.2⟩
  clear A1358 e1352 f1303 f1304 f1305 f1306 f1307 f1308 f1309 f1310 f1311 f1312 f1313 f1314 f1315 f1316 f1317 f1318 f1319 f1320 f1321 f1322 f1323 f1324 f1325 f1326 f1327 f1328 f1329 f1330 f1331 f1332 f1333 f1334 f1335 f1336 f1337 f1338 f1339 f1340 f1341 f1342 f1343 f1344 f1345 f1346 f1347 f1348 f1349 f1350 f1351 g1356 hA1358 hni1359 hsi1359 hui1359 n1353 s1355 u1354
  refine WP.blk 1 ?_
  show (ref3 (ty w1357 (r + 2)) ∧ 0 ≤ (1 : Int) ∧ (1 : Int) < (ln w1357 (r + 2) : Int) ∧ ty w1357 (r + 42) = el3 (ty w1357 (r + 2))) ∧ WP 2 26 94 [vR r, vI 1] [] (sr w1357 (r + 2) 1 (r + 42)) Q
  refine ⟨⟨Or.inr (Or.inr f1406), by decide, by rw [f1407]; decide, by rw [f1406]; exact f1360.1⟩, ?_⟩
  obtain ⟨w1411, hw1411⟩ : ∃ y9, y9 = sr w1357 (r + 2) 1 (r + 42) := ⟨_, rfl⟩
  rw [← hw1411]
  have A1412 : ∀ q, q ≠ r + 2 → gi w1411 q = gi w1357 q ∧ gr w1411 q = gr w1357 q ∧ ty w1411 q = ty w1357 q ∧ ln w1411 q = ln w1357 q := fun q hq => by rw [hw1411]; exact sr_o hq
  have f1413 : ty w1411 (r + 3) = 11 := (A1412 _ (nek r 3 2 rfl)).2.2.1.trans f1361
  have f1414 : ln w1411 (r + 3) = 7 := (A1412 _ (nek r 3 2 rfl)).2.2.2.trans f1362
  have f1415 : gi w1411 (r + 3) = (fun _ => 0) := (A1412 _ (nek r 3 2 rfl)).1.trans f1363
  have f1416 : ty w1411 (r + 4) = 11 := (A1412 _ (nek r 4 2 rfl)).2.2.1.trans f1364
  have f1417 : ln w1411 (r + 4) = 7 := (A1412 _ (nek r 4 2 rfl)).2.2.2.trans f1365
  have f1418 : gi w1411 (r + 4) = (fun _ => 0) := (A1412 _ (nek r 4 2 rfl)).1.trans f1366
  have f1419 : ty w1411 (r + 5) = 11 := (A1412 _ (nek r 5 2 rfl)).2.2.1.trans f1367
  have f1420 : ln w1411 (r + 5) = 7 := (A1412 _ (nek r 5 2 rfl)).2.2.2.trans f1368
  have f1421 : gi w1411 (r + 5) = (fun _ => 0) := (A1412 _ (nek r 5 2 rfl)).1.trans f1369
  have f1422 : ty w1411 r = 5 := (A1412 _ (nek r 0 2 rfl)).2.2.1.trans f1370
  have f1423 : gi w1411 r = (fun _ => 0) := (A1412 _ (nek r 0 2 rfl)).1.trans f1371
  have f1424 : gr w1411 r 0 = (r + 1) := (congrFun (A1412 _ (nek r 0 2 rfl)).2.1 _).trans f1372
  have f1425 : gr w1411 r 1 = (r + 2) := (congrFun (A1412 _ (nek r 0 2 rfl)).2.1 _).trans f1373
  have f1426 : gr w1411 r 2 = (r + 3) := (congrFun (A1412 _ (nek r 0 2 rfl)).2.1 _).trans f1374
  have f1427 : gr w1411 r 3 = (r + 4) := (congrFun (A1412 _ (nek r 0 2 rfl)).2.1 _).trans f1375
  have f1428 : gr w1411 r 4 = (r + 5) := (congrFun (A1412 _ (nek r 0 2 rfl)).2.1 _).trans f1376
  have f1429 : isInks w1411.2 (r + 6) := inks_ag (fun q a b => A1412 q (Nat.ne_of_gt (Nat.lt_of_lt_of_le (ltk r 2 6 rfl) a))) f1377
  have f1430 : ty w1411 (r + 6) = 4 := (A1412 _ (nek r 6 2 rfl)).2.2.1.trans f1378
  have f1431 : isInks w1411.2 (r + 10) := inks_ag (fun q a b => A1412 q (Nat.ne_of_gt (Nat.lt_of_lt_of_le (ltk r 2 10 rfl) a))) f1379
  have f1432 : ty w1411 (r + 10) = 4 := (A1412 _ (nek r 10 2 rfl)).2.2.1.trans f1380
  have f1433 : isInks w1411.2 (r + 14) := inks_ag (fun q a b => A1412 q (Nat.ne_of_gt (Nat.lt_of_lt_of_le (ltk r 2 14 rfl) a))) f1381
  have f1434 : ty w1411 (r + 14) = 4 := (A1412 _ (nek r 14 2 rfl)).2.2.1.trans f1382
  have f1435 : isInks w1411.2 (r + 18) := inks_ag (fun q a b => A1412 q (Nat.ne_of_gt (Nat.lt_of_lt_of_le (ltk r 2 18 rfl) a))) f1383
  have f1436 : ty w1411 (r + 18) = 4 := (A1412 _ (nek r 18 2 rfl)).2.2.1.trans f1384
  have f1437 : isInks w1411.2 (r + 22) := inks_ag (fun q a b => A1412 q (Nat.ne_of_gt (Nat.lt_of_lt_of_le (ltk r 2 22 rfl) a))) f1385
  have f1438 : ty w1411 (r + 22) = 4 := (A1412 _ (nek r 22 2 rfl)).2.2.1.trans f1386
  have f1439 : isInks w1411.2 (r + 26) := inks_ag (fun q a b => A1412 q (Nat.ne_of_gt (Nat.lt_of_lt_of_le (ltk r 2 26 rfl) a))) f1387
  have f1440 : ty w1411 (r + 26) = 4 := (A1412 _ (nek r 26 2 rfl)).2.2.1.trans f1388
  have f1441 : isInks w1411.2 (r + 30) := inks_ag (fun q a b => A1412 q (Nat.ne_of_gt (Nat.lt_of_lt_of_le (ltk r 2 30 rfl) a))) f1389
  have f1442 : ty w1411 (r + 30) = 4 := (A1412 _ (nek r 30 2 rfl)).2.2.1.trans f1390
  have f1443 : isInks w1411.2 (r + 34) := inks_ag (fun q a b => A1412 q (Nat.ne_of_gt (Nat.lt_of_lt_of_le (ltk r 2 34 rfl) a))) f1391
  have f1444 : ty w1411 (r + 34) = 4 := (A1412 _ (nek r 34 2 rfl)).2.2.1.trans f1392
  have f1445 : ty w1411 (r + 1) = 14 := (A1412 _ (nek r 1 2 rfl)).2.2.1.trans f1393
  have f1446 : ln w1411 (r + 1) = 8 := (A1412 _ (nek r 1 2 rfl)).2.2.2.trans f1394
  have f1447 : gi w1411 (r + 1) = (fun _ => 0) := (A1412 _ (nek r 1 2 rfl)).1.trans f1395
  have f1448 : gr w1411 (r + 1) 0 = (r + 6) := (congrFun (A1412 _ (nek r 1 2 rfl)).2.1 _).trans f1396
  have f1449 : gr w1411 (r + 1) 1 = (r + 10) := (congrFun (A1412 _ (nek r 1 2 rfl)).2.1 _).trans f1397
  have f1450 : gr w1411 (r + 1) 2 = (r + 14) := (congrFun (A1412 _ (nek r 1 2 rfl)).2.1 _).trans f1398
  have f1451 : gr w1411 (r + 1) 3 = (r + 18) := (congrFun (A1412 _ (nek r 1 2 rfl)).2.1 _).trans f1399
  have f1452 : gr w1411 (r + 1) 4 = (r + 22) := (congrFun (A1412 _ (nek r 1 2 rfl)).2.1 _).trans f1400
  have f1453 : gr w1411 (r + 1) 5 = (r + 26) := (congrFun (A1412 _ (nek r 1 2 rfl)).2.1 _).trans f1401
  have f1454 : gr w1411 (r + 1) 6 = (r + 30) := (congrFun (A1412 _ (nek r 1 2 rfl)).2.1 _).trans f1402
  have f1455 : gr w1411 (r + 1) 7 = (r + 34) := (congrFun (A1412 _ (nek r 1 2 rfl)).2.1 _).trans f1403
  have f1456 : isPlan w1411.2 (r + 38) := plan_ag (fun q a b => A1412 q (Nat.ne_of_gt (Nat.lt_of_lt_of_le (ltk r 2 38 rfl) a))) f1404
  have f1457 : ty w1411 (r + 38) = 6 := (A1412 _ (nek r 38 2 rfl)).2.2.1.trans f1405
  have f1458 : isPlan w1411.2 (r + 42) := plan_ag (fun q a b => A1412 q (Nat.ne_of_gt (Nat.lt_of_lt_of_le (ltk r 2 42 rfl) a))) f1360
  have f1459 : ty w1411 (r + 42) = 6 := (A1412 _ (nek r 42 2 rfl)).2.2.1.trans f1360.1
  have f1460 : ty w1411 (r + 2) = 15 := by rw [hw1411]; exact f1406
  have f1461 : ln w1411 (r + 2) = 7 := by rw [hw1411]; exact f1407
  have f1462 : gi w1411 (r + 2) = (fun _ => 0) := by rw [hw1411]; exact f1408
  have f1463 : gr w1411 (r + 2) 0 = (r + 38) := by rw [hw1411]; exact (sr_k (by decide)).trans f1409
  have f1464 : gr w1411 (r + 2) 1 = (r + 42) := by rw [hw1411]; exact sr_e
  have n1465 : nx w1411 = r + 46 := by rw [hw1411]; exact ni1359
  have u1466 : uc w1411 = uc w + 45 := by rw [hw1411]; exact ui1359
  have s1467 : us w1411 = us w + 402 := by rw [hw1411]; exact si1359
  have g1468 : ∀ q, q < r → gi w1411 q = gi w q ∧ gr w1411 q = gr w q ∧ ty w1411 q = ty w q ∧ ln w1411 q = ln w q := fun q hq => by have a := A1412 q (Nat.ne_of_lt (Nat.lt_of_lt_of_le hq (Nat.le_add_right r 2))); have b := g1410 q hq; exact ⟨a.1.trans b.1, a.2.1.trans b.2.1, a.2.2.1.trans b.2.2.1, a.2.2.2.trans b.2.2.2⟩
  clear A1412 f1360 f1361 f1362 f1363 f1364 f1365 f1366 f1367 f1368 f1369 f1370 f1371 f1372 f1373 f1374 f1375 f1376 f1377 f1378 f1379 f1380 f1381 f1382 f1383 f1384 f1385 f1386 f1387 f1388 f1389 f1390 f1391 f1392 f1393 f1394 f1395 f1396 f1397 f1398 f1399 f1400 f1401 f1402 f1403 f1404 f1405 f1406 f1407 f1408 f1409 g1410 hw1411 ni1359 si1359 ui1359
  refine WP.blk 1 ?_
  show ir (1 + 1) ∧ WP 2 26 97 [vR r, vI 2] [] w1411 Q
  refine ⟨⟨by decide, by decide⟩, ?_⟩
  refine WP.blk 1 ?_
  show WP 2 26 75 [vR r, vI 2] [] w1411 Q
  refine WP.blk 1 ?_
  show WP 2 26 76 [vR r, vI 2] [vI 2] w1411 Q
  refine WP.blk 1 ?_
  show WP 2 26 78 [vR r, vI 2] [vI 7, vI 2] w1411 Q
  refine WP.blk 1 ?_
  show WP 2 26 81 [vR r, vI 2] [] w1411 Q
  refine WP.blk 1 ?_
  show WP 2 26 82 [vR r, vI 2] [vR r] w1411 Q
  refine WP.blk 1 ?_
  show (ty w1411 r = 5 ∧ gr w1411 r 1 ≠ 0) ∧ WP 2 26 85 [vR r, vI 2] [vR (gr w1411 r 1)] w1411 Q
  refine ⟨⟨f1422, by rw [f1425]; exact Nat.succ_ne_zero _⟩, ?_⟩
  rw [f1425]
  refine WP.blk 1 ?_
  show WP 2 26 86 [vR r, vI 2] [vI 2, vR (r + 2)] w1411 Q
  refine WP.blk 1 ?_
  show WP 2 26 89 [vR r, vI 2] [vR (nx w1411), vI 2, vR (r + 2)] (mk w1411 6 4) Q
  rw [n1465]
  obtain ⟨w1469, hw1469⟩ : ∃ y9, y9 = mk w1411 6 4 := ⟨_, rfl⟩
  rw [← hw1469]
  have A1470 : ∀ q, q ≠ r + 46 → gi w1469 q = gi w1411 q ∧ gr w1469 q = gr w1411 q ∧ ty w1469 q = ty w1411 q ∧ ln w1469 q = ln w1411 q := fun q hq => by rw [hw1469]; exact mk_o (by rw [n1465]; exact hq)
  have f1471 : ty w1469 (r + 3) = 11 := (A1470 _ (nek r 3 46 rfl)).2.2.1.trans f1413
  have f1472 : ln w1469 (r + 3) = 7 := (A1470 _ (nek r 3 46 rfl)).2.2.2.trans f1414
  have f1473 : gi w1469 (r + 3) = (fun _ => 0) := (A1470 _ (nek r 3 46 rfl)).1.trans f1415
  have f1474 : ty w1469 (r + 4) = 11 := (A1470 _ (nek r 4 46 rfl)).2.2.1.trans f1416
  have f1475 : ln w1469 (r + 4) = 7 := (A1470 _ (nek r 4 46 rfl)).2.2.2.trans f1417
  have f1476 : gi w1469 (r + 4) = (fun _ => 0) := (A1470 _ (nek r 4 46 rfl)).1.trans f1418
  have f1477 : ty w1469 (r + 5) = 11 := (A1470 _ (nek r 5 46 rfl)).2.2.1.trans f1419
  have f1478 : ln w1469 (r + 5) = 7 := (A1470 _ (nek r 5 46 rfl)).2.2.2.trans f1420
  have f1479 : gi w1469 (r + 5) = (fun _ => 0) := (A1470 _ (nek r 5 46 rfl)).1.trans f1421
  have f1480 : ty w1469 r = 5 := (A1470 _ (nek r 0 46 rfl)).2.2.1.trans f1422
  have f1481 : gi w1469 r = (fun _ => 0) := (A1470 _ (nek r 0 46 rfl)).1.trans f1423
  have f1482 : gr w1469 r 0 = (r + 1) := (congrFun (A1470 _ (nek r 0 46 rfl)).2.1 _).trans f1424
  have f1483 : gr w1469 r 1 = (r + 2) := (congrFun (A1470 _ (nek r 0 46 rfl)).2.1 _).trans f1425
  have f1484 : gr w1469 r 2 = (r + 3) := (congrFun (A1470 _ (nek r 0 46 rfl)).2.1 _).trans f1426
  have f1485 : gr w1469 r 3 = (r + 4) := (congrFun (A1470 _ (nek r 0 46 rfl)).2.1 _).trans f1427
  have f1486 : gr w1469 r 4 = (r + 5) := (congrFun (A1470 _ (nek r 0 46 rfl)).2.1 _).trans f1428
  have f1487 : isInks w1469.2 (r + 6) := inks_ag (fun q a b => A1470 q (Nat.ne_of_lt (Nat.lt_of_lt_of_le b (lek r 6 4 46 rfl)))) f1429
  have f1488 : ty w1469 (r + 6) = 4 := (A1470 _ (nek r 6 46 rfl)).2.2.1.trans f1430
  have f1489 : isInks w1469.2 (r + 10) := inks_ag (fun q a b => A1470 q (Nat.ne_of_lt (Nat.lt_of_lt_of_le b (lek r 10 4 46 rfl)))) f1431
  have f1490 : ty w1469 (r + 10) = 4 := (A1470 _ (nek r 10 46 rfl)).2.2.1.trans f1432
  have f1491 : isInks w1469.2 (r + 14) := inks_ag (fun q a b => A1470 q (Nat.ne_of_lt (Nat.lt_of_lt_of_le b (lek r 14 4 46 rfl)))) f1433
  have f1492 : ty w1469 (r + 14) = 4 := (A1470 _ (nek r 14 46 rfl)).2.2.1.trans f1434
  have f1493 : isInks w1469.2 (r + 18) := inks_ag (fun q a b => A1470 q (Nat.ne_of_lt (Nat.lt_of_lt_of_le b (lek r 18 4 46 rfl)))) f1435
  have f1494 : ty w1469 (r + 18) = 4 := (A1470 _ (nek r 18 46 rfl)).2.2.1.trans f1436
  have f1495 : isInks w1469.2 (r + 22) := inks_ag (fun q a b => A1470 q (Nat.ne_of_lt (Nat.lt_of_lt_of_le b (lek r 22 4 46 rfl)))) f1437
  have f1496 : ty w1469 (r + 22) = 4 := (A1470 _ (nek r 22 46 rfl)).2.2.1.trans f1438
  have f1497 : isInks w1469.2 (r + 26) := inks_ag (fun q a b => A1470 q (Nat.ne_of_lt (Nat.lt_of_lt_of_le b (lek r 26 4 46 rfl)))) f1439
  have f1498 : ty w1469 (r + 26) = 4 := (A1470 _ (nek r 26 46 rfl)).2.2.1.trans f1440
  have f1499 : isInks w1469.2 (r + 30) := inks_ag (fun q a b => A1470 q (Nat.ne_of_lt (Nat.lt_of_lt_of_le b (lek r 30 4 46 rfl)))) f1441
  have f1500 : ty w1469 (r + 30) = 4 := (A1470 _ (nek r 30 46 rfl)).2.2.1.trans f1442
  have f1501 : isInks w1469.2 (r + 34) := inks_ag (fun q a b => A1470 q (Nat.ne_of_lt (Nat.lt_of_lt_of_le b (lek r 34 4 46 rfl)))) f1443
  have f1502 : ty w1469 (r + 34) = 4 := (A1470 _ (nek r 34 46 rfl)).2.2.1.trans f1444
  have f1503 : ty w1469 (r + 1) = 14 := (A1470 _ (nek r 1 46 rfl)).2.2.1.trans f1445
  have f1504 : ln w1469 (r + 1) = 8 := (A1470 _ (nek r 1 46 rfl)).2.2.2.trans f1446
  have f1505 : gi w1469 (r + 1) = (fun _ => 0) := (A1470 _ (nek r 1 46 rfl)).1.trans f1447
  have f1506 : gr w1469 (r + 1) 0 = (r + 6) := (congrFun (A1470 _ (nek r 1 46 rfl)).2.1 _).trans f1448
  have f1507 : gr w1469 (r + 1) 1 = (r + 10) := (congrFun (A1470 _ (nek r 1 46 rfl)).2.1 _).trans f1449
  have f1508 : gr w1469 (r + 1) 2 = (r + 14) := (congrFun (A1470 _ (nek r 1 46 rfl)).2.1 _).trans f1450
  have f1509 : gr w1469 (r + 1) 3 = (r + 18) := (congrFun (A1470 _ (nek r 1 46 rfl)).2.1 _).trans f1451
  have f1510 : gr w1469 (r + 1) 4 = (r + 22) := (congrFun (A1470 _ (nek r 1 46 rfl)).2.1 _).trans f1452
  have f1511 : gr w1469 (r + 1) 5 = (r + 26) := (congrFun (A1470 _ (nek r 1 46 rfl)).2.1 _).trans f1453
  have f1512 : gr w1469 (r + 1) 6 = (r + 30) := (congrFun (A1470 _ (nek r 1 46 rfl)).2.1 _).trans f1454
  have f1513 : gr w1469 (r + 1) 7 = (r + 34) := (congrFun (A1470 _ (nek r 1 46 rfl)).2.1 _).trans f1455
  have f1514 : isPlan w1469.2 (r + 38) := plan_ag (fun q a b => A1470 q (Nat.ne_of_lt (Nat.lt_of_lt_of_le b (lek r 38 4 46 rfl)))) f1456
  have f1515 : ty w1469 (r + 38) = 6 := (A1470 _ (nek r 38 46 rfl)).2.2.1.trans f1457
  have f1516 : isPlan w1469.2 (r + 42) := plan_ag (fun q a b => A1470 q (Nat.ne_of_lt (Nat.lt_of_lt_of_le b (lek r 42 4 46 rfl)))) f1458
  have f1517 : ty w1469 (r + 42) = 6 := (A1470 _ (nek r 42 46 rfl)).2.2.1.trans f1459
  have f1518 : ty w1469 (r + 2) = 15 := (A1470 _ (nek r 2 46 rfl)).2.2.1.trans f1460
  have f1519 : ln w1469 (r + 2) = 7 := (A1470 _ (nek r 2 46 rfl)).2.2.2.trans f1461
  have f1520 : gi w1469 (r + 2) = (fun _ => 0) := (A1470 _ (nek r 2 46 rfl)).1.trans f1462
  have f1521 : gr w1469 (r + 2) 0 = (r + 38) := (congrFun (A1470 _ (nek r 2 46 rfl)).2.1 _).trans f1463
  have f1522 : gr w1469 (r + 2) 1 = (r + 42) := (congrFun (A1470 _ (nek r 2 46 rfl)).2.1 _).trans f1464
  have e1523 := mk_e (w := w1411) (t := 6) (n := 4)
  rw [← hw1469, n1465] at e1523
  have n1524 : nx w1469 = r + 47 := by rw [hw1469]; exact congrArg (· + 1) n1465
  have u1525 : uc w1469 = uc w + 46 := by rw [hw1469]; exact congrArg (· + 1) u1466
  have s1526 : us w1469 = us w + 406 := by rw [hw1469]; exact congrArg (· + 4) s1467
  have g1527 : ∀ q, q < r → gi w1469 q = gi w q ∧ gr w1469 q = gr w q ∧ ty w1469 q = ty w q ∧ ln w1469 q = ln w q := fun q hq => by have a := A1470 q (Nat.ne_of_lt (Nat.lt_of_lt_of_le hq (Nat.le_add_right r 46))); have b := g1468 q hq; exact ⟨a.1.trans b.1, a.2.1.trans b.2.1, a.2.2.1.trans b.2.2.1, a.2.2.2.trans b.2.2.2⟩
  clear A1470 f1413 f1414 f1415 f1416 f1417 f1418 f1419 f1420 f1421 f1422 f1423 f1424 f1425 f1426 f1427 f1428 f1429 f1430 f1431 f1432 f1433 f1434 f1435 f1436 f1437 f1438 f1439 f1440 f1441 f1442 f1443 f1444 f1445 f1446 f1447 f1448 f1449 f1450 f1451 f1452 f1453 f1454 f1455 f1456 f1457 f1458 f1459 f1460 f1461 f1462 f1463 f1464 g1468 hw1469 n1465 s1467 u1466
  refine WP.blk 1 ?_
  show WP 2 26 90 [vR r, vI 2] [vR (r + 46), vR (r + 46), vI 2, vR (r + 2)] w1469 Q
  refine WP.cl (a := [vR (r + 46)]) (rest := [vR (r + 46), vI 2, vR (r + 2)]) rfl rfl rfl rfl trivial (by decide) (c_plan n1524 e1523.2.1 e1523.1 (fun w1528 hA1529 hni1530 hui1530 hsi1530 f1531 => ⟨rfl, ?_⟩))
  show WP 2 26 93 [vR r, vI 2] [vR (r + 46), vI 2, vR (r + 2)] w1528 Q
  have A1529 : ∀ q, q < r + 46 → gi w1528 q = gi w1469 q ∧ gr w1528 q = gr w1469 q ∧ ty w1528 q = ty w1469 q ∧ ln w1528 q = ln w1469 q := fun q hq => hA1529 q (Nat.zero_le _) hq
  have f1532 : ty w1528 (r + 3) = 11 := (A1529 _ (ltk r 3 46 rfl)).2.2.1.trans f1471
  have f1533 : ln w1528 (r + 3) = 7 := (A1529 _ (ltk r 3 46 rfl)).2.2.2.trans f1472
  have f1534 : gi w1528 (r + 3) = (fun _ => 0) := (A1529 _ (ltk r 3 46 rfl)).1.trans f1473
  have f1535 : ty w1528 (r + 4) = 11 := (A1529 _ (ltk r 4 46 rfl)).2.2.1.trans f1474
  have f1536 : ln w1528 (r + 4) = 7 := (A1529 _ (ltk r 4 46 rfl)).2.2.2.trans f1475
  have f1537 : gi w1528 (r + 4) = (fun _ => 0) := (A1529 _ (ltk r 4 46 rfl)).1.trans f1476
  have f1538 : ty w1528 (r + 5) = 11 := (A1529 _ (ltk r 5 46 rfl)).2.2.1.trans f1477
  have f1539 : ln w1528 (r + 5) = 7 := (A1529 _ (ltk r 5 46 rfl)).2.2.2.trans f1478
  have f1540 : gi w1528 (r + 5) = (fun _ => 0) := (A1529 _ (ltk r 5 46 rfl)).1.trans f1479
  have f1541 : ty w1528 r = 5 := (A1529 _ (ltk r 0 46 rfl)).2.2.1.trans f1480
  have f1542 : gi w1528 r = (fun _ => 0) := (A1529 _ (ltk r 0 46 rfl)).1.trans f1481
  have f1543 : gr w1528 r 0 = (r + 1) := (congrFun (A1529 _ (ltk r 0 46 rfl)).2.1 _).trans f1482
  have f1544 : gr w1528 r 1 = (r + 2) := (congrFun (A1529 _ (ltk r 0 46 rfl)).2.1 _).trans f1483
  have f1545 : gr w1528 r 2 = (r + 3) := (congrFun (A1529 _ (ltk r 0 46 rfl)).2.1 _).trans f1484
  have f1546 : gr w1528 r 3 = (r + 4) := (congrFun (A1529 _ (ltk r 0 46 rfl)).2.1 _).trans f1485
  have f1547 : gr w1528 r 4 = (r + 5) := (congrFun (A1529 _ (ltk r 0 46 rfl)).2.1 _).trans f1486
  have f1548 : isInks w1528.2 (r + 6) := inks_ag (fun q a b => A1529 q (Nat.lt_of_lt_of_le b (lek r 6 4 46 rfl))) f1487
  have f1549 : ty w1528 (r + 6) = 4 := (A1529 _ (ltk r 6 46 rfl)).2.2.1.trans f1488
  have f1550 : isInks w1528.2 (r + 10) := inks_ag (fun q a b => A1529 q (Nat.lt_of_lt_of_le b (lek r 10 4 46 rfl))) f1489
  have f1551 : ty w1528 (r + 10) = 4 := (A1529 _ (ltk r 10 46 rfl)).2.2.1.trans f1490
  have f1552 : isInks w1528.2 (r + 14) := inks_ag (fun q a b => A1529 q (Nat.lt_of_lt_of_le b (lek r 14 4 46 rfl))) f1491
  have f1553 : ty w1528 (r + 14) = 4 := (A1529 _ (ltk r 14 46 rfl)).2.2.1.trans f1492
  have f1554 : isInks w1528.2 (r + 18) := inks_ag (fun q a b => A1529 q (Nat.lt_of_lt_of_le b (lek r 18 4 46 rfl))) f1493
  have f1555 : ty w1528 (r + 18) = 4 := (A1529 _ (ltk r 18 46 rfl)).2.2.1.trans f1494
  have f1556 : isInks w1528.2 (r + 22) := inks_ag (fun q a b => A1529 q (Nat.lt_of_lt_of_le b (lek r 22 4 46 rfl))) f1495
  have f1557 : ty w1528 (r + 22) = 4 := (A1529 _ (ltk r 22 46 rfl)).2.2.1.trans f1496
  have f1558 : isInks w1528.2 (r + 26) := inks_ag (fun q a b => A1529 q (Nat.lt_of_lt_of_le b (lek r 26 4 46 rfl))) f1497
  have f1559 : ty w1528 (r + 26) = 4 := (A1529 _ (ltk r 26 46 rfl)).2.2.1.trans f1498
  have f1560 : isInks w1528.2 (r + 30) := inks_ag (fun q a b => A1529 q (Nat.lt_of_lt_of_le b (lek r 30 4 46 rfl))) f1499
  have f1561 : ty w1528 (r + 30) = 4 := (A1529 _ (ltk r 30 46 rfl)).2.2.1.trans f1500
  have f1562 : isInks w1528.2 (r + 34) := inks_ag (fun q a b => A1529 q (Nat.lt_of_lt_of_le b (lek r 34 4 46 rfl))) f1501
  have f1563 : ty w1528 (r + 34) = 4 := (A1529 _ (ltk r 34 46 rfl)).2.2.1.trans f1502
  have f1564 : ty w1528 (r + 1) = 14 := (A1529 _ (ltk r 1 46 rfl)).2.2.1.trans f1503
  have f1565 : ln w1528 (r + 1) = 8 := (A1529 _ (ltk r 1 46 rfl)).2.2.2.trans f1504
  have f1566 : gi w1528 (r + 1) = (fun _ => 0) := (A1529 _ (ltk r 1 46 rfl)).1.trans f1505
  have f1567 : gr w1528 (r + 1) 0 = (r + 6) := (congrFun (A1529 _ (ltk r 1 46 rfl)).2.1 _).trans f1506
  have f1568 : gr w1528 (r + 1) 1 = (r + 10) := (congrFun (A1529 _ (ltk r 1 46 rfl)).2.1 _).trans f1507
  have f1569 : gr w1528 (r + 1) 2 = (r + 14) := (congrFun (A1529 _ (ltk r 1 46 rfl)).2.1 _).trans f1508
  have f1570 : gr w1528 (r + 1) 3 = (r + 18) := (congrFun (A1529 _ (ltk r 1 46 rfl)).2.1 _).trans f1509
  have f1571 : gr w1528 (r + 1) 4 = (r + 22) := (congrFun (A1529 _ (ltk r 1 46 rfl)).2.1 _).trans f1510
  have f1572 : gr w1528 (r + 1) 5 = (r + 26) := (congrFun (A1529 _ (ltk r 1 46 rfl)).2.1 _).trans f1511
  have f1573 : gr w1528 (r + 1) 6 = (r + 30) := (congrFun (A1529 _ (ltk r 1 46 rfl)).2.1 _).trans f1512
  have f1574 : gr w1528 (r + 1) 7 = (r + 34) := (congrFun (A1529 _ (ltk r 1 46 rfl)).2.1 _).trans f1513
  have f1575 : isPlan w1528.2 (r + 38) := plan_ag (fun q a b => A1529 q (Nat.lt_of_lt_of_le b (lek r 38 4 46 rfl))) f1514
  have f1576 : ty w1528 (r + 38) = 6 := (A1529 _ (ltk r 38 46 rfl)).2.2.1.trans f1515
  have f1577 : isPlan w1528.2 (r + 42) := plan_ag (fun q a b => A1529 q (Nat.lt_of_lt_of_le b (lek r 42 4 46 rfl))) f1516
  have f1578 : ty w1528 (r + 42) = 6 := (A1529 _ (ltk r 42 46 rfl)).2.2.1.trans f1517
  have f1579 : ty w1528 (r + 2) = 15 := (A1529 _ (ltk r 2 46 rfl)).2.2.1.trans f1518
  have f1580 : ln w1528 (r + 2) = 7 := (A1529 _ (ltk r 2 46 rfl)).2.2.2.trans f1519
  have f1581 : gi w1528 (r + 2) = (fun _ => 0) := (A1529 _ (ltk r 2 46 rfl)).1.trans f1520
  have f1582 : gr w1528 (r + 2) 0 = (r + 38) := (congrFun (A1529 _ (ltk r 2 46 rfl)).2.1 _).trans f1521
  have f1583 : gr w1528 (r + 2) 1 = (r + 42) := (congrFun (A1529 _ (ltk r 2 46 rfl)).2.1 _).trans f1522
  have ni1530 : nx w1528 = r + 50 := hni1530
  have ui1530 : uc w1528 = uc w + 49 := hui1530.trans (congrArg (· + 3) u1525)
  have si1530 : us w1528 = us w + 441 := hsi1530.trans (congrArg (· + 35) s1526)
  have g1584 : ∀ q, q < r → gi w1528 q = gi w q ∧ gr w1528 q = gr w q ∧ ty w1528 q = ty w q ∧ ln w1528 q = ln w q := fun q hq => by have a := A1529 q (Nat.lt_of_lt_of_le hq (Nat.le_add_right r 46)); have b := g1527 q hq; exact ⟨a.1.trans b.1, a.2.1.trans b.2.1, a.2.2.1.trans b.2.2.1, a.2.2.2.trans b.2.2.2⟩
  clear A1529 e1523 f1471 f1472 f1473 f1474 f1475 f1476 f1477 f1478 f1479 f1480 f1481 f1482 f1483 f1484 f1485 f1486 f1487 f1488 f1489 f1490 f1491 f1492 f1493 f1494 f1495 f1496 f1497 f1498 f1499 f1500 f1501 f1502 f1503 f1504 f1505 f1506 f1507 f1508 f1509 f1510 f1511 f1512 f1513 f1514 f1515 f1516 f1517 f1518 f1519 f1520 f1521 f1522 g1527 hA1529 hni1530 hsi1530 hui1530 n1524 s1526 u1525
  refine WP.blk 1 ?_
  show (ref3 (ty w1528 (r + 2)) ∧ 0 ≤ (2 : Int) ∧ (2 : Int) < (ln w1528 (r + 2) : Int) ∧ ty w1528 (r + 46) = el3 (ty w1528 (r + 2))) ∧ WP 2 26 94 [vR r, vI 2] [] (sr w1528 (r + 2) 2 (r + 46)) Q
  refine ⟨⟨Or.inr (Or.inr f1579), by decide, by rw [f1580]; decide, by rw [f1579]; exact f1531.1⟩, ?_⟩
  obtain ⟨w1585, hw1585⟩ : ∃ y9, y9 = sr w1528 (r + 2) 2 (r + 46) := ⟨_, rfl⟩
  rw [← hw1585]
  have A1586 : ∀ q, q ≠ r + 2 → gi w1585 q = gi w1528 q ∧ gr w1585 q = gr w1528 q ∧ ty w1585 q = ty w1528 q ∧ ln w1585 q = ln w1528 q := fun q hq => by rw [hw1585]; exact sr_o hq
  have f1587 : ty w1585 (r + 3) = 11 := (A1586 _ (nek r 3 2 rfl)).2.2.1.trans f1532
  have f1588 : ln w1585 (r + 3) = 7 := (A1586 _ (nek r 3 2 rfl)).2.2.2.trans f1533
  have f1589 : gi w1585 (r + 3) = (fun _ => 0) := (A1586 _ (nek r 3 2 rfl)).1.trans f1534
  have f1590 : ty w1585 (r + 4) = 11 := (A1586 _ (nek r 4 2 rfl)).2.2.1.trans f1535
  have f1591 : ln w1585 (r + 4) = 7 := (A1586 _ (nek r 4 2 rfl)).2.2.2.trans f1536
  have f1592 : gi w1585 (r + 4) = (fun _ => 0) := (A1586 _ (nek r 4 2 rfl)).1.trans f1537
  have f1593 : ty w1585 (r + 5) = 11 := (A1586 _ (nek r 5 2 rfl)).2.2.1.trans f1538
  have f1594 : ln w1585 (r + 5) = 7 := (A1586 _ (nek r 5 2 rfl)).2.2.2.trans f1539
  have f1595 : gi w1585 (r + 5) = (fun _ => 0) := (A1586 _ (nek r 5 2 rfl)).1.trans f1540
  have f1596 : ty w1585 r = 5 := (A1586 _ (nek r 0 2 rfl)).2.2.1.trans f1541
  have f1597 : gi w1585 r = (fun _ => 0) := (A1586 _ (nek r 0 2 rfl)).1.trans f1542
  have f1598 : gr w1585 r 0 = (r + 1) := (congrFun (A1586 _ (nek r 0 2 rfl)).2.1 _).trans f1543
  have f1599 : gr w1585 r 1 = (r + 2) := (congrFun (A1586 _ (nek r 0 2 rfl)).2.1 _).trans f1544
  have f1600 : gr w1585 r 2 = (r + 3) := (congrFun (A1586 _ (nek r 0 2 rfl)).2.1 _).trans f1545
  have f1601 : gr w1585 r 3 = (r + 4) := (congrFun (A1586 _ (nek r 0 2 rfl)).2.1 _).trans f1546
  have f1602 : gr w1585 r 4 = (r + 5) := (congrFun (A1586 _ (nek r 0 2 rfl)).2.1 _).trans f1547
  have f1603 : isInks w1585.2 (r + 6) := inks_ag (fun q a b => A1586 q (Nat.ne_of_gt (Nat.lt_of_lt_of_le (ltk r 2 6 rfl) a))) f1548
  have f1604 : ty w1585 (r + 6) = 4 := (A1586 _ (nek r 6 2 rfl)).2.2.1.trans f1549
  have f1605 : isInks w1585.2 (r + 10) := inks_ag (fun q a b => A1586 q (Nat.ne_of_gt (Nat.lt_of_lt_of_le (ltk r 2 10 rfl) a))) f1550
  have f1606 : ty w1585 (r + 10) = 4 := (A1586 _ (nek r 10 2 rfl)).2.2.1.trans f1551
  have f1607 : isInks w1585.2 (r + 14) := inks_ag (fun q a b => A1586 q (Nat.ne_of_gt (Nat.lt_of_lt_of_le (ltk r 2 14 rfl) a))) f1552
  have f1608 : ty w1585 (r + 14) = 4 := (A1586 _ (nek r 14 2 rfl)).2.2.1.trans f1553
  have f1609 : isInks w1585.2 (r + 18) := inks_ag (fun q a b => A1586 q (Nat.ne_of_gt (Nat.lt_of_lt_of_le (ltk r 2 18 rfl) a))) f1554
  have f1610 : ty w1585 (r + 18) = 4 := (A1586 _ (nek r 18 2 rfl)).2.2.1.trans f1555
  have f1611 : isInks w1585.2 (r + 22) := inks_ag (fun q a b => A1586 q (Nat.ne_of_gt (Nat.lt_of_lt_of_le (ltk r 2 22 rfl) a))) f1556
  have f1612 : ty w1585 (r + 22) = 4 := (A1586 _ (nek r 22 2 rfl)).2.2.1.trans f1557
  have f1613 : isInks w1585.2 (r + 26) := inks_ag (fun q a b => A1586 q (Nat.ne_of_gt (Nat.lt_of_lt_of_le (ltk r 2 26 rfl) a))) f1558
  have f1614 : ty w1585 (r + 26) = 4 := (A1586 _ (nek r 26 2 rfl)).2.2.1.trans f1559
  have f1615 : isInks w1585.2 (r + 30) := inks_ag (fun q a b => A1586 q (Nat.ne_of_gt (Nat.lt_of_lt_of_le (ltk r 2 30 rfl) a))) f1560
  have f1616 : ty w1585 (r + 30) = 4 := (A1586 _ (nek r 30 2 rfl)).2.2.1.trans f1561
  have f1617 : isInks w1585.2 (r + 34) := inks_ag (fun q a b => A1586 q (Nat.ne_of_gt (Nat.lt_of_lt_of_le (ltk r 2 34 rfl) a))) f1562
  have f1618 : ty w1585 (r + 34) = 4 := (A1586 _ (nek r 34 2 rfl)).2.2.1.trans f1563
  have f1619 : ty w1585 (r + 1) = 14 := (A1586 _ (nek r 1 2 rfl)).2.2.1.trans f1564
  have f1620 : ln w1585 (r + 1) = 8 := (A1586 _ (nek r 1 2 rfl)).2.2.2.trans f1565
  have f1621 : gi w1585 (r + 1) = (fun _ => 0) := (A1586 _ (nek r 1 2 rfl)).1.trans f1566
  have f1622 : gr w1585 (r + 1) 0 = (r + 6) := (congrFun (A1586 _ (nek r 1 2 rfl)).2.1 _).trans f1567
  have f1623 : gr w1585 (r + 1) 1 = (r + 10) := (congrFun (A1586 _ (nek r 1 2 rfl)).2.1 _).trans f1568
  have f1624 : gr w1585 (r + 1) 2 = (r + 14) := (congrFun (A1586 _ (nek r 1 2 rfl)).2.1 _).trans f1569
  have f1625 : gr w1585 (r + 1) 3 = (r + 18) := (congrFun (A1586 _ (nek r 1 2 rfl)).2.1 _).trans f1570
  have f1626 : gr w1585 (r + 1) 4 = (r + 22) := (congrFun (A1586 _ (nek r 1 2 rfl)).2.1 _).trans f1571
  have f1627 : gr w1585 (r + 1) 5 = (r + 26) := (congrFun (A1586 _ (nek r 1 2 rfl)).2.1 _).trans f1572
  have f1628 : gr w1585 (r + 1) 6 = (r + 30) := (congrFun (A1586 _ (nek r 1 2 rfl)).2.1 _).trans f1573
  have f1629 : gr w1585 (r + 1) 7 = (r + 34) := (congrFun (A1586 _ (nek r 1 2 rfl)).2.1 _).trans f1574
  have f1630 : isPlan w1585.2 (r + 38) := plan_ag (fun q a b => A1586 q (Nat.ne_of_gt (Nat.lt_of_lt_of_le (ltk r 2 38 rfl) a))) f1575
  have f1631 : ty w1585 (r + 38) = 6 := (A1586 _ (nek r 38 2 rfl)).2.2.1.trans f1576
  have f1632 : isPlan w1585.2 (r + 42) := plan_ag (fun q a b => A1586 q (Nat.ne_of_gt (Nat.lt_of_lt_of_le (ltk r 2 42 rfl) a))) f1577
  have f1633 : ty w1585 (r + 42) = 6 := (A1586 _ (nek r 42 2 rfl)).2.2.1.trans f1578
  have f1634 : isPlan w1585.2 (r + 46) := plan_ag (fun q a b => A1586 q (Nat.ne_of_gt (Nat.lt_of_lt_of_le (ltk r 2 46 rfl) a))) f1531
  have f1635 : ty w1585 (r + 46) = 6 := (A1586 _ (nek r 46 2 rfl)).2.2.1.trans f1531.1
  have f1636 : ty w1585 (r + 2) = 15 := by rw [hw1585]; exact f1579
  have f1637 : ln w1585 (r + 2) = 7 := by rw [hw1585]; exact f1580
  have f1638 : gi w1585 (r + 2) = (fun _ => 0) := by rw [hw1585]; exact f1581
  have f1639 : gr w1585 (r + 2) 0 = (r + 38) := by rw [hw1585]; exact (sr_k (by decide)).trans f1582
  have f1640 : gr w1585 (r + 2) 1 = (r + 42) := by rw [hw1585]; exact (sr_k (by decide)).trans f1583
  have f1641 : gr w1585 (r + 2) 2 = (r + 46) := by rw [hw1585]; exact sr_e
  have n1642 : nx w1585 = r + 50 := by rw [hw1585]; exact ni1530
  have u1643 : uc w1585 = uc w + 49 := by rw [hw1585]; exact ui1530
  have s1644 : us w1585 = us w + 441 := by rw [hw1585]; exact si1530
  have g1645 : ∀ q, q < r → gi w1585 q = gi w q ∧ gr w1585 q = gr w q ∧ ty w1585 q = ty w q ∧ ln w1585 q = ln w q := fun q hq => by have a := A1586 q (Nat.ne_of_lt (Nat.lt_of_lt_of_le hq (Nat.le_add_right r 2))); have b := g1584 q hq; exact ⟨a.1.trans b.1, a.2.1.trans b.2.1, a.2.2.1.trans b.2.2.1, a.2.2.2.trans b.2.2.2⟩
  clear A1586 f1531 f1532 f1533 f1534 f1535 f1536 f1537 f1538 f1539 f1540 f1541 f1542 f1543 f1544 f1545 f1546 f1547 f1548 f1549 f1550 f1551 f1552 f1553 f1554 f1555 f1556 f1557 f1558 f1559 f1560 f1561 f1562 f1563 f1564 f1565 f1566 f1567 f1568 f1569 f1570 f1571 f1572 f1573 f1574 f1575 f1576 f1577 f1578 f1579 f1580 f1581 f1582 f1583 g1584 hw1585 ni1530 si1530 ui1530
  refine WP.blk 1 ?_
  show ir (2 + 1) ∧ WP 2 26 97 [vR r, vI 3] [] w1585 Q
  refine ⟨⟨by decide, by decide⟩, ?_⟩
  refine WP.blk 1 ?_
  show WP 2 26 75 [vR r, vI 3] [] w1585 Q
  refine WP.blk 1 ?_
  show WP 2 26 76 [vR r, vI 3] [vI 3] w1585 Q
  refine WP.blk 1 ?_
  show WP 2 26 78 [vR r, vI 3] [vI 7, vI 3] w1585 Q
  refine WP.blk 1 ?_
  show WP 2 26 81 [vR r, vI 3] [] w1585 Q
  refine WP.blk 1 ?_
  show WP 2 26 82 [vR r, vI 3] [vR r] w1585 Q
  refine WP.blk 1 ?_
  show (ty w1585 r = 5 ∧ gr w1585 r 1 ≠ 0) ∧ WP 2 26 85 [vR r, vI 3] [vR (gr w1585 r 1)] w1585 Q
  refine ⟨⟨f1596, by rw [f1599]; exact Nat.succ_ne_zero _⟩, ?_⟩
  rw [f1599]
  refine WP.blk 1 ?_
  show WP 2 26 86 [vR r, vI 3] [vI 3, vR (r + 2)] w1585 Q
  refine WP.blk 1 ?_
  show WP 2 26 89 [vR r, vI 3] [vR (nx w1585), vI 3, vR (r + 2)] (mk w1585 6 4) Q
  rw [n1642]
  obtain ⟨w1646, hw1646⟩ : ∃ y9, y9 = mk w1585 6 4 := ⟨_, rfl⟩
  rw [← hw1646]
  have A1647 : ∀ q, q ≠ r + 50 → gi w1646 q = gi w1585 q ∧ gr w1646 q = gr w1585 q ∧ ty w1646 q = ty w1585 q ∧ ln w1646 q = ln w1585 q := fun q hq => by rw [hw1646]; exact mk_o (by rw [n1642]; exact hq)
  have f1648 : ty w1646 (r + 3) = 11 := (A1647 _ (nek r 3 50 rfl)).2.2.1.trans f1587
  have f1649 : ln w1646 (r + 3) = 7 := (A1647 _ (nek r 3 50 rfl)).2.2.2.trans f1588
  have f1650 : gi w1646 (r + 3) = (fun _ => 0) := (A1647 _ (nek r 3 50 rfl)).1.trans f1589
  have f1651 : ty w1646 (r + 4) = 11 := (A1647 _ (nek r 4 50 rfl)).2.2.1.trans f1590
  have f1652 : ln w1646 (r + 4) = 7 := (A1647 _ (nek r 4 50 rfl)).2.2.2.trans f1591
  have f1653 : gi w1646 (r + 4) = (fun _ => 0) := (A1647 _ (nek r 4 50 rfl)).1.trans f1592
  have f1654 : ty w1646 (r + 5) = 11 := (A1647 _ (nek r 5 50 rfl)).2.2.1.trans f1593
  have f1655 : ln w1646 (r + 5) = 7 := (A1647 _ (nek r 5 50 rfl)).2.2.2.trans f1594
  have f1656 : gi w1646 (r + 5) = (fun _ => 0) := (A1647 _ (nek r 5 50 rfl)).1.trans f1595
  have f1657 : ty w1646 r = 5 := (A1647 _ (nek r 0 50 rfl)).2.2.1.trans f1596
  have f1658 : gi w1646 r = (fun _ => 0) := (A1647 _ (nek r 0 50 rfl)).1.trans f1597
  have f1659 : gr w1646 r 0 = (r + 1) := (congrFun (A1647 _ (nek r 0 50 rfl)).2.1 _).trans f1598
  have f1660 : gr w1646 r 1 = (r + 2) := (congrFun (A1647 _ (nek r 0 50 rfl)).2.1 _).trans f1599
  have f1661 : gr w1646 r 2 = (r + 3) := (congrFun (A1647 _ (nek r 0 50 rfl)).2.1 _).trans f1600
  have f1662 : gr w1646 r 3 = (r + 4) := (congrFun (A1647 _ (nek r 0 50 rfl)).2.1 _).trans f1601
  have f1663 : gr w1646 r 4 = (r + 5) := (congrFun (A1647 _ (nek r 0 50 rfl)).2.1 _).trans f1602
  have f1664 : isInks w1646.2 (r + 6) := inks_ag (fun q a b => A1647 q (Nat.ne_of_lt (Nat.lt_of_lt_of_le b (lek r 6 4 50 rfl)))) f1603
  have f1665 : ty w1646 (r + 6) = 4 := (A1647 _ (nek r 6 50 rfl)).2.2.1.trans f1604
  have f1666 : isInks w1646.2 (r + 10) := inks_ag (fun q a b => A1647 q (Nat.ne_of_lt (Nat.lt_of_lt_of_le b (lek r 10 4 50 rfl)))) f1605
  have f1667 : ty w1646 (r + 10) = 4 := (A1647 _ (nek r 10 50 rfl)).2.2.1.trans f1606
  have f1668 : isInks w1646.2 (r + 14) := inks_ag (fun q a b => A1647 q (Nat.ne_of_lt (Nat.lt_of_lt_of_le b (lek r 14 4 50 rfl)))) f1607
  have f1669 : ty w1646 (r + 14) = 4 := (A1647 _ (nek r 14 50 rfl)).2.2.1.trans f1608
  have f1670 : isInks w1646.2 (r + 18) := inks_ag (fun q a b => A1647 q (Nat.ne_of_lt (Nat.lt_of_lt_of_le b (lek r 18 4 50 rfl)))) f1609
  have f1671 : ty w1646 (r + 18) = 4 := (A1647 _ (nek r 18 50 rfl)).2.2.1.trans f1610
  have f1672 : isInks w1646.2 (r + 22) := inks_ag (fun q a b => A1647 q (Nat.ne_of_lt (Nat.lt_of_lt_of_le b (lek r 22 4 50 rfl)))) f1611
  have f1673 : ty w1646 (r + 22) = 4 := (A1647 _ (nek r 22 50 rfl)).2.2.1.trans f1612
  have f1674 : isInks w1646.2 (r + 26) := inks_ag (fun q a b => A1647 q (Nat.ne_of_lt (Nat.lt_of_lt_of_le b (lek r 26 4 50 rfl)))) f1613
  have f1675 : ty w1646 (r + 26) = 4 := (A1647 _ (nek r 26 50 rfl)).2.2.1.trans f1614
  have f1676 : isInks w1646.2 (r + 30) := inks_ag (fun q a b => A1647 q (Nat.ne_of_lt (Nat.lt_of_lt_of_le b (lek r 30 4 50 rfl)))) f1615
  have f1677 : ty w1646 (r + 30) = 4 := (A1647 _ (nek r 30 50 rfl)).2.2.1.trans f1616
  have f1678 : isInks w1646.2 (r + 34) := inks_ag (fun q a b => A1647 q (Nat.ne_of_lt (Nat.lt_of_lt_of_le b (lek r 34 4 50 rfl)))) f1617
  have f1679 : ty w1646 (r + 34) = 4 := (A1647 _ (nek r 34 50 rfl)).2.2.1.trans f1618
  have f1680 : ty w1646 (r + 1) = 14 := (A1647 _ (nek r 1 50 rfl)).2.2.1.trans f1619
  have f1681 : ln w1646 (r + 1) = 8 := (A1647 _ (nek r 1 50 rfl)).2.2.2.trans f1620
  have f1682 : gi w1646 (r + 1) = (fun _ => 0) := (A1647 _ (nek r 1 50 rfl)).1.trans f1621
  have f1683 : gr w1646 (r + 1) 0 = (r + 6) := (congrFun (A1647 _ (nek r 1 50 rfl)).2.1 _).trans f1622
  have f1684 : gr w1646 (r + 1) 1 = (r + 10) := (congrFun (A1647 _ (nek r 1 50 rfl)).2.1 _).trans f1623
  have f1685 : gr w1646 (r + 1) 2 = (r + 14) := (congrFun (A1647 _ (nek r 1 50 rfl)).2.1 _).trans f1624
  have f1686 : gr w1646 (r + 1) 3 = (r + 18) := (congrFun (A1647 _ (nek r 1 50 rfl)).2.1 _).trans f1625
  have f1687 : gr w1646 (r + 1) 4 = (r + 22) := (congrFun (A1647 _ (nek r 1 50 rfl)).2.1 _).trans f1626
  have f1688 : gr w1646 (r + 1) 5 = (r + 26) := (congrFun (A1647 _ (nek r 1 50 rfl)).2.1 _).trans f1627
  have f1689 : gr w1646 (r + 1) 6 = (r + 30) := (congrFun (A1647 _ (nek r 1 50 rfl)).2.1 _).trans f1628
  have f1690 : gr w1646 (r + 1) 7 = (r + 34) := (congrFun (A1647 _ (nek r 1 50 rfl)).2.1 _).trans f1629
  have f1691 : isPlan w1646.2 (r + 38) := plan_ag (fun q a b => A1647 q (Nat.ne_of_lt (Nat.lt_of_lt_of_le b (lek r 38 4 50 rfl)))) f1630
  have f1692 : ty w1646 (r + 38) = 6 := (A1647 _ (nek r 38 50 rfl)).2.2.1.trans f1631
  have f1693 : isPlan w1646.2 (r + 42) := plan_ag (fun q a b => A1647 q (Nat.ne_of_lt (Nat.lt_of_lt_of_le b (lek r 42 4 50 rfl)))) f1632
  have f1694 : ty w1646 (r + 42) = 6 := (A1647 _ (nek r 42 50 rfl)).2.2.1.trans f1633
  have f1695 : isPlan w1646.2 (r + 46) := plan_ag (fun q a b => A1647 q (Nat.ne_of_lt (Nat.lt_of_lt_of_le b (lek r 46 4 50 rfl)))) f1634
  have f1696 : ty w1646 (r + 46) = 6 := (A1647 _ (nek r 46 50 rfl)).2.2.1.trans f1635
  have f1697 : ty w1646 (r + 2) = 15 := (A1647 _ (nek r 2 50 rfl)).2.2.1.trans f1636
  have f1698 : ln w1646 (r + 2) = 7 := (A1647 _ (nek r 2 50 rfl)).2.2.2.trans f1637
  have f1699 : gi w1646 (r + 2) = (fun _ => 0) := (A1647 _ (nek r 2 50 rfl)).1.trans f1638
  have f1700 : gr w1646 (r + 2) 0 = (r + 38) := (congrFun (A1647 _ (nek r 2 50 rfl)).2.1 _).trans f1639
  have f1701 : gr w1646 (r + 2) 1 = (r + 42) := (congrFun (A1647 _ (nek r 2 50 rfl)).2.1 _).trans f1640
  have f1702 : gr w1646 (r + 2) 2 = (r + 46) := (congrFun (A1647 _ (nek r 2 50 rfl)).2.1 _).trans f1641
  have e1703 := mk_e (w := w1585) (t := 6) (n := 4)
  rw [← hw1646, n1642] at e1703
  have n1704 : nx w1646 = r + 51 := by rw [hw1646]; exact congrArg (· + 1) n1642
  have u1705 : uc w1646 = uc w + 50 := by rw [hw1646]; exact congrArg (· + 1) u1643
  have s1706 : us w1646 = us w + 445 := by rw [hw1646]; exact congrArg (· + 4) s1644
  have g1707 : ∀ q, q < r → gi w1646 q = gi w q ∧ gr w1646 q = gr w q ∧ ty w1646 q = ty w q ∧ ln w1646 q = ln w q := fun q hq => by have a := A1647 q (Nat.ne_of_lt (Nat.lt_of_lt_of_le hq (Nat.le_add_right r 50))); have b := g1645 q hq; exact ⟨a.1.trans b.1, a.2.1.trans b.2.1, a.2.2.1.trans b.2.2.1, a.2.2.2.trans b.2.2.2⟩
  clear A1647 f1587 f1588 f1589 f1590 f1591 f1592 f1593 f1594 f1595 f1596 f1597 f1598 f1599 f1600 f1601 f1602 f1603 f1604 f1605 f1606 f1607 f1608 f1609 f1610 f1611 f1612 f1613 f1614 f1615 f1616 f1617 f1618 f1619 f1620 f1621 f1622 f1623 f1624 f1625 f1626 f1627 f1628 f1629 f1630 f1631 f1632 f1633 f1634 f1635 f1636 f1637 f1638 f1639 f1640 f1641 g1645 hw1646 n1642 s1644 u1643
  refine WP.blk 1 ?_
  show WP 2 26 90 [vR r, vI 3] [vR (r + 50), vR (r + 50), vI 3, vR (r + 2)] w1646 Q
  refine WP.cl (a := [vR (r + 50)]) (rest := [vR (r + 50), vI 3, vR (r + 2)]) rfl rfl rfl rfl trivial (by decide) (c_plan n1704 e1703.2.1 e1703.1 (fun w1708 hA1709 hni1710 hui1710 hsi1710 f1711 => ⟨rfl, ?_⟩))
  show WP 2 26 93 [vR r, vI 3] [vR (r + 50), vI 3, vR (r + 2)] w1708 Q
  have A1709 : ∀ q, q < r + 50 → gi w1708 q = gi w1646 q ∧ gr w1708 q = gr w1646 q ∧ ty w1708 q = ty w1646 q ∧ ln w1708 q = ln w1646 q := fun q hq => hA1709 q (Nat.zero_le _) hq
  have f1712 : ty w1708 (r + 3) = 11 := (A1709 _ (ltk r 3 50 rfl)).2.2.1.trans f1648
  have f1713 : ln w1708 (r + 3) = 7 := (A1709 _ (ltk r 3 50 rfl)).2.2.2.trans f1649
  have f1714 : gi w1708 (r + 3) = (fun _ => 0) := (A1709 _ (ltk r 3 50 rfl)).1.trans f1650
  have f1715 : ty w1708 (r + 4) = 11 := (A1709 _ (ltk r 4 50 rfl)).2.2.1.trans f1651
  have f1716 : ln w1708 (r + 4) = 7 := (A1709 _ (ltk r 4 50 rfl)).2.2.2.trans f1652
  have f1717 : gi w1708 (r + 4) = (fun _ => 0) := (A1709 _ (ltk r 4 50 rfl)).1.trans f1653
  have f1718 : ty w1708 (r + 5) = 11 := (A1709 _ (ltk r 5 50 rfl)).2.2.1.trans f1654
  have f1719 : ln w1708 (r + 5) = 7 := (A1709 _ (ltk r 5 50 rfl)).2.2.2.trans f1655
  have f1720 : gi w1708 (r + 5) = (fun _ => 0) := (A1709 _ (ltk r 5 50 rfl)).1.trans f1656
  have f1721 : ty w1708 r = 5 := (A1709 _ (ltk r 0 50 rfl)).2.2.1.trans f1657
  have f1722 : gi w1708 r = (fun _ => 0) := (A1709 _ (ltk r 0 50 rfl)).1.trans f1658
  have f1723 : gr w1708 r 0 = (r + 1) := (congrFun (A1709 _ (ltk r 0 50 rfl)).2.1 _).trans f1659
  have f1724 : gr w1708 r 1 = (r + 2) := (congrFun (A1709 _ (ltk r 0 50 rfl)).2.1 _).trans f1660
  have f1725 : gr w1708 r 2 = (r + 3) := (congrFun (A1709 _ (ltk r 0 50 rfl)).2.1 _).trans f1661
  have f1726 : gr w1708 r 3 = (r + 4) := (congrFun (A1709 _ (ltk r 0 50 rfl)).2.1 _).trans f1662
  have f1727 : gr w1708 r 4 = (r + 5) := (congrFun (A1709 _ (ltk r 0 50 rfl)).2.1 _).trans f1663
  have f1728 : isInks w1708.2 (r + 6) := inks_ag (fun q a b => A1709 q (Nat.lt_of_lt_of_le b (lek r 6 4 50 rfl))) f1664
  have f1729 : ty w1708 (r + 6) = 4 := (A1709 _ (ltk r 6 50 rfl)).2.2.1.trans f1665
  have f1730 : isInks w1708.2 (r + 10) := inks_ag (fun q a b => A1709 q (Nat.lt_of_lt_of_le b (lek r 10 4 50 rfl))) f1666
  have f1731 : ty w1708 (r + 10) = 4 := (A1709 _ (ltk r 10 50 rfl)).2.2.1.trans f1667
  have f1732 : isInks w1708.2 (r + 14) := inks_ag (fun q a b => A1709 q (Nat.lt_of_lt_of_le b (lek r 14 4 50 rfl))) f1668
  have f1733 : ty w1708 (r + 14) = 4 := (A1709 _ (ltk r 14 50 rfl)).2.2.1.trans f1669
  have f1734 : isInks w1708.2 (r + 18) := inks_ag (fun q a b => A1709 q (Nat.lt_of_lt_of_le b (lek r 18 4 50 rfl))) f1670
  have f1735 : ty w1708 (r + 18) = 4 := (A1709 _ (ltk r 18 50 rfl)).2.2.1.trans f1671
  have f1736 : isInks w1708.2 (r + 22) := inks_ag (fun q a b => A1709 q (Nat.lt_of_lt_of_le b (lek r 22 4 50 rfl))) f1672
  have f1737 : ty w1708 (r + 22) = 4 := (A1709 _ (ltk r 22 50 rfl)).2.2.1.trans f1673
  have f1738 : isInks w1708.2 (r + 26) := inks_ag (fun q a b => A1709 q (Nat.lt_of_lt_of_le b (lek r 26 4 50 rfl))) f1674
  have f1739 : ty w1708 (r + 26) = 4 := (A1709 _ (ltk r 26 50 rfl)).2.2.1.trans f1675
  have f1740 : isInks w1708.2 (r + 30) := inks_ag (fun q a b => A1709 q (Nat.lt_of_lt_of_le b (lek r 30 4 50 rfl))) f1676
  have f1741 : ty w1708 (r + 30) = 4 := (A1709 _ (ltk r 30 50 rfl)).2.2.1.trans f1677
  have f1742 : isInks w1708.2 (r + 34) := inks_ag (fun q a b => A1709 q (Nat.lt_of_lt_of_le b (lek r 34 4 50 rfl))) f1678
  have f1743 : ty w1708 (r + 34) = 4 := (A1709 _ (ltk r 34 50 rfl)).2.2.1.trans f1679
  have f1744 : ty w1708 (r + 1) = 14 := (A1709 _ (ltk r 1 50 rfl)).2.2.1.trans f1680
  have f1745 : ln w1708 (r + 1) = 8 := (A1709 _ (ltk r 1 50 rfl)).2.2.2.trans f1681
  have f1746 : gi w1708 (r + 1) = (fun _ => 0) := (A1709 _ (ltk r 1 50 rfl)).1.trans f1682
  have f1747 : gr w1708 (r + 1) 0 = (r + 6) := (congrFun (A1709 _ (ltk r 1 50 rfl)).2.1 _).trans f1683
  have f1748 : gr w1708 (r + 1) 1 = (r + 10) := (congrFun (A1709 _ (ltk r 1 50 rfl)).2.1 _).trans f1684
  have f1749 : gr w1708 (r + 1) 2 = (r + 14) := (congrFun (A1709 _ (ltk r 1 50 rfl)).2.1 _).trans f1685
  have f1750 : gr w1708 (r + 1) 3 = (r + 18) := (congrFun (A1709 _ (ltk r 1 50 rfl)).2.1 _).trans f1686
  have f1751 : gr w1708 (r + 1) 4 = (r + 22) := (congrFun (A1709 _ (ltk r 1 50 rfl)).2.1 _).trans f1687
  have f1752 : gr w1708 (r + 1) 5 = (r + 26) := (congrFun (A1709 _ (ltk r 1 50 rfl)).2.1 _).trans f1688
  have f1753 : gr w1708 (r + 1) 6 = (r + 30) := (congrFun (A1709 _ (ltk r 1 50 rfl)).2.1 _).trans f1689
  have f1754 : gr w1708 (r + 1) 7 = (r + 34) := (congrFun (A1709 _ (ltk r 1 50 rfl)).2.1 _).trans f1690
  have f1755 : isPlan w1708.2 (r + 38) := plan_ag (fun q a b => A1709 q (Nat.lt_of_lt_of_le b (lek r 38 4 50 rfl))) f1691
  have f1756 : ty w1708 (r + 38) = 6 := (A1709 _ (ltk r 38 50 rfl)).2.2.1.trans f1692
  have f1757 : isPlan w1708.2 (r + 42) := plan_ag (fun q a b => A1709 q (Nat.lt_of_lt_of_le b (lek r 42 4 50 rfl))) f1693
  have f1758 : ty w1708 (r + 42) = 6 := (A1709 _ (ltk r 42 50 rfl)).2.2.1.trans f1694
  have f1759 : isPlan w1708.2 (r + 46) := plan_ag (fun q a b => A1709 q (Nat.lt_of_lt_of_le b (lek r 46 4 50 rfl))) f1695
  have f1760 : ty w1708 (r + 46) = 6 := (A1709 _ (ltk r 46 50 rfl)).2.2.1.trans f1696
  have f1761 : ty w1708 (r + 2) = 15 := (A1709 _ (ltk r 2 50 rfl)).2.2.1.trans f1697
  have f1762 : ln w1708 (r + 2) = 7 := (A1709 _ (ltk r 2 50 rfl)).2.2.2.trans f1698
  have f1763 : gi w1708 (r + 2) = (fun _ => 0) := (A1709 _ (ltk r 2 50 rfl)).1.trans f1699
  have f1764 : gr w1708 (r + 2) 0 = (r + 38) := (congrFun (A1709 _ (ltk r 2 50 rfl)).2.1 _).trans f1700
  have f1765 : gr w1708 (r + 2) 1 = (r + 42) := (congrFun (A1709 _ (ltk r 2 50 rfl)).2.1 _).trans f1701
  have f1766 : gr w1708 (r + 2) 2 = (r + 46) := (congrFun (A1709 _ (ltk r 2 50 rfl)).2.1 _).trans f1702
  have ni1710 : nx w1708 = r + 54 := hni1710
  have ui1710 : uc w1708 = uc w + 53 := hui1710.trans (congrArg (· + 3) u1705)
  have si1710 : us w1708 = us w + 480 := hsi1710.trans (congrArg (· + 35) s1706)
  have g1767 : ∀ q, q < r → gi w1708 q = gi w q ∧ gr w1708 q = gr w q ∧ ty w1708 q = ty w q ∧ ln w1708 q = ln w q := fun q hq => by have a := A1709 q (Nat.lt_of_lt_of_le hq (Nat.le_add_right r 50)); have b := g1707 q hq; exact ⟨a.1.trans b.1, a.2.1.trans b.2.1, a.2.2.1.trans b.2.2.1, a.2.2.2.trans b.2.2.2⟩
  clear A1709 e1703 f1648 f1649 f1650 f1651 f1652 f1653 f1654 f1655 f1656 f1657 f1658 f1659 f1660 f1661 f1662 f1663 f1664 f1665 f1666 f1667 f1668 f1669 f1670 f1671 f1672 f1673 f1674 f1675 f1676 f1677 f1678 f1679 f1680 f1681 f1682 f1683 f1684 f1685 f1686 f1687 f1688 f1689 f1690 f1691 f1692 f1693 f1694 f1695 f1696 f1697 f1698 f1699 f1700 f1701 f1702 g1707 hA1709 hni1710 hsi1710 hui1710 n1704 s1706 u1705
  refine WP.blk 1 ?_
  show (ref3 (ty w1708 (r + 2)) ∧ 0 ≤ (3 : Int) ∧ (3 : Int) < (ln w1708 (r + 2) : Int) ∧ ty w1708 (r + 50) = el3 (ty w1708 (r + 2))) ∧ WP 2 26 94 [vR r, vI 3] [] (sr w1708 (r + 2) 3 (r + 50)) Q
  refine ⟨⟨Or.inr (Or.inr f1761), by decide, by rw [f1762]; decide, by rw [f1761]; exact f1711.1⟩, ?_⟩
  obtain ⟨w1768, hw1768⟩ : ∃ y9, y9 = sr w1708 (r + 2) 3 (r + 50) := ⟨_, rfl⟩
  rw [← hw1768]
  have A1769 : ∀ q, q ≠ r + 2 → gi w1768 q = gi w1708 q ∧ gr w1768 q = gr w1708 q ∧ ty w1768 q = ty w1708 q ∧ ln w1768 q = ln w1708 q := fun q hq => by rw [hw1768]; exact sr_o hq
  have f1770 : ty w1768 (r + 3) = 11 := (A1769 _ (nek r 3 2 rfl)).2.2.1.trans f1712
  have f1771 : ln w1768 (r + 3) = 7 := (A1769 _ (nek r 3 2 rfl)).2.2.2.trans f1713
  have f1772 : gi w1768 (r + 3) = (fun _ => 0) := (A1769 _ (nek r 3 2 rfl)).1.trans f1714
  have f1773 : ty w1768 (r + 4) = 11 := (A1769 _ (nek r 4 2 rfl)).2.2.1.trans f1715
  have f1774 : ln w1768 (r + 4) = 7 := (A1769 _ (nek r 4 2 rfl)).2.2.2.trans f1716
  have f1775 : gi w1768 (r + 4) = (fun _ => 0) := (A1769 _ (nek r 4 2 rfl)).1.trans f1717
  have f1776 : ty w1768 (r + 5) = 11 := (A1769 _ (nek r 5 2 rfl)).2.2.1.trans f1718
  have f1777 : ln w1768 (r + 5) = 7 := (A1769 _ (nek r 5 2 rfl)).2.2.2.trans f1719
  have f1778 : gi w1768 (r + 5) = (fun _ => 0) := (A1769 _ (nek r 5 2 rfl)).1.trans f1720
  have f1779 : ty w1768 r = 5 := (A1769 _ (nek r 0 2 rfl)).2.2.1.trans f1721
  have f1780 : gi w1768 r = (fun _ => 0) := (A1769 _ (nek r 0 2 rfl)).1.trans f1722
  have f1781 : gr w1768 r 0 = (r + 1) := (congrFun (A1769 _ (nek r 0 2 rfl)).2.1 _).trans f1723
  have f1782 : gr w1768 r 1 = (r + 2) := (congrFun (A1769 _ (nek r 0 2 rfl)).2.1 _).trans f1724
  have f1783 : gr w1768 r 2 = (r + 3) := (congrFun (A1769 _ (nek r 0 2 rfl)).2.1 _).trans f1725
  have f1784 : gr w1768 r 3 = (r + 4) := (congrFun (A1769 _ (nek r 0 2 rfl)).2.1 _).trans f1726
  have f1785 : gr w1768 r 4 = (r + 5) := (congrFun (A1769 _ (nek r 0 2 rfl)).2.1 _).trans f1727
  have f1786 : isInks w1768.2 (r + 6) := inks_ag (fun q a b => A1769 q (Nat.ne_of_gt (Nat.lt_of_lt_of_le (ltk r 2 6 rfl) a))) f1728
  have f1787 : ty w1768 (r + 6) = 4 := (A1769 _ (nek r 6 2 rfl)).2.2.1.trans f1729
  have f1788 : isInks w1768.2 (r + 10) := inks_ag (fun q a b => A1769 q (Nat.ne_of_gt (Nat.lt_of_lt_of_le (ltk r 2 10 rfl) a))) f1730
  have f1789 : ty w1768 (r + 10) = 4 := (A1769 _ (nek r 10 2 rfl)).2.2.1.trans f1731
  have f1790 : isInks w1768.2 (r + 14) := inks_ag (fun q a b => A1769 q (Nat.ne_of_gt (Nat.lt_of_lt_of_le (ltk r 2 14 rfl) a))) f1732
  have f1791 : ty w1768 (r + 14) = 4 := (A1769 _ (nek r 14 2 rfl)).2.2.1.trans f1733
  have f1792 : isInks w1768.2 (r + 18) := inks_ag (fun q a b => A1769 q (Nat.ne_of_gt (Nat.lt_of_lt_of_le (ltk r 2 18 rfl) a))) f1734
  have f1793 : ty w1768 (r + 18) = 4 := (A1769 _ (nek r 18 2 rfl)).2.2.1.trans f1735
  have f1794 : isInks w1768.2 (r + 22) := inks_ag (fun q a b => A1769 q (Nat.ne_of_gt (Nat.lt_of_lt_of_le (ltk r 2 22 rfl) a))) f1736
  have f1795 : ty w1768 (r + 22) = 4 := (A1769 _ (nek r 22 2 rfl)).2.2.1.trans f1737
  have f1796 : isInks w1768.2 (r + 26) := inks_ag (fun q a b => A1769 q (Nat.ne_of_gt (Nat.lt_of_lt_of_le (ltk r 2 26 rfl) a))) f1738
  have f1797 : ty w1768 (r + 26) = 4 := (A1769 _ (nek r 26 2 rfl)).2.2.1.trans f1739
  have f1798 : isInks w1768.2 (r + 30) := inks_ag (fun q a b => A1769 q (Nat.ne_of_gt (Nat.lt_of_lt_of_le (ltk r 2 30 rfl) a))) f1740
  have f1799 : ty w1768 (r + 30) = 4 := (A1769 _ (nek r 30 2 rfl)).2.2.1.trans f1741
  have f1800 : isInks w1768.2 (r + 34) := inks_ag (fun q a b => A1769 q (Nat.ne_of_gt (Nat.lt_of_lt_of_le (ltk r 2 34 rfl) a))) f1742
  have f1801 : ty w1768 (r + 34) = 4 := (A1769 _ (nek r 34 2 rfl)).2.2.1.trans f1743
  have f1802 : ty w1768 (r + 1) = 14 := (A1769 _ (nek r 1 2 rfl)).2.2.1.trans f1744
  have f1803 : ln w1768 (r + 1) = 8 := (A1769 _ (nek r 1 2 rfl)).2.2.2.trans f1745
  have f1804 : gi w1768 (r + 1) = (fun _ => 0) := (A1769 _ (nek r 1 2 rfl)).1.trans f1746
  have f1805 : gr w1768 (r + 1) 0 = (r + 6) := (congrFun (A1769 _ (nek r 1 2 rfl)).2.1 _).trans f1747
  have f1806 : gr w1768 (r + 1) 1 = (r + 10) := (congrFun (A1769 _ (nek r 1 2 rfl)).2.1 _).trans f1748
  have f1807 : gr w1768 (r + 1) 2 = (r + 14) := (congrFun (A1769 _ (nek r 1 2 rfl)).2.1 _).trans f1749
  have f1808 : gr w1768 (r + 1) 3 = (r + 18) := (congrFun (A1769 _ (nek r 1 2 rfl)).2.1 _).trans f1750
  have f1809 : gr w1768 (r + 1) 4 = (r + 22) := (congrFun (A1769 _ (nek r 1 2 rfl)).2.1 _).trans f1751
  have f1810 : gr w1768 (r + 1) 5 = (r + 26) := (congrFun (A1769 _ (nek r 1 2 rfl)).2.1 _).trans f1752
  have f1811 : gr w1768 (r + 1) 6 = (r + 30) := (congrFun (A1769 _ (nek r 1 2 rfl)).2.1 _).trans f1753
  have f1812 : gr w1768 (r + 1) 7 = (r + 34) := (congrFun (A1769 _ (nek r 1 2 rfl)).2.1 _).trans f1754
  have f1813 : isPlan w1768.2 (r + 38) := plan_ag (fun q a b => A1769 q (Nat.ne_of_gt (Nat.lt_of_lt_of_le (ltk r 2 38 rfl) a))) f1755
  have f1814 : ty w1768 (r + 38) = 6 := (A1769 _ (nek r 38 2 rfl)).2.2.1.trans f1756
  have f1815 : isPlan w1768.2 (r + 42) := plan_ag (fun q a b => A1769 q (Nat.ne_of_gt (Nat.lt_of_lt_of_le (ltk r 2 42 rfl) a))) f1757
  have f1816 : ty w1768 (r + 42) = 6 := (A1769 _ (nek r 42 2 rfl)).2.2.1.trans f1758
  have f1817 : isPlan w1768.2 (r + 46) := plan_ag (fun q a b => A1769 q (Nat.ne_of_gt (Nat.lt_of_lt_of_le (ltk r 2 46 rfl) a))) f1759
  have f1818 : ty w1768 (r + 46) = 6 := (A1769 _ (nek r 46 2 rfl)).2.2.1.trans f1760
  have f1819 : isPlan w1768.2 (r + 50) := plan_ag (fun q a b => A1769 q (Nat.ne_of_gt (Nat.lt_of_lt_of_le (ltk r 2 50 rfl) a))) f1711
  have f1820 : ty w1768 (r + 50) = 6 := (A1769 _ (nek r 50 2 rfl)).2.2.1.trans f1711.1
  have f1821 : ty w1768 (r + 2) = 15 := by rw [hw1768]; exact f1761
  have f1822 : ln w1768 (r + 2) = 7 := by rw [hw1768]; exact f1762
  have f1823 : gi w1768 (r + 2) = (fun _ => 0) := by rw [hw1768]; exact f1763
  have f1824 : gr w1768 (r + 2) 0 = (r + 38) := by rw [hw1768]; exact (sr_k (by decide)).trans f1764
  have f1825 : gr w1768 (r + 2) 1 = (r + 42) := by rw [hw1768]; exact (sr_k (by decide)).trans f1765
  have f1826 : gr w1768 (r + 2) 2 = (r + 46) := by rw [hw1768]; exact (sr_k (by decide)).trans f1766
  have f1827 : gr w1768 (r + 2) 3 = (r + 50) := by rw [hw1768]; exact sr_e
  have n1828 : nx w1768 = r + 54 := by rw [hw1768]; exact ni1710
  have u1829 : uc w1768 = uc w + 53 := by rw [hw1768]; exact ui1710
  have s1830 : us w1768 = us w + 480 := by rw [hw1768]; exact si1710
  have g1831 : ∀ q, q < r → gi w1768 q = gi w q ∧ gr w1768 q = gr w q ∧ ty w1768 q = ty w q ∧ ln w1768 q = ln w q := fun q hq => by have a := A1769 q (Nat.ne_of_lt (Nat.lt_of_lt_of_le hq (Nat.le_add_right r 2))); have b := g1767 q hq; exact ⟨a.1.trans b.1, a.2.1.trans b.2.1, a.2.2.1.trans b.2.2.1, a.2.2.2.trans b.2.2.2⟩
  clear A1769 f1711 f1712 f1713 f1714 f1715 f1716 f1717 f1718 f1719 f1720 f1721 f1722 f1723 f1724 f1725 f1726 f1727 f1728 f1729 f1730 f1731 f1732 f1733 f1734 f1735 f1736 f1737 f1738 f1739 f1740 f1741 f1742 f1743 f1744 f1745 f1746 f1747 f1748 f1749 f1750 f1751 f1752 f1753 f1754 f1755 f1756 f1757 f1758 f1759 f1760 f1761 f1762 f1763 f1764 f1765 f1766 g1767 hw1768 ni1710 si1710 ui1710
  refine WP.blk 1 ?_
  show ir (3 + 1) ∧ WP 2 26 97 [vR r, vI 4] [] w1768 Q
  refine ⟨⟨by decide, by decide⟩, ?_⟩
  refine WP.blk 1 ?_
  show WP 2 26 75 [vR r, vI 4] [] w1768 Q
  refine WP.blk 1 ?_
  show WP 2 26 76 [vR r, vI 4] [vI 4] w1768 Q
  refine WP.blk 1 ?_
  show WP 2 26 78 [vR r, vI 4] [vI 7, vI 4] w1768 Q
  refine WP.blk 1 ?_
  show WP 2 26 81 [vR r, vI 4] [] w1768 Q
  refine WP.blk 1 ?_
  show WP 2 26 82 [vR r, vI 4] [vR r] w1768 Q
  refine WP.blk 1 ?_
  show (ty w1768 r = 5 ∧ gr w1768 r 1 ≠ 0) ∧ WP 2 26 85 [vR r, vI 4] [vR (gr w1768 r 1)] w1768 Q
  refine ⟨⟨f1779, by rw [f1782]; exact Nat.succ_ne_zero _⟩, ?_⟩
  rw [f1782]
  refine WP.blk 1 ?_
  show WP 2 26 86 [vR r, vI 4] [vI 4, vR (r + 2)] w1768 Q
  refine WP.blk 1 ?_
  show WP 2 26 89 [vR r, vI 4] [vR (nx w1768), vI 4, vR (r + 2)] (mk w1768 6 4) Q
  rw [n1828]
  obtain ⟨w1832, hw1832⟩ : ∃ y9, y9 = mk w1768 6 4 := ⟨_, rfl⟩
  rw [← hw1832]
  have A1833 : ∀ q, q ≠ r + 54 → gi w1832 q = gi w1768 q ∧ gr w1832 q = gr w1768 q ∧ ty w1832 q = ty w1768 q ∧ ln w1832 q = ln w1768 q := fun q hq => by rw [hw1832]; exact mk_o (by rw [n1828]; exact hq)
  have f1834 : ty w1832 (r + 3) = 11 := (A1833 _ (nek r 3 54 rfl)).2.2.1.trans f1770
  have f1835 : ln w1832 (r + 3) = 7 := (A1833 _ (nek r 3 54 rfl)).2.2.2.trans f1771
  have f1836 : gi w1832 (r + 3) = (fun _ => 0) := (A1833 _ (nek r 3 54 rfl)).1.trans f1772
  have f1837 : ty w1832 (r + 4) = 11 := (A1833 _ (nek r 4 54 rfl)).2.2.1.trans f1773
  have f1838 : ln w1832 (r + 4) = 7 := (A1833 _ (nek r 4 54 rfl)).2.2.2.trans f1774
  have f1839 : gi w1832 (r + 4) = (fun _ => 0) := (A1833 _ (nek r 4 54 rfl)).1.trans f1775
  have f1840 : ty w1832 (r + 5) = 11 := (A1833 _ (nek r 5 54 rfl)).2.2.1.trans f1776
  have f1841 : ln w1832 (r + 5) = 7 := (A1833 _ (nek r 5 54 rfl)).2.2.2.trans f1777
  have f1842 : gi w1832 (r + 5) = (fun _ => 0) := (A1833 _ (nek r 5 54 rfl)).1.trans f1778
  have f1843 : ty w1832 r = 5 := (A1833 _ (nek r 0 54 rfl)).2.2.1.trans f1779
  have f1844 : gi w1832 r = (fun _ => 0) := (A1833 _ (nek r 0 54 rfl)).1.trans f1780
  have f1845 : gr w1832 r 0 = (r + 1) := (congrFun (A1833 _ (nek r 0 54 rfl)).2.1 _).trans f1781
  have f1846 : gr w1832 r 1 = (r + 2) := (congrFun (A1833 _ (nek r 0 54 rfl)).2.1 _).trans f1782
  have f1847 : gr w1832 r 2 = (r + 3) := (congrFun (A1833 _ (nek r 0 54 rfl)).2.1 _).trans f1783
  have f1848 : gr w1832 r 3 = (r + 4) := (congrFun (A1833 _ (nek r 0 54 rfl)).2.1 _).trans f1784
  have f1849 : gr w1832 r 4 = (r + 5) := (congrFun (A1833 _ (nek r 0 54 rfl)).2.1 _).trans f1785
  have f1850 : isInks w1832.2 (r + 6) := inks_ag (fun q a b => A1833 q (Nat.ne_of_lt (Nat.lt_of_lt_of_le b (lek r 6 4 54 rfl)))) f1786
  have f1851 : ty w1832 (r + 6) = 4 := (A1833 _ (nek r 6 54 rfl)).2.2.1.trans f1787
  have f1852 : isInks w1832.2 (r + 10) := inks_ag (fun q a b => A1833 q (Nat.ne_of_lt (Nat.lt_of_lt_of_le b (lek r 10 4 54 rfl)))) f1788
  have f1853 : ty w1832 (r + 10) = 4 := (A1833 _ (nek r 10 54 rfl)).2.2.1.trans f1789
  have f1854 : isInks w1832.2 (r + 14) := inks_ag (fun q a b => A1833 q (Nat.ne_of_lt (Nat.lt_of_lt_of_le b (lek r 14 4 54 rfl)))) f1790
  have f1855 : ty w1832 (r + 14) = 4 := (A1833 _ (nek r 14 54 rfl)).2.2.1.trans f1791
  have f1856 : isInks w1832.2 (r + 18) := inks_ag (fun q a b => A1833 q (Nat.ne_of_lt (Nat.lt_of_lt_of_le b (lek r 18 4 54 rfl)))) f1792
  have f1857 : ty w1832 (r + 18) = 4 := (A1833 _ (nek r 18 54 rfl)).2.2.1.trans f1793
  have f1858 : isInks w1832.2 (r + 22) := inks_ag (fun q a b => A1833 q (Nat.ne_of_lt (Nat.lt_of_lt_of_le b (lek r 22 4 54 rfl)))) f1794
  have f1859 : ty w1832 (r + 22) = 4 := (A1833 _ (nek r 22 54 rfl)).2.2.1.trans f1795
  have f1860 : isInks w1832.2 (r + 26) := inks_ag (fun q a b => A1833 q (Nat.ne_of_lt (Nat.lt_of_lt_of_le b (lek r 26 4 54 rfl)))) f1796
  have f1861 : ty w1832 (r + 26) = 4 := (A1833 _ (nek r 26 54 rfl)).2.2.1.trans f1797
  have f1862 : isInks w1832.2 (r + 30) := inks_ag (fun q a b => A1833 q (Nat.ne_of_lt (Nat.lt_of_lt_of_le b (lek r 30 4 54 rfl)))) f1798
  have f1863 : ty w1832 (r + 30) = 4 := (A1833 _ (nek r 30 54 rfl)).2.2.1.trans f1799
  have f1864 : isInks w1832.2 (r + 34) := inks_ag (fun q a b => A1833 q (Nat.ne_of_lt (Nat.lt_of_lt_of_le b (lek r 34 4 54 rfl)))) f1800
  have f1865 : ty w1832 (r + 34) = 4 := (A1833 _ (nek r 34 54 rfl)).2.2.1.trans f1801
  have f1866 : ty w1832 (r + 1) = 14 := (A1833 _ (nek r 1 54 rfl)).2.2.1.trans f1802
  have f1867 : ln w1832 (r + 1) = 8 := (A1833 _ (nek r 1 54 rfl)).2.2.2.trans f1803
  have f1868 : gi w1832 (r + 1) = (fun _ => 0) := (A1833 _ (nek r 1 54 rfl)).1.trans f1804
  have f1869 : gr w1832 (r + 1) 0 = (r + 6) := (congrFun (A1833 _ (nek r 1 54 rfl)).2.1 _).trans f1805
  have f1870 : gr w1832 (r + 1) 1 = (r + 10) := (congrFun (A1833 _ (nek r 1 54 rfl)).2.1 _).trans f1806
  have f1871 : gr w1832 (r + 1) 2 = (r + 14) := (congrFun (A1833 _ (nek r 1 54 rfl)).2.1 _).trans f1807
  have f1872 : gr w1832 (r + 1) 3 = (r + 18) := (congrFun (A1833 _ (nek r 1 54 rfl)).2.1 _).trans f1808
  have f1873 : gr w1832 (r + 1) 4 = (r + 22) := (congrFun (A1833 _ (nek r 1 54 rfl)).2.1 _).trans f1809
  have f1874 : gr w1832 (r + 1) 5 = (r + 26) := (congrFun (A1833 _ (nek r 1 54 rfl)).2.1 _).trans f1810
  have f1875 : gr w1832 (r + 1) 6 = (r + 30) := (congrFun (A1833 _ (nek r 1 54 rfl)).2.1 _).trans f1811
  have f1876 : gr w1832 (r + 1) 7 = (r + 34) := (congrFun (A1833 _ (nek r 1 54 rfl)).2.1 _).trans f1812
  have f1877 : isPlan w1832.2 (r + 38) := plan_ag (fun q a b => A1833 q (Nat.ne_of_lt (Nat.lt_of_lt_of_le b (lek r 38 4 54 rfl)))) f1813
  have f1878 : ty w1832 (r + 38) = 6 := (A1833 _ (nek r 38 54 rfl)).2.2.1.trans f1814
  have f1879 : isPlan w1832.2 (r + 42) := plan_ag (fun q a b => A1833 q (Nat.ne_of_lt (Nat.lt_of_lt_of_le b (lek r 42 4 54 rfl)))) f1815
  have f1880 : ty w1832 (r + 42) = 6 := (A1833 _ (nek r 42 54 rfl)).2.2.1.trans f1816
  have f1881 : isPlan w1832.2 (r + 46) := plan_ag (fun q a b => A1833 q (Nat.ne_of_lt (Nat.lt_of_lt_of_le b (lek r 46 4 54 rfl)))) f1817
  have f1882 : ty w1832 (r + 46) = 6 := (A1833 _ (nek r 46 54 rfl)).2.2.1.trans f1818
  have f1883 : isPlan w1832.2 (r + 50) := plan_ag (fun q a b => A1833 q (Nat.ne_of_lt (Nat.lt_of_lt_of_le b (lek r 50 4 54 rfl)))) f1819
  have f1884 : ty w1832 (r + 50) = 6 := (A1833 _ (nek r 50 54 rfl)).2.2.1.trans f1820
  have f1885 : ty w1832 (r + 2) = 15 := (A1833 _ (nek r 2 54 rfl)).2.2.1.trans f1821
  have f1886 : ln w1832 (r + 2) = 7 := (A1833 _ (nek r 2 54 rfl)).2.2.2.trans f1822
  have f1887 : gi w1832 (r + 2) = (fun _ => 0) := (A1833 _ (nek r 2 54 rfl)).1.trans f1823
  have f1888 : gr w1832 (r + 2) 0 = (r + 38) := (congrFun (A1833 _ (nek r 2 54 rfl)).2.1 _).trans f1824
  have f1889 : gr w1832 (r + 2) 1 = (r + 42) := (congrFun (A1833 _ (nek r 2 54 rfl)).2.1 _).trans f1825
  have f1890 : gr w1832 (r + 2) 2 = (r + 46) := (congrFun (A1833 _ (nek r 2 54 rfl)).2.1 _).trans f1826
  have f1891 : gr w1832 (r + 2) 3 = (r + 50) := (congrFun (A1833 _ (nek r 2 54 rfl)).2.1 _).trans f1827
  have e1892 := mk_e (w := w1768) (t := 6) (n := 4)
  rw [← hw1832, n1828] at e1892
  have n1893 : nx w1832 = r + 55 := by rw [hw1832]; exact congrArg (· + 1) n1828
  have u1894 : uc w1832 = uc w + 54 := by rw [hw1832]; exact congrArg (· + 1) u1829
  have s1895 : us w1832 = us w + 484 := by rw [hw1832]; exact congrArg (· + 4) s1830
  have g1896 : ∀ q, q < r → gi w1832 q = gi w q ∧ gr w1832 q = gr w q ∧ ty w1832 q = ty w q ∧ ln w1832 q = ln w q := fun q hq => by have a := A1833 q (Nat.ne_of_lt (Nat.lt_of_lt_of_le hq (Nat.le_add_right r 54))); have b := g1831 q hq; exact ⟨a.1.trans b.1, a.2.1.trans b.2.1, a.2.2.1.trans b.2.2.1, a.2.2.2.trans b.2.2.2⟩
  clear A1833 f1770 f1771 f1772 f1773 f1774 f1775 f1776 f1777 f1778 f1779 f1780 f1781 f1782 f1783 f1784 f1785 f1786 f1787 f1788 f1789 f1790 f1791 f1792 f1793 f1794 f1795 f1796 f1797 f1798 f1799 f1800 f1801 f1802 f1803 f1804 f1805 f1806 f1807 f1808 f1809 f1810 f1811 f1812 f1813 f1814 f1815 f1816 f1817 f1818 f1819 f1820 f1821 f1822 f1823 f1824 f1825 f1826 f1827 g1831 hw1832 n1828 s1830 u1829
  refine WP.blk 1 ?_
  show WP 2 26 90 [vR r, vI 4] [vR (r + 54), vR (r + 54), vI 4, vR (r + 2)] w1832 Q
  refine WP.cl (a := [vR (r + 54)]) (rest := [vR (r + 54), vI 4, vR (r + 2)]) rfl rfl rfl rfl trivial (by decide) (c_plan n1893 e1892.2.1 e1892.1 (fun w1897 hA1898 hni1899 hui1899 hsi1899 f1900 => ⟨rfl, ?_⟩))
  show WP 2 26 93 [vR r, vI 4] [vR (r + 54), vI 4, vR (r + 2)] w1897 Q
  have A1898 : ∀ q, q < r + 54 → gi w1897 q = gi w1832 q ∧ gr w1897 q = gr w1832 q ∧ ty w1897 q = ty w1832 q ∧ ln w1897 q = ln w1832 q := fun q hq => hA1898 q (Nat.zero_le _) hq
  have f1901 : ty w1897 (r + 3) = 11 := (A1898 _ (ltk r 3 54 rfl)).2.2.1.trans f1834
  have f1902 : ln w1897 (r + 3) = 7 := (A1898 _ (ltk r 3 54 rfl)).2.2.2.trans f1835
  have f1903 : gi w1897 (r + 3) = (fun _ => 0) := (A1898 _ (ltk r 3 54 rfl)).1.trans f1836
  have f1904 : ty w1897 (r + 4) = 11 := (A1898 _ (ltk r 4 54 rfl)).2.2.1.trans f1837
  have f1905 : ln w1897 (r + 4) = 7 := (A1898 _ (ltk r 4 54 rfl)).2.2.2.trans f1838
  have f1906 : gi w1897 (r + 4) = (fun _ => 0) := (A1898 _ (ltk r 4 54 rfl)).1.trans f1839
  have f1907 : ty w1897 (r + 5) = 11 := (A1898 _ (ltk r 5 54 rfl)).2.2.1.trans f1840
  have f1908 : ln w1897 (r + 5) = 7 := (A1898 _ (ltk r 5 54 rfl)).2.2.2.trans f1841
  have f1909 : gi w1897 (r + 5) = (fun _ => 0) := (A1898 _ (ltk r 5 54 rfl)).1.trans f1842
  have f1910 : ty w1897 r = 5 := (A1898 _ (ltk r 0 54 rfl)).2.2.1.trans f1843
  have f1911 : gi w1897 r = (fun _ => 0) := (A1898 _ (ltk r 0 54 rfl)).1.trans f1844
  have f1912 : gr w1897 r 0 = (r + 1) := (congrFun (A1898 _ (ltk r 0 54 rfl)).2.1 _).trans f1845
  have f1913 : gr w1897 r 1 = (r + 2) := (congrFun (A1898 _ (ltk r 0 54 rfl)).2.1 _).trans f1846
  have f1914 : gr w1897 r 2 = (r + 3) := (congrFun (A1898 _ (ltk r 0 54 rfl)).2.1 _).trans f1847
  have f1915 : gr w1897 r 3 = (r + 4) := (congrFun (A1898 _ (ltk r 0 54 rfl)).2.1 _).trans f1848
  have f1916 : gr w1897 r 4 = (r + 5) := (congrFun (A1898 _ (ltk r 0 54 rfl)).2.1 _).trans f1849
  have f1917 : isInks w1897.2 (r + 6) := inks_ag (fun q a b => A1898 q (Nat.lt_of_lt_of_le b (lek r 6 4 54 rfl))) f1850
  have f1918 : ty w1897 (r + 6) = 4 := (A1898 _ (ltk r 6 54 rfl)).2.2.1.trans f1851
  have f1919 : isInks w1897.2 (r + 10) := inks_ag (fun q a b => A1898 q (Nat.lt_of_lt_of_le b (lek r 10 4 54 rfl))) f1852
  have f1920 : ty w1897 (r + 10) = 4 := (A1898 _ (ltk r 10 54 rfl)).2.2.1.trans f1853
  have f1921 : isInks w1897.2 (r + 14) := inks_ag (fun q a b => A1898 q (Nat.lt_of_lt_of_le b (lek r 14 4 54 rfl))) f1854
  have f1922 : ty w1897 (r + 14) = 4 := (A1898 _ (ltk r 14 54 rfl)).2.2.1.trans f1855
  have f1923 : isInks w1897.2 (r + 18) := inks_ag (fun q a b => A1898 q (Nat.lt_of_lt_of_le b (lek r 18 4 54 rfl))) f1856
  have f1924 : ty w1897 (r + 18) = 4 := (A1898 _ (ltk r 18 54 rfl)).2.2.1.trans f1857
  have f1925 : isInks w1897.2 (r + 22) := inks_ag (fun q a b => A1898 q (Nat.lt_of_lt_of_le b (lek r 22 4 54 rfl))) f1858
  have f1926 : ty w1897 (r + 22) = 4 := (A1898 _ (ltk r 22 54 rfl)).2.2.1.trans f1859
  have f1927 : isInks w1897.2 (r + 26) := inks_ag (fun q a b => A1898 q (Nat.lt_of_lt_of_le b (lek r 26 4 54 rfl))) f1860
  have f1928 : ty w1897 (r + 26) = 4 := (A1898 _ (ltk r 26 54 rfl)).2.2.1.trans f1861
  have f1929 : isInks w1897.2 (r + 30) := inks_ag (fun q a b => A1898 q (Nat.lt_of_lt_of_le b (lek r 30 4 54 rfl))) f1862
  have f1930 : ty w1897 (r + 30) = 4 := (A1898 _ (ltk r 30 54 rfl)).2.2.1.trans f1863
  have f1931 : isInks w1897.2 (r + 34) := inks_ag (fun q a b => A1898 q (Nat.lt_of_lt_of_le b (lek r 34 4 54 rfl))) f1864
  have f1932 : ty w1897 (r + 34) = 4 := (A1898 _ (ltk r 34 54 rfl)).2.2.1.trans f1865
  have f1933 : ty w1897 (r + 1) = 14 := (A1898 _ (ltk r 1 54 rfl)).2.2.1.trans f1866
  have f1934 : ln w1897 (r + 1) = 8 := (A1898 _ (ltk r 1 54 rfl)).2.2.2.trans f1867
  have f1935 : gi w1897 (r + 1) = (fun _ => 0) := (A1898 _ (ltk r 1 54 rfl)).1.trans f1868
  have f1936 : gr w1897 (r + 1) 0 = (r + 6) := (congrFun (A1898 _ (ltk r 1 54 rfl)).2.1 _).trans f1869
  have f1937 : gr w1897 (r + 1) 1 = (r + 10) := (congrFun (A1898 _ (ltk r 1 54 rfl)).2.1 _).trans f1870
  have f1938 : gr w1897 (r + 1) 2 = (r + 14) := (congrFun (A1898 _ (ltk r 1 54 rfl)).2.1 _).trans f1871
  have f1939 : gr w1897 (r + 1) 3 = (r + 18) := (congrFun (A1898 _ (ltk r 1 54 rfl)).2.1 _).trans f1872
  have f1940 : gr w1897 (r + 1) 4 = (r + 22) := (congrFun (A1898 _ (ltk r 1 54 rfl)).2.1 _).trans f1873
  have f1941 : gr w1897 (r + 1) 5 = (r + 26) := (congrFun (A1898 _ (ltk r 1 54 rfl)).2.1 _).trans f1874
  have f1942 : gr w1897 (r + 1) 6 = (r + 30) := (congrFun (A1898 _ (ltk r 1 54 rfl)).2.1 _).trans f1875
  have f1943 : gr w1897 (r + 1) 7 = (r + 34) := (congrFun (A1898 _ (ltk r 1 54 rfl)).2.1 _).trans f1876
  have f1944 : isPlan w1897.2 (r + 38) := plan_ag (fun q a b => A1898 q (Nat.lt_of_lt_of_le b (lek r 38 4 54 rfl))) f1877
  have f1945 : ty w1897 (r + 38) = 6 := (A1898 _ (ltk r 38 54 rfl)).2.2.1.trans f1878
  have f1946 : isPlan w1897.2 (r + 42) := plan_ag (fun q a b => A1898 q (Nat.lt_of_lt_of_le b (lek r 42 4 54 rfl))) f1879
  have f1947 : ty w1897 (r + 42) = 6 := (A1898 _ (ltk r 42 54 rfl)).2.2.1.trans f1880
  have f1948 : isPlan w1897.2 (r + 46) := plan_ag (fun q a b => A1898 q (Nat.lt_of_lt_of_le b (lek r 46 4 54 rfl))) f1881
  have f1949 : ty w1897 (r + 46) = 6 := (A1898 _ (ltk r 46 54 rfl)).2.2.1.trans f1882
  have f1950 : isPlan w1897.2 (r + 50) := plan_ag (fun q a b => A1898 q (Nat.lt_of_lt_of_le b (lek r 50 4 54 rfl))) f1883
  have f1951 : ty w1897 (r + 50) = 6 := (A1898 _ (ltk r 50 54 rfl)).2.2.1.trans f1884
  have f1952 : ty w1897 (r + 2) = 15 := (A1898 _ (ltk r 2 54 rfl)).2.2.1.trans f1885
  have f1953 : ln w1897 (r + 2) = 7 := (A1898 _ (ltk r 2 54 rfl)).2.2.2.trans f1886
  have f1954 : gi w1897 (r + 2) = (fun _ => 0) := (A1898 _ (ltk r 2 54 rfl)).1.trans f1887
  have f1955 : gr w1897 (r + 2) 0 = (r + 38) := (congrFun (A1898 _ (ltk r 2 54 rfl)).2.1 _).trans f1888
  have f1956 : gr w1897 (r + 2) 1 = (r + 42) := (congrFun (A1898 _ (ltk r 2 54 rfl)).2.1 _).trans f1889
  have f1957 : gr w1897 (r + 2) 2 = (r + 46) := (congrFun (A1898 _ (ltk r 2 54 rfl)).2.1 _).trans f1890
  have f1958 : gr w1897 (r + 2) 3 = (r + 50) := (congrFun (A1898 _ (ltk r 2 54 rfl)).2.1 _).trans f1891
  have ni1899 : nx w1897 = r + 58 := hni1899
  have ui1899 : uc w1897 = uc w + 57 := hui1899.trans (congrArg (· + 3) u1894)
  have si1899 : us w1897 = us w + 519 := hsi1899.trans (congrArg (· + 35) s1895)
  have g1959 : ∀ q, q < r → gi w1897 q = gi w q ∧ gr w1897 q = gr w q ∧ ty w1897 q = ty w q ∧ ln w1897 q = ln w q := fun q hq => by have a := A1898 q (Nat.lt_of_lt_of_le hq (Nat.le_add_right r 54)); have b := g1896 q hq; exact ⟨a.1.trans b.1, a.2.1.trans b.2.1, a.2.2.1.trans b.2.2.1, a.2.2.2.trans b.2.2.2⟩
  clear A1898 e1892 f1834 f1835 f1836 f1837 f1838 f1839 f1840 f1841 f1842 f1843 f1844 f1845 f1846 f1847 f1848 f1849 f1850 f1851 f1852 f1853 f1854 f1855 f1856 f1857 f1858 f1859 f1860 f1861 f1862 f1863 f1864 f1865 f1866 f1867 f1868 f1869 f1870 f1871 f1872 f1873 f1874 f1875 f1876 f1877 f1878 f1879 f1880 f1881 f1882 f1883 f1884 f1885 f1886 f1887 f1888 f1889 f1890 f1891 g1896 hA1898 hni1899 hsi1899 hui1899 n1893 s1895 u1894
  refine WP.blk 1 ?_
  show (ref3 (ty w1897 (r + 2)) ∧ 0 ≤ (4 : Int) ∧ (4 : Int) < (ln w1897 (r + 2) : Int) ∧ ty w1897 (r + 54) = el3 (ty w1897 (r + 2))) ∧ WP 2 26 94 [vR r, vI 4] [] (sr w1897 (r + 2) 4 (r + 54)) Q
  refine ⟨⟨Or.inr (Or.inr f1952), by decide, by rw [f1953]; decide, by rw [f1952]; exact f1900.1⟩, ?_⟩
  obtain ⟨w1960, hw1960⟩ : ∃ y9, y9 = sr w1897 (r + 2) 4 (r + 54) := ⟨_, rfl⟩
  rw [← hw1960]
  have A1961 : ∀ q, q ≠ r + 2 → gi w1960 q = gi w1897 q ∧ gr w1960 q = gr w1897 q ∧ ty w1960 q = ty w1897 q ∧ ln w1960 q = ln w1897 q := fun q hq => by rw [hw1960]; exact sr_o hq
  have f1962 : ty w1960 (r + 3) = 11 := (A1961 _ (nek r 3 2 rfl)).2.2.1.trans f1901
  have f1963 : ln w1960 (r + 3) = 7 := (A1961 _ (nek r 3 2 rfl)).2.2.2.trans f1902
  have f1964 : gi w1960 (r + 3) = (fun _ => 0) := (A1961 _ (nek r 3 2 rfl)).1.trans f1903
  have f1965 : ty w1960 (r + 4) = 11 := (A1961 _ (nek r 4 2 rfl)).2.2.1.trans f1904
  have f1966 : ln w1960 (r + 4) = 7 := (A1961 _ (nek r 4 2 rfl)).2.2.2.trans f1905
  have f1967 : gi w1960 (r + 4) = (fun _ => 0) := (A1961 _ (nek r 4 2 rfl)).1.trans f1906
  have f1968 : ty w1960 (r + 5) = 11 := (A1961 _ (nek r 5 2 rfl)).2.2.1.trans f1907
  have f1969 : ln w1960 (r + 5) = 7 := (A1961 _ (nek r 5 2 rfl)).2.2.2.trans f1908
  have f1970 : gi w1960 (r + 5) = (fun _ => 0) := (A1961 _ (nek r 5 2 rfl)).1.trans f1909
  have f1971 : ty w1960 r = 5 := (A1961 _ (nek r 0 2 rfl)).2.2.1.trans f1910
  have f1972 : gi w1960 r = (fun _ => 0) := (A1961 _ (nek r 0 2 rfl)).1.trans f1911
  have f1973 : gr w1960 r 0 = (r + 1) := (congrFun (A1961 _ (nek r 0 2 rfl)).2.1 _).trans f1912
  have f1974 : gr w1960 r 1 = (r + 2) := (congrFun (A1961 _ (nek r 0 2 rfl)).2.1 _).trans f1913
  have f1975 : gr w1960 r 2 = (r + 3) := (congrFun (A1961 _ (nek r 0 2 rfl)).2.1 _).trans f1914
  have f1976 : gr w1960 r 3 = (r + 4) := (congrFun (A1961 _ (nek r 0 2 rfl)).2.1 _).trans f1915
  have f1977 : gr w1960 r 4 = (r + 5) := (congrFun (A1961 _ (nek r 0 2 rfl)).2.1 _).trans f1916
  have f1978 : isInks w1960.2 (r + 6) := inks_ag (fun q a b => A1961 q (Nat.ne_of_gt (Nat.lt_of_lt_of_le (ltk r 2 6 rfl) a))) f1917
  have f1979 : ty w1960 (r + 6) = 4 := (A1961 _ (nek r 6 2 rfl)).2.2.1.trans f1918
  have f1980 : isInks w1960.2 (r + 10) := inks_ag (fun q a b => A1961 q (Nat.ne_of_gt (Nat.lt_of_lt_of_le (ltk r 2 10 rfl) a))) f1919
  have f1981 : ty w1960 (r + 10) = 4 := (A1961 _ (nek r 10 2 rfl)).2.2.1.trans f1920
  have f1982 : isInks w1960.2 (r + 14) := inks_ag (fun q a b => A1961 q (Nat.ne_of_gt (Nat.lt_of_lt_of_le (ltk r 2 14 rfl) a))) f1921
  have f1983 : ty w1960 (r + 14) = 4 := (A1961 _ (nek r 14 2 rfl)).2.2.1.trans f1922
  have f1984 : isInks w1960.2 (r + 18) := inks_ag (fun q a b => A1961 q (Nat.ne_of_gt (Nat.lt_of_lt_of_le (ltk r 2 18 rfl) a))) f1923
  have f1985 : ty w1960 (r + 18) = 4 := (A1961 _ (nek r 18 2 rfl)).2.2.1.trans f1924
  have f1986 : isInks w1960.2 (r + 22) := inks_ag (fun q a b => A1961 q (Nat.ne_of_gt (Nat.lt_of_lt_of_le (ltk r 2 22 rfl) a))) f1925
  have f1987 : ty w1960 (r + 22) = 4 := (A1961 _ (nek r 22 2 rfl)).2.2.1.trans f1926
  have f1988 : isInks w1960.2 (r + 26) := inks_ag (fun q a b => A1961 q (Nat.ne_of_gt (Nat.lt_of_lt_of_le (ltk r 2 26 rfl) a))) f1927
  have f1989 : ty w1960 (r + 26) = 4 := (A1961 _ (nek r 26 2 rfl)).2.2.1.trans f1928
  have f1990 : isInks w1960.2 (r + 30) := inks_ag (fun q a b => A1961 q (Nat.ne_of_gt (Nat.lt_of_lt_of_le (ltk r 2 30 rfl) a))) f1929
  have f1991 : ty w1960 (r + 30) = 4 := (A1961 _ (nek r 30 2 rfl)).2.2.1.trans f1930
  have f1992 : isInks w1960.2 (r + 34) := inks_ag (fun q a b => A1961 q (Nat.ne_of_gt (Nat.lt_of_lt_of_le (ltk r 2 34 rfl) a))) f1931
  have f1993 : ty w1960 (r + 34) = 4 := (A1961 _ (nek r 34 2 rfl)).2.2.1.trans f1932
  have f1994 : ty w1960 (r + 1) = 14 := (A1961 _ (nek r 1 2 rfl)).2.2.1.trans f1933
  have f1995 : ln w1960 (r + 1) = 8 := (A1961 _ (nek r 1 2 rfl)).2.2.2.trans f1934
  have f1996 : gi w1960 (r + 1) = (fun _ => 0) := (A1961 _ (nek r 1 2 rfl)).1.trans f1935
  have f1997 : gr w1960 (r + 1) 0 = (r + 6) := (congrFun (A1961 _ (nek r 1 2 rfl)).2.1 _).trans f1936
  have f1998 : gr w1960 (r + 1) 1 = (r + 10) := (congrFun (A1961 _ (nek r 1 2 rfl)).2.1 _).trans f1937
  have f1999 : gr w1960 (r + 1) 2 = (r + 14) := (congrFun (A1961 _ (nek r 1 2 rfl)).2.1 _).trans f1938
  have f2000 : gr w1960 (r + 1) 3 = (r + 18) := (congrFun (A1961 _ (nek r 1 2 rfl)).2.1 _).trans f1939
  have f2001 : gr w1960 (r + 1) 4 = (r + 22) := (congrFun (A1961 _ (nek r 1 2 rfl)).2.1 _).trans f1940
  have f2002 : gr w1960 (r + 1) 5 = (r + 26) := (congrFun (A1961 _ (nek r 1 2 rfl)).2.1 _).trans f1941
  have f2003 : gr w1960 (r + 1) 6 = (r + 30) := (congrFun (A1961 _ (nek r 1 2 rfl)).2.1 _).trans f1942
  have f2004 : gr w1960 (r + 1) 7 = (r + 34) := (congrFun (A1961 _ (nek r 1 2 rfl)).2.1 _).trans f1943
  have f2005 : isPlan w1960.2 (r + 38) := plan_ag (fun q a b => A1961 q (Nat.ne_of_gt (Nat.lt_of_lt_of_le (ltk r 2 38 rfl) a))) f1944
  have f2006 : ty w1960 (r + 38) = 6 := (A1961 _ (nek r 38 2 rfl)).2.2.1.trans f1945
  have f2007 : isPlan w1960.2 (r + 42) := plan_ag (fun q a b => A1961 q (Nat.ne_of_gt (Nat.lt_of_lt_of_le (ltk r 2 42 rfl) a))) f1946
  have f2008 : ty w1960 (r + 42) = 6 := (A1961 _ (nek r 42 2 rfl)).2.2.1.trans f1947
  have f2009 : isPlan w1960.2 (r + 46) := plan_ag (fun q a b => A1961 q (Nat.ne_of_gt (Nat.lt_of_lt_of_le (ltk r 2 46 rfl) a))) f1948
  have f2010 : ty w1960 (r + 46) = 6 := (A1961 _ (nek r 46 2 rfl)).2.2.1.trans f1949
  have f2011 : isPlan w1960.2 (r + 50) := plan_ag (fun q a b => A1961 q (Nat.ne_of_gt (Nat.lt_of_lt_of_le (ltk r 2 50 rfl) a))) f1950
  have f2012 : ty w1960 (r + 50) = 6 := (A1961 _ (nek r 50 2 rfl)).2.2.1.trans f1951
  have f2013 : isPlan w1960.2 (r + 54) := plan_ag (fun q a b => A1961 q (Nat.ne_of_gt (Nat.lt_of_lt_of_le (ltk r 2 54 rfl) a))) f1900
  have f2014 : ty w1960 (r + 54) = 6 := (A1961 _ (nek r 54 2 rfl)).2.2.1.trans f1900.1
  have f2015 : ty w1960 (r + 2) = 15 := by rw [hw1960]; exact f1952
  have f2016 : ln w1960 (r + 2) = 7 := by rw [hw1960]; exact f1953
  have f2017 : gi w1960 (r + 2) = (fun _ => 0) := by rw [hw1960]; exact f1954
  have f2018 : gr w1960 (r + 2) 0 = (r + 38) := by rw [hw1960]; exact (sr_k (by decide)).trans f1955
  have f2019 : gr w1960 (r + 2) 1 = (r + 42) := by rw [hw1960]; exact (sr_k (by decide)).trans f1956
  have f2020 : gr w1960 (r + 2) 2 = (r + 46) := by rw [hw1960]; exact (sr_k (by decide)).trans f1957
  have f2021 : gr w1960 (r + 2) 3 = (r + 50) := by rw [hw1960]; exact (sr_k (by decide)).trans f1958
  have f2022 : gr w1960 (r + 2) 4 = (r + 54) := by rw [hw1960]; exact sr_e
  have n2023 : nx w1960 = r + 58 := by rw [hw1960]; exact ni1899
  have u2024 : uc w1960 = uc w + 57 := by rw [hw1960]; exact ui1899
  have s2025 : us w1960 = us w + 519 := by rw [hw1960]; exact si1899
  have g2026 : ∀ q, q < r → gi w1960 q = gi w q ∧ gr w1960 q = gr w q ∧ ty w1960 q = ty w q ∧ ln w1960 q = ln w q := fun q hq => by have a := A1961 q (Nat.ne_of_lt (Nat.lt_of_lt_of_le hq (Nat.le_add_right r 2))); have b := g1959 q hq; exact ⟨a.1.trans b.1, a.2.1.trans b.2.1, a.2.2.1.trans b.2.2.1, a.2.2.2.trans b.2.2.2⟩
  clear A1961 f1900 f1901 f1902 f1903 f1904 f1905 f1906 f1907 f1908 f1909 f1910 f1911 f1912 f1913 f1914 f1915 f1916 f1917 f1918 f1919 f1920 f1921 f1922 f1923 f1924 f1925 f1926 f1927 f1928 f1929 f1930 f1931 f1932 f1933 f1934 f1935 f1936 f1937 f1938 f1939 f1940 f1941 f1942 f1943 f1944 f1945 f1946 f1947 f1948 f1949 f1950 f1951 f1952 f1953 f1954 f1955 f1956 f1957 f1958 g1959 hw1960 ni1899 si1899 ui1899
  refine WP.blk 1 ?_
  show ir (4 + 1) ∧ WP 2 26 97 [vR r, vI 5] [] w1960 Q
  refine ⟨⟨by decide, by decide⟩, ?_⟩
  refine WP.blk 1 ?_
  show WP 2 26 75 [vR r, vI 5] [] w1960 Q
  refine WP.blk 1 ?_
  show WP 2 26 76 [vR r, vI 5] [vI 5] w1960 Q
  refine WP.blk 1 ?_
  show WP 2 26 78 [vR r, vI 5] [vI 7, vI 5] w1960 Q
  refine WP.blk 1 ?_
  show WP 2 26 81 [vR r, vI 5] [] w1960 Q
  refine WP.blk 1 ?_
  show WP 2 26 82 [vR r, vI 5] [vR r] w1960 Q
  refine WP.blk 1 ?_
  show (ty w1960 r = 5 ∧ gr w1960 r 1 ≠ 0) ∧ WP 2 26 85 [vR r, vI 5] [vR (gr w1960 r 1)] w1960 Q
  refine ⟨⟨f1971, by rw [f1974]; exact Nat.succ_ne_zero _⟩, ?_⟩
  rw [f1974]
  refine WP.blk 1 ?_
  show WP 2 26 86 [vR r, vI 5] [vI 5, vR (r + 2)] w1960 Q
  refine WP.blk 1 ?_
  show WP 2 26 89 [vR r, vI 5] [vR (nx w1960), vI 5, vR (r + 2)] (mk w1960 6 4) Q
  rw [n2023]
  obtain ⟨w2027, hw2027⟩ : ∃ y9, y9 = mk w1960 6 4 := ⟨_, rfl⟩
  rw [← hw2027]
  have A2028 : ∀ q, q ≠ r + 58 → gi w2027 q = gi w1960 q ∧ gr w2027 q = gr w1960 q ∧ ty w2027 q = ty w1960 q ∧ ln w2027 q = ln w1960 q := fun q hq => by rw [hw2027]; exact mk_o (by rw [n2023]; exact hq)
  have f2029 : ty w2027 (r + 3) = 11 := (A2028 _ (nek r 3 58 rfl)).2.2.1.trans f1962
  have f2030 : ln w2027 (r + 3) = 7 := (A2028 _ (nek r 3 58 rfl)).2.2.2.trans f1963
  have f2031 : gi w2027 (r + 3) = (fun _ => 0) := (A2028 _ (nek r 3 58 rfl)).1.trans f1964
  have f2032 : ty w2027 (r + 4) = 11 := (A2028 _ (nek r 4 58 rfl)).2.2.1.trans f1965
  have f2033 : ln w2027 (r + 4) = 7 := (A2028 _ (nek r 4 58 rfl)).2.2.2.trans f1966
  have f2034 : gi w2027 (r + 4) = (fun _ => 0) := (A2028 _ (nek r 4 58 rfl)).1.trans f1967
  have f2035 : ty w2027 (r + 5) = 11 := (A2028 _ (nek r 5 58 rfl)).2.2.1.trans f1968
  have f2036 : ln w2027 (r + 5) = 7 := (A2028 _ (nek r 5 58 rfl)).2.2.2.trans f1969
  have f2037 : gi w2027 (r + 5) = (fun _ => 0) := (A2028 _ (nek r 5 58 rfl)).1.trans f1970
  have f2038 : ty w2027 r = 5 := (A2028 _ (nek r 0 58 rfl)).2.2.1.trans f1971
  have f2039 : gi w2027 r = (fun _ => 0) := (A2028 _ (nek r 0 58 rfl)).1.trans f1972
  have f2040 : gr w2027 r 0 = (r + 1) := (congrFun (A2028 _ (nek r 0 58 rfl)).2.1 _).trans f1973
  have f2041 : gr w2027 r 1 = (r + 2) := (congrFun (A2028 _ (nek r 0 58 rfl)).2.1 _).trans f1974
  have f2042 : gr w2027 r 2 = (r + 3) := (congrFun (A2028 _ (nek r 0 58 rfl)).2.1 _).trans f1975
  have f2043 : gr w2027 r 3 = (r + 4) := (congrFun (A2028 _ (nek r 0 58 rfl)).2.1 _).trans f1976
  have f2044 : gr w2027 r 4 = (r + 5) := (congrFun (A2028 _ (nek r 0 58 rfl)).2.1 _).trans f1977
  have f2045 : isInks w2027.2 (r + 6) := inks_ag (fun q a b => A2028 q (Nat.ne_of_lt (Nat.lt_of_lt_of_le b (lek r 6 4 58 rfl)))) f1978
  have f2046 : ty w2027 (r + 6) = 4 := (A2028 _ (nek r 6 58 rfl)).2.2.1.trans f1979
  have f2047 : isInks w2027.2 (r + 10) := inks_ag (fun q a b => A2028 q (Nat.ne_of_lt (Nat.lt_of_lt_of_le b (lek r 10 4 58 rfl)))) f1980
  have f2048 : ty w2027 (r + 10) = 4 := (A2028 _ (nek r 10 58 rfl)).2.2.1.trans f1981
  have f2049 : isInks w2027.2 (r + 14) := inks_ag (fun q a b => A2028 q (Nat.ne_of_lt (Nat.lt_of_lt_of_le b (lek r 14 4 58 rfl)))) f1982
  have f2050 : ty w2027 (r + 14) = 4 := (A2028 _ (nek r 14 58 rfl)).2.2.1.trans f1983
  have f2051 : isInks w2027.2 (r + 18) := inks_ag (fun q a b => A2028 q (Nat.ne_of_lt (Nat.lt_of_lt_of_le b (lek r 18 4 58 rfl)))) f1984
  have f2052 : ty w2027 (r + 18) = 4 := (A2028 _ (nek r 18 58 rfl)).2.2.1.trans f1985
  have f2053 : isInks w2027.2 (r + 22) := inks_ag (fun q a b => A2028 q (Nat.ne_of_lt (Nat.lt_of_lt_of_le b (lek r 22 4 58 rfl)))) f1986
  have f2054 : ty w2027 (r + 22) = 4 := (A2028 _ (nek r 22 58 rfl)).2.2.1.trans f1987
  have f2055 : isInks w2027.2 (r + 26) := inks_ag (fun q a b => A2028 q (Nat.ne_of_lt (Nat.lt_of_lt_of_le b (lek r 26 4 58 rfl)))) f1988
  have f2056 : ty w2027 (r + 26) = 4 := (A2028 _ (nek r 26 58 rfl)).2.2.1.trans f1989
  have f2057 : isInks w2027.2 (r + 30) := inks_ag (fun q a b => A2028 q (Nat.ne_of_lt (Nat.lt_of_lt_of_le b (lek r 30 4 58 rfl)))) f1990
  have f2058 : ty w2027 (r + 30) = 4 := (A2028 _ (nek r 30 58 rfl)).2.2.1.trans f1991
  have f2059 : isInks w2027.2 (r + 34) := inks_ag (fun q a b => A2028 q (Nat.ne_of_lt (Nat.lt_of_lt_of_le b (lek r 34 4 58 rfl)))) f1992
  have f2060 : ty w2027 (r + 34) = 4 := (A2028 _ (nek r 34 58 rfl)).2.2.1.trans f1993
  have f2061 : ty w2027 (r + 1) = 14 := (A2028 _ (nek r 1 58 rfl)).2.2.1.trans f1994
  have f2062 : ln w2027 (r + 1) = 8 := (A2028 _ (nek r 1 58 rfl)).2.2.2.trans f1995
  have f2063 : gi w2027 (r + 1) = (fun _ => 0) := (A2028 _ (nek r 1 58 rfl)).1.trans f1996
  have f2064 : gr w2027 (r + 1) 0 = (r + 6) := (congrFun (A2028 _ (nek r 1 58 rfl)).2.1 _).trans f1997
  have f2065 : gr w2027 (r + 1) 1 = (r + 10) := (congrFun (A2028 _ (nek r 1 58 rfl)).2.1 _).trans f1998
  have f2066 : gr w2027 (r + 1) 2 = (r + 14) := (congrFun (A2028 _ (nek r 1 58 rfl)).2.1 _).trans f1999
  have f2067 : gr w2027 (r + 1) 3 = (r + 18) := (congrFun (A2028 _ (nek r 1 58 rfl)).2.1 _).trans f2000
  have f2068 : gr w2027 (r + 1) 4 = (r + 22) := (congrFun (A2028 _ (nek r 1 58 rfl)).2.1 _).trans f2001
  have f2069 : gr w2027 (r + 1) 5 = (r + 26) := (congrFun (A2028 _ (nek r 1 58 rfl)).2.1 _).trans f2002
  have f2070 : gr w2027 (r + 1) 6 = (r + 30) := (congrFun (A2028 _ (nek r 1 58 rfl)).2.1 _).trans f2003
  have f2071 : gr w2027 (r + 1) 7 = (r + 34) := (congrFun (A2028 _ (nek r 1 58 rfl)).2.1 _).trans f2004
  have f2072 : isPlan w2027.2 (r + 38) := plan_ag (fun q a b => A2028 q (Nat.ne_of_lt (Nat.lt_of_lt_of_le b (lek r 38 4 58 rfl)))) f2005
  have f2073 : ty w2027 (r + 38) = 6 := (A2028 _ (nek r 38 58 rfl)).2.2.1.trans f2006
  have f2074 : isPlan w2027.2 (r + 42) := plan_ag (fun q a b => A2028 q (Nat.ne_of_lt (Nat.lt_of_lt_of_le b (lek r 42 4 58 rfl)))) f2007
  have f2075 : ty w2027 (r + 42) = 6 := (A2028 _ (nek r 42 58 rfl)).2.2.1.trans f2008
  have f2076 : isPlan w2027.2 (r + 46) := plan_ag (fun q a b => A2028 q (Nat.ne_of_lt (Nat.lt_of_lt_of_le b (lek r 46 4 58 rfl)))) f2009
  have f2077 : ty w2027 (r + 46) = 6 := (A2028 _ (nek r 46 58 rfl)).2.2.1.trans f2010
  have f2078 : isPlan w2027.2 (r + 50) := plan_ag (fun q a b => A2028 q (Nat.ne_of_lt (Nat.lt_of_lt_of_le b (lek r 50 4 58 rfl)))) f2011
  have f2079 : ty w2027 (r + 50) = 6 := (A2028 _ (nek r 50 58 rfl)).2.2.1.trans f2012
  have f2080 : isPlan w2027.2 (r + 54) := plan_ag (fun q a b => A2028 q (Nat.ne_of_lt (Nat.lt_of_lt_of_le b (lek r 54 4 58 rfl)))) f2013
  have f2081 : ty w2027 (r + 54) = 6 := (A2028 _ (nek r 54 58 rfl)).2.2.1.trans f2014
  have f2082 : ty w2027 (r + 2) = 15 := (A2028 _ (nek r 2 58 rfl)).2.2.1.trans f2015
  have f2083 : ln w2027 (r + 2) = 7 := (A2028 _ (nek r 2 58 rfl)).2.2.2.trans f2016
  have f2084 : gi w2027 (r + 2) = (fun _ => 0) := (A2028 _ (nek r 2 58 rfl)).1.trans f2017
  have f2085 : gr w2027 (r + 2) 0 = (r + 38) := (congrFun (A2028 _ (nek r 2 58 rfl)).2.1 _).trans f2018
  have f2086 : gr w2027 (r + 2) 1 = (r + 42) := (congrFun (A2028 _ (nek r 2 58 rfl)).2.1 _).trans f2019
  have f2087 : gr w2027 (r + 2) 2 = (r + 46) := (congrFun (A2028 _ (nek r 2 58 rfl)).2.1 _).trans f2020
  have f2088 : gr w2027 (r + 2) 3 = (r + 50) := (congrFun (A2028 _ (nek r 2 58 rfl)).2.1 _).trans f2021
  have f2089 : gr w2027 (r + 2) 4 = (r + 54) := (congrFun (A2028 _ (nek r 2 58 rfl)).2.1 _).trans f2022
  have e2090 := mk_e (w := w1960) (t := 6) (n := 4)
  rw [← hw2027, n2023] at e2090
  have n2091 : nx w2027 = r + 59 := by rw [hw2027]; exact congrArg (· + 1) n2023
  have u2092 : uc w2027 = uc w + 58 := by rw [hw2027]; exact congrArg (· + 1) u2024
  have s2093 : us w2027 = us w + 523 := by rw [hw2027]; exact congrArg (· + 4) s2025
  have g2094 : ∀ q, q < r → gi w2027 q = gi w q ∧ gr w2027 q = gr w q ∧ ty w2027 q = ty w q ∧ ln w2027 q = ln w q := fun q hq => by have a := A2028 q (Nat.ne_of_lt (Nat.lt_of_lt_of_le hq (Nat.le_add_right r 58))); have b := g2026 q hq; exact ⟨a.1.trans b.1, a.2.1.trans b.2.1, a.2.2.1.trans b.2.2.1, a.2.2.2.trans b.2.2.2⟩
  clear A2028 f1962 f1963 f1964 f1965 f1966 f1967 f1968 f1969 f1970 f1971 f1972 f1973 f1974 f1975 f1976 f1977 f1978 f1979 f1980 f1981 f1982 f1983 f1984 f1985 f1986 f1987 f1988 f1989 f1990 f1991 f1992 f1993 f1994 f1995 f1996 f1997 f1998 f1999 f2000 f2001 f2002 f2003 f2004 f2005 f2006 f2007 f2008 f2009 f2010 f2011 f2012 f2013 f2014 f2015 f2016 f2017 f2018 f2019 f2020 f2021 f2022 g2026 hw2027 n2023 s2025 u2024
  refine WP.blk 1 ?_
  show WP 2 26 90 [vR r, vI 5] [vR (r + 58), vR (r + 58), vI 5, vR (r + 2)] w2027 Q
  refine WP.cl (a := [vR (r + 58)]) (rest := [vR (r + 58), vI 5, vR (r + 2)]) rfl rfl rfl rfl trivial (by decide) (c_plan n2091 e2090.2.1 e2090.1 (fun w2095 hA2096 hni2097 hui2097 hsi2097 f2098 => ⟨rfl, ?_⟩))
  show WP 2 26 93 [vR r, vI 5] [vR (r + 58), vI 5, vR (r + 2)] w2095 Q
  have A2096 : ∀ q, q < r + 58 → gi w2095 q = gi w2027 q ∧ gr w2095 q = gr w2027 q ∧ ty w2095 q = ty w2027 q ∧ ln w2095 q = ln w2027 q := fun q hq => hA2096 q (Nat.zero_le _) hq
  have f2099 : ty w2095 (r + 3) = 11 := (A2096 _ (ltk r 3 58 rfl)).2.2.1.trans f2029
  have f2100 : ln w2095 (r + 3) = 7 := (A2096 _ (ltk r 3 58 rfl)).2.2.2.trans f2030
  have f2101 : gi w2095 (r + 3) = (fun _ => 0) := (A2096 _ (ltk r 3 58 rfl)).1.trans f2031
  have f2102 : ty w2095 (r + 4) = 11 := (A2096 _ (ltk r 4 58 rfl)).2.2.1.trans f2032
  have f2103 : ln w2095 (r + 4) = 7 := (A2096 _ (ltk r 4 58 rfl)).2.2.2.trans f2033
  have f2104 : gi w2095 (r + 4) = (fun _ => 0) := (A2096 _ (ltk r 4 58 rfl)).1.trans f2034
  have f2105 : ty w2095 (r + 5) = 11 := (A2096 _ (ltk r 5 58 rfl)).2.2.1.trans f2035
  have f2106 : ln w2095 (r + 5) = 7 := (A2096 _ (ltk r 5 58 rfl)).2.2.2.trans f2036
  have f2107 : gi w2095 (r + 5) = (fun _ => 0) := (A2096 _ (ltk r 5 58 rfl)).1.trans f2037
  have f2108 : ty w2095 r = 5 := (A2096 _ (ltk r 0 58 rfl)).2.2.1.trans f2038
  have f2109 : gi w2095 r = (fun _ => 0) := (A2096 _ (ltk r 0 58 rfl)).1.trans f2039
  have f2110 : gr w2095 r 0 = (r + 1) := (congrFun (A2096 _ (ltk r 0 58 rfl)).2.1 _).trans f2040
  have f2111 : gr w2095 r 1 = (r + 2) := (congrFun (A2096 _ (ltk r 0 58 rfl)).2.1 _).trans f2041
  have f2112 : gr w2095 r 2 = (r + 3) := (congrFun (A2096 _ (ltk r 0 58 rfl)).2.1 _).trans f2042
  have f2113 : gr w2095 r 3 = (r + 4) := (congrFun (A2096 _ (ltk r 0 58 rfl)).2.1 _).trans f2043
  have f2114 : gr w2095 r 4 = (r + 5) := (congrFun (A2096 _ (ltk r 0 58 rfl)).2.1 _).trans f2044
  have f2115 : isInks w2095.2 (r + 6) := inks_ag (fun q a b => A2096 q (Nat.lt_of_lt_of_le b (lek r 6 4 58 rfl))) f2045
  have f2116 : ty w2095 (r + 6) = 4 := (A2096 _ (ltk r 6 58 rfl)).2.2.1.trans f2046
  have f2117 : isInks w2095.2 (r + 10) := inks_ag (fun q a b => A2096 q (Nat.lt_of_lt_of_le b (lek r 10 4 58 rfl))) f2047
  have f2118 : ty w2095 (r + 10) = 4 := (A2096 _ (ltk r 10 58 rfl)).2.2.1.trans f2048
  have f2119 : isInks w2095.2 (r + 14) := inks_ag (fun q a b => A2096 q (Nat.lt_of_lt_of_le b (lek r 14 4 58 rfl))) f2049
  have f2120 : ty w2095 (r + 14) = 4 := (A2096 _ (ltk r 14 58 rfl)).2.2.1.trans f2050
  have f2121 : isInks w2095.2 (r + 18) := inks_ag (fun q a b => A2096 q (Nat.lt_of_lt_of_le b (lek r 18 4 58 rfl))) f2051
  have f2122 : ty w2095 (r + 18) = 4 := (A2096 _ (ltk r 18 58 rfl)).2.2.1.trans f2052
  have f2123 : isInks w2095.2 (r + 22) := inks_ag (fun q a b => A2096 q (Nat.lt_of_lt_of_le b (lek r 22 4 58 rfl))) f2053
  have f2124 : ty w2095 (r + 22) = 4 := (A2096 _ (ltk r 22 58 rfl)).2.2.1.trans f2054
  have f2125 : isInks w2095.2 (r + 26) := inks_ag (fun q a b => A2096 q (Nat.lt_of_lt_of_le b (lek r 26 4 58 rfl))) f2055
  have f2126 : ty w2095 (r + 26) = 4 := (A2096 _ (ltk r 26 58 rfl)).2.2.1.trans f2056
  have f2127 : isInks w2095.2 (r + 30) := inks_ag (fun q a b => A2096 q (Nat.lt_of_lt_of_le b (lek r 30 4 58 rfl))) f2057
  have f2128 : ty w2095 (r + 30) = 4 := (A2096 _ (ltk r 30 58 rfl)).2.2.1.trans f2058
  have f2129 : isInks w2095.2 (r + 34) := inks_ag (fun q a b => A2096 q (Nat.lt_of_lt_of_le b (lek r 34 4 58 rfl))) f2059
  have f2130 : ty w2095 (r + 34) = 4 := (A2096 _ (ltk r 34 58 rfl)).2.2.1.trans f2060
  have f2131 : ty w2095 (r + 1) = 14 := (A2096 _ (ltk r 1 58 rfl)).2.2.1.trans f2061
  have f2132 : ln w2095 (r + 1) = 8 := (A2096 _ (ltk r 1 58 rfl)).2.2.2.trans f2062
  have f2133 : gi w2095 (r + 1) = (fun _ => 0) := (A2096 _ (ltk r 1 58 rfl)).1.trans f2063
  have f2134 : gr w2095 (r + 1) 0 = (r + 6) := (congrFun (A2096 _ (ltk r 1 58 rfl)).2.1 _).trans f2064
  have f2135 : gr w2095 (r + 1) 1 = (r + 10) := (congrFun (A2096 _ (ltk r 1 58 rfl)).2.1 _).trans f2065
  have f2136 : gr w2095 (r + 1) 2 = (r + 14) := (congrFun (A2096 _ (ltk r 1 58 rfl)).2.1 _).trans f2066
  have f2137 : gr w2095 (r + 1) 3 = (r + 18) := (congrFun (A2096 _ (ltk r 1 58 rfl)).2.1 _).trans f2067
  have f2138 : gr w2095 (r + 1) 4 = (r + 22) := (congrFun (A2096 _ (ltk r 1 58 rfl)).2.1 _).trans f2068
  have f2139 : gr w2095 (r + 1) 5 = (r + 26) := (congrFun (A2096 _ (ltk r 1 58 rfl)).2.1 _).trans f2069
  have f2140 : gr w2095 (r + 1) 6 = (r + 30) := (congrFun (A2096 _ (ltk r 1 58 rfl)).2.1 _).trans f2070
  have f2141 : gr w2095 (r + 1) 7 = (r + 34) := (congrFun (A2096 _ (ltk r 1 58 rfl)).2.1 _).trans f2071
  have f2142 : isPlan w2095.2 (r + 38) := plan_ag (fun q a b => A2096 q (Nat.lt_of_lt_of_le b (lek r 38 4 58 rfl))) f2072
  have f2143 : ty w2095 (r + 38) = 6 := (A2096 _ (ltk r 38 58 rfl)).2.2.1.trans f2073
  have f2144 : isPlan w2095.2 (r + 42) := plan_ag (fun q a b => A2096 q (Nat.lt_of_lt_of_le b (lek r 42 4 58 rfl))) f2074
  have f2145 : ty w2095 (r + 42) = 6 := (A2096 _ (ltk r 42 58 rfl)).2.2.1.trans f2075
  have f2146 : isPlan w2095.2 (r + 46) := plan_ag (fun q a b => A2096 q (Nat.lt_of_lt_of_le b (lek r 46 4 58 rfl))) f2076
  have f2147 : ty w2095 (r + 46) = 6 := (A2096 _ (ltk r 46 58 rfl)).2.2.1.trans f2077
  have f2148 : isPlan w2095.2 (r + 50) := plan_ag (fun q a b => A2096 q (Nat.lt_of_lt_of_le b (lek r 50 4 58 rfl))) f2078
  have f2149 : ty w2095 (r + 50) = 6 := (A2096 _ (ltk r 50 58 rfl)).2.2.1.trans f2079
  have f2150 : isPlan w2095.2 (r + 54) := plan_ag (fun q a b => A2096 q (Nat.lt_of_lt_of_le b (lek r 54 4 58 rfl))) f2080
  have f2151 : ty w2095 (r + 54) = 6 := (A2096 _ (ltk r 54 58 rfl)).2.2.1.trans f2081
  have f2152 : ty w2095 (r + 2) = 15 := (A2096 _ (ltk r 2 58 rfl)).2.2.1.trans f2082
  have f2153 : ln w2095 (r + 2) = 7 := (A2096 _ (ltk r 2 58 rfl)).2.2.2.trans f2083
  have f2154 : gi w2095 (r + 2) = (fun _ => 0) := (A2096 _ (ltk r 2 58 rfl)).1.trans f2084
  have f2155 : gr w2095 (r + 2) 0 = (r + 38) := (congrFun (A2096 _ (ltk r 2 58 rfl)).2.1 _).trans f2085
  have f2156 : gr w2095 (r + 2) 1 = (r + 42) := (congrFun (A2096 _ (ltk r 2 58 rfl)).2.1 _).trans f2086
  have f2157 : gr w2095 (r + 2) 2 = (r + 46) := (congrFun (A2096 _ (ltk r 2 58 rfl)).2.1 _).trans f2087
  have f2158 : gr w2095 (r + 2) 3 = (r + 50) := (congrFun (A2096 _ (ltk r 2 58 rfl)).2.1 _).trans f2088
  have f2159 : gr w2095 (r + 2) 4 = (r + 54) := (congrFun (A2096 _ (ltk r 2 58 rfl)).2.1 _).trans f2089
  have ni2097 : nx w2095 = r + 62 := hni2097
  have ui2097 : uc w2095 = uc w + 61 := hui2097.trans (congrArg (· + 3) u2092)
  have si2097 : us w2095 = us w + 558 := hsi2097.trans (congrArg (· + 35) s2093)
  have g2160 : ∀ q, q < r → gi w2095 q = gi w q ∧ gr w2095 q = gr w q ∧ ty w2095 q = ty w q ∧ ln w2095 q = ln w q := fun q hq => by have a := A2096 q (Nat.lt_of_lt_of_le hq (Nat.le_add_right r 58)); have b := g2094 q hq; exact ⟨a.1.trans b.1, a.2.1.trans b.2.1, a.2.2.1.trans b.2.2.1, a.2.2.2.trans b.2.2.2⟩
  clear A2096 e2090 f2029 f2030 f2031 f2032 f2033 f2034 f2035 f2036 f2037 f2038 f2039 f2040 f2041 f2042 f2043 f2044 f2045 f2046 f2047 f2048 f2049 f2050 f2051 f2052 f2053 f2054 f2055 f2056 f2057 f2058 f2059 f2060 f2061 f2062 f2063 f2064 f2065 f2066 f2067 f2068 f2069 f2070 f2071 f2072 f2073 f2074 f2075 f2076 f2077 f2078 f2079 f2080 f2081 f2082 f2083 f2084 f2085 f2086 f2087 f2088 f2089 g2094 hA2096 hni2097 hsi2097 hui2097 n2091 s2093 u2092
  refine WP.blk 1 ?_
  show (ref3 (ty w2095 (r + 2)) ∧ 0 ≤ (5 : Int) ∧ (5 : Int) < (ln w2095 (r + 2) : Int) ∧ ty w2095 (r + 58) = el3 (ty w2095 (r + 2))) ∧ WP 2 26 94 [vR r, vI 5] [] (sr w2095 (r + 2) 5 (r + 58)) Q
  refine ⟨⟨Or.inr (Or.inr f2152), by decide, by rw [f2153]; decide, by rw [f2152]; exact f2098.1⟩, ?_⟩
  obtain ⟨w2161, hw2161⟩ : ∃ y9, y9 = sr w2095 (r + 2) 5 (r + 58) := ⟨_, rfl⟩
  rw [← hw2161]
  have A2162 : ∀ q, q ≠ r + 2 → gi w2161 q = gi w2095 q ∧ gr w2161 q = gr w2095 q ∧ ty w2161 q = ty w2095 q ∧ ln w2161 q = ln w2095 q := fun q hq => by rw [hw2161]; exact sr_o hq
  have f2163 : ty w2161 (r + 3) = 11 := (A2162 _ (nek r 3 2 rfl)).2.2.1.trans f2099
  have f2164 : ln w2161 (r + 3) = 7 := (A2162 _ (nek r 3 2 rfl)).2.2.2.trans f2100
  have f2165 : gi w2161 (r + 3) = (fun _ => 0) := (A2162 _ (nek r 3 2 rfl)).1.trans f2101
  have f2166 : ty w2161 (r + 4) = 11 := (A2162 _ (nek r 4 2 rfl)).2.2.1.trans f2102
  have f2167 : ln w2161 (r + 4) = 7 := (A2162 _ (nek r 4 2 rfl)).2.2.2.trans f2103
  have f2168 : gi w2161 (r + 4) = (fun _ => 0) := (A2162 _ (nek r 4 2 rfl)).1.trans f2104
  have f2169 : ty w2161 (r + 5) = 11 := (A2162 _ (nek r 5 2 rfl)).2.2.1.trans f2105
  have f2170 : ln w2161 (r + 5) = 7 := (A2162 _ (nek r 5 2 rfl)).2.2.2.trans f2106
  have f2171 : gi w2161 (r + 5) = (fun _ => 0) := (A2162 _ (nek r 5 2 rfl)).1.trans f2107
  have f2172 : ty w2161 r = 5 := (A2162 _ (nek r 0 2 rfl)).2.2.1.trans f2108
  have f2173 : gi w2161 r = (fun _ => 0) := (A2162 _ (nek r 0 2 rfl)).1.trans f2109
  have f2174 : gr w2161 r 0 = (r + 1) := (congrFun (A2162 _ (nek r 0 2 rfl)).2.1 _).trans f2110
  have f2175 : gr w2161 r 1 = (r + 2) := (congrFun (A2162 _ (nek r 0 2 rfl)).2.1 _).trans f2111
  have f2176 : gr w2161 r 2 = (r + 3) := (congrFun (A2162 _ (nek r 0 2 rfl)).2.1 _).trans f2112
  have f2177 : gr w2161 r 3 = (r + 4) := (congrFun (A2162 _ (nek r 0 2 rfl)).2.1 _).trans f2113
  have f2178 : gr w2161 r 4 = (r + 5) := (congrFun (A2162 _ (nek r 0 2 rfl)).2.1 _).trans f2114
  have f2179 : isInks w2161.2 (r + 6) := inks_ag (fun q a b => A2162 q (Nat.ne_of_gt (Nat.lt_of_lt_of_le (ltk r 2 6 rfl) a))) f2115
  have f2180 : ty w2161 (r + 6) = 4 := (A2162 _ (nek r 6 2 rfl)).2.2.1.trans f2116
  have f2181 : isInks w2161.2 (r + 10) := inks_ag (fun q a b => A2162 q (Nat.ne_of_gt (Nat.lt_of_lt_of_le (ltk r 2 10 rfl) a))) f2117
  have f2182 : ty w2161 (r + 10) = 4 := (A2162 _ (nek r 10 2 rfl)).2.2.1.trans f2118
  have f2183 : isInks w2161.2 (r + 14) := inks_ag (fun q a b => A2162 q (Nat.ne_of_gt (Nat.lt_of_lt_of_le (ltk r 2 14 rfl) a))) f2119
  have f2184 : ty w2161 (r + 14) = 4 := (A2162 _ (nek r 14 2 rfl)).2.2.1.trans f2120
  have f2185 : isInks w2161.2 (r + 18) := inks_ag (fun q a b => A2162 q (Nat.ne_of_gt (Nat.lt_of_lt_of_le (ltk r 2 18 rfl) a))) f2121
  have f2186 : ty w2161 (r + 18) = 4 := (A2162 _ (nek r 18 2 rfl)).2.2.1.trans f2122
  have f2187 : isInks w2161.2 (r + 22) := inks_ag (fun q a b => A2162 q (Nat.ne_of_gt (Nat.lt_of_lt_of_le (ltk r 2 22 rfl) a))) f2123
  have f2188 : ty w2161 (r + 22) = 4 := (A2162 _ (nek r 22 2 rfl)).2.2.1.trans f2124
  have f2189 : isInks w2161.2 (r + 26) := inks_ag (fun q a b => A2162 q (Nat.ne_of_gt (Nat.lt_of_lt_of_le (ltk r 2 26 rfl) a))) f2125
  have f2190 : ty w2161 (r + 26) = 4 := (A2162 _ (nek r 26 2 rfl)).2.2.1.trans f2126
  have f2191 : isInks w2161.2 (r + 30) := inks_ag (fun q a b => A2162 q (Nat.ne_of_gt (Nat.lt_of_lt_of_le (ltk r 2 30 rfl) a))) f2127
  have f2192 : ty w2161 (r + 30) = 4 := (A2162 _ (nek r 30 2 rfl)).2.2.1.trans f2128
  have f2193 : isInks w2161.2 (r + 34) := inks_ag (fun q a b => A2162 q (Nat.ne_of_gt (Nat.lt_of_lt_of_le (ltk r 2 34 rfl) a))) f2129
  have f2194 : ty w2161 (r + 34) = 4 := (A2162 _ (nek r 34 2 rfl)).2.2.1.trans f2130
  have f2195 : ty w2161 (r + 1) = 14 := (A2162 _ (nek r 1 2 rfl)).2.2.1.trans f2131
  have f2196 : ln w2161 (r + 1) = 8 := (A2162 _ (nek r 1 2 rfl)).2.2.2.trans f2132
  have f2197 : gi w2161 (r + 1) = (fun _ => 0) := (A2162 _ (nek r 1 2 rfl)).1.trans f2133
  have f2198 : gr w2161 (r + 1) 0 = (r + 6) := (congrFun (A2162 _ (nek r 1 2 rfl)).2.1 _).trans f2134
  have f2199 : gr w2161 (r + 1) 1 = (r + 10) := (congrFun (A2162 _ (nek r 1 2 rfl)).2.1 _).trans f2135
  have f2200 : gr w2161 (r + 1) 2 = (r + 14) := (congrFun (A2162 _ (nek r 1 2 rfl)).2.1 _).trans f2136
  have f2201 : gr w2161 (r + 1) 3 = (r + 18) := (congrFun (A2162 _ (nek r 1 2 rfl)).2.1 _).trans f2137
  have f2202 : gr w2161 (r + 1) 4 = (r + 22) := (congrFun (A2162 _ (nek r 1 2 rfl)).2.1 _).trans f2138
  have f2203 : gr w2161 (r + 1) 5 = (r + 26) := (congrFun (A2162 _ (nek r 1 2 rfl)).2.1 _).trans f2139
  have f2204 : gr w2161 (r + 1) 6 = (r + 30) := (congrFun (A2162 _ (nek r 1 2 rfl)).2.1 _).trans f2140
  have f2205 : gr w2161 (r + 1) 7 = (r + 34) := (congrFun (A2162 _ (nek r 1 2 rfl)).2.1 _).trans f2141
  have f2206 : isPlan w2161.2 (r + 38) := plan_ag (fun q a b => A2162 q (Nat.ne_of_gt (Nat.lt_of_lt_of_le (ltk r 2 38 rfl) a))) f2142
  have f2207 : ty w2161 (r + 38) = 6 := (A2162 _ (nek r 38 2 rfl)).2.2.1.trans f2143
  have f2208 : isPlan w2161.2 (r + 42) := plan_ag (fun q a b => A2162 q (Nat.ne_of_gt (Nat.lt_of_lt_of_le (ltk r 2 42 rfl) a))) f2144
  have f2209 : ty w2161 (r + 42) = 6 := (A2162 _ (nek r 42 2 rfl)).2.2.1.trans f2145
  have f2210 : isPlan w2161.2 (r + 46) := plan_ag (fun q a b => A2162 q (Nat.ne_of_gt (Nat.lt_of_lt_of_le (ltk r 2 46 rfl) a))) f2146
  have f2211 : ty w2161 (r + 46) = 6 := (A2162 _ (nek r 46 2 rfl)).2.2.1.trans f2147
  have f2212 : isPlan w2161.2 (r + 50) := plan_ag (fun q a b => A2162 q (Nat.ne_of_gt (Nat.lt_of_lt_of_le (ltk r 2 50 rfl) a))) f2148
  have f2213 : ty w2161 (r + 50) = 6 := (A2162 _ (nek r 50 2 rfl)).2.2.1.trans f2149
  have f2214 : isPlan w2161.2 (r + 54) := plan_ag (fun q a b => A2162 q (Nat.ne_of_gt (Nat.lt_of_lt_of_le (ltk r 2 54 rfl) a))) f2150
  have f2215 : ty w2161 (r + 54) = 6 := (A2162 _ (nek r 54 2 rfl)).2.2.1.trans f2151
  have f2216 : isPlan w2161.2 (r + 58) := plan_ag (fun q a b => A2162 q (Nat.ne_of_gt (Nat.lt_of_lt_of_le (ltk r 2 58 rfl) a))) f2098
  have f2217 : ty w2161 (r + 58) = 6 := (A2162 _ (nek r 58 2 rfl)).2.2.1.trans f2098.1
  have f2218 : ty w2161 (r + 2) = 15 := by rw [hw2161]; exact f2152
  have f2219 : ln w2161 (r + 2) = 7 := by rw [hw2161]; exact f2153
  have f2220 : gi w2161 (r + 2) = (fun _ => 0) := by rw [hw2161]; exact f2154
  have f2221 : gr w2161 (r + 2) 0 = (r + 38) := by rw [hw2161]; exact (sr_k (by decide)).trans f2155
  have f2222 : gr w2161 (r + 2) 1 = (r + 42) := by rw [hw2161]; exact (sr_k (by decide)).trans f2156
  have f2223 : gr w2161 (r + 2) 2 = (r + 46) := by rw [hw2161]; exact (sr_k (by decide)).trans f2157
  have f2224 : gr w2161 (r + 2) 3 = (r + 50) := by rw [hw2161]; exact (sr_k (by decide)).trans f2158
  have f2225 : gr w2161 (r + 2) 4 = (r + 54) := by rw [hw2161]; exact (sr_k (by decide)).trans f2159
  have f2226 : gr w2161 (r + 2) 5 = (r + 58) := by rw [hw2161]; exact sr_e
  have n2227 : nx w2161 = r + 62 := by rw [hw2161]; exact ni2097
  have u2228 : uc w2161 = uc w + 61 := by rw [hw2161]; exact ui2097
  have s2229 : us w2161 = us w + 558 := by rw [hw2161]; exact si2097
  have g2230 : ∀ q, q < r → gi w2161 q = gi w q ∧ gr w2161 q = gr w q ∧ ty w2161 q = ty w q ∧ ln w2161 q = ln w q := fun q hq => by have a := A2162 q (Nat.ne_of_lt (Nat.lt_of_lt_of_le hq (Nat.le_add_right r 2))); have b := g2160 q hq; exact ⟨a.1.trans b.1, a.2.1.trans b.2.1, a.2.2.1.trans b.2.2.1, a.2.2.2.trans b.2.2.2⟩
  clear A2162 f2098 f2099 f2100 f2101 f2102 f2103 f2104 f2105 f2106 f2107 f2108 f2109 f2110 f2111 f2112 f2113 f2114 f2115 f2116 f2117 f2118 f2119 f2120 f2121 f2122 f2123 f2124 f2125 f2126 f2127 f2128 f2129 f2130 f2131 f2132 f2133 f2134 f2135 f2136 f2137 f2138 f2139 f2140 f2141 f2142 f2143 f2144 f2145 f2146 f2147 f2148 f2149 f2150 f2151 f2152 f2153 f2154 f2155 f2156 f2157 f2158 f2159 g2160 hw2161 ni2097 si2097 ui2097
  refine WP.blk 1 ?_
  show ir (5 + 1) ∧ WP 2 26 97 [vR r, vI 6] [] w2161 Q
  refine ⟨⟨by decide, by decide⟩, ?_⟩
  refine WP.blk 1 ?_
  show WP 2 26 75 [vR r, vI 6] [] w2161 Q
  refine WP.blk 1 ?_
  show WP 2 26 76 [vR r, vI 6] [vI 6] w2161 Q
  refine WP.blk 1 ?_
  show WP 2 26 78 [vR r, vI 6] [vI 7, vI 6] w2161 Q
  refine WP.blk 1 ?_
  show WP 2 26 81 [vR r, vI 6] [] w2161 Q
  refine WP.blk 1 ?_
  show WP 2 26 82 [vR r, vI 6] [vR r] w2161 Q
  refine WP.blk 1 ?_
  show (ty w2161 r = 5 ∧ gr w2161 r 1 ≠ 0) ∧ WP 2 26 85 [vR r, vI 6] [vR (gr w2161 r 1)] w2161 Q
  refine ⟨⟨f2172, by rw [f2175]; exact Nat.succ_ne_zero _⟩, ?_⟩
  rw [f2175]
  refine WP.blk 1 ?_
  show WP 2 26 86 [vR r, vI 6] [vI 6, vR (r + 2)] w2161 Q
  refine WP.blk 1 ?_
  show WP 2 26 89 [vR r, vI 6] [vR (nx w2161), vI 6, vR (r + 2)] (mk w2161 6 4) Q
  rw [n2227]
  obtain ⟨w2231, hw2231⟩ : ∃ y9, y9 = mk w2161 6 4 := ⟨_, rfl⟩
  rw [← hw2231]
  have A2232 : ∀ q, q ≠ r + 62 → gi w2231 q = gi w2161 q ∧ gr w2231 q = gr w2161 q ∧ ty w2231 q = ty w2161 q ∧ ln w2231 q = ln w2161 q := fun q hq => by rw [hw2231]; exact mk_o (by rw [n2227]; exact hq)
  have f2233 : ty w2231 (r + 3) = 11 := (A2232 _ (nek r 3 62 rfl)).2.2.1.trans f2163
  have f2234 : ln w2231 (r + 3) = 7 := (A2232 _ (nek r 3 62 rfl)).2.2.2.trans f2164
  have f2235 : gi w2231 (r + 3) = (fun _ => 0) := (A2232 _ (nek r 3 62 rfl)).1.trans f2165
  have f2236 : ty w2231 (r + 4) = 11 := (A2232 _ (nek r 4 62 rfl)).2.2.1.trans f2166
  have f2237 : ln w2231 (r + 4) = 7 := (A2232 _ (nek r 4 62 rfl)).2.2.2.trans f2167
  have f2238 : gi w2231 (r + 4) = (fun _ => 0) := (A2232 _ (nek r 4 62 rfl)).1.trans f2168
  have f2239 : ty w2231 (r + 5) = 11 := (A2232 _ (nek r 5 62 rfl)).2.2.1.trans f2169
  have f2240 : ln w2231 (r + 5) = 7 := (A2232 _ (nek r 5 62 rfl)).2.2.2.trans f2170
  have f2241 : gi w2231 (r + 5) = (fun _ => 0) := (A2232 _ (nek r 5 62 rfl)).1.trans f2171
  have f2242 : ty w2231 r = 5 := (A2232 _ (nek r 0 62 rfl)).2.2.1.trans f2172
  have f2243 : gi w2231 r = (fun _ => 0) := (A2232 _ (nek r 0 62 rfl)).1.trans f2173
  have f2244 : gr w2231 r 0 = (r + 1) := (congrFun (A2232 _ (nek r 0 62 rfl)).2.1 _).trans f2174
  have f2245 : gr w2231 r 1 = (r + 2) := (congrFun (A2232 _ (nek r 0 62 rfl)).2.1 _).trans f2175
  have f2246 : gr w2231 r 2 = (r + 3) := (congrFun (A2232 _ (nek r 0 62 rfl)).2.1 _).trans f2176
  have f2247 : gr w2231 r 3 = (r + 4) := (congrFun (A2232 _ (nek r 0 62 rfl)).2.1 _).trans f2177
  have f2248 : gr w2231 r 4 = (r + 5) := (congrFun (A2232 _ (nek r 0 62 rfl)).2.1 _).trans f2178
  have f2249 : isInks w2231.2 (r + 6) := inks_ag (fun q a b => A2232 q (Nat.ne_of_lt (Nat.lt_of_lt_of_le b (lek r 6 4 62 rfl)))) f2179
  have f2250 : ty w2231 (r + 6) = 4 := (A2232 _ (nek r 6 62 rfl)).2.2.1.trans f2180
  have f2251 : isInks w2231.2 (r + 10) := inks_ag (fun q a b => A2232 q (Nat.ne_of_lt (Nat.lt_of_lt_of_le b (lek r 10 4 62 rfl)))) f2181
  have f2252 : ty w2231 (r + 10) = 4 := (A2232 _ (nek r 10 62 rfl)).2.2.1.trans f2182
  have f2253 : isInks w2231.2 (r + 14) := inks_ag (fun q a b => A2232 q (Nat.ne_of_lt (Nat.lt_of_lt_of_le b (lek r 14 4 62 rfl)))) f2183
  have f2254 : ty w2231 (r + 14) = 4 := (A2232 _ (nek r 14 62 rfl)).2.2.1.trans f2184
  have f2255 : isInks w2231.2 (r + 18) := inks_ag (fun q a b => A2232 q (Nat.ne_of_lt (Nat.lt_of_lt_of_le b (lek r 18 4 62 rfl)))) f2185
  have f2256 : ty w2231 (r + 18) = 4 := (A2232 _ (nek r 18 62 rfl)).2.2.1.trans f2186
  have f2257 : isInks w2231.2 (r + 22) := inks_ag (fun q a b => A2232 q (Nat.ne_of_lt (Nat.lt_of_lt_of_le b (lek r 22 4 62 rfl)))) f2187
  have f2258 : ty w2231 (r + 22) = 4 := (A2232 _ (nek r 22 62 rfl)).2.2.1.trans f2188
  have f2259 : isInks w2231.2 (r + 26) := inks_ag (fun q a b => A2232 q (Nat.ne_of_lt (Nat.lt_of_lt_of_le b (lek r 26 4 62 rfl)))) f2189
  have f2260 : ty w2231 (r + 26) = 4 := (A2232 _ (nek r 26 62 rfl)).2.2.1.trans f2190
  have f2261 : isInks w2231.2 (r + 30) := inks_ag (fun q a b => A2232 q (Nat.ne_of_lt (Nat.lt_of_lt_of_le b (lek r 30 4 62 rfl)))) f2191
  have f2262 : ty w2231 (r + 30) = 4 := (A2232 _ (nek r 30 62 rfl)).2.2.1.trans f2192
  have f2263 : isInks w2231.2 (r + 34) := inks_ag (fun q a b => A2232 q (Nat.ne_of_lt (Nat.lt_of_lt_of_le b (lek r 34 4 62 rfl)))) f2193
  have f2264 : ty w2231 (r + 34) = 4 := (A2232 _ (nek r 34 62 rfl)).2.2.1.trans f2194
  have f2265 : ty w2231 (r + 1) = 14 := (A2232 _ (nek r 1 62 rfl)).2.2.1.trans f2195
  have f2266 : ln w2231 (r + 1) = 8 := (A2232 _ (nek r 1 62 rfl)).2.2.2.trans f2196
  have f2267 : gi w2231 (r + 1) = (fun _ => 0) := (A2232 _ (nek r 1 62 rfl)).1.trans f2197
  have f2268 : gr w2231 (r + 1) 0 = (r + 6) := (congrFun (A2232 _ (nek r 1 62 rfl)).2.1 _).trans f2198
  have f2269 : gr w2231 (r + 1) 1 = (r + 10) := (congrFun (A2232 _ (nek r 1 62 rfl)).2.1 _).trans f2199
  have f2270 : gr w2231 (r + 1) 2 = (r + 14) := (congrFun (A2232 _ (nek r 1 62 rfl)).2.1 _).trans f2200
  have f2271 : gr w2231 (r + 1) 3 = (r + 18) := (congrFun (A2232 _ (nek r 1 62 rfl)).2.1 _).trans f2201
  have f2272 : gr w2231 (r + 1) 4 = (r + 22) := (congrFun (A2232 _ (nek r 1 62 rfl)).2.1 _).trans f2202
  have f2273 : gr w2231 (r + 1) 5 = (r + 26) := (congrFun (A2232 _ (nek r 1 62 rfl)).2.1 _).trans f2203
  have f2274 : gr w2231 (r + 1) 6 = (r + 30) := (congrFun (A2232 _ (nek r 1 62 rfl)).2.1 _).trans f2204
  have f2275 : gr w2231 (r + 1) 7 = (r + 34) := (congrFun (A2232 _ (nek r 1 62 rfl)).2.1 _).trans f2205
  have f2276 : isPlan w2231.2 (r + 38) := plan_ag (fun q a b => A2232 q (Nat.ne_of_lt (Nat.lt_of_lt_of_le b (lek r 38 4 62 rfl)))) f2206
  have f2277 : ty w2231 (r + 38) = 6 := (A2232 _ (nek r 38 62 rfl)).2.2.1.trans f2207
  have f2278 : isPlan w2231.2 (r + 42) := plan_ag (fun q a b => A2232 q (Nat.ne_of_lt (Nat.lt_of_lt_of_le b (lek r 42 4 62 rfl)))) f2208
  have f2279 : ty w2231 (r + 42) = 6 := (A2232 _ (nek r 42 62 rfl)).2.2.1.trans f2209
  have f2280 : isPlan w2231.2 (r + 46) := plan_ag (fun q a b => A2232 q (Nat.ne_of_lt (Nat.lt_of_lt_of_le b (lek r 46 4 62 rfl)))) f2210
  have f2281 : ty w2231 (r + 46) = 6 := (A2232 _ (nek r 46 62 rfl)).2.2.1.trans f2211
  have f2282 : isPlan w2231.2 (r + 50) := plan_ag (fun q a b => A2232 q (Nat.ne_of_lt (Nat.lt_of_lt_of_le b (lek r 50 4 62 rfl)))) f2212
  have f2283 : ty w2231 (r + 50) = 6 := (A2232 _ (nek r 50 62 rfl)).2.2.1.trans f2213
  have f2284 : isPlan w2231.2 (r + 54) := plan_ag (fun q a b => A2232 q (Nat.ne_of_lt (Nat.lt_of_lt_of_le b (lek r 54 4 62 rfl)))) f2214
  have f2285 : ty w2231 (r + 54) = 6 := (A2232 _ (nek r 54 62 rfl)).2.2.1.trans f2215
  have f2286 : isPlan w2231.2 (r + 58) := plan_ag (fun q a b => A2232 q (Nat.ne_of_lt (Nat.lt_of_lt_of_le b (lek r 58 4 62 rfl)))) f2216
  have f2287 : ty w2231 (r + 58) = 6 := (A2232 _ (nek r 58 62 rfl)).2.2.1.trans f2217
  have f2288 : ty w2231 (r + 2) = 15 := (A2232 _ (nek r 2 62 rfl)).2.2.1.trans f2218
  have f2289 : ln w2231 (r + 2) = 7 := (A2232 _ (nek r 2 62 rfl)).2.2.2.trans f2219
  have f2290 : gi w2231 (r + 2) = (fun _ => 0) := (A2232 _ (nek r 2 62 rfl)).1.trans f2220
  have f2291 : gr w2231 (r + 2) 0 = (r + 38) := (congrFun (A2232 _ (nek r 2 62 rfl)).2.1 _).trans f2221
  have f2292 : gr w2231 (r + 2) 1 = (r + 42) := (congrFun (A2232 _ (nek r 2 62 rfl)).2.1 _).trans f2222
  have f2293 : gr w2231 (r + 2) 2 = (r + 46) := (congrFun (A2232 _ (nek r 2 62 rfl)).2.1 _).trans f2223
  have f2294 : gr w2231 (r + 2) 3 = (r + 50) := (congrFun (A2232 _ (nek r 2 62 rfl)).2.1 _).trans f2224
  have f2295 : gr w2231 (r + 2) 4 = (r + 54) := (congrFun (A2232 _ (nek r 2 62 rfl)).2.1 _).trans f2225
  have f2296 : gr w2231 (r + 2) 5 = (r + 58) := (congrFun (A2232 _ (nek r 2 62 rfl)).2.1 _).trans f2226
  have e2297 := mk_e (w := w2161) (t := 6) (n := 4)
  rw [← hw2231, n2227] at e2297
  have n2298 : nx w2231 = r + 63 := by rw [hw2231]; exact congrArg (· + 1) n2227
  have u2299 : uc w2231 = uc w + 62 := by rw [hw2231]; exact congrArg (· + 1) u2228
  have s2300 : us w2231 = us w + 562 := by rw [hw2231]; exact congrArg (· + 4) s2229
  have g2301 : ∀ q, q < r → gi w2231 q = gi w q ∧ gr w2231 q = gr w q ∧ ty w2231 q = ty w q ∧ ln w2231 q = ln w q := fun q hq => by have a := A2232 q (Nat.ne_of_lt (Nat.lt_of_lt_of_le hq (Nat.le_add_right r 62))); have b := g2230 q hq; exact ⟨a.1.trans b.1, a.2.1.trans b.2.1, a.2.2.1.trans b.2.2.1, a.2.2.2.trans b.2.2.2⟩
  clear A2232 f2163 f2164 f2165 f2166 f2167 f2168 f2169 f2170 f2171 f2172 f2173 f2174 f2175 f2176 f2177 f2178 f2179 f2180 f2181 f2182 f2183 f2184 f2185 f2186 f2187 f2188 f2189 f2190 f2191 f2192 f2193 f2194 f2195 f2196 f2197 f2198 f2199 f2200 f2201 f2202 f2203 f2204 f2205 f2206 f2207 f2208 f2209 f2210 f2211 f2212 f2213 f2214 f2215 f2216 f2217 f2218 f2219 f2220 f2221 f2222 f2223 f2224 f2225 f2226 g2230 hw2231 n2227 s2229 u2228
  refine WP.blk 1 ?_
  show WP 2 26 90 [vR r, vI 6] [vR (r + 62), vR (r + 62), vI 6, vR (r + 2)] w2231 Q
  refine WP.cl (a := [vR (r + 62)]) (rest := [vR (r + 62), vI 6, vR (r + 2)]) rfl rfl rfl rfl trivial (by decide) (c_plan n2298 e2297.2.1 e2297.1 (fun w2302 hA2303 hni2304 hui2304 hsi2304 f2305 => ⟨rfl, ?_⟩))
  show WP 2 26 93 [vR r, vI 6] [vR (r + 62), vI 6, vR (r + 2)] w2302 Q
  have A2303 : ∀ q, q < r + 62 → gi w2302 q = gi w2231 q ∧ gr w2302 q = gr w2231 q ∧ ty w2302 q = ty w2231 q ∧ ln w2302 q = ln w2231 q := fun q hq => hA2303 q (Nat.zero_le _) hq
  have f2306 : ty w2302 (r + 3) = 11 := (A2303 _ (ltk r 3 62 rfl)).2.2.1.trans f2233
  have f2307 : ln w2302 (r + 3) = 7 := (A2303 _ (ltk r 3 62 rfl)).2.2.2.trans f2234
  have f2308 : gi w2302 (r + 3) = (fun _ => 0) := (A2303 _ (ltk r 3 62 rfl)).1.trans f2235
  have f2309 : ty w2302 (r + 4) = 11 := (A2303 _ (ltk r 4 62 rfl)).2.2.1.trans f2236
  have f2310 : ln w2302 (r + 4) = 7 := (A2303 _ (ltk r 4 62 rfl)).2.2.2.trans f2237
  have f2311 : gi w2302 (r + 4) = (fun _ => 0) := (A2303 _ (ltk r 4 62 rfl)).1.trans f2238
  have f2312 : ty w2302 (r + 5) = 11 := (A2303 _ (ltk r 5 62 rfl)).2.2.1.trans f2239
  have f2313 : ln w2302 (r + 5) = 7 := (A2303 _ (ltk r 5 62 rfl)).2.2.2.trans f2240
  have f2314 : gi w2302 (r + 5) = (fun _ => 0) := (A2303 _ (ltk r 5 62 rfl)).1.trans f2241
  have f2315 : ty w2302 r = 5 := (A2303 _ (ltk r 0 62 rfl)).2.2.1.trans f2242
  have f2316 : gi w2302 r = (fun _ => 0) := (A2303 _ (ltk r 0 62 rfl)).1.trans f2243
  have f2317 : gr w2302 r 0 = (r + 1) := (congrFun (A2303 _ (ltk r 0 62 rfl)).2.1 _).trans f2244
  have f2318 : gr w2302 r 1 = (r + 2) := (congrFun (A2303 _ (ltk r 0 62 rfl)).2.1 _).trans f2245
  have f2319 : gr w2302 r 2 = (r + 3) := (congrFun (A2303 _ (ltk r 0 62 rfl)).2.1 _).trans f2246
  have f2320 : gr w2302 r 3 = (r + 4) := (congrFun (A2303 _ (ltk r 0 62 rfl)).2.1 _).trans f2247
  have f2321 : gr w2302 r 4 = (r + 5) := (congrFun (A2303 _ (ltk r 0 62 rfl)).2.1 _).trans f2248
  have f2322 : isInks w2302.2 (r + 6) := inks_ag (fun q a b => A2303 q (Nat.lt_of_lt_of_le b (lek r 6 4 62 rfl))) f2249
  have f2323 : ty w2302 (r + 6) = 4 := (A2303 _ (ltk r 6 62 rfl)).2.2.1.trans f2250
  have f2324 : isInks w2302.2 (r + 10) := inks_ag (fun q a b => A2303 q (Nat.lt_of_lt_of_le b (lek r 10 4 62 rfl))) f2251
  have f2325 : ty w2302 (r + 10) = 4 := (A2303 _ (ltk r 10 62 rfl)).2.2.1.trans f2252
  have f2326 : isInks w2302.2 (r + 14) := inks_ag (fun q a b => A2303 q (Nat.lt_of_lt_of_le b (lek r 14 4 62 rfl))) f2253
  have f2327 : ty w2302 (r + 14) = 4 := (A2303 _ (ltk r 14 62 rfl)).2.2.1.trans f2254
  have f2328 : isInks w2302.2 (r + 18) := inks_ag (fun q a b => A2303 q (Nat.lt_of_lt_of_le b (lek r 18 4 62 rfl))) f2255
  have f2329 : ty w2302 (r + 18) = 4 := (A2303 _ (ltk r 18 62 rfl)).2.2.1.trans f2256
  have f2330 : isInks w2302.2 (r + 22) := inks_ag (fun q a b => A2303 q (Nat.lt_of_lt_of_le b (lek r 22 4 62 rfl))) f2257
  have f2331 : ty w2302 (r + 22) = 4 := (A2303 _ (ltk r 22 62 rfl)).2.2.1.trans f2258
  have f2332 : isInks w2302.2 (r + 26) := inks_ag (fun q a b => A2303 q (Nat.lt_of_lt_of_le b (lek r 26 4 62 rfl))) f2259
  have f2333 : ty w2302 (r + 26) = 4 := (A2303 _ (ltk r 26 62 rfl)).2.2.1.trans f2260
  have f2334 : isInks w2302.2 (r + 30) := inks_ag (fun q a b => A2303 q (Nat.lt_of_lt_of_le b (lek r 30 4 62 rfl))) f2261
  have f2335 : ty w2302 (r + 30) = 4 := (A2303 _ (ltk r 30 62 rfl)).2.2.1.trans f2262
  have f2336 : isInks w2302.2 (r + 34) := inks_ag (fun q a b => A2303 q (Nat.lt_of_lt_of_le b (lek r 34 4 62 rfl))) f2263
  have f2337 : ty w2302 (r + 34) = 4 := (A2303 _ (ltk r 34 62 rfl)).2.2.1.trans f2264
  have f2338 : ty w2302 (r + 1) = 14 := (A2303 _ (ltk r 1 62 rfl)).2.2.1.trans f2265
  have f2339 : ln w2302 (r + 1) = 8 := (A2303 _ (ltk r 1 62 rfl)).2.2.2.trans f2266
  have f2340 : gi w2302 (r + 1) = (fun _ => 0) := (A2303 _ (ltk r 1 62 rfl)).1.trans f2267
  have f2341 : gr w2302 (r + 1) 0 = (r + 6) := (congrFun (A2303 _ (ltk r 1 62 rfl)).2.1 _).trans f2268
  have f2342 : gr w2302 (r + 1) 1 = (r + 10) := (congrFun (A2303 _ (ltk r 1 62 rfl)).2.1 _).trans f2269
  have f2343 : gr w2302 (r + 1) 2 = (r + 14) := (congrFun (A2303 _ (ltk r 1 62 rfl)).2.1 _).trans f2270
  have f2344 : gr w2302 (r + 1) 3 = (r + 18) := (congrFun (A2303 _ (ltk r 1 62 rfl)).2.1 _).trans f2271
  have f2345 : gr w2302 (r + 1) 4 = (r + 22) := (congrFun (A2303 _ (ltk r 1 62 rfl)).2.1 _).trans f2272
  have f2346 : gr w2302 (r + 1) 5 = (r + 26) := (congrFun (A2303 _ (ltk r 1 62 rfl)).2.1 _).trans f2273
  have f2347 : gr w2302 (r + 1) 6 = (r + 30) := (congrFun (A2303 _ (ltk r 1 62 rfl)).2.1 _).trans f2274
  have f2348 : gr w2302 (r + 1) 7 = (r + 34) := (congrFun (A2303 _ (ltk r 1 62 rfl)).2.1 _).trans f2275
  have f2349 : isPlan w2302.2 (r + 38) := plan_ag (fun q a b => A2303 q (Nat.lt_of_lt_of_le b (lek r 38 4 62 rfl))) f2276
  have f2350 : ty w2302 (r + 38) = 6 := (A2303 _ (ltk r 38 62 rfl)).2.2.1.trans f2277
  have f2351 : isPlan w2302.2 (r + 42) := plan_ag (fun q a b => A2303 q (Nat.lt_of_lt_of_le b (lek r 42 4 62 rfl))) f2278
  have f2352 : ty w2302 (r + 42) = 6 := (A2303 _ (ltk r 42 62 rfl)).2.2.1.trans f2279
  have f2353 : isPlan w2302.2 (r + 46) := plan_ag (fun q a b => A2303 q (Nat.lt_of_lt_of_le b (lek r 46 4 62 rfl))) f2280
  have f2354 : ty w2302 (r + 46) = 6 := (A2303 _ (ltk r 46 62 rfl)).2.2.1.trans f2281
  have f2355 : isPlan w2302.2 (r + 50) := plan_ag (fun q a b => A2303 q (Nat.lt_of_lt_of_le b (lek r 50 4 62 rfl))) f2282
  have f2356 : ty w2302 (r + 50) = 6 := (A2303 _ (ltk r 50 62 rfl)).2.2.1.trans f2283
  have f2357 : isPlan w2302.2 (r + 54) := plan_ag (fun q a b => A2303 q (Nat.lt_of_lt_of_le b (lek r 54 4 62 rfl))) f2284
  have f2358 : ty w2302 (r + 54) = 6 := (A2303 _ (ltk r 54 62 rfl)).2.2.1.trans f2285
  have f2359 : isPlan w2302.2 (r + 58) := plan_ag (fun q a b => A2303 q (Nat.lt_of_lt_of_le b (lek r 58 4 62 rfl))) f2286
  have f2360 : ty w2302 (r + 58) = 6 := (A2303 _ (ltk r 58 62 rfl)).2.2.1.trans f2287
  have f2361 : ty w2302 (r + 2) = 15 := (A2303 _ (ltk r 2 62 rfl)).2.2.1.trans f2288
  have f2362 : ln w2302 (r + 2) = 7 := (A2303 _ (ltk r 2 62 rfl)).2.2.2.trans f2289
  have f2363 : gi w2302 (r + 2) = (fun _ => 0) := (A2303 _ (ltk r 2 62 rfl)).1.trans f2290
  have f2364 : gr w2302 (r + 2) 0 = (r + 38) := (congrFun (A2303 _ (ltk r 2 62 rfl)).2.1 _).trans f2291
  have f2365 : gr w2302 (r + 2) 1 = (r + 42) := (congrFun (A2303 _ (ltk r 2 62 rfl)).2.1 _).trans f2292
  have f2366 : gr w2302 (r + 2) 2 = (r + 46) := (congrFun (A2303 _ (ltk r 2 62 rfl)).2.1 _).trans f2293
  have f2367 : gr w2302 (r + 2) 3 = (r + 50) := (congrFun (A2303 _ (ltk r 2 62 rfl)).2.1 _).trans f2294
  have f2368 : gr w2302 (r + 2) 4 = (r + 54) := (congrFun (A2303 _ (ltk r 2 62 rfl)).2.1 _).trans f2295
  have f2369 : gr w2302 (r + 2) 5 = (r + 58) := (congrFun (A2303 _ (ltk r 2 62 rfl)).2.1 _).trans f2296
  have ni2304 : nx w2302 = r + 66 := hni2304
  have ui2304 : uc w2302 = uc w + 65 := hui2304.trans (congrArg (· + 3) u2299)
  have si2304 : us w2302 = us w + 597 := hsi2304.trans (congrArg (· + 35) s2300)
  have g2370 : ∀ q, q < r → gi w2302 q = gi w q ∧ gr w2302 q = gr w q ∧ ty w2302 q = ty w q ∧ ln w2302 q = ln w q := fun q hq => by have a := A2303 q (Nat.lt_of_lt_of_le hq (Nat.le_add_right r 62)); have b := g2301 q hq; exact ⟨a.1.trans b.1, a.2.1.trans b.2.1, a.2.2.1.trans b.2.2.1, a.2.2.2.trans b.2.2.2⟩
  clear A2303 e2297 f2233 f2234 f2235 f2236 f2237 f2238 f2239 f2240 f2241 f2242 f2243 f2244 f2245 f2246 f2247 f2248 f2249 f2250 f2251 f2252 f2253 f2254 f2255 f2256 f2257 f2258 f2259 f2260 f2261 f2262 f2263 f2264 f2265 f2266 f2267 f2268 f2269 f2270 f2271 f2272 f2273 f2274 f2275 f2276 f2277 f2278 f2279 f2280 f2281 f2282 f2283 f2284 f2285 f2286 f2287 f2288 f2289 f2290 f2291 f2292 f2293 f2294 f2295 f2296 g2301 hA2303 hni2304 hsi2304 hui2304 n2298 s2300 u2299
  refine WP.blk 1 ?_
  show (ref3 (ty w2302 (r + 2)) ∧ 0 ≤ (6 : Int) ∧ (6 : Int) < (ln w2302 (r + 2) : Int) ∧ ty w2302 (r + 62) = el3 (ty w2302 (r + 2))) ∧ WP 2 26 94 [vR r, vI 6] [] (sr w2302 (r + 2) 6 (r + 62)) Q
  refine ⟨⟨Or.inr (Or.inr f2361), by decide, by rw [f2362]; decide, by rw [f2361]; exact f2305.1⟩, ?_⟩
  obtain ⟨w2371, hw2371⟩ : ∃ y9, y9 = sr w2302 (r + 2) 6 (r + 62) := ⟨_, rfl⟩
  rw [← hw2371]
  have A2372 : ∀ q, q ≠ r + 2 → gi w2371 q = gi w2302 q ∧ gr w2371 q = gr w2302 q ∧ ty w2371 q = ty w2302 q ∧ ln w2371 q = ln w2302 q := fun q hq => by rw [hw2371]; exact sr_o hq
  have f2373 : ty w2371 (r + 3) = 11 := (A2372 _ (nek r 3 2 rfl)).2.2.1.trans f2306
  have f2374 : ln w2371 (r + 3) = 7 := (A2372 _ (nek r 3 2 rfl)).2.2.2.trans f2307
  have f2375 : gi w2371 (r + 3) = (fun _ => 0) := (A2372 _ (nek r 3 2 rfl)).1.trans f2308
  have f2376 : ty w2371 (r + 4) = 11 := (A2372 _ (nek r 4 2 rfl)).2.2.1.trans f2309
  have f2377 : ln w2371 (r + 4) = 7 := (A2372 _ (nek r 4 2 rfl)).2.2.2.trans f2310
  have f2378 : gi w2371 (r + 4) = (fun _ => 0) := (A2372 _ (nek r 4 2 rfl)).1.trans f2311
  have f2379 : ty w2371 (r + 5) = 11 := (A2372 _ (nek r 5 2 rfl)).2.2.1.trans f2312
  have f2380 : ln w2371 (r + 5) = 7 := (A2372 _ (nek r 5 2 rfl)).2.2.2.trans f2313
  have f2381 : gi w2371 (r + 5) = (fun _ => 0) := (A2372 _ (nek r 5 2 rfl)).1.trans f2314
  have f2382 : ty w2371 r = 5 := (A2372 _ (nek r 0 2 rfl)).2.2.1.trans f2315
  have f2383 : gi w2371 r = (fun _ => 0) := (A2372 _ (nek r 0 2 rfl)).1.trans f2316
  have f2384 : gr w2371 r 0 = (r + 1) := (congrFun (A2372 _ (nek r 0 2 rfl)).2.1 _).trans f2317
  have f2385 : gr w2371 r 1 = (r + 2) := (congrFun (A2372 _ (nek r 0 2 rfl)).2.1 _).trans f2318
  have f2386 : gr w2371 r 2 = (r + 3) := (congrFun (A2372 _ (nek r 0 2 rfl)).2.1 _).trans f2319
  have f2387 : gr w2371 r 3 = (r + 4) := (congrFun (A2372 _ (nek r 0 2 rfl)).2.1 _).trans f2320
  have f2388 : gr w2371 r 4 = (r + 5) := (congrFun (A2372 _ (nek r 0 2 rfl)).2.1 _).trans f2321
  have f2389 : isInks w2371.2 (r + 6) := inks_ag (fun q a b => A2372 q (Nat.ne_of_gt (Nat.lt_of_lt_of_le (ltk r 2 6 rfl) a))) f2322
  have f2390 : ty w2371 (r + 6) = 4 := (A2372 _ (nek r 6 2 rfl)).2.2.1.trans f2323
  have f2391 : isInks w2371.2 (r + 10) := inks_ag (fun q a b => A2372 q (Nat.ne_of_gt (Nat.lt_of_lt_of_le (ltk r 2 10 rfl) a))) f2324
  have f2392 : ty w2371 (r + 10) = 4 := (A2372 _ (nek r 10 2 rfl)).2.2.1.trans f2325
  have f2393 : isInks w2371.2 (r + 14) := inks_ag (fun q a b => A2372 q (Nat.ne_of_gt (Nat.lt_of_lt_of_le (ltk r 2 14 rfl) a))) f2326
  have f2394 : ty w2371 (r + 14) = 4 := (A2372 _ (nek r 14 2 rfl)).2.2.1.trans f2327
  have f2395 : isInks w2371.2 (r + 18) := inks_ag (fun q a b => A2372 q (Nat.ne_of_gt (Nat.lt_of_lt_of_le (ltk r 2 18 rfl) a))) f2328
  have f2396 : ty w2371 (r + 18) = 4 := (A2372 _ (nek r 18 2 rfl)).2.2.1.trans f2329
  have f2397 : isInks w2371.2 (r + 22) := inks_ag (fun q a b => A2372 q (Nat.ne_of_gt (Nat.lt_of_lt_of_le (ltk r 2 22 rfl) a))) f2330
  have f2398 : ty w2371 (r + 22) = 4 := (A2372 _ (nek r 22 2 rfl)).2.2.1.trans f2331
  have f2399 : isInks w2371.2 (r + 26) := inks_ag (fun q a b => A2372 q (Nat.ne_of_gt (Nat.lt_of_lt_of_le (ltk r 2 26 rfl) a))) f2332
  have f2400 : ty w2371 (r + 26) = 4 := (A2372 _ (nek r 26 2 rfl)).2.2.1.trans f2333
  have f2401 : isInks w2371.2 (r + 30) := inks_ag (fun q a b => A2372 q (Nat.ne_of_gt (Nat.lt_of_lt_of_le (ltk r 2 30 rfl) a))) f2334
  have f2402 : ty w2371 (r + 30) = 4 := (A2372 _ (nek r 30 2 rfl)).2.2.1.trans f2335
  have f2403 : isInks w2371.2 (r + 34) := inks_ag (fun q a b => A2372 q (Nat.ne_of_gt (Nat.lt_of_lt_of_le (ltk r 2 34 rfl) a))) f2336
  have f2404 : ty w2371 (r + 34) = 4 := (A2372 _ (nek r 34 2 rfl)).2.2.1.trans f2337
  have f2405 : ty w2371 (r + 1) = 14 := (A2372 _ (nek r 1 2 rfl)).2.2.1.trans f2338
  have f2406 : ln w2371 (r + 1) = 8 := (A2372 _ (nek r 1 2 rfl)).2.2.2.trans f2339
  have f2407 : gi w2371 (r + 1) = (fun _ => 0) := (A2372 _ (nek r 1 2 rfl)).1.trans f2340
  have f2408 : gr w2371 (r + 1) 0 = (r + 6) := (congrFun (A2372 _ (nek r 1 2 rfl)).2.1 _).trans f2341
  have f2409 : gr w2371 (r + 1) 1 = (r + 10) := (congrFun (A2372 _ (nek r 1 2 rfl)).2.1 _).trans f2342
  have f2410 : gr w2371 (r + 1) 2 = (r + 14) := (congrFun (A2372 _ (nek r 1 2 rfl)).2.1 _).trans f2343
  have f2411 : gr w2371 (r + 1) 3 = (r + 18) := (congrFun (A2372 _ (nek r 1 2 rfl)).2.1 _).trans f2344
  have f2412 : gr w2371 (r + 1) 4 = (r + 22) := (congrFun (A2372 _ (nek r 1 2 rfl)).2.1 _).trans f2345
  have f2413 : gr w2371 (r + 1) 5 = (r + 26) := (congrFun (A2372 _ (nek r 1 2 rfl)).2.1 _).trans f2346
  have f2414 : gr w2371 (r + 1) 6 = (r + 30) := (congrFun (A2372 _ (nek r 1 2 rfl)).2.1 _).trans f2347
  have f2415 : gr w2371 (r + 1) 7 = (r + 34) := (congrFun (A2372 _ (nek r 1 2 rfl)).2.1 _).trans f2348
  have f2416 : isPlan w2371.2 (r + 38) := plan_ag (fun q a b => A2372 q (Nat.ne_of_gt (Nat.lt_of_lt_of_le (ltk r 2 38 rfl) a))) f2349
  have f2417 : ty w2371 (r + 38) = 6 := (A2372 _ (nek r 38 2 rfl)).2.2.1.trans f2350
  have f2418 : isPlan w2371.2 (r + 42) := plan_ag (fun q a b => A2372 q (Nat.ne_of_gt (Nat.lt_of_lt_of_le (ltk r 2 42 rfl) a))) f2351
  have f2419 : ty w2371 (r + 42) = 6 := (A2372 _ (nek r 42 2 rfl)).2.2.1.trans f2352
  have f2420 : isPlan w2371.2 (r + 46) := plan_ag (fun q a b => A2372 q (Nat.ne_of_gt (Nat.lt_of_lt_of_le (ltk r 2 46 rfl) a))) f2353
  have f2421 : ty w2371 (r + 46) = 6 := (A2372 _ (nek r 46 2 rfl)).2.2.1.trans f2354
  have f2422 : isPlan w2371.2 (r + 50) := plan_ag (fun q a b => A2372 q (Nat.ne_of_gt (Nat.lt_of_lt_of_le (ltk r 2 50 rfl) a))) f2355
  have f2423 : ty w2371 (r + 50) = 6 := (A2372 _ (nek r 50 2 rfl)).2.2.1.trans f2356
  have f2424 : isPlan w2371.2 (r + 54) := plan_ag (fun q a b => A2372 q (Nat.ne_of_gt (Nat.lt_of_lt_of_le (ltk r 2 54 rfl) a))) f2357
  have f2425 : ty w2371 (r + 54) = 6 := (A2372 _ (nek r 54 2 rfl)).2.2.1.trans f2358
  have f2426 : isPlan w2371.2 (r + 58) := plan_ag (fun q a b => A2372 q (Nat.ne_of_gt (Nat.lt_of_lt_of_le (ltk r 2 58 rfl) a))) f2359
  have f2427 : ty w2371 (r + 58) = 6 := (A2372 _ (nek r 58 2 rfl)).2.2.1.trans f2360
  have f2428 : isPlan w2371.2 (r + 62) := plan_ag (fun q a b => A2372 q (Nat.ne_of_gt (Nat.lt_of_lt_of_le (ltk r 2 62 rfl) a))) f2305
  have f2429 : ty w2371 (r + 62) = 6 := (A2372 _ (nek r 62 2 rfl)).2.2.1.trans f2305.1
  have f2430 : ty w2371 (r + 2) = 15 := by rw [hw2371]; exact f2361
  have f2431 : ln w2371 (r + 2) = 7 := by rw [hw2371]; exact f2362
  have f2432 : gi w2371 (r + 2) = (fun _ => 0) := by rw [hw2371]; exact f2363
  have f2433 : gr w2371 (r + 2) 0 = (r + 38) := by rw [hw2371]; exact (sr_k (by decide)).trans f2364
  have f2434 : gr w2371 (r + 2) 1 = (r + 42) := by rw [hw2371]; exact (sr_k (by decide)).trans f2365
  have f2435 : gr w2371 (r + 2) 2 = (r + 46) := by rw [hw2371]; exact (sr_k (by decide)).trans f2366
  have f2436 : gr w2371 (r + 2) 3 = (r + 50) := by rw [hw2371]; exact (sr_k (by decide)).trans f2367
  have f2437 : gr w2371 (r + 2) 4 = (r + 54) := by rw [hw2371]; exact (sr_k (by decide)).trans f2368
  have f2438 : gr w2371 (r + 2) 5 = (r + 58) := by rw [hw2371]; exact (sr_k (by decide)).trans f2369
  have f2439 : gr w2371 (r + 2) 6 = (r + 62) := by rw [hw2371]; exact sr_e
  have n2440 : nx w2371 = r + 66 := by rw [hw2371]; exact ni2304
  have u2441 : uc w2371 = uc w + 65 := by rw [hw2371]; exact ui2304
  have s2442 : us w2371 = us w + 597 := by rw [hw2371]; exact si2304
  have g2443 : ∀ q, q < r → gi w2371 q = gi w q ∧ gr w2371 q = gr w q ∧ ty w2371 q = ty w q ∧ ln w2371 q = ln w q := fun q hq => by have a := A2372 q (Nat.ne_of_lt (Nat.lt_of_lt_of_le hq (Nat.le_add_right r 2))); have b := g2370 q hq; exact ⟨a.1.trans b.1, a.2.1.trans b.2.1, a.2.2.1.trans b.2.2.1, a.2.2.2.trans b.2.2.2⟩
  clear A2372 f2305 f2306 f2307 f2308 f2309 f2310 f2311 f2312 f2313 f2314 f2315 f2316 f2317 f2318 f2319 f2320 f2321 f2322 f2323 f2324 f2325 f2326 f2327 f2328 f2329 f2330 f2331 f2332 f2333 f2334 f2335 f2336 f2337 f2338 f2339 f2340 f2341 f2342 f2343 f2344 f2345 f2346 f2347 f2348 f2349 f2350 f2351 f2352 f2353 f2354 f2355 f2356 f2357 f2358 f2359 f2360 f2361 f2362 f2363 f2364 f2365 f2366 f2367 f2368 f2369 g2370 hw2371 ni2304 si2304 ui2304
  refine WP.blk 1 ?_
  show ir (6 + 1) ∧ WP 2 26 97 [vR r, vI 7] [] w2371 Q
  refine ⟨⟨by decide, by decide⟩, ?_⟩
  refine WP.blk 1 ?_
  show WP 2 26 75 [vR r, vI 7] [] w2371 Q
  refine WP.blk 1 ?_
  show WP 2 26 76 [vR r, vI 7] [vI 7] w2371 Q
  refine WP.blk 1 ?_
  show WP 2 26 78 [vR r, vI 7] [vI 7, vI 7] w2371 Q
  refine WP.blk 1 ?_
  show WP 2 26 100 [vR r, vI 7] [] w2371 Q
  have hsh : isOrd w2371.2 r := by
    refine ⟨⟨f2382, f2384, f2385, f2386, f2387, f2388⟩, ⟨f2405, f2406, f2430, f2431, f2373, f2374, f2376, f2377, f2379, f2380⟩, fun d hd => ?_, fun v hv => ?_⟩
    · rcases (show d = 0 ∨ d = 1 ∨ d = 2 ∨ d = 3 ∨ d = 4 ∨ d = 5 ∨ d = 6 ∨ d = 7 by omega) with e | e | e | e | e | e | e | e
      · rw [e]; exact ⟨f2408, f2389⟩
      · rw [e]; exact ⟨f2409, f2391⟩
      · rw [e]; exact ⟨f2410, f2393⟩
      · rw [e]; exact ⟨f2411, f2395⟩
      · rw [e]; exact ⟨f2412, f2397⟩
      · rw [e]; exact ⟨f2413, f2399⟩
      · rw [e]; exact ⟨f2414, f2401⟩
      · rw [e]; exact ⟨f2415, f2403⟩
    · rcases (show v = 0 ∨ v = 1 ∨ v = 2 ∨ v = 3 ∨ v = 4 ∨ v = 5 ∨ v = 6 by omega) with e | e | e | e | e | e | e
      · rw [e]; exact ⟨f2433, f2416⟩
      · rw [e]; exact ⟨f2434, f2418⟩
      · rw [e]; exact ⟨f2435, f2420⟩
      · rw [e]; exact ⟨f2436, f2422⟩
      · rw [e]; exact ⟨f2437, f2424⟩
      · rw [e]; exact ⟨f2438, f2426⟩
      · rw [e]; exact ⟨f2439, f2428⟩
  exact WP.ret rfl rfl rfl trivial (k _ (fun q _ hq => g2443 q hq) n2440 u2441 s2442 hsh)
