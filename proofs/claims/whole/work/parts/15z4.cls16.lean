set_option maxHeartbeats 4000000 in
theorem c_mod {w : Wd} {r : Nat} (hn : nx w = r + 1) (ht : ty w r = 10) (hz : gi w r = (fun _ => 0)) {Q : Res → Wd → Prop} (k : ∀ w2, Ag w w2 0 r → nx w2 = r + 12 → uc w2 = uc w + 11 → us w2 = us w + 2923 → isMod w2.2 r → (gi w2 (r + 1) 0 = 0 ∧ gi w2 (r + 1) 1 = 0 ∧ gi w2 (r + 1) 2 = 100 ∧ gi w2 (r + 1) 3 = 5 ∧ gi w2 (r + 1) 4 = 0 ∧ gi w2 (r + 1) 5 = 0 ∧ gi w2 (r + 1) 6 = 0) → gi w2 r 4 = 0 → gi w2 r 7 = 0 → Q (0, none) w2) : EvQ 1 109 [vR r] w Q := by
  refine EvQ.enter (ls := [vR r]) (Nat.le_of_ble_eq_true rfl) rfl ?_
  have hu0 : uc w = uc w + 0 := rfl
  have hs0 : us w = us w + 0 := rfl
  have hg0 : ∀ q, q < r → gi w q = gi w q ∧ gr w q = gr w q ∧ ty w q = ty w q ∧ ln w q = ln w q := fun _ _ => ⟨rfl, rfl, rfl, rfl⟩
  refine WP.blk 1 ?_
  show WP 0 109 1 [vR r] [vR r] w Q
  refine WP.blk 1 ?_
  show WP 0 109 4 [vR r] [] w Q
  refine WP.blk 1 ?_
  show WP 0 109 5 [vR r] [vR r] w Q
  refine WP.blk 1 ?_
  show WP 0 109 8 [vR r] [vI 195, vR r] w Q
  refine WP.blk 1 ?_
  show ((0 : Int) ≤ 195 ∧ (195 : Int) ≤ 100000) ∧ WP 0 109 10 [vR r] [vR (nx w), vR r] (mk w 11 195) Q
  refine ⟨⟨by decide, by decide⟩, ?_⟩
  rw [hn]
  obtain ⟨w1, hw1⟩ : ∃ y9, y9 = mk w 11 195 := ⟨_, rfl⟩
  rw [← hw1]
  have A2 : ∀ q, q ≠ r + 1 → gi w1 q = gi w q ∧ gr w1 q = gr w q ∧ ty w1 q = ty w q ∧ ln w1 q = ln w q := fun q hq => by rw [hw1]; exact mk_o (by rw [hn]; exact hq)
  have f3 : ty w1 r = 10 := (A2 _ (nek r 0 1 rfl)).2.2.1.trans ht
  have f4 : gi w1 r = (fun _ => 0) := (A2 _ (nek r 0 1 rfl)).1.trans hz
  have e5 := mk_e (w := w) (t := 11) (n := 195)
  rw [← hw1, hn] at e5
  have n6 : nx w1 = r + 2 := by rw [hw1]; exact congrArg (· + 1) hn
  have u7 : uc w1 = uc w + 1 := by rw [hw1]; exact congrArg (· + 1) hu0
  have s8 : us w1 = us w + 195 := by rw [hw1]; exact congrArg (· + 195) hs0
  have g9 : ∀ q, q < r → gi w1 q = gi w q ∧ gr w1 q = gr w q ∧ ty w1 q = ty w q ∧ ln w1 q = ln w q := fun q hq => by have a := A2 q (Nat.ne_of_lt (Nat.lt_of_lt_of_le hq (Nat.le_add_right r 1))); have b := hg0 q hq; exact ⟨a.1.trans b.1, a.2.1.trans b.2.1, a.2.2.1.trans b.2.2.1, a.2.2.2.trans b.2.2.2⟩
  clear A2 hg0 hs0 hu0 hw1
  refine WP.blk 1 ?_
  show ty w1 r = 10 ∧ WP 0 109 13 [vR r] [] (sr w1 r 0 (r + 1)) Q
  refine ⟨f3, ?_⟩
  obtain ⟨w10, hw10⟩ : ∃ y9, y9 = sr w1 r 0 (r + 1) := ⟨_, rfl⟩
  rw [← hw10]
  have A11 : ∀ q, q ≠ r → gi w10 q = gi w1 q ∧ gr w10 q = gr w1 q ∧ ty w10 q = ty w1 q ∧ ln w10 q = ln w1 q := fun q hq => by rw [hw10]; exact sr_o hq
  have f12 : ty w10 (r + 1) = 11 := (A11 _ (nek r 1 0 rfl)).2.2.1.trans e5.2.1
  have f13 : ln w10 (r + 1) = 195 := (A11 _ (nek r 1 0 rfl)).2.2.2.trans e5.2.2
  have f14 : gi w10 (r + 1) = (fun _ => 0) := (A11 _ (nek r 1 0 rfl)).1.trans e5.1
  have f15 : ty w10 r = 10 := by rw [hw10]; exact f3
  have f16 : gi w10 r = (fun _ => 0) := by rw [hw10]; exact f4
  have f17 : gr w10 r 0 = (r + 1) := by rw [hw10]; exact sr_e
  have n18 : nx w10 = r + 2 := by rw [hw10]; exact n6
  have u19 : uc w10 = uc w + 1 := by rw [hw10]; exact u7
  have s20 : us w10 = us w + 195 := by rw [hw10]; exact s8
  have g21 : ∀ q, q < r → gi w10 q = gi w q ∧ gr w10 q = gr w q ∧ ty w10 q = ty w q ∧ ln w10 q = ln w q := fun q hq => by have a := A11 q (Nat.ne_of_lt (Nat.lt_of_lt_of_le hq (Nat.le_add_right r 0))); have b := g9 q hq; exact ⟨a.1.trans b.1, a.2.1.trans b.2.1, a.2.2.1.trans b.2.2.1, a.2.2.2.trans b.2.2.2⟩
  clear A11 e5 f3 f4 g9 hw10 n6 s8 u7
  refine WP.blk 1 ?_
  show WP 0 109 14 [vR r] [vR r] w10 Q
  refine WP.blk 1 ?_
  show WP 0 109 17 [vR r] [vI 780, vR r] w10 Q
  refine WP.blk 1 ?_
  show ((0 : Int) ≤ 780 ∧ (780 : Int) ≤ 100000) ∧ WP 0 109 19 [vR r] [vR (nx w10), vR r] (mk w10 11 780) Q
  refine ⟨⟨by decide, by decide⟩, ?_⟩
  rw [n18]
  obtain ⟨w22, hw22⟩ : ∃ y9, y9 = mk w10 11 780 := ⟨_, rfl⟩
  rw [← hw22]
  have A23 : ∀ q, q ≠ r + 2 → gi w22 q = gi w10 q ∧ gr w22 q = gr w10 q ∧ ty w22 q = ty w10 q ∧ ln w22 q = ln w10 q := fun q hq => by rw [hw22]; exact mk_o (by rw [n18]; exact hq)
  have f24 : ty w22 (r + 1) = 11 := (A23 _ (nek r 1 2 rfl)).2.2.1.trans f12
  have f25 : ln w22 (r + 1) = 195 := (A23 _ (nek r 1 2 rfl)).2.2.2.trans f13
  have f26 : gi w22 (r + 1) = (fun _ => 0) := (A23 _ (nek r 1 2 rfl)).1.trans f14
  have f27 : ty w22 r = 10 := (A23 _ (nek r 0 2 rfl)).2.2.1.trans f15
  have f28 : gi w22 r = (fun _ => 0) := (A23 _ (nek r 0 2 rfl)).1.trans f16
  have f29 : gr w22 r 0 = (r + 1) := (congrFun (A23 _ (nek r 0 2 rfl)).2.1 _).trans f17
  have e30 := mk_e (w := w10) (t := 11) (n := 780)
  rw [← hw22, n18] at e30
  have n31 : nx w22 = r + 3 := by rw [hw22]; exact congrArg (· + 1) n18
  have u32 : uc w22 = uc w + 2 := by rw [hw22]; exact congrArg (· + 1) u19
  have s33 : us w22 = us w + 975 := by rw [hw22]; exact congrArg (· + 780) s20
  have g34 : ∀ q, q < r → gi w22 q = gi w q ∧ gr w22 q = gr w q ∧ ty w22 q = ty w q ∧ ln w22 q = ln w q := fun q hq => by have a := A23 q (Nat.ne_of_lt (Nat.lt_of_lt_of_le hq (Nat.le_add_right r 2))); have b := g21 q hq; exact ⟨a.1.trans b.1, a.2.1.trans b.2.1, a.2.2.1.trans b.2.2.1, a.2.2.2.trans b.2.2.2⟩
  clear A23 f12 f13 f14 f15 f16 f17 g21 hw22 n18 s20 u19
  refine WP.blk 1 ?_
  show ty w22 r = 10 ∧ WP 0 109 22 [vR r] [] (sr w22 r 1 (r + 2)) Q
  refine ⟨f27, ?_⟩
  obtain ⟨w35, hw35⟩ : ∃ y9, y9 = sr w22 r 1 (r + 2) := ⟨_, rfl⟩
  rw [← hw35]
  have A36 : ∀ q, q ≠ r → gi w35 q = gi w22 q ∧ gr w35 q = gr w22 q ∧ ty w35 q = ty w22 q ∧ ln w35 q = ln w22 q := fun q hq => by rw [hw35]; exact sr_o hq
  have f37 : ty w35 (r + 1) = 11 := (A36 _ (nek r 1 0 rfl)).2.2.1.trans f24
  have f38 : ln w35 (r + 1) = 195 := (A36 _ (nek r 1 0 rfl)).2.2.2.trans f25
  have f39 : gi w35 (r + 1) = (fun _ => 0) := (A36 _ (nek r 1 0 rfl)).1.trans f26
  have f40 : ty w35 (r + 2) = 11 := (A36 _ (nek r 2 0 rfl)).2.2.1.trans e30.2.1
  have f41 : ln w35 (r + 2) = 780 := (A36 _ (nek r 2 0 rfl)).2.2.2.trans e30.2.2
  have f42 : gi w35 (r + 2) = (fun _ => 0) := (A36 _ (nek r 2 0 rfl)).1.trans e30.1
  have f43 : ty w35 r = 10 := by rw [hw35]; exact f27
  have f44 : gi w35 r = (fun _ => 0) := by rw [hw35]; exact f28
  have f45 : gr w35 r 0 = (r + 1) := by rw [hw35]; exact (sr_k (by decide)).trans f29
  have f46 : gr w35 r 1 = (r + 2) := by rw [hw35]; exact sr_e
  have n47 : nx w35 = r + 3 := by rw [hw35]; exact n31
  have u48 : uc w35 = uc w + 2 := by rw [hw35]; exact u32
  have s49 : us w35 = us w + 975 := by rw [hw35]; exact s33
  have g50 : ∀ q, q < r → gi w35 q = gi w q ∧ gr w35 q = gr w q ∧ ty w35 q = ty w q ∧ ln w35 q = ln w q := fun q hq => by have a := A36 q (Nat.ne_of_lt (Nat.lt_of_lt_of_le hq (Nat.le_add_right r 0))); have b := g34 q hq; exact ⟨a.1.trans b.1, a.2.1.trans b.2.1, a.2.2.1.trans b.2.2.1, a.2.2.2.trans b.2.2.2⟩
  clear A36 e30 f24 f25 f26 f27 f28 f29 g34 hw35 n31 s33 u32
  refine WP.blk 1 ?_
  show WP 0 109 23 [vR r] [vR r] w35 Q
  refine WP.blk 1 ?_
  show WP 0 109 26 [vR r] [vI 195, vR r] w35 Q
  refine WP.blk 1 ?_
  show ((0 : Int) ≤ 195 ∧ (195 : Int) ≤ 100000) ∧ WP 0 109 28 [vR r] [vR (nx w35), vR r] (mk w35 11 195) Q
  refine ⟨⟨by decide, by decide⟩, ?_⟩
  rw [n47]
  obtain ⟨w51, hw51⟩ : ∃ y9, y9 = mk w35 11 195 := ⟨_, rfl⟩
  rw [← hw51]
  have A52 : ∀ q, q ≠ r + 3 → gi w51 q = gi w35 q ∧ gr w51 q = gr w35 q ∧ ty w51 q = ty w35 q ∧ ln w51 q = ln w35 q := fun q hq => by rw [hw51]; exact mk_o (by rw [n47]; exact hq)
  have f53 : ty w51 (r + 1) = 11 := (A52 _ (nek r 1 3 rfl)).2.2.1.trans f37
  have f54 : ln w51 (r + 1) = 195 := (A52 _ (nek r 1 3 rfl)).2.2.2.trans f38
  have f55 : gi w51 (r + 1) = (fun _ => 0) := (A52 _ (nek r 1 3 rfl)).1.trans f39
  have f56 : ty w51 (r + 2) = 11 := (A52 _ (nek r 2 3 rfl)).2.2.1.trans f40
  have f57 : ln w51 (r + 2) = 780 := (A52 _ (nek r 2 3 rfl)).2.2.2.trans f41
  have f58 : gi w51 (r + 2) = (fun _ => 0) := (A52 _ (nek r 2 3 rfl)).1.trans f42
  have f59 : ty w51 r = 10 := (A52 _ (nek r 0 3 rfl)).2.2.1.trans f43
  have f60 : gi w51 r = (fun _ => 0) := (A52 _ (nek r 0 3 rfl)).1.trans f44
  have f61 : gr w51 r 0 = (r + 1) := (congrFun (A52 _ (nek r 0 3 rfl)).2.1 _).trans f45
  have f62 : gr w51 r 1 = (r + 2) := (congrFun (A52 _ (nek r 0 3 rfl)).2.1 _).trans f46
  have e63 := mk_e (w := w35) (t := 11) (n := 195)
  rw [← hw51, n47] at e63
  have n64 : nx w51 = r + 4 := by rw [hw51]; exact congrArg (· + 1) n47
  have u65 : uc w51 = uc w + 3 := by rw [hw51]; exact congrArg (· + 1) u48
  have s66 : us w51 = us w + 1170 := by rw [hw51]; exact congrArg (· + 195) s49
  have g67 : ∀ q, q < r → gi w51 q = gi w q ∧ gr w51 q = gr w q ∧ ty w51 q = ty w q ∧ ln w51 q = ln w q := fun q hq => by have a := A52 q (Nat.ne_of_lt (Nat.lt_of_lt_of_le hq (Nat.le_add_right r 3))); have b := g50 q hq; exact ⟨a.1.trans b.1, a.2.1.trans b.2.1, a.2.2.1.trans b.2.2.1, a.2.2.2.trans b.2.2.2⟩
  clear A52 f37 f38 f39 f40 f41 f42 f43 f44 f45 f46 g50 hw51 n47 s49 u48
  refine WP.blk 1 ?_
  show ty w51 r = 10 ∧ WP 0 109 31 [vR r] [] (sr w51 r 2 (r + 3)) Q
  refine ⟨f59, ?_⟩
  obtain ⟨w68, hw68⟩ : ∃ y9, y9 = sr w51 r 2 (r + 3) := ⟨_, rfl⟩
  rw [← hw68]
  have A69 : ∀ q, q ≠ r → gi w68 q = gi w51 q ∧ gr w68 q = gr w51 q ∧ ty w68 q = ty w51 q ∧ ln w68 q = ln w51 q := fun q hq => by rw [hw68]; exact sr_o hq
  have f70 : ty w68 (r + 1) = 11 := (A69 _ (nek r 1 0 rfl)).2.2.1.trans f53
  have f71 : ln w68 (r + 1) = 195 := (A69 _ (nek r 1 0 rfl)).2.2.2.trans f54
  have f72 : gi w68 (r + 1) = (fun _ => 0) := (A69 _ (nek r 1 0 rfl)).1.trans f55
  have f73 : ty w68 (r + 2) = 11 := (A69 _ (nek r 2 0 rfl)).2.2.1.trans f56
  have f74 : ln w68 (r + 2) = 780 := (A69 _ (nek r 2 0 rfl)).2.2.2.trans f57
  have f75 : gi w68 (r + 2) = (fun _ => 0) := (A69 _ (nek r 2 0 rfl)).1.trans f58
  have f76 : ty w68 (r + 3) = 11 := (A69 _ (nek r 3 0 rfl)).2.2.1.trans e63.2.1
  have f77 : ln w68 (r + 3) = 195 := (A69 _ (nek r 3 0 rfl)).2.2.2.trans e63.2.2
  have f78 : gi w68 (r + 3) = (fun _ => 0) := (A69 _ (nek r 3 0 rfl)).1.trans e63.1
  have f79 : ty w68 r = 10 := by rw [hw68]; exact f59
  have f80 : gi w68 r = (fun _ => 0) := by rw [hw68]; exact f60
  have f81 : gr w68 r 0 = (r + 1) := by rw [hw68]; exact (sr_k (by decide)).trans f61
  have f82 : gr w68 r 1 = (r + 2) := by rw [hw68]; exact (sr_k (by decide)).trans f62
  have f83 : gr w68 r 2 = (r + 3) := by rw [hw68]; exact sr_e
  have n84 : nx w68 = r + 4 := by rw [hw68]; exact n64
  have u85 : uc w68 = uc w + 3 := by rw [hw68]; exact u65
  have s86 : us w68 = us w + 1170 := by rw [hw68]; exact s66
  have g87 : ∀ q, q < r → gi w68 q = gi w q ∧ gr w68 q = gr w q ∧ ty w68 q = ty w q ∧ ln w68 q = ln w q := fun q hq => by have a := A69 q (Nat.ne_of_lt (Nat.lt_of_lt_of_le hq (Nat.le_add_right r 0))); have b := g67 q hq; exact ⟨a.1.trans b.1, a.2.1.trans b.2.1, a.2.2.1.trans b.2.2.1, a.2.2.2.trans b.2.2.2⟩
  clear A69 e63 f53 f54 f55 f56 f57 f58 f59 f60 f61 f62 g67 hw68 n64 s66 u65
  refine WP.blk 1 ?_
  show WP 0 109 32 [vR r] [vR r] w68 Q
  refine WP.blk 1 ?_
  show WP 0 109 35 [vR r] [vI 195, vR r] w68 Q
  refine WP.blk 1 ?_
  show ((0 : Int) ≤ 195 ∧ (195 : Int) ≤ 100000) ∧ WP 0 109 37 [vR r] [vR (nx w68), vR r] (mk w68 11 195) Q
  refine ⟨⟨by decide, by decide⟩, ?_⟩
  rw [n84]
  obtain ⟨w88, hw88⟩ : ∃ y9, y9 = mk w68 11 195 := ⟨_, rfl⟩
  rw [← hw88]
  have A89 : ∀ q, q ≠ r + 4 → gi w88 q = gi w68 q ∧ gr w88 q = gr w68 q ∧ ty w88 q = ty w68 q ∧ ln w88 q = ln w68 q := fun q hq => by rw [hw88]; exact mk_o (by rw [n84]; exact hq)
  have f90 : ty w88 (r + 1) = 11 := (A89 _ (nek r 1 4 rfl)).2.2.1.trans f70
  have f91 : ln w88 (r + 1) = 195 := (A89 _ (nek r 1 4 rfl)).2.2.2.trans f71
  have f92 : gi w88 (r + 1) = (fun _ => 0) := (A89 _ (nek r 1 4 rfl)).1.trans f72
  have f93 : ty w88 (r + 2) = 11 := (A89 _ (nek r 2 4 rfl)).2.2.1.trans f73
  have f94 : ln w88 (r + 2) = 780 := (A89 _ (nek r 2 4 rfl)).2.2.2.trans f74
  have f95 : gi w88 (r + 2) = (fun _ => 0) := (A89 _ (nek r 2 4 rfl)).1.trans f75
  have f96 : ty w88 (r + 3) = 11 := (A89 _ (nek r 3 4 rfl)).2.2.1.trans f76
  have f97 : ln w88 (r + 3) = 195 := (A89 _ (nek r 3 4 rfl)).2.2.2.trans f77
  have f98 : gi w88 (r + 3) = (fun _ => 0) := (A89 _ (nek r 3 4 rfl)).1.trans f78
  have f99 : ty w88 r = 10 := (A89 _ (nek r 0 4 rfl)).2.2.1.trans f79
  have f100 : gi w88 r = (fun _ => 0) := (A89 _ (nek r 0 4 rfl)).1.trans f80
  have f101 : gr w88 r 0 = (r + 1) := (congrFun (A89 _ (nek r 0 4 rfl)).2.1 _).trans f81
  have f102 : gr w88 r 1 = (r + 2) := (congrFun (A89 _ (nek r 0 4 rfl)).2.1 _).trans f82
  have f103 : gr w88 r 2 = (r + 3) := (congrFun (A89 _ (nek r 0 4 rfl)).2.1 _).trans f83
  have e104 := mk_e (w := w68) (t := 11) (n := 195)
  rw [← hw88, n84] at e104
  have n105 : nx w88 = r + 5 := by rw [hw88]; exact congrArg (· + 1) n84
  have u106 : uc w88 = uc w + 4 := by rw [hw88]; exact congrArg (· + 1) u85
  have s107 : us w88 = us w + 1365 := by rw [hw88]; exact congrArg (· + 195) s86
  have g108 : ∀ q, q < r → gi w88 q = gi w q ∧ gr w88 q = gr w q ∧ ty w88 q = ty w q ∧ ln w88 q = ln w q := fun q hq => by have a := A89 q (Nat.ne_of_lt (Nat.lt_of_lt_of_le hq (Nat.le_add_right r 4))); have b := g87 q hq; exact ⟨a.1.trans b.1, a.2.1.trans b.2.1, a.2.2.1.trans b.2.2.1, a.2.2.2.trans b.2.2.2⟩
  clear A89 f70 f71 f72 f73 f74 f75 f76 f77 f78 f79 f80 f81 f82 f83 g87 hw88 n84 s86 u85
  refine WP.blk 1 ?_
  show ty w88 r = 10 ∧ WP 0 109 40 [vR r] [] (sr w88 r 3 (r + 4)) Q
  refine ⟨f99, ?_⟩
  obtain ⟨w109, hw109⟩ : ∃ y9, y9 = sr w88 r 3 (r + 4) := ⟨_, rfl⟩
  rw [← hw109]
  have A110 : ∀ q, q ≠ r → gi w109 q = gi w88 q ∧ gr w109 q = gr w88 q ∧ ty w109 q = ty w88 q ∧ ln w109 q = ln w88 q := fun q hq => by rw [hw109]; exact sr_o hq
  have f111 : ty w109 (r + 1) = 11 := (A110 _ (nek r 1 0 rfl)).2.2.1.trans f90
  have f112 : ln w109 (r + 1) = 195 := (A110 _ (nek r 1 0 rfl)).2.2.2.trans f91
  have f113 : gi w109 (r + 1) = (fun _ => 0) := (A110 _ (nek r 1 0 rfl)).1.trans f92
  have f114 : ty w109 (r + 2) = 11 := (A110 _ (nek r 2 0 rfl)).2.2.1.trans f93
  have f115 : ln w109 (r + 2) = 780 := (A110 _ (nek r 2 0 rfl)).2.2.2.trans f94
  have f116 : gi w109 (r + 2) = (fun _ => 0) := (A110 _ (nek r 2 0 rfl)).1.trans f95
  have f117 : ty w109 (r + 3) = 11 := (A110 _ (nek r 3 0 rfl)).2.2.1.trans f96
  have f118 : ln w109 (r + 3) = 195 := (A110 _ (nek r 3 0 rfl)).2.2.2.trans f97
  have f119 : gi w109 (r + 3) = (fun _ => 0) := (A110 _ (nek r 3 0 rfl)).1.trans f98
  have f120 : ty w109 (r + 4) = 11 := (A110 _ (nek r 4 0 rfl)).2.2.1.trans e104.2.1
  have f121 : ln w109 (r + 4) = 195 := (A110 _ (nek r 4 0 rfl)).2.2.2.trans e104.2.2
  have f122 : gi w109 (r + 4) = (fun _ => 0) := (A110 _ (nek r 4 0 rfl)).1.trans e104.1
  have f123 : ty w109 r = 10 := by rw [hw109]; exact f99
  have f124 : gi w109 r = (fun _ => 0) := by rw [hw109]; exact f100
  have f125 : gr w109 r 0 = (r + 1) := by rw [hw109]; exact (sr_k (by decide)).trans f101
  have f126 : gr w109 r 1 = (r + 2) := by rw [hw109]; exact (sr_k (by decide)).trans f102
  have f127 : gr w109 r 2 = (r + 3) := by rw [hw109]; exact (sr_k (by decide)).trans f103
  have f128 : gr w109 r 3 = (r + 4) := by rw [hw109]; exact sr_e
  have n129 : nx w109 = r + 5 := by rw [hw109]; exact n105
  have u130 : uc w109 = uc w + 4 := by rw [hw109]; exact u106
  have s131 : us w109 = us w + 1365 := by rw [hw109]; exact s107
  have g132 : ∀ q, q < r → gi w109 q = gi w q ∧ gr w109 q = gr w q ∧ ty w109 q = ty w q ∧ ln w109 q = ln w q := fun q hq => by have a := A110 q (Nat.ne_of_lt (Nat.lt_of_lt_of_le hq (Nat.le_add_right r 0))); have b := g108 q hq; exact ⟨a.1.trans b.1, a.2.1.trans b.2.1, a.2.2.1.trans b.2.2.1, a.2.2.2.trans b.2.2.2⟩
  clear A110 e104 f100 f101 f102 f103 f90 f91 f92 f93 f94 f95 f96 f97 f98 f99 g108 hw109 n105 s107 u106
  refine WP.blk 1 ?_
  show WP 0 109 41 [vR r] [vR r] w109 Q
  refine WP.blk 1 ?_
  show WP 0 109 44 [vR r] [vI 150, vR r] w109 Q
  refine WP.blk 1 ?_
  show ((0 : Int) ≤ 150 ∧ (150 : Int) ≤ 100000) ∧ WP 0 109 46 [vR r] [vR (nx w109), vR r] (mk w109 11 150) Q
  refine ⟨⟨by decide, by decide⟩, ?_⟩
  rw [n129]
  obtain ⟨w133, hw133⟩ : ∃ y9, y9 = mk w109 11 150 := ⟨_, rfl⟩
  rw [← hw133]
  have A134 : ∀ q, q ≠ r + 5 → gi w133 q = gi w109 q ∧ gr w133 q = gr w109 q ∧ ty w133 q = ty w109 q ∧ ln w133 q = ln w109 q := fun q hq => by rw [hw133]; exact mk_o (by rw [n129]; exact hq)
  have f135 : ty w133 (r + 1) = 11 := (A134 _ (nek r 1 5 rfl)).2.2.1.trans f111
  have f136 : ln w133 (r + 1) = 195 := (A134 _ (nek r 1 5 rfl)).2.2.2.trans f112
  have f137 : gi w133 (r + 1) = (fun _ => 0) := (A134 _ (nek r 1 5 rfl)).1.trans f113
  have f138 : ty w133 (r + 2) = 11 := (A134 _ (nek r 2 5 rfl)).2.2.1.trans f114
  have f139 : ln w133 (r + 2) = 780 := (A134 _ (nek r 2 5 rfl)).2.2.2.trans f115
  have f140 : gi w133 (r + 2) = (fun _ => 0) := (A134 _ (nek r 2 5 rfl)).1.trans f116
  have f141 : ty w133 (r + 3) = 11 := (A134 _ (nek r 3 5 rfl)).2.2.1.trans f117
  have f142 : ln w133 (r + 3) = 195 := (A134 _ (nek r 3 5 rfl)).2.2.2.trans f118
  have f143 : gi w133 (r + 3) = (fun _ => 0) := (A134 _ (nek r 3 5 rfl)).1.trans f119
  have f144 : ty w133 (r + 4) = 11 := (A134 _ (nek r 4 5 rfl)).2.2.1.trans f120
  have f145 : ln w133 (r + 4) = 195 := (A134 _ (nek r 4 5 rfl)).2.2.2.trans f121
  have f146 : gi w133 (r + 4) = (fun _ => 0) := (A134 _ (nek r 4 5 rfl)).1.trans f122
  have f147 : ty w133 r = 10 := (A134 _ (nek r 0 5 rfl)).2.2.1.trans f123
  have f148 : gi w133 r = (fun _ => 0) := (A134 _ (nek r 0 5 rfl)).1.trans f124
  have f149 : gr w133 r 0 = (r + 1) := (congrFun (A134 _ (nek r 0 5 rfl)).2.1 _).trans f125
  have f150 : gr w133 r 1 = (r + 2) := (congrFun (A134 _ (nek r 0 5 rfl)).2.1 _).trans f126
  have f151 : gr w133 r 2 = (r + 3) := (congrFun (A134 _ (nek r 0 5 rfl)).2.1 _).trans f127
  have f152 : gr w133 r 3 = (r + 4) := (congrFun (A134 _ (nek r 0 5 rfl)).2.1 _).trans f128
  have e153 := mk_e (w := w109) (t := 11) (n := 150)
  rw [← hw133, n129] at e153
  have n154 : nx w133 = r + 6 := by rw [hw133]; exact congrArg (· + 1) n129
  have u155 : uc w133 = uc w + 5 := by rw [hw133]; exact congrArg (· + 1) u130
  have s156 : us w133 = us w + 1515 := by rw [hw133]; exact congrArg (· + 150) s131
  have g157 : ∀ q, q < r → gi w133 q = gi w q ∧ gr w133 q = gr w q ∧ ty w133 q = ty w q ∧ ln w133 q = ln w q := fun q hq => by have a := A134 q (Nat.ne_of_lt (Nat.lt_of_lt_of_le hq (Nat.le_add_right r 5))); have b := g132 q hq; exact ⟨a.1.trans b.1, a.2.1.trans b.2.1, a.2.2.1.trans b.2.2.1, a.2.2.2.trans b.2.2.2⟩
  clear A134 f111 f112 f113 f114 f115 f116 f117 f118 f119 f120 f121 f122 f123 f124 f125 f126 f127 f128 g132 hw133 n129 s131 u130
  refine WP.blk 1 ?_
  show ty w133 r = 10 ∧ WP 0 109 49 [vR r] [] (sr w133 r 6 (r + 5)) Q
  refine ⟨f147, ?_⟩
  obtain ⟨w158, hw158⟩ : ∃ y9, y9 = sr w133 r 6 (r + 5) := ⟨_, rfl⟩
  rw [← hw158]
  have A159 : ∀ q, q ≠ r → gi w158 q = gi w133 q ∧ gr w158 q = gr w133 q ∧ ty w158 q = ty w133 q ∧ ln w158 q = ln w133 q := fun q hq => by rw [hw158]; exact sr_o hq
  have f160 : ty w158 (r + 1) = 11 := (A159 _ (nek r 1 0 rfl)).2.2.1.trans f135
  have f161 : ln w158 (r + 1) = 195 := (A159 _ (nek r 1 0 rfl)).2.2.2.trans f136
  have f162 : gi w158 (r + 1) = (fun _ => 0) := (A159 _ (nek r 1 0 rfl)).1.trans f137
  have f163 : ty w158 (r + 2) = 11 := (A159 _ (nek r 2 0 rfl)).2.2.1.trans f138
  have f164 : ln w158 (r + 2) = 780 := (A159 _ (nek r 2 0 rfl)).2.2.2.trans f139
  have f165 : gi w158 (r + 2) = (fun _ => 0) := (A159 _ (nek r 2 0 rfl)).1.trans f140
  have f166 : ty w158 (r + 3) = 11 := (A159 _ (nek r 3 0 rfl)).2.2.1.trans f141
  have f167 : ln w158 (r + 3) = 195 := (A159 _ (nek r 3 0 rfl)).2.2.2.trans f142
  have f168 : gi w158 (r + 3) = (fun _ => 0) := (A159 _ (nek r 3 0 rfl)).1.trans f143
  have f169 : ty w158 (r + 4) = 11 := (A159 _ (nek r 4 0 rfl)).2.2.1.trans f144
  have f170 : ln w158 (r + 4) = 195 := (A159 _ (nek r 4 0 rfl)).2.2.2.trans f145
  have f171 : gi w158 (r + 4) = (fun _ => 0) := (A159 _ (nek r 4 0 rfl)).1.trans f146
  have f172 : ty w158 (r + 5) = 11 := (A159 _ (nek r 5 0 rfl)).2.2.1.trans e153.2.1
  have f173 : ln w158 (r + 5) = 150 := (A159 _ (nek r 5 0 rfl)).2.2.2.trans e153.2.2
  have f174 : gi w158 (r + 5) = (fun _ => 0) := (A159 _ (nek r 5 0 rfl)).1.trans e153.1
  have f175 : ty w158 r = 10 := by rw [hw158]; exact f147
  have f176 : gi w158 r = (fun _ => 0) := by rw [hw158]; exact f148
  have f177 : gr w158 r 0 = (r + 1) := by rw [hw158]; exact (sr_k (by decide)).trans f149
  have f178 : gr w158 r 1 = (r + 2) := by rw [hw158]; exact (sr_k (by decide)).trans f150
  have f179 : gr w158 r 2 = (r + 3) := by rw [hw158]; exact (sr_k (by decide)).trans f151
  have f180 : gr w158 r 3 = (r + 4) := by rw [hw158]; exact (sr_k (by decide)).trans f152
  have f181 : gr w158 r 6 = (r + 5) := by rw [hw158]; exact sr_e
  have n182 : nx w158 = r + 6 := by rw [hw158]; exact n154
  have u183 : uc w158 = uc w + 5 := by rw [hw158]; exact u155
  have s184 : us w158 = us w + 1515 := by rw [hw158]; exact s156
  have g185 : ∀ q, q < r → gi w158 q = gi w q ∧ gr w158 q = gr w q ∧ ty w158 q = ty w q ∧ ln w158 q = ln w q := fun q hq => by have a := A159 q (Nat.ne_of_lt (Nat.lt_of_lt_of_le hq (Nat.le_add_right r 0))); have b := g157 q hq; exact ⟨a.1.trans b.1, a.2.1.trans b.2.1, a.2.2.1.trans b.2.2.1, a.2.2.2.trans b.2.2.2⟩
  clear A159 e153 f135 f136 f137 f138 f139 f140 f141 f142 f143 f144 f145 f146 f147 f148 f149 f150 f151 f152 g157 hw158 n154 s156 u155
  refine WP.blk 1 ?_
  show WP 0 109 50 [vR r] [vR r] w158 Q
  refine WP.blk 1 ?_
  show WP 0 109 52 [vR r] [vI 13, vR r] w158 Q
  refine WP.blk 1 ?_
  show ((0 : Int) ≤ 13 ∧ (13 : Int) ≤ 100000) ∧ WP 0 109 54 [vR r] [vR (nx w158), vR r] (mk w158 11 13) Q
  refine ⟨⟨by decide, by decide⟩, ?_⟩
  rw [n182]
  obtain ⟨w186, hw186⟩ : ∃ y9, y9 = mk w158 11 13 := ⟨_, rfl⟩
  rw [← hw186]
  have A187 : ∀ q, q ≠ r + 6 → gi w186 q = gi w158 q ∧ gr w186 q = gr w158 q ∧ ty w186 q = ty w158 q ∧ ln w186 q = ln w158 q := fun q hq => by rw [hw186]; exact mk_o (by rw [n182]; exact hq)
  have f188 : ty w186 (r + 1) = 11 := (A187 _ (nek r 1 6 rfl)).2.2.1.trans f160
  have f189 : ln w186 (r + 1) = 195 := (A187 _ (nek r 1 6 rfl)).2.2.2.trans f161
  have f190 : gi w186 (r + 1) = (fun _ => 0) := (A187 _ (nek r 1 6 rfl)).1.trans f162
  have f191 : ty w186 (r + 2) = 11 := (A187 _ (nek r 2 6 rfl)).2.2.1.trans f163
  have f192 : ln w186 (r + 2) = 780 := (A187 _ (nek r 2 6 rfl)).2.2.2.trans f164
  have f193 : gi w186 (r + 2) = (fun _ => 0) := (A187 _ (nek r 2 6 rfl)).1.trans f165
  have f194 : ty w186 (r + 3) = 11 := (A187 _ (nek r 3 6 rfl)).2.2.1.trans f166
  have f195 : ln w186 (r + 3) = 195 := (A187 _ (nek r 3 6 rfl)).2.2.2.trans f167
  have f196 : gi w186 (r + 3) = (fun _ => 0) := (A187 _ (nek r 3 6 rfl)).1.trans f168
  have f197 : ty w186 (r + 4) = 11 := (A187 _ (nek r 4 6 rfl)).2.2.1.trans f169
  have f198 : ln w186 (r + 4) = 195 := (A187 _ (nek r 4 6 rfl)).2.2.2.trans f170
  have f199 : gi w186 (r + 4) = (fun _ => 0) := (A187 _ (nek r 4 6 rfl)).1.trans f171
  have f200 : ty w186 (r + 5) = 11 := (A187 _ (nek r 5 6 rfl)).2.2.1.trans f172
  have f201 : ln w186 (r + 5) = 150 := (A187 _ (nek r 5 6 rfl)).2.2.2.trans f173
  have f202 : gi w186 (r + 5) = (fun _ => 0) := (A187 _ (nek r 5 6 rfl)).1.trans f174
  have f203 : ty w186 r = 10 := (A187 _ (nek r 0 6 rfl)).2.2.1.trans f175
  have f204 : gi w186 r = (fun _ => 0) := (A187 _ (nek r 0 6 rfl)).1.trans f176
  have f205 : gr w186 r 0 = (r + 1) := (congrFun (A187 _ (nek r 0 6 rfl)).2.1 _).trans f177
  have f206 : gr w186 r 1 = (r + 2) := (congrFun (A187 _ (nek r 0 6 rfl)).2.1 _).trans f178
  have f207 : gr w186 r 2 = (r + 3) := (congrFun (A187 _ (nek r 0 6 rfl)).2.1 _).trans f179
  have f208 : gr w186 r 3 = (r + 4) := (congrFun (A187 _ (nek r 0 6 rfl)).2.1 _).trans f180
  have f209 : gr w186 r 6 = (r + 5) := (congrFun (A187 _ (nek r 0 6 rfl)).2.1 _).trans f181
  have e210 := mk_e (w := w158) (t := 11) (n := 13)
  rw [← hw186, n182] at e210
  have n211 : nx w186 = r + 7 := by rw [hw186]; exact congrArg (· + 1) n182
  have u212 : uc w186 = uc w + 6 := by rw [hw186]; exact congrArg (· + 1) u183
  have s213 : us w186 = us w + 1528 := by rw [hw186]; exact congrArg (· + 13) s184
  have g214 : ∀ q, q < r → gi w186 q = gi w q ∧ gr w186 q = gr w q ∧ ty w186 q = ty w q ∧ ln w186 q = ln w q := fun q hq => by have a := A187 q (Nat.ne_of_lt (Nat.lt_of_lt_of_le hq (Nat.le_add_right r 6))); have b := g185 q hq; exact ⟨a.1.trans b.1, a.2.1.trans b.2.1, a.2.2.1.trans b.2.2.1, a.2.2.2.trans b.2.2.2⟩
  clear A187 f160 f161 f162 f163 f164 f165 f166 f167 f168 f169 f170 f171 f172 f173 f174 f175 f176 f177 f178 f179 f180 f181 g185 hw186 n182 s184 u183
  refine WP.blk 1 ?_
  show ty w186 r = 10 ∧ WP 0 109 57 [vR r] [] (sr w186 r 9 (r + 6)) Q
  refine ⟨f203, ?_⟩
  obtain ⟨w215, hw215⟩ : ∃ y9, y9 = sr w186 r 9 (r + 6) := ⟨_, rfl⟩
  rw [← hw215]
  have A216 : ∀ q, q ≠ r → gi w215 q = gi w186 q ∧ gr w215 q = gr w186 q ∧ ty w215 q = ty w186 q ∧ ln w215 q = ln w186 q := fun q hq => by rw [hw215]; exact sr_o hq
  have f217 : ty w215 (r + 1) = 11 := (A216 _ (nek r 1 0 rfl)).2.2.1.trans f188
  have f218 : ln w215 (r + 1) = 195 := (A216 _ (nek r 1 0 rfl)).2.2.2.trans f189
  have f219 : gi w215 (r + 1) = (fun _ => 0) := (A216 _ (nek r 1 0 rfl)).1.trans f190
  have f220 : ty w215 (r + 2) = 11 := (A216 _ (nek r 2 0 rfl)).2.2.1.trans f191
  have f221 : ln w215 (r + 2) = 780 := (A216 _ (nek r 2 0 rfl)).2.2.2.trans f192
  have f222 : gi w215 (r + 2) = (fun _ => 0) := (A216 _ (nek r 2 0 rfl)).1.trans f193
  have f223 : ty w215 (r + 3) = 11 := (A216 _ (nek r 3 0 rfl)).2.2.1.trans f194
  have f224 : ln w215 (r + 3) = 195 := (A216 _ (nek r 3 0 rfl)).2.2.2.trans f195
  have f225 : gi w215 (r + 3) = (fun _ => 0) := (A216 _ (nek r 3 0 rfl)).1.trans f196
  have f226 : ty w215 (r + 4) = 11 := (A216 _ (nek r 4 0 rfl)).2.2.1.trans f197
  have f227 : ln w215 (r + 4) = 195 := (A216 _ (nek r 4 0 rfl)).2.2.2.trans f198
  have f228 : gi w215 (r + 4) = (fun _ => 0) := (A216 _ (nek r 4 0 rfl)).1.trans f199
  have f229 : ty w215 (r + 5) = 11 := (A216 _ (nek r 5 0 rfl)).2.2.1.trans f200
  have f230 : ln w215 (r + 5) = 150 := (A216 _ (nek r 5 0 rfl)).2.2.2.trans f201
  have f231 : gi w215 (r + 5) = (fun _ => 0) := (A216 _ (nek r 5 0 rfl)).1.trans f202
  have f232 : ty w215 (r + 6) = 11 := (A216 _ (nek r 6 0 rfl)).2.2.1.trans e210.2.1
  have f233 : ln w215 (r + 6) = 13 := (A216 _ (nek r 6 0 rfl)).2.2.2.trans e210.2.2
  have f234 : gi w215 (r + 6) = (fun _ => 0) := (A216 _ (nek r 6 0 rfl)).1.trans e210.1
  have f235 : ty w215 r = 10 := by rw [hw215]; exact f203
  have f236 : gi w215 r = (fun _ => 0) := by rw [hw215]; exact f204
  have f237 : gr w215 r 0 = (r + 1) := by rw [hw215]; exact (sr_k (by decide)).trans f205
  have f238 : gr w215 r 1 = (r + 2) := by rw [hw215]; exact (sr_k (by decide)).trans f206
  have f239 : gr w215 r 2 = (r + 3) := by rw [hw215]; exact (sr_k (by decide)).trans f207
  have f240 : gr w215 r 3 = (r + 4) := by rw [hw215]; exact (sr_k (by decide)).trans f208
  have f241 : gr w215 r 6 = (r + 5) := by rw [hw215]; exact (sr_k (by decide)).trans f209
  have f242 : gr w215 r 9 = (r + 6) := by rw [hw215]; exact sr_e
  have n243 : nx w215 = r + 7 := by rw [hw215]; exact n211
  have u244 : uc w215 = uc w + 6 := by rw [hw215]; exact u212
  have s245 : us w215 = us w + 1528 := by rw [hw215]; exact s213
  have g246 : ∀ q, q < r → gi w215 q = gi w q ∧ gr w215 q = gr w q ∧ ty w215 q = ty w q ∧ ln w215 q = ln w q := fun q hq => by have a := A216 q (Nat.ne_of_lt (Nat.lt_of_lt_of_le hq (Nat.le_add_right r 0))); have b := g214 q hq; exact ⟨a.1.trans b.1, a.2.1.trans b.2.1, a.2.2.1.trans b.2.2.1, a.2.2.2.trans b.2.2.2⟩
  clear A216 e210 f188 f189 f190 f191 f192 f193 f194 f195 f196 f197 f198 f199 f200 f201 f202 f203 f204 f205 f206 f207 f208 f209 g214 hw215 n211 s213 u212
  refine WP.blk 1 ?_
  show WP 0 109 58 [vR r] [vR r] w215 Q
  refine WP.blk 1 ?_
  show WP 0 109 60 [vR r] [vI 12, vR r] w215 Q
  refine WP.blk 1 ?_
  show ((0 : Int) ≤ 12 ∧ (12 : Int) ≤ 100000) ∧ WP 0 109 62 [vR r] [vR (nx w215), vR r] (mk w215 11 12) Q
  refine ⟨⟨by decide, by decide⟩, ?_⟩
  rw [n243]
  obtain ⟨w247, hw247⟩ : ∃ y9, y9 = mk w215 11 12 := ⟨_, rfl⟩
  rw [← hw247]
  have A248 : ∀ q, q ≠ r + 7 → gi w247 q = gi w215 q ∧ gr w247 q = gr w215 q ∧ ty w247 q = ty w215 q ∧ ln w247 q = ln w215 q := fun q hq => by rw [hw247]; exact mk_o (by rw [n243]; exact hq)
  have f249 : ty w247 (r + 1) = 11 := (A248 _ (nek r 1 7 rfl)).2.2.1.trans f217
  have f250 : ln w247 (r + 1) = 195 := (A248 _ (nek r 1 7 rfl)).2.2.2.trans f218
  have f251 : gi w247 (r + 1) = (fun _ => 0) := (A248 _ (nek r 1 7 rfl)).1.trans f219
  have f252 : ty w247 (r + 2) = 11 := (A248 _ (nek r 2 7 rfl)).2.2.1.trans f220
  have f253 : ln w247 (r + 2) = 780 := (A248 _ (nek r 2 7 rfl)).2.2.2.trans f221
  have f254 : gi w247 (r + 2) = (fun _ => 0) := (A248 _ (nek r 2 7 rfl)).1.trans f222
  have f255 : ty w247 (r + 3) = 11 := (A248 _ (nek r 3 7 rfl)).2.2.1.trans f223
  have f256 : ln w247 (r + 3) = 195 := (A248 _ (nek r 3 7 rfl)).2.2.2.trans f224
  have f257 : gi w247 (r + 3) = (fun _ => 0) := (A248 _ (nek r 3 7 rfl)).1.trans f225
  have f258 : ty w247 (r + 4) = 11 := (A248 _ (nek r 4 7 rfl)).2.2.1.trans f226
  have f259 : ln w247 (r + 4) = 195 := (A248 _ (nek r 4 7 rfl)).2.2.2.trans f227
  have f260 : gi w247 (r + 4) = (fun _ => 0) := (A248 _ (nek r 4 7 rfl)).1.trans f228
  have f261 : ty w247 (r + 5) = 11 := (A248 _ (nek r 5 7 rfl)).2.2.1.trans f229
  have f262 : ln w247 (r + 5) = 150 := (A248 _ (nek r 5 7 rfl)).2.2.2.trans f230
  have f263 : gi w247 (r + 5) = (fun _ => 0) := (A248 _ (nek r 5 7 rfl)).1.trans f231
  have f264 : ty w247 (r + 6) = 11 := (A248 _ (nek r 6 7 rfl)).2.2.1.trans f232
  have f265 : ln w247 (r + 6) = 13 := (A248 _ (nek r 6 7 rfl)).2.2.2.trans f233
  have f266 : gi w247 (r + 6) = (fun _ => 0) := (A248 _ (nek r 6 7 rfl)).1.trans f234
  have f267 : ty w247 r = 10 := (A248 _ (nek r 0 7 rfl)).2.2.1.trans f235
  have f268 : gi w247 r = (fun _ => 0) := (A248 _ (nek r 0 7 rfl)).1.trans f236
  have f269 : gr w247 r 0 = (r + 1) := (congrFun (A248 _ (nek r 0 7 rfl)).2.1 _).trans f237
  have f270 : gr w247 r 1 = (r + 2) := (congrFun (A248 _ (nek r 0 7 rfl)).2.1 _).trans f238
  have f271 : gr w247 r 2 = (r + 3) := (congrFun (A248 _ (nek r 0 7 rfl)).2.1 _).trans f239
  have f272 : gr w247 r 3 = (r + 4) := (congrFun (A248 _ (nek r 0 7 rfl)).2.1 _).trans f240
  have f273 : gr w247 r 6 = (r + 5) := (congrFun (A248 _ (nek r 0 7 rfl)).2.1 _).trans f241
  have f274 : gr w247 r 9 = (r + 6) := (congrFun (A248 _ (nek r 0 7 rfl)).2.1 _).trans f242
  have e275 := mk_e (w := w215) (t := 11) (n := 12)
  rw [← hw247, n243] at e275
  have n276 : nx w247 = r + 8 := by rw [hw247]; exact congrArg (· + 1) n243
  have u277 : uc w247 = uc w + 7 := by rw [hw247]; exact congrArg (· + 1) u244
  have s278 : us w247 = us w + 1540 := by rw [hw247]; exact congrArg (· + 12) s245
  have g279 : ∀ q, q < r → gi w247 q = gi w q ∧ gr w247 q = gr w q ∧ ty w247 q = ty w q ∧ ln w247 q = ln w q := fun q hq => by have a := A248 q (Nat.ne_of_lt (Nat.lt_of_lt_of_le hq (Nat.le_add_right r 7))); have b := g246 q hq; exact ⟨a.1.trans b.1, a.2.1.trans b.2.1, a.2.2.1.trans b.2.2.1, a.2.2.2.trans b.2.2.2⟩
  clear A248 f217 f218 f219 f220 f221 f222 f223 f224 f225 f226 f227 f228 f229 f230 f231 f232 f233 f234 f235 f236 f237 f238 f239 f240 f241 f242 g246 hw247 n243 s245 u244
  refine WP.blk 1 ?_
  show ty w247 r = 10 ∧ WP 0 109 65 [vR r] [] (sr w247 r 10 (r + 7)) Q
  refine ⟨f267, ?_⟩
  obtain ⟨w280, hw280⟩ : ∃ y9, y9 = sr w247 r 10 (r + 7) := ⟨_, rfl⟩
  rw [← hw280]
  have A281 : ∀ q, q ≠ r → gi w280 q = gi w247 q ∧ gr w280 q = gr w247 q ∧ ty w280 q = ty w247 q ∧ ln w280 q = ln w247 q := fun q hq => by rw [hw280]; exact sr_o hq
  have f282 : ty w280 (r + 1) = 11 := (A281 _ (nek r 1 0 rfl)).2.2.1.trans f249
  have f283 : ln w280 (r + 1) = 195 := (A281 _ (nek r 1 0 rfl)).2.2.2.trans f250
  have f284 : gi w280 (r + 1) = (fun _ => 0) := (A281 _ (nek r 1 0 rfl)).1.trans f251
  have f285 : ty w280 (r + 2) = 11 := (A281 _ (nek r 2 0 rfl)).2.2.1.trans f252
  have f286 : ln w280 (r + 2) = 780 := (A281 _ (nek r 2 0 rfl)).2.2.2.trans f253
  have f287 : gi w280 (r + 2) = (fun _ => 0) := (A281 _ (nek r 2 0 rfl)).1.trans f254
  have f288 : ty w280 (r + 3) = 11 := (A281 _ (nek r 3 0 rfl)).2.2.1.trans f255
  have f289 : ln w280 (r + 3) = 195 := (A281 _ (nek r 3 0 rfl)).2.2.2.trans f256
  have f290 : gi w280 (r + 3) = (fun _ => 0) := (A281 _ (nek r 3 0 rfl)).1.trans f257
  have f291 : ty w280 (r + 4) = 11 := (A281 _ (nek r 4 0 rfl)).2.2.1.trans f258
  have f292 : ln w280 (r + 4) = 195 := (A281 _ (nek r 4 0 rfl)).2.2.2.trans f259
  have f293 : gi w280 (r + 4) = (fun _ => 0) := (A281 _ (nek r 4 0 rfl)).1.trans f260
  have f294 : ty w280 (r + 5) = 11 := (A281 _ (nek r 5 0 rfl)).2.2.1.trans f261
  have f295 : ln w280 (r + 5) = 150 := (A281 _ (nek r 5 0 rfl)).2.2.2.trans f262
  have f296 : gi w280 (r + 5) = (fun _ => 0) := (A281 _ (nek r 5 0 rfl)).1.trans f263
  have f297 : ty w280 (r + 6) = 11 := (A281 _ (nek r 6 0 rfl)).2.2.1.trans f264
  have f298 : ln w280 (r + 6) = 13 := (A281 _ (nek r 6 0 rfl)).2.2.2.trans f265
  have f299 : gi w280 (r + 6) = (fun _ => 0) := (A281 _ (nek r 6 0 rfl)).1.trans f266
  have f300 : ty w280 (r + 7) = 11 := (A281 _ (nek r 7 0 rfl)).2.2.1.trans e275.2.1
  have f301 : ln w280 (r + 7) = 12 := (A281 _ (nek r 7 0 rfl)).2.2.2.trans e275.2.2
  have f302 : gi w280 (r + 7) = (fun _ => 0) := (A281 _ (nek r 7 0 rfl)).1.trans e275.1
  have f303 : ty w280 r = 10 := by rw [hw280]; exact f267
  have f304 : gi w280 r = (fun _ => 0) := by rw [hw280]; exact f268
  have f305 : gr w280 r 0 = (r + 1) := by rw [hw280]; exact (sr_k (by decide)).trans f269
  have f306 : gr w280 r 1 = (r + 2) := by rw [hw280]; exact (sr_k (by decide)).trans f270
  have f307 : gr w280 r 2 = (r + 3) := by rw [hw280]; exact (sr_k (by decide)).trans f271
  have f308 : gr w280 r 3 = (r + 4) := by rw [hw280]; exact (sr_k (by decide)).trans f272
  have f309 : gr w280 r 6 = (r + 5) := by rw [hw280]; exact (sr_k (by decide)).trans f273
  have f310 : gr w280 r 9 = (r + 6) := by rw [hw280]; exact (sr_k (by decide)).trans f274
  have f311 : gr w280 r 10 = (r + 7) := by rw [hw280]; exact sr_e
  have n312 : nx w280 = r + 8 := by rw [hw280]; exact n276
  have u313 : uc w280 = uc w + 7 := by rw [hw280]; exact u277
  have s314 : us w280 = us w + 1540 := by rw [hw280]; exact s278
  have g315 : ∀ q, q < r → gi w280 q = gi w q ∧ gr w280 q = gr w q ∧ ty w280 q = ty w q ∧ ln w280 q = ln w q := fun q hq => by have a := A281 q (Nat.ne_of_lt (Nat.lt_of_lt_of_le hq (Nat.le_add_right r 0))); have b := g279 q hq; exact ⟨a.1.trans b.1, a.2.1.trans b.2.1, a.2.2.1.trans b.2.2.1, a.2.2.2.trans b.2.2.2⟩
  clear A281 e275 f249 f250 f251 f252 f253 f254 f255 f256 f257 f258 f259 f260 f261 f262 f263 f264 f265 f266 f267 f268 f269 f270 f271 f272 f273 f274 g279 hw280 n276 s278 u277
  refine WP.blk 1 ?_
  show WP 0 109 66 [vR r] [vR r] w280 Q
  refine WP.blk 1 ?_
  show WP 0 109 68 [vR r] [vI 7, vR r] w280 Q
  refine WP.blk 1 ?_
  show ((0 : Int) ≤ 7 ∧ (7 : Int) ≤ 100000) ∧ WP 0 109 70 [vR r] [vR (nx w280), vR r] (mk w280 11 7) Q
  refine ⟨⟨by decide, by decide⟩, ?_⟩
  rw [n312]
  obtain ⟨w316, hw316⟩ : ∃ y9, y9 = mk w280 11 7 := ⟨_, rfl⟩
  rw [← hw316]
  have A317 : ∀ q, q ≠ r + 8 → gi w316 q = gi w280 q ∧ gr w316 q = gr w280 q ∧ ty w316 q = ty w280 q ∧ ln w316 q = ln w280 q := fun q hq => by rw [hw316]; exact mk_o (by rw [n312]; exact hq)
  have f318 : ty w316 (r + 1) = 11 := (A317 _ (nek r 1 8 rfl)).2.2.1.trans f282
  have f319 : ln w316 (r + 1) = 195 := (A317 _ (nek r 1 8 rfl)).2.2.2.trans f283
  have f320 : gi w316 (r + 1) = (fun _ => 0) := (A317 _ (nek r 1 8 rfl)).1.trans f284
  have f321 : ty w316 (r + 2) = 11 := (A317 _ (nek r 2 8 rfl)).2.2.1.trans f285
  have f322 : ln w316 (r + 2) = 780 := (A317 _ (nek r 2 8 rfl)).2.2.2.trans f286
  have f323 : gi w316 (r + 2) = (fun _ => 0) := (A317 _ (nek r 2 8 rfl)).1.trans f287
  have f324 : ty w316 (r + 3) = 11 := (A317 _ (nek r 3 8 rfl)).2.2.1.trans f288
  have f325 : ln w316 (r + 3) = 195 := (A317 _ (nek r 3 8 rfl)).2.2.2.trans f289
  have f326 : gi w316 (r + 3) = (fun _ => 0) := (A317 _ (nek r 3 8 rfl)).1.trans f290
  have f327 : ty w316 (r + 4) = 11 := (A317 _ (nek r 4 8 rfl)).2.2.1.trans f291
  have f328 : ln w316 (r + 4) = 195 := (A317 _ (nek r 4 8 rfl)).2.2.2.trans f292
  have f329 : gi w316 (r + 4) = (fun _ => 0) := (A317 _ (nek r 4 8 rfl)).1.trans f293
  have f330 : ty w316 (r + 5) = 11 := (A317 _ (nek r 5 8 rfl)).2.2.1.trans f294
  have f331 : ln w316 (r + 5) = 150 := (A317 _ (nek r 5 8 rfl)).2.2.2.trans f295
  have f332 : gi w316 (r + 5) = (fun _ => 0) := (A317 _ (nek r 5 8 rfl)).1.trans f296
  have f333 : ty w316 (r + 6) = 11 := (A317 _ (nek r 6 8 rfl)).2.2.1.trans f297
  have f334 : ln w316 (r + 6) = 13 := (A317 _ (nek r 6 8 rfl)).2.2.2.trans f298
  have f335 : gi w316 (r + 6) = (fun _ => 0) := (A317 _ (nek r 6 8 rfl)).1.trans f299
  have f336 : ty w316 (r + 7) = 11 := (A317 _ (nek r 7 8 rfl)).2.2.1.trans f300
  have f337 : ln w316 (r + 7) = 12 := (A317 _ (nek r 7 8 rfl)).2.2.2.trans f301
  have f338 : gi w316 (r + 7) = (fun _ => 0) := (A317 _ (nek r 7 8 rfl)).1.trans f302
  have f339 : ty w316 r = 10 := (A317 _ (nek r 0 8 rfl)).2.2.1.trans f303
  have f340 : gi w316 r = (fun _ => 0) := (A317 _ (nek r 0 8 rfl)).1.trans f304
  have f341 : gr w316 r 0 = (r + 1) := (congrFun (A317 _ (nek r 0 8 rfl)).2.1 _).trans f305
  have f342 : gr w316 r 1 = (r + 2) := (congrFun (A317 _ (nek r 0 8 rfl)).2.1 _).trans f306
  have f343 : gr w316 r 2 = (r + 3) := (congrFun (A317 _ (nek r 0 8 rfl)).2.1 _).trans f307
  have f344 : gr w316 r 3 = (r + 4) := (congrFun (A317 _ (nek r 0 8 rfl)).2.1 _).trans f308
  have f345 : gr w316 r 6 = (r + 5) := (congrFun (A317 _ (nek r 0 8 rfl)).2.1 _).trans f309
  have f346 : gr w316 r 9 = (r + 6) := (congrFun (A317 _ (nek r 0 8 rfl)).2.1 _).trans f310
  have f347 : gr w316 r 10 = (r + 7) := (congrFun (A317 _ (nek r 0 8 rfl)).2.1 _).trans f311
  have e348 := mk_e (w := w280) (t := 11) (n := 7)
  rw [← hw316, n312] at e348
  have n349 : nx w316 = r + 9 := by rw [hw316]; exact congrArg (· + 1) n312
  have u350 : uc w316 = uc w + 8 := by rw [hw316]; exact congrArg (· + 1) u313
  have s351 : us w316 = us w + 1547 := by rw [hw316]; exact congrArg (· + 7) s314
  have g352 : ∀ q, q < r → gi w316 q = gi w q ∧ gr w316 q = gr w q ∧ ty w316 q = ty w q ∧ ln w316 q = ln w q := fun q hq => by have a := A317 q (Nat.ne_of_lt (Nat.lt_of_lt_of_le hq (Nat.le_add_right r 8))); have b := g315 q hq; exact ⟨a.1.trans b.1, a.2.1.trans b.2.1, a.2.2.1.trans b.2.2.1, a.2.2.2.trans b.2.2.2⟩
  clear A317 f282 f283 f284 f285 f286 f287 f288 f289 f290 f291 f292 f293 f294 f295 f296 f297 f298 f299 f300 f301 f302 f303 f304 f305 f306 f307 f308 f309 f310 f311 g315 hw316 n312 s314 u313
  refine WP.blk 1 ?_
  show ty w316 r = 10 ∧ WP 0 109 73 [vR r] [] (sr w316 r 12 (r + 8)) Q
  refine ⟨f339, ?_⟩
  obtain ⟨w353, hw353⟩ : ∃ y9, y9 = sr w316 r 12 (r + 8) := ⟨_, rfl⟩
  rw [← hw353]
  have A354 : ∀ q, q ≠ r → gi w353 q = gi w316 q ∧ gr w353 q = gr w316 q ∧ ty w353 q = ty w316 q ∧ ln w353 q = ln w316 q := fun q hq => by rw [hw353]; exact sr_o hq
  have f355 : ty w353 (r + 1) = 11 := (A354 _ (nek r 1 0 rfl)).2.2.1.trans f318
  have f356 : ln w353 (r + 1) = 195 := (A354 _ (nek r 1 0 rfl)).2.2.2.trans f319
  have f357 : gi w353 (r + 1) = (fun _ => 0) := (A354 _ (nek r 1 0 rfl)).1.trans f320
  have f358 : ty w353 (r + 2) = 11 := (A354 _ (nek r 2 0 rfl)).2.2.1.trans f321
  have f359 : ln w353 (r + 2) = 780 := (A354 _ (nek r 2 0 rfl)).2.2.2.trans f322
  have f360 : gi w353 (r + 2) = (fun _ => 0) := (A354 _ (nek r 2 0 rfl)).1.trans f323
  have f361 : ty w353 (r + 3) = 11 := (A354 _ (nek r 3 0 rfl)).2.2.1.trans f324
  have f362 : ln w353 (r + 3) = 195 := (A354 _ (nek r 3 0 rfl)).2.2.2.trans f325
  have f363 : gi w353 (r + 3) = (fun _ => 0) := (A354 _ (nek r 3 0 rfl)).1.trans f326
  have f364 : ty w353 (r + 4) = 11 := (A354 _ (nek r 4 0 rfl)).2.2.1.trans f327
  have f365 : ln w353 (r + 4) = 195 := (A354 _ (nek r 4 0 rfl)).2.2.2.trans f328
  have f366 : gi w353 (r + 4) = (fun _ => 0) := (A354 _ (nek r 4 0 rfl)).1.trans f329
  have f367 : ty w353 (r + 5) = 11 := (A354 _ (nek r 5 0 rfl)).2.2.1.trans f330
  have f368 : ln w353 (r + 5) = 150 := (A354 _ (nek r 5 0 rfl)).2.2.2.trans f331
  have f369 : gi w353 (r + 5) = (fun _ => 0) := (A354 _ (nek r 5 0 rfl)).1.trans f332
  have f370 : ty w353 (r + 6) = 11 := (A354 _ (nek r 6 0 rfl)).2.2.1.trans f333
  have f371 : ln w353 (r + 6) = 13 := (A354 _ (nek r 6 0 rfl)).2.2.2.trans f334
  have f372 : gi w353 (r + 6) = (fun _ => 0) := (A354 _ (nek r 6 0 rfl)).1.trans f335
  have f373 : ty w353 (r + 7) = 11 := (A354 _ (nek r 7 0 rfl)).2.2.1.trans f336
  have f374 : ln w353 (r + 7) = 12 := (A354 _ (nek r 7 0 rfl)).2.2.2.trans f337
  have f375 : gi w353 (r + 7) = (fun _ => 0) := (A354 _ (nek r 7 0 rfl)).1.trans f338
  have f376 : ty w353 (r + 8) = 11 := (A354 _ (nek r 8 0 rfl)).2.2.1.trans e348.2.1
  have f377 : ln w353 (r + 8) = 7 := (A354 _ (nek r 8 0 rfl)).2.2.2.trans e348.2.2
  have f378 : gi w353 (r + 8) = (fun _ => 0) := (A354 _ (nek r 8 0 rfl)).1.trans e348.1
  have f379 : ty w353 r = 10 := by rw [hw353]; exact f339
  have f380 : gi w353 r = (fun _ => 0) := by rw [hw353]; exact f340
  have f381 : gr w353 r 0 = (r + 1) := by rw [hw353]; exact (sr_k (by decide)).trans f341
  have f382 : gr w353 r 1 = (r + 2) := by rw [hw353]; exact (sr_k (by decide)).trans f342
  have f383 : gr w353 r 2 = (r + 3) := by rw [hw353]; exact (sr_k (by decide)).trans f343
  have f384 : gr w353 r 3 = (r + 4) := by rw [hw353]; exact (sr_k (by decide)).trans f344
  have f385 : gr w353 r 6 = (r + 5) := by rw [hw353]; exact (sr_k (by decide)).trans f345
  have f386 : gr w353 r 9 = (r + 6) := by rw [hw353]; exact (sr_k (by decide)).trans f346
  have f387 : gr w353 r 10 = (r + 7) := by rw [hw353]; exact (sr_k (by decide)).trans f347
  have f388 : gr w353 r 12 = (r + 8) := by rw [hw353]; exact sr_e
  have n389 : nx w353 = r + 9 := by rw [hw353]; exact n349
  have u390 : uc w353 = uc w + 8 := by rw [hw353]; exact u350
  have s391 : us w353 = us w + 1547 := by rw [hw353]; exact s351
  have g392 : ∀ q, q < r → gi w353 q = gi w q ∧ gr w353 q = gr w q ∧ ty w353 q = ty w q ∧ ln w353 q = ln w q := fun q hq => by have a := A354 q (Nat.ne_of_lt (Nat.lt_of_lt_of_le hq (Nat.le_add_right r 0))); have b := g352 q hq; exact ⟨a.1.trans b.1, a.2.1.trans b.2.1, a.2.2.1.trans b.2.2.1, a.2.2.2.trans b.2.2.2⟩
  clear A354 e348 f318 f319 f320 f321 f322 f323 f324 f325 f326 f327 f328 f329 f330 f331 f332 f333 f334 f335 f336 f337 f338 f339 f340 f341 f342 f343 f344 f345 f346 f347 g352 hw353 n349 s351 u350
  refine WP.blk 1 ?_
  show WP 0 109 74 [vR r] [vR r] w353 Q
  refine WP.blk 1 ?_
  show WP 0 109 77 [vR r] [vI 1365, vR r] w353 Q
  refine WP.blk 1 ?_
  show ((0 : Int) ≤ 1365 ∧ (1365 : Int) ≤ 100000) ∧ WP 0 109 79 [vR r] [vR (nx w353), vR r] (mk w353 11 1365) Q
  refine ⟨⟨by decide, by decide⟩, ?_⟩
  rw [n389]
  obtain ⟨w393, hw393⟩ : ∃ y9, y9 = mk w353 11 1365 := ⟨_, rfl⟩
  rw [← hw393]
  have A394 : ∀ q, q ≠ r + 9 → gi w393 q = gi w353 q ∧ gr w393 q = gr w353 q ∧ ty w393 q = ty w353 q ∧ ln w393 q = ln w353 q := fun q hq => by rw [hw393]; exact mk_o (by rw [n389]; exact hq)
  have f395 : ty w393 (r + 1) = 11 := (A394 _ (nek r 1 9 rfl)).2.2.1.trans f355
  have f396 : ln w393 (r + 1) = 195 := (A394 _ (nek r 1 9 rfl)).2.2.2.trans f356
  have f397 : gi w393 (r + 1) = (fun _ => 0) := (A394 _ (nek r 1 9 rfl)).1.trans f357
  have f398 : ty w393 (r + 2) = 11 := (A394 _ (nek r 2 9 rfl)).2.2.1.trans f358
  have f399 : ln w393 (r + 2) = 780 := (A394 _ (nek r 2 9 rfl)).2.2.2.trans f359
  have f400 : gi w393 (r + 2) = (fun _ => 0) := (A394 _ (nek r 2 9 rfl)).1.trans f360
  have f401 : ty w393 (r + 3) = 11 := (A394 _ (nek r 3 9 rfl)).2.2.1.trans f361
  have f402 : ln w393 (r + 3) = 195 := (A394 _ (nek r 3 9 rfl)).2.2.2.trans f362
  have f403 : gi w393 (r + 3) = (fun _ => 0) := (A394 _ (nek r 3 9 rfl)).1.trans f363
  have f404 : ty w393 (r + 4) = 11 := (A394 _ (nek r 4 9 rfl)).2.2.1.trans f364
  have f405 : ln w393 (r + 4) = 195 := (A394 _ (nek r 4 9 rfl)).2.2.2.trans f365
  have f406 : gi w393 (r + 4) = (fun _ => 0) := (A394 _ (nek r 4 9 rfl)).1.trans f366
  have f407 : ty w393 (r + 5) = 11 := (A394 _ (nek r 5 9 rfl)).2.2.1.trans f367
  have f408 : ln w393 (r + 5) = 150 := (A394 _ (nek r 5 9 rfl)).2.2.2.trans f368
  have f409 : gi w393 (r + 5) = (fun _ => 0) := (A394 _ (nek r 5 9 rfl)).1.trans f369
  have f410 : ty w393 (r + 6) = 11 := (A394 _ (nek r 6 9 rfl)).2.2.1.trans f370
  have f411 : ln w393 (r + 6) = 13 := (A394 _ (nek r 6 9 rfl)).2.2.2.trans f371
  have f412 : gi w393 (r + 6) = (fun _ => 0) := (A394 _ (nek r 6 9 rfl)).1.trans f372
  have f413 : ty w393 (r + 7) = 11 := (A394 _ (nek r 7 9 rfl)).2.2.1.trans f373
  have f414 : ln w393 (r + 7) = 12 := (A394 _ (nek r 7 9 rfl)).2.2.2.trans f374
  have f415 : gi w393 (r + 7) = (fun _ => 0) := (A394 _ (nek r 7 9 rfl)).1.trans f375
  have f416 : ty w393 (r + 8) = 11 := (A394 _ (nek r 8 9 rfl)).2.2.1.trans f376
  have f417 : ln w393 (r + 8) = 7 := (A394 _ (nek r 8 9 rfl)).2.2.2.trans f377
  have f418 : gi w393 (r + 8) = (fun _ => 0) := (A394 _ (nek r 8 9 rfl)).1.trans f378
  have f419 : ty w393 r = 10 := (A394 _ (nek r 0 9 rfl)).2.2.1.trans f379
  have f420 : gi w393 r = (fun _ => 0) := (A394 _ (nek r 0 9 rfl)).1.trans f380
  have f421 : gr w393 r 0 = (r + 1) := (congrFun (A394 _ (nek r 0 9 rfl)).2.1 _).trans f381
  have f422 : gr w393 r 1 = (r + 2) := (congrFun (A394 _ (nek r 0 9 rfl)).2.1 _).trans f382
  have f423 : gr w393 r 2 = (r + 3) := (congrFun (A394 _ (nek r 0 9 rfl)).2.1 _).trans f383
  have f424 : gr w393 r 3 = (r + 4) := (congrFun (A394 _ (nek r 0 9 rfl)).2.1 _).trans f384
  have f425 : gr w393 r 6 = (r + 5) := (congrFun (A394 _ (nek r 0 9 rfl)).2.1 _).trans f385
  have f426 : gr w393 r 9 = (r + 6) := (congrFun (A394 _ (nek r 0 9 rfl)).2.1 _).trans f386
  have f427 : gr w393 r 10 = (r + 7) := (congrFun (A394 _ (nek r 0 9 rfl)).2.1 _).trans f387
  have f428 : gr w393 r 12 = (r + 8) := (congrFun (A394 _ (nek r 0 9 rfl)).2.1 _).trans f388
  have e429 := mk_e (w := w353) (t := 11) (n := 1365)
  rw [← hw393, n389] at e429
  have n430 : nx w393 = r + 10 := by rw [hw393]; exact congrArg (· + 1) n389
  have u431 : uc w393 = uc w + 9 := by rw [hw393]; exact congrArg (· + 1) u390
  have s432 : us w393 = us w + 2912 := by rw [hw393]; exact congrArg (· + 1365) s391
  have g433 : ∀ q, q < r → gi w393 q = gi w q ∧ gr w393 q = gr w q ∧ ty w393 q = ty w q ∧ ln w393 q = ln w q := fun q hq => by have a := A394 q (Nat.ne_of_lt (Nat.lt_of_lt_of_le hq (Nat.le_add_right r 9))); have b := g392 q hq; exact ⟨a.1.trans b.1, a.2.1.trans b.2.1, a.2.2.1.trans b.2.2.1, a.2.2.2.trans b.2.2.2⟩
  clear A394 f355 f356 f357 f358 f359 f360 f361 f362 f363 f364 f365 f366 f367 f368 f369 f370 f371 f372 f373 f374 f375 f376 f377 f378 f379 f380 f381 f382 f383 f384 f385 f386 f387 f388 g392 hw393 n389 s391 u390
  refine WP.blk 1 ?_
  show ty w393 r = 10 ∧ WP 0 109 82 [vR r] [] (sr w393 r 13 (r + 9)) Q
  refine ⟨f419, ?_⟩
  obtain ⟨w434, hw434⟩ : ∃ y9, y9 = sr w393 r 13 (r + 9) := ⟨_, rfl⟩
  rw [← hw434]
  have A435 : ∀ q, q ≠ r → gi w434 q = gi w393 q ∧ gr w434 q = gr w393 q ∧ ty w434 q = ty w393 q ∧ ln w434 q = ln w393 q := fun q hq => by rw [hw434]; exact sr_o hq
  have f436 : ty w434 (r + 1) = 11 := (A435 _ (nek r 1 0 rfl)).2.2.1.trans f395
  have f437 : ln w434 (r + 1) = 195 := (A435 _ (nek r 1 0 rfl)).2.2.2.trans f396
  have f438 : gi w434 (r + 1) = (fun _ => 0) := (A435 _ (nek r 1 0 rfl)).1.trans f397
  have f439 : ty w434 (r + 2) = 11 := (A435 _ (nek r 2 0 rfl)).2.2.1.trans f398
  have f440 : ln w434 (r + 2) = 780 := (A435 _ (nek r 2 0 rfl)).2.2.2.trans f399
  have f441 : gi w434 (r + 2) = (fun _ => 0) := (A435 _ (nek r 2 0 rfl)).1.trans f400
  have f442 : ty w434 (r + 3) = 11 := (A435 _ (nek r 3 0 rfl)).2.2.1.trans f401
  have f443 : ln w434 (r + 3) = 195 := (A435 _ (nek r 3 0 rfl)).2.2.2.trans f402
  have f444 : gi w434 (r + 3) = (fun _ => 0) := (A435 _ (nek r 3 0 rfl)).1.trans f403
  have f445 : ty w434 (r + 4) = 11 := (A435 _ (nek r 4 0 rfl)).2.2.1.trans f404
  have f446 : ln w434 (r + 4) = 195 := (A435 _ (nek r 4 0 rfl)).2.2.2.trans f405
  have f447 : gi w434 (r + 4) = (fun _ => 0) := (A435 _ (nek r 4 0 rfl)).1.trans f406
  have f448 : ty w434 (r + 5) = 11 := (A435 _ (nek r 5 0 rfl)).2.2.1.trans f407
  have f449 : ln w434 (r + 5) = 150 := (A435 _ (nek r 5 0 rfl)).2.2.2.trans f408
  have f450 : gi w434 (r + 5) = (fun _ => 0) := (A435 _ (nek r 5 0 rfl)).1.trans f409
  have f451 : ty w434 (r + 6) = 11 := (A435 _ (nek r 6 0 rfl)).2.2.1.trans f410
  have f452 : ln w434 (r + 6) = 13 := (A435 _ (nek r 6 0 rfl)).2.2.2.trans f411
  have f453 : gi w434 (r + 6) = (fun _ => 0) := (A435 _ (nek r 6 0 rfl)).1.trans f412
  have f454 : ty w434 (r + 7) = 11 := (A435 _ (nek r 7 0 rfl)).2.2.1.trans f413
  have f455 : ln w434 (r + 7) = 12 := (A435 _ (nek r 7 0 rfl)).2.2.2.trans f414
  have f456 : gi w434 (r + 7) = (fun _ => 0) := (A435 _ (nek r 7 0 rfl)).1.trans f415
  have f457 : ty w434 (r + 8) = 11 := (A435 _ (nek r 8 0 rfl)).2.2.1.trans f416
  have f458 : ln w434 (r + 8) = 7 := (A435 _ (nek r 8 0 rfl)).2.2.2.trans f417
  have f459 : gi w434 (r + 8) = (fun _ => 0) := (A435 _ (nek r 8 0 rfl)).1.trans f418
  have f460 : ty w434 (r + 9) = 11 := (A435 _ (nek r 9 0 rfl)).2.2.1.trans e429.2.1
  have f461 : ln w434 (r + 9) = 1365 := (A435 _ (nek r 9 0 rfl)).2.2.2.trans e429.2.2
  have f462 : gi w434 (r + 9) = (fun _ => 0) := (A435 _ (nek r 9 0 rfl)).1.trans e429.1
  have f463 : ty w434 r = 10 := by rw [hw434]; exact f419
  have f464 : gi w434 r = (fun _ => 0) := by rw [hw434]; exact f420
  have f465 : gr w434 r 0 = (r + 1) := by rw [hw434]; exact (sr_k (by decide)).trans f421
  have f466 : gr w434 r 1 = (r + 2) := by rw [hw434]; exact (sr_k (by decide)).trans f422
  have f467 : gr w434 r 2 = (r + 3) := by rw [hw434]; exact (sr_k (by decide)).trans f423
  have f468 : gr w434 r 3 = (r + 4) := by rw [hw434]; exact (sr_k (by decide)).trans f424
  have f469 : gr w434 r 6 = (r + 5) := by rw [hw434]; exact (sr_k (by decide)).trans f425
  have f470 : gr w434 r 9 = (r + 6) := by rw [hw434]; exact (sr_k (by decide)).trans f426
  have f471 : gr w434 r 10 = (r + 7) := by rw [hw434]; exact (sr_k (by decide)).trans f427
  have f472 : gr w434 r 12 = (r + 8) := by rw [hw434]; exact (sr_k (by decide)).trans f428
  have f473 : gr w434 r 13 = (r + 9) := by rw [hw434]; exact sr_e
  have n474 : nx w434 = r + 10 := by rw [hw434]; exact n430
  have u475 : uc w434 = uc w + 9 := by rw [hw434]; exact u431
  have s476 : us w434 = us w + 2912 := by rw [hw434]; exact s432
  have g477 : ∀ q, q < r → gi w434 q = gi w q ∧ gr w434 q = gr w q ∧ ty w434 q = ty w q ∧ ln w434 q = ln w q := fun q hq => by have a := A435 q (Nat.ne_of_lt (Nat.lt_of_lt_of_le hq (Nat.le_add_right r 0))); have b := g433 q hq; exact ⟨a.1.trans b.1, a.2.1.trans b.2.1, a.2.2.1.trans b.2.2.1, a.2.2.2.trans b.2.2.2⟩
  clear A435 e429 f395 f396 f397 f398 f399 f400 f401 f402 f403 f404 f405 f406 f407 f408 f409 f410 f411 f412 f413 f414 f415 f416 f417 f418 f419 f420 f421 f422 f423 f424 f425 f426 f427 f428 g433 hw434 n430 s432 u431
  refine WP.blk 1 ?_
  show WP 0 109 83 [vR r] [vR r] w434 Q
  refine WP.blk 1 ?_
  show WP 0 109 85 [vR r] [vI 7, vR r] w434 Q
  refine WP.blk 1 ?_
  show ((0 : Int) ≤ 7 ∧ (7 : Int) ≤ 100000) ∧ WP 0 109 87 [vR r] [vR (nx w434), vR r] (mk w434 11 7) Q
  refine ⟨⟨by decide, by decide⟩, ?_⟩
  rw [n474]
  obtain ⟨w478, hw478⟩ : ∃ y9, y9 = mk w434 11 7 := ⟨_, rfl⟩
  rw [← hw478]
  have A479 : ∀ q, q ≠ r + 10 → gi w478 q = gi w434 q ∧ gr w478 q = gr w434 q ∧ ty w478 q = ty w434 q ∧ ln w478 q = ln w434 q := fun q hq => by rw [hw478]; exact mk_o (by rw [n474]; exact hq)
  have f480 : ty w478 (r + 1) = 11 := (A479 _ (nek r 1 10 rfl)).2.2.1.trans f436
  have f481 : ln w478 (r + 1) = 195 := (A479 _ (nek r 1 10 rfl)).2.2.2.trans f437
  have f482 : gi w478 (r + 1) = (fun _ => 0) := (A479 _ (nek r 1 10 rfl)).1.trans f438
  have f483 : ty w478 (r + 2) = 11 := (A479 _ (nek r 2 10 rfl)).2.2.1.trans f439
  have f484 : ln w478 (r + 2) = 780 := (A479 _ (nek r 2 10 rfl)).2.2.2.trans f440
  have f485 : gi w478 (r + 2) = (fun _ => 0) := (A479 _ (nek r 2 10 rfl)).1.trans f441
  have f486 : ty w478 (r + 3) = 11 := (A479 _ (nek r 3 10 rfl)).2.2.1.trans f442
  have f487 : ln w478 (r + 3) = 195 := (A479 _ (nek r 3 10 rfl)).2.2.2.trans f443
  have f488 : gi w478 (r + 3) = (fun _ => 0) := (A479 _ (nek r 3 10 rfl)).1.trans f444
  have f489 : ty w478 (r + 4) = 11 := (A479 _ (nek r 4 10 rfl)).2.2.1.trans f445
  have f490 : ln w478 (r + 4) = 195 := (A479 _ (nek r 4 10 rfl)).2.2.2.trans f446
  have f491 : gi w478 (r + 4) = (fun _ => 0) := (A479 _ (nek r 4 10 rfl)).1.trans f447
  have f492 : ty w478 (r + 5) = 11 := (A479 _ (nek r 5 10 rfl)).2.2.1.trans f448
  have f493 : ln w478 (r + 5) = 150 := (A479 _ (nek r 5 10 rfl)).2.2.2.trans f449
  have f494 : gi w478 (r + 5) = (fun _ => 0) := (A479 _ (nek r 5 10 rfl)).1.trans f450
  have f495 : ty w478 (r + 6) = 11 := (A479 _ (nek r 6 10 rfl)).2.2.1.trans f451
  have f496 : ln w478 (r + 6) = 13 := (A479 _ (nek r 6 10 rfl)).2.2.2.trans f452
  have f497 : gi w478 (r + 6) = (fun _ => 0) := (A479 _ (nek r 6 10 rfl)).1.trans f453
  have f498 : ty w478 (r + 7) = 11 := (A479 _ (nek r 7 10 rfl)).2.2.1.trans f454
  have f499 : ln w478 (r + 7) = 12 := (A479 _ (nek r 7 10 rfl)).2.2.2.trans f455
  have f500 : gi w478 (r + 7) = (fun _ => 0) := (A479 _ (nek r 7 10 rfl)).1.trans f456
  have f501 : ty w478 (r + 8) = 11 := (A479 _ (nek r 8 10 rfl)).2.2.1.trans f457
  have f502 : ln w478 (r + 8) = 7 := (A479 _ (nek r 8 10 rfl)).2.2.2.trans f458
  have f503 : gi w478 (r + 8) = (fun _ => 0) := (A479 _ (nek r 8 10 rfl)).1.trans f459
  have f504 : ty w478 (r + 9) = 11 := (A479 _ (nek r 9 10 rfl)).2.2.1.trans f460
  have f505 : ln w478 (r + 9) = 1365 := (A479 _ (nek r 9 10 rfl)).2.2.2.trans f461
  have f506 : gi w478 (r + 9) = (fun _ => 0) := (A479 _ (nek r 9 10 rfl)).1.trans f462
  have f507 : ty w478 r = 10 := (A479 _ (nek r 0 10 rfl)).2.2.1.trans f463
  have f508 : gi w478 r = (fun _ => 0) := (A479 _ (nek r 0 10 rfl)).1.trans f464
  have f509 : gr w478 r 0 = (r + 1) := (congrFun (A479 _ (nek r 0 10 rfl)).2.1 _).trans f465
  have f510 : gr w478 r 1 = (r + 2) := (congrFun (A479 _ (nek r 0 10 rfl)).2.1 _).trans f466
  have f511 : gr w478 r 2 = (r + 3) := (congrFun (A479 _ (nek r 0 10 rfl)).2.1 _).trans f467
  have f512 : gr w478 r 3 = (r + 4) := (congrFun (A479 _ (nek r 0 10 rfl)).2.1 _).trans f468
  have f513 : gr w478 r 6 = (r + 5) := (congrFun (A479 _ (nek r 0 10 rfl)).2.1 _).trans f469
  have f514 : gr w478 r 9 = (r + 6) := (congrFun (A479 _ (nek r 0 10 rfl)).2.1 _).trans f470
  have f515 : gr w478 r 10 = (r + 7) := (congrFun (A479 _ (nek r 0 10 rfl)).2.1 _).trans f471
  have f516 : gr w478 r 12 = (r + 8) := (congrFun (A479 _ (nek r 0 10 rfl)).2.1 _).trans f472
  have f517 : gr w478 r 13 = (r + 9) := (congrFun (A479 _ (nek r 0 10 rfl)).2.1 _).trans f473
  have e518 := mk_e (w := w434) (t := 11) (n := 7)
  rw [← hw478, n474] at e518
  have n519 : nx w478 = r + 11 := by rw [hw478]; exact congrArg (· + 1) n474
  have u520 : uc w478 = uc w + 10 := by rw [hw478]; exact congrArg (· + 1) u475
  have s521 : us w478 = us w + 2919 := by rw [hw478]; exact congrArg (· + 7) s476
  have g522 : ∀ q, q < r → gi w478 q = gi w q ∧ gr w478 q = gr w q ∧ ty w478 q = ty w q ∧ ln w478 q = ln w q := fun q hq => by have a := A479 q (Nat.ne_of_lt (Nat.lt_of_lt_of_le hq (Nat.le_add_right r 10))); have b := g477 q hq; exact ⟨a.1.trans b.1, a.2.1.trans b.2.1, a.2.2.1.trans b.2.2.1, a.2.2.2.trans b.2.2.2⟩
  clear A479 f436 f437 f438 f439 f440 f441 f442 f443 f444 f445 f446 f447 f448 f449 f450 f451 f452 f453 f454 f455 f456 f457 f458 f459 f460 f461 f462 f463 f464 f465 f466 f467 f468 f469 f470 f471 f472 f473 g477 hw478 n474 s476 u475
  refine WP.blk 1 ?_
  show ty w478 r = 10 ∧ WP 0 109 90 [vR r] [] (sr w478 r 14 (r + 10)) Q
  refine ⟨f507, ?_⟩
  obtain ⟨w523, hw523⟩ : ∃ y9, y9 = sr w478 r 14 (r + 10) := ⟨_, rfl⟩
  rw [← hw523]
  have A524 : ∀ q, q ≠ r → gi w523 q = gi w478 q ∧ gr w523 q = gr w478 q ∧ ty w523 q = ty w478 q ∧ ln w523 q = ln w478 q := fun q hq => by rw [hw523]; exact sr_o hq
  have f525 : ty w523 (r + 1) = 11 := (A524 _ (nek r 1 0 rfl)).2.2.1.trans f480
  have f526 : ln w523 (r + 1) = 195 := (A524 _ (nek r 1 0 rfl)).2.2.2.trans f481
  have f527 : gi w523 (r + 1) = (fun _ => 0) := (A524 _ (nek r 1 0 rfl)).1.trans f482
  have f528 : ty w523 (r + 2) = 11 := (A524 _ (nek r 2 0 rfl)).2.2.1.trans f483
  have f529 : ln w523 (r + 2) = 780 := (A524 _ (nek r 2 0 rfl)).2.2.2.trans f484
  have f530 : gi w523 (r + 2) = (fun _ => 0) := (A524 _ (nek r 2 0 rfl)).1.trans f485
  have f531 : ty w523 (r + 3) = 11 := (A524 _ (nek r 3 0 rfl)).2.2.1.trans f486
  have f532 : ln w523 (r + 3) = 195 := (A524 _ (nek r 3 0 rfl)).2.2.2.trans f487
  have f533 : gi w523 (r + 3) = (fun _ => 0) := (A524 _ (nek r 3 0 rfl)).1.trans f488
  have f534 : ty w523 (r + 4) = 11 := (A524 _ (nek r 4 0 rfl)).2.2.1.trans f489
  have f535 : ln w523 (r + 4) = 195 := (A524 _ (nek r 4 0 rfl)).2.2.2.trans f490
  have f536 : gi w523 (r + 4) = (fun _ => 0) := (A524 _ (nek r 4 0 rfl)).1.trans f491
  have f537 : ty w523 (r + 5) = 11 := (A524 _ (nek r 5 0 rfl)).2.2.1.trans f492
  have f538 : ln w523 (r + 5) = 150 := (A524 _ (nek r 5 0 rfl)).2.2.2.trans f493
  have f539 : gi w523 (r + 5) = (fun _ => 0) := (A524 _ (nek r 5 0 rfl)).1.trans f494
  have f540 : ty w523 (r + 6) = 11 := (A524 _ (nek r 6 0 rfl)).2.2.1.trans f495
  have f541 : ln w523 (r + 6) = 13 := (A524 _ (nek r 6 0 rfl)).2.2.2.trans f496
  have f542 : gi w523 (r + 6) = (fun _ => 0) := (A524 _ (nek r 6 0 rfl)).1.trans f497
  have f543 : ty w523 (r + 7) = 11 := (A524 _ (nek r 7 0 rfl)).2.2.1.trans f498
  have f544 : ln w523 (r + 7) = 12 := (A524 _ (nek r 7 0 rfl)).2.2.2.trans f499
  have f545 : gi w523 (r + 7) = (fun _ => 0) := (A524 _ (nek r 7 0 rfl)).1.trans f500
  have f546 : ty w523 (r + 8) = 11 := (A524 _ (nek r 8 0 rfl)).2.2.1.trans f501
  have f547 : ln w523 (r + 8) = 7 := (A524 _ (nek r 8 0 rfl)).2.2.2.trans f502
  have f548 : gi w523 (r + 8) = (fun _ => 0) := (A524 _ (nek r 8 0 rfl)).1.trans f503
  have f549 : ty w523 (r + 9) = 11 := (A524 _ (nek r 9 0 rfl)).2.2.1.trans f504
  have f550 : ln w523 (r + 9) = 1365 := (A524 _ (nek r 9 0 rfl)).2.2.2.trans f505
  have f551 : gi w523 (r + 9) = (fun _ => 0) := (A524 _ (nek r 9 0 rfl)).1.trans f506
  have f552 : ty w523 (r + 10) = 11 := (A524 _ (nek r 10 0 rfl)).2.2.1.trans e518.2.1
  have f553 : ln w523 (r + 10) = 7 := (A524 _ (nek r 10 0 rfl)).2.2.2.trans e518.2.2
  have f554 : gi w523 (r + 10) = (fun _ => 0) := (A524 _ (nek r 10 0 rfl)).1.trans e518.1
  have f555 : ty w523 r = 10 := by rw [hw523]; exact f507
  have f556 : gi w523 r = (fun _ => 0) := by rw [hw523]; exact f508
  have f557 : gr w523 r 0 = (r + 1) := by rw [hw523]; exact (sr_k (by decide)).trans f509
  have f558 : gr w523 r 1 = (r + 2) := by rw [hw523]; exact (sr_k (by decide)).trans f510
  have f559 : gr w523 r 2 = (r + 3) := by rw [hw523]; exact (sr_k (by decide)).trans f511
  have f560 : gr w523 r 3 = (r + 4) := by rw [hw523]; exact (sr_k (by decide)).trans f512
  have f561 : gr w523 r 6 = (r + 5) := by rw [hw523]; exact (sr_k (by decide)).trans f513
  have f562 : gr w523 r 9 = (r + 6) := by rw [hw523]; exact (sr_k (by decide)).trans f514
  have f563 : gr w523 r 10 = (r + 7) := by rw [hw523]; exact (sr_k (by decide)).trans f515
  have f564 : gr w523 r 12 = (r + 8) := by rw [hw523]; exact (sr_k (by decide)).trans f516
  have f565 : gr w523 r 13 = (r + 9) := by rw [hw523]; exact (sr_k (by decide)).trans f517
  have f566 : gr w523 r 14 = (r + 10) := by rw [hw523]; exact sr_e
  have n567 : nx w523 = r + 11 := by rw [hw523]; exact n519
  have u568 : uc w523 = uc w + 10 := by rw [hw523]; exact u520
  have s569 : us w523 = us w + 2919 := by rw [hw523]; exact s521
  have g570 : ∀ q, q < r → gi w523 q = gi w q ∧ gr w523 q = gr w q ∧ ty w523 q = ty w q ∧ ln w523 q = ln w q := fun q hq => by have a := A524 q (Nat.ne_of_lt (Nat.lt_of_lt_of_le hq (Nat.le_add_right r 0))); have b := g522 q hq; exact ⟨a.1.trans b.1, a.2.1.trans b.2.1, a.2.2.1.trans b.2.2.1, a.2.2.2.trans b.2.2.2⟩
  clear A524 e518 f480 f481 f482 f483 f484 f485 f486 f487 f488 f489 f490 f491 f492 f493 f494 f495 f496 f497 f498 f499 f500 f501 f502 f503 f504 f505 f506 f507 f508 f509 f510 f511 f512 f513 f514 f515 f516 f517 g522 hw523 n519 s521 u520
  refine WP.blk 1 ?_
  show WP 0 109 91 [vR r] [vR r] w523 Q
  refine WP.blk 1 ?_
  show WP 0 109 92 [vR r] [vI 4, vR r] w523 Q
  refine WP.blk 1 ?_
  show ((0 : Int) ≤ 4 ∧ (4 : Int) ≤ 100000) ∧ WP 0 109 94 [vR r] [vR (nx w523), vR r] (mk w523 11 4) Q
  refine ⟨⟨by decide, by decide⟩, ?_⟩
  rw [n567]
  obtain ⟨w571, hw571⟩ : ∃ y9, y9 = mk w523 11 4 := ⟨_, rfl⟩
  rw [← hw571]
  have A572 : ∀ q, q ≠ r + 11 → gi w571 q = gi w523 q ∧ gr w571 q = gr w523 q ∧ ty w571 q = ty w523 q ∧ ln w571 q = ln w523 q := fun q hq => by rw [hw571]; exact mk_o (by rw [n567]; exact hq)
  have f573 : ty w571 (r + 1) = 11 := (A572 _ (nek r 1 11 rfl)).2.2.1.trans f525
  have f574 : ln w571 (r + 1) = 195 := (A572 _ (nek r 1 11 rfl)).2.2.2.trans f526
  have f575 : gi w571 (r + 1) = (fun _ => 0) := (A572 _ (nek r 1 11 rfl)).1.trans f527
  have f576 : ty w571 (r + 2) = 11 := (A572 _ (nek r 2 11 rfl)).2.2.1.trans f528
  have f577 : ln w571 (r + 2) = 780 := (A572 _ (nek r 2 11 rfl)).2.2.2.trans f529
  have f578 : gi w571 (r + 2) = (fun _ => 0) := (A572 _ (nek r 2 11 rfl)).1.trans f530
  have f579 : ty w571 (r + 3) = 11 := (A572 _ (nek r 3 11 rfl)).2.2.1.trans f531
  have f580 : ln w571 (r + 3) = 195 := (A572 _ (nek r 3 11 rfl)).2.2.2.trans f532
  have f581 : gi w571 (r + 3) = (fun _ => 0) := (A572 _ (nek r 3 11 rfl)).1.trans f533
  have f582 : ty w571 (r + 4) = 11 := (A572 _ (nek r 4 11 rfl)).2.2.1.trans f534
  have f583 : ln w571 (r + 4) = 195 := (A572 _ (nek r 4 11 rfl)).2.2.2.trans f535
  have f584 : gi w571 (r + 4) = (fun _ => 0) := (A572 _ (nek r 4 11 rfl)).1.trans f536
  have f585 : ty w571 (r + 5) = 11 := (A572 _ (nek r 5 11 rfl)).2.2.1.trans f537
  have f586 : ln w571 (r + 5) = 150 := (A572 _ (nek r 5 11 rfl)).2.2.2.trans f538
  have f587 : gi w571 (r + 5) = (fun _ => 0) := (A572 _ (nek r 5 11 rfl)).1.trans f539
  have f588 : ty w571 (r + 6) = 11 := (A572 _ (nek r 6 11 rfl)).2.2.1.trans f540
  have f589 : ln w571 (r + 6) = 13 := (A572 _ (nek r 6 11 rfl)).2.2.2.trans f541
  have f590 : gi w571 (r + 6) = (fun _ => 0) := (A572 _ (nek r 6 11 rfl)).1.trans f542
  have f591 : ty w571 (r + 7) = 11 := (A572 _ (nek r 7 11 rfl)).2.2.1.trans f543
  have f592 : ln w571 (r + 7) = 12 := (A572 _ (nek r 7 11 rfl)).2.2.2.trans f544
  have f593 : gi w571 (r + 7) = (fun _ => 0) := (A572 _ (nek r 7 11 rfl)).1.trans f545
  have f594 : ty w571 (r + 8) = 11 := (A572 _ (nek r 8 11 rfl)).2.2.1.trans f546
  have f595 : ln w571 (r + 8) = 7 := (A572 _ (nek r 8 11 rfl)).2.2.2.trans f547
  have f596 : gi w571 (r + 8) = (fun _ => 0) := (A572 _ (nek r 8 11 rfl)).1.trans f548
  have f597 : ty w571 (r + 9) = 11 := (A572 _ (nek r 9 11 rfl)).2.2.1.trans f549
  have f598 : ln w571 (r + 9) = 1365 := (A572 _ (nek r 9 11 rfl)).2.2.2.trans f550
  have f599 : gi w571 (r + 9) = (fun _ => 0) := (A572 _ (nek r 9 11 rfl)).1.trans f551
  have f600 : ty w571 (r + 10) = 11 := (A572 _ (nek r 10 11 rfl)).2.2.1.trans f552
  have f601 : ln w571 (r + 10) = 7 := (A572 _ (nek r 10 11 rfl)).2.2.2.trans f553
  have f602 : gi w571 (r + 10) = (fun _ => 0) := (A572 _ (nek r 10 11 rfl)).1.trans f554
  have f603 : ty w571 r = 10 := (A572 _ (nek r 0 11 rfl)).2.2.1.trans f555
  have f604 : gi w571 r = (fun _ => 0) := (A572 _ (nek r 0 11 rfl)).1.trans f556
  have f605 : gr w571 r 0 = (r + 1) := (congrFun (A572 _ (nek r 0 11 rfl)).2.1 _).trans f557
  have f606 : gr w571 r 1 = (r + 2) := (congrFun (A572 _ (nek r 0 11 rfl)).2.1 _).trans f558
  have f607 : gr w571 r 2 = (r + 3) := (congrFun (A572 _ (nek r 0 11 rfl)).2.1 _).trans f559
  have f608 : gr w571 r 3 = (r + 4) := (congrFun (A572 _ (nek r 0 11 rfl)).2.1 _).trans f560
  have f609 : gr w571 r 6 = (r + 5) := (congrFun (A572 _ (nek r 0 11 rfl)).2.1 _).trans f561
  have f610 : gr w571 r 9 = (r + 6) := (congrFun (A572 _ (nek r 0 11 rfl)).2.1 _).trans f562
  have f611 : gr w571 r 10 = (r + 7) := (congrFun (A572 _ (nek r 0 11 rfl)).2.1 _).trans f563
  have f612 : gr w571 r 12 = (r + 8) := (congrFun (A572 _ (nek r 0 11 rfl)).2.1 _).trans f564
  have f613 : gr w571 r 13 = (r + 9) := (congrFun (A572 _ (nek r 0 11 rfl)).2.1 _).trans f565
  have f614 : gr w571 r 14 = (r + 10) := (congrFun (A572 _ (nek r 0 11 rfl)).2.1 _).trans f566
  have e615 := mk_e (w := w523) (t := 11) (n := 4)
  rw [← hw571, n567] at e615
  have n616 : nx w571 = r + 12 := by rw [hw571]; exact congrArg (· + 1) n567
  have u617 : uc w571 = uc w + 11 := by rw [hw571]; exact congrArg (· + 1) u568
  have s618 : us w571 = us w + 2923 := by rw [hw571]; exact congrArg (· + 4) s569
  have g619 : ∀ q, q < r → gi w571 q = gi w q ∧ gr w571 q = gr w q ∧ ty w571 q = ty w q ∧ ln w571 q = ln w q := fun q hq => by have a := A572 q (Nat.ne_of_lt (Nat.lt_of_lt_of_le hq (Nat.le_add_right r 11))); have b := g570 q hq; exact ⟨a.1.trans b.1, a.2.1.trans b.2.1, a.2.2.1.trans b.2.2.1, a.2.2.2.trans b.2.2.2⟩
  clear A572 f525 f526 f527 f528 f529 f530 f531 f532 f533 f534 f535 f536 f537 f538 f539 f540 f541 f542 f543 f544 f545 f546 f547 f548 f549 f550 f551 f552 f553 f554 f555 f556 f557 f558 f559 f560 f561 f562 f563 f564 f565 f566 g570 hw571 n567 s569 u568
  refine WP.blk 1 ?_
  show ty w571 r = 10 ∧ WP 0 109 97 [vR r] [] (sr w571 r 16 (r + 11)) Q
  refine ⟨f603, ?_⟩
  obtain ⟨w620, hw620⟩ : ∃ y9, y9 = sr w571 r 16 (r + 11) := ⟨_, rfl⟩
  rw [← hw620]
  have A621 : ∀ q, q ≠ r → gi w620 q = gi w571 q ∧ gr w620 q = gr w571 q ∧ ty w620 q = ty w571 q ∧ ln w620 q = ln w571 q := fun q hq => by rw [hw620]; exact sr_o hq
  have f622 : ty w620 (r + 1) = 11 := (A621 _ (nek r 1 0 rfl)).2.2.1.trans f573
  have f623 : ln w620 (r + 1) = 195 := (A621 _ (nek r 1 0 rfl)).2.2.2.trans f574
  have f624 : gi w620 (r + 1) = (fun _ => 0) := (A621 _ (nek r 1 0 rfl)).1.trans f575
  have f625 : ty w620 (r + 2) = 11 := (A621 _ (nek r 2 0 rfl)).2.2.1.trans f576
  have f626 : ln w620 (r + 2) = 780 := (A621 _ (nek r 2 0 rfl)).2.2.2.trans f577
  have f627 : gi w620 (r + 2) = (fun _ => 0) := (A621 _ (nek r 2 0 rfl)).1.trans f578
  have f628 : ty w620 (r + 3) = 11 := (A621 _ (nek r 3 0 rfl)).2.2.1.trans f579
  have f629 : ln w620 (r + 3) = 195 := (A621 _ (nek r 3 0 rfl)).2.2.2.trans f580
  have f630 : gi w620 (r + 3) = (fun _ => 0) := (A621 _ (nek r 3 0 rfl)).1.trans f581
  have f631 : ty w620 (r + 4) = 11 := (A621 _ (nek r 4 0 rfl)).2.2.1.trans f582
  have f632 : ln w620 (r + 4) = 195 := (A621 _ (nek r 4 0 rfl)).2.2.2.trans f583
  have f633 : gi w620 (r + 4) = (fun _ => 0) := (A621 _ (nek r 4 0 rfl)).1.trans f584
  have f634 : ty w620 (r + 5) = 11 := (A621 _ (nek r 5 0 rfl)).2.2.1.trans f585
  have f635 : ln w620 (r + 5) = 150 := (A621 _ (nek r 5 0 rfl)).2.2.2.trans f586
  have f636 : gi w620 (r + 5) = (fun _ => 0) := (A621 _ (nek r 5 0 rfl)).1.trans f587
  have f637 : ty w620 (r + 6) = 11 := (A621 _ (nek r 6 0 rfl)).2.2.1.trans f588
  have f638 : ln w620 (r + 6) = 13 := (A621 _ (nek r 6 0 rfl)).2.2.2.trans f589
  have f639 : gi w620 (r + 6) = (fun _ => 0) := (A621 _ (nek r 6 0 rfl)).1.trans f590
  have f640 : ty w620 (r + 7) = 11 := (A621 _ (nek r 7 0 rfl)).2.2.1.trans f591
  have f641 : ln w620 (r + 7) = 12 := (A621 _ (nek r 7 0 rfl)).2.2.2.trans f592
  have f642 : gi w620 (r + 7) = (fun _ => 0) := (A621 _ (nek r 7 0 rfl)).1.trans f593
  have f643 : ty w620 (r + 8) = 11 := (A621 _ (nek r 8 0 rfl)).2.2.1.trans f594
  have f644 : ln w620 (r + 8) = 7 := (A621 _ (nek r 8 0 rfl)).2.2.2.trans f595
  have f645 : gi w620 (r + 8) = (fun _ => 0) := (A621 _ (nek r 8 0 rfl)).1.trans f596
  have f646 : ty w620 (r + 9) = 11 := (A621 _ (nek r 9 0 rfl)).2.2.1.trans f597
  have f647 : ln w620 (r + 9) = 1365 := (A621 _ (nek r 9 0 rfl)).2.2.2.trans f598
  have f648 : gi w620 (r + 9) = (fun _ => 0) := (A621 _ (nek r 9 0 rfl)).1.trans f599
  have f649 : ty w620 (r + 10) = 11 := (A621 _ (nek r 10 0 rfl)).2.2.1.trans f600
  have f650 : ln w620 (r + 10) = 7 := (A621 _ (nek r 10 0 rfl)).2.2.2.trans f601
  have f651 : gi w620 (r + 10) = (fun _ => 0) := (A621 _ (nek r 10 0 rfl)).1.trans f602
  have f652 : ty w620 (r + 11) = 11 := (A621 _ (nek r 11 0 rfl)).2.2.1.trans e615.2.1
  have f653 : ln w620 (r + 11) = 4 := (A621 _ (nek r 11 0 rfl)).2.2.2.trans e615.2.2
  have f654 : gi w620 (r + 11) = (fun _ => 0) := (A621 _ (nek r 11 0 rfl)).1.trans e615.1
  have f655 : ty w620 r = 10 := by rw [hw620]; exact f603
  have f656 : gi w620 r = (fun _ => 0) := by rw [hw620]; exact f604
  have f657 : gr w620 r 0 = (r + 1) := by rw [hw620]; exact (sr_k (by decide)).trans f605
  have f658 : gr w620 r 1 = (r + 2) := by rw [hw620]; exact (sr_k (by decide)).trans f606
  have f659 : gr w620 r 2 = (r + 3) := by rw [hw620]; exact (sr_k (by decide)).trans f607
  have f660 : gr w620 r 3 = (r + 4) := by rw [hw620]; exact (sr_k (by decide)).trans f608
  have f661 : gr w620 r 6 = (r + 5) := by rw [hw620]; exact (sr_k (by decide)).trans f609
  have f662 : gr w620 r 9 = (r + 6) := by rw [hw620]; exact (sr_k (by decide)).trans f610
  have f663 : gr w620 r 10 = (r + 7) := by rw [hw620]; exact (sr_k (by decide)).trans f611
  have f664 : gr w620 r 12 = (r + 8) := by rw [hw620]; exact (sr_k (by decide)).trans f612
  have f665 : gr w620 r 13 = (r + 9) := by rw [hw620]; exact (sr_k (by decide)).trans f613
  have f666 : gr w620 r 14 = (r + 10) := by rw [hw620]; exact (sr_k (by decide)).trans f614
  have f667 : gr w620 r 16 = (r + 11) := by rw [hw620]; exact sr_e
  have n668 : nx w620 = r + 12 := by rw [hw620]; exact n616
  have u669 : uc w620 = uc w + 11 := by rw [hw620]; exact u617
  have s670 : us w620 = us w + 2923 := by rw [hw620]; exact s618
  have g671 : ∀ q, q < r → gi w620 q = gi w q ∧ gr w620 q = gr w q ∧ ty w620 q = ty w q ∧ ln w620 q = ln w q := fun q hq => by have a := A621 q (Nat.ne_of_lt (Nat.lt_of_lt_of_le hq (Nat.le_add_right r 0))); have b := g619 q hq; exact ⟨a.1.trans b.1, a.2.1.trans b.2.1, a.2.2.1.trans b.2.2.1, a.2.2.2.trans b.2.2.2⟩
  clear A621 e615 f573 f574 f575 f576 f577 f578 f579 f580 f581 f582 f583 f584 f585 f586 f587 f588 f589 f590 f591 f592 f593 f594 f595 f596 f597 f598 f599 f600 f601 f602 f603 f604 f605 f606 f607 f608 f609 f610 f611 f612 f613 f614 g619 hw620 n616 s618 u617
  refine WP.blk 1 ?_
  show WP 0 109 98 [vR r] [vR r] w620 Q
  refine WP.blk 1 ?_
  show (ty w620 r = 10 ∧ gr w620 r 0 ≠ 0) ∧ WP 0 109 101 [vR r] [vR (gr w620 r 0)] w620 Q
  refine ⟨⟨f655, by rw [f657]; exact Nat.succ_ne_zero _⟩, ?_⟩
  rw [f657]
  refine WP.blk 1 ?_
  show WP 0 109 102 [vR r] [vI 2, vR (r + 1)] w620 Q
  refine WP.blk 1 ?_
  show WP 0 109 104 [vR r] [vI 100, vI 2, vR (r + 1)] w620 Q
  refine WP.blk 1 ?_
  show (ty w620 (r + 1) = 11 ∧ 0 ≤ (2 : Int) ∧ (2 : Int) < (ln w620 (r + 1) : Int)) ∧ WP 0 109 105 [vR r] [] (si w620 (r + 1) 2 100) Q
  refine ⟨⟨f622, by decide, by rw [f623]; decide⟩, ?_⟩
  obtain ⟨w672, hw672⟩ : ∃ y9, y9 = si w620 (r + 1) 2 100 := ⟨_, rfl⟩
  rw [← hw672]
  have A673 : ∀ q, q ≠ r + 1 → gi w672 q = gi w620 q ∧ gr w672 q = gr w620 q ∧ ty w672 q = ty w620 q ∧ ln w672 q = ln w620 q := fun q hq => by rw [hw672]; exact si_o hq
  have f674 : ty w672 (r + 2) = 11 := (A673 _ (nek r 2 1 rfl)).2.2.1.trans f625
  have f675 : ln w672 (r + 2) = 780 := (A673 _ (nek r 2 1 rfl)).2.2.2.trans f626
  have f676 : gi w672 (r + 2) = (fun _ => 0) := (A673 _ (nek r 2 1 rfl)).1.trans f627
  have f677 : ty w672 (r + 3) = 11 := (A673 _ (nek r 3 1 rfl)).2.2.1.trans f628
  have f678 : ln w672 (r + 3) = 195 := (A673 _ (nek r 3 1 rfl)).2.2.2.trans f629
  have f679 : gi w672 (r + 3) = (fun _ => 0) := (A673 _ (nek r 3 1 rfl)).1.trans f630
  have f680 : ty w672 (r + 4) = 11 := (A673 _ (nek r 4 1 rfl)).2.2.1.trans f631
  have f681 : ln w672 (r + 4) = 195 := (A673 _ (nek r 4 1 rfl)).2.2.2.trans f632
  have f682 : gi w672 (r + 4) = (fun _ => 0) := (A673 _ (nek r 4 1 rfl)).1.trans f633
  have f683 : ty w672 (r + 5) = 11 := (A673 _ (nek r 5 1 rfl)).2.2.1.trans f634
  have f684 : ln w672 (r + 5) = 150 := (A673 _ (nek r 5 1 rfl)).2.2.2.trans f635
  have f685 : gi w672 (r + 5) = (fun _ => 0) := (A673 _ (nek r 5 1 rfl)).1.trans f636
  have f686 : ty w672 (r + 6) = 11 := (A673 _ (nek r 6 1 rfl)).2.2.1.trans f637
  have f687 : ln w672 (r + 6) = 13 := (A673 _ (nek r 6 1 rfl)).2.2.2.trans f638
  have f688 : gi w672 (r + 6) = (fun _ => 0) := (A673 _ (nek r 6 1 rfl)).1.trans f639
  have f689 : ty w672 (r + 7) = 11 := (A673 _ (nek r 7 1 rfl)).2.2.1.trans f640
  have f690 : ln w672 (r + 7) = 12 := (A673 _ (nek r 7 1 rfl)).2.2.2.trans f641
  have f691 : gi w672 (r + 7) = (fun _ => 0) := (A673 _ (nek r 7 1 rfl)).1.trans f642
  have f692 : ty w672 (r + 8) = 11 := (A673 _ (nek r 8 1 rfl)).2.2.1.trans f643
  have f693 : ln w672 (r + 8) = 7 := (A673 _ (nek r 8 1 rfl)).2.2.2.trans f644
  have f694 : gi w672 (r + 8) = (fun _ => 0) := (A673 _ (nek r 8 1 rfl)).1.trans f645
  have f695 : ty w672 (r + 9) = 11 := (A673 _ (nek r 9 1 rfl)).2.2.1.trans f646
  have f696 : ln w672 (r + 9) = 1365 := (A673 _ (nek r 9 1 rfl)).2.2.2.trans f647
  have f697 : gi w672 (r + 9) = (fun _ => 0) := (A673 _ (nek r 9 1 rfl)).1.trans f648
  have f698 : ty w672 (r + 10) = 11 := (A673 _ (nek r 10 1 rfl)).2.2.1.trans f649
  have f699 : ln w672 (r + 10) = 7 := (A673 _ (nek r 10 1 rfl)).2.2.2.trans f650
  have f700 : gi w672 (r + 10) = (fun _ => 0) := (A673 _ (nek r 10 1 rfl)).1.trans f651
  have f701 : ty w672 (r + 11) = 11 := (A673 _ (nek r 11 1 rfl)).2.2.1.trans f652
  have f702 : ln w672 (r + 11) = 4 := (A673 _ (nek r 11 1 rfl)).2.2.2.trans f653
  have f703 : gi w672 (r + 11) = (fun _ => 0) := (A673 _ (nek r 11 1 rfl)).1.trans f654
  have f704 : ty w672 r = 10 := (A673 _ (nek r 0 1 rfl)).2.2.1.trans f655
  have f705 : gi w672 r = (fun _ => 0) := (A673 _ (nek r 0 1 rfl)).1.trans f656
  have f706 : gr w672 r 0 = (r + 1) := (congrFun (A673 _ (nek r 0 1 rfl)).2.1 _).trans f657
  have f707 : gr w672 r 1 = (r + 2) := (congrFun (A673 _ (nek r 0 1 rfl)).2.1 _).trans f658
  have f708 : gr w672 r 2 = (r + 3) := (congrFun (A673 _ (nek r 0 1 rfl)).2.1 _).trans f659
  have f709 : gr w672 r 3 = (r + 4) := (congrFun (A673 _ (nek r 0 1 rfl)).2.1 _).trans f660
  have f710 : gr w672 r 6 = (r + 5) := (congrFun (A673 _ (nek r 0 1 rfl)).2.1 _).trans f661
  have f711 : gr w672 r 9 = (r + 6) := (congrFun (A673 _ (nek r 0 1 rfl)).2.1 _).trans f662
  have f712 : gr w672 r 10 = (r + 7) := (congrFun (A673 _ (nek r 0 1 rfl)).2.1 _).trans f663
  have f713 : gr w672 r 12 = (r + 8) := (congrFun (A673 _ (nek r 0 1 rfl)).2.1 _).trans f664
  have f714 : gr w672 r 13 = (r + 9) := (congrFun (A673 _ (nek r 0 1 rfl)).2.1 _).trans f665
  have f715 : gr w672 r 14 = (r + 10) := (congrFun (A673 _ (nek r 0 1 rfl)).2.1 _).trans f666
  have f716 : gr w672 r 16 = (r + 11) := (congrFun (A673 _ (nek r 0 1 rfl)).2.1 _).trans f667
  have f717 : ty w672 (r + 1) = 11 := by rw [hw672]; exact f622
  have f718 : ln w672 (r + 1) = 195 := by rw [hw672]; exact f623
  have f720 : gi w672 (r + 1) 0 = 0 := by rw [hw672]; exact (si_k (by decide)).trans (congrFun f624 _)
  have f721 : gi w672 (r + 1) 1 = 0 := by rw [hw672]; exact (si_k (by decide)).trans (congrFun f624 _)
  have f722 : gi w672 (r + 1) 3 = 0 := by rw [hw672]; exact (si_k (by decide)).trans (congrFun f624 _)
  have f723 : gi w672 (r + 1) 4 = 0 := by rw [hw672]; exact (si_k (by decide)).trans (congrFun f624 _)
  have f724 : gi w672 (r + 1) 5 = 0 := by rw [hw672]; exact (si_k (by decide)).trans (congrFun f624 _)
  have f725 : gi w672 (r + 1) 6 = 0 := by rw [hw672]; exact (si_k (by decide)).trans (congrFun f624 _)
  have f726 : gi w672 (r + 1) 7 = 0 := by rw [hw672]; exact (si_k (by decide)).trans (congrFun f624 _)
  have f727 : gi w672 (r + 1) 2 = 100 := by rw [hw672]; exact si_e
  have n728 : nx w672 = r + 12 := by rw [hw672]; exact n668
  have u729 : uc w672 = uc w + 11 := by rw [hw672]; exact u669
  have s730 : us w672 = us w + 2923 := by rw [hw672]; exact s670
  have g731 : ∀ q, q < r → gi w672 q = gi w q ∧ gr w672 q = gr w q ∧ ty w672 q = ty w q ∧ ln w672 q = ln w q := fun q hq => by have a := A673 q (Nat.ne_of_lt (Nat.lt_of_lt_of_le hq (Nat.le_add_right r 1))); have b := g671 q hq; exact ⟨a.1.trans b.1, a.2.1.trans b.2.1, a.2.2.1.trans b.2.2.1, a.2.2.2.trans b.2.2.2⟩
  clear A673 f622 f623 f624 f625 f626 f627 f628 f629 f630 f631 f632 f633 f634 f635 f636 f637 f638 f639 f640 f641 f642 f643 f644 f645 f646 f647 f648 f649 f650 f651 f652 f653 f654 f655 f656 f657 f658 f659 f660 f661 f662 f663 f664 f665 f666 f667 g671 hw672 n668 s670 u669
  refine WP.blk 1 ?_
  show WP 0 109 106 [vR r] [vR r] w672 Q
  refine WP.blk 1 ?_
  show (ty w672 r = 10 ∧ gr w672 r 0 ≠ 0) ∧ WP 0 109 109 [vR r] [vR (gr w672 r 0)] w672 Q
  refine ⟨⟨f704, by rw [f706]; exact Nat.succ_ne_zero _⟩, ?_⟩
  rw [f706]
  refine WP.blk 1 ?_
  show WP 0 109 110 [vR r] [vI 3, vR (r + 1)] w672 Q
  refine WP.blk 1 ?_
  show WP 0 109 111 [vR r] [vI 5, vI 3, vR (r + 1)] w672 Q
  refine WP.blk 1 ?_
  show (ty w672 (r + 1) = 11 ∧ 0 ≤ (3 : Int) ∧ (3 : Int) < (ln w672 (r + 1) : Int)) ∧ WP 0 109 112 [vR r] [] (si w672 (r + 1) 3 5) Q
  refine ⟨⟨f717, by decide, by rw [f718]; decide⟩, ?_⟩
  obtain ⟨w732, hw732⟩ : ∃ y9, y9 = si w672 (r + 1) 3 5 := ⟨_, rfl⟩
  rw [← hw732]
  have A733 : ∀ q, q ≠ r + 1 → gi w732 q = gi w672 q ∧ gr w732 q = gr w672 q ∧ ty w732 q = ty w672 q ∧ ln w732 q = ln w672 q := fun q hq => by rw [hw732]; exact si_o hq
  have f734 : ty w732 (r + 2) = 11 := (A733 _ (nek r 2 1 rfl)).2.2.1.trans f674
  have f735 : ln w732 (r + 2) = 780 := (A733 _ (nek r 2 1 rfl)).2.2.2.trans f675
  have f736 : gi w732 (r + 2) = (fun _ => 0) := (A733 _ (nek r 2 1 rfl)).1.trans f676
  have f737 : ty w732 (r + 3) = 11 := (A733 _ (nek r 3 1 rfl)).2.2.1.trans f677
  have f738 : ln w732 (r + 3) = 195 := (A733 _ (nek r 3 1 rfl)).2.2.2.trans f678
  have f739 : gi w732 (r + 3) = (fun _ => 0) := (A733 _ (nek r 3 1 rfl)).1.trans f679
  have f740 : ty w732 (r + 4) = 11 := (A733 _ (nek r 4 1 rfl)).2.2.1.trans f680
  have f741 : ln w732 (r + 4) = 195 := (A733 _ (nek r 4 1 rfl)).2.2.2.trans f681
  have f742 : gi w732 (r + 4) = (fun _ => 0) := (A733 _ (nek r 4 1 rfl)).1.trans f682
  have f743 : ty w732 (r + 5) = 11 := (A733 _ (nek r 5 1 rfl)).2.2.1.trans f683
  have f744 : ln w732 (r + 5) = 150 := (A733 _ (nek r 5 1 rfl)).2.2.2.trans f684
  have f745 : gi w732 (r + 5) = (fun _ => 0) := (A733 _ (nek r 5 1 rfl)).1.trans f685
  have f746 : ty w732 (r + 6) = 11 := (A733 _ (nek r 6 1 rfl)).2.2.1.trans f686
  have f747 : ln w732 (r + 6) = 13 := (A733 _ (nek r 6 1 rfl)).2.2.2.trans f687
  have f748 : gi w732 (r + 6) = (fun _ => 0) := (A733 _ (nek r 6 1 rfl)).1.trans f688
  have f749 : ty w732 (r + 7) = 11 := (A733 _ (nek r 7 1 rfl)).2.2.1.trans f689
  have f750 : ln w732 (r + 7) = 12 := (A733 _ (nek r 7 1 rfl)).2.2.2.trans f690
  have f751 : gi w732 (r + 7) = (fun _ => 0) := (A733 _ (nek r 7 1 rfl)).1.trans f691
  have f752 : ty w732 (r + 8) = 11 := (A733 _ (nek r 8 1 rfl)).2.2.1.trans f692
  have f753 : ln w732 (r + 8) = 7 := (A733 _ (nek r 8 1 rfl)).2.2.2.trans f693
  have f754 : gi w732 (r + 8) = (fun _ => 0) := (A733 _ (nek r 8 1 rfl)).1.trans f694
  have f755 : ty w732 (r + 9) = 11 := (A733 _ (nek r 9 1 rfl)).2.2.1.trans f695
  have f756 : ln w732 (r + 9) = 1365 := (A733 _ (nek r 9 1 rfl)).2.2.2.trans f696
  have f757 : gi w732 (r + 9) = (fun _ => 0) := (A733 _ (nek r 9 1 rfl)).1.trans f697
  have f758 : ty w732 (r + 10) = 11 := (A733 _ (nek r 10 1 rfl)).2.2.1.trans f698
  have f759 : ln w732 (r + 10) = 7 := (A733 _ (nek r 10 1 rfl)).2.2.2.trans f699
  have f760 : gi w732 (r + 10) = (fun _ => 0) := (A733 _ (nek r 10 1 rfl)).1.trans f700
  have f761 : ty w732 (r + 11) = 11 := (A733 _ (nek r 11 1 rfl)).2.2.1.trans f701
  have f762 : ln w732 (r + 11) = 4 := (A733 _ (nek r 11 1 rfl)).2.2.2.trans f702
  have f763 : gi w732 (r + 11) = (fun _ => 0) := (A733 _ (nek r 11 1 rfl)).1.trans f703
  have f764 : ty w732 r = 10 := (A733 _ (nek r 0 1 rfl)).2.2.1.trans f704
  have f765 : gi w732 r = (fun _ => 0) := (A733 _ (nek r 0 1 rfl)).1.trans f705
  have f766 : gr w732 r 0 = (r + 1) := (congrFun (A733 _ (nek r 0 1 rfl)).2.1 _).trans f706
  have f767 : gr w732 r 1 = (r + 2) := (congrFun (A733 _ (nek r 0 1 rfl)).2.1 _).trans f707
  have f768 : gr w732 r 2 = (r + 3) := (congrFun (A733 _ (nek r 0 1 rfl)).2.1 _).trans f708
  have f769 : gr w732 r 3 = (r + 4) := (congrFun (A733 _ (nek r 0 1 rfl)).2.1 _).trans f709
  have f770 : gr w732 r 6 = (r + 5) := (congrFun (A733 _ (nek r 0 1 rfl)).2.1 _).trans f710
  have f771 : gr w732 r 9 = (r + 6) := (congrFun (A733 _ (nek r 0 1 rfl)).2.1 _).trans f711
  have f772 : gr w732 r 10 = (r + 7) := (congrFun (A733 _ (nek r 0 1 rfl)).2.1 _).trans f712
  have f773 : gr w732 r 12 = (r + 8) := (congrFun (A733 _ (nek r 0 1 rfl)).2.1 _).trans f713
  have f774 : gr w732 r 13 = (r + 9) := (congrFun (A733 _ (nek r 0 1 rfl)).2.1 _).trans f714
  have f775 : gr w732 r 14 = (r + 10) := (congrFun (A733 _ (nek r 0 1 rfl)).2.1 _).trans f715
  have f776 : gr w732 r 16 = (r + 11) := (congrFun (A733 _ (nek r 0 1 rfl)).2.1 _).trans f716
  have f777 : ty w732 (r + 1) = 11 := by rw [hw732]; exact f717
  have f778 : ln w732 (r + 1) = 195 := by rw [hw732]; exact f718
  have f779 : gi w732 (r + 1) 0 = 0 := by rw [hw732]; exact (si_k (by decide)).trans f720
  have f780 : gi w732 (r + 1) 1 = 0 := by rw [hw732]; exact (si_k (by decide)).trans f721
  have f782 : gi w732 (r + 1) 4 = 0 := by rw [hw732]; exact (si_k (by decide)).trans f723
  have f783 : gi w732 (r + 1) 5 = 0 := by rw [hw732]; exact (si_k (by decide)).trans f724
  have f784 : gi w732 (r + 1) 6 = 0 := by rw [hw732]; exact (si_k (by decide)).trans f725
  have f785 : gi w732 (r + 1) 7 = 0 := by rw [hw732]; exact (si_k (by decide)).trans f726
  have f786 : gi w732 (r + 1) 2 = 100 := by rw [hw732]; exact (si_k (by decide)).trans f727
  have f787 : gi w732 (r + 1) 3 = 5 := by rw [hw732]; exact si_e
  have n788 : nx w732 = r + 12 := by rw [hw732]; exact n728
  have u789 : uc w732 = uc w + 11 := by rw [hw732]; exact u729
  have s790 : us w732 = us w + 2923 := by rw [hw732]; exact s730
  have g791 : ∀ q, q < r → gi w732 q = gi w q ∧ gr w732 q = gr w q ∧ ty w732 q = ty w q ∧ ln w732 q = ln w q := fun q hq => by have a := A733 q (Nat.ne_of_lt (Nat.lt_of_lt_of_le hq (Nat.le_add_right r 1))); have b := g731 q hq; exact ⟨a.1.trans b.1, a.2.1.trans b.2.1, a.2.2.1.trans b.2.2.1, a.2.2.2.trans b.2.2.2⟩
  clear A733 f674 f675 f676 f677 f678 f679 f680 f681 f682 f683 f684 f685 f686 f687 f688 f689 f690 f691 f692 f693 f694 f695 f696 f697 f698 f699 f700 f701 f702 f703 f704 f705 f706 f707 f708 f709 f710 f711 f712 f713 f714 f715 f716 f717 f718 f720 f721 f722 f723 f724 f725 f726 f727 g731 hw732 n728 s730 u729
  exact WP.ret rfl rfl rfl trivial (k _ (fun q _ hq => g791 q hq) n788 u789 s790 ⟨⟨f764, f766, f767, f768, f769, f770, f771, f772, f773, f774, f775, f776⟩, ⟨f777, f734, f737, f740, f743, f746, f749, f752, f755, f758, f761⟩, ⟨f778, f735, f738, f741, f744, f747, f750, f753, f756, f759, f762⟩⟩ ⟨f779, f780, f786, f787, f782, f783, f784⟩ (congrFun f765 4) (congrFun f765 7))
