set_option maxHeartbeats 4000000 in
theorem c_rows {w : Wd} {r : Nat} {a b : Int} (hn : nx w = r + 1) (ht : ty w r = 7) (hz : gi w r = (fun _ => 0)) (ha : a ≤ 10) (hb : b ≤ 12) {Q : Res → Wd → Prop} (k : ∀ w2, Ag w w2 0 r → nx w2 = r + 3 → uc w2 = uc w + 2 → us w2 = us w + 130 → isRows w2.2 r → gi w2 r 0 = a → gi w2 r 1 = b → gi w2 r 4 = 0 → Q (0, none) w2) : EvQ 1 40 [vR r, vI a, vI b] w Q := by
  refine EvQ.enter (ls := [vR r, vI a, vI b]) (Nat.le_of_ble_eq_true rfl) rfl ?_
  have hu0 : uc w = uc w + 0 := rfl
  have hs0 : us w = us w + 0 := rfl
  have hg0 : ∀ q, q < r → gi w q = gi w q ∧ gr w q = gr w q ∧ ty w q = ty w q ∧ ln w q = ln w q := fun _ _ => ⟨rfl, rfl, rfl, rfl⟩
  refine WP.blk 1 ?_
  show WP 0 40 1 [vR r, vI a, vI b] [vR r] w Q
  refine WP.blk 1 ?_
  show WP 0 40 4 [vR r, vI a, vI b] [] w Q
  refine WP.blk 1 ?_
  show WP 0 40 5 [vR r, vI a, vI b] [vR r] w Q
  refine WP.blk 1 ?_
  show WP 0 40 7 [vR r, vI a, vI b] [vI 10, vR r] w Q
  refine WP.blk 1 ?_
  show ((0 : Int) ≤ 10 ∧ (10 : Int) ≤ 100000) ∧ WP 0 40 9 [vR r, vI a, vI b] [vR (nx w), vR r] (mk w 11 10) Q
  refine ⟨⟨by decide, by decide⟩, ?_⟩
  rw [hn]
  obtain ⟨w1, hw1⟩ : ∃ y9, y9 = mk w 11 10 := ⟨_, rfl⟩
  rw [← hw1]
  have A2 : ∀ q, q ≠ r + 1 → gi w1 q = gi w q ∧ gr w1 q = gr w q ∧ ty w1 q = ty w q ∧ ln w1 q = ln w q := fun q hq => by rw [hw1]; exact mk_o (by rw [hn]; exact hq)
  have f3 : ty w1 r = 7 := (A2 _ (nek r 0 1 rfl)).2.2.1.trans ht
  have f4 : gi w1 r = (fun _ => 0) := (A2 _ (nek r 0 1 rfl)).1.trans hz
  have e5 := mk_e (w := w) (t := 11) (n := 10)
  rw [← hw1, hn] at e5
  have n6 : nx w1 = r + 2 := by rw [hw1]; exact congrArg (· + 1) hn
  have u7 : uc w1 = uc w + 1 := by rw [hw1]; exact congrArg (· + 1) hu0
  have s8 : us w1 = us w + 10 := by rw [hw1]; exact congrArg (· + 10) hs0
  have g9 : ∀ q, q < r → gi w1 q = gi w q ∧ gr w1 q = gr w q ∧ ty w1 q = ty w q ∧ ln w1 q = ln w q := fun q hq => by have a := A2 q (Nat.ne_of_lt (Nat.lt_of_lt_of_le hq (Nat.le_add_right r 1))); have b := hg0 q hq; exact ⟨a.1.trans b.1, a.2.1.trans b.2.1, a.2.2.1.trans b.2.2.1, a.2.2.2.trans b.2.2.2⟩
  clear A2 hg0 hs0 hu0 hw1
  refine WP.blk 1 ?_
  show ty w1 r = 7 ∧ WP 0 40 12 [vR r, vI a, vI b] [] (sr w1 r 2 (r + 1)) Q
  refine ⟨f3, ?_⟩
  obtain ⟨w10, hw10⟩ : ∃ y9, y9 = sr w1 r 2 (r + 1) := ⟨_, rfl⟩
  rw [← hw10]
  have A11 : ∀ q, q ≠ r → gi w10 q = gi w1 q ∧ gr w10 q = gr w1 q ∧ ty w10 q = ty w1 q ∧ ln w10 q = ln w1 q := fun q hq => by rw [hw10]; exact sr_o hq
  have f12 : ty w10 (r + 1) = 11 := (A11 _ (nek r 1 0 rfl)).2.2.1.trans e5.2.1
  have f13 : ln w10 (r + 1) = 10 := (A11 _ (nek r 1 0 rfl)).2.2.2.trans e5.2.2
  have f14 : gi w10 (r + 1) = (fun _ => 0) := (A11 _ (nek r 1 0 rfl)).1.trans e5.1
  have f15 : ty w10 r = 7 := by rw [hw10]; exact f3
  have f16 : gi w10 r = (fun _ => 0) := by rw [hw10]; exact f4
  have f17 : gr w10 r 2 = (r + 1) := by rw [hw10]; exact sr_e
  have n18 : nx w10 = r + 2 := by rw [hw10]; exact n6
  have u19 : uc w10 = uc w + 1 := by rw [hw10]; exact u7
  have s20 : us w10 = us w + 10 := by rw [hw10]; exact s8
  have g21 : ∀ q, q < r → gi w10 q = gi w q ∧ gr w10 q = gr w q ∧ ty w10 q = ty w q ∧ ln w10 q = ln w q := fun q hq => by have a := A11 q (Nat.ne_of_lt (Nat.lt_of_lt_of_le hq (Nat.le_add_right r 0))); have b := g9 q hq; exact ⟨a.1.trans b.1, a.2.1.trans b.2.1, a.2.2.1.trans b.2.2.1, a.2.2.2.trans b.2.2.2⟩
  clear A11 e5 f3 f4 g9 hw10 n6 s8 u7
  refine WP.blk 1 ?_
  show WP 0 40 13 [vR r, vI a, vI b] [vR r] w10 Q
  refine WP.blk 1 ?_
  show WP 0 40 15 [vR r, vI a, vI b] [vI 120, vR r] w10 Q
  refine WP.blk 1 ?_
  show ((0 : Int) ≤ 120 ∧ (120 : Int) ≤ 100000) ∧ WP 0 40 17 [vR r, vI a, vI b] [vR (nx w10), vR r] (mk w10 11 120) Q
  refine ⟨⟨by decide, by decide⟩, ?_⟩
  rw [n18]
  obtain ⟨w22, hw22⟩ : ∃ y9, y9 = mk w10 11 120 := ⟨_, rfl⟩
  rw [← hw22]
  have A23 : ∀ q, q ≠ r + 2 → gi w22 q = gi w10 q ∧ gr w22 q = gr w10 q ∧ ty w22 q = ty w10 q ∧ ln w22 q = ln w10 q := fun q hq => by rw [hw22]; exact mk_o (by rw [n18]; exact hq)
  have f24 : ty w22 (r + 1) = 11 := (A23 _ (nek r 1 2 rfl)).2.2.1.trans f12
  have f25 : ln w22 (r + 1) = 10 := (A23 _ (nek r 1 2 rfl)).2.2.2.trans f13
  have f26 : gi w22 (r + 1) = (fun _ => 0) := (A23 _ (nek r 1 2 rfl)).1.trans f14
  have f27 : ty w22 r = 7 := (A23 _ (nek r 0 2 rfl)).2.2.1.trans f15
  have f28 : gi w22 r = (fun _ => 0) := (A23 _ (nek r 0 2 rfl)).1.trans f16
  have f29 : gr w22 r 2 = (r + 1) := (congrFun (A23 _ (nek r 0 2 rfl)).2.1 _).trans f17
  have e30 := mk_e (w := w10) (t := 11) (n := 120)
  rw [← hw22, n18] at e30
  have n31 : nx w22 = r + 3 := by rw [hw22]; exact congrArg (· + 1) n18
  have u32 : uc w22 = uc w + 2 := by rw [hw22]; exact congrArg (· + 1) u19
  have s33 : us w22 = us w + 130 := by rw [hw22]; exact congrArg (· + 120) s20
  have g34 : ∀ q, q < r → gi w22 q = gi w q ∧ gr w22 q = gr w q ∧ ty w22 q = ty w q ∧ ln w22 q = ln w q := fun q hq => by have a := A23 q (Nat.ne_of_lt (Nat.lt_of_lt_of_le hq (Nat.le_add_right r 2))); have b := g21 q hq; exact ⟨a.1.trans b.1, a.2.1.trans b.2.1, a.2.2.1.trans b.2.2.1, a.2.2.2.trans b.2.2.2⟩
  clear A23 f12 f13 f14 f15 f16 f17 g21 hw22 n18 s20 u19
  refine WP.blk 1 ?_
  show ty w22 r = 7 ∧ WP 0 40 20 [vR r, vI a, vI b] [] (sr w22 r 3 (r + 2)) Q
  refine ⟨f27, ?_⟩
  obtain ⟨w35, hw35⟩ : ∃ y9, y9 = sr w22 r 3 (r + 2) := ⟨_, rfl⟩
  rw [← hw35]
  have A36 : ∀ q, q ≠ r → gi w35 q = gi w22 q ∧ gr w35 q = gr w22 q ∧ ty w35 q = ty w22 q ∧ ln w35 q = ln w22 q := fun q hq => by rw [hw35]; exact sr_o hq
  have f37 : ty w35 (r + 1) = 11 := (A36 _ (nek r 1 0 rfl)).2.2.1.trans f24
  have f38 : ln w35 (r + 1) = 10 := (A36 _ (nek r 1 0 rfl)).2.2.2.trans f25
  have f39 : gi w35 (r + 1) = (fun _ => 0) := (A36 _ (nek r 1 0 rfl)).1.trans f26
  have f40 : ty w35 (r + 2) = 11 := (A36 _ (nek r 2 0 rfl)).2.2.1.trans e30.2.1
  have f41 : ln w35 (r + 2) = 120 := (A36 _ (nek r 2 0 rfl)).2.2.2.trans e30.2.2
  have f42 : gi w35 (r + 2) = (fun _ => 0) := (A36 _ (nek r 2 0 rfl)).1.trans e30.1
  have f43 : ty w35 r = 7 := by rw [hw35]; exact f27
  have f44 : gi w35 r = (fun _ => 0) := by rw [hw35]; exact f28
  have f45 : gr w35 r 2 = (r + 1) := by rw [hw35]; exact (sr_k (by decide)).trans f29
  have f46 : gr w35 r 3 = (r + 2) := by rw [hw35]; exact sr_e
  have n47 : nx w35 = r + 3 := by rw [hw35]; exact n31
  have u48 : uc w35 = uc w + 2 := by rw [hw35]; exact u32
  have s49 : us w35 = us w + 130 := by rw [hw35]; exact s33
  have g50 : ∀ q, q < r → gi w35 q = gi w q ∧ gr w35 q = gr w q ∧ ty w35 q = ty w q ∧ ln w35 q = ln w q := fun q hq => by have a := A36 q (Nat.ne_of_lt (Nat.lt_of_lt_of_le hq (Nat.le_add_right r 0))); have b := g34 q hq; exact ⟨a.1.trans b.1, a.2.1.trans b.2.1, a.2.2.1.trans b.2.2.1, a.2.2.2.trans b.2.2.2⟩
  clear A36 e30 f24 f25 f26 f27 f28 f29 g34 hw35 n31 s33 u32
  refine WP.blk 1 ?_
  show WP 0 40 21 [vR r, vI a, vI b] [vR r] w35 Q
  refine WP.blk 1 ?_
  show WP 0 40 22 [vR r, vI a, vI b] [vI a, vR r] w35 Q
  refine WP.blk 1 ?_
  show WP 0 40 24 [vR r, vI a, vI b] [vI 10, vI a, vR r] w35 Q
  refine WP.blk 1 ?_
  show WP 0 40 27 [vR r, vI a, vI b] [vI (if 10 < a then 10 else a), vR r] w35 Q
  refine WP.blk 1 ?_
  show ty w35 r = 7 ∧ WP 0 40 30 [vR r, vI a, vI b] [] (si w35 r 0 (if 10 < a then 10 else a)) Q
  refine ⟨f43, ?_⟩
  obtain ⟨w51, hw51⟩ : ∃ y9, y9 = si w35 r 0 (if 10 < a then 10 else a) := ⟨_, rfl⟩
  rw [← hw51]
  have A52 : ∀ q, q ≠ r → gi w51 q = gi w35 q ∧ gr w51 q = gr w35 q ∧ ty w51 q = ty w35 q ∧ ln w51 q = ln w35 q := fun q hq => by rw [hw51]; exact si_o hq
  have f53 : ty w51 (r + 1) = 11 := (A52 _ (nek r 1 0 rfl)).2.2.1.trans f37
  have f54 : ln w51 (r + 1) = 10 := (A52 _ (nek r 1 0 rfl)).2.2.2.trans f38
  have f55 : gi w51 (r + 1) = (fun _ => 0) := (A52 _ (nek r 1 0 rfl)).1.trans f39
  have f56 : ty w51 (r + 2) = 11 := (A52 _ (nek r 2 0 rfl)).2.2.1.trans f40
  have f57 : ln w51 (r + 2) = 120 := (A52 _ (nek r 2 0 rfl)).2.2.2.trans f41
  have f58 : gi w51 (r + 2) = (fun _ => 0) := (A52 _ (nek r 2 0 rfl)).1.trans f42
  have f59 : ty w51 r = 7 := by rw [hw51]; exact f43
  have f61 : gi w51 r 1 = 0 := by rw [hw51]; exact (si_k (by decide)).trans (congrFun f44 _)
  have f62 : gi w51 r 2 = 0 := by rw [hw51]; exact (si_k (by decide)).trans (congrFun f44 _)
  have f63 : gi w51 r 3 = 0 := by rw [hw51]; exact (si_k (by decide)).trans (congrFun f44 _)
  have f64 : gi w51 r 4 = 0 := by rw [hw51]; exact (si_k (by decide)).trans (congrFun f44 _)
  have f65 : gi w51 r 5 = 0 := by rw [hw51]; exact (si_k (by decide)).trans (congrFun f44 _)
  have f66 : gi w51 r 6 = 0 := by rw [hw51]; exact (si_k (by decide)).trans (congrFun f44 _)
  have f67 : gi w51 r 7 = 0 := by rw [hw51]; exact (si_k (by decide)).trans (congrFun f44 _)
  have f68 : gr w51 r 2 = (r + 1) := by rw [hw51]; exact f45
  have f69 : gr w51 r 3 = (r + 2) := by rw [hw51]; exact f46
  have f70 : gi w51 r 0 = (if 10 < a then 10 else a) := by rw [hw51]; exact si_e
  have n71 : nx w51 = r + 3 := by rw [hw51]; exact n47
  have u72 : uc w51 = uc w + 2 := by rw [hw51]; exact u48
  have s73 : us w51 = us w + 130 := by rw [hw51]; exact s49
  have g74 : ∀ q, q < r → gi w51 q = gi w q ∧ gr w51 q = gr w q ∧ ty w51 q = ty w q ∧ ln w51 q = ln w q := fun q hq => by have a := A52 q (Nat.ne_of_lt (Nat.lt_of_lt_of_le hq (Nat.le_add_right r 0))); have b := g50 q hq; exact ⟨a.1.trans b.1, a.2.1.trans b.2.1, a.2.2.1.trans b.2.2.1, a.2.2.2.trans b.2.2.2⟩
  clear A52 f37 f38 f39 f40 f41 f42 f43 f44 f45 f46 g50 hw51 n47 s49 u48
  refine WP.blk 1 ?_
  show WP 0 40 31 [vR r, vI a, vI b] [vR r] w51 Q
  refine WP.blk 1 ?_
  show WP 0 40 32 [vR r, vI a, vI b] [vI b, vR r] w51 Q
  refine WP.blk 1 ?_
  show WP 0 40 34 [vR r, vI a, vI b] [vI 12, vI b, vR r] w51 Q
  refine WP.blk 1 ?_
  show WP 0 40 37 [vR r, vI a, vI b] [vI (if 12 < b then 12 else b), vR r] w51 Q
  refine WP.blk 1 ?_
  show ty w51 r = 7 ∧ WP 0 40 40 [vR r, vI a, vI b] [] (si w51 r 1 (if 12 < b then 12 else b)) Q
  refine ⟨f59, ?_⟩
  obtain ⟨w75, hw75⟩ : ∃ y9, y9 = si w51 r 1 (if 12 < b then 12 else b) := ⟨_, rfl⟩
  rw [← hw75]
  have A76 : ∀ q, q ≠ r → gi w75 q = gi w51 q ∧ gr w75 q = gr w51 q ∧ ty w75 q = ty w51 q ∧ ln w75 q = ln w51 q := fun q hq => by rw [hw75]; exact si_o hq
  have f77 : ty w75 (r + 1) = 11 := (A76 _ (nek r 1 0 rfl)).2.2.1.trans f53
  have f78 : ln w75 (r + 1) = 10 := (A76 _ (nek r 1 0 rfl)).2.2.2.trans f54
  have f79 : gi w75 (r + 1) = (fun _ => 0) := (A76 _ (nek r 1 0 rfl)).1.trans f55
  have f80 : ty w75 (r + 2) = 11 := (A76 _ (nek r 2 0 rfl)).2.2.1.trans f56
  have f81 : ln w75 (r + 2) = 120 := (A76 _ (nek r 2 0 rfl)).2.2.2.trans f57
  have f82 : gi w75 (r + 2) = (fun _ => 0) := (A76 _ (nek r 2 0 rfl)).1.trans f58
  have f83 : ty w75 r = 7 := by rw [hw75]; exact f59
  have f85 : gi w75 r 2 = 0 := by rw [hw75]; exact (si_k (by decide)).trans f62
  have f86 : gi w75 r 3 = 0 := by rw [hw75]; exact (si_k (by decide)).trans f63
  have f87 : gi w75 r 4 = 0 := by rw [hw75]; exact (si_k (by decide)).trans f64
  have f88 : gi w75 r 5 = 0 := by rw [hw75]; exact (si_k (by decide)).trans f65
  have f89 : gi w75 r 6 = 0 := by rw [hw75]; exact (si_k (by decide)).trans f66
  have f90 : gi w75 r 7 = 0 := by rw [hw75]; exact (si_k (by decide)).trans f67
  have f91 : gr w75 r 2 = (r + 1) := by rw [hw75]; exact f68
  have f92 : gr w75 r 3 = (r + 2) := by rw [hw75]; exact f69
  have f93 : gi w75 r 0 = (if 10 < a then 10 else a) := by rw [hw75]; exact (si_k (by decide)).trans f70
  have f94 : gi w75 r 1 = (if 12 < b then 12 else b) := by rw [hw75]; exact si_e
  have n95 : nx w75 = r + 3 := by rw [hw75]; exact n71
  have u96 : uc w75 = uc w + 2 := by rw [hw75]; exact u72
  have s97 : us w75 = us w + 130 := by rw [hw75]; exact s73
  have g98 : ∀ q, q < r → gi w75 q = gi w q ∧ gr w75 q = gr w q ∧ ty w75 q = ty w q ∧ ln w75 q = ln w q := fun q hq => by have a := A76 q (Nat.ne_of_lt (Nat.lt_of_lt_of_le hq (Nat.le_add_right r 0))); have b := g74 q hq; exact ⟨a.1.trans b.1, a.2.1.trans b.2.1, a.2.2.1.trans b.2.2.1, a.2.2.2.trans b.2.2.2⟩
  clear A76 f53 f54 f55 f56 f57 f58 f59 f61 f62 f63 f64 f65 f66 f67 f68 f69 f70 g74 hw75 n71 s73 u72
  exact WP.ret rfl rfl rfl trivial (k _ (fun q _ hq => g98 q hq) n95 u96 s97 ⟨f83, f91, f92, f77, f78, f80, f81⟩ (by rw [f93, if_neg (by omega)]) (by rw [f94, if_neg (by omega)]) f87)
set_option maxHeartbeats 4000000 in
theorem c_inks {w : Wd} {r : Nat} (hn : nx w = r + 1) (ht : ty w r = 4) (hz : gi w r = (fun _ => 0)) {Q : Res → Wd → Prop} (k : ∀ w2, Ag w w2 0 r → nx w2 = r + 4 → uc w2 = uc w + 3 → us w2 = us w + 30 → isInks w2.2 r → InkZ (gi w2) r → Q (0, none) w2) : EvQ 2 16 [vR r] w Q := by
  refine EvQ.enter (ls := [vR r]) (Nat.le_of_ble_eq_true rfl) rfl ?_
  have hu0 : uc w = uc w + 0 := rfl
  have hs0 : us w = us w + 0 := rfl
  have hg0 : ∀ q, q < r → gi w q = gi w q ∧ gr w q = gr w q ∧ ty w q = ty w q ∧ ln w q = ln w q := fun _ _ => ⟨rfl, rfl, rfl, rfl⟩
  refine WP.blk 1 ?_
  show WP 1 16 1 [vR r] [vR r] w Q
  refine WP.blk 1 ?_
  show WP 1 16 4 [vR r] [] w Q
  refine WP.blk 1 ?_
  show WP 1 16 5 [vR r] [vR r] w Q
  refine WP.blk 1 ?_
  show WP 1 16 7 [vR r] [vI 10, vR r] w Q
  refine WP.blk 1 ?_
  show ((0 : Int) ≤ 10 ∧ (10 : Int) ≤ 100000) ∧ WP 1 16 9 [vR r] [vR (nx w), vR r] (mk w 11 10) Q
  refine ⟨⟨by decide, by decide⟩, ?_⟩
  rw [hn]
  obtain ⟨w1, hw1⟩ : ∃ y9, y9 = mk w 11 10 := ⟨_, rfl⟩
  rw [← hw1]
  have A2 : ∀ q, q ≠ r + 1 → gi w1 q = gi w q ∧ gr w1 q = gr w q ∧ ty w1 q = ty w q ∧ ln w1 q = ln w q := fun q hq => by rw [hw1]; exact mk_o (by rw [hn]; exact hq)
  have f3 : ty w1 r = 4 := (A2 _ (nek r 0 1 rfl)).2.2.1.trans ht
  have f4 : gi w1 r = (fun _ => 0) := (A2 _ (nek r 0 1 rfl)).1.trans hz
  have e5 := mk_e (w := w) (t := 11) (n := 10)
  rw [← hw1, hn] at e5
  have n6 : nx w1 = r + 2 := by rw [hw1]; exact congrArg (· + 1) hn
  have u7 : uc w1 = uc w + 1 := by rw [hw1]; exact congrArg (· + 1) hu0
  have s8 : us w1 = us w + 10 := by rw [hw1]; exact congrArg (· + 10) hs0
  have g9 : ∀ q, q < r → gi w1 q = gi w q ∧ gr w1 q = gr w q ∧ ty w1 q = ty w q ∧ ln w1 q = ln w q := fun q hq => by have a := A2 q (Nat.ne_of_lt (Nat.lt_of_lt_of_le hq (Nat.le_add_right r 1))); have b := hg0 q hq; exact ⟨a.1.trans b.1, a.2.1.trans b.2.1, a.2.2.1.trans b.2.2.1, a.2.2.2.trans b.2.2.2⟩
  clear A2 hg0 hs0 hu0 hw1
  refine WP.blk 1 ?_
  show ty w1 r = 4 ∧ WP 1 16 12 [vR r] [] (sr w1 r 0 (r + 1)) Q
  refine ⟨f3, ?_⟩
  obtain ⟨w10, hw10⟩ : ∃ y9, y9 = sr w1 r 0 (r + 1) := ⟨_, rfl⟩
  rw [← hw10]
  have A11 : ∀ q, q ≠ r → gi w10 q = gi w1 q ∧ gr w10 q = gr w1 q ∧ ty w10 q = ty w1 q ∧ ln w10 q = ln w1 q := fun q hq => by rw [hw10]; exact sr_o hq
  have f12 : ty w10 (r + 1) = 11 := (A11 _ (nek r 1 0 rfl)).2.2.1.trans e5.2.1
  have f13 : ln w10 (r + 1) = 10 := (A11 _ (nek r 1 0 rfl)).2.2.2.trans e5.2.2
  have f14 : gi w10 (r + 1) = (fun _ => 0) := (A11 _ (nek r 1 0 rfl)).1.trans e5.1
  have f15 : ty w10 r = 4 := by rw [hw10]; exact f3
  have f16 : gi w10 r = (fun _ => 0) := by rw [hw10]; exact f4
  have f17 : gr w10 r 0 = (r + 1) := by rw [hw10]; exact sr_e
  have n18 : nx w10 = r + 2 := by rw [hw10]; exact n6
  have u19 : uc w10 = uc w + 1 := by rw [hw10]; exact u7
  have s20 : us w10 = us w + 10 := by rw [hw10]; exact s8
  have g21 : ∀ q, q < r → gi w10 q = gi w q ∧ gr w10 q = gr w q ∧ ty w10 q = ty w q ∧ ln w10 q = ln w q := fun q hq => by have a := A11 q (Nat.ne_of_lt (Nat.lt_of_lt_of_le hq (Nat.le_add_right r 0))); have b := g9 q hq; exact ⟨a.1.trans b.1, a.2.1.trans b.2.1, a.2.2.1.trans b.2.2.1, a.2.2.2.trans b.2.2.2⟩
  clear A11 e5 f3 f4 g9 hw10 n6 s8 u7
  refine WP.blk 1 ?_
  show WP 1 16 13 [vR r] [vR r] w10 Q
  refine WP.blk 1 ?_
  show WP 1 16 15 [vR r] [vI 10, vR r] w10 Q
  refine WP.blk 1 ?_
  show ((0 : Int) ≤ 10 ∧ (10 : Int) ≤ 100000) ∧ WP 1 16 17 [vR r] [vR (nx w10), vR r] (mk w10 11 10) Q
  refine ⟨⟨by decide, by decide⟩, ?_⟩
  rw [n18]
  obtain ⟨w22, hw22⟩ : ∃ y9, y9 = mk w10 11 10 := ⟨_, rfl⟩
  rw [← hw22]
  have A23 : ∀ q, q ≠ r + 2 → gi w22 q = gi w10 q ∧ gr w22 q = gr w10 q ∧ ty w22 q = ty w10 q ∧ ln w22 q = ln w10 q := fun q hq => by rw [hw22]; exact mk_o (by rw [n18]; exact hq)
  have f24 : ty w22 (r + 1) = 11 := (A23 _ (nek r 1 2 rfl)).2.2.1.trans f12
  have f25 : ln w22 (r + 1) = 10 := (A23 _ (nek r 1 2 rfl)).2.2.2.trans f13
  have f26 : gi w22 (r + 1) = (fun _ => 0) := (A23 _ (nek r 1 2 rfl)).1.trans f14
  have f27 : ty w22 r = 4 := (A23 _ (nek r 0 2 rfl)).2.2.1.trans f15
  have f28 : gi w22 r = (fun _ => 0) := (A23 _ (nek r 0 2 rfl)).1.trans f16
  have f29 : gr w22 r 0 = (r + 1) := (congrFun (A23 _ (nek r 0 2 rfl)).2.1 _).trans f17
  have e30 := mk_e (w := w10) (t := 11) (n := 10)
  rw [← hw22, n18] at e30
  have n31 : nx w22 = r + 3 := by rw [hw22]; exact congrArg (· + 1) n18
  have u32 : uc w22 = uc w + 2 := by rw [hw22]; exact congrArg (· + 1) u19
  have s33 : us w22 = us w + 20 := by rw [hw22]; exact congrArg (· + 10) s20
  have g34 : ∀ q, q < r → gi w22 q = gi w q ∧ gr w22 q = gr w q ∧ ty w22 q = ty w q ∧ ln w22 q = ln w q := fun q hq => by have a := A23 q (Nat.ne_of_lt (Nat.lt_of_lt_of_le hq (Nat.le_add_right r 2))); have b := g21 q hq; exact ⟨a.1.trans b.1, a.2.1.trans b.2.1, a.2.2.1.trans b.2.2.1, a.2.2.2.trans b.2.2.2⟩
  clear A23 f12 f13 f14 f15 f16 f17 g21 hw22 n18 s20 u19
  refine WP.blk 1 ?_
  show ty w22 r = 4 ∧ WP 1 16 20 [vR r] [] (sr w22 r 1 (r + 2)) Q
  refine ⟨f27, ?_⟩
  obtain ⟨w35, hw35⟩ : ∃ y9, y9 = sr w22 r 1 (r + 2) := ⟨_, rfl⟩
  rw [← hw35]
  have A36 : ∀ q, q ≠ r → gi w35 q = gi w22 q ∧ gr w35 q = gr w22 q ∧ ty w35 q = ty w22 q ∧ ln w35 q = ln w22 q := fun q hq => by rw [hw35]; exact sr_o hq
  have f37 : ty w35 (r + 1) = 11 := (A36 _ (nek r 1 0 rfl)).2.2.1.trans f24
  have f38 : ln w35 (r + 1) = 10 := (A36 _ (nek r 1 0 rfl)).2.2.2.trans f25
  have f39 : gi w35 (r + 1) = (fun _ => 0) := (A36 _ (nek r 1 0 rfl)).1.trans f26
  have f40 : ty w35 (r + 2) = 11 := (A36 _ (nek r 2 0 rfl)).2.2.1.trans e30.2.1
  have f41 : ln w35 (r + 2) = 10 := (A36 _ (nek r 2 0 rfl)).2.2.2.trans e30.2.2
  have f42 : gi w35 (r + 2) = (fun _ => 0) := (A36 _ (nek r 2 0 rfl)).1.trans e30.1
  have f43 : ty w35 r = 4 := by rw [hw35]; exact f27
  have f44 : gi w35 r = (fun _ => 0) := by rw [hw35]; exact f28
  have f45 : gr w35 r 0 = (r + 1) := by rw [hw35]; exact (sr_k (by decide)).trans f29
  have f46 : gr w35 r 1 = (r + 2) := by rw [hw35]; exact sr_e
  have n47 : nx w35 = r + 3 := by rw [hw35]; exact n31
  have u48 : uc w35 = uc w + 2 := by rw [hw35]; exact u32
  have s49 : us w35 = us w + 20 := by rw [hw35]; exact s33
  have g50 : ∀ q, q < r → gi w35 q = gi w q ∧ gr w35 q = gr w q ∧ ty w35 q = ty w q ∧ ln w35 q = ln w q := fun q hq => by have a := A36 q (Nat.ne_of_lt (Nat.lt_of_lt_of_le hq (Nat.le_add_right r 0))); have b := g34 q hq; exact ⟨a.1.trans b.1, a.2.1.trans b.2.1, a.2.2.1.trans b.2.2.1, a.2.2.2.trans b.2.2.2⟩
  clear A36 e30 f24 f25 f26 f27 f28 f29 g34 hw35 n31 s33 u32
  refine WP.blk 1 ?_
  show WP 1 16 21 [vR r] [vR r] w35 Q
  refine WP.blk 1 ?_
  show WP 1 16 23 [vR r] [vI 10, vR r] w35 Q
  refine WP.blk 1 ?_
  show ((0 : Int) ≤ 10 ∧ (10 : Int) ≤ 100000) ∧ WP 1 16 25 [vR r] [vR (nx w35), vR r] (mk w35 11 10) Q
  refine ⟨⟨by decide, by decide⟩, ?_⟩
  rw [n47]
  obtain ⟨w51, hw51⟩ : ∃ y9, y9 = mk w35 11 10 := ⟨_, rfl⟩
  rw [← hw51]
  have A52 : ∀ q, q ≠ r + 3 → gi w51 q = gi w35 q ∧ gr w51 q = gr w35 q ∧ ty w51 q = ty w35 q ∧ ln w51 q = ln w35 q := fun q hq => by rw [hw51]; exact mk_o (by rw [n47]; exact hq)
  have f53 : ty w51 (r + 1) = 11 := (A52 _ (nek r 1 3 rfl)).2.2.1.trans f37
  have f54 : ln w51 (r + 1) = 10 := (A52 _ (nek r 1 3 rfl)).2.2.2.trans f38
  have f55 : gi w51 (r + 1) = (fun _ => 0) := (A52 _ (nek r 1 3 rfl)).1.trans f39
  have f56 : ty w51 (r + 2) = 11 := (A52 _ (nek r 2 3 rfl)).2.2.1.trans f40
  have f57 : ln w51 (r + 2) = 10 := (A52 _ (nek r 2 3 rfl)).2.2.2.trans f41
  have f58 : gi w51 (r + 2) = (fun _ => 0) := (A52 _ (nek r 2 3 rfl)).1.trans f42
  have f59 : ty w51 r = 4 := (A52 _ (nek r 0 3 rfl)).2.2.1.trans f43
  have f60 : gi w51 r = (fun _ => 0) := (A52 _ (nek r 0 3 rfl)).1.trans f44
  have f61 : gr w51 r 0 = (r + 1) := (congrFun (A52 _ (nek r 0 3 rfl)).2.1 _).trans f45
  have f62 : gr w51 r 1 = (r + 2) := (congrFun (A52 _ (nek r 0 3 rfl)).2.1 _).trans f46
  have e63 := mk_e (w := w35) (t := 11) (n := 10)
  rw [← hw51, n47] at e63
  have n64 : nx w51 = r + 4 := by rw [hw51]; exact congrArg (· + 1) n47
  have u65 : uc w51 = uc w + 3 := by rw [hw51]; exact congrArg (· + 1) u48
  have s66 : us w51 = us w + 30 := by rw [hw51]; exact congrArg (· + 10) s49
  have g67 : ∀ q, q < r → gi w51 q = gi w q ∧ gr w51 q = gr w q ∧ ty w51 q = ty w q ∧ ln w51 q = ln w q := fun q hq => by have a := A52 q (Nat.ne_of_lt (Nat.lt_of_lt_of_le hq (Nat.le_add_right r 3))); have b := g50 q hq; exact ⟨a.1.trans b.1, a.2.1.trans b.2.1, a.2.2.1.trans b.2.2.1, a.2.2.2.trans b.2.2.2⟩
  clear A52 f37 f38 f39 f40 f41 f42 f43 f44 f45 f46 g50 hw51 n47 s49 u48
  refine WP.blk 1 ?_
  show ty w51 r = 4 ∧ WP 1 16 28 [vR r] [] (sr w51 r 2 (r + 3)) Q
  refine ⟨f59, ?_⟩
  obtain ⟨w68, hw68⟩ : ∃ y9, y9 = sr w51 r 2 (r + 3) := ⟨_, rfl⟩
  rw [← hw68]
  have A69 : ∀ q, q ≠ r → gi w68 q = gi w51 q ∧ gr w68 q = gr w51 q ∧ ty w68 q = ty w51 q ∧ ln w68 q = ln w51 q := fun q hq => by rw [hw68]; exact sr_o hq
  have f70 : ty w68 (r + 1) = 11 := (A69 _ (nek r 1 0 rfl)).2.2.1.trans f53
  have f71 : ln w68 (r + 1) = 10 := (A69 _ (nek r 1 0 rfl)).2.2.2.trans f54
  have f72 : gi w68 (r + 1) = (fun _ => 0) := (A69 _ (nek r 1 0 rfl)).1.trans f55
  have f73 : ty w68 (r + 2) = 11 := (A69 _ (nek r 2 0 rfl)).2.2.1.trans f56
  have f74 : ln w68 (r + 2) = 10 := (A69 _ (nek r 2 0 rfl)).2.2.2.trans f57
  have f75 : gi w68 (r + 2) = (fun _ => 0) := (A69 _ (nek r 2 0 rfl)).1.trans f58
  have f76 : ty w68 (r + 3) = 11 := (A69 _ (nek r 3 0 rfl)).2.2.1.trans e63.2.1
  have f77 : ln w68 (r + 3) = 10 := (A69 _ (nek r 3 0 rfl)).2.2.2.trans e63.2.2
  have f78 : gi w68 (r + 3) = (fun _ => 0) := (A69 _ (nek r 3 0 rfl)).1.trans e63.1
  have f79 : ty w68 r = 4 := by rw [hw68]; exact f59
  have f80 : gi w68 r = (fun _ => 0) := by rw [hw68]; exact f60
  have f81 : gr w68 r 0 = (r + 1) := by rw [hw68]; exact (sr_k (by decide)).trans f61
  have f82 : gr w68 r 1 = (r + 2) := by rw [hw68]; exact (sr_k (by decide)).trans f62
  have f83 : gr w68 r 2 = (r + 3) := by rw [hw68]; exact sr_e
  have n84 : nx w68 = r + 4 := by rw [hw68]; exact n64
  have u85 : uc w68 = uc w + 3 := by rw [hw68]; exact u65
  have s86 : us w68 = us w + 30 := by rw [hw68]; exact s66
  have g87 : ∀ q, q < r → gi w68 q = gi w q ∧ gr w68 q = gr w q ∧ ty w68 q = ty w q ∧ ln w68 q = ln w q := fun q hq => by have a := A69 q (Nat.ne_of_lt (Nat.lt_of_lt_of_le hq (Nat.le_add_right r 0))); have b := g67 q hq; exact ⟨a.1.trans b.1, a.2.1.trans b.2.1, a.2.2.1.trans b.2.2.1, a.2.2.2.trans b.2.2.2⟩
  clear A69 e63 f53 f54 f55 f56 f57 f58 f59 f60 f61 f62 g67 hw68 n64 s66 u65
  refine WP.blk 1 ?_
  show WP 1 16 29 [vR r] [vR r] w68 Q
  refine WP.blk 1 ?_
  show (ty w68 r = 4 ∧ gr w68 r 0 ≠ 0) ∧ WP 1 16 32 [vR r] [vR (gr w68 r 0)] w68 Q
  refine ⟨⟨f79, by rw [f81]; exact Nat.succ_ne_zero _⟩, ?_⟩
  rw [f81]
  refine WP.blk 1 ?_
  show WP 1 16 33 [vR r] [vI (-1), vR (r + 1)] w68 Q
  refine WP.cl (a := [vR (r + 1), vI (-1)]) (rest := []) rfl rfl rfl rfl trivial (by decide) (j_fill (M := gi w68) (S := w68.2) (n := 10) f70 f71 (by omega) (fun Mi90 fri90 hki90 => ⟨rfl, ?_⟩))
  obtain ⟨w88, hw88⟩ : ∃ y9 : Wd, y9 = (Mi90, w68.2) := ⟨_, rfl⟩
  rw [← hw88]
  show WP 1 16 36 [vR r] [] w88 Q
  have A89 : ∀ q, q ≠ r + 1 → gi w88 q = gi w68 q ∧ gr w88 q = gr w68 q ∧ ty w88 q = ty w68 q ∧ ln w88 q = ln w68 q := fun q hq => by rw [hw88]; exact ⟨fri90 q hq, rfl, rfl, rfl⟩
  have f91 : ty w88 (r + 2) = 11 := (A89 _ (nek r 2 1 rfl)).2.2.1.trans f73
  have f92 : ln w88 (r + 2) = 10 := (A89 _ (nek r 2 1 rfl)).2.2.2.trans f74
  have f93 : gi w88 (r + 2) = (fun _ => 0) := (A89 _ (nek r 2 1 rfl)).1.trans f75
  have f94 : ty w88 (r + 3) = 11 := (A89 _ (nek r 3 1 rfl)).2.2.1.trans f76
  have f95 : ln w88 (r + 3) = 10 := (A89 _ (nek r 3 1 rfl)).2.2.2.trans f77
  have f96 : gi w88 (r + 3) = (fun _ => 0) := (A89 _ (nek r 3 1 rfl)).1.trans f78
  have f97 : ty w88 r = 4 := (A89 _ (nek r 0 1 rfl)).2.2.1.trans f79
  have f98 : gi w88 r = (fun _ => 0) := (A89 _ (nek r 0 1 rfl)).1.trans f80
  have f99 : gr w88 r 0 = (r + 1) := (congrFun (A89 _ (nek r 0 1 rfl)).2.1 _).trans f81
  have f100 : gr w88 r 1 = (r + 2) := (congrFun (A89 _ (nek r 0 1 rfl)).2.1 _).trans f82
  have f101 : gr w88 r 2 = (r + 3) := (congrFun (A89 _ (nek r 0 1 rfl)).2.1 _).trans f83
  have f102 : ty w88 (r + 1) = 11 := by rw [hw88]; exact f70
  have f103 : ln w88 (r + 1) = 10 := by rw [hw88]; exact f71
  have hfl : gi w88 (r + 1) = fillR (gi w68 (r + 1)) (-1) 10 := by rw [hw88]; exact hki90
  have n104 : nx w88 = r + 4 := by rw [hw88]; exact n84
  have u105 : uc w88 = uc w + 3 := by rw [hw88]; exact u85
  have s106 : us w88 = us w + 30 := by rw [hw88]; exact s86
  have g107 : ∀ q, q < r → gi w88 q = gi w q ∧ gr w88 q = gr w q ∧ ty w88 q = ty w q ∧ ln w88 q = ln w q := fun q hq => by have a := A89 q (Nat.ne_of_lt (Nat.lt_of_lt_of_le hq (Nat.le_add_right r 1))); have b := g87 q hq; exact ⟨a.1.trans b.1, a.2.1.trans b.2.1, a.2.2.1.trans b.2.2.1, a.2.2.2.trans b.2.2.2⟩
  clear A89 f70 f71 f72 f73 f74 f75 f76 f77 f78 f79 f80 f81 f82 f83 fri90 g87 hki90 hw88 n84 s86 u85
  exact WP.ret rfl rfl rfl trivial (k _ (fun q _ hq => g107 q hq) n104 u105 s106 ⟨f97, f99, f100, f101, f102, f103, f91, f92, f94, f95⟩ ⟨⟨congrFun f98 3, congrFun f98 4, congrFun f98 5⟩, fun q q1 q2 => ⟨by rw [hfl]; unfold fillR; exact if_pos ⟨q1, q2⟩, congrFun f93 q, congrFun f96 q⟩⟩)
set_option maxHeartbeats 4000000 in
theorem c_fits {w : Wd} {r : Nat} (hn : nx w = r + 1) (ht : ty w r = 2) (hz : gi w r = (fun _ => 0)) {Q : Res → Wd → Prop} (k : ∀ w2, Ag w w2 0 r → nx w2 = r + 2 → uc w2 = uc w + 1 → us w2 = us w + 420 → isFits w2.2 r → Q (0, none) w2) : EvQ 1 5 [vR r] w Q := by
  refine EvQ.enter (ls := [vR r]) (Nat.le_of_ble_eq_true rfl) rfl ?_
  have hu0 : uc w = uc w + 0 := rfl
  have hs0 : us w = us w + 0 := rfl
  have hg0 : ∀ q, q < r → gi w q = gi w q ∧ gr w q = gr w q ∧ ty w q = ty w q ∧ ln w q = ln w q := fun _ _ => ⟨rfl, rfl, rfl, rfl⟩
  refine WP.blk 1 ?_
  show WP 0 5 1 [vR r] [vR r] w Q
  refine WP.blk 1 ?_
  show WP 0 5 4 [vR r] [] w Q
  refine WP.blk 1 ?_
  show WP 0 5 5 [vR r] [vR r] w Q
  refine WP.blk 1 ?_
  show WP 0 5 8 [vR r] [vI 420, vR r] w Q
  refine WP.blk 1 ?_
  show ((0 : Int) ≤ 420 ∧ (420 : Int) ≤ 100000) ∧ WP 0 5 10 [vR r] [vR (nx w), vR r] (mk w 11 420) Q
  refine ⟨⟨by decide, by decide⟩, ?_⟩
  rw [hn]
  obtain ⟨w1, hw1⟩ : ∃ y9, y9 = mk w 11 420 := ⟨_, rfl⟩
  rw [← hw1]
  have A2 : ∀ q, q ≠ r + 1 → gi w1 q = gi w q ∧ gr w1 q = gr w q ∧ ty w1 q = ty w q ∧ ln w1 q = ln w q := fun q hq => by rw [hw1]; exact mk_o (by rw [hn]; exact hq)
  have f3 : ty w1 r = 2 := (A2 _ (nek r 0 1 rfl)).2.2.1.trans ht
  have f4 : gi w1 r = (fun _ => 0) := (A2 _ (nek r 0 1 rfl)).1.trans hz
  have e5 := mk_e (w := w) (t := 11) (n := 420)
  rw [← hw1, hn] at e5
  have n6 : nx w1 = r + 2 := by rw [hw1]; exact congrArg (· + 1) hn
  have u7 : uc w1 = uc w + 1 := by rw [hw1]; exact congrArg (· + 1) hu0
  have s8 : us w1 = us w + 420 := by rw [hw1]; exact congrArg (· + 420) hs0
  have g9 : ∀ q, q < r → gi w1 q = gi w q ∧ gr w1 q = gr w q ∧ ty w1 q = ty w q ∧ ln w1 q = ln w q := fun q hq => by have a := A2 q (Nat.ne_of_lt (Nat.lt_of_lt_of_le hq (Nat.le_add_right r 1))); have b := hg0 q hq; exact ⟨a.1.trans b.1, a.2.1.trans b.2.1, a.2.2.1.trans b.2.2.1, a.2.2.2.trans b.2.2.2⟩
  clear A2 hg0 hs0 hu0 hw1
  refine WP.blk 1 ?_
  show ty w1 r = 2 ∧ WP 0 5 13 [vR r] [] (sr w1 r 0 (r + 1)) Q
  refine ⟨f3, ?_⟩
  obtain ⟨w10, hw10⟩ : ∃ y9, y9 = sr w1 r 0 (r + 1) := ⟨_, rfl⟩
  rw [← hw10]
  have A11 : ∀ q, q ≠ r → gi w10 q = gi w1 q ∧ gr w10 q = gr w1 q ∧ ty w10 q = ty w1 q ∧ ln w10 q = ln w1 q := fun q hq => by rw [hw10]; exact sr_o hq
  have f12 : ty w10 (r + 1) = 11 := (A11 _ (nek r 1 0 rfl)).2.2.1.trans e5.2.1
  have f13 : ln w10 (r + 1) = 420 := (A11 _ (nek r 1 0 rfl)).2.2.2.trans e5.2.2
  have f14 : gi w10 (r + 1) = (fun _ => 0) := (A11 _ (nek r 1 0 rfl)).1.trans e5.1
  have f15 : ty w10 r = 2 := by rw [hw10]; exact f3
  have f16 : gi w10 r = (fun _ => 0) := by rw [hw10]; exact f4
  have f17 : gr w10 r 0 = (r + 1) := by rw [hw10]; exact sr_e
  have n18 : nx w10 = r + 2 := by rw [hw10]; exact n6
  have u19 : uc w10 = uc w + 1 := by rw [hw10]; exact u7
  have s20 : us w10 = us w + 420 := by rw [hw10]; exact s8
  have g21 : ∀ q, q < r → gi w10 q = gi w q ∧ gr w10 q = gr w q ∧ ty w10 q = ty w q ∧ ln w10 q = ln w q := fun q hq => by have a := A11 q (Nat.ne_of_lt (Nat.lt_of_lt_of_le hq (Nat.le_add_right r 0))); have b := g9 q hq; exact ⟨a.1.trans b.1, a.2.1.trans b.2.1, a.2.2.1.trans b.2.2.1, a.2.2.2.trans b.2.2.2⟩
  clear A11 e5 f3 f4 g9 hw10 n6 s8 u7
  exact WP.ret rfl rfl rfl trivial (k _ (fun q _ hq => g21 q hq) n18 u19 s20 ⟨f15, f17, f12, f13⟩)
set_option maxHeartbeats 4000000 in
theorem c_plan {w : Wd} {r : Nat} (hn : nx w = r + 1) (ht : ty w r = 6) (hz : gi w r = (fun _ => 0)) {Q : Res → Wd → Prop} (k : ∀ w2, Ag w w2 0 r → nx w2 = r + 4 → uc w2 = uc w + 3 → us w2 = us w + 35 → isPlan w2.2 r → Q (0, none) w2) : EvQ 1 32 [vR r] w Q := by
  refine EvQ.enter (ls := [vR r]) (Nat.le_of_ble_eq_true rfl) rfl ?_
  have hu0 : uc w = uc w + 0 := rfl
  have hs0 : us w = us w + 0 := rfl
  have hg0 : ∀ q, q < r → gi w q = gi w q ∧ gr w q = gr w q ∧ ty w q = ty w q ∧ ln w q = ln w q := fun _ _ => ⟨rfl, rfl, rfl, rfl⟩
  refine WP.blk 1 ?_
  show WP 0 32 1 [vR r] [vR r] w Q
  refine WP.blk 1 ?_
  show WP 0 32 4 [vR r] [] w Q
  refine WP.blk 1 ?_
  show WP 0 32 5 [vR r] [vR r] w Q
  refine WP.blk 1 ?_
  show WP 0 32 7 [vR r] [vI 13, vR r] w Q
  refine WP.blk 1 ?_
  show ((0 : Int) ≤ 13 ∧ (13 : Int) ≤ 100000) ∧ WP 0 32 9 [vR r] [vR (nx w), vR r] (mk w 11 13) Q
  refine ⟨⟨by decide, by decide⟩, ?_⟩
  rw [hn]
  obtain ⟨w1, hw1⟩ : ∃ y9, y9 = mk w 11 13 := ⟨_, rfl⟩
  rw [← hw1]
  have A2 : ∀ q, q ≠ r + 1 → gi w1 q = gi w q ∧ gr w1 q = gr w q ∧ ty w1 q = ty w q ∧ ln w1 q = ln w q := fun q hq => by rw [hw1]; exact mk_o (by rw [hn]; exact hq)
  have f3 : ty w1 r = 6 := (A2 _ (nek r 0 1 rfl)).2.2.1.trans ht
  have f4 : gi w1 r = (fun _ => 0) := (A2 _ (nek r 0 1 rfl)).1.trans hz
  have e5 := mk_e (w := w) (t := 11) (n := 13)
  rw [← hw1, hn] at e5
  have n6 : nx w1 = r + 2 := by rw [hw1]; exact congrArg (· + 1) hn
  have u7 : uc w1 = uc w + 1 := by rw [hw1]; exact congrArg (· + 1) hu0
  have s8 : us w1 = us w + 13 := by rw [hw1]; exact congrArg (· + 13) hs0
  have g9 : ∀ q, q < r → gi w1 q = gi w q ∧ gr w1 q = gr w q ∧ ty w1 q = ty w q ∧ ln w1 q = ln w q := fun q hq => by have a := A2 q (Nat.ne_of_lt (Nat.lt_of_lt_of_le hq (Nat.le_add_right r 1))); have b := hg0 q hq; exact ⟨a.1.trans b.1, a.2.1.trans b.2.1, a.2.2.1.trans b.2.2.1, a.2.2.2.trans b.2.2.2⟩
  clear A2 hg0 hs0 hu0 hw1
  refine WP.blk 1 ?_
  show ty w1 r = 6 ∧ WP 0 32 12 [vR r] [] (sr w1 r 0 (r + 1)) Q
  refine ⟨f3, ?_⟩
  obtain ⟨w10, hw10⟩ : ∃ y9, y9 = sr w1 r 0 (r + 1) := ⟨_, rfl⟩
  rw [← hw10]
  have A11 : ∀ q, q ≠ r → gi w10 q = gi w1 q ∧ gr w10 q = gr w1 q ∧ ty w10 q = ty w1 q ∧ ln w10 q = ln w1 q := fun q hq => by rw [hw10]; exact sr_o hq
  have f12 : ty w10 (r + 1) = 11 := (A11 _ (nek r 1 0 rfl)).2.2.1.trans e5.2.1
  have f13 : ln w10 (r + 1) = 13 := (A11 _ (nek r 1 0 rfl)).2.2.2.trans e5.2.2
  have f14 : gi w10 (r + 1) = (fun _ => 0) := (A11 _ (nek r 1 0 rfl)).1.trans e5.1
  have f15 : ty w10 r = 6 := by rw [hw10]; exact f3
  have f16 : gi w10 r = (fun _ => 0) := by rw [hw10]; exact f4
  have f17 : gr w10 r 0 = (r + 1) := by rw [hw10]; exact sr_e
  have n18 : nx w10 = r + 2 := by rw [hw10]; exact n6
  have u19 : uc w10 = uc w + 1 := by rw [hw10]; exact u7
  have s20 : us w10 = us w + 13 := by rw [hw10]; exact s8
  have g21 : ∀ q, q < r → gi w10 q = gi w q ∧ gr w10 q = gr w q ∧ ty w10 q = ty w q ∧ ln w10 q = ln w q := fun q hq => by have a := A11 q (Nat.ne_of_lt (Nat.lt_of_lt_of_le hq (Nat.le_add_right r 0))); have b := g9 q hq; exact ⟨a.1.trans b.1, a.2.1.trans b.2.1, a.2.2.1.trans b.2.2.1, a.2.2.2.trans b.2.2.2⟩
  clear A11 e5 f3 f4 g9 hw10 n6 s8 u7
  refine WP.blk 1 ?_
  show WP 0 32 13 [vR r] [vR r] w10 Q
  refine WP.blk 1 ?_
  show WP 0 32 15 [vR r] [vI 12, vR r] w10 Q
  refine WP.blk 1 ?_
  show ((0 : Int) ≤ 12 ∧ (12 : Int) ≤ 100000) ∧ WP 0 32 17 [vR r] [vR (nx w10), vR r] (mk w10 11 12) Q
  refine ⟨⟨by decide, by decide⟩, ?_⟩
  rw [n18]
  obtain ⟨w22, hw22⟩ : ∃ y9, y9 = mk w10 11 12 := ⟨_, rfl⟩
  rw [← hw22]
  have A23 : ∀ q, q ≠ r + 2 → gi w22 q = gi w10 q ∧ gr w22 q = gr w10 q ∧ ty w22 q = ty w10 q ∧ ln w22 q = ln w10 q := fun q hq => by rw [hw22]; exact mk_o (by rw [n18]; exact hq)
  have f24 : ty w22 (r + 1) = 11 := (A23 _ (nek r 1 2 rfl)).2.2.1.trans f12
  have f25 : ln w22 (r + 1) = 13 := (A23 _ (nek r 1 2 rfl)).2.2.2.trans f13
  have f26 : gi w22 (r + 1) = (fun _ => 0) := (A23 _ (nek r 1 2 rfl)).1.trans f14
  have f27 : ty w22 r = 6 := (A23 _ (nek r 0 2 rfl)).2.2.1.trans f15
  have f28 : gi w22 r = (fun _ => 0) := (A23 _ (nek r 0 2 rfl)).1.trans f16
  have f29 : gr w22 r 0 = (r + 1) := (congrFun (A23 _ (nek r 0 2 rfl)).2.1 _).trans f17
  have e30 := mk_e (w := w10) (t := 11) (n := 12)
  rw [← hw22, n18] at e30
  have n31 : nx w22 = r + 3 := by rw [hw22]; exact congrArg (· + 1) n18
  have u32 : uc w22 = uc w + 2 := by rw [hw22]; exact congrArg (· + 1) u19
  have s33 : us w22 = us w + 25 := by rw [hw22]; exact congrArg (· + 12) s20
  have g34 : ∀ q, q < r → gi w22 q = gi w q ∧ gr w22 q = gr w q ∧ ty w22 q = ty w q ∧ ln w22 q = ln w q := fun q hq => by have a := A23 q (Nat.ne_of_lt (Nat.lt_of_lt_of_le hq (Nat.le_add_right r 2))); have b := g21 q hq; exact ⟨a.1.trans b.1, a.2.1.trans b.2.1, a.2.2.1.trans b.2.2.1, a.2.2.2.trans b.2.2.2⟩
  clear A23 f12 f13 f14 f15 f16 f17 g21 hw22 n18 s20 u19
  refine WP.blk 1 ?_
  show ty w22 r = 6 ∧ WP 0 32 20 [vR r] [] (sr w22 r 1 (r + 2)) Q
  refine ⟨f27, ?_⟩
  obtain ⟨w35, hw35⟩ : ∃ y9, y9 = sr w22 r 1 (r + 2) := ⟨_, rfl⟩
  rw [← hw35]
  have A36 : ∀ q, q ≠ r → gi w35 q = gi w22 q ∧ gr w35 q = gr w22 q ∧ ty w35 q = ty w22 q ∧ ln w35 q = ln w22 q := fun q hq => by rw [hw35]; exact sr_o hq
  have f37 : ty w35 (r + 1) = 11 := (A36 _ (nek r 1 0 rfl)).2.2.1.trans f24
  have f38 : ln w35 (r + 1) = 13 := (A36 _ (nek r 1 0 rfl)).2.2.2.trans f25
  have f39 : gi w35 (r + 1) = (fun _ => 0) := (A36 _ (nek r 1 0 rfl)).1.trans f26
  have f40 : ty w35 (r + 2) = 11 := (A36 _ (nek r 2 0 rfl)).2.2.1.trans e30.2.1
  have f41 : ln w35 (r + 2) = 12 := (A36 _ (nek r 2 0 rfl)).2.2.2.trans e30.2.2
  have f42 : gi w35 (r + 2) = (fun _ => 0) := (A36 _ (nek r 2 0 rfl)).1.trans e30.1
  have f43 : ty w35 r = 6 := by rw [hw35]; exact f27
  have f44 : gi w35 r = (fun _ => 0) := by rw [hw35]; exact f28
  have f45 : gr w35 r 0 = (r + 1) := by rw [hw35]; exact (sr_k (by decide)).trans f29
  have f46 : gr w35 r 1 = (r + 2) := by rw [hw35]; exact sr_e
  have n47 : nx w35 = r + 3 := by rw [hw35]; exact n31
  have u48 : uc w35 = uc w + 2 := by rw [hw35]; exact u32
  have s49 : us w35 = us w + 25 := by rw [hw35]; exact s33
  have g50 : ∀ q, q < r → gi w35 q = gi w q ∧ gr w35 q = gr w q ∧ ty w35 q = ty w q ∧ ln w35 q = ln w q := fun q hq => by have a := A36 q (Nat.ne_of_lt (Nat.lt_of_lt_of_le hq (Nat.le_add_right r 0))); have b := g34 q hq; exact ⟨a.1.trans b.1, a.2.1.trans b.2.1, a.2.2.1.trans b.2.2.1, a.2.2.2.trans b.2.2.2⟩
  clear A36 e30 f24 f25 f26 f27 f28 f29 g34 hw35 n31 s33 u32
  refine WP.blk 1 ?_
  show WP 0 32 21 [vR r] [vR r] w35 Q
  refine WP.blk 1 ?_
  show WP 0 32 23 [vR r] [vI 10, vR r] w35 Q
  refine WP.blk 1 ?_
  show ((0 : Int) ≤ 10 ∧ (10 : Int) ≤ 100000) ∧ WP 0 32 25 [vR r] [vR (nx w35), vR r] (mk w35 11 10) Q
  refine ⟨⟨by decide, by decide⟩, ?_⟩
  rw [n47]
  obtain ⟨w51, hw51⟩ : ∃ y9, y9 = mk w35 11 10 := ⟨_, rfl⟩
  rw [← hw51]
  have A52 : ∀ q, q ≠ r + 3 → gi w51 q = gi w35 q ∧ gr w51 q = gr w35 q ∧ ty w51 q = ty w35 q ∧ ln w51 q = ln w35 q := fun q hq => by rw [hw51]; exact mk_o (by rw [n47]; exact hq)
  have f53 : ty w51 (r + 1) = 11 := (A52 _ (nek r 1 3 rfl)).2.2.1.trans f37
  have f54 : ln w51 (r + 1) = 13 := (A52 _ (nek r 1 3 rfl)).2.2.2.trans f38
  have f55 : gi w51 (r + 1) = (fun _ => 0) := (A52 _ (nek r 1 3 rfl)).1.trans f39
  have f56 : ty w51 (r + 2) = 11 := (A52 _ (nek r 2 3 rfl)).2.2.1.trans f40
  have f57 : ln w51 (r + 2) = 12 := (A52 _ (nek r 2 3 rfl)).2.2.2.trans f41
  have f58 : gi w51 (r + 2) = (fun _ => 0) := (A52 _ (nek r 2 3 rfl)).1.trans f42
  have f59 : ty w51 r = 6 := (A52 _ (nek r 0 3 rfl)).2.2.1.trans f43
  have f60 : gi w51 r = (fun _ => 0) := (A52 _ (nek r 0 3 rfl)).1.trans f44
  have f61 : gr w51 r 0 = (r + 1) := (congrFun (A52 _ (nek r 0 3 rfl)).2.1 _).trans f45
  have f62 : gr w51 r 1 = (r + 2) := (congrFun (A52 _ (nek r 0 3 rfl)).2.1 _).trans f46
  have e63 := mk_e (w := w35) (t := 11) (n := 10)
  rw [← hw51, n47] at e63
  have n64 : nx w51 = r + 4 := by rw [hw51]; exact congrArg (· + 1) n47
  have u65 : uc w51 = uc w + 3 := by rw [hw51]; exact congrArg (· + 1) u48
  have s66 : us w51 = us w + 35 := by rw [hw51]; exact congrArg (· + 10) s49
  have g67 : ∀ q, q < r → gi w51 q = gi w q ∧ gr w51 q = gr w q ∧ ty w51 q = ty w q ∧ ln w51 q = ln w q := fun q hq => by have a := A52 q (Nat.ne_of_lt (Nat.lt_of_lt_of_le hq (Nat.le_add_right r 3))); have b := g50 q hq; exact ⟨a.1.trans b.1, a.2.1.trans b.2.1, a.2.2.1.trans b.2.2.1, a.2.2.2.trans b.2.2.2⟩
  clear A52 f37 f38 f39 f40 f41 f42 f43 f44 f45 f46 g50 hw51 n47 s49 u48
  refine WP.blk 1 ?_
  show ty w51 r = 6 ∧ WP 0 32 28 [vR r] [] (sr w51 r 2 (r + 3)) Q
  refine ⟨f59, ?_⟩
  obtain ⟨w68, hw68⟩ : ∃ y9, y9 = sr w51 r 2 (r + 3) := ⟨_, rfl⟩
  rw [← hw68]
  have A69 : ∀ q, q ≠ r → gi w68 q = gi w51 q ∧ gr w68 q = gr w51 q ∧ ty w68 q = ty w51 q ∧ ln w68 q = ln w51 q := fun q hq => by rw [hw68]; exact sr_o hq
  have f70 : ty w68 (r + 1) = 11 := (A69 _ (nek r 1 0 rfl)).2.2.1.trans f53
  have f71 : ln w68 (r + 1) = 13 := (A69 _ (nek r 1 0 rfl)).2.2.2.trans f54
  have f72 : gi w68 (r + 1) = (fun _ => 0) := (A69 _ (nek r 1 0 rfl)).1.trans f55
  have f73 : ty w68 (r + 2) = 11 := (A69 _ (nek r 2 0 rfl)).2.2.1.trans f56
  have f74 : ln w68 (r + 2) = 12 := (A69 _ (nek r 2 0 rfl)).2.2.2.trans f57
  have f75 : gi w68 (r + 2) = (fun _ => 0) := (A69 _ (nek r 2 0 rfl)).1.trans f58
  have f76 : ty w68 (r + 3) = 11 := (A69 _ (nek r 3 0 rfl)).2.2.1.trans e63.2.1
  have f77 : ln w68 (r + 3) = 10 := (A69 _ (nek r 3 0 rfl)).2.2.2.trans e63.2.2
  have f78 : gi w68 (r + 3) = (fun _ => 0) := (A69 _ (nek r 3 0 rfl)).1.trans e63.1
  have f79 : ty w68 r = 6 := by rw [hw68]; exact f59
  have f80 : gi w68 r = (fun _ => 0) := by rw [hw68]; exact f60
  have f81 : gr w68 r 0 = (r + 1) := by rw [hw68]; exact (sr_k (by decide)).trans f61
  have f82 : gr w68 r 1 = (r + 2) := by rw [hw68]; exact (sr_k (by decide)).trans f62
  have f83 : gr w68 r 2 = (r + 3) := by rw [hw68]; exact sr_e
  have n84 : nx w68 = r + 4 := by rw [hw68]; exact n64
  have u85 : uc w68 = uc w + 3 := by rw [hw68]; exact u65
  have s86 : us w68 = us w + 35 := by rw [hw68]; exact s66
  have g87 : ∀ q, q < r → gi w68 q = gi w q ∧ gr w68 q = gr w q ∧ ty w68 q = ty w q ∧ ln w68 q = ln w q := fun q hq => by have a := A69 q (Nat.ne_of_lt (Nat.lt_of_lt_of_le hq (Nat.le_add_right r 0))); have b := g67 q hq; exact ⟨a.1.trans b.1, a.2.1.trans b.2.1, a.2.2.1.trans b.2.2.1, a.2.2.2.trans b.2.2.2⟩
  clear A69 e63 f53 f54 f55 f56 f57 f58 f59 f60 f61 f62 g67 hw68 n64 s66 u65
  refine WP.blk 1 ?_
  show WP 0 32 29 [vR r] [vR r] w68 Q
  refine WP.blk 1 ?_
  show WP 0 32 30 [vR r] [vI (-1), vR r] w68 Q
  refine WP.blk 1 ?_
  show ty w68 r = 6 ∧ WP 0 32 33 [vR r] [] (si w68 r 3 (-1)) Q
  refine ⟨f79, ?_⟩
  obtain ⟨w88, hw88⟩ : ∃ y9, y9 = si w68 r 3 (-1) := ⟨_, rfl⟩
  rw [← hw88]
  have A89 : ∀ q, q ≠ r → gi w88 q = gi w68 q ∧ gr w88 q = gr w68 q ∧ ty w88 q = ty w68 q ∧ ln w88 q = ln w68 q := fun q hq => by rw [hw88]; exact si_o hq
  have f90 : ty w88 (r + 1) = 11 := (A89 _ (nek r 1 0 rfl)).2.2.1.trans f70
  have f91 : ln w88 (r + 1) = 13 := (A89 _ (nek r 1 0 rfl)).2.2.2.trans f71
  have f92 : gi w88 (r + 1) = (fun _ => 0) := (A89 _ (nek r 1 0 rfl)).1.trans f72
  have f93 : ty w88 (r + 2) = 11 := (A89 _ (nek r 2 0 rfl)).2.2.1.trans f73
  have f94 : ln w88 (r + 2) = 12 := (A89 _ (nek r 2 0 rfl)).2.2.2.trans f74
  have f95 : gi w88 (r + 2) = (fun _ => 0) := (A89 _ (nek r 2 0 rfl)).1.trans f75
  have f96 : ty w88 (r + 3) = 11 := (A89 _ (nek r 3 0 rfl)).2.2.1.trans f76
  have f97 : ln w88 (r + 3) = 10 := (A89 _ (nek r 3 0 rfl)).2.2.2.trans f77
  have f98 : gi w88 (r + 3) = (fun _ => 0) := (A89 _ (nek r 3 0 rfl)).1.trans f78
  have f99 : ty w88 r = 6 := by rw [hw88]; exact f79
  have f101 : gi w88 r 0 = 0 := by rw [hw88]; exact (si_k (by decide)).trans (congrFun f80 _)
  have f102 : gi w88 r 1 = 0 := by rw [hw88]; exact (si_k (by decide)).trans (congrFun f80 _)
  have f103 : gi w88 r 2 = 0 := by rw [hw88]; exact (si_k (by decide)).trans (congrFun f80 _)
  have f104 : gi w88 r 4 = 0 := by rw [hw88]; exact (si_k (by decide)).trans (congrFun f80 _)
  have f105 : gi w88 r 5 = 0 := by rw [hw88]; exact (si_k (by decide)).trans (congrFun f80 _)
  have f106 : gi w88 r 6 = 0 := by rw [hw88]; exact (si_k (by decide)).trans (congrFun f80 _)
  have f107 : gi w88 r 7 = 0 := by rw [hw88]; exact (si_k (by decide)).trans (congrFun f80 _)
  have f108 : gr w88 r 0 = (r + 1) := by rw [hw88]; exact f81
  have f109 : gr w88 r 1 = (r + 2) := by rw [hw88]; exact f82
  have f110 : gr w88 r 2 = (r + 3) := by rw [hw88]; exact f83
  have f111 : gi w88 r 3 = (-1) := by rw [hw88]; exact si_e
  have n112 : nx w88 = r + 4 := by rw [hw88]; exact n84
  have u113 : uc w88 = uc w + 3 := by rw [hw88]; exact u85
  have s114 : us w88 = us w + 35 := by rw [hw88]; exact s86
  have g115 : ∀ q, q < r → gi w88 q = gi w q ∧ gr w88 q = gr w q ∧ ty w88 q = ty w q ∧ ln w88 q = ln w q := fun q hq => by have a := A89 q (Nat.ne_of_lt (Nat.lt_of_lt_of_le hq (Nat.le_add_right r 0))); have b := g87 q hq; exact ⟨a.1.trans b.1, a.2.1.trans b.2.1, a.2.2.1.trans b.2.2.1, a.2.2.2.trans b.2.2.2⟩
  clear A89 f70 f71 f72 f73 f74 f75 f76 f77 f78 f79 f80 f81 f82 f83 g87 hw88 n84 s86 u85
  exact WP.ret rfl rfl rfl trivial (k _ (fun q _ hq => g115 q hq) n112 u113 s114 ⟨f99, f108, f109, f110, f90, f91, f93, f94, f96, f97⟩)
set_option maxHeartbeats 4000000 in
theorem c_sheet {w : Wd} {r : Nat} (hn : nx w = r + 1) (ht : ty w r = 8) (hz : gi w r = (fun _ => 0)) {Q : Res → Wd → Prop} (k : ∀ w2, Ag w w2 0 r → nx w2 = r + 12 → uc w2 = uc w + 11 → us w2 = us w + 313 → isSheet w2.2 r → ShZ (gi w2) r → Q (0, none) w2) : EvQ 3 51 [vR r] w Q := by
  refine EvQ.enter (ls := [vR r]) (Nat.le_of_ble_eq_true rfl) rfl ?_
  have hu0 : uc w = uc w + 0 := rfl
  have hs0 : us w = us w + 0 := rfl
  have hg0 : ∀ q, q < r → gi w q = gi w q ∧ gr w q = gr w q ∧ ty w q = ty w q ∧ ln w q = ln w q := fun _ _ => ⟨rfl, rfl, rfl, rfl⟩
  refine WP.blk 1 ?_
  show WP 2 51 1 [vR r] [vR r] w Q
  refine WP.blk 1 ?_
  show WP 2 51 4 [vR r] [] w Q
  refine WP.blk 1 ?_
  show WP 2 51 5 [vR r] [vR r] w Q
  refine WP.blk 1 ?_
  show WP 2 51 8 [vR r] [vR (nx w), vR r] (mk w 7 5) Q
  rw [hn]
  obtain ⟨w1, hw1⟩ : ∃ y9, y9 = mk w 7 5 := ⟨_, rfl⟩
  rw [← hw1]
  have A2 : ∀ q, q ≠ r + 1 → gi w1 q = gi w q ∧ gr w1 q = gr w q ∧ ty w1 q = ty w q ∧ ln w1 q = ln w q := fun q hq => by rw [hw1]; exact mk_o (by rw [hn]; exact hq)
  have f3 : ty w1 r = 8 := (A2 _ (nek r 0 1 rfl)).2.2.1.trans ht
  have f4 : gi w1 r = (fun _ => 0) := (A2 _ (nek r 0 1 rfl)).1.trans hz
  have e5 := mk_e (w := w) (t := 7) (n := 5)
  rw [← hw1, hn] at e5
  have n6 : nx w1 = r + 2 := by rw [hw1]; exact congrArg (· + 1) hn
  have u7 : uc w1 = uc w + 1 := by rw [hw1]; exact congrArg (· + 1) hu0
  have s8 : us w1 = us w + 5 := by rw [hw1]; exact congrArg (· + 5) hs0
  have g9 : ∀ q, q < r → gi w1 q = gi w q ∧ gr w1 q = gr w q ∧ ty w1 q = ty w q ∧ ln w1 q = ln w q := fun q hq => by have a := A2 q (Nat.ne_of_lt (Nat.lt_of_lt_of_le hq (Nat.le_add_right r 1))); have b := hg0 q hq; exact ⟨a.1.trans b.1, a.2.1.trans b.2.1, a.2.2.1.trans b.2.2.1, a.2.2.2.trans b.2.2.2⟩
  clear A2 hg0 hs0 hu0 hw1
  refine WP.blk 1 ?_
  show WP 2 51 9 [vR r] [vR (r + 1), vR (r + 1), vR r] w1 Q
  refine WP.blk 1 ?_
  show WP 2 51 11 [vR r] [vI 10, vR (r + 1), vR (r + 1), vR r] w1 Q
  refine WP.blk 1 ?_
  show WP 2 51 12 [vR r] [vI 5, vI 10, vR (r + 1), vR (r + 1), vR r] w1 Q
  refine WP.cl (a := [vR (r + 1), vI 10, vI 5]) (rest := [vR (r + 1), vR r]) rfl rfl rfl rfl trivial (by decide) (c_rows n6 e5.2.1 e5.1 (by omega) (by omega) (fun w10 hA11 hni12 hui12 hsi12 f13 f14 f15 f16 => ⟨rfl, ?_⟩))
  show WP 2 51 15 [vR r] [vR (r + 1), vR r] w10 Q
  have A11 : ∀ q, q < r + 1 → gi w10 q = gi w1 q ∧ gr w10 q = gr w1 q ∧ ty w10 q = ty w1 q ∧ ln w10 q = ln w1 q := fun q hq => hA11 q (Nat.zero_le _) hq
  have f17 : ty w10 r = 8 := (A11 _ (ltk r 0 1 rfl)).2.2.1.trans f3
  have f18 : gi w10 r = (fun _ => 0) := (A11 _ (ltk r 0 1 rfl)).1.trans f4
  have ni12 : nx w10 = r + 4 := hni12
  have ui12 : uc w10 = uc w + 3 := hui12.trans (congrArg (· + 2) u7)
  have si12 : us w10 = us w + 135 := hsi12.trans (congrArg (· + 130) s8)
  have g19 : ∀ q, q < r → gi w10 q = gi w q ∧ gr w10 q = gr w q ∧ ty w10 q = ty w q ∧ ln w10 q = ln w q := fun q hq => by have a := A11 q (Nat.lt_of_lt_of_le hq (Nat.le_add_right r 1)); have b := g9 q hq; exact ⟨a.1.trans b.1, a.2.1.trans b.2.1, a.2.2.1.trans b.2.2.1, a.2.2.2.trans b.2.2.2⟩
  clear A11 e5 f3 f4 g9 hA11 hni12 hsi12 hui12 n6 s8 u7
  refine WP.blk 1 ?_
  show ty w10 r = 8 ∧ WP 2 51 18 [vR r] [] (sr w10 r 0 (r + 1)) Q
  refine ⟨f17, ?_⟩
  obtain ⟨w20, hw20⟩ : ∃ y9, y9 = sr w10 r 0 (r + 1) := ⟨_, rfl⟩
  rw [← hw20]
  have A21 : ∀ q, q ≠ r → gi w20 q = gi w10 q ∧ gr w20 q = gr w10 q ∧ ty w20 q = ty w10 q ∧ ln w20 q = ln w10 q := fun q hq => by rw [hw20]; exact sr_o hq
  have f22 : isRows w20.2 (r + 1) := rows_ag (fun q a b => A21 q (Nat.ne_of_gt (Nat.lt_of_lt_of_le (ltk r 0 1 rfl) a))) f13
  have f23 : gi w20 (r + 1) 0 = 10 := (congrFun (A21 _ (nek r 1 0 rfl)).1 _).trans f14
  have f24 : gi w20 (r + 1) 1 = 5 := (congrFun (A21 _ (nek r 1 0 rfl)).1 _).trans f15
  have f25 : gi w20 (r + 1) 4 = 0 := (congrFun (A21 _ (nek r 1 0 rfl)).1 _).trans f16
  have f26 : ty w20 r = 8 := by rw [hw20]; exact f17
  have f27 : gi w20 r = (fun _ => 0) := by rw [hw20]; exact f18
  have f28 : gr w20 r 0 = (r + 1) := by rw [hw20]; exact sr_e
  have n29 : nx w20 = r + 4 := by rw [hw20]; exact ni12
  have u30 : uc w20 = uc w + 3 := by rw [hw20]; exact ui12
  have s31 : us w20 = us w + 135 := by rw [hw20]; exact si12
  have g32 : ∀ q, q < r → gi w20 q = gi w q ∧ gr w20 q = gr w q ∧ ty w20 q = ty w q ∧ ln w20 q = ln w q := fun q hq => by have a := A21 q (Nat.ne_of_lt (Nat.lt_of_lt_of_le hq (Nat.le_add_right r 0))); have b := g19 q hq; exact ⟨a.1.trans b.1, a.2.1.trans b.2.1, a.2.2.1.trans b.2.2.1, a.2.2.2.trans b.2.2.2⟩
  clear A21 f13 f14 f15 f16 f17 f18 g19 hw20 ni12 si12 ui12
  refine WP.blk 1 ?_
  show WP 2 51 19 [vR r] [vR r] w20 Q
  refine WP.blk 1 ?_
  show WP 2 51 22 [vR r] [vR (nx w20), vR r] (mk w20 7 5) Q
  rw [n29]
  obtain ⟨w33, hw33⟩ : ∃ y9, y9 = mk w20 7 5 := ⟨_, rfl⟩
  rw [← hw33]
  have A34 : ∀ q, q ≠ r + 4 → gi w33 q = gi w20 q ∧ gr w33 q = gr w20 q ∧ ty w33 q = ty w20 q ∧ ln w33 q = ln w20 q := fun q hq => by rw [hw33]; exact mk_o (by rw [n29]; exact hq)
  have f35 : isRows w33.2 (r + 1) := rows_ag (fun q a b => A34 q (Nat.ne_of_lt (Nat.lt_of_lt_of_le b (lek r 1 3 4 rfl)))) f22
  have f36 : gi w33 (r + 1) 0 = 10 := (congrFun (A34 _ (nek r 1 4 rfl)).1 _).trans f23
  have f37 : gi w33 (r + 1) 1 = 5 := (congrFun (A34 _ (nek r 1 4 rfl)).1 _).trans f24
  have f38 : gi w33 (r + 1) 4 = 0 := (congrFun (A34 _ (nek r 1 4 rfl)).1 _).trans f25
  have f39 : ty w33 r = 8 := (A34 _ (nek r 0 4 rfl)).2.2.1.trans f26
  have f40 : gi w33 r = (fun _ => 0) := (A34 _ (nek r 0 4 rfl)).1.trans f27
  have f41 : gr w33 r 0 = (r + 1) := (congrFun (A34 _ (nek r 0 4 rfl)).2.1 _).trans f28
  have e42 := mk_e (w := w20) (t := 7) (n := 5)
  rw [← hw33, n29] at e42
  have n43 : nx w33 = r + 5 := by rw [hw33]; exact congrArg (· + 1) n29
  have u44 : uc w33 = uc w + 4 := by rw [hw33]; exact congrArg (· + 1) u30
  have s45 : us w33 = us w + 140 := by rw [hw33]; exact congrArg (· + 5) s31
  have g46 : ∀ q, q < r → gi w33 q = gi w q ∧ gr w33 q = gr w q ∧ ty w33 q = ty w q ∧ ln w33 q = ln w q := fun q hq => by have a := A34 q (Nat.ne_of_lt (Nat.lt_of_lt_of_le hq (Nat.le_add_right r 4))); have b := g32 q hq; exact ⟨a.1.trans b.1, a.2.1.trans b.2.1, a.2.2.1.trans b.2.2.1, a.2.2.2.trans b.2.2.2⟩
  clear A34 f22 f23 f24 f25 f26 f27 f28 g32 hw33 n29 s31 u30
  refine WP.blk 1 ?_
  show WP 2 51 23 [vR r] [vR (r + 4), vR (r + 4), vR r] w33 Q
  refine WP.blk 1 ?_
  show WP 2 51 25 [vR r] [vI 7, vR (r + 4), vR (r + 4), vR r] w33 Q
  refine WP.blk 1 ?_
  show WP 2 51 27 [vR r] [vI 12, vI 7, vR (r + 4), vR (r + 4), vR r] w33 Q
  refine WP.cl (a := [vR (r + 4), vI 7, vI 12]) (rest := [vR (r + 4), vR r]) rfl rfl rfl rfl trivial (by decide) (c_rows n43 e42.2.1 e42.1 (by omega) (by omega) (fun w47 hA48 hni49 hui49 hsi49 f50 f51 f52 f53 => ⟨rfl, ?_⟩))
  show WP 2 51 30 [vR r] [vR (r + 4), vR r] w47 Q
  have A48 : ∀ q, q < r + 4 → gi w47 q = gi w33 q ∧ gr w47 q = gr w33 q ∧ ty w47 q = ty w33 q ∧ ln w47 q = ln w33 q := fun q hq => hA48 q (Nat.zero_le _) hq
  have f54 : isRows w47.2 (r + 1) := rows_ag (fun q a b => A48 q (Nat.lt_of_lt_of_le b (lek r 1 3 4 rfl))) f35
  have f55 : gi w47 (r + 1) 0 = 10 := (congrFun (A48 _ (ltk r 1 4 rfl)).1 _).trans f36
  have f56 : gi w47 (r + 1) 1 = 5 := (congrFun (A48 _ (ltk r 1 4 rfl)).1 _).trans f37
  have f57 : gi w47 (r + 1) 4 = 0 := (congrFun (A48 _ (ltk r 1 4 rfl)).1 _).trans f38
  have f58 : ty w47 r = 8 := (A48 _ (ltk r 0 4 rfl)).2.2.1.trans f39
  have f59 : gi w47 r = (fun _ => 0) := (A48 _ (ltk r 0 4 rfl)).1.trans f40
  have f60 : gr w47 r 0 = (r + 1) := (congrFun (A48 _ (ltk r 0 4 rfl)).2.1 _).trans f41
  have ni49 : nx w47 = r + 7 := hni49
  have ui49 : uc w47 = uc w + 6 := hui49.trans (congrArg (· + 2) u44)
  have si49 : us w47 = us w + 270 := hsi49.trans (congrArg (· + 130) s45)
  have g61 : ∀ q, q < r → gi w47 q = gi w q ∧ gr w47 q = gr w q ∧ ty w47 q = ty w q ∧ ln w47 q = ln w q := fun q hq => by have a := A48 q (Nat.lt_of_lt_of_le hq (Nat.le_add_right r 4)); have b := g46 q hq; exact ⟨a.1.trans b.1, a.2.1.trans b.2.1, a.2.2.1.trans b.2.2.1, a.2.2.2.trans b.2.2.2⟩
  clear A48 e42 f35 f36 f37 f38 f39 f40 f41 g46 hA48 hni49 hsi49 hui49 n43 s45 u44
  refine WP.blk 1 ?_
  show ty w47 r = 8 ∧ WP 2 51 33 [vR r] [] (sr w47 r 1 (r + 4)) Q
  refine ⟨f58, ?_⟩
  obtain ⟨w62, hw62⟩ : ∃ y9, y9 = sr w47 r 1 (r + 4) := ⟨_, rfl⟩
  rw [← hw62]
  have A63 : ∀ q, q ≠ r → gi w62 q = gi w47 q ∧ gr w62 q = gr w47 q ∧ ty w62 q = ty w47 q ∧ ln w62 q = ln w47 q := fun q hq => by rw [hw62]; exact sr_o hq
  have f64 : isRows w62.2 (r + 1) := rows_ag (fun q a b => A63 q (Nat.ne_of_gt (Nat.lt_of_lt_of_le (ltk r 0 1 rfl) a))) f54
  have f65 : gi w62 (r + 1) 0 = 10 := (congrFun (A63 _ (nek r 1 0 rfl)).1 _).trans f55
  have f66 : gi w62 (r + 1) 1 = 5 := (congrFun (A63 _ (nek r 1 0 rfl)).1 _).trans f56
  have f67 : gi w62 (r + 1) 4 = 0 := (congrFun (A63 _ (nek r 1 0 rfl)).1 _).trans f57
  have f68 : isRows w62.2 (r + 4) := rows_ag (fun q a b => A63 q (Nat.ne_of_gt (Nat.lt_of_lt_of_le (ltk r 0 4 rfl) a))) f50
  have f69 : gi w62 (r + 4) 0 = 7 := (congrFun (A63 _ (nek r 4 0 rfl)).1 _).trans f51
  have f70 : gi w62 (r + 4) 1 = 12 := (congrFun (A63 _ (nek r 4 0 rfl)).1 _).trans f52
  have f71 : gi w62 (r + 4) 4 = 0 := (congrFun (A63 _ (nek r 4 0 rfl)).1 _).trans f53
  have f72 : ty w62 r = 8 := by rw [hw62]; exact f58
  have f73 : gi w62 r = (fun _ => 0) := by rw [hw62]; exact f59
  have f74 : gr w62 r 0 = (r + 1) := by rw [hw62]; exact (sr_k (by decide)).trans f60
  have f75 : gr w62 r 1 = (r + 4) := by rw [hw62]; exact sr_e
  have n76 : nx w62 = r + 7 := by rw [hw62]; exact ni49
  have u77 : uc w62 = uc w + 6 := by rw [hw62]; exact ui49
  have s78 : us w62 = us w + 270 := by rw [hw62]; exact si49
  have g79 : ∀ q, q < r → gi w62 q = gi w q ∧ gr w62 q = gr w q ∧ ty w62 q = ty w q ∧ ln w62 q = ln w q := fun q hq => by have a := A63 q (Nat.ne_of_lt (Nat.lt_of_lt_of_le hq (Nat.le_add_right r 0))); have b := g61 q hq; exact ⟨a.1.trans b.1, a.2.1.trans b.2.1, a.2.2.1.trans b.2.2.1, a.2.2.2.trans b.2.2.2⟩
  clear A63 f50 f51 f52 f53 f54 f55 f56 f57 f58 f59 f60 g61 hw62 ni49 si49 ui49
  refine WP.blk 1 ?_
  show WP 2 51 34 [vR r] [vR r] w62 Q
  refine WP.blk 1 ?_
  show WP 2 51 36 [vR r] [vI 7, vR r] w62 Q
  refine WP.blk 1 ?_
  show ((0 : Int) ≤ 7 ∧ (7 : Int) ≤ 100000) ∧ WP 2 51 38 [vR r] [vR (nx w62), vR r] (mk w62 11 7) Q
  refine ⟨⟨by decide, by decide⟩, ?_⟩
  rw [n76]
  obtain ⟨w80, hw80⟩ : ∃ y9, y9 = mk w62 11 7 := ⟨_, rfl⟩
  rw [← hw80]
  have A81 : ∀ q, q ≠ r + 7 → gi w80 q = gi w62 q ∧ gr w80 q = gr w62 q ∧ ty w80 q = ty w62 q ∧ ln w80 q = ln w62 q := fun q hq => by rw [hw80]; exact mk_o (by rw [n76]; exact hq)
  have f82 : isRows w80.2 (r + 1) := rows_ag (fun q a b => A81 q (Nat.ne_of_lt (Nat.lt_of_lt_of_le b (lek r 1 3 7 rfl)))) f64
  have f83 : gi w80 (r + 1) 0 = 10 := (congrFun (A81 _ (nek r 1 7 rfl)).1 _).trans f65
  have f84 : gi w80 (r + 1) 1 = 5 := (congrFun (A81 _ (nek r 1 7 rfl)).1 _).trans f66
  have f85 : gi w80 (r + 1) 4 = 0 := (congrFun (A81 _ (nek r 1 7 rfl)).1 _).trans f67
  have f86 : isRows w80.2 (r + 4) := rows_ag (fun q a b => A81 q (Nat.ne_of_lt (Nat.lt_of_lt_of_le b (lek r 4 3 7 rfl)))) f68
  have f87 : gi w80 (r + 4) 0 = 7 := (congrFun (A81 _ (nek r 4 7 rfl)).1 _).trans f69
  have f88 : gi w80 (r + 4) 1 = 12 := (congrFun (A81 _ (nek r 4 7 rfl)).1 _).trans f70
  have f89 : gi w80 (r + 4) 4 = 0 := (congrFun (A81 _ (nek r 4 7 rfl)).1 _).trans f71
  have f90 : ty w80 r = 8 := (A81 _ (nek r 0 7 rfl)).2.2.1.trans f72
  have f91 : gi w80 r = (fun _ => 0) := (A81 _ (nek r 0 7 rfl)).1.trans f73
  have f92 : gr w80 r 0 = (r + 1) := (congrFun (A81 _ (nek r 0 7 rfl)).2.1 _).trans f74
  have f93 : gr w80 r 1 = (r + 4) := (congrFun (A81 _ (nek r 0 7 rfl)).2.1 _).trans f75
  have e94 := mk_e (w := w62) (t := 11) (n := 7)
  rw [← hw80, n76] at e94
  have n95 : nx w80 = r + 8 := by rw [hw80]; exact congrArg (· + 1) n76
  have u96 : uc w80 = uc w + 7 := by rw [hw80]; exact congrArg (· + 1) u77
  have s97 : us w80 = us w + 277 := by rw [hw80]; exact congrArg (· + 7) s78
  have g98 : ∀ q, q < r → gi w80 q = gi w q ∧ gr w80 q = gr w q ∧ ty w80 q = ty w q ∧ ln w80 q = ln w q := fun q hq => by have a := A81 q (Nat.ne_of_lt (Nat.lt_of_lt_of_le hq (Nat.le_add_right r 7))); have b := g79 q hq; exact ⟨a.1.trans b.1, a.2.1.trans b.2.1, a.2.2.1.trans b.2.2.1, a.2.2.2.trans b.2.2.2⟩
  clear A81 f64 f65 f66 f67 f68 f69 f70 f71 f72 f73 f74 f75 g79 hw80 n76 s78 u77
  refine WP.blk 1 ?_
  show ty w80 r = 8 ∧ WP 2 51 41 [vR r] [] (sr w80 r 2 (r + 7)) Q
  refine ⟨f90, ?_⟩
  obtain ⟨w99, hw99⟩ : ∃ y9, y9 = sr w80 r 2 (r + 7) := ⟨_, rfl⟩
  rw [← hw99]
  have A100 : ∀ q, q ≠ r → gi w99 q = gi w80 q ∧ gr w99 q = gr w80 q ∧ ty w99 q = ty w80 q ∧ ln w99 q = ln w80 q := fun q hq => by rw [hw99]; exact sr_o hq
  have f101 : isRows w99.2 (r + 1) := rows_ag (fun q a b => A100 q (Nat.ne_of_gt (Nat.lt_of_lt_of_le (ltk r 0 1 rfl) a))) f82
  have f102 : gi w99 (r + 1) 0 = 10 := (congrFun (A100 _ (nek r 1 0 rfl)).1 _).trans f83
  have f103 : gi w99 (r + 1) 1 = 5 := (congrFun (A100 _ (nek r 1 0 rfl)).1 _).trans f84
  have f104 : gi w99 (r + 1) 4 = 0 := (congrFun (A100 _ (nek r 1 0 rfl)).1 _).trans f85
  have f105 : isRows w99.2 (r + 4) := rows_ag (fun q a b => A100 q (Nat.ne_of_gt (Nat.lt_of_lt_of_le (ltk r 0 4 rfl) a))) f86
  have f106 : gi w99 (r + 4) 0 = 7 := (congrFun (A100 _ (nek r 4 0 rfl)).1 _).trans f87
  have f107 : gi w99 (r + 4) 1 = 12 := (congrFun (A100 _ (nek r 4 0 rfl)).1 _).trans f88
  have f108 : gi w99 (r + 4) 4 = 0 := (congrFun (A100 _ (nek r 4 0 rfl)).1 _).trans f89
  have f109 : ty w99 (r + 7) = 11 := (A100 _ (nek r 7 0 rfl)).2.2.1.trans e94.2.1
  have f110 : ln w99 (r + 7) = 7 := (A100 _ (nek r 7 0 rfl)).2.2.2.trans e94.2.2
  have f111 : gi w99 (r + 7) = (fun _ => 0) := (A100 _ (nek r 7 0 rfl)).1.trans e94.1
  have f112 : ty w99 r = 8 := by rw [hw99]; exact f90
  have f113 : gi w99 r = (fun _ => 0) := by rw [hw99]; exact f91
  have f114 : gr w99 r 0 = (r + 1) := by rw [hw99]; exact (sr_k (by decide)).trans f92
  have f115 : gr w99 r 1 = (r + 4) := by rw [hw99]; exact (sr_k (by decide)).trans f93
  have f116 : gr w99 r 2 = (r + 7) := by rw [hw99]; exact sr_e
  have n117 : nx w99 = r + 8 := by rw [hw99]; exact n95
  have u118 : uc w99 = uc w + 7 := by rw [hw99]; exact u96
  have s119 : us w99 = us w + 277 := by rw [hw99]; exact s97
  have g120 : ∀ q, q < r → gi w99 q = gi w q ∧ gr w99 q = gr w q ∧ ty w99 q = ty w q ∧ ln w99 q = ln w q := fun q hq => by have a := A100 q (Nat.ne_of_lt (Nat.lt_of_lt_of_le hq (Nat.le_add_right r 0))); have b := g98 q hq; exact ⟨a.1.trans b.1, a.2.1.trans b.2.1, a.2.2.1.trans b.2.2.1, a.2.2.2.trans b.2.2.2⟩
  clear A100 e94 f82 f83 f84 f85 f86 f87 f88 f89 f90 f91 f92 f93 g98 hw99 n95 s97 u96
  refine WP.blk 1 ?_
  show WP 2 51 42 [vR r] [vR r] w99 Q
  refine WP.blk 1 ?_
  show WP 2 51 45 [vR r] [vR (nx w99), vR r] (mk w99 4 6) Q
  rw [n117]
  obtain ⟨w121, hw121⟩ : ∃ y9, y9 = mk w99 4 6 := ⟨_, rfl⟩
  rw [← hw121]
  have A122 : ∀ q, q ≠ r + 8 → gi w121 q = gi w99 q ∧ gr w121 q = gr w99 q ∧ ty w121 q = ty w99 q ∧ ln w121 q = ln w99 q := fun q hq => by rw [hw121]; exact mk_o (by rw [n117]; exact hq)
  have f123 : isRows w121.2 (r + 1) := rows_ag (fun q a b => A122 q (Nat.ne_of_lt (Nat.lt_of_lt_of_le b (lek r 1 3 8 rfl)))) f101
  have f124 : gi w121 (r + 1) 0 = 10 := (congrFun (A122 _ (nek r 1 8 rfl)).1 _).trans f102
  have f125 : gi w121 (r + 1) 1 = 5 := (congrFun (A122 _ (nek r 1 8 rfl)).1 _).trans f103
  have f126 : gi w121 (r + 1) 4 = 0 := (congrFun (A122 _ (nek r 1 8 rfl)).1 _).trans f104
  have f127 : isRows w121.2 (r + 4) := rows_ag (fun q a b => A122 q (Nat.ne_of_lt (Nat.lt_of_lt_of_le b (lek r 4 3 8 rfl)))) f105
  have f128 : gi w121 (r + 4) 0 = 7 := (congrFun (A122 _ (nek r 4 8 rfl)).1 _).trans f106
  have f129 : gi w121 (r + 4) 1 = 12 := (congrFun (A122 _ (nek r 4 8 rfl)).1 _).trans f107
  have f130 : gi w121 (r + 4) 4 = 0 := (congrFun (A122 _ (nek r 4 8 rfl)).1 _).trans f108
  have f131 : ty w121 (r + 7) = 11 := (A122 _ (nek r 7 8 rfl)).2.2.1.trans f109
  have f132 : ln w121 (r + 7) = 7 := (A122 _ (nek r 7 8 rfl)).2.2.2.trans f110
  have f133 : gi w121 (r + 7) = (fun _ => 0) := (A122 _ (nek r 7 8 rfl)).1.trans f111
  have f134 : ty w121 r = 8 := (A122 _ (nek r 0 8 rfl)).2.2.1.trans f112
  have f135 : gi w121 r = (fun _ => 0) := (A122 _ (nek r 0 8 rfl)).1.trans f113
  have f136 : gr w121 r 0 = (r + 1) := (congrFun (A122 _ (nek r 0 8 rfl)).2.1 _).trans f114
  have f137 : gr w121 r 1 = (r + 4) := (congrFun (A122 _ (nek r 0 8 rfl)).2.1 _).trans f115
  have f138 : gr w121 r 2 = (r + 7) := (congrFun (A122 _ (nek r 0 8 rfl)).2.1 _).trans f116
  have e139 := mk_e (w := w99) (t := 4) (n := 6)
  rw [← hw121, n117] at e139
  have n140 : nx w121 = r + 9 := by rw [hw121]; exact congrArg (· + 1) n117
  have u141 : uc w121 = uc w + 8 := by rw [hw121]; exact congrArg (· + 1) u118
  have s142 : us w121 = us w + 283 := by rw [hw121]; exact congrArg (· + 6) s119
  have g143 : ∀ q, q < r → gi w121 q = gi w q ∧ gr w121 q = gr w q ∧ ty w121 q = ty w q ∧ ln w121 q = ln w q := fun q hq => by have a := A122 q (Nat.ne_of_lt (Nat.lt_of_lt_of_le hq (Nat.le_add_right r 8))); have b := g120 q hq; exact ⟨a.1.trans b.1, a.2.1.trans b.2.1, a.2.2.1.trans b.2.2.1, a.2.2.2.trans b.2.2.2⟩
  clear A122 f101 f102 f103 f104 f105 f106 f107 f108 f109 f110 f111 f112 f113 f114 f115 f116 g120 hw121 n117 s119 u118
  refine WP.blk 1 ?_
  show WP 2 51 46 [vR r] [vR (r + 8), vR (r + 8), vR r] w121 Q
  refine WP.cl (a := [vR (r + 8)]) (rest := [vR (r + 8), vR r]) rfl rfl rfl rfl trivial (by decide) (c_inks n140 e139.2.1 e139.1 (fun w144 hA145 hni146 hui146 hsi146 f147 f148 => ⟨rfl, ?_⟩))
  show WP 2 51 49 [vR r] [vR (r + 8), vR r] w144 Q
  have A145 : ∀ q, q < r + 8 → gi w144 q = gi w121 q ∧ gr w144 q = gr w121 q ∧ ty w144 q = ty w121 q ∧ ln w144 q = ln w121 q := fun q hq => hA145 q (Nat.zero_le _) hq
  have f149 : isRows w144.2 (r + 1) := rows_ag (fun q a b => A145 q (Nat.lt_of_lt_of_le b (lek r 1 3 8 rfl))) f123
  have f150 : gi w144 (r + 1) 0 = 10 := (congrFun (A145 _ (ltk r 1 8 rfl)).1 _).trans f124
  have f151 : gi w144 (r + 1) 1 = 5 := (congrFun (A145 _ (ltk r 1 8 rfl)).1 _).trans f125
  have f152 : gi w144 (r + 1) 4 = 0 := (congrFun (A145 _ (ltk r 1 8 rfl)).1 _).trans f126
  have f153 : isRows w144.2 (r + 4) := rows_ag (fun q a b => A145 q (Nat.lt_of_lt_of_le b (lek r 4 3 8 rfl))) f127
  have f154 : gi w144 (r + 4) 0 = 7 := (congrFun (A145 _ (ltk r 4 8 rfl)).1 _).trans f128
  have f155 : gi w144 (r + 4) 1 = 12 := (congrFun (A145 _ (ltk r 4 8 rfl)).1 _).trans f129
  have f156 : gi w144 (r + 4) 4 = 0 := (congrFun (A145 _ (ltk r 4 8 rfl)).1 _).trans f130
  have f157 : ty w144 (r + 7) = 11 := (A145 _ (ltk r 7 8 rfl)).2.2.1.trans f131
  have f158 : ln w144 (r + 7) = 7 := (A145 _ (ltk r 7 8 rfl)).2.2.2.trans f132
  have f159 : gi w144 (r + 7) = (fun _ => 0) := (A145 _ (ltk r 7 8 rfl)).1.trans f133
  have f160 : ty w144 r = 8 := (A145 _ (ltk r 0 8 rfl)).2.2.1.trans f134
  have f161 : gi w144 r = (fun _ => 0) := (A145 _ (ltk r 0 8 rfl)).1.trans f135
  have f162 : gr w144 r 0 = (r + 1) := (congrFun (A145 _ (ltk r 0 8 rfl)).2.1 _).trans f136
  have f163 : gr w144 r 1 = (r + 4) := (congrFun (A145 _ (ltk r 0 8 rfl)).2.1 _).trans f137
  have f164 : gr w144 r 2 = (r + 7) := (congrFun (A145 _ (ltk r 0 8 rfl)).2.1 _).trans f138
  have ni146 : nx w144 = r + 12 := hni146
  have ui146 : uc w144 = uc w + 11 := hui146.trans (congrArg (· + 3) u141)
  have si146 : us w144 = us w + 313 := hsi146.trans (congrArg (· + 30) s142)
  have g165 : ∀ q, q < r → gi w144 q = gi w q ∧ gr w144 q = gr w q ∧ ty w144 q = ty w q ∧ ln w144 q = ln w q := fun q hq => by have a := A145 q (Nat.lt_of_lt_of_le hq (Nat.le_add_right r 8)); have b := g143 q hq; exact ⟨a.1.trans b.1, a.2.1.trans b.2.1, a.2.2.1.trans b.2.2.1, a.2.2.2.trans b.2.2.2⟩
  clear A145 e139 f123 f124 f125 f126 f127 f128 f129 f130 f131 f132 f133 f134 f135 f136 f137 f138 g143 hA145 hni146 hsi146 hui146 n140 s142 u141
  refine WP.blk 1 ?_
  show ty w144 r = 8 ∧ WP 2 51 52 [vR r] [] (sr w144 r 3 (r + 8)) Q
  refine ⟨f160, ?_⟩
  obtain ⟨w166, hw166⟩ : ∃ y9, y9 = sr w144 r 3 (r + 8) := ⟨_, rfl⟩
  rw [← hw166]
  have A167 : ∀ q, q ≠ r → gi w166 q = gi w144 q ∧ gr w166 q = gr w144 q ∧ ty w166 q = ty w144 q ∧ ln w166 q = ln w144 q := fun q hq => by rw [hw166]; exact sr_o hq
  have f168 : isRows w166.2 (r + 1) := rows_ag (fun q a b => A167 q (Nat.ne_of_gt (Nat.lt_of_lt_of_le (ltk r 0 1 rfl) a))) f149
  have f169 : gi w166 (r + 1) 0 = 10 := (congrFun (A167 _ (nek r 1 0 rfl)).1 _).trans f150
  have f170 : gi w166 (r + 1) 1 = 5 := (congrFun (A167 _ (nek r 1 0 rfl)).1 _).trans f151
  have f171 : gi w166 (r + 1) 4 = 0 := (congrFun (A167 _ (nek r 1 0 rfl)).1 _).trans f152
  have f172 : isRows w166.2 (r + 4) := rows_ag (fun q a b => A167 q (Nat.ne_of_gt (Nat.lt_of_lt_of_le (ltk r 0 4 rfl) a))) f153
  have f173 : gi w166 (r + 4) 0 = 7 := (congrFun (A167 _ (nek r 4 0 rfl)).1 _).trans f154
  have f174 : gi w166 (r + 4) 1 = 12 := (congrFun (A167 _ (nek r 4 0 rfl)).1 _).trans f155
  have f175 : gi w166 (r + 4) 4 = 0 := (congrFun (A167 _ (nek r 4 0 rfl)).1 _).trans f156
  have f176 : ty w166 (r + 7) = 11 := (A167 _ (nek r 7 0 rfl)).2.2.1.trans f157
  have f177 : ln w166 (r + 7) = 7 := (A167 _ (nek r 7 0 rfl)).2.2.2.trans f158
  have f178 : gi w166 (r + 7) = (fun _ => 0) := (A167 _ (nek r 7 0 rfl)).1.trans f159
  have f179 : isInks w166.2 (r + 8) := inks_ag (fun q a b => A167 q (Nat.ne_of_gt (Nat.lt_of_lt_of_le (ltk r 0 8 rfl) a))) f147
  have f180 : InkZ (gi w166) (r + 8) := inkZ_ag (fun q a b => A167 q (Nat.ne_of_gt (Nat.lt_of_lt_of_le (ltk r 0 8 rfl) a))) f148
  have f181 : ty w166 r = 8 := by rw [hw166]; exact f160
  have f182 : gi w166 r = (fun _ => 0) := by rw [hw166]; exact f161
  have f183 : gr w166 r 0 = (r + 1) := by rw [hw166]; exact (sr_k (by decide)).trans f162
  have f184 : gr w166 r 1 = (r + 4) := by rw [hw166]; exact (sr_k (by decide)).trans f163
  have f185 : gr w166 r 2 = (r + 7) := by rw [hw166]; exact (sr_k (by decide)).trans f164
  have f186 : gr w166 r 3 = (r + 8) := by rw [hw166]; exact sr_e
  have n187 : nx w166 = r + 12 := by rw [hw166]; exact ni146
  have u188 : uc w166 = uc w + 11 := by rw [hw166]; exact ui146
  have s189 : us w166 = us w + 313 := by rw [hw166]; exact si146
  have g190 : ∀ q, q < r → gi w166 q = gi w q ∧ gr w166 q = gr w q ∧ ty w166 q = ty w q ∧ ln w166 q = ln w q := fun q hq => by have a := A167 q (Nat.ne_of_lt (Nat.lt_of_lt_of_le hq (Nat.le_add_right r 0))); have b := g165 q hq; exact ⟨a.1.trans b.1, a.2.1.trans b.2.1, a.2.2.1.trans b.2.2.1, a.2.2.2.trans b.2.2.2⟩
  clear A167 f147 f148 f149 f150 f151 f152 f153 f154 f155 f156 f157 f158 f159 f160 f161 f162 f163 f164 g165 hw166 ni146 si146 ui146
  refine WP.blk 1 ?_
  show WP 2 51 53 [vR r] [vR r] w166 Q
  refine WP.blk 1 ?_
  show WP 2 51 55 [vR r] [vI 100, vR r] w166 Q
  refine WP.blk 1 ?_
  show ty w166 r = 8 ∧ WP 2 51 58 [vR r] [] (si w166 r 4 100) Q
  refine ⟨f181, ?_⟩
  obtain ⟨w191, hw191⟩ : ∃ y9, y9 = si w166 r 4 100 := ⟨_, rfl⟩
  rw [← hw191]
  have A192 : ∀ q, q ≠ r → gi w191 q = gi w166 q ∧ gr w191 q = gr w166 q ∧ ty w191 q = ty w166 q ∧ ln w191 q = ln w166 q := fun q hq => by rw [hw191]; exact si_o hq
  have f193 : isRows w191.2 (r + 1) := rows_ag (fun q a b => A192 q (Nat.ne_of_gt (Nat.lt_of_lt_of_le (ltk r 0 1 rfl) a))) f168
  have f194 : gi w191 (r + 1) 0 = 10 := (congrFun (A192 _ (nek r 1 0 rfl)).1 _).trans f169
  have f195 : gi w191 (r + 1) 1 = 5 := (congrFun (A192 _ (nek r 1 0 rfl)).1 _).trans f170
  have f196 : gi w191 (r + 1) 4 = 0 := (congrFun (A192 _ (nek r 1 0 rfl)).1 _).trans f171
  have f197 : isRows w191.2 (r + 4) := rows_ag (fun q a b => A192 q (Nat.ne_of_gt (Nat.lt_of_lt_of_le (ltk r 0 4 rfl) a))) f172
  have f198 : gi w191 (r + 4) 0 = 7 := (congrFun (A192 _ (nek r 4 0 rfl)).1 _).trans f173
  have f199 : gi w191 (r + 4) 1 = 12 := (congrFun (A192 _ (nek r 4 0 rfl)).1 _).trans f174
  have f200 : gi w191 (r + 4) 4 = 0 := (congrFun (A192 _ (nek r 4 0 rfl)).1 _).trans f175
  have f201 : ty w191 (r + 7) = 11 := (A192 _ (nek r 7 0 rfl)).2.2.1.trans f176
  have f202 : ln w191 (r + 7) = 7 := (A192 _ (nek r 7 0 rfl)).2.2.2.trans f177
  have f203 : gi w191 (r + 7) = (fun _ => 0) := (A192 _ (nek r 7 0 rfl)).1.trans f178
  have f204 : isInks w191.2 (r + 8) := inks_ag (fun q a b => A192 q (Nat.ne_of_gt (Nat.lt_of_lt_of_le (ltk r 0 8 rfl) a))) f179
  have f205 : InkZ (gi w191) (r + 8) := inkZ_ag (fun q a b => A192 q (Nat.ne_of_gt (Nat.lt_of_lt_of_le (ltk r 0 8 rfl) a))) f180
  have f206 : ty w191 r = 8 := by rw [hw191]; exact f181
  have f208 : gi w191 r 0 = 0 := by rw [hw191]; exact (si_k (by decide)).trans (congrFun f182 _)
  have f209 : gi w191 r 1 = 0 := by rw [hw191]; exact (si_k (by decide)).trans (congrFun f182 _)
  have f210 : gi w191 r 2 = 0 := by rw [hw191]; exact (si_k (by decide)).trans (congrFun f182 _)
  have f211 : gi w191 r 3 = 0 := by rw [hw191]; exact (si_k (by decide)).trans (congrFun f182 _)
  have f212 : gi w191 r 5 = 0 := by rw [hw191]; exact (si_k (by decide)).trans (congrFun f182 _)
  have f213 : gi w191 r 6 = 0 := by rw [hw191]; exact (si_k (by decide)).trans (congrFun f182 _)
  have f214 : gi w191 r 7 = 0 := by rw [hw191]; exact (si_k (by decide)).trans (congrFun f182 _)
  have f215 : gr w191 r 0 = (r + 1) := by rw [hw191]; exact f183
  have f216 : gr w191 r 1 = (r + 4) := by rw [hw191]; exact f184
  have f217 : gr w191 r 2 = (r + 7) := by rw [hw191]; exact f185
  have f218 : gr w191 r 3 = (r + 8) := by rw [hw191]; exact f186
  have f219 : gi w191 r 4 = 100 := by rw [hw191]; exact si_e
  have n220 : nx w191 = r + 12 := by rw [hw191]; exact n187
  have u221 : uc w191 = uc w + 11 := by rw [hw191]; exact u188
  have s222 : us w191 = us w + 313 := by rw [hw191]; exact s189
  have g223 : ∀ q, q < r → gi w191 q = gi w q ∧ gr w191 q = gr w q ∧ ty w191 q = ty w q ∧ ln w191 q = ln w q := fun q hq => by have a := A192 q (Nat.ne_of_lt (Nat.lt_of_lt_of_le hq (Nat.le_add_right r 0))); have b := g190 q hq; exact ⟨a.1.trans b.1, a.2.1.trans b.2.1, a.2.2.1.trans b.2.2.1, a.2.2.2.trans b.2.2.2⟩
  clear A192 f168 f169 f170 f171 f172 f173 f174 f175 f176 f177 f178 f179 f180 f181 f182 f183 f184 f185 f186 g190 hw191 n187 s189 u188
  refine WP.blk 1 ?_
  show WP 2 51 59 [vR r] [vR r] w191 Q
  refine WP.blk 1 ?_
  show WP 2 51 60 [vR r] [vI 5, vR r] w191 Q
  refine WP.blk 1 ?_
  show ty w191 r = 8 ∧ WP 2 51 63 [vR r] [] (si w191 r 5 5) Q
  refine ⟨f206, ?_⟩
  obtain ⟨w224, hw224⟩ : ∃ y9, y9 = si w191 r 5 5 := ⟨_, rfl⟩
  rw [← hw224]
  have A225 : ∀ q, q ≠ r → gi w224 q = gi w191 q ∧ gr w224 q = gr w191 q ∧ ty w224 q = ty w191 q ∧ ln w224 q = ln w191 q := fun q hq => by rw [hw224]; exact si_o hq
  have f226 : isRows w224.2 (r + 1) := rows_ag (fun q a b => A225 q (Nat.ne_of_gt (Nat.lt_of_lt_of_le (ltk r 0 1 rfl) a))) f193
  have f227 : gi w224 (r + 1) 0 = 10 := (congrFun (A225 _ (nek r 1 0 rfl)).1 _).trans f194
  have f228 : gi w224 (r + 1) 1 = 5 := (congrFun (A225 _ (nek r 1 0 rfl)).1 _).trans f195
  have f229 : gi w224 (r + 1) 4 = 0 := (congrFun (A225 _ (nek r 1 0 rfl)).1 _).trans f196
  have f230 : isRows w224.2 (r + 4) := rows_ag (fun q a b => A225 q (Nat.ne_of_gt (Nat.lt_of_lt_of_le (ltk r 0 4 rfl) a))) f197
  have f231 : gi w224 (r + 4) 0 = 7 := (congrFun (A225 _ (nek r 4 0 rfl)).1 _).trans f198
  have f232 : gi w224 (r + 4) 1 = 12 := (congrFun (A225 _ (nek r 4 0 rfl)).1 _).trans f199
  have f233 : gi w224 (r + 4) 4 = 0 := (congrFun (A225 _ (nek r 4 0 rfl)).1 _).trans f200
  have f234 : ty w224 (r + 7) = 11 := (A225 _ (nek r 7 0 rfl)).2.2.1.trans f201
  have f235 : ln w224 (r + 7) = 7 := (A225 _ (nek r 7 0 rfl)).2.2.2.trans f202
  have f236 : gi w224 (r + 7) = (fun _ => 0) := (A225 _ (nek r 7 0 rfl)).1.trans f203
  have f237 : isInks w224.2 (r + 8) := inks_ag (fun q a b => A225 q (Nat.ne_of_gt (Nat.lt_of_lt_of_le (ltk r 0 8 rfl) a))) f204
  have f238 : InkZ (gi w224) (r + 8) := inkZ_ag (fun q a b => A225 q (Nat.ne_of_gt (Nat.lt_of_lt_of_le (ltk r 0 8 rfl) a))) f205
  have f239 : ty w224 r = 8 := by rw [hw224]; exact f206
  have f240 : gi w224 r 0 = 0 := by rw [hw224]; exact (si_k (by decide)).trans f208
  have f241 : gi w224 r 1 = 0 := by rw [hw224]; exact (si_k (by decide)).trans f209
  have f242 : gi w224 r 2 = 0 := by rw [hw224]; exact (si_k (by decide)).trans f210
  have f243 : gi w224 r 3 = 0 := by rw [hw224]; exact (si_k (by decide)).trans f211
  have f245 : gi w224 r 6 = 0 := by rw [hw224]; exact (si_k (by decide)).trans f213
  have f246 : gi w224 r 7 = 0 := by rw [hw224]; exact (si_k (by decide)).trans f214
  have f247 : gr w224 r 0 = (r + 1) := by rw [hw224]; exact f215
  have f248 : gr w224 r 1 = (r + 4) := by rw [hw224]; exact f216
  have f249 : gr w224 r 2 = (r + 7) := by rw [hw224]; exact f217
  have f250 : gr w224 r 3 = (r + 8) := by rw [hw224]; exact f218
  have f251 : gi w224 r 4 = 100 := by rw [hw224]; exact (si_k (by decide)).trans f219
  have f252 : gi w224 r 5 = 5 := by rw [hw224]; exact si_e
  have n253 : nx w224 = r + 12 := by rw [hw224]; exact n220
  have u254 : uc w224 = uc w + 11 := by rw [hw224]; exact u221
  have s255 : us w224 = us w + 313 := by rw [hw224]; exact s222
  have g256 : ∀ q, q < r → gi w224 q = gi w q ∧ gr w224 q = gr w q ∧ ty w224 q = ty w q ∧ ln w224 q = ln w q := fun q hq => by have a := A225 q (Nat.ne_of_lt (Nat.lt_of_lt_of_le hq (Nat.le_add_right r 0))); have b := g223 q hq; exact ⟨a.1.trans b.1, a.2.1.trans b.2.1, a.2.2.1.trans b.2.2.1, a.2.2.2.trans b.2.2.2⟩
  clear A225 f193 f194 f195 f196 f197 f198 f199 f200 f201 f202 f203 f204 f205 f206 f208 f209 f210 f211 f212 f213 f214 f215 f216 f217 f218 f219 g223 hw224 n220 s222 u221
  exact WP.ret rfl rfl rfl trivial (k _ (fun q _ hq => g256 q hq) n253 u254 s255 ⟨f239, f247, f248, f249, f250, f226, f230, f234, f235, f237⟩ ⟨⟨f227, f228, f231, f232⟩, ⟨f229, f233, f251, f252⟩, f238⟩)
set_option maxHeartbeats 4000000 in
theorem c_hist {w : Wd} {r : Nat} {p : Int → Int} (hn : nx w = r + 1) (ht : ty w r = 3) (hz : gi w r = (fun _ => 0)) {Q : Res → Wd → Prop} (k : ∀ w2, Ag w w2 0 r → nx w2 = r + 50 → uc w2 = uc w + 49 → us w2 = us w + 1280 → isHist w2.2 r → HisF (gi w2) w2.2 r p 0 → Q (0, none) w2) : EvQ 4 12 [vR r] w Q := by
  refine EvQ.enter (ls := [vR r, none]) (Nat.le_of_ble_eq_true rfl) rfl ?_
  have hu0 : uc w = uc w + 0 := rfl
  have hs0 : us w = us w + 0 := rfl
  have hg0 : ∀ q, q < r → gi w q = gi w q ∧ gr w q = gr w q ∧ ty w q = ty w q ∧ ln w q = ln w q := fun _ _ => ⟨rfl, rfl, rfl, rfl⟩
  refine WP.blk 1 ?_
  show WP 3 12 1 [vR r, none] [vR r] w Q
  refine WP.blk 1 ?_
  show WP 3 12 4 [vR r, none] [] w Q
  refine WP.blk 1 ?_
  show WP 3 12 5 [vR r, none] [vR r] w Q
  refine WP.blk 1 ?_
  show WP 3 12 6 [vR r, none] [vI 4, vR r] w Q
  refine WP.blk 1 ?_
  show ((0 : Int) ≤ 4 ∧ (4 : Int) ≤ 100000) ∧ WP 3 12 9 [vR r, none] [vR (nx w), vR r] (mk w 13 4) Q
  refine ⟨⟨by decide, by decide⟩, ?_⟩
  rw [hn]
  obtain ⟨w1, hw1⟩ : ∃ y9, y9 = mk w 13 4 := ⟨_, rfl⟩
  rw [← hw1]
  have A2 : ∀ q, q ≠ r + 1 → gi w1 q = gi w q ∧ gr w1 q = gr w q ∧ ty w1 q = ty w q ∧ ln w1 q = ln w q := fun q hq => by rw [hw1]; exact mk_o (by rw [hn]; exact hq)
  have f3 : ty w1 r = 3 := (A2 _ (nek r 0 1 rfl)).2.2.1.trans ht
  have f4 : gi w1 r = (fun _ => 0) := (A2 _ (nek r 0 1 rfl)).1.trans hz
  have e5 := mk_e (w := w) (t := 13) (n := 4)
  rw [← hw1, hn] at e5
  have n6 : nx w1 = r + 2 := by rw [hw1]; exact congrArg (· + 1) hn
  have u7 : uc w1 = uc w + 1 := by rw [hw1]; exact congrArg (· + 1) hu0
  have s8 : us w1 = us w + 4 := by rw [hw1]; exact congrArg (· + 4) hs0
  have g9 : ∀ q, q < r → gi w1 q = gi w q ∧ gr w1 q = gr w q ∧ ty w1 q = ty w q ∧ ln w1 q = ln w q := fun q hq => by have a := A2 q (Nat.ne_of_lt (Nat.lt_of_lt_of_le hq (Nat.le_add_right r 1))); have b := hg0 q hq; exact ⟨a.1.trans b.1, a.2.1.trans b.2.1, a.2.2.1.trans b.2.2.1, a.2.2.2.trans b.2.2.2⟩
  clear A2 hg0 hs0 hu0 hw1
  refine WP.blk 1 ?_
  show ty w1 r = 3 ∧ WP 3 12 12 [vR r, none] [] (sr w1 r 0 (r + 1)) Q
  refine ⟨f3, ?_⟩
  obtain ⟨w10, hw10⟩ : ∃ y9, y9 = sr w1 r 0 (r + 1) := ⟨_, rfl⟩
  rw [← hw10]
  have A11 : ∀ q, q ≠ r → gi w10 q = gi w1 q ∧ gr w10 q = gr w1 q ∧ ty w10 q = ty w1 q ∧ ln w10 q = ln w1 q := fun q hq => by rw [hw10]; exact sr_o hq
  have f12 : ty w10 (r + 1) = 13 := (A11 _ (nek r 1 0 rfl)).2.2.1.trans e5.2.1
  have f13 : ln w10 (r + 1) = 4 := (A11 _ (nek r 1 0 rfl)).2.2.2.trans e5.2.2
  have f14 : gi w10 (r + 1) = (fun _ => 0) := (A11 _ (nek r 1 0 rfl)).1.trans e5.1
  have f15 : ty w10 r = 3 := by rw [hw10]; exact f3
  have f16 : gi w10 r = (fun _ => 0) := by rw [hw10]; exact f4
  have f17 : gr w10 r 0 = (r + 1) := by rw [hw10]; exact sr_e
  have n18 : nx w10 = r + 2 := by rw [hw10]; exact n6
  have u19 : uc w10 = uc w + 1 := by rw [hw10]; exact u7
  have s20 : us w10 = us w + 4 := by rw [hw10]; exact s8
  have g21 : ∀ q, q < r → gi w10 q = gi w q ∧ gr w10 q = gr w q ∧ ty w10 q = ty w q ∧ ln w10 q = ln w q := fun q hq => by have a := A11 q (Nat.ne_of_lt (Nat.lt_of_lt_of_le hq (Nat.le_add_right r 0))); have b := g9 q hq; exact ⟨a.1.trans b.1, a.2.1.trans b.2.1, a.2.2.1.trans b.2.2.1, a.2.2.2.trans b.2.2.2⟩
  clear A11 e5 f3 f4 g9 hw10 n6 s8 u7
  refine WP.blk 1 ?_
  show WP 3 12 13 [vR r, none] [vI 0] w10 Q
  refine WP.blk 1 ?_
  show WP 3 12 14 [vR r, vI 0] [] w10 Q
  refine WP.blk 1 ?_
  show WP 3 12 15 [vR r, vI 0] [vI 0] w10 Q
  refine WP.blk 1 ?_
  show WP 3 12 16 [vR r, vI 0] [vI 4, vI 0] w10 Q
  refine WP.blk 1 ?_
  show WP 3 12 19 [vR r, vI 0] [] w10 Q
  refine WP.blk 1 ?_
  show WP 3 12 20 [vR r, vI 0] [vR r] w10 Q
  refine WP.blk 1 ?_
  show (ty w10 r = 3 ∧ gr w10 r 0 ≠ 0) ∧ WP 3 12 23 [vR r, vI 0] [vR (gr w10 r 0)] w10 Q
  refine ⟨⟨f15, by rw [f17]; exact Nat.succ_ne_zero _⟩, ?_⟩
  rw [f17]
  refine WP.blk 1 ?_
  show WP 3 12 24 [vR r, vI 0] [vI 0, vR (r + 1)] w10 Q
  refine WP.blk 1 ?_
  show WP 3 12 27 [vR r, vI 0] [vR (nx w10), vI 0, vR (r + 1)] (mk w10 8 6) Q
  rw [n18]
  obtain ⟨w22, hw22⟩ : ∃ y9, y9 = mk w10 8 6 := ⟨_, rfl⟩
  rw [← hw22]
  have A23 : ∀ q, q ≠ r + 2 → gi w22 q = gi w10 q ∧ gr w22 q = gr w10 q ∧ ty w22 q = ty w10 q ∧ ln w22 q = ln w10 q := fun q hq => by rw [hw22]; exact mk_o (by rw [n18]; exact hq)
  have f24 : ty w22 (r + 1) = 13 := (A23 _ (nek r 1 2 rfl)).2.2.1.trans f12
  have f25 : ln w22 (r + 1) = 4 := (A23 _ (nek r 1 2 rfl)).2.2.2.trans f13
  have f26 : gi w22 (r + 1) = (fun _ => 0) := (A23 _ (nek r 1 2 rfl)).1.trans f14
  have f27 : ty w22 r = 3 := (A23 _ (nek r 0 2 rfl)).2.2.1.trans f15
  have f28 : gi w22 r = (fun _ => 0) := (A23 _ (nek r 0 2 rfl)).1.trans f16
  have f29 : gr w22 r 0 = (r + 1) := (congrFun (A23 _ (nek r 0 2 rfl)).2.1 _).trans f17
  have e30 := mk_e (w := w10) (t := 8) (n := 6)
  rw [← hw22, n18] at e30
  have n31 : nx w22 = r + 3 := by rw [hw22]; exact congrArg (· + 1) n18
  have u32 : uc w22 = uc w + 2 := by rw [hw22]; exact congrArg (· + 1) u19
  have s33 : us w22 = us w + 10 := by rw [hw22]; exact congrArg (· + 6) s20
  have g34 : ∀ q, q < r → gi w22 q = gi w q ∧ gr w22 q = gr w q ∧ ty w22 q = ty w q ∧ ln w22 q = ln w q := fun q hq => by have a := A23 q (Nat.ne_of_lt (Nat.lt_of_lt_of_le hq (Nat.le_add_right r 2))); have b := g21 q hq; exact ⟨a.1.trans b.1, a.2.1.trans b.2.1, a.2.2.1.trans b.2.2.1, a.2.2.2.trans b.2.2.2⟩
  clear A23 f12 f13 f14 f15 f16 f17 g21 hw22 n18 s20 u19
  refine WP.blk 1 ?_
  show WP 3 12 28 [vR r, vI 0] [vR (r + 2), vR (r + 2), vI 0, vR (r + 1)] w22 Q
  refine WP.cl (a := [vR (r + 2)]) (rest := [vR (r + 2), vI 0, vR (r + 1)]) rfl rfl rfl rfl trivial (by decide) (c_sheet n31 e30.2.1 e30.1 (fun w35 hA36 hni37 hui37 hsi37 f38 f39 => ⟨rfl, ?_⟩))
  show WP 3 12 31 [vR r, vI 0] [vR (r + 2), vI 0, vR (r + 1)] w35 Q
  have A36 : ∀ q, q < r + 2 → gi w35 q = gi w22 q ∧ gr w35 q = gr w22 q ∧ ty w35 q = ty w22 q ∧ ln w35 q = ln w22 q := fun q hq => hA36 q (Nat.zero_le _) hq
  have f40 : ty w35 (r + 1) = 13 := (A36 _ (ltk r 1 2 rfl)).2.2.1.trans f24
  have f41 : ln w35 (r + 1) = 4 := (A36 _ (ltk r 1 2 rfl)).2.2.2.trans f25
  have f42 : gi w35 (r + 1) = (fun _ => 0) := (A36 _ (ltk r 1 2 rfl)).1.trans f26
  have f43 : ty w35 r = 3 := (A36 _ (ltk r 0 2 rfl)).2.2.1.trans f27
  have f44 : gi w35 r = (fun _ => 0) := (A36 _ (ltk r 0 2 rfl)).1.trans f28
  have f45 : gr w35 r 0 = (r + 1) := (congrFun (A36 _ (ltk r 0 2 rfl)).2.1 _).trans f29
  have ni37 : nx w35 = r + 14 := hni37
  have ui37 : uc w35 = uc w + 13 := hui37.trans (congrArg (· + 11) u32)
  have si37 : us w35 = us w + 323 := hsi37.trans (congrArg (· + 313) s33)
  have g46 : ∀ q, q < r → gi w35 q = gi w q ∧ gr w35 q = gr w q ∧ ty w35 q = ty w q ∧ ln w35 q = ln w q := fun q hq => by have a := A36 q (Nat.lt_of_lt_of_le hq (Nat.le_add_right r 2)); have b := g34 q hq; exact ⟨a.1.trans b.1, a.2.1.trans b.2.1, a.2.2.1.trans b.2.2.1, a.2.2.2.trans b.2.2.2⟩
  clear A36 e30 f24 f25 f26 f27 f28 f29 g34 hA36 hni37 hsi37 hui37 n31 s33 u32
  refine WP.blk 1 ?_
  show (ref3 (ty w35 (r + 1)) ∧ 0 ≤ (0 : Int) ∧ (0 : Int) < (ln w35 (r + 1) : Int) ∧ ty w35 (r + 2) = el3 (ty w35 (r + 1))) ∧ WP 3 12 32 [vR r, vI 0] [] (sr w35 (r + 1) 0 (r + 2)) Q
  refine ⟨⟨Or.inl f40, by decide, by rw [f41]; decide, by rw [f40]; exact f38.1⟩, ?_⟩
  obtain ⟨w47, hw47⟩ : ∃ y9, y9 = sr w35 (r + 1) 0 (r + 2) := ⟨_, rfl⟩
  rw [← hw47]
  have A48 : ∀ q, q ≠ r + 1 → gi w47 q = gi w35 q ∧ gr w47 q = gr w35 q ∧ ty w47 q = ty w35 q ∧ ln w47 q = ln w35 q := fun q hq => by rw [hw47]; exact sr_o hq
  have f49 : ty w47 r = 3 := (A48 _ (nek r 0 1 rfl)).2.2.1.trans f43
  have f50 : gi w47 r = (fun _ => 0) := (A48 _ (nek r 0 1 rfl)).1.trans f44
  have f51 : gr w47 r 0 = (r + 1) := (congrFun (A48 _ (nek r 0 1 rfl)).2.1 _).trans f45
  have f52 : isSheet w47.2 (r + 2) := sheet_ag (fun q a b => A48 q (Nat.ne_of_gt (Nat.lt_of_lt_of_le (ltk r 1 2 rfl) a))) f38
  have f53 : ShZ (gi w47) (r + 2) := shZ_ag (fun q a b => A48 q (Nat.ne_of_gt (Nat.lt_of_lt_of_le (ltk r 1 2 rfl) a))) f39
  have f54 : ty w47 (r + 2) = 8 := (A48 _ (nek r 2 1 rfl)).2.2.1.trans f38.1
  have f55 : ty w47 (r + 1) = 13 := by rw [hw47]; exact f40
  have f56 : ln w47 (r + 1) = 4 := by rw [hw47]; exact f41
  have f57 : gi w47 (r + 1) = (fun _ => 0) := by rw [hw47]; exact f42
  have f58 : gr w47 (r + 1) 0 = (r + 2) := by rw [hw47]; exact sr_e
  have n59 : nx w47 = r + 14 := by rw [hw47]; exact ni37
  have u60 : uc w47 = uc w + 13 := by rw [hw47]; exact ui37
  have s61 : us w47 = us w + 323 := by rw [hw47]; exact si37
  have g62 : ∀ q, q < r → gi w47 q = gi w q ∧ gr w47 q = gr w q ∧ ty w47 q = ty w q ∧ ln w47 q = ln w q := fun q hq => by have a := A48 q (Nat.ne_of_lt (Nat.lt_of_lt_of_le hq (Nat.le_add_right r 1))); have b := g46 q hq; exact ⟨a.1.trans b.1, a.2.1.trans b.2.1, a.2.2.1.trans b.2.2.1, a.2.2.2.trans b.2.2.2⟩
  clear A48 f38 f39 f40 f41 f42 f43 f44 f45 g46 hw47 ni37 si37 ui37
  refine WP.blk 1 ?_
  show ir (0 + 1) ∧ WP 3 12 35 [vR r, vI 1] [] w47 Q
  refine ⟨⟨by decide, by decide⟩, ?_⟩
  refine WP.blk 1 ?_
  show WP 3 12 14 [vR r, vI 1] [] w47 Q
  refine WP.blk 1 ?_
  show WP 3 12 15 [vR r, vI 1] [vI 1] w47 Q
  refine WP.blk 1 ?_
  show WP 3 12 16 [vR r, vI 1] [vI 4, vI 1] w47 Q
  refine WP.blk 1 ?_
  show WP 3 12 19 [vR r, vI 1] [] w47 Q
  refine WP.blk 1 ?_
  show WP 3 12 20 [vR r, vI 1] [vR r] w47 Q
  refine WP.blk 1 ?_
  show (ty w47 r = 3 ∧ gr w47 r 0 ≠ 0) ∧ WP 3 12 23 [vR r, vI 1] [vR (gr w47 r 0)] w47 Q
  refine ⟨⟨f49, by rw [f51]; exact Nat.succ_ne_zero _⟩, ?_⟩
  rw [f51]
  refine WP.blk 1 ?_
  show WP 3 12 24 [vR r, vI 1] [vI 1, vR (r + 1)] w47 Q
  refine WP.blk 1 ?_
  show WP 3 12 27 [vR r, vI 1] [vR (nx w47), vI 1, vR (r + 1)] (mk w47 8 6) Q
  rw [n59]
  obtain ⟨w63, hw63⟩ : ∃ y9, y9 = mk w47 8 6 := ⟨_, rfl⟩
  rw [← hw63]
  have A64 : ∀ q, q ≠ r + 14 → gi w63 q = gi w47 q ∧ gr w63 q = gr w47 q ∧ ty w63 q = ty w47 q ∧ ln w63 q = ln w47 q := fun q hq => by rw [hw63]; exact mk_o (by rw [n59]; exact hq)
  have f65 : ty w63 r = 3 := (A64 _ (nek r 0 14 rfl)).2.2.1.trans f49
  have f66 : gi w63 r = (fun _ => 0) := (A64 _ (nek r 0 14 rfl)).1.trans f50
  have f67 : gr w63 r 0 = (r + 1) := (congrFun (A64 _ (nek r 0 14 rfl)).2.1 _).trans f51
  have f68 : isSheet w63.2 (r + 2) := sheet_ag (fun q a b => A64 q (Nat.ne_of_lt (Nat.lt_of_lt_of_le b (lek r 2 12 14 rfl)))) f52
  have f69 : ShZ (gi w63) (r + 2) := shZ_ag (fun q a b => A64 q (Nat.ne_of_lt (Nat.lt_of_lt_of_le b (lek r 2 12 14 rfl)))) f53
  have f70 : ty w63 (r + 2) = 8 := (A64 _ (nek r 2 14 rfl)).2.2.1.trans f54
  have f71 : ty w63 (r + 1) = 13 := (A64 _ (nek r 1 14 rfl)).2.2.1.trans f55
  have f72 : ln w63 (r + 1) = 4 := (A64 _ (nek r 1 14 rfl)).2.2.2.trans f56
  have f73 : gi w63 (r + 1) = (fun _ => 0) := (A64 _ (nek r 1 14 rfl)).1.trans f57
  have f74 : gr w63 (r + 1) 0 = (r + 2) := (congrFun (A64 _ (nek r 1 14 rfl)).2.1 _).trans f58
  have e75 := mk_e (w := w47) (t := 8) (n := 6)
  rw [← hw63, n59] at e75
  have n76 : nx w63 = r + 15 := by rw [hw63]; exact congrArg (· + 1) n59
  have u77 : uc w63 = uc w + 14 := by rw [hw63]; exact congrArg (· + 1) u60
  have s78 : us w63 = us w + 329 := by rw [hw63]; exact congrArg (· + 6) s61
  have g79 : ∀ q, q < r → gi w63 q = gi w q ∧ gr w63 q = gr w q ∧ ty w63 q = ty w q ∧ ln w63 q = ln w q := fun q hq => by have a := A64 q (Nat.ne_of_lt (Nat.lt_of_lt_of_le hq (Nat.le_add_right r 14))); have b := g62 q hq; exact ⟨a.1.trans b.1, a.2.1.trans b.2.1, a.2.2.1.trans b.2.2.1, a.2.2.2.trans b.2.2.2⟩
  clear A64 f49 f50 f51 f52 f53 f54 f55 f56 f57 f58 g62 hw63 n59 s61 u60
  refine WP.blk 1 ?_
  show WP 3 12 28 [vR r, vI 1] [vR (r + 14), vR (r + 14), vI 1, vR (r + 1)] w63 Q
  refine WP.cl (a := [vR (r + 14)]) (rest := [vR (r + 14), vI 1, vR (r + 1)]) rfl rfl rfl rfl trivial (by decide) (c_sheet n76 e75.2.1 e75.1 (fun w80 hA81 hni82 hui82 hsi82 f83 f84 => ⟨rfl, ?_⟩))
  show WP 3 12 31 [vR r, vI 1] [vR (r + 14), vI 1, vR (r + 1)] w80 Q
  have A81 : ∀ q, q < r + 14 → gi w80 q = gi w63 q ∧ gr w80 q = gr w63 q ∧ ty w80 q = ty w63 q ∧ ln w80 q = ln w63 q := fun q hq => hA81 q (Nat.zero_le _) hq
  have f85 : ty w80 r = 3 := (A81 _ (ltk r 0 14 rfl)).2.2.1.trans f65
  have f86 : gi w80 r = (fun _ => 0) := (A81 _ (ltk r 0 14 rfl)).1.trans f66
  have f87 : gr w80 r 0 = (r + 1) := (congrFun (A81 _ (ltk r 0 14 rfl)).2.1 _).trans f67
  have f88 : isSheet w80.2 (r + 2) := sheet_ag (fun q a b => A81 q (Nat.lt_of_lt_of_le b (lek r 2 12 14 rfl))) f68
  have f89 : ShZ (gi w80) (r + 2) := shZ_ag (fun q a b => A81 q (Nat.lt_of_lt_of_le b (lek r 2 12 14 rfl))) f69
  have f90 : ty w80 (r + 2) = 8 := (A81 _ (ltk r 2 14 rfl)).2.2.1.trans f70
  have f91 : ty w80 (r + 1) = 13 := (A81 _ (ltk r 1 14 rfl)).2.2.1.trans f71
  have f92 : ln w80 (r + 1) = 4 := (A81 _ (ltk r 1 14 rfl)).2.2.2.trans f72
  have f93 : gi w80 (r + 1) = (fun _ => 0) := (A81 _ (ltk r 1 14 rfl)).1.trans f73
  have f94 : gr w80 (r + 1) 0 = (r + 2) := (congrFun (A81 _ (ltk r 1 14 rfl)).2.1 _).trans f74
  have ni82 : nx w80 = r + 26 := hni82
  have ui82 : uc w80 = uc w + 25 := hui82.trans (congrArg (· + 11) u77)
  have si82 : us w80 = us w + 642 := hsi82.trans (congrArg (· + 313) s78)
  have g95 : ∀ q, q < r → gi w80 q = gi w q ∧ gr w80 q = gr w q ∧ ty w80 q = ty w q ∧ ln w80 q = ln w q := fun q hq => by have a := A81 q (Nat.lt_of_lt_of_le hq (Nat.le_add_right r 14)); have b := g79 q hq; exact ⟨a.1.trans b.1, a.2.1.trans b.2.1, a.2.2.1.trans b.2.2.1, a.2.2.2.trans b.2.2.2⟩
  clear A81 e75 f65 f66 f67 f68 f69 f70 f71 f72 f73 f74 g79 hA81 hni82 hsi82 hui82 n76 s78 u77
  refine WP.blk 1 ?_
  show (ref3 (ty w80 (r + 1)) ∧ 0 ≤ (1 : Int) ∧ (1 : Int) < (ln w80 (r + 1) : Int) ∧ ty w80 (r + 14) = el3 (ty w80 (r + 1))) ∧ WP 3 12 32 [vR r, vI 1] [] (sr w80 (r + 1) 1 (r + 14)) Q
  refine ⟨⟨Or.inl f91, by decide, by rw [f92]; decide, by rw [f91]; exact f83.1⟩, ?_⟩
  obtain ⟨w96, hw96⟩ : ∃ y9, y9 = sr w80 (r + 1) 1 (r + 14) := ⟨_, rfl⟩
  rw [← hw96]
  have A97 : ∀ q, q ≠ r + 1 → gi w96 q = gi w80 q ∧ gr w96 q = gr w80 q ∧ ty w96 q = ty w80 q ∧ ln w96 q = ln w80 q := fun q hq => by rw [hw96]; exact sr_o hq
  have f98 : ty w96 r = 3 := (A97 _ (nek r 0 1 rfl)).2.2.1.trans f85
  have f99 : gi w96 r = (fun _ => 0) := (A97 _ (nek r 0 1 rfl)).1.trans f86
  have f100 : gr w96 r 0 = (r + 1) := (congrFun (A97 _ (nek r 0 1 rfl)).2.1 _).trans f87
  have f101 : isSheet w96.2 (r + 2) := sheet_ag (fun q a b => A97 q (Nat.ne_of_gt (Nat.lt_of_lt_of_le (ltk r 1 2 rfl) a))) f88
  have f102 : ShZ (gi w96) (r + 2) := shZ_ag (fun q a b => A97 q (Nat.ne_of_gt (Nat.lt_of_lt_of_le (ltk r 1 2 rfl) a))) f89
  have f103 : ty w96 (r + 2) = 8 := (A97 _ (nek r 2 1 rfl)).2.2.1.trans f90
  have f104 : isSheet w96.2 (r + 14) := sheet_ag (fun q a b => A97 q (Nat.ne_of_gt (Nat.lt_of_lt_of_le (ltk r 1 14 rfl) a))) f83
  have f105 : ShZ (gi w96) (r + 14) := shZ_ag (fun q a b => A97 q (Nat.ne_of_gt (Nat.lt_of_lt_of_le (ltk r 1 14 rfl) a))) f84
  have f106 : ty w96 (r + 14) = 8 := (A97 _ (nek r 14 1 rfl)).2.2.1.trans f83.1
  have f107 : ty w96 (r + 1) = 13 := by rw [hw96]; exact f91
  have f108 : ln w96 (r + 1) = 4 := by rw [hw96]; exact f92
  have f109 : gi w96 (r + 1) = (fun _ => 0) := by rw [hw96]; exact f93
  have f110 : gr w96 (r + 1) 0 = (r + 2) := by rw [hw96]; exact (sr_k (by decide)).trans f94
  have f111 : gr w96 (r + 1) 1 = (r + 14) := by rw [hw96]; exact sr_e
  have n112 : nx w96 = r + 26 := by rw [hw96]; exact ni82
  have u113 : uc w96 = uc w + 25 := by rw [hw96]; exact ui82
  have s114 : us w96 = us w + 642 := by rw [hw96]; exact si82
  have g115 : ∀ q, q < r → gi w96 q = gi w q ∧ gr w96 q = gr w q ∧ ty w96 q = ty w q ∧ ln w96 q = ln w q := fun q hq => by have a := A97 q (Nat.ne_of_lt (Nat.lt_of_lt_of_le hq (Nat.le_add_right r 1))); have b := g95 q hq; exact ⟨a.1.trans b.1, a.2.1.trans b.2.1, a.2.2.1.trans b.2.2.1, a.2.2.2.trans b.2.2.2⟩
  clear A97 f83 f84 f85 f86 f87 f88 f89 f90 f91 f92 f93 f94 g95 hw96 ni82 si82 ui82
  refine WP.blk 1 ?_
  show ir (1 + 1) ∧ WP 3 12 35 [vR r, vI 2] [] w96 Q
  refine ⟨⟨by decide, by decide⟩, ?_⟩
  refine WP.blk 1 ?_
  show WP 3 12 14 [vR r, vI 2] [] w96 Q
  refine WP.blk 1 ?_
  show WP 3 12 15 [vR r, vI 2] [vI 2] w96 Q
  refine WP.blk 1 ?_
  show WP 3 12 16 [vR r, vI 2] [vI 4, vI 2] w96 Q
  refine WP.blk 1 ?_
  show WP 3 12 19 [vR r, vI 2] [] w96 Q
  refine WP.blk 1 ?_
  show WP 3 12 20 [vR r, vI 2] [vR r] w96 Q
  refine WP.blk 1 ?_
  show (ty w96 r = 3 ∧ gr w96 r 0 ≠ 0) ∧ WP 3 12 23 [vR r, vI 2] [vR (gr w96 r 0)] w96 Q
  refine ⟨⟨f98, by rw [f100]; exact Nat.succ_ne_zero _⟩, ?_⟩
  rw [f100]
  refine WP.blk 1 ?_
  show WP 3 12 24 [vR r, vI 2] [vI 2, vR (r + 1)] w96 Q
  refine WP.blk 1 ?_
  show WP 3 12 27 [vR r, vI 2] [vR (nx w96), vI 2, vR (r + 1)] (mk w96 8 6) Q
  rw [n112]
  obtain ⟨w116, hw116⟩ : ∃ y9, y9 = mk w96 8 6 := ⟨_, rfl⟩
  rw [← hw116]
  have A117 : ∀ q, q ≠ r + 26 → gi w116 q = gi w96 q ∧ gr w116 q = gr w96 q ∧ ty w116 q = ty w96 q ∧ ln w116 q = ln w96 q := fun q hq => by rw [hw116]; exact mk_o (by rw [n112]; exact hq)
  have f118 : ty w116 r = 3 := (A117 _ (nek r 0 26 rfl)).2.2.1.trans f98
  have f119 : gi w116 r = (fun _ => 0) := (A117 _ (nek r 0 26 rfl)).1.trans f99
  have f120 : gr w116 r 0 = (r + 1) := (congrFun (A117 _ (nek r 0 26 rfl)).2.1 _).trans f100
  have f121 : isSheet w116.2 (r + 2) := sheet_ag (fun q a b => A117 q (Nat.ne_of_lt (Nat.lt_of_lt_of_le b (lek r 2 12 26 rfl)))) f101
  have f122 : ShZ (gi w116) (r + 2) := shZ_ag (fun q a b => A117 q (Nat.ne_of_lt (Nat.lt_of_lt_of_le b (lek r 2 12 26 rfl)))) f102
  have f123 : ty w116 (r + 2) = 8 := (A117 _ (nek r 2 26 rfl)).2.2.1.trans f103
  have f124 : isSheet w116.2 (r + 14) := sheet_ag (fun q a b => A117 q (Nat.ne_of_lt (Nat.lt_of_lt_of_le b (lek r 14 12 26 rfl)))) f104
  have f125 : ShZ (gi w116) (r + 14) := shZ_ag (fun q a b => A117 q (Nat.ne_of_lt (Nat.lt_of_lt_of_le b (lek r 14 12 26 rfl)))) f105
  have f126 : ty w116 (r + 14) = 8 := (A117 _ (nek r 14 26 rfl)).2.2.1.trans f106
  have f127 : ty w116 (r + 1) = 13 := (A117 _ (nek r 1 26 rfl)).2.2.1.trans f107
  have f128 : ln w116 (r + 1) = 4 := (A117 _ (nek r 1 26 rfl)).2.2.2.trans f108
  have f129 : gi w116 (r + 1) = (fun _ => 0) := (A117 _ (nek r 1 26 rfl)).1.trans f109
  have f130 : gr w116 (r + 1) 0 = (r + 2) := (congrFun (A117 _ (nek r 1 26 rfl)).2.1 _).trans f110
  have f131 : gr w116 (r + 1) 1 = (r + 14) := (congrFun (A117 _ (nek r 1 26 rfl)).2.1 _).trans f111
  have e132 := mk_e (w := w96) (t := 8) (n := 6)
  rw [← hw116, n112] at e132
  have n133 : nx w116 = r + 27 := by rw [hw116]; exact congrArg (· + 1) n112
  have u134 : uc w116 = uc w + 26 := by rw [hw116]; exact congrArg (· + 1) u113
  have s135 : us w116 = us w + 648 := by rw [hw116]; exact congrArg (· + 6) s114
  have g136 : ∀ q, q < r → gi w116 q = gi w q ∧ gr w116 q = gr w q ∧ ty w116 q = ty w q ∧ ln w116 q = ln w q := fun q hq => by have a := A117 q (Nat.ne_of_lt (Nat.lt_of_lt_of_le hq (Nat.le_add_right r 26))); have b := g115 q hq; exact ⟨a.1.trans b.1, a.2.1.trans b.2.1, a.2.2.1.trans b.2.2.1, a.2.2.2.trans b.2.2.2⟩
  clear A117 f100 f101 f102 f103 f104 f105 f106 f107 f108 f109 f110 f111 f98 f99 g115 hw116 n112 s114 u113
  refine WP.blk 1 ?_
  show WP 3 12 28 [vR r, vI 2] [vR (r + 26), vR (r + 26), vI 2, vR (r + 1)] w116 Q
  refine WP.cl (a := [vR (r + 26)]) (rest := [vR (r + 26), vI 2, vR (r + 1)]) rfl rfl rfl rfl trivial (by decide) (c_sheet n133 e132.2.1 e132.1 (fun w137 hA138 hni139 hui139 hsi139 f140 f141 => ⟨rfl, ?_⟩))
  show WP 3 12 31 [vR r, vI 2] [vR (r + 26), vI 2, vR (r + 1)] w137 Q
  have A138 : ∀ q, q < r + 26 → gi w137 q = gi w116 q ∧ gr w137 q = gr w116 q ∧ ty w137 q = ty w116 q ∧ ln w137 q = ln w116 q := fun q hq => hA138 q (Nat.zero_le _) hq
  have f142 : ty w137 r = 3 := (A138 _ (ltk r 0 26 rfl)).2.2.1.trans f118
  have f143 : gi w137 r = (fun _ => 0) := (A138 _ (ltk r 0 26 rfl)).1.trans f119
  have f144 : gr w137 r 0 = (r + 1) := (congrFun (A138 _ (ltk r 0 26 rfl)).2.1 _).trans f120
  have f145 : isSheet w137.2 (r + 2) := sheet_ag (fun q a b => A138 q (Nat.lt_of_lt_of_le b (lek r 2 12 26 rfl))) f121
  have f146 : ShZ (gi w137) (r + 2) := shZ_ag (fun q a b => A138 q (Nat.lt_of_lt_of_le b (lek r 2 12 26 rfl))) f122
  have f147 : ty w137 (r + 2) = 8 := (A138 _ (ltk r 2 26 rfl)).2.2.1.trans f123
  have f148 : isSheet w137.2 (r + 14) := sheet_ag (fun q a b => A138 q (Nat.lt_of_lt_of_le b (lek r 14 12 26 rfl))) f124
  have f149 : ShZ (gi w137) (r + 14) := shZ_ag (fun q a b => A138 q (Nat.lt_of_lt_of_le b (lek r 14 12 26 rfl))) f125
  have f150 : ty w137 (r + 14) = 8 := (A138 _ (ltk r 14 26 rfl)).2.2.1.trans f126
  have f151 : ty w137 (r + 1) = 13 := (A138 _ (ltk r 1 26 rfl)).2.2.1.trans f127
  have f152 : ln w137 (r + 1) = 4 := (A138 _ (ltk r 1 26 rfl)).2.2.2.trans f128
  have f153 : gi w137 (r + 1) = (fun _ => 0) := (A138 _ (ltk r 1 26 rfl)).1.trans f129
  have f154 : gr w137 (r + 1) 0 = (r + 2) := (congrFun (A138 _ (ltk r 1 26 rfl)).2.1 _).trans f130
  have f155 : gr w137 (r + 1) 1 = (r + 14) := (congrFun (A138 _ (ltk r 1 26 rfl)).2.1 _).trans f131
  have ni139 : nx w137 = r + 38 := hni139
  have ui139 : uc w137 = uc w + 37 := hui139.trans (congrArg (· + 11) u134)
  have si139 : us w137 = us w + 961 := hsi139.trans (congrArg (· + 313) s135)
  have g156 : ∀ q, q < r → gi w137 q = gi w q ∧ gr w137 q = gr w q ∧ ty w137 q = ty w q ∧ ln w137 q = ln w q := fun q hq => by have a := A138 q (Nat.lt_of_lt_of_le hq (Nat.le_add_right r 26)); have b := g136 q hq; exact ⟨a.1.trans b.1, a.2.1.trans b.2.1, a.2.2.1.trans b.2.2.1, a.2.2.2.trans b.2.2.2⟩
  clear A138 e132 f118 f119 f120 f121 f122 f123 f124 f125 f126 f127 f128 f129 f130 f131 g136 hA138 hni139 hsi139 hui139 n133 s135 u134
  refine WP.blk 1 ?_
  show (ref3 (ty w137 (r + 1)) ∧ 0 ≤ (2 : Int) ∧ (2 : Int) < (ln w137 (r + 1) : Int) ∧ ty w137 (r + 26) = el3 (ty w137 (r + 1))) ∧ WP 3 12 32 [vR r, vI 2] [] (sr w137 (r + 1) 2 (r + 26)) Q
  refine ⟨⟨Or.inl f151, by decide, by rw [f152]; decide, by rw [f151]; exact f140.1⟩, ?_⟩
  obtain ⟨w157, hw157⟩ : ∃ y9, y9 = sr w137 (r + 1) 2 (r + 26) := ⟨_, rfl⟩
  rw [← hw157]
  have A158 : ∀ q, q ≠ r + 1 → gi w157 q = gi w137 q ∧ gr w157 q = gr w137 q ∧ ty w157 q = ty w137 q ∧ ln w157 q = ln w137 q := fun q hq => by rw [hw157]; exact sr_o hq
  have f159 : ty w157 r = 3 := (A158 _ (nek r 0 1 rfl)).2.2.1.trans f142
  have f160 : gi w157 r = (fun _ => 0) := (A158 _ (nek r 0 1 rfl)).1.trans f143
  have f161 : gr w157 r 0 = (r + 1) := (congrFun (A158 _ (nek r 0 1 rfl)).2.1 _).trans f144
  have f162 : isSheet w157.2 (r + 2) := sheet_ag (fun q a b => A158 q (Nat.ne_of_gt (Nat.lt_of_lt_of_le (ltk r 1 2 rfl) a))) f145
  have f163 : ShZ (gi w157) (r + 2) := shZ_ag (fun q a b => A158 q (Nat.ne_of_gt (Nat.lt_of_lt_of_le (ltk r 1 2 rfl) a))) f146
  have f164 : ty w157 (r + 2) = 8 := (A158 _ (nek r 2 1 rfl)).2.2.1.trans f147
  have f165 : isSheet w157.2 (r + 14) := sheet_ag (fun q a b => A158 q (Nat.ne_of_gt (Nat.lt_of_lt_of_le (ltk r 1 14 rfl) a))) f148
  have f166 : ShZ (gi w157) (r + 14) := shZ_ag (fun q a b => A158 q (Nat.ne_of_gt (Nat.lt_of_lt_of_le (ltk r 1 14 rfl) a))) f149
  have f167 : ty w157 (r + 14) = 8 := (A158 _ (nek r 14 1 rfl)).2.2.1.trans f150
  have f168 : isSheet w157.2 (r + 26) := sheet_ag (fun q a b => A158 q (Nat.ne_of_gt (Nat.lt_of_lt_of_le (ltk r 1 26 rfl) a))) f140
  have f169 : ShZ (gi w157) (r + 26) := shZ_ag (fun q a b => A158 q (Nat.ne_of_gt (Nat.lt_of_lt_of_le (ltk r 1 26 rfl) a))) f141
  have f170 : ty w157 (r + 26) = 8 := (A158 _ (nek r 26 1 rfl)).2.2.1.trans f140.1
  have f171 : ty w157 (r + 1) = 13 := by rw [hw157]; exact f151
  have f172 : ln w157 (r + 1) = 4 := by rw [hw157]; exact f152
  have f173 : gi w157 (r + 1) = (fun _ => 0) := by rw [hw157]; exact f153
  have f174 : gr w157 (r + 1) 0 = (r + 2) := by rw [hw157]; exact (sr_k (by decide)).trans f154
  have f175 : gr w157 (r + 1) 1 = (r + 14) := by rw [hw157]; exact (sr_k (by decide)).trans f155
  have f176 : gr w157 (r + 1) 2 = (r + 26) := by rw [hw157]; exact sr_e
  have n177 : nx w157 = r + 38 := by rw [hw157]; exact ni139
  have u178 : uc w157 = uc w + 37 := by rw [hw157]; exact ui139
  have s179 : us w157 = us w + 961 := by rw [hw157]; exact si139
  have g180 : ∀ q, q < r → gi w157 q = gi w q ∧ gr w157 q = gr w q ∧ ty w157 q = ty w q ∧ ln w157 q = ln w q := fun q hq => by have a := A158 q (Nat.ne_of_lt (Nat.lt_of_lt_of_le hq (Nat.le_add_right r 1))); have b := g156 q hq; exact ⟨a.1.trans b.1, a.2.1.trans b.2.1, a.2.2.1.trans b.2.2.1, a.2.2.2.trans b.2.2.2⟩
  clear A158 f140 f141 f142 f143 f144 f145 f146 f147 f148 f149 f150 f151 f152 f153 f154 f155 g156 hw157 ni139 si139 ui139
  refine WP.blk 1 ?_
  show ir (2 + 1) ∧ WP 3 12 35 [vR r, vI 3] [] w157 Q
  refine ⟨⟨by decide, by decide⟩, ?_⟩
  refine WP.blk 1 ?_
  show WP 3 12 14 [vR r, vI 3] [] w157 Q
  refine WP.blk 1 ?_
  show WP 3 12 15 [vR r, vI 3] [vI 3] w157 Q
  refine WP.blk 1 ?_
  show WP 3 12 16 [vR r, vI 3] [vI 4, vI 3] w157 Q
  refine WP.blk 1 ?_
  show WP 3 12 19 [vR r, vI 3] [] w157 Q
  refine WP.blk 1 ?_
  show WP 3 12 20 [vR r, vI 3] [vR r] w157 Q
  refine WP.blk 1 ?_
  show (ty w157 r = 3 ∧ gr w157 r 0 ≠ 0) ∧ WP 3 12 23 [vR r, vI 3] [vR (gr w157 r 0)] w157 Q
  refine ⟨⟨f159, by rw [f161]; exact Nat.succ_ne_zero _⟩, ?_⟩
  rw [f161]
  refine WP.blk 1 ?_
  show WP 3 12 24 [vR r, vI 3] [vI 3, vR (r + 1)] w157 Q
  refine WP.blk 1 ?_
  show WP 3 12 27 [vR r, vI 3] [vR (nx w157), vI 3, vR (r + 1)] (mk w157 8 6) Q
  rw [n177]
  obtain ⟨w181, hw181⟩ : ∃ y9, y9 = mk w157 8 6 := ⟨_, rfl⟩
  rw [← hw181]
  have A182 : ∀ q, q ≠ r + 38 → gi w181 q = gi w157 q ∧ gr w181 q = gr w157 q ∧ ty w181 q = ty w157 q ∧ ln w181 q = ln w157 q := fun q hq => by rw [hw181]; exact mk_o (by rw [n177]; exact hq)
  have f183 : ty w181 r = 3 := (A182 _ (nek r 0 38 rfl)).2.2.1.trans f159
  have f184 : gi w181 r = (fun _ => 0) := (A182 _ (nek r 0 38 rfl)).1.trans f160
  have f185 : gr w181 r 0 = (r + 1) := (congrFun (A182 _ (nek r 0 38 rfl)).2.1 _).trans f161
  have f186 : isSheet w181.2 (r + 2) := sheet_ag (fun q a b => A182 q (Nat.ne_of_lt (Nat.lt_of_lt_of_le b (lek r 2 12 38 rfl)))) f162
  have f187 : ShZ (gi w181) (r + 2) := shZ_ag (fun q a b => A182 q (Nat.ne_of_lt (Nat.lt_of_lt_of_le b (lek r 2 12 38 rfl)))) f163
  have f188 : ty w181 (r + 2) = 8 := (A182 _ (nek r 2 38 rfl)).2.2.1.trans f164
  have f189 : isSheet w181.2 (r + 14) := sheet_ag (fun q a b => A182 q (Nat.ne_of_lt (Nat.lt_of_lt_of_le b (lek r 14 12 38 rfl)))) f165
  have f190 : ShZ (gi w181) (r + 14) := shZ_ag (fun q a b => A182 q (Nat.ne_of_lt (Nat.lt_of_lt_of_le b (lek r 14 12 38 rfl)))) f166
  have f191 : ty w181 (r + 14) = 8 := (A182 _ (nek r 14 38 rfl)).2.2.1.trans f167
  have f192 : isSheet w181.2 (r + 26) := sheet_ag (fun q a b => A182 q (Nat.ne_of_lt (Nat.lt_of_lt_of_le b (lek r 26 12 38 rfl)))) f168
  have f193 : ShZ (gi w181) (r + 26) := shZ_ag (fun q a b => A182 q (Nat.ne_of_lt (Nat.lt_of_lt_of_le b (lek r 26 12 38 rfl)))) f169
  have f194 : ty w181 (r + 26) = 8 := (A182 _ (nek r 26 38 rfl)).2.2.1.trans f170
  have f195 : ty w181 (r + 1) = 13 := (A182 _ (nek r 1 38 rfl)).2.2.1.trans f171
  have f196 : ln w181 (r + 1) = 4 := (A182 _ (nek r 1 38 rfl)).2.2.2.trans f172
  have f197 : gi w181 (r + 1) = (fun _ => 0) := (A182 _ (nek r 1 38 rfl)).1.trans f173
  have f198 : gr w181 (r + 1) 0 = (r + 2) := (congrFun (A182 _ (nek r 1 38 rfl)).2.1 _).trans f174
  have f199 : gr w181 (r + 1) 1 = (r + 14) := (congrFun (A182 _ (nek r 1 38 rfl)).2.1 _).trans f175
  have f200 : gr w181 (r + 1) 2 = (r + 26) := (congrFun (A182 _ (nek r 1 38 rfl)).2.1 _).trans f176
  have e201 := mk_e (w := w157) (t := 8) (n := 6)
  rw [← hw181, n177] at e201
  have n202 : nx w181 = r + 39 := by rw [hw181]; exact congrArg (· + 1) n177
  have u203 : uc w181 = uc w + 38 := by rw [hw181]; exact congrArg (· + 1) u178
  have s204 : us w181 = us w + 967 := by rw [hw181]; exact congrArg (· + 6) s179
  have g205 : ∀ q, q < r → gi w181 q = gi w q ∧ gr w181 q = gr w q ∧ ty w181 q = ty w q ∧ ln w181 q = ln w q := fun q hq => by have a := A182 q (Nat.ne_of_lt (Nat.lt_of_lt_of_le hq (Nat.le_add_right r 38))); have b := g180 q hq; exact ⟨a.1.trans b.1, a.2.1.trans b.2.1, a.2.2.1.trans b.2.2.1, a.2.2.2.trans b.2.2.2⟩
  clear A182 f159 f160 f161 f162 f163 f164 f165 f166 f167 f168 f169 f170 f171 f172 f173 f174 f175 f176 g180 hw181 n177 s179 u178
  refine WP.blk 1 ?_
  show WP 3 12 28 [vR r, vI 3] [vR (r + 38), vR (r + 38), vI 3, vR (r + 1)] w181 Q
  refine WP.cl (a := [vR (r + 38)]) (rest := [vR (r + 38), vI 3, vR (r + 1)]) rfl rfl rfl rfl trivial (by decide) (c_sheet n202 e201.2.1 e201.1 (fun w206 hA207 hni208 hui208 hsi208 f209 f210 => ⟨rfl, ?_⟩))
  show WP 3 12 31 [vR r, vI 3] [vR (r + 38), vI 3, vR (r + 1)] w206 Q
  have A207 : ∀ q, q < r + 38 → gi w206 q = gi w181 q ∧ gr w206 q = gr w181 q ∧ ty w206 q = ty w181 q ∧ ln w206 q = ln w181 q := fun q hq => hA207 q (Nat.zero_le _) hq
  have f211 : ty w206 r = 3 := (A207 _ (ltk r 0 38 rfl)).2.2.1.trans f183
  have f212 : gi w206 r = (fun _ => 0) := (A207 _ (ltk r 0 38 rfl)).1.trans f184
  have f213 : gr w206 r 0 = (r + 1) := (congrFun (A207 _ (ltk r 0 38 rfl)).2.1 _).trans f185
  have f214 : isSheet w206.2 (r + 2) := sheet_ag (fun q a b => A207 q (Nat.lt_of_lt_of_le b (lek r 2 12 38 rfl))) f186
  have f215 : ShZ (gi w206) (r + 2) := shZ_ag (fun q a b => A207 q (Nat.lt_of_lt_of_le b (lek r 2 12 38 rfl))) f187
  have f216 : ty w206 (r + 2) = 8 := (A207 _ (ltk r 2 38 rfl)).2.2.1.trans f188
  have f217 : isSheet w206.2 (r + 14) := sheet_ag (fun q a b => A207 q (Nat.lt_of_lt_of_le b (lek r 14 12 38 rfl))) f189
  have f218 : ShZ (gi w206) (r + 14) := shZ_ag (fun q a b => A207 q (Nat.lt_of_lt_of_le b (lek r 14 12 38 rfl))) f190
  have f219 : ty w206 (r + 14) = 8 := (A207 _ (ltk r 14 38 rfl)).2.2.1.trans f191
  have f220 : isSheet w206.2 (r + 26) := sheet_ag (fun q a b => A207 q (Nat.lt_of_lt_of_le b (lek r 26 12 38 rfl))) f192
  have f221 : ShZ (gi w206) (r + 26) := shZ_ag (fun q a b => A207 q (Nat.lt_of_lt_of_le b (lek r 26 12 38 rfl))) f193
  have f222 : ty w206 (r + 26) = 8 := (A207 _ (ltk r 26 38 rfl)).2.2.1.trans f194
  have f223 : ty w206 (r + 1) = 13 := (A207 _ (ltk r 1 38 rfl)).2.2.1.trans f195
  have f224 : ln w206 (r + 1) = 4 := (A207 _ (ltk r 1 38 rfl)).2.2.2.trans f196
  have f225 : gi w206 (r + 1) = (fun _ => 0) := (A207 _ (ltk r 1 38 rfl)).1.trans f197
  have f226 : gr w206 (r + 1) 0 = (r + 2) := (congrFun (A207 _ (ltk r 1 38 rfl)).2.1 _).trans f198
  have f227 : gr w206 (r + 1) 1 = (r + 14) := (congrFun (A207 _ (ltk r 1 38 rfl)).2.1 _).trans f199
  have f228 : gr w206 (r + 1) 2 = (r + 26) := (congrFun (A207 _ (ltk r 1 38 rfl)).2.1 _).trans f200
  have ni208 : nx w206 = r + 50 := hni208
  have ui208 : uc w206 = uc w + 49 := hui208.trans (congrArg (· + 11) u203)
  have si208 : us w206 = us w + 1280 := hsi208.trans (congrArg (· + 313) s204)
  have g229 : ∀ q, q < r → gi w206 q = gi w q ∧ gr w206 q = gr w q ∧ ty w206 q = ty w q ∧ ln w206 q = ln w q := fun q hq => by have a := A207 q (Nat.lt_of_lt_of_le hq (Nat.le_add_right r 38)); have b := g205 q hq; exact ⟨a.1.trans b.1, a.2.1.trans b.2.1, a.2.2.1.trans b.2.2.1, a.2.2.2.trans b.2.2.2⟩
  clear A207 e201 f183 f184 f185 f186 f187 f188 f189 f190 f191 f192 f193 f194 f195 f196 f197 f198 f199 f200 g205 hA207 hni208 hsi208 hui208 n202 s204 u203
  refine WP.blk 1 ?_
  show (ref3 (ty w206 (r + 1)) ∧ 0 ≤ (3 : Int) ∧ (3 : Int) < (ln w206 (r + 1) : Int) ∧ ty w206 (r + 38) = el3 (ty w206 (r + 1))) ∧ WP 3 12 32 [vR r, vI 3] [] (sr w206 (r + 1) 3 (r + 38)) Q
  refine ⟨⟨Or.inl f223, by decide, by rw [f224]; decide, by rw [f223]; exact f209.1⟩, ?_⟩
  obtain ⟨w230, hw230⟩ : ∃ y9, y9 = sr w206 (r + 1) 3 (r + 38) := ⟨_, rfl⟩
  rw [← hw230]
  have A231 : ∀ q, q ≠ r + 1 → gi w230 q = gi w206 q ∧ gr w230 q = gr w206 q ∧ ty w230 q = ty w206 q ∧ ln w230 q = ln w206 q := fun q hq => by rw [hw230]; exact sr_o hq
  have f232 : ty w230 r = 3 := (A231 _ (nek r 0 1 rfl)).2.2.1.trans f211
  have f233 : gi w230 r = (fun _ => 0) := (A231 _ (nek r 0 1 rfl)).1.trans f212
  have f234 : gr w230 r 0 = (r + 1) := (congrFun (A231 _ (nek r 0 1 rfl)).2.1 _).trans f213
  have f235 : isSheet w230.2 (r + 2) := sheet_ag (fun q a b => A231 q (Nat.ne_of_gt (Nat.lt_of_lt_of_le (ltk r 1 2 rfl) a))) f214
  have f236 : ShZ (gi w230) (r + 2) := shZ_ag (fun q a b => A231 q (Nat.ne_of_gt (Nat.lt_of_lt_of_le (ltk r 1 2 rfl) a))) f215
  have f237 : ty w230 (r + 2) = 8 := (A231 _ (nek r 2 1 rfl)).2.2.1.trans f216
  have f238 : isSheet w230.2 (r + 14) := sheet_ag (fun q a b => A231 q (Nat.ne_of_gt (Nat.lt_of_lt_of_le (ltk r 1 14 rfl) a))) f217
  have f239 : ShZ (gi w230) (r + 14) := shZ_ag (fun q a b => A231 q (Nat.ne_of_gt (Nat.lt_of_lt_of_le (ltk r 1 14 rfl) a))) f218
  have f240 : ty w230 (r + 14) = 8 := (A231 _ (nek r 14 1 rfl)).2.2.1.trans f219
  have f241 : isSheet w230.2 (r + 26) := sheet_ag (fun q a b => A231 q (Nat.ne_of_gt (Nat.lt_of_lt_of_le (ltk r 1 26 rfl) a))) f220
  have f242 : ShZ (gi w230) (r + 26) := shZ_ag (fun q a b => A231 q (Nat.ne_of_gt (Nat.lt_of_lt_of_le (ltk r 1 26 rfl) a))) f221
  have f243 : ty w230 (r + 26) = 8 := (A231 _ (nek r 26 1 rfl)).2.2.1.trans f222
  have f244 : isSheet w230.2 (r + 38) := sheet_ag (fun q a b => A231 q (Nat.ne_of_gt (Nat.lt_of_lt_of_le (ltk r 1 38 rfl) a))) f209
  have f245 : ShZ (gi w230) (r + 38) := shZ_ag (fun q a b => A231 q (Nat.ne_of_gt (Nat.lt_of_lt_of_le (ltk r 1 38 rfl) a))) f210
  have f246 : ty w230 (r + 38) = 8 := (A231 _ (nek r 38 1 rfl)).2.2.1.trans f209.1
  have f247 : ty w230 (r + 1) = 13 := by rw [hw230]; exact f223
  have f248 : ln w230 (r + 1) = 4 := by rw [hw230]; exact f224
  have f249 : gi w230 (r + 1) = (fun _ => 0) := by rw [hw230]; exact f225
  have f250 : gr w230 (r + 1) 0 = (r + 2) := by rw [hw230]; exact (sr_k (by decide)).trans f226
  have f251 : gr w230 (r + 1) 1 = (r + 14) := by rw [hw230]; exact (sr_k (by decide)).trans f227
  have f252 : gr w230 (r + 1) 2 = (r + 26) := by rw [hw230]; exact (sr_k (by decide)).trans f228
  have f253 : gr w230 (r + 1) 3 = (r + 38) := by rw [hw230]; exact sr_e
  have n254 : nx w230 = r + 50 := by rw [hw230]; exact ni208
  have u255 : uc w230 = uc w + 49 := by rw [hw230]; exact ui208
  have s256 : us w230 = us w + 1280 := by rw [hw230]; exact si208
  have g257 : ∀ q, q < r → gi w230 q = gi w q ∧ gr w230 q = gr w q ∧ ty w230 q = ty w q ∧ ln w230 q = ln w q := fun q hq => by have a := A231 q (Nat.ne_of_lt (Nat.lt_of_lt_of_le hq (Nat.le_add_right r 1))); have b := g229 q hq; exact ⟨a.1.trans b.1, a.2.1.trans b.2.1, a.2.2.1.trans b.2.2.1, a.2.2.2.trans b.2.2.2⟩
  clear A231 f209 f210 f211 f212 f213 f214 f215 f216 f217 f218 f219 f220 f221 f222 f223 f224 f225 f226 f227 f228 g229 hw230 ni208 si208 ui208
  refine WP.blk 1 ?_
  show ir (3 + 1) ∧ WP 3 12 35 [vR r, vI 4] [] w230 Q
  refine ⟨⟨by decide, by decide⟩, ?_⟩
  refine WP.blk 1 ?_
  show WP 3 12 14 [vR r, vI 4] [] w230 Q
  refine WP.blk 1 ?_
  show WP 3 12 15 [vR r, vI 4] [vI 4] w230 Q
  refine WP.blk 1 ?_
  show WP 3 12 16 [vR r, vI 4] [vI 4, vI 4] w230 Q
  refine WP.blk 1 ?_
  show WP 3 12 38 [vR r, vI 4] [] w230 Q
  have hk : ∀ i : Int, 0 ≤ i → i < 4 → gr w230 (r + 1) i = r + 2 + 12 * i.toNat := fun i a b => by
    rcases (show i = 0 ∨ i = 1 ∨ i = 2 ∨ i = 3 by omega) with e | e | e | e
    · rw [e]; exact f250
    · rw [e]; exact f251
    · rw [e]; exact f252
    · rw [e]; exact f253
  exact WP.ret rfl rfl rfl trivial (k _ (fun q _ hq => g257 q hq) n254 u255 s256 ⟨⟨f232, f234, f247, f248⟩, ⟨f235, f238, f241, f244⟩, fun i a b => by rw [show sR w230.2 (r + 1) i = _ from hk i a b]; omega, fun i j a b c d e => by rw [show sR w230.2 (r + 1) i = _ from hk i a b, show sR w230.2 (r + 1) j = _ from hk j c d]; omega⟩ ⟨⟨congrFun f233 1, by omega, by omega⟩, ⟨f236.1, f239.1, f242.1, f245.1⟩, fun j a b => by omega⟩)
