set_option maxHeartbeats 4000000 in
theorem q_stampAt {S : SD} {M : Nat → Int → Int} {s : Int} (h0 : 0 ≤ s ∧ s ≤ 1000) {Q : Res → Wd → Prop} (k : Q (0, vI (7 + 9 * s)) (M, S)) : EvQ 1 119 [vI s] (M, S) Q := by
  refine EvQ.enter (ls := [vI s]) (Nat.le_of_ble_eq_true rfl) rfl ?_
  refine WP.blk 5 ?_
  show ir (9 * s) ∧ ir (7 + (9 * s)) ∧ WP 0 119 7 [vI s] [vI (7 + (9 * s))] (M, S) Q
  refine ⟨(by unfold ir; omega), (by unfold ir; omega), ?_⟩
  exact WP.ret rfl rfl rfl trivial k
set_option maxHeartbeats 4000000 in
theorem q_wordAt {S : SD} {M : Nat → Int → Int} {w : Int} (h0 : 0 ≤ w ∧ w ≤ 1000) {Q : Res → Wd → Prop} (k : Q (0, vI (97 + 14 * w)) (M, S)) : EvQ 1 120 [vI w] (M, S) Q := by
  refine EvQ.enter (ls := [vI w]) (Nat.le_of_ble_eq_true rfl) rfl ?_
  refine WP.blk 5 ?_
  show ir (14 * w) ∧ ir (97 + (14 * w)) ∧ WP 0 120 7 [vI w] [vI (97 + (14 * w))] (M, S) Q
  refine ⟨(by unfold ir; omega), (by unfold ir; omega), ?_⟩
  exact WP.ret rfl rfl rfl trivial k
set_option maxHeartbeats 4000000 in
theorem q_in {S : SD} {M : Nat → Int → Int} {v lo hi : Int}  {Q : Res → Wd → Prop} (k : ∀ b : Int, (b = 1 ∧ lo ≤ v ∧ v ≤ hi) ∨ (b = 0 ∧ ¬ (lo ≤ v ∧ v ≤ hi)) → Q (0, vI b) (M, S)) : EvQ 1 112 [vI v, vI lo, vI hi] (M, S) Q := by
  refine EvQ.enter (ls := [vI v, vI lo, vI hi]) (Nat.le_of_ble_eq_true rfl) rfl ?_
  refine WP.blk 3 ?_
  show WP 0 112 (if cnd .lt v lo = true then 14 else 5) [vI v, vI lo, vI hi] [] (M, S) Q
  refine br_lt (fun c_1 => ?_) (fun c_1 => ?_)
  · refine WP.blk 1 ?_
    show WP 0 112 15 [vI v, vI lo, vI hi] [vI 0] (M, S) Q
    exact WP.ret rfl rfl rfl ⟨by omega, trivial⟩ (k _ (by omega))
  · refine WP.blk 3 ?_
    show WP 0 112 (if cnd .gt v hi = true then 14 else 10) [vI v, vI lo, vI hi] [] (M, S) Q
    refine br_gt (fun c_2 => ?_) (fun c_2 => ?_)
    · refine WP.blk 1 ?_
      show WP 0 112 15 [vI v, vI lo, vI hi] [vI 0] (M, S) Q
      exact WP.ret rfl rfl rfl ⟨by omega, trivial⟩ (k _ (by omega))
    · refine WP.blk 2 ?_
      show WP 0 112 15 [vI v, vI lo, vI hi] [vI 1] (M, S) Q
      exact WP.ret rfl rfl rfl ⟨by omega, trivial⟩ (k _ (by omega))
set_option maxHeartbeats 4000000 in
theorem q_thrown {S : SD} {M : Nat → Int → Int} {m : Nat} (hS : isMod S m) {Q : Res → Wd → Prop} (k : Q (0, vI (M m 5)) (M, S)) : EvQ 1 110 [vR m] (M, S) Q := by
  refine EvQ.enter (ls := [vR m]) (Nat.le_of_ble_eq_true rfl) rfl ?_
  refine WP.blk 2 ?_
  show sT S m = 10 ∧ WP 0 110 4 [vR m] [vI (M m 5)] (M, S) Q
  refine ⟨hS.1.1, ?_⟩
  exact WP.ret rfl rfl rfl trivial k
set_option maxHeartbeats 4000000 in
theorem q_refused {S : SD} {M : Nat → Int → Int} {m : Nat} {x : Int} (hS : isMod S m) {Q : Res → Wd → Prop} (k : ∀ b : Int, (b = 1 ∧ 0 < x) ∨ (b = 0 ∧ ¬ (0 < x)) → Q (0, vI b) (up M m 5 x, S)) : EvQ 1 111 [vR m, vI x] (M, S) Q := by
  refine EvQ.enter (ls := [vR m, vI x]) (Nat.le_of_ble_eq_true rfl) rfl ?_
  refine WP.blk 3 ?_
  show sT S m = 10 ∧ WP 0 111 5 [vR m, vI x] [] (up M m 5 x, S) Q
  refine ⟨hS.1.1, ?_⟩
  generalize hM_1 : up M m 5 x = M_1
  refine WP.blk 2 ?_
  show WP 0 111 (if cnd .le x 0 = true then 13 else 9) [vR m, vI x] [] (M_1, S) Q
  refine br_le (fun c_2 => ?_) (fun c_2 => ?_)
  · refine WP.blk 1 ?_
    show WP 0 111 14 [vR m, vI x] [vI 0] (M_1, S) Q
    exact WP.ret rfl rfl rfl ⟨by omega, trivial⟩ (by rw [← hM_1]; exact k _ (by omega))
  · refine WP.blk 2 ?_
    show WP 0 111 14 [vR m, vI x] [vI 1] (M_1, S) Q
    exact WP.ret rfl rfl rfl ⟨by omega, trivial⟩ (by rw [← hM_1]; exact k _ (by omega))
set_option maxHeartbeats 4000000 in
theorem q_isStamp {S : SD} {M : Nat → Int → Int} {m : Nat} {s : Int} (hS : isMod S m) (h0 : 0 ≤ M (m + 1) 0 ∧ M (m + 1) 0 ≤ 10) {Q : Res → Wd → Prop} (k : ∀ b : Int, (b = 1 ∧ 0 ≤ s ∧ s < M (m + 1) 0) ∨ (b = 0 ∧ ¬ (0 ≤ s ∧ s < M (m + 1) 0)) → Q (0, vI b) (M, S)) : EvQ 2 117 [vR m, vI s] (M, S) Q := by
  refine EvQ.enter (ls := [vR m, vI s]) (Nat.le_of_ble_eq_true rfl) rfl ?_
  refine WP.blk 4 ?_
  show (sT S m = 10 ∧ sR S m 0 ≠ 0) ∧ WP 1 117 6 [vR m, vI s] [vR (sR S m 0), vI 0, vI s] (M, S) Q
  refine ⟨⟨hS.1.1, by rw [hS.1.2.1]; omega⟩, ?_⟩
  rw [hS.1.2.1]
  refine WP.blk 4 ?_
  show ((sT S (m + 1) = 11 ∨ sT S (m + 1) = 16 ∨ sT S (m + 1) = 17) ∧ 0 ≤ 0 ∧ 0 < (sN S (m + 1) : Int)) ∧ ir ((M (m + 1) 0) - 1) ∧ WP 1 117 10 [vR m, vI s] [vI ((M (m + 1) 0) - 1), vI 0, vI s] (M, S) Q
  refine ⟨⟨Or.inl hS.2.1.1, by omega, by rw [hS.2.2.1]; omega⟩, (by unfold ir; omega), ?_⟩
  refine WP.cl (a := [vI s, vI 0, vI ((M (m + 1) 0) - 1)]) (rest := []) rfl rfl rfl rfl trivial (by decide) (q_in  (fun b_1 hb_1 => ⟨rfl, ?_⟩))
  show WP 1 117 13 [vR m, vI s] [vI b_1] (M, S) Q
  exact WP.ret rfl rfl rfl ⟨by omega, trivial⟩ (k _ (by omega))
set_option maxHeartbeats 4000000 in
theorem q_isWord {S : SD} {M : Nat → Int → Int} {m : Nat} {s : Int} (hS : isMod S m) (h0 : 0 ≤ M (m + 1) 1 ∧ M (m + 1) 1 ≤ 7) {Q : Res → Wd → Prop} (k : ∀ b : Int, (b = 1 ∧ 0 ≤ s ∧ s < M (m + 1) 1) ∨ (b = 0 ∧ ¬ (0 ≤ s ∧ s < M (m + 1) 1)) → Q (0, vI b) (M, S)) : EvQ 2 118 [vR m, vI s] (M, S) Q := by
  refine EvQ.enter (ls := [vR m, vI s]) (Nat.le_of_ble_eq_true rfl) rfl ?_
  refine WP.blk 4 ?_
  show (sT S m = 10 ∧ sR S m 0 ≠ 0) ∧ WP 1 118 6 [vR m, vI s] [vR (sR S m 0), vI 0, vI s] (M, S) Q
  refine ⟨⟨hS.1.1, by rw [hS.1.2.1]; omega⟩, ?_⟩
  rw [hS.1.2.1]
  refine WP.blk 4 ?_
  show ((sT S (m + 1) = 11 ∨ sT S (m + 1) = 16 ∨ sT S (m + 1) = 17) ∧ 0 ≤ 1 ∧ 1 < (sN S (m + 1) : Int)) ∧ ir ((M (m + 1) 1) - 1) ∧ WP 1 118 10 [vR m, vI s] [vI ((M (m + 1) 1) - 1), vI 0, vI s] (M, S) Q
  refine ⟨⟨Or.inl hS.2.1.1, by omega, by rw [hS.2.2.1]; omega⟩, (by unfold ir; omega), ?_⟩
  refine WP.cl (a := [vI s, vI 0, vI ((M (m + 1) 1) - 1)]) (rest := []) rfl rfl rfl rfl trivial (by decide) (q_in  (fun b_1 hb_1 => ⟨rfl, ?_⟩))
  show WP 1 118 13 [vR m, vI s] [vI b_1] (M, S) Q
  exact WP.ret rfl rfl rfl ⟨by omega, trivial⟩ (k _ (by omega))
set_option maxHeartbeats 4000000 in
theorem q_isWorn {S : SD} {M : Nat → Int → Int} {m : Nat} {s : Int} (hS : isMod S m) (h0 : 0 ≤ s ∧ s ≤ 9) {Q : Res → Wd → Prop} (k : ∀ b : Int, (b = 1 ∧ M (m + 1) 2 ≤ M (m + 1) (7 + 9 * s + 8)) ∨ (b = 0 ∧ ¬ (M (m + 1) 2 ≤ M (m + 1) (7 + 9 * s + 8))) → Q (0, vI b) (M, S)) : EvQ 2 121 [vR m, vI s] (M, S) Q := by
  refine EvQ.enter (ls := [vR m, vI s]) (Nat.le_of_ble_eq_true rfl) rfl ?_
  refine WP.blk 2 ?_
  show (sT S m = 10 ∧ sR S m 0 ≠ 0) ∧ WP 1 121 4 [vR m, vI s] [vR (sR S m 0)] (M, S) Q
  refine ⟨⟨hS.1.1, by rw [hS.1.2.1]; omega⟩, ?_⟩
  rw [hS.1.2.1]
  refine WP.blk 1 ?_
  show WP 1 121 5 [vR m, vI s] [vI s, vR (m + 1)] (M, S) Q
  refine WP.cl (a := [vI s]) (rest := [vR (m + 1)]) rfl rfl rfl rfl trivial (by decide) (q_stampAt (by omega) ⟨rfl, ?_⟩)
  show WP 1 121 8 [vR m, vI s] [vI (7 + 9 * s), vR (m + 1)] (M, S) Q
  refine WP.blk 5 ?_
  show ir ((7 + 9 * s) + 8) ∧ ((sT S (m + 1) = 11 ∨ sT S (m + 1) = 16 ∨ sT S (m + 1) = 17) ∧ 0 ≤ ((7 + 9 * s) + 8) ∧ ((7 + 9 * s) + 8) < (sN S (m + 1) : Int)) ∧ (sT S m = 10 ∧ sR S m 0 ≠ 0) ∧ WP 1 121 16 [vR m, vI s] [vR (sR S m 0), vI (M (m + 1) ((7 + 9 * s) + 8))] (M, S) Q
  refine ⟨(by unfold ir; omega), ⟨Or.inl hS.2.1.1, by omega, by rw [hS.2.2.1]; omega⟩, ⟨hS.1.1, by rw [hS.1.2.1]; omega⟩, ?_⟩
  rw [hS.1.2.1]
  refine WP.blk 3 ?_
  show ((sT S (m + 1) = 11 ∨ sT S (m + 1) = 16 ∨ sT S (m + 1) = 17) ∧ 0 ≤ 2 ∧ 2 < (sN S (m + 1) : Int)) ∧ WP 1 121 (if cnd .lt (M (m + 1) ((7 + 9 * s) + 8)) (M (m + 1) 2) = true then 25 else 21) [vR m, vI s] [] (M, S) Q
  refine ⟨⟨Or.inl hS.2.1.1, by omega, by rw [hS.2.2.1]; omega⟩, ?_⟩
  refine br_lt (fun c_1 => ?_) (fun c_1 => ?_)
  · refine WP.blk 1 ?_
    show WP 1 121 26 [vR m, vI s] [vI 0] (M, S) Q
    exact WP.ret rfl rfl rfl ⟨by omega, trivial⟩ (k _ (by omega))
  · refine WP.blk 2 ?_
    show WP 1 121 26 [vR m, vI s] [vI 1] (M, S) Q
    exact WP.ret rfl rfl rfl ⟨by omega, trivial⟩ (k _ (by omega))
-- copies of rows
set_option maxHeartbeats 4000000 in
theorem q_keeps {S : SD} {M : Nat → Int → Int} {m : Nat} (hS : isMod S m) {Q : Res → Wd → Prop} (k : Q (0, none) (cpy M (m + 1) 0 (m + 3) 0 195, S)) : EvQ 1 115 [vR m] (M, S) Q := by
  refine EvQ.enter (ls := [vR m, none]) (Nat.le_of_ble_eq_true rfl) rfl ?_
  refine WP.blk 2 ?_
  show WP 0 115 2 [vR m, vI 0] [] (M, S) Q
  have hl_2 : ∀ (n_2 : Nat) (i : Int) (M1 : Nat → Int → Int), 0 ≤ i ∧ i ≤ 195 → M1 = cpy M (m + 1) 0 (m + 3) 0 i → (195 - i).toNat < n_2 → WP 0 115 2 [vR m, vI i] [] (M1, S) Q := by
    intro n_2
    induction n_2 with
    | zero => intro i M1 h0 h1 hm_2; exact absurd hm_2 (Nat.not_lt_zero _)
    | succ n_2 ih_2 =>
      intro i M1 h0 h1 hm_2
      refine WP.blk 3 ?_
      show WP 0 115 (if cnd .ge i 195 = true then 27 else 9) [vR m, vI i] [] (M1, S) Q
      refine br_ge (fun c_1 => ?_) (fun c_1 => ?_)
      · exact WP.ret rfl rfl rfl trivial (by rw [show i = 195 by omega] at h1; rw [h1]; exact k)
      · refine WP.blk 2 ?_
        show (sT S m = 10 ∧ sR S m 2 ≠ 0) ∧ WP 0 115 13 [vR m, vI i] [vR (sR S m 2)] (M1, S) Q
        refine ⟨⟨hS.1.1, by rw [hS.1.2.2.2.1]; omega⟩, ?_⟩
        rw [hS.1.2.2.2.1]
        refine WP.blk 3 ?_
        show (sT S m = 10 ∧ sR S m 0 ≠ 0) ∧ WP 0 115 18 [vR m, vI i] [vR (sR S m 0), vI i, vR (m + 3)] (M1, S) Q
        refine ⟨⟨hS.1.1, by rw [hS.1.2.1]; omega⟩, ?_⟩
        rw [hS.1.2.1]
        refine WP.blk 3 ?_
        show ((sT S (m + 1) = 11 ∨ sT S (m + 1) = 16 ∨ sT S (m + 1) = 17) ∧ 0 ≤ i ∧ i < (sN S (m + 1) : Int)) ∧ (sT S (m + 3) = 11 ∧ 0 ≤ i ∧ i < (sN S (m + 3) : Int)) ∧ WP 0 115 21 [vR m, vI i] [] (up M1 (m + 3) i (M1 (m + 1) i), S) Q
        refine ⟨⟨Or.inl hS.2.1.1, by omega, by rw [hS.2.2.1]; omega⟩, ⟨hS.2.1.2.2.1, by omega, by rw [hS.2.2.2.2.1]; omega⟩, ?_⟩
        generalize hM_2 : up M1 (m + 3) i (M1 (m + 1) i) = M_2
        refine WP.blk 2 ?_
        show ir (i + 1) ∧ WP 0 115 2 [vR m, vI (i + 1)] [] (M_2, S) Q
        refine ⟨(by unfold ir; omega), ?_⟩
        exact ih_2 (i + 1) M_2 (by omega) (by rw [← hM_2, h1]; exact cpy_s (by omega) (by omega) (by omega) (by congr 1; omega)) (by omega)
  exact hl_2 _ 0 M (by omega) (cpy_0 _ _ _ _ _).symm (Nat.lt_succ_self _)
set_option maxHeartbeats 4000000 in
theorem q_takesBack {S : SD} {M : Nat → Int → Int} {m : Nat} (hS : isMod S m) {Q : Res → Wd → Prop} (k : Q (0, none) (cpy M (m + 3) 0 (m + 1) 0 195, S)) : EvQ 1 116 [vR m] (M, S) Q := by
  refine EvQ.enter (ls := [vR m, none]) (Nat.le_of_ble_eq_true rfl) rfl ?_
  refine WP.blk 2 ?_
  show WP 0 116 2 [vR m, vI 0] [] (M, S) Q
  have hl_2 : ∀ (n_2 : Nat) (i : Int) (M1 : Nat → Int → Int), 0 ≤ i ∧ i ≤ 195 → M1 = cpy M (m + 3) 0 (m + 1) 0 i → (195 - i).toNat < n_2 → WP 0 116 2 [vR m, vI i] [] (M1, S) Q := by
    intro n_2
    induction n_2 with
    | zero => intro i M1 h0 h1 hm_2; exact absurd hm_2 (Nat.not_lt_zero _)
    | succ n_2 ih_2 =>
      intro i M1 h0 h1 hm_2
      refine WP.blk 3 ?_
      show WP 0 116 (if cnd .ge i 195 = true then 27 else 9) [vR m, vI i] [] (M1, S) Q
      refine br_ge (fun c_1 => ?_) (fun c_1 => ?_)
      · exact WP.ret rfl rfl rfl trivial (by rw [show i = 195 by omega] at h1; rw [h1]; exact k)
      · refine WP.blk 2 ?_
        show (sT S m = 10 ∧ sR S m 0 ≠ 0) ∧ WP 0 116 13 [vR m, vI i] [vR (sR S m 0)] (M1, S) Q
        refine ⟨⟨hS.1.1, by rw [hS.1.2.1]; omega⟩, ?_⟩
        rw [hS.1.2.1]
        refine WP.blk 3 ?_
        show (sT S m = 10 ∧ sR S m 2 ≠ 0) ∧ WP 0 116 18 [vR m, vI i] [vR (sR S m 2), vI i, vR (m + 1)] (M1, S) Q
        refine ⟨⟨hS.1.1, by rw [hS.1.2.2.2.1]; omega⟩, ?_⟩
        rw [hS.1.2.2.2.1]
        refine WP.blk 3 ?_
        show ((sT S (m + 3) = 11 ∨ sT S (m + 3) = 16 ∨ sT S (m + 3) = 17) ∧ 0 ≤ i ∧ i < (sN S (m + 3) : Int)) ∧ (sT S (m + 1) = 11 ∧ 0 ≤ i ∧ i < (sN S (m + 1) : Int)) ∧ WP 0 116 21 [vR m, vI i] [] (up M1 (m + 1) i (M1 (m + 3) i), S) Q
        refine ⟨⟨Or.inl hS.2.1.2.2.1, by omega, by rw [hS.2.2.2.2.1]; omega⟩, ⟨hS.2.1.1, by omega, by rw [hS.2.2.1]; omega⟩, ?_⟩
        generalize hM_2 : up M1 (m + 1) i (M1 (m + 3) i) = M_2
        refine WP.blk 2 ?_
        show ir (i + 1) ∧ WP 0 116 2 [vR m, vI (i + 1)] [] (M_2, S) Q
        refine ⟨(by unfold ir; omega), ?_⟩
        exact ih_2 (i + 1) M_2 (by omega) (by rw [← hM_2, h1]; exact cpy_s (by omega) (by omega) (by omega) (by congr 1; omega)) (by omega)
  exact hl_2 _ 0 M (by omega) (cpy_0 _ _ _ _ _).symm (Nat.lt_succ_self _)
