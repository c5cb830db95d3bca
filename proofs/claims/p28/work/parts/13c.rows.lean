set_option maxHeartbeats 4000000 in
theorem q_has {S : SD} {M : Nat → Int → Int} {r : Nat} {row : Int} (hS : isRows S r) {Q : Res → Wd → Prop} (k : ∀ b : Int, (b = 1 ∧ 0 ≤ row ∧ row < M r 4 ∧ row < 10) ∨ (b = 0 ∧ ¬ (0 ≤ row ∧ row < M r 4 ∧ row < 10)) → Q (0, vI b) (M, S)) : EvQ 1 41 [vR r, vI row] (M, S) Q := by
  refine EvQ.enter (ls := [vR r, vI row]) (Nat.le_of_ble_eq_true rfl) rfl ?_
  refine WP.blk 2 ?_
  show WP 0 41 (if cnd .lt row 0 = true then 22 else 4) [vR r, vI row] [] (M, S) Q
  refine br_lt (fun c_1 => ?_) (fun c_1 => ?_)
  · refine WP.blk 1 ?_
    show WP 0 41 23 [vR r, vI row] [vI 0] (M, S) Q
    exact WP.ret rfl rfl rfl ⟨by omega, trivial⟩ (k _ (by omega))
  · refine WP.blk 4 ?_
    show sT S r = 7 ∧ WP 0 41 (if cnd .ge row (M r 4) = true then 22 else 12) [vR r, vI row] [] (M, S) Q
    refine ⟨hS.1, ?_⟩
    refine br_ge (fun c_2 => ?_) (fun c_2 => ?_)
    · refine WP.blk 1 ?_
      show WP 0 41 23 [vR r, vI row] [vI 0] (M, S) Q
      exact WP.ret rfl rfl rfl ⟨by omega, trivial⟩ (k _ (by omega))
    · refine WP.blk 3 ?_
      show WP 0 41 (if cnd .ge row 10 = true then 22 else 18) [vR r, vI row] [] (M, S) Q
      refine br_ge (fun c_3 => ?_) (fun c_3 => ?_)
      · refine WP.blk 1 ?_
        show WP 0 41 23 [vR r, vI row] [vI 0] (M, S) Q
        exact WP.ret rfl rfl rfl ⟨by omega, trivial⟩ (k _ (by omega))
      · refine WP.blk 2 ?_
        show WP 0 41 23 [vR r, vI row] [vI 1] (M, S) Q
        exact WP.ret rfl rfl rfl ⟨by omega, trivial⟩ (k _ (by omega))
set_option maxHeartbeats 4000000 in
theorem q_hasLetter {S : SD} {M : Nat → Int → Int} {r : Nat} {row i : Int} (hS : isRows S r) {Q : Res → Wd → Prop} (k : ∀ b : Int, (b = 1 ∧ 0 ≤ row ∧ row < M r 4 ∧ row < 10 ∧ 0 ≤ i ∧ i < M (r + 1) row ∧ i < 12) ∨ (b = 0 ∧ ¬ (0 ≤ row ∧ row < M r 4 ∧ row < 10 ∧ 0 ≤ i ∧ i < M (r + 1) row ∧ i < 12)) → Q (0, vI b) (M, S)) : EvQ 1 42 [vR r, vI row, vI i] (M, S) Q := by
  refine EvQ.enter (ls := [vR r, vI row, vI i]) (Nat.le_of_ble_eq_true rfl) rfl ?_
  refine WP.blk 2 ?_
  show WP 0 42 (if cnd .lt row 0 = true then 42 else 4) [vR r, vI row, vI i] [] (M, S) Q
  refine br_lt (fun c_1 => ?_) (fun c_1 => ?_)
  · refine WP.blk 1 ?_
    show WP 0 42 43 [vR r, vI row, vI i] [vI 0] (M, S) Q
    exact WP.ret rfl rfl rfl ⟨by omega, trivial⟩ (k _ (by omega))
  · refine WP.blk 4 ?_
    show sT S r = 7 ∧ WP 0 42 (if cnd .ge row (M r 4) = true then 42 else 12) [vR r, vI row, vI i] [] (M, S) Q
    refine ⟨hS.1, ?_⟩
    refine br_ge (fun c_2 => ?_) (fun c_2 => ?_)
    · refine WP.blk 1 ?_
      show WP 0 42 43 [vR r, vI row, vI i] [vI 0] (M, S) Q
      exact WP.ret rfl rfl rfl ⟨by omega, trivial⟩ (k _ (by omega))
    · refine WP.blk 3 ?_
      show WP 0 42 (if cnd .ge row 10 = true then 42 else 18) [vR r, vI row, vI i] [] (M, S) Q
      refine br_ge (fun c_3 => ?_) (fun c_3 => ?_)
      · refine WP.blk 1 ?_
        show WP 0 42 43 [vR r, vI row, vI i] [vI 0] (M, S) Q
        exact WP.ret rfl rfl rfl ⟨by omega, trivial⟩ (k _ (by omega))
      · refine WP.blk 2 ?_
        show WP 0 42 (if cnd .lt i 0 = true then 42 else 22) [vR r, vI row, vI i] [] (M, S) Q
        refine br_lt (fun c_4 => ?_) (fun c_4 => ?_)
        · refine WP.blk 1 ?_
          show WP 0 42 43 [vR r, vI row, vI i] [vI 0] (M, S) Q
          exact WP.ret rfl rfl rfl ⟨by omega, trivial⟩ (k _ (by omega))
        · refine WP.blk 3 ?_
          show (sT S r = 7 ∧ sR S r 2 ≠ 0) ∧ WP 0 42 27 [vR r, vI row, vI i] [vR (sR S r 2), vI i] (M, S) Q
          refine ⟨⟨hS.1, by rw [hS.2.1]; omega⟩, ?_⟩
          rw [hS.2.1]
          refine WP.blk 3 ?_
          show ((sT S (r + 1) = 11 ∨ sT S (r + 1) = 16 ∨ sT S (r + 1) = 17) ∧ 0 ≤ row ∧ row < (sN S (r + 1) : Int)) ∧ WP 0 42 (if cnd .ge i (M (r + 1) row) = true then 42 else 32) [vR r, vI row, vI i] [] (M, S) Q
          refine ⟨⟨Or.inl hS.2.2.2.1, by omega, by rw [hS.2.2.2.2.1]; omega⟩, ?_⟩
          refine br_ge (fun c_5 => ?_) (fun c_5 => ?_)
          · refine WP.blk 1 ?_
            show WP 0 42 43 [vR r, vI row, vI i] [vI 0] (M, S) Q
            exact WP.ret rfl rfl rfl ⟨by omega, trivial⟩ (k _ (by omega))
          · refine WP.blk 3 ?_
            show WP 0 42 (if cnd .ge i 12 = true then 42 else 38) [vR r, vI row, vI i] [] (M, S) Q
            refine br_ge (fun c_6 => ?_) (fun c_6 => ?_)
            · refine WP.blk 1 ?_
              show WP 0 42 43 [vR r, vI row, vI i] [vI 0] (M, S) Q
              exact WP.ret rfl rfl rfl ⟨by omega, trivial⟩ (k _ (by omega))
            · refine WP.blk 2 ?_
              show WP 0 42 43 [vR r, vI row, vI i] [vI 1] (M, S) Q
              exact WP.ret rfl rfl rfl ⟨by omega, trivial⟩ (k _ (by omega))
set_option maxHeartbeats 4000000 in
theorem q_lengthOf {S : SD} {M : Nat → Int → Int} {r : Nat} {row : Int} (hS : isRows S r) {Q : Res → Wd → Prop} (k : ∀ x : Int, (x = M (r + 1) row ∧ 0 ≤ row ∧ row < M r 4 ∧ row < 10) ∨ (x = 0 ∧ ¬ (0 ≤ row ∧ row < M r 4 ∧ row < 10)) → Q (0, vI x) (M, S)) : EvQ 2 45 [vR r, vI row] (M, S) Q := by
  refine EvQ.enter (ls := [vR r, vI row]) (Nat.le_of_ble_eq_true rfl) rfl ?_
  refine WP.blk 2 ?_
  show WP 1 45 2 [vR r, vI row] [vI row, vR r] (M, S) Q
  refine WP.cl (a := [vR r, vI row]) (rest := []) rfl rfl rfl rfl ⟨hS.1, trivial⟩ (by decide) (q_has hS (fun b_1 hb_1 => ⟨rfl, ?_⟩))
  show WP 1 45 5 [vR r, vI row] [vI b_1] (M, S) Q
  refine WP.blk 1 ?_
  show WP 1 45 (if cnd .eq b_1 0 = true then 17 else 8) [vR r, vI row] [] (M, S) Q
  refine br_eq (fun c_2 => ?_) (fun c_2 => ?_)
  · refine WP.blk 1 ?_
    show WP 1 45 18 [vR r, vI row] [vI 0] (M, S) Q
    exact WP.ret rfl rfl rfl trivial (k _ (by omega))
  · refine WP.blk 2 ?_
    show (sT S r = 7 ∧ sR S r 2 ≠ 0) ∧ WP 1 45 12 [vR r, vI row] [vR (sR S r 2)] (M, S) Q
    refine ⟨⟨hS.1, by rw [hS.2.1]; omega⟩, ?_⟩
    rw [hS.2.1]
    refine WP.blk 3 ?_
    show ((sT S (r + 1) = 11 ∨ sT S (r + 1) = 16 ∨ sT S (r + 1) = 17) ∧ 0 ≤ row ∧ row < (sN S (r + 1) : Int)) ∧ WP 1 45 18 [vR r, vI row] [vI (M (r + 1) row)] (M, S) Q
    refine ⟨⟨Or.inl hS.2.2.2.1, by omega, by rw [hS.2.2.2.2.1]; omega⟩, ?_⟩
    exact WP.ret rfl rfl rfl trivial (k _ (by omega))
set_option maxHeartbeats 4000000 in
theorem q_letterAt {S : SD} {M : Nat → Int → Int} {r : Nat} {row i : Int} (hS : isRows S r) {Q : Res → Wd → Prop} (k : ∀ x : Int, (x = M (r + 2) (row * 12 + i) ∧ 0 ≤ row ∧ row < M r 4 ∧ row < 10 ∧ 0 ≤ i ∧ i < M (r + 1) row ∧ i < 12) ∨ (x = -1 ∧ ¬ (0 ≤ row ∧ row < M r 4 ∧ row < 10 ∧ 0 ≤ i ∧ i < M (r + 1) row ∧ i < 12)) → Q (0, vI x) (M, S)) : EvQ 2 46 [vR r, vI row, vI i] (M, S) Q := by
  refine EvQ.enter (ls := [vR r, vI row, vI i]) (Nat.le_of_ble_eq_true rfl) rfl ?_
  refine WP.blk 3 ?_
  show WP 1 46 3 [vR r, vI row, vI i] [vI i, vI row, vR r] (M, S) Q
  refine WP.cl (a := [vR r, vI row, vI i]) (rest := []) rfl rfl rfl rfl ⟨hS.1, trivial⟩ (by decide) (q_hasLetter hS (fun b_1 hb_1 => ⟨rfl, ?_⟩))
  show WP 1 46 6 [vR r, vI row, vI i] [vI b_1] (M, S) Q
  refine WP.blk 1 ?_
  show WP 1 46 (if cnd .eq b_1 0 = true then 23 else 9) [vR r, vI row, vI i] [] (M, S) Q
  refine br_eq (fun c_2 => ?_) (fun c_2 => ?_)
  · refine WP.blk 1 ?_
    show WP 1 46 24 [vR r, vI row, vI i] [vI (-1)] (M, S) Q
    exact WP.ret rfl rfl rfl trivial (k _ (by omega))
  · refine WP.blk 2 ?_
    show (sT S r = 7 ∧ sR S r 3 ≠ 0) ∧ WP 1 46 13 [vR r, vI row, vI i] [vR (sR S r 3)] (M, S) Q
    refine ⟨⟨hS.1, by rw [hS.2.2.1]; omega⟩, ?_⟩
    rw [hS.2.2.1]
    refine WP.blk 7 ?_
    show ir (row * 12) ∧ ir ((row * 12) + i) ∧ ((sT S (r + 2) = 11 ∨ sT S (r + 2) = 16 ∨ sT S (r + 2) = 17) ∧ 0 ≤ ((row * 12) + i) ∧ ((row * 12) + i) < (sN S (r + 2) : Int)) ∧ WP 1 46 24 [vR r, vI row, vI i] [vI (M (r + 2) ((row * 12) + i))] (M, S) Q
    refine ⟨(by unfold ir; omega), (by unfold ir; omega), ⟨Or.inl hS.2.2.2.2.2.1, by omega, by rw [hS.2.2.2.2.2.2]; omega⟩, ?_⟩
    exact WP.ret rfl rfl rfl trivial (k _ (by omega))
set_option maxHeartbeats 4000000 in
theorem q_isFull {S : SD} {M : Nat → Int → Int} {r : Nat} (hS : isRows S r) {Q : Res → Wd → Prop} (k : ∀ b : Int, (b = 1 ∧ M r 0 ≤ M r 4) ∨ (b = 0 ∧ ¬ (M r 0 ≤ M r 4)) → Q (0, vI b) (M, S)) : EvQ 1 44 [vR r] (M, S) Q := by
  refine EvQ.enter (ls := [vR r]) (Nat.le_of_ble_eq_true rfl) rfl ?_
  refine WP.blk 5 ?_
  show sT S r = 7 ∧ sT S r = 7 ∧ WP 0 44 (if cnd .lt (M r 4) (M r 0) = true then 15 else 11) [vR r] [] (M, S) Q
  refine ⟨hS.1, hS.1, ?_⟩
  refine br_lt (fun c_1 => ?_) (fun c_1 => ?_)
  · refine WP.blk 1 ?_
    show WP 0 44 16 [vR r] [vI 0] (M, S) Q
    exact WP.ret rfl rfl rfl ⟨by omega, trivial⟩ (k _ (by omega))
  · refine WP.blk 2 ?_
    show WP 0 44 16 [vR r] [vI 1] (M, S) Q
    exact WP.ret rfl rfl rfl ⟨by omega, trivial⟩ (k _ (by omega))
set_option maxHeartbeats 4000000 in
theorem q_hasPart {S : SD} {M : Nat → Int → Int} {r : Nat} {row from1 len : Int} (hS : isRows S r) (hr : 0 ≤ row → row < M r 4 → row < 10 → 0 ≤ M (r + 1) row ∧ M (r + 1) row ≤ 12) {Q : Res → Wd → Prop} (k : ∀ b : Int, (b = 1 ∧ 0 ≤ row ∧ row < M r 4 ∧ row < 10 ∧ 0 ≤ from1 ∧ from1 < M (r + 1) row ∧ from1 < 12 ∧ 1 ≤ len ∧ len ≤ M (r + 1) row - from1) ∨ (b = 0 ∧ ¬ (0 ≤ row ∧ row < M r 4 ∧ row < 10 ∧ 0 ≤ from1 ∧ from1 < M (r + 1) row ∧ from1 < 12 ∧ 1 ≤ len ∧ len ≤ M (r + 1) row - from1)) → Q (0, vI b) (M, S)) : EvQ 2 43 [vR r, vI row, vI from1, vI len] (M, S) Q := by
  refine EvQ.enter (ls := [vR r, vI row, vI from1, vI len]) (Nat.le_of_ble_eq_true rfl) rfl ?_
  refine WP.blk 3 ?_
  show WP 1 43 3 [vR r, vI row, vI from1, vI len] [vI from1, vI row, vR r] (M, S) Q
  refine WP.cl (a := [vR r, vI row, vI from1]) (rest := []) rfl rfl rfl rfl ⟨hS.1, trivial⟩ (by decide) (q_hasLetter hS (fun b_1 hb_1 => ⟨rfl, ?_⟩))
  show WP 1 43 6 [vR r, vI row, vI from1, vI len] [vI b_1] (M, S) Q
  refine WP.blk 1 ?_
  show WP 1 43 (if cnd .eq b_1 0 = true then 30 else 9) [vR r, vI row, vI from1, vI len] [] (M, S) Q
  refine br_eq (fun c_2 => ?_) (fun c_2 => ?_)
  · refine WP.blk 1 ?_
    show WP 1 43 31 [vR r, vI row, vI from1, vI len] [vI 0] (M, S) Q
    exact WP.ret rfl rfl rfl ⟨by omega, trivial⟩ (k _ (by omega))
  · refine WP.blk 3 ?_
    show WP 1 43 (if cnd .lt len 1 = true then 30 else 14) [vR r, vI row, vI from1, vI len] [] (M, S) Q
    refine br_lt (fun c_3 => ?_) (fun c_3 => ?_)
    · refine WP.blk 1 ?_
      show WP 1 43 31 [vR r, vI row, vI from1, vI len] [vI 0] (M, S) Q
      exact WP.ret rfl rfl rfl ⟨by omega, trivial⟩ (k _ (by omega))
    · refine WP.blk 3 ?_
      show (sT S r = 7 ∧ sR S r 2 ≠ 0) ∧ WP 1 43 19 [vR r, vI row, vI from1, vI len] [vR (sR S r 2), vI len] (M, S) Q
      refine ⟨⟨hS.1, by rw [hS.2.1]; omega⟩, ?_⟩
      rw [hS.2.1]
      refine WP.blk 5 ?_
      show ((sT S (r + 1) = 11 ∨ sT S (r + 1) = 16 ∨ sT S (r + 1) = 17) ∧ 0 ≤ row ∧ row < (sN S (r + 1) : Int)) ∧ ir ((M (r + 1) row) - from1) ∧ WP 1 43 (if cnd .gt len ((M (r + 1) row) - from1) = true then 30 else 26) [vR r, vI row, vI from1, vI len] [] (M, S) Q
      refine ⟨⟨Or.inl hS.2.2.2.1, by omega, by rw [hS.2.2.2.2.1]; omega⟩, (by unfold ir; omega), ?_⟩
      refine br_gt (fun c_4 => ?_) (fun c_4 => ?_)
      · refine WP.blk 1 ?_
        show WP 1 43 31 [vR r, vI row, vI from1, vI len] [vI 0] (M, S) Q
        exact WP.ret rfl rfl rfl ⟨by omega, trivial⟩ (k _ (by omega))
      · refine WP.blk 2 ?_
        show WP 1 43 31 [vR r, vI row, vI from1, vI len] [vI 1] (M, S) Q
        exact WP.ret rfl rfl rfl ⟨by omega, trivial⟩ (k _ (by omega))
set_option maxHeartbeats 4000000 in
theorem q_open {S : SD} {M : Nat → Int → Int} {r : Nat} (hS : isRows S r) (h0 : M r 0 ≤ 10) {Q : Res → Wd → Prop} (k : ∀ (b : Int) (M2 : Nat → Int → Int), (b = 1 ∧ (0 ≤ M r 4 ∧ M r 4 < M r 0) ∧ M2 = up (up M (r + 1) (M r 4) 0) r 4 (M r 4 + 1)) ∨ (b = 0 ∧ ¬ (0 ≤ M r 4 ∧ M r 4 < M r 0) ∧ M2 = M) → Q (0, vI b) (M2, S)) : EvQ 1 47 [vR r] (M, S) Q := by
  refine EvQ.enter (ls := [vR r]) (Nat.le_of_ble_eq_true rfl) rfl ?_
  refine WP.blk 3 ?_
  show sT S r = 7 ∧ WP 0 47 (if cnd .lt (M r 4) 0 = true then 18 else 7) [vR r] [] (M, S) Q
  refine ⟨hS.1, ?_⟩
  refine br_lt (fun c_1 => ?_) (fun c_1 => ?_)
  · refine WP.blk 1 ?_
    show WP 0 47 19 [vR r] [vI 0] (M, S) Q
    exact WP.ret rfl rfl rfl ⟨by omega, trivial⟩ (k _ M (Or.inr ⟨rfl, by omega, rfl⟩))
  · refine WP.blk 5 ?_
    show sT S r = 7 ∧ sT S r = 7 ∧ WP 0 47 (if cnd .lt (M r 4) (M r 0) = true then 20 else 18) [vR r] [] (M, S) Q
    refine ⟨hS.1, hS.1, ?_⟩
    refine br_lt (fun c_2 => ?_) (fun c_2 => ?_)
    · refine WP.blk 2 ?_
      show (sT S r = 7 ∧ sR S r 2 ≠ 0) ∧ WP 0 47 24 [vR r] [vR (sR S r 2)] (M, S) Q
      refine ⟨⟨hS.1, by rw [hS.2.1]; omega⟩, ?_⟩
      rw [hS.2.1]
      refine WP.blk 4 ?_
      show sT S r = 7 ∧ (sT S (r + 1) = 11 ∧ 0 ≤ (M r 4) ∧ (M r 4) < (sN S (r + 1) : Int)) ∧ WP 0 47 30 [vR r] [] (up M (r + 1) (M r 4) 0, S) Q
      refine ⟨hS.1, ⟨hS.2.2.2.1, by omega, by rw [hS.2.2.2.2.1]; omega⟩, ?_⟩
      generalize hM_3 : up M (r + 1) (M r 4) 0 = M_3
      have e1 : M_3 r 4 = M r 4 := by rw [← hM_3]; exact up_r (by omega)
      have e0 := hM_3
      refine WP.blk 6 ?_
      show sT S r = 7 ∧ ir ((M_3 r 4) + 1) ∧ sT S r = 7 ∧ WP 0 47 40 [vR r] [] (up M_3 r 4 ((M_3 r 4) + 1), S) Q
      refine ⟨hS.1, (by unfold ir; omega), hS.1, ?_⟩
      generalize hM_4 : up M_3 r 4 ((M_3 r 4) + 1) = M_4
      have e2 : M_4 = up (up M (r + 1) (M r 4) 0) r 4 (M r 4 + 1) := by rw [← hM_4, e1, e0]
      refine WP.blk 1 ?_
      show WP 0 47 41 [vR r] [vI 1] (M_4, S) Q
      exact WP.ret rfl rfl rfl ⟨by omega, trivial⟩ (k _ _ (Or.inl ⟨rfl, by omega, e2⟩))
    · refine WP.blk 1 ?_
      show WP 0 47 19 [vR r] [vI 0] (M, S) Q
      exact WP.ret rfl rfl rfl ⟨by omega, trivial⟩ (k _ M (Or.inr ⟨rfl, by omega, rfl⟩))
