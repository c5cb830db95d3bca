set_option maxHeartbeats 4000000 in
theorem r_isStamp {S : SD} {M : Nat → Int → Int} {m : Nat} {f : Int → Int} {s : Int} (hS : isMod S m) (hf : M (m + 1) = f) (h0 : 0 ≤ f 0 ∧ f 0 ≤ 10) {Q : Res → Wd → Prop} (k : ∀ b : Int, (b = 1 ∧ 0 ≤ s ∧ s < f 0) ∨ (b = 0 ∧ ¬ (0 ≤ s ∧ s < f 0)) → Q (0, vI b) (M, S)) : EvQ 2 117 [vR m, vI s] (M, S) Q := by
  refine EvQ.enter (ls := [vR m, vI s]) (Nat.le_of_ble_eq_true rfl) rfl ?_
  refine WP.blk 4 ?_
  show (sT S m = 10 ∧ sR S m 0 ≠ 0) ∧ WP 1 117 6 [vR m, vI s] [vR (sR S m 0), vI 0, vI s] (M, S) Q
  refine ⟨⟨hS.1.1, by rw [hS.1.2.1]; omega⟩, ?_⟩
  rw [hS.1.2.1]
  refine WP.blk 4 ?_
  show ((sT S (m + 1) = 11 ∨ sT S (m + 1) = 16 ∨ sT S (m + 1) = 17) ∧ 0 ≤ 0 ∧ 0 < (sN S (m + 1) : Int)) ∧ ir ((M (m + 1) 0) - 1) ∧ WP 1 117 10 [vR m, vI s] [vI ((M (m + 1) 0) - 1), vI 0, vI s] (M, S) Q
  rw [hf]
  refine ⟨⟨Or.inl hS.2.1.1, by omega, by rw [hS.2.2.1]; omega⟩, (by unfold ir; omega), ?_⟩
  refine WP.cl (a := [vI s, vI 0, vI ((f 0) - 1)]) (rest := []) rfl rfl rfl rfl trivial (by decide) (q_in  (fun b_1 hb_1 => ⟨rfl, ?_⟩))
  show WP 1 117 13 [vR m, vI s] [vI b_1] (M, S) Q
  exact WP.ret rfl rfl rfl ⟨by omega, trivial⟩ (k _ (by omega))
set_option maxHeartbeats 4000000 in
theorem r_isWord {S : SD} {M : Nat → Int → Int} {m : Nat} {f : Int → Int} {s : Int} (hS : isMod S m) (hf : M (m + 1) = f) (h0 : 0 ≤ f 1 ∧ f 1 ≤ 7) {Q : Res → Wd → Prop} (k : ∀ b : Int, (b = 1 ∧ 0 ≤ s ∧ s < f 1) ∨ (b = 0 ∧ ¬ (0 ≤ s ∧ s < f 1)) → Q (0, vI b) (M, S)) : EvQ 2 118 [vR m, vI s] (M, S) Q := by
  refine EvQ.enter (ls := [vR m, vI s]) (Nat.le_of_ble_eq_true rfl) rfl ?_
  refine WP.blk 4 ?_
  show (sT S m = 10 ∧ sR S m 0 ≠ 0) ∧ WP 1 118 6 [vR m, vI s] [vR (sR S m 0), vI 0, vI s] (M, S) Q
  refine ⟨⟨hS.1.1, by rw [hS.1.2.1]; omega⟩, ?_⟩
  rw [hS.1.2.1]
  refine WP.blk 4 ?_
  show ((sT S (m + 1) = 11 ∨ sT S (m + 1) = 16 ∨ sT S (m + 1) = 17) ∧ 0 ≤ 1 ∧ 1 < (sN S (m + 1) : Int)) ∧ ir ((M (m + 1) 1) - 1) ∧ WP 1 118 10 [vR m, vI s] [vI ((M (m + 1) 1) - 1), vI 0, vI s] (M, S) Q
  rw [hf]
  refine ⟨⟨Or.inl hS.2.1.1, by omega, by rw [hS.2.2.1]; omega⟩, (by unfold ir; omega), ?_⟩
  refine WP.cl (a := [vI s, vI 0, vI ((f 1) - 1)]) (rest := []) rfl rfl rfl rfl trivial (by decide) (q_in  (fun b_1 hb_1 => ⟨rfl, ?_⟩))
  show WP 1 118 13 [vR m, vI s] [vI b_1] (M, S) Q
  exact WP.ret rfl rfl rfl ⟨by omega, trivial⟩ (k _ (by omega))
set_option maxHeartbeats 4000000 in
theorem r_isWorn {S : SD} {M : Nat → Int → Int} {m : Nat} {f : Int → Int} {s : Int} (hS : isMod S m) (hf : M (m + 1) = f) (h0 : 0 ≤ s ∧ s ≤ 9) {Q : Res → Wd → Prop} (k : ∀ b : Int, (b = 1 ∧ f 2 ≤ f (7 + 9 * s + 8)) ∨ (b = 0 ∧ ¬ (f 2 ≤ f (7 + 9 * s + 8))) → Q (0, vI b) (M, S)) : EvQ 2 121 [vR m, vI s] (M, S) Q := by
  refine EvQ.enter (ls := [vR m, vI s]) (Nat.le_of_ble_eq_true rfl) rfl ?_
  refine WP.blk 2 ?_
  show (sT S m = 10 ∧ sR S m 0 ≠ 0) ∧ WP 1 121 4 [vR m, vI s] [vR (sR S m 0)] (M, S) Q
  refine ⟨⟨hS.1.1, by rw [hS.1.2.1]; omega⟩, ?_⟩
  rw [hS.1.2.1]
  refine WP.blk 1 ?_
  show WP 1 121 5 [vR m, vI s] [vI s, vR (m + 1)] (M, S) Q
  refine WP.cl (a := [vI s]) (rest := [vR (m + 1)]) rfl rfl rfl rfl trivial (by decide) (q_stampAt (by omega) ⟨rfl, ?_⟩)
  show WP 1 121 8 [vR m, vI s] [vI (7 + 9 * s), vR (m + 1)] (M, S) Q
  refine WP.blk 5 ?_
  show ir ((7 + 9 * s) + 8) ∧ ((sT S (m + 1) = 11 ∨ sT S (m + 1) = 16 ∨ sT S (m + 1) = 17) ∧ 0 ≤ ((7 + 9 * s) + 8) ∧ ((7 + 9 * s) + 8) < (sN S (m + 1) : Int)) ∧ (sT S m = 10 ∧ sR S m 0 ≠ 0) ∧ WP 1 121 16 [vR m, vI s] [vR (sR S m 0), vI (M (m + 1) ((7 + 9 * s) + 8))] (M, S) Q
  rw [hf]
  refine ⟨(by unfold ir; omega), ⟨Or.inl hS.2.1.1, by omega, by rw [hS.2.2.1]; omega⟩, ⟨hS.1.1, by rw [hS.1.2.1]; omega⟩, ?_⟩
  rw [hS.1.2.1]
  refine WP.blk 3 ?_
  show ((sT S (m + 1) = 11 ∨ sT S (m + 1) = 16 ∨ sT S (m + 1) = 17) ∧ 0 ≤ 2 ∧ 2 < (sN S (m + 1) : Int)) ∧ WP 1 121 (if cnd .lt (f ((7 + 9 * s) + 8)) (M (m + 1) 2) = true then 25 else 21) [vR m, vI s] [] (M, S) Q
  rw [hf]
  refine ⟨⟨Or.inl hS.2.1.1, by omega, by rw [hS.2.2.1]; omega⟩, ?_⟩
  refine br_lt (fun c_1 => ?_) (fun c_1 => ?_)
  · refine WP.blk 1 ?_
    show WP 1 121 26 [vR m, vI s] [vI 0] (M, S) Q
    exact WP.ret rfl rfl rfl ⟨by omega, trivial⟩ (k _ (by omega))
  · refine WP.blk 2 ?_
    show WP 1 121 26 [vR m, vI s] [vI 1] (M, S) Q
    exact WP.ret rfl rfl rfl ⟨by omega, trivial⟩ (k _ (by omega))
set_option maxHeartbeats 4000000 in
theorem r_canTurn {S : SD} {M : Nat → Int → Int} {m : Nat} {f : Int → Int} {s : Int} (hS : isMod S m) (hf : M (m + 1) = f) (hs : StOk f s) {Q : Res → Wd → Prop} (k : ∀ b : Int, (b = 1 ∧ CanT f s) ∨ (b = 0 ∧ ¬ (CanT f s)) → Q (0, vI b) (M, S)) : EvQ 2 123 [vR m, vI s] (M, S) Q := by
  refine EvQ.enter (ls := [vR m, vI s, none, none]) (Nat.le_of_ble_eq_true rfl) rfl ?_
  have hs1 := hs.1
  have hs2 := hs.2.1
  have hs3 := hs.2.2.1
  have hs4 := hs.2.2.2.1
  refine WP.blk 4 ?_
  show WP 1 123 4 [vR m, vI s, vI 1, vI 0] [] (M, S) Q
  have hl_4 : ∀ (n_4 : Nat) (i : Int) (c : Int), 0 ≤ i ∧ i ≤ f (7 + 9 * s) → AllB (fun j => tur (f (7 + 9 * s + 1 + j)) ≠ -1) i c → (f (7 + 9 * s) - i).toNat < n_4 → WP 1 123 4 [vR m, vI s, vI c, vI i] [] (M, S) Q := by
    intro n_4
    induction n_4 with
    | zero => intro i c h0 h1 hm_4; exact absurd hm_4 (Nat.not_lt_zero _)
    | succ n_4 ih_4 =>
      intro i c h0 h1 hm_4
      refine WP.blk 3 ?_
      show (sT S m = 10 ∧ sR S m 0 ≠ 0) ∧ WP 1 123 9 [vR m, vI s, vI c, vI i] [vR (sR S m 0), vI i] (M, S) Q
      refine ⟨⟨hS.1.1, by rw [hS.1.2.1]; omega⟩, ?_⟩
      rw [hS.1.2.1]
      refine WP.blk 1 ?_
      show WP 1 123 10 [vR m, vI s, vI c, vI i] [vI s, vR (m + 1), vI i] (M, S) Q
      refine WP.cl (a := [vI s]) (rest := [vR (m + 1), vI i]) rfl rfl rfl rfl trivial (by decide) (q_stampAt (by omega) ⟨rfl, ?_⟩)
      show WP 1 123 13 [vR m, vI s, vI c, vI i] [vI (7 + 9 * s), vR (m + 1), vI i] (M, S) Q
      refine WP.blk 2 ?_
      show ((sT S (m + 1) = 11 ∨ sT S (m + 1) = 16 ∨ sT S (m + 1) = 17) ∧ 0 ≤ (7 + 9 * s) ∧ (7 + 9 * s) < (sN S (m + 1) : Int)) ∧ WP 1 123 (if cnd .ge i (M (m + 1) (7 + 9 * s)) = true then 53 else 17) [vR m, vI s, vI c, vI i] [] (M, S) Q
      rw [hf]
      refine ⟨⟨Or.inl hS.2.1.1, by first | omega | exact AllB_b h1 | (rcases AllB_b h1 with h | h <;> omega), by rw [hS.2.2.1]; first | omega | exact AllB_b h1 | (rcases AllB_b h1 with h | h <;> omega)⟩, ?_⟩
      refine br_ge (fun c_1 => ?_) (fun c_1 => ?_)
      · refine WP.blk 1 ?_
        show WP 1 123 54 [vR m, vI s, vI c, vI i] [vI c] (M, S) Q
        exact WP.ret rfl rfl rfl ⟨by first | omega | exact AllB_b h1 | (rcases AllB_b h1 with h | h <;> omega), trivial⟩ (k _ (AllB_e (by rw [show f (7 + 9 * s) = i by omega]; exact h1)))
      · refine WP.blk 2 ?_
        show WP 1 123 (if cnd .eq c 0 = true then 45 else 21) [vR m, vI s, vI c, vI i] [] (M, S) Q
        refine br_eq (fun c_2 => ?_) (fun c_2 => ?_)
        · refine WP.blk 4 ?_
          show ir (i + 1) ∧ WP 1 123 4 [vR m, vI s, vI 0, vI (i + 1)] [] (M, S) Q
          refine ⟨(by unfold ir; first | omega | exact AllB_b h1 | (rcases AllB_b h1 with h | h <;> omega)), ?_⟩
          exact ih_4 (i + 1) 0 (by omega) (by first | exact AllB_2 h1 (by assumption) | exact AllB_3 (by omega) (fun h => absurd h (by assumption)) | exact AllB_3 (by omega) (by assumption) | exact AllB_3 (by omega) (fun h => h (by assumption)))  (by omega)
        · refine WP.blk 2 ?_
          show (sT S m = 10 ∧ sR S m 0 ≠ 0) ∧ WP 1 123 25 [vR m, vI s, vI c, vI i] [vR (sR S m 0)] (M, S) Q
          refine ⟨⟨hS.1.1, by rw [hS.1.2.1]; omega⟩, ?_⟩
          rw [hS.1.2.1]
          refine WP.blk 1 ?_
          show WP 1 123 26 [vR m, vI s, vI c, vI i] [vI s, vR (m + 1)] (M, S) Q
          refine WP.cl (a := [vI s]) (rest := [vR (m + 1)]) rfl rfl rfl rfl trivial (by decide) (q_stampAt (by omega) ⟨rfl, ?_⟩)
          show WP 1 123 29 [vR m, vI s, vI c, vI i] [vI (7 + 9 * s), vR (m + 1)] (M, S) Q
          refine WP.blk 5 ?_
          show ir ((7 + 9 * s) + 1) ∧ ir (((7 + 9 * s) + 1) + i) ∧ ((sT S (m + 1) = 11 ∨ sT S (m + 1) = 16 ∨ sT S (m + 1) = 17) ∧ 0 ≤ (((7 + 9 * s) + 1) + i) ∧ (((7 + 9 * s) + 1) + i) < (sN S (m + 1) : Int)) ∧ WP 1 123 34 [vR m, vI s, vI c, vI i] [vI (M (m + 1) (((7 + 9 * s) + 1) + i))] (M, S) Q
          rw [hf]
          refine ⟨(by unfold ir; first | omega | exact AllB_b h1 | (rcases AllB_b h1 with h | h <;> omega)), (by unfold ir; first | omega | exact AllB_b h1 | (rcases AllB_b h1 with h | h <;> omega)), ⟨Or.inl hS.2.1.1, by first | omega | exact AllB_b h1 | (rcases AllB_b h1 with h | h <;> omega), by rw [hS.2.2.1]; first | omega | exact AllB_b h1 | (rcases AllB_b h1 with h | h <;> omega)⟩, ?_⟩
          refine WP.cl (a := [vI (f (((7 + 9 * s) + 1) + i))]) (rest := []) rfl rfl rfl rfl trivial (by decide) (q_turned (hs.2.2.2.2 i (by omega) (by omega)) ⟨rfl, ?_⟩)
          show WP 1 123 37 [vR m, vI s, vI c, vI i] [vI (tur (f (((7 + 9 * s) + 1) + i)))] (M, S) Q
          refine WP.blk 2 ?_
          show WP 1 123 (if cnd .eq (tur (f (((7 + 9 * s) + 1) + i))) (-1) = true then 45 else 41) [vR m, vI s, vI c, vI i] [] (M, S) Q
          refine br_eq (fun c_3 => ?_) (fun c_3 => ?_)
          · refine WP.blk 4 ?_
            show ir (i + 1) ∧ WP 1 123 4 [vR m, vI s, vI 0, vI (i + 1)] [] (M, S) Q
            refine ⟨(by unfold ir; first | omega | exact AllB_b h1 | (rcases AllB_b h1 with h | h <;> omega)), ?_⟩
            exact ih_4 (i + 1) 0 (by omega) (by first | exact AllB_2 h1 (by assumption) | exact AllB_3 (by omega) (fun h => absurd h (by assumption)) | exact AllB_3 (by omega) (by assumption) | exact AllB_3 (by omega) (fun h => h (by assumption)))  (by omega)
          · refine WP.blk 5 ?_
            show ir (i + 1) ∧ WP 1 123 4 [vR m, vI s, vI 1, vI (i + 1)] [] (M, S) Q
            refine ⟨(by unfold ir; first | omega | exact AllB_b h1 | (rcases AllB_b h1 with h | h <;> omega)), ?_⟩
            exact ih_4 (i + 1) 1 (by omega) (AllB_1 h1 (by first | assumption | omega) (by assumption))  (by omega)
  exact hl_4 _ 0 1 (by omega) AllB_0  (Nat.lt_succ_self _)
set_option maxHeartbeats 4000000 in
theorem r_printed {S : SD} {M : Nat → Int → Int} {m : Nat} {f : Int → Int} {s i t : Int} (hS : isMod S m) (hf : M (m + 1) = f) (hs : StOk f s) (hi : 0 ≤ i ∧ i < f (7 + 9 * s)) {Q : Res → Wd → Prop} (k : Q (0, vI (prL f s i t)) (M, S)) : EvQ 2 124 [vR m, vI s, vI i, vI t] (M, S) Q := by
  refine EvQ.enter (ls := [vR m, vI s, vI i, vI t, none]) (Nat.le_of_ble_eq_true rfl) rfl ?_
  have hs1 := hs.1
  have hs2 := hs.2.1
  have hs3 := hs.2.2.1
  have hs4 := hs.2.2.2.1
  refine WP.blk 1 ?_
  show WP 1 124 1 [vR m, vI s, vI i, vI t, none] [vI s] (M, S) Q
  refine WP.cl (a := [vI s]) (rest := []) rfl rfl rfl rfl trivial (by decide) (q_stampAt (by omega) ⟨rfl, ?_⟩)
  show WP 1 124 4 [vR m, vI s, vI i, vI t, none] [vI (7 + 9 * s)] (M, S) Q
  refine WP.blk 3 ?_
  show WP 1 124 (if cnd .eq t 0 = true then 33 else 10) [vR m, vI s, vI i, vI t, vI (7 + 9 * s)] [] (M, S) Q
  refine br_eq (fun c_1 => ?_) (fun c_1 => ?_)
  · refine WP.blk 2 ?_
    show (sT S m = 10 ∧ sR S m 0 ≠ 0) ∧ WP 1 124 37 [vR m, vI s, vI i, vI t, vI (7 + 9 * s)] [vR (sR S m 0)] (M, S) Q
    refine ⟨⟨hS.1.1, by rw [hS.1.2.1]; omega⟩, ?_⟩
    rw [hS.1.2.1]
    refine WP.blk 6 ?_
    show ir ((7 + 9 * s) + 1) ∧ ir (((7 + 9 * s) + 1) + i) ∧ ((sT S (m + 1) = 11 ∨ sT S (m + 1) = 16 ∨ sT S (m + 1) = 17) ∧ 0 ≤ (((7 + 9 * s) + 1) + i) ∧ (((7 + 9 * s) + 1) + i) < (sN S (m + 1) : Int)) ∧ WP 1 124 44 [vR m, vI s, vI i, vI t, vI (7 + 9 * s)] [vI (M (m + 1) (((7 + 9 * s) + 1) + i))] (M, S) Q
    rw [hf]
    refine ⟨(by unfold ir; omega), (by unfold ir; omega), ⟨Or.inl hS.2.1.1, by omega, by rw [hS.2.2.1]; omega⟩, ?_⟩
    exact WP.ret rfl rfl rfl trivial (by unfold prL at k; first | (rw [if_pos (by assumption)] at k; exact k) | (rw [if_neg (by assumption)] at k; exact k))
  · refine WP.blk 2 ?_
    show (sT S m = 10 ∧ sR S m 0 ≠ 0) ∧ WP 1 124 14 [vR m, vI s, vI i, vI t, vI (7 + 9 * s)] [vR (sR S m 0)] (M, S) Q
    refine ⟨⟨hS.1.1, by rw [hS.1.2.1]; omega⟩, ?_⟩
    rw [hS.1.2.1]
    refine WP.blk 3 ?_
    show (sT S m = 10 ∧ sR S m 0 ≠ 0) ∧ WP 1 124 20 [vR m, vI s, vI i, vI t, vI (7 + 9 * s)] [vR (sR S m 0), vI (7 + 9 * s), vR (m + 1)] (M, S) Q
    refine ⟨⟨hS.1.1, by rw [hS.1.2.1]; omega⟩, ?_⟩
    rw [hS.1.2.1]
    refine WP.blk 6 ?_
    show ((sT S (m + 1) = 11 ∨ sT S (m + 1) = 16 ∨ sT S (m + 1) = 17) ∧ 0 ≤ (7 + 9 * s) ∧ (7 + 9 * s) < (sN S (m + 1) : Int)) ∧ ir ((7 + 9 * s) + (M (m + 1) (7 + 9 * s))) ∧ ir (((7 + 9 * s) + (M (m + 1) (7 + 9 * s))) - i) ∧ ((sT S (m + 1) = 11 ∨ sT S (m + 1) = 16 ∨ sT S (m + 1) = 17) ∧ 0 ≤ (((7 + 9 * s) + (M (m + 1) (7 + 9 * s))) - i) ∧ (((7 + 9 * s) + (M (m + 1) (7 + 9 * s))) - i) < (sN S (m + 1) : Int)) ∧ WP 1 124 27 [vR m, vI s, vI i, vI t, vI (7 + 9 * s)] [vI (M (m + 1) (((7 + 9 * s) + (M (m + 1) (7 + 9 * s))) - i))] (M, S) Q
    rw [hf]
    refine ⟨⟨Or.inl hS.2.1.1, by omega, by rw [hS.2.2.1]; omega⟩, (by unfold ir; omega), (by unfold ir; omega), ⟨Or.inl hS.2.1.1, by omega, by rw [hS.2.2.1]; omega⟩, ?_⟩
    refine WP.cl (a := [vI (f (((7 + 9 * s) + (f (7 + 9 * s))) - i))]) (rest := []) rfl rfl rfl rfl trivial (by decide) (q_turned (by have h := hs.2.2.2.2 (f (7 + 9 * s) - 1 - i) (by omega) (by omega); rwa [show 7 + 9 * s + 1 + (f (7 + 9 * s) - 1 - i) = 7 + 9 * s + f (7 + 9 * s) - i by omega] at h) ⟨rfl, ?_⟩)
    show WP 1 124 30 [vR m, vI s, vI i, vI t, vI (7 + 9 * s)] [vI (tur (f (((7 + 9 * s) + (f (7 + 9 * s))) - i)))] (M, S) Q
    refine WP.blk 1 ?_
    show WP 1 124 44 [vR m, vI s, vI i, vI t, vI (7 + 9 * s)] [vI (tur (f (((7 + 9 * s) + (f (7 + 9 * s))) - i)))] (M, S) Q
    exact WP.ret rfl rfl rfl trivial (by unfold prL at k; first | (rw [if_pos (by assumption)] at k; exact k) | (rw [if_neg (by assumption)] at k; exact k))
set_option maxHeartbeats 4000000 in
theorem r_counts {S : SD} {M : Nat → Int → Int} {m : Nat} {f : Int → Int} {s : Int} (hS : isMod S m) (hf : M (m + 1) = f) (hs : StOk f s) {Q : Res → Wd → Prop} (k : ∀ b : Int, (b = 1 ∧ Cnt f s) ∨ (b = 0 ∧ ¬ (Cnt f s)) → Q (0, vI b) (M, S)) : EvQ 3 125 [vR m, vI s] (M, S) Q := by
  refine EvQ.enter (ls := [vR m, vI s, none, none]) (Nat.le_of_ble_eq_true rfl) rfl ?_
  have hs1 := hs.1
  have hs2 := hs.2.1
  have hs3 := hs.2.2.1
  have hs4 := hs.2.2.2.1
  refine WP.blk 2 ?_
  show WP 2 125 2 [vR m, vI s, none, none] [vI s, vR m] (M, S) Q
  refine WP.cl (a := [vR m, vI s]) (rest := []) rfl rfl rfl rfl ⟨hS.1.1, trivial⟩ (by decide) (r_canTurn hS hf hs (fun b_1 hb_1 => ⟨rfl, ?_⟩))
  show WP 2 125 5 [vR m, vI s, none, none] [vI b_1] (M, S) Q
  refine WP.blk 1 ?_
  show WP 2 125 (if cnd .ne b_1 0 = true then 10 else 8) [vR m, vI s, none, none] [] (M, S) Q
  refine br_ne (fun c_2 => ?_) (fun c_2 => ?_)
  · refine WP.blk 4 ?_
    show WP 2 125 14 [vR m, vI s, vI 1, vI 0] [] (M, S) Q
    have hl_14 : ∀ (n_14 : Nat) (i : Int) (c : Int), 0 ≤ i ∧ i ≤ f (7 + 9 * s) → AllB (fun j => prL f s j 1 = prL f s j 0) i c → (f (7 + 9 * s) - i).toNat < n_14 → WP 2 125 14 [vR m, vI s, vI c, vI i] [] (M, S) Q := by
      intro n_14
      induction n_14 with
      | zero => intro i c h0 h1 hm_14; exact absurd hm_14 (Nat.not_lt_zero _)
      | succ n_14 ih_14 =>
        intro i c h0 h1 hm_14
        refine WP.blk 3 ?_
        show (sT S m = 10 ∧ sR S m 0 ≠ 0) ∧ WP 2 125 19 [vR m, vI s, vI c, vI i] [vR (sR S m 0), vI i] (M, S) Q
        refine ⟨⟨hS.1.1, by rw [hS.1.2.1]; omega⟩, ?_⟩
        rw [hS.1.2.1]
        refine WP.blk 1 ?_
        show WP 2 125 20 [vR m, vI s, vI c, vI i] [vI s, vR (m + 1), vI i] (M, S) Q
        refine WP.cl (a := [vI s]) (rest := [vR (m + 1), vI i]) rfl rfl rfl rfl trivial (by decide) (q_stampAt (by omega) ⟨rfl, ?_⟩)
        show WP 2 125 23 [vR m, vI s, vI c, vI i] [vI (7 + 9 * s), vR (m + 1), vI i] (M, S) Q
        refine WP.blk 2 ?_
        show ((sT S (m + 1) = 11 ∨ sT S (m + 1) = 16 ∨ sT S (m + 1) = 17) ∧ 0 ≤ (7 + 9 * s) ∧ (7 + 9 * s) < (sN S (m + 1) : Int)) ∧ WP 2 125 (if cnd .ge i (M (m + 1) (7 + 9 * s)) = true then 60 else 27) [vR m, vI s, vI c, vI i] [] (M, S) Q
        rw [hf]
        refine ⟨⟨Or.inl hS.2.1.1, by first | omega | exact AllB_b h1, by rw [hS.2.2.1]; first | omega | exact AllB_b h1⟩, ?_⟩
        refine br_ge (fun c_3 => ?_) (fun c_3 => ?_)
        · refine WP.blk 2 ?_
          show WP 2 125 (if cnd .ne c 0 = true then 68 else 64) [vR m, vI s, vI c, vI i] [] (M, S) Q
          refine br_ne (fun c_4 => ?_) (fun c_4 => ?_)
          · refine WP.blk 1 ?_
            show WP 2 125 69 [vR m, vI s, vI c, vI i] [vI 0] (M, S) Q
            refine WP.ret rfl rfl rfl ⟨by first | omega | exact AllB_b h1, trivial⟩ ?_
            have e : f (7 + 9 * s) = i := by omega
            rw [← e] at h1
            refine k _ ?_
            rcases AllB_e h1 with h | h
            · first | omega | exact Or.inr ⟨rfl, fun h9 => h9.2 h.2⟩
            · first | omega | exact Or.inl ⟨rfl, hb_1.elim (fun hb => hb.2) (fun hb => absurd hb.1 (by omega)), h.2⟩
          · refine WP.blk 2 ?_
            show WP 2 125 69 [vR m, vI s, vI c, vI i] [vI 1] (M, S) Q
            refine WP.ret rfl rfl rfl ⟨by first | omega | exact AllB_b h1, trivial⟩ ?_
            have e : f (7 + 9 * s) = i := by omega
            rw [← e] at h1
            refine k _ ?_
            rcases AllB_e h1 with h | h
            · first | omega | exact Or.inr ⟨rfl, fun h9 => h9.2 h.2⟩
            · first | omega | exact Or.inl ⟨rfl, hb_1.elim (fun hb => hb.2) (fun hb => absurd hb.1 (by omega)), h.2⟩
        · refine WP.blk 2 ?_
          show WP 2 125 (if cnd .eq c 0 = true then 52 else 31) [vR m, vI s, vI c, vI i] [] (M, S) Q
          refine br_eq (fun c_5 => ?_) (fun c_5 => ?_)
          · refine WP.blk 4 ?_
            show ir (i + 1) ∧ WP 2 125 14 [vR m, vI s, vI 0, vI (i + 1)] [] (M, S) Q
            refine ⟨(by unfold ir; first | omega | exact AllB_b h1), ?_⟩
            exact ih_14 (i + 1) 0 (by omega) (by first | exact AllB_2 h1 (by assumption) | exact AllB_3 (by omega) (fun h => absurd h (by assumption)) | exact AllB_3 (by omega) (by assumption) | exact AllB_3 (by omega) (fun h => h (by assumption)))  (by omega)
          · refine WP.blk 4 ?_
            show WP 2 125 35 [vR m, vI s, vI c, vI i] [vI 1, vI i, vI s, vR m] (M, S) Q
            refine WP.cl (a := [vR m, vI s, vI i, vI 1]) (rest := []) rfl rfl rfl rfl ⟨hS.1.1, trivial⟩ (by decide) (r_printed hS hf hs (by omega) ⟨rfl, ?_⟩)
            show WP 2 125 38 [vR m, vI s, vI c, vI i] [vI (prL f s i 1)] (M, S) Q
            refine WP.blk 4 ?_
            show WP 2 125 42 [vR m, vI s, vI c, vI i] [vI 0, vI i, vI s, vR m, vI (prL f s i 1)] (M, S) Q
            refine WP.cl (a := [vR m, vI s, vI i, vI 0]) (rest := [vI (prL f s i 1)]) rfl rfl rfl rfl ⟨hS.1.1, trivial⟩ (by decide) (r_printed hS hf hs (by omega) ⟨rfl, ?_⟩)
            show WP 2 125 45 [vR m, vI s, vI c, vI i] [vI (prL f s i 0), vI (prL f s i 1)] (M, S) Q
            refine WP.blk 1 ?_
            show WP 2 125 (if cnd .ne (prL f s i 1) (prL f s i 0) = true then 52 else 48) [vR m, vI s, vI c, vI i] [] (M, S) Q
            refine br_ne (fun c_6 => ?_) (fun c_6 => ?_)
            · refine WP.blk 4 ?_
              show ir (i + 1) ∧ WP 2 125 14 [vR m, vI s, vI 0, vI (i + 1)] [] (M, S) Q
              refine ⟨(by unfold ir; first | omega | exact AllB_b h1), ?_⟩
              exact ih_14 (i + 1) 0 (by omega) (by first | exact AllB_2 h1 (by assumption) | exact AllB_3 (by omega) (fun h => absurd h (by assumption)) | exact AllB_3 (by omega) (by assumption) | exact AllB_3 (by omega) (fun h => h (by assumption)))  (by omega)
            · refine WP.blk 5 ?_
              show ir (i + 1) ∧ WP 2 125 14 [vR m, vI s, vI 1, vI (i + 1)] [] (M, S) Q
              refine ⟨(by unfold ir; first | omega | exact AllB_b h1), ?_⟩
              exact ih_14 (i + 1) 1 (by omega) (AllB_1 h1 (by first | assumption | omega) (by assumption))  (by omega)
    exact hl_14 _ 0 1 (by omega) AllB_0  (Nat.lt_succ_self _)
  · refine WP.blk 1 ?_
    show WP 2 125 9 [vR m, vI s, none, none] [vI 0] (M, S) Q
    exact WP.ret rfl rfl rfl ⟨by first | omega | exact AllB_b h1, trivial⟩ (k _ (Or.inr ⟨rfl, fun h => hb_1.elim (fun hb => absurd hb.1 (by omega)) (fun hb => hb.2 h.1)⟩))
set_option maxHeartbeats 4000000 in
theorem r_fits {S : SD} {M : Nat → Int → Int} {m : Nat} {f : Int → Int} {w p s t : Int} (hS : isMod S m) (hf : M (m + 1) = f) (hs : StOk f s) (hw : WdOk f w) (hp : 0 ≤ p ∧ p ≤ 12) {Q : Res → Wd → Prop} (k : ∀ b : Int, (b = 1 ∧ Fit f w p s t) ∨ (b = 0 ∧ ¬ (Fit f w p s t)) → Q (0, vI b) (M, S)) : EvQ 3 141 [vR m, vI w, vI p, vI s, vI t] (M, S) Q := by
  refine EvQ.enter (ls := [vR m, vI w, vI p, vI s, vI t, none, none, none]) (Nat.le_of_ble_eq_true rfl) rfl ?_
  have hs1 := hs.1
  have hs2 := hs.2.1
  have hs3 := hs.2.2.1
  have hs4 := hs.2.2.2.1
  have hw1 := hw.1
  have hw2 := hw.2.1
  have hw3 := hw.2.2.1
  have hw4 := hw.2.2.2.1
  refine WP.blk 2 ?_
  show (sT S m = 10 ∧ sR S m 0 ≠ 0) ∧ WP 2 141 4 [vR m, vI w, vI p, vI s, vI t, none, none, none] [vR (sR S m 0)] (M, S) Q
  refine ⟨⟨hS.1.1, by rw [hS.1.2.1]; omega⟩, ?_⟩
  rw [hS.1.2.1]
  refine WP.blk 1 ?_
  show WP 2 141 5 [vR m, vI w, vI p, vI s, vI t, none, none, none] [vI s, vR (m + 1)] (M, S) Q
  refine WP.cl (a := [vI s]) (rest := [vR (m + 1)]) rfl rfl rfl rfl trivial (by decide) (q_stampAt (by omega) ⟨rfl, ?_⟩)
  show WP 2 141 8 [vR m, vI w, vI p, vI s, vI t, none, none, none] [vI (7 + 9 * s), vR (m + 1)] (M, S) Q
  refine WP.blk 7 ?_
  show ((sT S (m + 1) = 11 ∨ sT S (m + 1) = 16 ∨ sT S (m + 1) = 17) ∧ 0 ≤ (7 + 9 * s) ∧ (7 + 9 * s) < (sN S (m + 1) : Int)) ∧ ir (p + (M (m + 1) (7 + 9 * s))) ∧ (sT S m = 10 ∧ sR S m 0 ≠ 0) ∧ WP 2 141 19 [vR m, vI w, vI p, vI s, vI t, vI (M (m + 1) (7 + 9 * s)), none, none] [vR (sR S m 0), vI (p + (M (m + 1) (7 + 9 * s)))] (M, S) Q
  rw [hf]
  refine ⟨⟨Or.inl hS.2.1.1, by first | omega | exact AllB_b h1, by rw [hS.2.2.1]; first | omega | exact AllB_b h1⟩, (by unfold ir; first | omega | exact AllB_b h1), ⟨hS.1.1, by rw [hS.1.2.1]; omega⟩, ?_⟩
  rw [hS.1.2.1]
  refine WP.blk 1 ?_
  show WP 2 141 20 [vR m, vI w, vI p, vI s, vI t, vI (f (7 + 9 * s)), none, none] [vI w, vR (m + 1), vI (p + (f (7 + 9 * s)))] (M, S) Q
  refine WP.cl (a := [vI w]) (rest := [vR (m + 1), vI (p + (f (7 + 9 * s)))]) rfl rfl rfl rfl trivial (by decide) (q_wordAt (by omega) ⟨rfl, ?_⟩)
  show WP 2 141 23 [vR m, vI w, vI p, vI s, vI t, vI (f (7 + 9 * s)), none, none] [vI (97 + 14 * w), vR (m + 1), vI (p + (f (7 + 9 * s)))] (M, S) Q
  refine WP.blk 2 ?_
  show ((sT S (m + 1) = 11 ∨ sT S (m + 1) = 16 ∨ sT S (m + 1) = 17) ∧ 0 ≤ (97 + 14 * w) ∧ (97 + 14 * w) < (sN S (m + 1) : Int)) ∧ WP 2 141 (if cnd .le (p + (f (7 + 9 * s))) (M (m + 1) (97 + 14 * w)) = true then 29 else 27) [vR m, vI w, vI p, vI s, vI t, vI (f (7 + 9 * s)), none, none] [] (M, S) Q
  rw [hf]
  refine ⟨⟨Or.inl hS.2.1.1, by first | omega | exact AllB_b h1, by rw [hS.2.2.1]; first | omega | exact AllB_b h1⟩, ?_⟩
  refine br_le (fun c_1 => ?_) (fun c_1 => ?_)
  · refine WP.blk 4 ?_
    show WP 2 141 35 [vR m, vI w, vI p, vI s, vI t, vI (f (7 + 9 * s)), vI 1, vI 0] [] (M, S) Q
    have hl_35 : ∀ (n_35 : Nat) (i : Int) (c : Int), 0 ≤ i ∧ i ≤ f (7 + 9 * s) → AllB (fun j => prL f s j t = f (97 + 14 * w + 2 + p + j)) i c → (f (7 + 9 * s) - i).toNat < n_35 → WP 2 141 35 [vR m, vI w, vI p, vI s, vI t, vI (f (7 + 9 * s)), vI c, vI i] [] (M, S) Q := by
      intro n_35
      induction n_35 with
      | zero => intro i c h0 h1 hm_35; exact absurd hm_35 (Nat.not_lt_zero _)
      | succ n_35 ih_35 =>
        intro i c h0 h1 hm_35
        refine WP.blk 3 ?_
        show WP 2 141 (if cnd .ge i (f (7 + 9 * s)) = true then 88 else 42) [vR m, vI w, vI p, vI s, vI t, vI (f (7 + 9 * s)), vI c, vI i] [] (M, S) Q
        refine br_ge (fun c_2 => ?_) (fun c_2 => ?_)
        · refine WP.blk 1 ?_
          show WP 2 141 90 [vR m, vI w, vI p, vI s, vI t, vI (f (7 + 9 * s)), vI c, vI i] [vI c] (M, S) Q
          refine WP.ret rfl rfl rfl ⟨by first | omega | exact AllB_b h1, trivial⟩ ?_
          refine k _ ?_
          rcases h1 with ⟨g1, g2⟩ | ⟨g1, j, g2, g3, g4⟩
          · exact Or.inl ⟨g1, by omega, fun j g3 g4 => g2 j g3 (by omega)⟩
          · exact Or.inr ⟨g1, fun h => g4 (h.2 j g2 (by omega))⟩
        · refine WP.blk 2 ?_
          show WP 2 141 (if cnd .eq c 0 = true then 88 else 47) [vR m, vI w, vI p, vI s, vI t, vI (f (7 + 9 * s)), vI c, vI i] [] (M, S) Q
          refine br_eq (fun c_3 => ?_) (fun c_3 => ?_)
          · refine WP.blk 1 ?_
            show WP 2 141 90 [vR m, vI w, vI p, vI s, vI t, vI (f (7 + 9 * s)), vI c, vI i] [vI c] (M, S) Q
            refine WP.ret rfl rfl rfl ⟨by first | omega | exact AllB_b h1, trivial⟩ ?_
            refine k _ ?_
            rcases h1 with ⟨g1, g2⟩ | ⟨g1, j, g2, g3, g4⟩
            · exact Or.inl ⟨g1, by omega, fun j g3 g4 => g2 j g3 (by omega)⟩
            · exact Or.inr ⟨g1, fun h => g4 (h.2 j g2 (by omega))⟩
          · refine WP.blk 4 ?_
            show WP 2 141 53 [vR m, vI w, vI p, vI s, vI t, vI (f (7 + 9 * s)), vI c, vI i] [vI t, vI i, vI s, vR m] (M, S) Q
            refine WP.cl (a := [vR m, vI s, vI i, vI t]) (rest := []) rfl rfl rfl rfl ⟨hS.1.1, trivial⟩ (by decide) (r_printed hS hf hs (by omega) ⟨rfl, ?_⟩)
            show WP 2 141 56 [vR m, vI w, vI p, vI s, vI t, vI (f (7 + 9 * s)), vI c, vI i] [vI (prL f s i t)] (M, S) Q
            refine WP.blk 2 ?_
            show (sT S m = 10 ∧ sR S m 0 ≠ 0) ∧ WP 2 141 60 [vR m, vI w, vI p, vI s, vI t, vI (f (7 + 9 * s)), vI c, vI i] [vR (sR S m 0), vI (prL f s i t)] (M, S) Q
            refine ⟨⟨hS.1.1, by rw [hS.1.2.1]; omega⟩, ?_⟩
            rw [hS.1.2.1]
            refine WP.blk 1 ?_
            show WP 2 141 61 [vR m, vI w, vI p, vI s, vI t, vI (f (7 + 9 * s)), vI c, vI i] [vI w, vR (m + 1), vI (prL f s i t)] (M, S) Q
            refine WP.cl (a := [vI w]) (rest := [vR (m + 1), vI (prL f s i t)]) rfl rfl rfl rfl trivial (by decide) (q_wordAt (by omega) ⟨rfl, ?_⟩)
            show WP 2 141 64 [vR m, vI w, vI p, vI s, vI t, vI (f (7 + 9 * s)), vI c, vI i] [vI (97 + 14 * w), vR (m + 1), vI (prL f s i t)] (M, S) Q
            refine WP.blk 8 ?_
            show ir ((97 + 14 * w) + 2) ∧ ir (((97 + 14 * w) + 2) + p) ∧ ir ((((97 + 14 * w) + 2) + p) + i) ∧ ((sT S (m + 1) = 11 ∨ sT S (m + 1) = 16 ∨ sT S (m + 1) = 17) ∧ 0 ≤ ((((97 + 14 * w) + 2) + p) + i) ∧ ((((97 + 14 * w) + 2) + p) + i) < (sN S (m + 1) : Int)) ∧ WP 2 141 (if cnd .ne (prL f s i t) (M (m + 1) ((((97 + 14 * w) + 2) + p) + i)) = true then 79 else 75) [vR m, vI w, vI p, vI s, vI t, vI (f (7 + 9 * s)), vI c, vI i] [] (M, S) Q
            rw [hf]
            refine ⟨(by unfold ir; first | omega | exact AllB_b h1), (by unfold ir; first | omega | exact AllB_b h1), (by unfold ir; first | omega | exact AllB_b h1), ⟨Or.inl hS.2.1.1, by first | omega | exact AllB_b h1, by rw [hS.2.2.1]; first | omega | exact AllB_b h1⟩, ?_⟩
            refine br_ne (fun c_4 => ?_) (fun c_4 => ?_)
            · refine WP.blk 4 ?_
              show ir (i + 1) ∧ WP 2 141 35 [vR m, vI w, vI p, vI s, vI t, vI (f (7 + 9 * s)), vI 0, vI (i + 1)] [] (M, S) Q
              refine ⟨(by unfold ir; first | omega | exact AllB_b h1), ?_⟩
              exact ih_35 (i + 1) 0 (by omega) (by first | exact AllB_2 h1 (by assumption) | exact AllB_3 (by omega) (fun h => absurd h (by assumption)) | exact AllB_3 (by omega) (by assumption) | exact AllB_3 (by omega) (fun h => h (by assumption)))  (by omega)
            · refine WP.blk 5 ?_
              show ir (i + 1) ∧ WP 2 141 35 [vR m, vI w, vI p, vI s, vI t, vI (f (7 + 9 * s)), vI 1, vI (i + 1)] [] (M, S) Q
              refine ⟨(by unfold ir; first | omega | exact AllB_b h1), ?_⟩
              exact ih_35 (i + 1) 1 (by omega) (AllB_1 h1 (by first | assumption | omega) (by assumption))  (by omega)
    exact hl_35 _ 0 1 (by omega) AllB_0  (Nat.lt_succ_self _)
  · refine WP.blk 1 ?_
    show WP 2 141 28 [vR m, vI w, vI p, vI s, vI t, vI (f (7 + 9 * s)), none, none] [vI 0] (M, S) Q
    exact WP.ret rfl rfl rfl ⟨by first | omega | exact AllB_b h1, trivial⟩ (k _ (Or.inr ⟨rfl, fun h => by have := h.1; omega⟩))
set_option maxHeartbeats 4000000 in
theorem r_fresh {S : SD} {M : Nat → Int → Int} {m : Nat} {f : Int → Int} (hS : isMod S m) (hf : M (m + 1) = f) (hn : 0 ≤ f 0 ∧ f 0 ≤ 10) {Q : Res → Wd → Prop} (k : ∀ x : Int, Fresh f x → Q (0, vI x) (M, S)) : EvQ 3 142 [vR m] (M, S) Q := by
  refine EvQ.enter (ls := [vR m, none, none]) (Nat.le_of_ble_eq_true rfl) rfl ?_
  refine WP.blk 4 ?_
  show WP 2 142 4 [vR m, vI 0, vI 0] [] (M, S) Q
  have hl_4 : ∀ (n_4 : Nat) (i : Int) (x : Int), 0 ≤ i ∧ i ≤ f 0 → FrB f i x → (f 0 - i).toNat < n_4 → WP 2 142 4 [vR m, vI x, vI i] [] (M, S) Q := by
    intro n_4
    induction n_4 with
    | zero => intro i x h0 h1 hm_4; exact absurd hm_4 (Nat.not_lt_zero _)
    | succ n_4 ih_4 =>
      intro i x h0 h1 hm_4
      refine WP.blk 3 ?_
      show (sT S m = 10 ∧ sR S m 0 ≠ 0) ∧ WP 2 142 9 [vR m, vI x, vI i] [vR (sR S m 0), vI i] (M, S) Q
      refine ⟨⟨hS.1.1, by rw [hS.1.2.1]; omega⟩, ?_⟩
      rw [hS.1.2.1]
      refine WP.blk 3 ?_
      show ((sT S (m + 1) = 11 ∨ sT S (m + 1) = 16 ∨ sT S (m + 1) = 17) ∧ 0 ≤ 0 ∧ 0 < (sN S (m + 1) : Int)) ∧ WP 2 142 (if cnd .ge i (M (m + 1) 0) = true then 38 else 14) [vR m, vI x, vI i] [] (M, S) Q
      rw [hf]
      refine ⟨⟨Or.inl hS.2.1.1, by omega, by rw [hS.2.2.1]; omega⟩, ?_⟩
      refine br_ge (fun c_1 => ?_) (fun c_1 => ?_)
      · refine WP.blk 1 ?_
        show WP 2 142 39 [vR m, vI x, vI i] [vI x] (M, S) Q
        exact WP.ret rfl rfl rfl trivial (k _ (by rw [show i = f 0 by omega] at h1; exact h1))
      · refine WP.blk 3 ?_
        show WP 2 142 17 [vR m, vI x, vI i] [vI i, vR m, vI x] (M, S) Q
        refine WP.cl (a := [vR m, vI i]) (rest := [vI x]) rfl rfl rfl rfl ⟨hS.1.1, trivial⟩ (by decide) (r_isWorn hS hf (by omega) (fun b_2 hb_2 => ⟨rfl, ?_⟩))
        show WP 2 142 20 [vR m, vI x, vI i] [vI b_2, vI x] (M, S) Q
        refine WP.blk 1 ?_
        show WP 2 142 (if cnd .eq b_2 0 = true then 27 else 23) [vR m, vI x, vI i] [vI x] (M, S) Q
        refine br_eq (fun c_3 => ?_) (fun c_3 => ?_)
        · refine WP.blk 7 ?_
          show ir (i + 1) ∧ WP 2 142 4 [vR m, vI (iO x (iL 1 i)), vI (i + 1)] [] (M, S) Q
          refine ⟨(by unfold ir; omega), ?_⟩
          exact ih_4 (i + 1) (iO x (iL 1 i)) (by omega) (FrB_1 h1 (by omega) (by omega))  (by omega)
        · refine WP.blk 6 ?_
          show ir (i + 1) ∧ WP 2 142 4 [vR m, vI (iO x 0), vI (i + 1)] [] (M, S) Q
          refine ⟨(by unfold ir; omega), ?_⟩
          exact ih_4 (i + 1) (iO x 0) (by omega) (FrB_2 h1 (by omega) (by omega))  (by omega)
  exact hl_4 _ 0 0 (by omega) FrB_0  (Nat.lt_succ_self _)
