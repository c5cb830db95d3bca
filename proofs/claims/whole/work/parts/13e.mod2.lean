set_option maxHeartbeats 4000000 in
theorem q_turned {S : SD} {M : Nat → Int → Int} {a : Int} (h : 0 ≤ a ∧ a ≤ 25) {Q : Res → Wd → Prop} (k : Q (0, vI (tur a)) (M, S)) : EvQ 1 122 [vI a] (M, S) Q := by
  refine EvQ.enter (ls := [vI a]) (Nat.le_of_ble_eq_true rfl) rfl ?_
  refine WP.blk 4 ?_
  show ir (a + 97) ∧ WP 0 122 (if (a + 97) < 98 ∨ 122 < (a + 97) then 144 else ((#[120, 144, 125, 144, 144, 144, 144, 144, 144, 144, 142, 130, 136, 142, 128, 123, 144, 142, 144, 139, 144, 133, 142, 144, 142] : Array Int).getD ((a + 97) - 98).toNat 0).toNat) [vI a] [] (M, S) Q
  refine ⟨(by unfold ir; omega), ?_⟩
  rcases (show (a + 97) = 98 ∨ (a + 97) = 99 ∨ (a + 97) = 100 ∨ (a + 97) = 101 ∨ (a + 97) = 102 ∨ (a + 97) = 103 ∨ (a + 97) = 104 ∨ (a + 97) = 105 ∨ (a + 97) = 106 ∨ (a + 97) = 107 ∨ (a + 97) = 108 ∨ (a + 97) = 109 ∨ (a + 97) = 110 ∨ (a + 97) = 111 ∨ (a + 97) = 112 ∨ (a + 97) = 113 ∨ (a + 97) = 114 ∨ (a + 97) = 115 ∨ (a + 97) = 116 ∨ (a + 97) = 117 ∨ (a + 97) = 118 ∨ (a + 97) = 119 ∨ (a + 97) = 120 ∨ (a + 97) = 121 ∨ (a + 97) = 122 ∨ ((a + 97) < 98 ∨ 122 < (a + 97)) by omega) with c_1 | c_1 | c_1 | c_1 | c_1 | c_1 | c_1 | c_1 | c_1 | c_1 | c_1 | c_1 | c_1 | c_1 | c_1 | c_1 | c_1 | c_1 | c_1 | c_1 | c_1 | c_1 | c_1 | c_1 | c_1 | c_1
  · refine sw_in (t := 120) 98 c_1 rfl ?_
    refine WP.blk 1 ?_
    show WP 0 122 122 [vI a] [vI 16] (M, S) Q
    exact WP.ret rfl rfl rfl trivial (by have e : a = 1 := (by omega); subst e; exact k)
  · refine sw_in (t := 144) 99 c_1 rfl ?_
    refine WP.blk 1 ?_
    show WP 0 122 145 [vI a] [vI (-1)] (M, S) Q
    exact WP.ret rfl rfl rfl trivial (by have e : tur a = -1 := (by unfold tur; rw [if_neg (by omega), if_neg (by omega), if_neg (by omega), if_neg (by omega), if_neg (by omega), if_neg (by omega), if_neg (by omega), if_neg (by omega), if_neg (by omega), if_neg (by omega), if_neg (by omega), if_neg (by omega), if_neg (by omega)]); rw [e] at k; exact k)
  · refine sw_in (t := 125) 100 c_1 rfl ?_
    refine WP.blk 1 ?_
    show WP 0 122 127 [vI a] [vI 15] (M, S) Q
    exact WP.ret rfl rfl rfl trivial (by have e : a = 3 := (by omega); subst e; exact k)
  · refine sw_in (t := 144) 101 c_1 rfl ?_
    refine WP.blk 1 ?_
    show WP 0 122 145 [vI a] [vI (-1)] (M, S) Q
    exact WP.ret rfl rfl rfl trivial (by have e : tur a = -1 := (by unfold tur; rw [if_neg (by omega), if_neg (by omega), if_neg (by omega), if_neg (by omega), if_neg (by omega), if_neg (by omega), if_neg (by omega), if_neg (by omega), if_neg (by omega), if_neg (by omega), if_neg (by omega), if_neg (by omega), if_neg (by omega)]); rw [e] at k; exact k)
  · refine sw_in (t := 144) 102 c_1 rfl ?_
    refine WP.blk 1 ?_
    show WP 0 122 145 [vI a] [vI (-1)] (M, S) Q
    exact WP.ret rfl rfl rfl trivial (by have e : tur a = -1 := (by unfold tur; rw [if_neg (by omega), if_neg (by omega), if_neg (by omega), if_neg (by omega), if_neg (by omega), if_neg (by omega), if_neg (by omega), if_neg (by omega), if_neg (by omega), if_neg (by omega), if_neg (by omega), if_neg (by omega), if_neg (by omega)]); rw [e] at k; exact k)
  · refine sw_in (t := 144) 103 c_1 rfl ?_
    refine WP.blk 1 ?_
    show WP 0 122 145 [vI a] [vI (-1)] (M, S) Q
    exact WP.ret rfl rfl rfl trivial (by have e : tur a = -1 := (by unfold tur; rw [if_neg (by omega), if_neg (by omega), if_neg (by omega), if_neg (by omega), if_neg (by omega), if_neg (by omega), if_neg (by omega), if_neg (by omega), if_neg (by omega), if_neg (by omega), if_neg (by omega), if_neg (by omega), if_neg (by omega)]); rw [e] at k; exact k)
  · refine sw_in (t := 144) 104 c_1 rfl ?_
    refine WP.blk 1 ?_
    show WP 0 122 145 [vI a] [vI (-1)] (M, S) Q
    exact WP.ret rfl rfl rfl trivial (by have e : tur a = -1 := (by unfold tur; rw [if_neg (by omega), if_neg (by omega), if_neg (by omega), if_neg (by omega), if_neg (by omega), if_neg (by omega), if_neg (by omega), if_neg (by omega), if_neg (by omega), if_neg (by omega), if_neg (by omega), if_neg (by omega), if_neg (by omega)]); rw [e] at k; exact k)
  · refine sw_in (t := 144) 105 c_1 rfl ?_
    refine WP.blk 1 ?_
    show WP 0 122 145 [vI a] [vI (-1)] (M, S) Q
    exact WP.ret rfl rfl rfl trivial (by have e : tur a = -1 := (by unfold tur; rw [if_neg (by omega), if_neg (by omega), if_neg (by omega), if_neg (by omega), if_neg (by omega), if_neg (by omega), if_neg (by omega), if_neg (by omega), if_neg (by omega), if_neg (by omega), if_neg (by omega), if_neg (by omega), if_neg (by omega)]); rw [e] at k; exact k)
  · refine sw_in (t := 144) 106 c_1 rfl ?_
    refine WP.blk 1 ?_
    show WP 0 122 145 [vI a] [vI (-1)] (M, S) Q
    exact WP.ret rfl rfl rfl trivial (by have e : tur a = -1 := (by unfold tur; rw [if_neg (by omega), if_neg (by omega), if_neg (by omega), if_neg (by omega), if_neg (by omega), if_neg (by omega), if_neg (by omega), if_neg (by omega), if_neg (by omega), if_neg (by omega), if_neg (by omega), if_neg (by omega), if_neg (by omega)]); rw [e] at k; exact k)
  · refine sw_in (t := 144) 107 c_1 rfl ?_
    refine WP.blk 1 ?_
    show WP 0 122 145 [vI a] [vI (-1)] (M, S) Q
    exact WP.ret rfl rfl rfl trivial (by have e : tur a = -1 := (by unfold tur; rw [if_neg (by omega), if_neg (by omega), if_neg (by omega), if_neg (by omega), if_neg (by omega), if_neg (by omega), if_neg (by omega), if_neg (by omega), if_neg (by omega), if_neg (by omega), if_neg (by omega), if_neg (by omega), if_neg (by omega)]); rw [e] at k; exact k)
  · refine sw_in (t := 142) 108 c_1 rfl ?_
    refine WP.blk 1 ?_
    show WP 0 122 143 [vI a] [vI a] (M, S) Q
    exact WP.ret rfl rfl rfl trivial (by have e : a = 11 ∨ a = 14 ∨ a = 18 ∨ a = 23 ∨ a = 25 := (by omega); rcases e with e | e | e | e | e <;> (subst e; exact k))
  · refine sw_in (t := 130) 109 c_1 rfl ?_
    refine WP.blk 1 ?_
    show WP 0 122 132 [vI a] [vI 22] (M, S) Q
    exact WP.ret rfl rfl rfl trivial (by have e : a = 12 := (by omega); subst e; exact k)
  · refine sw_in (t := 136) 110 c_1 rfl ?_
    refine WP.blk 1 ?_
    show WP 0 122 138 [vI a] [vI 20] (M, S) Q
    exact WP.ret rfl rfl rfl trivial (by have e : a = 13 := (by omega); subst e; exact k)
  · refine sw_in (t := 142) 111 c_1 rfl ?_
    refine WP.blk 1 ?_
    show WP 0 122 143 [vI a] [vI a] (M, S) Q
    exact WP.ret rfl rfl rfl trivial (by have e : a = 11 ∨ a = 14 ∨ a = 18 ∨ a = 23 ∨ a = 25 := (by omega); rcases e with e | e | e | e | e <;> (subst e; exact k))
  · refine sw_in (t := 128) 112 c_1 rfl ?_
    refine WP.blk 1 ?_
    show WP 0 122 129 [vI a] [vI 3] (M, S) Q
    exact WP.ret rfl rfl rfl trivial (by have e : a = 15 := (by omega); subst e; exact k)
  · refine sw_in (t := 123) 113 c_1 rfl ?_
    refine WP.blk 1 ?_
    show WP 0 122 124 [vI a] [vI 1] (M, S) Q
    exact WP.ret rfl rfl rfl trivial (by have e : a = 16 := (by omega); subst e; exact k)
  · refine sw_in (t := 144) 114 c_1 rfl ?_
    refine WP.blk 1 ?_
    show WP 0 122 145 [vI a] [vI (-1)] (M, S) Q
    exact WP.ret rfl rfl rfl trivial (by have e : tur a = -1 := (by unfold tur; rw [if_neg (by omega), if_neg (by omega), if_neg (by omega), if_neg (by omega), if_neg (by omega), if_neg (by omega), if_neg (by omega), if_neg (by omega), if_neg (by omega), if_neg (by omega), if_neg (by omega), if_neg (by omega), if_neg (by omega)]); rw [e] at k; exact k)
  · refine sw_in (t := 142) 115 c_1 rfl ?_
    refine WP.blk 1 ?_
    show WP 0 122 143 [vI a] [vI a] (M, S) Q
    exact WP.ret rfl rfl rfl trivial (by have e : a = 11 ∨ a = 14 ∨ a = 18 ∨ a = 23 ∨ a = 25 := (by omega); rcases e with e | e | e | e | e <;> (subst e; exact k))
  · refine sw_in (t := 144) 116 c_1 rfl ?_
    refine WP.blk 1 ?_
    show WP 0 122 145 [vI a] [vI (-1)] (M, S) Q
    exact WP.ret rfl rfl rfl trivial (by have e : tur a = -1 := (by unfold tur; rw [if_neg (by omega), if_neg (by omega), if_neg (by omega), if_neg (by omega), if_neg (by omega), if_neg (by omega), if_neg (by omega), if_neg (by omega), if_neg (by omega), if_neg (by omega), if_neg (by omega), if_neg (by omega), if_neg (by omega)]); rw [e] at k; exact k)
  · refine sw_in (t := 139) 117 c_1 rfl ?_
    refine WP.blk 1 ?_
    show WP 0 122 141 [vI a] [vI 13] (M, S) Q
    exact WP.ret rfl rfl rfl trivial (by have e : a = 20 := (by omega); subst e; exact k)
  · refine sw_in (t := 144) 118 c_1 rfl ?_
    refine WP.blk 1 ?_
    show WP 0 122 145 [vI a] [vI (-1)] (M, S) Q
    exact WP.ret rfl rfl rfl trivial (by have e : tur a = -1 := (by unfold tur; rw [if_neg (by omega), if_neg (by omega), if_neg (by omega), if_neg (by omega), if_neg (by omega), if_neg (by omega), if_neg (by omega), if_neg (by omega), if_neg (by omega), if_neg (by omega), if_neg (by omega), if_neg (by omega), if_neg (by omega)]); rw [e] at k; exact k)
  · refine sw_in (t := 133) 119 c_1 rfl ?_
    refine WP.blk 1 ?_
    show WP 0 122 135 [vI a] [vI 12] (M, S) Q
    exact WP.ret rfl rfl rfl trivial (by have e : a = 22 := (by omega); subst e; exact k)
  · refine sw_in (t := 142) 120 c_1 rfl ?_
    refine WP.blk 1 ?_
    show WP 0 122 143 [vI a] [vI a] (M, S) Q
    exact WP.ret rfl rfl rfl trivial (by have e : a = 11 ∨ a = 14 ∨ a = 18 ∨ a = 23 ∨ a = 25 := (by omega); rcases e with e | e | e | e | e <;> (subst e; exact k))
  · refine sw_in (t := 144) 121 c_1 rfl ?_
    refine WP.blk 1 ?_
    show WP 0 122 145 [vI a] [vI (-1)] (M, S) Q
    exact WP.ret rfl rfl rfl trivial (by have e : tur a = -1 := (by unfold tur; rw [if_neg (by omega), if_neg (by omega), if_neg (by omega), if_neg (by omega), if_neg (by omega), if_neg (by omega), if_neg (by omega), if_neg (by omega), if_neg (by omega), if_neg (by omega), if_neg (by omega), if_neg (by omega), if_neg (by omega)]); rw [e] at k; exact k)
  · refine sw_in (t := 142) 122 c_1 rfl ?_
    refine WP.blk 1 ?_
    show WP 0 122 143 [vI a] [vI a] (M, S) Q
    exact WP.ret rfl rfl rfl trivial (by have e : a = 11 ∨ a = 14 ∨ a = 18 ∨ a = 23 ∨ a = 25 := (by omega); rcases e with e | e | e | e | e <;> (subst e; exact k))
  · refine sw_out c_1 ?_
    refine WP.blk 1 ?_
    show WP 0 122 145 [vI a] [vI (-1)] (M, S) Q
    exact WP.ret rfl rfl rfl trivial (by have e : tur a = -1 := (by unfold tur; rw [if_neg (by omega), if_neg (by omega), if_neg (by omega), if_neg (by omega), if_neg (by omega), if_neg (by omega), if_neg (by omega), if_neg (by omega), if_neg (by omega), if_neg (by omega), if_neg (by omega), if_neg (by omega), if_neg (by omega)]); rw [e] at k; exact k)
set_option maxHeartbeats 4000000 in
theorem q_canTurn {S : SD} {M : Nat → Int → Int} {m : Nat} {s : Int} (hS : isMod S m) (hs : StOk (M (m + 1)) s) {Q : Res → Wd → Prop} (k : ∀ b : Int, (b = 1 ∧ CanT (M (m + 1)) s) ∨ (b = 0 ∧ ¬ CanT (M (m + 1)) s) → Q (0, vI b) (M, S)) : EvQ 2 123 [vR m, vI s] (M, S) Q := by
  refine EvQ.enter (ls := [vR m, vI s, none, none]) (Nat.le_of_ble_eq_true rfl) rfl ?_
  have hs1 := hs.1
  have hs2 := hs.2.1
  have hs3 := hs.2.2.1
  have hs4 := hs.2.2.2.1
  refine WP.blk 4 ?_
  show WP 1 123 4 [vR m, vI s, vI 1, vI 0] [] (M, S) Q
  have hl_4 : ∀ (n_4 : Nat) (i : Int) (c : Int), 0 ≤ i ∧ i ≤ M (m + 1) (7 + 9 * s) → AllB (fun j => tur (M (m + 1) (7 + 9 * s + 1 + j)) ≠ -1) i c → (M (m + 1) (7 + 9 * s) - i).toNat < n_4 → WP 1 123 4 [vR m, vI s, vI c, vI i] [] (M, S) Q := by
    intro n_4
    induction n_4 with
    | zero => intro i c h0 h1 hm_4; exact absurd hm_4 (Nat.not_lt_zero _)
    | succ n_4 ih_4 =>
      intro i c h0 h1 hm_4
      refine WP.blk 3 ?_
      show (sT S m = 10 ∧ sR S m 0 ≠ 0) ∧ WP 1 123 9 [vR m, vI s, vI c, vI i] [vR (sR S m 0), vI i] (M, S) Q
      refine ⟨⟨hS.1.1, by rw [hS.1.2.1]; omega⟩, ?_⟩
      rw [hS.1.2.1]
      refine WP.blk 1 ?_
      show WP 1 123 10 [vR m, vI s, vI c, vI i] [vI s, vR (m + 1), vI i] (M, S) Q
      refine WP.cl (a := [vI s]) (rest := [vR (m + 1), vI i]) rfl rfl rfl rfl trivial (by decide) (q_stampAt (by omega) ⟨rfl, ?_⟩)
      show WP 1 123 13 [vR m, vI s, vI c, vI i] [vI (7 + 9 * s), vR (m + 1), vI i] (M, S) Q
      refine WP.blk 2 ?_
      show ((sT S (m + 1) = 11 ∨ sT S (m + 1) = 16 ∨ sT S (m + 1) = 17) ∧ 0 ≤ (7 + 9 * s) ∧ (7 + 9 * s) < (sN S (m + 1) : Int)) ∧ WP 1 123 (if cnd .ge i (M (m + 1) (7 + 9 * s)) = true then 53 else 17) [vR m, vI s, vI c, vI i] [] (M, S) Q
      refine ⟨⟨Or.inl hS.2.1.1, by first | omega | exact AllB_b h1 | (rcases AllB_b h1 with h | h <;> omega), by rw [hS.2.2.1]; first | omega | exact AllB_b h1 | (rcases AllB_b h1 with h | h <;> omega)⟩, ?_⟩
      refine br_ge (fun c_1 => ?_) (fun c_1 => ?_)
      · refine WP.blk 1 ?_
        show WP 1 123 54 [vR m, vI s, vI c, vI i] [vI c] (M, S) Q
        exact WP.ret rfl rfl rfl ⟨by first | omega | exact AllB_b h1 | (rcases AllB_b h1 with h | h <;> omega), trivial⟩ (k _ (AllB_e (by rw [show M (m + 1) (7 + 9 * s) = i by omega]; exact h1)))
      · refine WP.blk 2 ?_
        show WP 1 123 (if cnd .eq c 0 = true then 45 else 21) [vR m, vI s, vI c, vI i] [] (M, S) Q
        refine br_eq (fun c_2 => ?_) (fun c_2 => ?_)
        · refine WP.blk 4 ?_
          show ir (i + 1) ∧ WP 1 123 4 [vR m, vI s, vI 0, vI (i + 1)] [] (M, S) Q
          refine ⟨(by unfold ir; first | omega | exact AllB_b h1 | (rcases AllB_b h1 with h | h <;> omega)), ?_⟩
          exact ih_4 (i + 1) 0 (by omega) (by first | exact AllB_2 h1 (by assumption) | exact AllB_3 (by omega) (fun h => h (by assumption))) (by omega)
        · refine WP.blk 2 ?_
          show (sT S m = 10 ∧ sR S m 0 ≠ 0) ∧ WP 1 123 25 [vR m, vI s, vI c, vI i] [vR (sR S m 0)] (M, S) Q
          refine ⟨⟨hS.1.1, by rw [hS.1.2.1]; omega⟩, ?_⟩
          rw [hS.1.2.1]
          refine WP.blk 1 ?_
          show WP 1 123 26 [vR m, vI s, vI c, vI i] [vI s, vR (m + 1)] (M, S) Q
          refine WP.cl (a := [vI s]) (rest := [vR (m + 1)]) rfl rfl rfl rfl trivial (by decide) (q_stampAt (by omega) ⟨rfl, ?_⟩)
          show WP 1 123 29 [vR m, vI s, vI c, vI i] [vI (7 + 9 * s), vR (m + 1)] (M, S) Q
          refine WP.blk 5 ?_
          show ir ((7 + 9 * s) + 1) ∧ ir (((7 + 9 * s) + 1) + i) ∧ ((sT S (m + 1) = 11 ∨ sT S (m + 1) = 16 ∨ sT S (m + 1) = 17) ∧ 0 ≤ (((7 + 9 * s) + 1) + i) ∧ (((7 + 9 * s) + 1) + i) < (sN S (m + 1) : Int)) ∧ WP 1 123 34 [vR m, vI s, vI c, vI i] [vI (M (m + 1) (((7 + 9 * s) + 1) + i))] (M, S) Q
          refine ⟨(by unfold ir; first | omega | exact AllB_b h1 | (rcases AllB_b h1 with h | h <;> omega)), (by unfold ir; first | omega | exact AllB_b h1 | (rcases AllB_b h1 with h | h <;> omega)), ⟨Or.inl hS.2.1.1, by first | omega | exact AllB_b h1 | (rcases AllB_b h1 with h | h <;> omega), by rw [hS.2.2.1]; first | omega | exact AllB_b h1 | (rcases AllB_b h1 with h | h <;> omega)⟩, ?_⟩
          refine WP.cl (a := [vI (M (m + 1) (((7 + 9 * s) + 1) + i))]) (rest := []) rfl rfl rfl rfl trivial (by decide) (q_turned (hs.2.2.2.2 i (by omega) (by omega)) ⟨rfl, ?_⟩)
          show WP 1 123 37 [vR m, vI s, vI c, vI i] [vI (tur (M (m + 1) (((7 + 9 * s) + 1) + i)))] (M, S) Q
          refine WP.blk 2 ?_
          show WP 1 123 (if cnd .eq (tur (M (m + 1) (((7 + 9 * s) + 1) + i))) (-1) = true then 45 else 41) [vR m, vI s, vI c, vI i] [] (M, S) Q
          refine br_eq (fun c_3 => ?_) (fun c_3 => ?_)
          · refine WP.blk 4 ?_
            show ir (i + 1) ∧ WP 1 123 4 [vR m, vI s, vI 0, vI (i + 1)] [] (M, S) Q
            refine ⟨(by unfold ir; first | omega | exact AllB_b h1 | (rcases AllB_b h1 with h | h <;> omega)), ?_⟩
            exact ih_4 (i + 1) 0 (by omega) (by first | exact AllB_2 h1 (by assumption) | exact AllB_3 (by omega) (fun h => h (by assumption))) (by omega)
          · refine WP.blk 5 ?_
            show ir (i + 1) ∧ WP 1 123 4 [vR m, vI s, vI 1, vI (i + 1)] [] (M, S) Q
            refine ⟨(by unfold ir; first | omega | exact AllB_b h1 | (rcases AllB_b h1 with h | h <;> omega)), ?_⟩
            exact ih_4 (i + 1) 1 (by omega) (AllB_1 h1 (by assumption) (by assumption)) (by omega)
  exact hl_4 _ 0 1 (by omega) AllB_0 (Nat.lt_succ_self _)
set_option maxHeartbeats 4000000 in
theorem q_printed {S : SD} {M : Nat → Int → Int} {m : Nat} {s i t : Int} (hS : isMod S m) (hs : StOk (M (m + 1)) s) (hi : 0 ≤ i ∧ i < M (m + 1) (7 + 9 * s)) {Q : Res → Wd → Prop} (k : Q (0, vI (prL (M (m + 1)) s i t)) (M, S)) : EvQ 2 124 [vR m, vI s, vI i, vI t] (M, S) Q := by
  refine EvQ.enter (ls := [vR m, vI s, vI i, vI t, none]) (Nat.le_of_ble_eq_true rfl) rfl ?_
  have hs1 := hs.1
  have hs2 := hs.2.1
  have hs3 := hs.2.2.1
  have hs4 := hs.2.2.2.1
  refine WP.blk 1 ?_
  show WP 1 124 1 [vR m, vI s, vI i, vI t, none] [vI s] (M, S) Q
  refine WP.cl (a := [vI s]) (rest := []) rfl rfl rfl rfl trivial (by decide) (q_stampAt (by omega) ⟨rfl, ?_⟩)
  show WP 1 124 4 [vR m, vI s, vI i, vI t, none] [vI (7 + 9 * s)] (M, S) Q
  refine WP.blk 3 ?_
  show WP 1 124 (if cnd .eq t 0 = true then 33 else 10) [vR m, vI s, vI i, vI t, vI (7 + 9 * s)] [] (M, S) Q
  refine br_eq (fun c_1 => ?_) (fun c_1 => ?_)
  · refine WP.blk 2 ?_
    show (sT S m = 10 ∧ sR S m 0 ≠ 0) ∧ WP 1 124 37 [vR m, vI s, vI i, vI t, vI (7 + 9 * s)] [vR (sR S m 0)] (M, S) Q
    refine ⟨⟨hS.1.1, by rw [hS.1.2.1]; omega⟩, ?_⟩
    rw [hS.1.2.1]
    refine WP.blk 6 ?_
    show ir ((7 + 9 * s) + 1) ∧ ir (((7 + 9 * s) + 1) + i) ∧ ((sT S (m + 1) = 11 ∨ sT S (m + 1) = 16 ∨ sT S (m + 1) = 17) ∧ 0 ≤ (((7 + 9 * s) + 1) + i) ∧ (((7 + 9 * s) + 1) + i) < (sN S (m + 1) : Int)) ∧ WP 1 124 44 [vR m, vI s, vI i, vI t, vI (7 + 9 * s)] [vI (M (m + 1) (((7 + 9 * s) + 1) + i))] (M, S) Q
    refine ⟨(by unfold ir; omega), (by unfold ir; omega), ⟨Or.inl hS.2.1.1, by omega, by rw [hS.2.2.1]; omega⟩, ?_⟩
    exact WP.ret rfl rfl rfl trivial (by unfold prL at k; first | (rw [if_pos (by assumption)] at k; exact k) | (rw [if_neg (by assumption)] at k; exact k))
  · refine WP.blk 2 ?_
    show (sT S m = 10 ∧ sR S m 0 ≠ 0) ∧ WP 1 124 14 [vR m, vI s, vI i, vI t, vI (7 + 9 * s)] [vR (sR S m 0)] (M, S) Q
    refine ⟨⟨hS.1.1, by rw [hS.1.2.1]; omega⟩, ?_⟩
    rw [hS.1.2.1]
    refine WP.blk 3 ?_
    show (sT S m = 10 ∧ sR S m 0 ≠ 0) ∧ WP 1 124 20 [vR m, vI s, vI i, vI t, vI (7 + 9 * s)] [vR (sR S m 0), vI (7 + 9 * s), vR (m + 1)] (M, S) Q
    refine ⟨⟨hS.1.1, by rw [hS.1.2.1]; omega⟩, ?_⟩
    rw [hS.1.2.1]
    refine WP.blk 6 ?_
    show ((sT S (m + 1) = 11 ∨ sT S (m + 1) = 16 ∨ sT S (m + 1) = 17) ∧ 0 ≤ (7 + 9 * s) ∧ (7 + 9 * s) < (sN S (m + 1) : Int)) ∧ ir ((7 + 9 * s) + (M (m + 1) (7 + 9 * s))) ∧ ir (((7 + 9 * s) + (M (m + 1) (7 + 9 * s))) - i) ∧ ((sT S (m + 1) = 11 ∨ sT S (m + 1) = 16 ∨ sT S (m + 1) = 17) ∧ 0 ≤ (((7 + 9 * s) + (M (m + 1) (7 + 9 * s))) - i) ∧ (((7 + 9 * s) + (M (m + 1) (7 + 9 * s))) - i) < (sN S (m + 1) : Int)) ∧ WP 1 124 27 [vR m, vI s, vI i, vI t, vI (7 + 9 * s)] [vI (M (m + 1) (((7 + 9 * s) + (M (m + 1) (7 + 9 * s))) - i))] (M, S) Q
    refine ⟨⟨Or.inl hS.2.1.1, by omega, by rw [hS.2.2.1]; omega⟩, (by unfold ir; omega), (by unfold ir; omega), ⟨Or.inl hS.2.1.1, by omega, by rw [hS.2.2.1]; omega⟩, ?_⟩
    refine WP.cl (a := [vI (M (m + 1) (((7 + 9 * s) + (M (m + 1) (7 + 9 * s))) - i))]) (rest := []) rfl rfl rfl rfl trivial (by decide) (q_turned (by have h := hs.2.2.2.2 (M (m + 1) (7 + 9 * s) - 1 - i) (by omega) (by omega); rwa [show 7 + 9 * s + 1 + (M (m + 1) (7 + 9 * s) - 1 - i) = 7 + 9 * s + M (m + 1) (7 + 9 * s) - i by omega] at h) ⟨rfl, ?_⟩)
    show WP 1 124 30 [vR m, vI s, vI i, vI t, vI (7 + 9 * s)] [vI (tur (M (m + 1) (((7 + 9 * s) + (M (m + 1) (7 + 9 * s))) - i)))] (M, S) Q
    refine WP.blk 1 ?_
    show WP 1 124 44 [vR m, vI s, vI i, vI t, vI (7 + 9 * s)] [vI (tur (M (m + 1) (((7 + 9 * s) + (M (m + 1) (7 + 9 * s))) - i)))] (M, S) Q
    exact WP.ret rfl rfl rfl trivial (by unfold prL at k; first | (rw [if_pos (by assumption)] at k; exact k) | (rw [if_neg (by assumption)] at k; exact k))
set_option maxHeartbeats 4000000 in
theorem q_counts {S : SD} {M : Nat → Int → Int} {m : Nat} {s : Int} (hS : isMod S m) (hs : StOk (M (m + 1)) s) {Q : Res → Wd → Prop} (k : ∀ b : Int, (b = 1 ∧ Cnt (M (m + 1)) s) ∨ (b = 0 ∧ ¬ Cnt (M (m + 1)) s) → Q (0, vI b) (M, S)) : EvQ 3 125 [vR m, vI s] (M, S) Q := by
  refine EvQ.enter (ls := [vR m, vI s, none, none]) (Nat.le_of_ble_eq_true rfl) rfl ?_
  have hs1 := hs.1
  have hs2 := hs.2.1
  have hs3 := hs.2.2.1
  have hs4 := hs.2.2.2.1
  refine WP.blk 2 ?_
  show WP 2 125 2 [vR m, vI s, none, none] [vI s, vR m] (M, S) Q
  refine WP.cl (a := [vR m, vI s]) (rest := []) rfl rfl rfl rfl ⟨hS.1.1, trivial⟩ (by decide) (q_canTurn hS hs (fun b_1 hb_1 => ⟨rfl, ?_⟩))
  show WP 2 125 5 [vR m, vI s, none, none] [vI b_1] (M, S) Q
  refine WP.blk 1 ?_
  show WP 2 125 (if cnd .ne b_1 0 = true then 10 else 8) [vR m, vI s, none, none] [] (M, S) Q
  refine br_ne (fun c_2 => ?_) (fun c_2 => ?_)
  · refine WP.blk 4 ?_
    show WP 2 125 14 [vR m, vI s, vI 1, vI 0] [] (M, S) Q
    have hl_14 : ∀ (n_14 : Nat) (i : Int) (c : Int), 0 ≤ i ∧ i ≤ M (m + 1) (7 + 9 * s) → AllB (fun j => prL (M (m + 1)) s j 1 = prL (M (m + 1)) s j 0) i c → (M (m + 1) (7 + 9 * s) - i).toNat < n_14 → WP 2 125 14 [vR m, vI s, vI c, vI i] [] (M, S) Q := by
      intro n_14
      induction n_14 with
      | zero => intro i c h0 h1 hm_14; exact absurd hm_14 (Nat.not_lt_zero _)
      | succ n_14 ih_14 =>
        intro i c h0 h1 hm_14
        refine WP.blk 3 ?_
        show (sT S m = 10 ∧ sR S m 0 ≠ 0) ∧ WP 2 125 19 [vR m, vI s, vI c, vI i] [vR (sR S m 0), vI i] (M, S) Q
        refine ⟨⟨hS.1.1, by rw [hS.1.2.1]; omega⟩, ?_⟩
        rw [hS.1.2.1]
        refine WP.blk 1 ?_
        show WP 2 125 20 [vR m, vI s, vI c, vI i] [vI s, vR (m + 1), vI i] (M, S) Q
        refine WP.cl (a := [vI s]) (rest := [vR (m + 1), vI i]) rfl rfl rfl rfl trivial (by decide) (q_stampAt (by omega) ⟨rfl, ?_⟩)
        show WP 2 125 23 [vR m, vI s, vI c, vI i] [vI (7 + 9 * s), vR (m + 1), vI i] (M, S) Q
        refine WP.blk 2 ?_
        show ((sT S (m + 1) = 11 ∨ sT S (m + 1) = 16 ∨ sT S (m + 1) = 17) ∧ 0 ≤ (7 + 9 * s) ∧ (7 + 9 * s) < (sN S (m + 1) : Int)) ∧ WP 2 125 (if cnd .ge i (M (m + 1) (7 + 9 * s)) = true then 60 else 27) [vR m, vI s, vI c, vI i] [] (M, S) Q
        refine ⟨⟨Or.inl hS.2.1.1, by first | omega | exact AllB_b h1, by rw [hS.2.2.1]; first | omega | exact AllB_b h1⟩, ?_⟩
        refine br_ge (fun c_3 => ?_) (fun c_3 => ?_)
        · refine WP.blk 2 ?_
          show WP 2 125 (if cnd .ne c 0 = true then 68 else 64) [vR m, vI s, vI c, vI i] [] (M, S) Q
          refine br_ne (fun c_4 => ?_) (fun c_4 => ?_)
          · refine WP.blk 1 ?_
            show WP 2 125 69 [vR m, vI s, vI c, vI i] [vI 0] (M, S) Q
            refine WP.ret rfl rfl rfl ⟨by first | omega | exact AllB_b h1, trivial⟩ ?_
            have e : M (m + 1) (7 + 9 * s) = i := by omega
            rw [← e] at h1
            refine k _ ?_
            rcases AllB_e h1 with h | h
            · first | omega | exact Or.inr ⟨rfl, fun h9 => h9.2 h.2⟩
            · first | omega | exact Or.inl ⟨rfl, hb_1.elim (fun hb => hb.2) (fun hb => absurd hb.1 (by omega)), h.2⟩
          · refine WP.blk 2 ?_
            show WP 2 125 69 [vR m, vI s, vI c, vI i] [vI 1] (M, S) Q
            refine WP.ret rfl rfl rfl ⟨by first | omega | exact AllB_b h1, trivial⟩ ?_
            have e : M (m + 1) (7 + 9 * s) = i := by omega
            rw [← e] at h1
            refine k _ ?_
            rcases AllB_e h1 with h | h
            · first | omega | exact Or.inr ⟨rfl, fun h9 => h9.2 h.2⟩
            · first | omega | exact Or.inl ⟨rfl, hb_1.elim (fun hb => hb.2) (fun hb => absurd hb.1 (by omega)), h.2⟩
        · refine WP.blk 2 ?_
          show WP 2 125 (if cnd .eq c 0 = true then 52 else 31) [vR m, vI s, vI c, vI i] [] (M, S) Q
          refine br_eq (fun c_5 => ?_) (fun c_5 => ?_)
          · refine WP.blk 4 ?_
            show ir (i + 1) ∧ WP 2 125 14 [vR m, vI s, vI 0, vI (i + 1)] [] (M, S) Q
            refine ⟨(by unfold ir; first | omega | exact AllB_b h1), ?_⟩
            exact ih_14 (i + 1) 0 (by omega) (by first | exact AllB_2 h1 (by assumption) | exact AllB_3 (by omega) (by assumption)) (by omega)
          · refine WP.blk 4 ?_
            show WP 2 125 35 [vR m, vI s, vI c, vI i] [vI 1, vI i, vI s, vR m] (M, S) Q
            refine WP.cl (a := [vR m, vI s, vI i, vI 1]) (rest := []) rfl rfl rfl rfl ⟨hS.1.1, trivial⟩ (by decide) (q_printed hS hs (by omega) ⟨rfl, ?_⟩)
            show WP 2 125 38 [vR m, vI s, vI c, vI i] [vI (prL (M (m + 1)) s i 1)] (M, S) Q
            refine WP.blk 4 ?_
            show WP 2 125 42 [vR m, vI s, vI c, vI i] [vI 0, vI i, vI s, vR m, vI (prL (M (m + 1)) s i 1)] (M, S) Q
            refine WP.cl (a := [vR m, vI s, vI i, vI 0]) (rest := [vI (prL (M (m + 1)) s i 1)]) rfl rfl rfl rfl ⟨hS.1.1, trivial⟩ (by decide) (q_printed hS hs (by omega) ⟨rfl, ?_⟩)
            show WP 2 125 45 [vR m, vI s, vI c, vI i] [vI (prL (M (m + 1)) s i 0), vI (prL (M (m + 1)) s i 1)] (M, S) Q
            refine WP.blk 1 ?_
            show WP 2 125 (if cnd .ne (prL (M (m + 1)) s i 1) (prL (M (m + 1)) s i 0) = true then 52 else 48) [vR m, vI s, vI c, vI i] [] (M, S) Q
            refine br_ne (fun c_6 => ?_) (fun c_6 => ?_)
            · refine WP.blk 4 ?_
              show ir (i + 1) ∧ WP 2 125 14 [vR m, vI s, vI 0, vI (i + 1)] [] (M, S) Q
              refine ⟨(by unfold ir; first | omega | exact AllB_b h1), ?_⟩
              exact ih_14 (i + 1) 0 (by omega) (by first | exact AllB_2 h1 (by assumption) | exact AllB_3 (by omega) (by assumption)) (by omega)
            · refine WP.blk 5 ?_
              show ir (i + 1) ∧ WP 2 125 14 [vR m, vI s, vI 1, vI (i + 1)] [] (M, S) Q
              refine ⟨(by unfold ir; first | omega | exact AllB_b h1), ?_⟩
              exact ih_14 (i + 1) 1 (by omega) (AllB_1 h1 (by assumption) (by assumption)) (by omega)
    exact hl_14 _ 0 1 (by omega) AllB_0 (Nat.lt_succ_self _)
  · refine WP.blk 1 ?_
    show WP 2 125 9 [vR m, vI s, none, none] [vI 0] (M, S) Q
    exact WP.ret rfl rfl rfl ⟨by first | omega | exact AllB_b h1, trivial⟩ (k _ (Or.inr ⟨rfl, fun h => hb_1.elim (fun hb => absurd hb.1 (by omega)) (fun hb => hb.2 h.1)⟩))
