set_option maxHeartbeats 4000000 in
theorem r_needs {S : SD} {M : Nat → Int → Int} {m : Nat} {f : Int → Int} {o : Int → Int} {w t B : Int} (hS : isMod S m) (hf : M (m + 1) = f) (ho : M m = o) (hR : RowOk B f) (hB : 0 ≤ B ∧ B ≤ 1000000000 - 200) (hw : WdOk f w) (hcol : 0 ≤ f (97 + 14 * w + 1) ∧ f (97 + 14 * w + 1) ≤ 3) {Q : Res → Wd → Prop} (k : ∀ (v : Int) (M2 : Nat → Int → Int), (∀ r, r ≠ m → r ≠ m + 1 → r ≠ m + 3 → r ≠ m + 6 → r ≠ m + 7 → M2 r = M r) → M2 (m + 1) = f → ∀ o2, M2 m = o2 → o2 4 = o 4 → o2 7 = o 7 → o2 5 = o 5 → o2 17 = o 17 → NeedsV f w (if t = 0 then 5 else 6) v → Q (0, vI v) (M2, S)) : EvQ 7 154 [vR m, vI w, vI t] (M, S) Q := by
  refine EvQ.enter (ls := [vR m, vI w, vI t, none, none]) (Nat.le_of_ble_eq_true rfl) rfl ?_
  have hA := hR.1
  have hA1 := hA.1
  have hWA := hR.2.1
  have hW1 := hWA.1
  have hI := hR.2.2
  have hI2 := hI.2.1
  have hI3 := hI.2.2.1
  have hWr : ∀ s, 0 ≤ s → s < f 0 → 0 ≤ f (7 + 9 * s + 8) ∧ f (7 + 9 * s + 8) ≤ 1000000000 := fun s a b => ⟨(hI.1 s a b).2.2.1, by have := (hI.1 s a b).2.2.2; omega⟩
  have hI4 := hI.2.2.2.1
  have hI5 := hI.2.2.2.2.1
  have hI6 := hI.2.2.2.2.2
  obtain ⟨g0, hg0⟩ : ∃ g, M (m + 6) = g := ⟨_, rfl⟩
  obtain ⟨a0, ha0⟩ : ∃ g, M (m + 3) = g := ⟨_, rfl⟩
  obtain ⟨c0, hc0⟩ : ∃ g, M (m + 7) = g := ⟨_, rfl⟩
  have hw1 := hw.1
  have hw2 := hw.2.1
  refine WP.blk 2 ?_
  show WP 6 154 2 [vR m, vI w, vI t, none, none] [vI w, vR m] (M, S) Q
  refine WP.cl (a := [vR m, vI w]) (rest := []) rfl rfl rfl rfl ⟨hS.1.1, trivial⟩ (by decide) (r_canWrite hS hf hA hw hWr (fun b_1 Mc1 fr1 o1 c1 ho1 hc1 hk1 hb_1 => ⟨rfl, ?_⟩))
  show WP 6 154 5 [vR m, vI w, vI t, none, none] [vI b_1] (Mc1, S) Q
  have r_2 : Mc1 (m + 1) = f := (fr1 _ (by omega) (by omega) (by omega)).trans hf
  have r_4 : Mc1 (m + 3) = a0 := (fr1 _ (by omega) (by omega) (by omega)).trans ha0
  obtain ⟨g_6, r_5⟩ : ∃ y9, Mc1 (m + 6) = y9 := ⟨_, rfl⟩
  have fr_8 : ∀ r, r ≠ m → r ≠ m + 1 → r ≠ m + 3 → r ≠ m + 6 → r ≠ m + 7 → Mc1 r = M r := fun r q0 q1 q2 q3 q4 => (fr1 r q0 q3 q4).trans ((fun _ _ _ _ _ _ => rfl) r q0 q1 q2 q3 q4)
  have t41 := (hk1 4 (by omega)).trans (congrFun ho 4)
  have t71 := (hk1 7 (by omega)).trans (congrFun ho 7)
  have t51 := (hk1 5 (by omega)).trans (congrFun ho 5)
  have t171 := (hk1 17 (by omega)).trans (congrFun ho 17)
  refine WP.blk 1 ?_
  show WP 6 154 (if cnd .ne b_1 0 = true then 10 else 8) [vR m, vI w, vI t, none, none] [] (Mc1, S) Q
  refine br_ne (fun c_9 => ?_) (fun c_9 => ?_)
  · have p_1 := (hb_1.resolve_right (fun h => by omega)).2
    have hpl := wrt_pl hA hw p_1
    refine WP.blk 1 ?_
    show WP 6 154 11 [vR m, vI w, vI t, none, none] [vR m] (Mc1, S) Q
    refine WP.cl (a := [vR m]) (rest := []) rfl rfl rfl rfl ⟨hS.1.1, trivial⟩ (by decide) (r_keeps hS r_2 r_4 (fun My_10 fry_10 hMy_10 => ⟨rfl, ?_⟩))
    show WP 6 154 14 [vR m, vI w, vI t, none, none] [] (My_10, S) Q
    obtain ⟨ay_10, hay_10⟩ : ∃ y9, My_10 (m + 3) = y9 := ⟨_, rfl⟩
    rw [hay_10] at hMy_10
    have r_11 : My_10 (m + 1) = f := (fry_10 _ (by omega)).trans r_2
    have r_12 : My_10 m = o1 := (fry_10 _ (by omega)).trans ho1
    have r_14 : My_10 (m + 6) = g_6 := (fry_10 _ (by omega)).trans r_5
    have r_15 : My_10 (m + 7) = c1 := (fry_10 _ (by omega)).trans hc1
    have fr_16 : ∀ r, r ≠ m → r ≠ m + 1 → r ≠ m + 3 → r ≠ m + 6 → r ≠ m + 7 → My_10 r = M r := fun r q0 q1 q2 q3 q4 => (fry_10 r q2).trans (fr_8 r q0 q1 q2 q3 q4)
    have e5y_10 : ay_10 5 = f 5 := by rw [hMy_10, rcp_in (by omega)]; congr 1
    have e6y_10 : ay_10 6 = f 6 := by rw [hMy_10, rcp_in (by omega)]; congr 1
    refine WP.blk 3 ?_
    show (sT S m = 10 ∧ sR S m 0 ≠ 0) ∧ WP 6 154 19 [vR m, vI w, vI t, none, none] [vR (sR S m 0), vR m] (My_10, S) Q
    refine ⟨⟨hS.1.1, by rw [hS.1.2.1]; omega⟩, ?_⟩
    rw [hS.1.2.1]
    refine WP.blk 1 ?_
    show WP 6 154 20 [vR m, vI w, vI t, none, none] [vI w, vR (m + 1), vR m] (My_10, S) Q
    refine WP.cl (a := [vI w]) (rest := [vR (m + 1), vR m]) rfl rfl rfl rfl trivial (by decide) (q_wordAt (by omega) ⟨rfl, ?_⟩)
    show WP 6 154 23 [vR m, vI w, vI t, none, none] [vI (97 + 14 * w), vR (m + 1), vR m] (My_10, S) Q
    refine WP.blk 3 ?_
    show ir ((97 + 14 * w) + 1) ∧ ((sT S (m + 1) = 11 ∨ sT S (m + 1) = 16 ∨ sT S (m + 1) = 17) ∧ 0 ≤ ((97 + 14 * w) + 1) ∧ ((97 + 14 * w) + 1) < (sN S (m + 1) : Int)) ∧ WP 6 154 26 [vR m, vI w, vI t, none, none] [vI (My_10 (m + 1) ((97 + 14 * w) + 1)), vR m] (My_10, S) Q
    rw [r_11]
    refine ⟨(by unfold ir; omega), ⟨Or.inl hS.2.1.1, by omega, by rw [hS.2.2.1]; omega⟩, ?_⟩
    refine WP.cl (a := [vR m, vI (f ((97 + 14 * w) + 1))]) (rest := []) rfl rfl rfl rfl ⟨hS.1.1, trivial⟩ (by decide) (r_carries hS r_11 r_12 r_15 hpl.1 hA1 hpl.2 hI (by omega) (by omega) (fun My_17 fry_17 hMy_17 => ⟨rfl, ?_⟩))
    show WP 6 154 29 [vR m, vI w, vI t, none, none] [] (My_17, S) Q
    obtain ⟨gy_17, hgy_17⟩ : ∃ y9, My_17 (m + 1) = y9 := ⟨_, rfl⟩
    rw [hgy_17] at hMy_17
    have r_19 : My_17 m = o1 := (fry_17 _ (by omega)).trans r_12
    have r_20 : My_17 (m + 3) = ay_10 := (fry_17 _ (by omega)).trans hay_10
    have r_21 : My_17 (m + 6) = g_6 := (fry_17 _ (by omega)).trans r_14
    have r_22 : My_17 (m + 7) = c1 := (fry_17 _ (by omega)).trans r_15
    have fr_23 : ∀ r, r ≠ m → r ≠ m + 1 → r ≠ m + 3 → r ≠ m + 6 → r ≠ m + 7 → My_17 r = M r := fun r q0 q1 q2 q3 q4 => (fry_17 r q1).trans (fr_16 r q0 q1 q2 q3 q4)
    have hiy_17 : InkOk (B + o1 11) gy_17 := by rw [hMy_17]; exact (car_ink (by omega) (by omega) hA1.2 hpl.2 hI hpl.1.1).1
    obtain ⟨hi1y_17, hi2y_17, hi3y_17, hi4y_17, hi5y_17, hi6y_17⟩ := hiy_17
    refine WP.blk 2 ?_
    show WP 6 154 (if cnd .eq t 0 = true then 38 else 33) [vR m, vI w, vI t, none, none] [] (My_17, S) Q
    refine br_eq (fun c_24 => ?_) (fun c_24 => ?_)
    · refine WP.blk 4 ?_
      show (sT S m = 10 ∧ sR S m 0 ≠ 0) ∧ WP 6 154 44 [vR m, vI w, vI t, vI 5, none] [vR (sR S m 0)] (My_17, S) Q
      refine ⟨⟨hS.1.1, by rw [hS.1.2.1]; omega⟩, ?_⟩
      rw [hS.1.2.1]
      refine WP.blk 4 ?_
      show ((sT S (m + 1) = 11 ∨ sT S (m + 1) = 16 ∨ sT S (m + 1) = 17) ∧ 0 ≤ 5 ∧ 5 < (sN S (m + 1) : Int)) ∧ (sT S m = 10 ∧ sR S m 2 ≠ 0) ∧ WP 6 154 50 [vR m, vI w, vI t, vI 5, none] [vR (sR S m 2), vI (My_17 (m + 1) 5)] (My_17, S) Q
      rw [hgy_17]
      refine ⟨⟨Or.inl hS.2.1.1, by omega, by rw [hS.2.2.1]; omega⟩, ⟨hS.1.1, by rw [hS.1.2.2.2.1]; omega⟩, ?_⟩
      rw [hS.1.2.2.2.1]
      refine WP.blk 5 ?_
      show ((sT S (m + 3) = 11 ∨ sT S (m + 3) = 16 ∨ sT S (m + 3) = 17) ∧ 0 ≤ 5 ∧ 5 < (sN S (m + 3) : Int)) ∧ ir ((gy_17 5) - (My_17 (m + 3) 5)) ∧ WP 6 154 56 [vR m, vI w, vI t, vI 5, vI ((gy_17 5) - (My_17 (m + 3) 5))] [vR m] (My_17, S) Q
      rw [r_20]
      refine ⟨⟨Or.inl hS.2.1.2.2.1, by omega, by rw [hS.2.2.2.2.1]; omega⟩, (by unfold ir; omega), ?_⟩
      refine WP.cl (a := [vR m]) (rest := []) rfl rfl rfl rfl ⟨hS.1.1, trivial⟩ (by decide) (r_takesBack hS hgy_17 r_20 (fun My_25 fry_25 hMy_25 => ⟨rfl, ?_⟩))
      show WP 6 154 59 [vR m, vI w, vI t, vI 5, vI ((gy_17 5) - (ay_10 5))] [] (My_25, S) Q
      obtain ⟨qy_25, hqy_25⟩ : ∃ y9, My_25 (m + 1) = y9 := ⟨_, rfl⟩
      rw [hqy_25] at hMy_25
      have r_27 : My_25 m = o1 := (fry_25 _ (by omega)).trans r_19
      have r_28 : My_25 (m + 3) = ay_10 := (fry_25 _ (by omega)).trans r_20
      have r_29 : My_25 (m + 6) = g_6 := (fry_25 _ (by omega)).trans r_21
      have r_30 : My_25 (m + 7) = c1 := (fry_25 _ (by omega)).trans r_22
      have fr_31 : ∀ r, r ≠ m → r ≠ m + 1 → r ≠ m + 3 → r ≠ m + 6 → r ≠ m + 7 → My_25 r = M r := fun r q0 q1 q2 q3 q4 => (fry_25 r q1).trans (fr_23 r q0 q1 q2 q3 q4)
      refine WP.blk 1 ?_
      show WP 6 154 61 [vR m, vI w, vI t, vI 5, vI ((gy_17 5) - (ay_10 5))] [vI ((gy_17 5) - (ay_10 5))] (My_25, S) Q
      refine WP.ret rfl rfl rfl trivial ?_
      refine k _ _ fr_31 (hqy_25.trans ?_) _ r_27 (by omega) (by omega) (by omega) (by omega) (Or.inr ⟨_, _, p_1, ?_⟩)
      · rw [hMy_25, hMy_10, hMy_17]
        exact rcp_back (car_out (B := B) hpl.2 (by omega) hpl.1.1)
      · first | rw [if_pos (by assumption)] | rw [if_neg (by assumption)]
        rw [← hMy_17]
        omega
    · refine WP.blk 5 ?_
      show (sT S m = 10 ∧ sR S m 0 ≠ 0) ∧ WP 6 154 44 [vR m, vI w, vI t, vI 6, none] [vR (sR S m 0)] (My_17, S) Q
      refine ⟨⟨hS.1.1, by rw [hS.1.2.1]; omega⟩, ?_⟩
      rw [hS.1.2.1]
      refine WP.blk 4 ?_
      show ((sT S (m + 1) = 11 ∨ sT S (m + 1) = 16 ∨ sT S (m + 1) = 17) ∧ 0 ≤ 6 ∧ 6 < (sN S (m + 1) : Int)) ∧ (sT S m = 10 ∧ sR S m 2 ≠ 0) ∧ WP 6 154 50 [vR m, vI w, vI t, vI 6, none] [vR (sR S m 2), vI (My_17 (m + 1) 6)] (My_17, S) Q
      rw [hgy_17]
      refine ⟨⟨Or.inl hS.2.1.1, by omega, by rw [hS.2.2.1]; omega⟩, ⟨hS.1.1, by rw [hS.1.2.2.2.1]; omega⟩, ?_⟩
      rw [hS.1.2.2.2.1]
      refine WP.blk 5 ?_
      show ((sT S (m + 3) = 11 ∨ sT S (m + 3) = 16 ∨ sT S (m + 3) = 17) ∧ 0 ≤ 6 ∧ 6 < (sN S (m + 3) : Int)) ∧ ir ((gy_17 6) - (My_17 (m + 3) 6)) ∧ WP 6 154 56 [vR m, vI w, vI t, vI 6, vI ((gy_17 6) - (My_17 (m + 3) 6))] [vR m] (My_17, S) Q
      rw [r_20]
      refine ⟨⟨Or.inl hS.2.1.2.2.1, by omega, by rw [hS.2.2.2.2.1]; omega⟩, (by unfold ir; omega), ?_⟩
      refine WP.cl (a := [vR m]) (rest := []) rfl rfl rfl rfl ⟨hS.1.1, trivial⟩ (by decide) (r_takesBack hS hgy_17 r_20 (fun My_32 fry_32 hMy_32 => ⟨rfl, ?_⟩))
      show WP 6 154 59 [vR m, vI w, vI t, vI 6, vI ((gy_17 6) - (ay_10 6))] [] (My_32, S) Q
      obtain ⟨qy_32, hqy_32⟩ : ∃ y9, My_32 (m + 1) = y9 := ⟨_, rfl⟩
      rw [hqy_32] at hMy_32
      have r_34 : My_32 m = o1 := (fry_32 _ (by omega)).trans r_19
      have r_35 : My_32 (m + 3) = ay_10 := (fry_32 _ (by omega)).trans r_20
      have r_36 : My_32 (m + 6) = g_6 := (fry_32 _ (by omega)).trans r_21
      have r_37 : My_32 (m + 7) = c1 := (fry_32 _ (by omega)).trans r_22
      have fr_38 : ∀ r, r ≠ m → r ≠ m + 1 → r ≠ m + 3 → r ≠ m + 6 → r ≠ m + 7 → My_32 r = M r := fun r q0 q1 q2 q3 q4 => (fry_32 r q1).trans (fr_23 r q0 q1 q2 q3 q4)
      refine WP.blk 1 ?_
      show WP 6 154 61 [vR m, vI w, vI t, vI 6, vI ((gy_17 6) - (ay_10 6))] [vI ((gy_17 6) - (ay_10 6))] (My_32, S) Q
      refine WP.ret rfl rfl rfl trivial ?_
      refine k _ _ fr_38 (hqy_32.trans ?_) _ r_34 (by omega) (by omega) (by omega) (by omega) (Or.inr ⟨_, _, p_1, ?_⟩)
      · rw [hMy_32, hMy_10, hMy_17]
        exact rcp_back (car_out (B := B) hpl.2 (by omega) hpl.1.1)
      · first | rw [if_pos (by assumption)] | rw [if_neg (by assumption)]
        rw [← hMy_17]
        omega
  · have p_1 := (hb_1.resolve_left (fun h => by omega)).2
    refine WP.blk 1 ?_
    show WP 6 154 9 [vR m, vI w, vI t, none, none] [vI (-1)] (Mc1, S) Q
    exact WP.ret rfl rfl rfl trivial (k _ _ fr_8 r_2 _ ho1 (by omega) (by omega) (by omega) (by omega) (Or.inl ⟨rfl, p_1⟩))
