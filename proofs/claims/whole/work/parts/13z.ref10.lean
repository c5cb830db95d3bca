set_option maxHeartbeats 4000000 in
theorem r_write {S : SD} {M : Nat → Int → Int} {m : Nat} {f : Int → Int} {o p : Int → Int} {w B : Int} (hS : isMod S m) (hf : M (m + 1) = f) (ho : M m = o) (hp2 : M (m + 2) = p) (hsv : 0 ≤ o 4 ∧ o 4 ≤ 4) (hR : RowOk B f) (hB : 0 ≤ B ∧ B ≤ 1000000000 - 200) {Q : Res → Wd → Prop} (k : ∀ (v : Int) (M2 : Nat → Int → Int), (∀ r, r ≠ m → r ≠ m + 1 → r ≠ m + 2 → r ≠ m + 6 → r ≠ m + 7 → M2 r = M r) → ∀ o2, M2 m = o2 → o2 7 = o 7 → (o2 5 = 1 ∧ ¬ (0 ≤ w ∧ w < f 1) ∧ M2 (m + 1) = f ∧ M2 (m + 2) = p ∧ o2 4 = o 4) ∨ (o2 5 = 2 ∧ (0 ≤ w ∧ w < f 1) ∧ (∀ c n, ¬ Wrt f w c n) ∧ M2 (m + 1) = f ∧ M2 (m + 2) = p ∧ o2 4 = o 4) ∨ (o2 5 = 0 ∧ (0 ≤ w ∧ w < f 1) ∧ ∃ c n, Wrt f w c n ∧ v = n ∧ M2 (m + 1) = car (f (97 + 14 * w + 1)) c f n ∧ ∃ p2, M2 (m + 2) = p2 ∧ SavedP p (o 4) f p2 (o2 4)) → Q (0, vI v) (M2, S)) : EvQ 7 159 [vR m, vI w] (M, S) Q := by
  refine EvQ.enter (ls := [vR m, vI w]) (Nat.le_of_ble_eq_true rfl) rfl ?_
  have hA := hR.1
  have hA1 := hA.1
  have hWA := hR.2.1
  have hW1 := hWA.1
  have hI := hR.2.2
  have hI2 := hI.2.1
  have hI3 := hI.2.2.1
  have hWr : ∀ s, 0 ≤ s → s < f 0 → 0 ≤ f (7 + 9 * s + 8) ∧ f (7 + 9 * s + 8) ≤ 1000000000 := fun s a b => ⟨(hI.1 s a b).2.2.1, by have := (hI.1 s a b).2.2.2; omega⟩
  obtain ⟨g0, hg0⟩ : ∃ g, M (m + 6) = g := ⟨_, rfl⟩
  obtain ⟨c0, hc0⟩ : ∃ g, M (m + 7) = g := ⟨_, rfl⟩
  have hcol := fun (h : 0 ≤ w ∧ w < f 1) => (hWA.2 w h.1 h.2).2
  refine WP.blk 3 ?_
  show WP 6 159 3 [vR m, vI w] [vI w, vR m, vR m] (M, S) Q
  refine WP.cl (a := [vR m, vI w]) (rest := [vR m]) rfl rfl rfl rfl ⟨hS.1.1, trivial⟩ (by decide) (r_isWord hS hf (by omega) (fun b_1 hb_1 => ⟨rfl, ?_⟩))
  show WP 6 159 6 [vR m, vI w] [vI b_1, vR m] (M, S) Q
  refine WP.blk 1 ?_
  show WP 6 159 (if cnd .ne b_1 0 = true then 13 else 9) [vR m, vI w] [vR m] (M, S) Q
  refine br_ne (fun c_2 => ?_) (fun c_2 => ?_)
  · have p_1 := (hb_1.resolve_right (fun h => by omega)).2
    refine WP.blk 2 ?_
    show WP 6 159 15 [vR m, vI w] [vI w, vR m, vR m] (M, S) Q
    refine WP.cl (a := [vR m, vI w]) (rest := [vR m]) rfl rfl rfl rfl ⟨hS.1.1, trivial⟩ (by decide) (r_canWrite hS hf hA (hWA.2 w (by omega) (by omega)).1 hWr (fun b_3 Mc3 fr3 o3 c3 ho3 hc3 hk3 hb_3 => ⟨rfl, ?_⟩))
    show WP 6 159 18 [vR m, vI w] [vI b_3, vR m] (Mc3, S) Q
    have r_4 : Mc3 (m + 1) = f := (fr3 _ (by omega) (by omega) (by omega)).trans hf
    have r_6 : Mc3 (m + 2) = p := (fr3 _ (by omega) (by omega) (by omega)).trans hp2
    obtain ⟨g_8, r_7⟩ : ∃ y9, Mc3 (m + 6) = y9 := ⟨_, rfl⟩
    have fr_10 : ∀ r, r ≠ m → r ≠ m + 1 → r ≠ m + 2 → r ≠ m + 6 → r ≠ m + 7 → Mc3 r = M r := fun r q0 q1 q2 q3 q4 => (fr3 r q0 q3 q4).trans ((fun _ _ _ _ _ _ => rfl) r q0 q1 q2 q3 q4)
    have t43 := (hk3 4 (by omega)).trans (congrFun ho 4)
    have t53 := (hk3 5 (by omega)).trans (congrFun ho 5)
    have t73 := (hk3 7 (by omega)).trans (congrFun ho 7)
    refine WP.blk 1 ?_
    show WP 6 159 (if cnd .eq b_3 0 = true then 25 else 21) [vR m, vI w] [vR m] (Mc3, S) Q
    refine br_eq (fun c_11 => ?_) (fun c_11 => ?_)
    · have p_3 := (hb_3.resolve_left (fun h => by omega)).2
      refine WP.blk 1 ?_
      show WP 6 159 26 [vR m, vI w] [vI 2, vR m] (Mc3, S) Q
      refine WP.cl (a := [vR m, vI 2]) (rest := []) rfl rfl rfl rfl ⟨hS.1.1, trivial⟩ (by decide) (r_refused hS r_4 ho3 (fun b_12 Mr12 fr12 o12 ho12 h512 hk12 hb_12 => ⟨rfl, ?_⟩))
      show WP 6 159 29 [vR m, vI w] [vI b_12] (Mr12, S) Q
      have r_13 : Mr12 (m + 1) = f := (fr12 _ (by omega)).trans r_4
      have r_15 : Mr12 (m + 2) = p := (fr12 _ (by omega)).trans r_6
      have r_16 : Mr12 (m + 6) = g_8 := (fr12 _ (by omega)).trans r_7
      have r_17 : Mr12 (m + 7) = c3 := (fr12 _ (by omega)).trans hc3
      have fr_18 : ∀ r, r ≠ m → r ≠ m + 1 → r ≠ m + 2 → r ≠ m + 6 → r ≠ m + 7 → Mr12 r = M r := fun r q0 q1 q2 q3 q4 => (fr12 r q0).trans (fr_10 r q0 q1 q2 q3 q4)
      have t412 := hk12 4 (by omega)
      have t712 := hk12 7 (by omega)
      have t1112 := hk12 11 (by omega)
      refine WP.blk 1 ?_
      show WP 6 159 (if cnd .eq b_12 0 = true then 34 else 32) [vR m, vI w] [] (Mr12, S) Q
      refine br_eq (fun c_19 => ?_) (fun c_19 => ?_)
      · exfalso; omega
      · have p_12 := (hb_12.resolve_right (fun h => by omega)).2
        refine WP.blk 1 ?_
        show WP 6 159 33 [vR m, vI w] [vI 0] (Mr12, S) Q
        exact WP.ret rfl rfl rfl trivial (k _ _ fr_18 _ ho12 (by omega) (Or.inr (Or.inl ⟨by omega, by omega, p_3, r_13, r_15, by omega⟩)))
    · have p_3 := (hb_3.resolve_right (fun h => by omega)).2
      have hpl := wrt_pl hA (hWA.2 w (by omega) (by omega)).1 p_3
      refine WP.blk 2 ?_
      show WP 6 159 26 [vR m, vI w] [vI 0, vR m] (Mc3, S) Q
      refine WP.cl (a := [vR m, vI 0]) (rest := []) rfl rfl rfl rfl ⟨hS.1.1, trivial⟩ (by decide) (r_refused hS r_4 ho3 (fun b_20 Mr20 fr20 o20 ho20 h520 hk20 hb_20 => ⟨rfl, ?_⟩))
      show WP 6 159 29 [vR m, vI w] [vI b_20] (Mr20, S) Q
      have r_21 : Mr20 (m + 1) = f := (fr20 _ (by omega)).trans r_4
      have r_23 : Mr20 (m + 2) = p := (fr20 _ (by omega)).trans r_6
      have r_24 : Mr20 (m + 6) = g_8 := (fr20 _ (by omega)).trans r_7
      have r_25 : Mr20 (m + 7) = c3 := (fr20 _ (by omega)).trans hc3
      have fr_26 : ∀ r, r ≠ m → r ≠ m + 1 → r ≠ m + 2 → r ≠ m + 6 → r ≠ m + 7 → Mr20 r = M r := fun r q0 q1 q2 q3 q4 => (fr20 r q0).trans (fr_10 r q0 q1 q2 q3 q4)
      have t420 := hk20 4 (by omega)
      have t720 := hk20 7 (by omega)
      have t1120 := hk20 11 (by omega)
      refine WP.blk 1 ?_
      show WP 6 159 (if cnd .eq b_20 0 = true then 34 else 32) [vR m, vI w] [] (Mr20, S) Q
      refine br_eq (fun c_27 => ?_) (fun c_27 => ?_)
      · have p_20 := (hb_20.resolve_left (fun h => by omega)).2
        refine WP.blk 1 ?_
        show WP 6 159 35 [vR m, vI w] [vR m] (Mr20, S) Q
        refine WP.cl (a := [vR m]) (rest := []) rfl rfl rfl rfl ⟨hS.1.1, trivial⟩ (by decide) (r_saves hS r_21 ho20 r_23 (by omega) (fun My_28 fry_28 py_28 oy_28 hpy_28 hoy_28 hky_28 hvy_28 => ⟨rfl, ?_⟩))
        show WP 6 159 38 [vR m, vI w] [] (My_28, S) Q
        have r_29 : My_28 (m + 1) = f := (fry_28 _ (by omega) (by omega)).trans r_21
        have r_32 : My_28 (m + 6) = g_8 := (fry_28 _ (by omega) (by omega)).trans r_24
        have r_33 : My_28 (m + 7) = c3 := (fry_28 _ (by omega) (by omega)).trans r_25
        have fr_34 : ∀ r, r ≠ m → r ≠ m + 1 → r ≠ m + 2 → r ≠ m + 6 → r ≠ m + 7 → My_28 r = M r := fun r q0 q1 q2 q3 q4 => (fry_28 r q0 q2).trans (fr_26 r q0 q1 q2 q3 q4)
        have t5y_28 := hky_28 5 (by omega)
        have t7y_28 := hky_28 7 (by omega)
        have t11y_28 := hky_28 11 (by omega)
        refine WP.blk 3 ?_
        show (sT S m = 10 ∧ sR S m 0 ≠ 0) ∧ WP 6 159 43 [vR m, vI w] [vR (sR S m 0), vR m] (My_28, S) Q
        refine ⟨⟨hS.1.1, by rw [hS.1.2.1]; omega⟩, ?_⟩
        rw [hS.1.2.1]
        refine WP.blk 1 ?_
        show WP 6 159 44 [vR m, vI w] [vI w, vR (m + 1), vR m] (My_28, S) Q
        refine WP.cl (a := [vI w]) (rest := [vR (m + 1), vR m]) rfl rfl rfl rfl trivial (by decide) (q_wordAt (by omega) ⟨rfl, ?_⟩)
        show WP 6 159 47 [vR m, vI w] [vI (97 + 14 * w), vR (m + 1), vR m] (My_28, S) Q
        refine WP.blk 3 ?_
        show ir ((97 + 14 * w) + 1) ∧ ((sT S (m + 1) = 11 ∨ sT S (m + 1) = 16 ∨ sT S (m + 1) = 17) ∧ 0 ≤ ((97 + 14 * w) + 1) ∧ ((97 + 14 * w) + 1) < (sN S (m + 1) : Int)) ∧ WP 6 159 50 [vR m, vI w] [vI (My_28 (m + 1) ((97 + 14 * w) + 1)), vR m] (My_28, S) Q
        rw [r_29]
        refine ⟨(by unfold ir; omega), ⟨Or.inl hS.2.1.1, by omega, by rw [hS.2.2.1]; omega⟩, ?_⟩
        refine WP.cl (a := [vR m, vI (f ((97 + 14 * w) + 1))]) (rest := []) rfl rfl rfl rfl ⟨hS.1.1, trivial⟩ (by decide) (r_carries hS r_29 hoy_28 r_33 (by omega) hA1 (fun i a b => hpl.2 i a (by omega)) hI (by omega) (by omega) (fun My_35 fry_35 hMy_35 => ⟨rfl, ?_⟩))
        show WP 6 159 53 [vR m, vI w] [] (My_35, S) Q
        obtain ⟨gy_35, hgy_35⟩ : ∃ y9, My_35 (m + 1) = y9 := ⟨_, rfl⟩
        rw [hgy_35] at hMy_35
        have r_37 : My_35 m = oy_28 := (fry_35 _ (by omega)).trans hoy_28
        have r_38 : My_35 (m + 2) = py_28 := (fry_35 _ (by omega)).trans hpy_28
        have r_39 : My_35 (m + 6) = g_8 := (fry_35 _ (by omega)).trans r_32
        have r_40 : My_35 (m + 7) = c3 := (fry_35 _ (by omega)).trans r_33
        have fr_41 : ∀ r, r ≠ m → r ≠ m + 1 → r ≠ m + 2 → r ≠ m + 6 → r ≠ m + 7 → My_35 r = M r := fun r q0 q1 q2 q3 q4 => (fry_35 r q1).trans (fr_34 r q0 q1 q2 q3 q4)
        refine WP.blk 2 ?_
        show sT S m = 10 ∧ WP 6 159 57 [vR m, vI w] [vI (My_35 m 11)] (My_35, S) Q
        rw [r_37]
        refine ⟨hS.1.1, ?_⟩
        refine WP.ret rfl rfl rfl trivial ?_
        refine k _ _ fr_41 _ r_37 (by omega) (Or.inr (Or.inr ⟨by omega, by omega, _, _, p_3, by omega, ?_, _, r_38, ?_⟩))
        · rw [hgy_35, hMy_35]
          congr 1; omega
        · have e4 := hvy_28
          rw [show o20 4 = o 4 by omega] at e4
          exact e4
      · exfalso; omega
  · have p_1 := (hb_1.resolve_left (fun h => by omega)).2
    refine WP.blk 2 ?_
    show WP 6 159 26 [vR m, vI w] [vI 1, vR m] (M, S) Q
    refine WP.cl (a := [vR m, vI 1]) (rest := []) rfl rfl rfl rfl ⟨hS.1.1, trivial⟩ (by decide) (r_refused hS hf ho (fun b_42 Mr42 fr42 o42 ho42 h542 hk42 hb_42 => ⟨rfl, ?_⟩))
    show WP 6 159 29 [vR m, vI w] [vI b_42] (Mr42, S) Q
    have r_43 : Mr42 (m + 1) = f := (fr42 _ (by omega)).trans hf
    have r_45 : Mr42 (m + 2) = p := (fr42 _ (by omega)).trans hp2
    have r_46 : Mr42 (m + 6) = g0 := (fr42 _ (by omega)).trans hg0
    have r_47 : Mr42 (m + 7) = c0 := (fr42 _ (by omega)).trans hc0
    have fr_48 : ∀ r, r ≠ m → r ≠ m + 1 → r ≠ m + 2 → r ≠ m + 6 → r ≠ m + 7 → Mr42 r = M r := fun r q0 q1 q2 q3 q4 => (fr42 r q0).trans ((fun _ _ _ _ _ _ => rfl) r q0 q1 q2 q3 q4)
    have t442 := hk42 4 (by omega)
    have t742 := hk42 7 (by omega)
    have t1142 := hk42 11 (by omega)
    refine WP.blk 1 ?_
    show WP 6 159 (if cnd .eq b_42 0 = true then 34 else 32) [vR m, vI w] [] (Mr42, S) Q
    refine br_eq (fun c_49 => ?_) (fun c_49 => ?_)
    · exfalso; omega
    · have p_42 := (hb_42.resolve_right (fun h => by omega)).2
      refine WP.blk 1 ?_
      show WP 6 159 33 [vR m, vI w] [vI 0] (Mr42, S) Q
      exact WP.ret rfl rfl rfl trivial (k _ _ fr_48 _ ho42 (by omega) (Or.inl ⟨by omega, by omega, r_43, r_45, by omega⟩))
