set_option maxHeartbeats 4000000 in
theorem r_tellWord {S : SD} {M : Nat → Int → Int} {m : Nat} {f : Int → Int} {o : Int → Int} {w a B : Int} (hS : isMod S m) (hf : M (m + 1) = f) (ho : M m = o) (hR : RowOk B f) (hB : 0 ≤ B ∧ B ≤ 1000000000 - 200) (hw : WdOk f w) (hcol : 0 ≤ f (97 + 14 * w + 1) ∧ f (97 + 14 * w + 1) ≤ 3) (ha : 0 ≤ a ∧ a ≤ 5) {Q : Res → Wd → Prop} (k : ∀ (v : Int) (M2 : Nat → Int → Int), (∀ r, r ≠ m → r ≠ m + 1 → r ≠ m + 3 → r ≠ m + 6 → r ≠ m + 7 → M2 r = M r) → M2 (m + 1) = f → ∀ o2, M2 m = o2 → o2 4 = o 4 → o2 7 = o 7 → o2 5 = o 5 → o2 17 = o 17 → TellW f w a v → Q (0, vI v) (M2, S)) : EvQ 8 155 [vR m, vI w, vI a] (M, S) Q := by
  refine EvQ.enter (ls := [vR m, vI w, vI a]) (Nat.le_of_ble_eq_true rfl) rfl ?_
  have hA := hR.1
  have hA1 := hA.1
  have hWA := hR.2.1
  have hW1 := hWA.1
  have hI := hR.2.2
  have hI2 := hI.2.1
  have hI3 := hI.2.2.1
  have hWr : ∀ s, 0 ≤ s → s < f 0 → 0 ≤ f (7 + 9 * s + 8) ∧ f (7 + 9 * s + 8) ≤ 1000000000 := fun s a b => ⟨(hI.1 s a b).2.2.1, by have := (hI.1 s a b).2.2.2; omega⟩
  obtain ⟨g0, hg0⟩ : ∃ g, M (m + 6) = g := ⟨_, rfl⟩
  obtain ⟨a0, ha0⟩ : ∃ g, M (m + 3) = g := ⟨_, rfl⟩
  obtain ⟨c0, hc0⟩ : ∃ g, M (m + 7) = g := ⟨_, rfl⟩
  have hw1 := hw.1
  have hw2 := hw.2.1
  refine WP.blk 2 ?_
  show WP 7 155 (if a < 0 ∨ 3 < a then 68 else ((#[32, 32, 44, 54] : Array Int).getD (a - 0).toNat 0).toNat) [vR m, vI w, vI a] [] (M, S) Q
  rcases (show a = 0 ∨ a = 1 ∨ a = 2 ∨ a = 3 ∨ (a < 0 ∨ 3 < a) by omega) with c_1 | c_1 | c_1 | c_1 | c_1
  · refine sw_in (t := 32) 0 c_1 rfl ?_
    refine WP.blk 2 ?_
    show (sT S m = 10 ∧ sR S m 0 ≠ 0) ∧ WP 7 155 36 [vR m, vI w, vI a] [vR (sR S m 0)] (M, S) Q
    refine ⟨⟨hS.1.1, by rw [hS.1.2.1]; omega⟩, ?_⟩
    rw [hS.1.2.1]
    refine WP.blk 1 ?_
    show WP 7 155 37 [vR m, vI w, vI a] [vI w, vR (m + 1)] (M, S) Q
    refine WP.cl (a := [vI w]) (rest := [vR (m + 1)]) rfl rfl rfl rfl trivial (by decide) (q_wordAt (by omega) ⟨rfl, ?_⟩)
    show WP 7 155 40 [vR m, vI w, vI a] [vI (97 + 14 * w), vR (m + 1)] (M, S) Q
    refine WP.blk 3 ?_
    show ir ((97 + 14 * w) + a) ∧ ((sT S (m + 1) = 11 ∨ sT S (m + 1) = 16 ∨ sT S (m + 1) = 17) ∧ 0 ≤ ((97 + 14 * w) + a) ∧ ((97 + 14 * w) + a) < (sN S (m + 1) : Int)) ∧ WP 7 155 43 [vR m, vI w, vI a] [vI (M (m + 1) ((97 + 14 * w) + a))] (M, S) Q
    rw [hf]
    refine ⟨(by unfold ir; omega), ⟨Or.inl hS.2.1.1, by omega, by rw [hS.2.2.1]; omega⟩, ?_⟩
    exact WP.ret rfl rfl rfl trivial (k _ _ (fun _ _ _ _ _ _ => rfl) hf _ ho (by omega) (by omega) (by omega) (by omega) (Or.inl ⟨by omega, by first | rfl | (congr 1; omega)⟩))
  · refine sw_in (t := 32) 1 c_1 rfl ?_
    refine WP.blk 2 ?_
    show (sT S m = 10 ∧ sR S m 0 ≠ 0) ∧ WP 7 155 36 [vR m, vI w, vI a] [vR (sR S m 0)] (M, S) Q
    refine ⟨⟨hS.1.1, by rw [hS.1.2.1]; omega⟩, ?_⟩
    rw [hS.1.2.1]
    refine WP.blk 1 ?_
    show WP 7 155 37 [vR m, vI w, vI a] [vI w, vR (m + 1)] (M, S) Q
    refine WP.cl (a := [vI w]) (rest := [vR (m + 1)]) rfl rfl rfl rfl trivial (by decide) (q_wordAt (by omega) ⟨rfl, ?_⟩)
    show WP 7 155 40 [vR m, vI w, vI a] [vI (97 + 14 * w), vR (m + 1)] (M, S) Q
    refine WP.blk 3 ?_
    show ir ((97 + 14 * w) + a) ∧ ((sT S (m + 1) = 11 ∨ sT S (m + 1) = 16 ∨ sT S (m + 1) = 17) ∧ 0 ≤ ((97 + 14 * w) + a) ∧ ((97 + 14 * w) + a) < (sN S (m + 1) : Int)) ∧ WP 7 155 43 [vR m, vI w, vI a] [vI (M (m + 1) ((97 + 14 * w) + a))] (M, S) Q
    rw [hf]
    refine ⟨(by unfold ir; omega), ⟨Or.inl hS.2.1.1, by omega, by rw [hS.2.2.1]; omega⟩, ?_⟩
    exact WP.ret rfl rfl rfl trivial (k _ _ (fun _ _ _ _ _ _ => rfl) hf _ ho (by omega) (by omega) (by omega) (by omega) (Or.inl ⟨by omega, by first | rfl | (congr 1; omega)⟩))
  · refine sw_in (t := 44) 2 c_1 rfl ?_
    refine WP.blk 3 ?_
    show WP 7 155 47 [vR m, vI w, vI a] [vR m, vI w, vR m] (M, S) Q
    refine WP.cl (a := [vR m]) (rest := [vI w, vR m]) rfl rfl rfl rfl ⟨hS.1.1, trivial⟩ (by decide) (r_fresh hS hf (by omega) (fun x_2 hx_2 => ⟨rfl, ?_⟩))
    show WP 7 155 50 [vR m, vI w, vI a] [vI x_2, vI w, vR m] (M, S) Q
    refine WP.cl (a := [vR m, vI w, vI x_2]) (rest := []) rfl rfl rfl rfl ⟨hS.1.1, trivial⟩ (by decide) (r_presses hS hf hA hw ⟨hx_2.1, hx_2.2.1⟩ (fun vx_3 Mx_3 frx_3 Lx_3 hLx_3 hlx_3 hvx_3 => ⟨rfl, ?_⟩))
    show WP 7 155 53 [vR m, vI w, vI a] [vI vx_3] (Mx_3, S) Q
    have r_4 : Mx_3 (m + 1) = f := (frx_3 _ (by omega)).trans hf
    have r_5 : Mx_3 m = o := (frx_3 _ (by omega)).trans ho
    have r_6 : Mx_3 (m + 3) = a0 := (frx_3 _ (by omega)).trans ha0
    have r_8 : Mx_3 (m + 7) = c0 := (frx_3 _ (by omega)).trans hc0
    have fr_9 : ∀ r, r ≠ m → r ≠ m + 1 → r ≠ m + 3 → r ≠ m + 6 → r ≠ m + 7 → Mx_3 r = M r := fun r q0 q1 q2 q3 q4 => (frx_3 r q3).trans ((fun _ _ _ _ _ _ => rfl) r q0 q1 q2 q3 q4)
    exact WP.ret rfl rfl rfl trivial (k _ _ fr_9 r_4 _ r_5 (by omega) (by omega) (by omega) (by omega) (Or.inr (Or.inl ⟨by omega, _, hx_2, _, hlx_3, by split <;> omega⟩)))
  · refine sw_in (t := 54) 3 c_1 rfl ?_
    refine WP.blk 2 ?_
    show WP 7 155 56 [vR m, vI w, vI a] [vI w, vR m] (M, S) Q
    refine WP.cl (a := [vR m, vI w]) (rest := []) rfl rfl rfl rfl ⟨hS.1.1, trivial⟩ (by decide) (r_canWrite hS hf hA hw hWr (fun b_10 Mc10 fr10 o10 c10 ho10 hc10 hk10 hb_10 => ⟨rfl, ?_⟩))
    show WP 7 155 59 [vR m, vI w, vI a] [vI b_10] (Mc10, S) Q
    have r_11 : Mc10 (m + 1) = f := (fr10 _ (by omega) (by omega) (by omega)).trans hf
    have r_13 : Mc10 (m + 3) = a0 := (fr10 _ (by omega) (by omega) (by omega)).trans ha0
    obtain ⟨g_15, r_14⟩ : ∃ y9, Mc10 (m + 6) = y9 := ⟨_, rfl⟩
    have fr_17 : ∀ r, r ≠ m → r ≠ m + 1 → r ≠ m + 3 → r ≠ m + 6 → r ≠ m + 7 → Mc10 r = M r := fun r q0 q1 q2 q3 q4 => (fr10 r q0 q3 q4).trans ((fun _ _ _ _ _ _ => rfl) r q0 q1 q2 q3 q4)
    have t410 := (hk10 4 (by omega)).trans (congrFun ho 4)
    have t710 := (hk10 7 (by omega)).trans (congrFun ho 7)
    have t510 := (hk10 5 (by omega)).trans (congrFun ho 5)
    have t1710 := (hk10 17 (by omega)).trans (congrFun ho 17)
    refine WP.blk 1 ?_
    show WP 7 155 (if cnd .eq b_10 0 = true then 66 else 62) [vR m, vI w, vI a] [] (Mc10, S) Q
    refine br_eq (fun c_18 => ?_) (fun c_18 => ?_)
    · have p_10 := (hb_10.resolve_left (fun h => by omega)).2
      refine WP.blk 1 ?_
      show WP 7 155 67 [vR m, vI w, vI a] [vI 0] (Mc10, S) Q
      exact WP.ret rfl rfl rfl trivial (k _ _ fr_17 r_11 _ ho10 (by omega) (by omega) (by omega) (by omega) (Or.inr (Or.inr (Or.inl ⟨by omega, Or.inr ⟨rfl, p_10⟩⟩))))
    · have p_10 := (hb_10.resolve_right (fun h => by omega)).2
      refine WP.blk 2 ?_
      show WP 7 155 67 [vR m, vI w, vI a] [vI 1] (Mc10, S) Q
      exact WP.ret rfl rfl rfl trivial (k _ _ fr_17 r_11 _ ho10 (by omega) (by omega) (by omega) (by omega) (Or.inr (Or.inr (Or.inl ⟨by omega, Or.inl ⟨rfl, _, _, p_10⟩⟩))))
  · refine sw_out c_1 ?_
    refine WP.blk 5 ?_
    show WP 7 155 (if cnd .ne a 5 = true then 79 else 75) [vR m, vI w, vI a] [vI w, vR m] (M, S) Q
    refine br_ne (fun c_19 => ?_) (fun c_19 => ?_)
    · refine WP.blk 1 ?_
      show WP 7 155 80 [vR m, vI w, vI a] [vI 0, vI w, vR m] (M, S) Q
      refine WP.cl (a := [vR m, vI w, vI 0]) (rest := []) rfl rfl rfl rfl ⟨hS.1.1, trivial⟩ (by decide) (r_needs hS hf ho hR hB hw hcol (fun vy_20 My_20 fry_20 hMy_20 oy_20 hoy_20 t4y_20 t7y_20 t5y_20 t17y_20 hvy_20 => ⟨rfl, ?_⟩))
      show WP 7 155 83 [vR m, vI w, vI a] [vI vy_20] (My_20, S) Q
      obtain ⟨g_24, r_23⟩ : ∃ y9, My_20 (m + 3) = y9 := ⟨_, rfl⟩
      obtain ⟨g_26, r_25⟩ : ∃ y9, My_20 (m + 6) = y9 := ⟨_, rfl⟩
      obtain ⟨g_28, r_27⟩ : ∃ y9, My_20 (m + 7) = y9 := ⟨_, rfl⟩
      have fr_29 : ∀ r, r ≠ m → r ≠ m + 1 → r ≠ m + 3 → r ≠ m + 6 → r ≠ m + 7 → My_20 r = M r := fun r q0 q1 q2 q3 q4 => (fry_20 r q0 q1 q2 q3 q4).trans ((fun _ _ _ _ _ _ => rfl) r q0 q1 q2 q3 q4)
      exact WP.ret rfl rfl rfl trivial (k _ _ fr_29 hMy_20 _ hoy_20 (by omega) (by omega) (by omega) (by omega) (by first | (rw [if_neg (by decide)] at hvy_20; exact Or.inr (Or.inr (Or.inr (Or.inr ⟨by omega, hvy_20⟩)))) | (rw [if_pos rfl] at hvy_20; exact Or.inr (Or.inr (Or.inr (Or.inl ⟨by omega, hvy_20⟩))))))
    · refine WP.blk 2 ?_
      show WP 7 155 80 [vR m, vI w, vI a] [vI 1, vI w, vR m] (M, S) Q
      refine WP.cl (a := [vR m, vI w, vI 1]) (rest := []) rfl rfl rfl rfl ⟨hS.1.1, trivial⟩ (by decide) (r_needs hS hf ho hR hB hw hcol (fun vy_30 My_30 fry_30 hMy_30 oy_30 hoy_30 t4y_30 t7y_30 t5y_30 t17y_30 hvy_30 => ⟨rfl, ?_⟩))
      show WP 7 155 83 [vR m, vI w, vI a] [vI vy_30] (My_30, S) Q
      obtain ⟨g_34, r_33⟩ : ∃ y9, My_30 (m + 3) = y9 := ⟨_, rfl⟩
      obtain ⟨g_36, r_35⟩ : ∃ y9, My_30 (m + 6) = y9 := ⟨_, rfl⟩
      obtain ⟨g_38, r_37⟩ : ∃ y9, My_30 (m + 7) = y9 := ⟨_, rfl⟩
      have fr_39 : ∀ r, r ≠ m → r ≠ m + 1 → r ≠ m + 3 → r ≠ m + 6 → r ≠ m + 7 → My_30 r = M r := fun r q0 q1 q2 q3 q4 => (fry_30 r q0 q1 q2 q3 q4).trans ((fun _ _ _ _ _ _ => rfl) r q0 q1 q2 q3 q4)
      exact WP.ret rfl rfl rfl trivial (k _ _ fr_39 hMy_30 _ hoy_30 (by omega) (by omega) (by omega) (by omega) (by first | (rw [if_neg (by decide)] at hvy_30; exact Or.inr (Or.inr (Or.inr (Or.inr ⟨by omega, hvy_30⟩)))) | (rw [if_pos rfl] at hvy_30; exact Or.inr (Or.inr (Or.inr (Or.inl ⟨by omega, hvy_30⟩))))))
set_option maxHeartbeats 4000000 in
theorem r_word {S : SD} {M : Nat → Int → Int} {m : Nat} {f : Int → Int} {o : Int → Int} {w a B : Int} (hS : isMod S m) (hf : M (m + 1) = f) (ho : M m = o) (hR : RowOk B f) (hB : 0 ≤ B ∧ B ≤ 1000000000 - 200) {Q : Res → Wd → Prop} (k : ∀ (v : Int) (M2 : Nat → Int → Int), (∀ r, r ≠ m → r ≠ m + 1 → r ≠ m + 3 → r ≠ m + 6 → r ≠ m + 7 → M2 r = M r) → M2 (m + 1) = f → ∀ o2, M2 m = o2 → o2 4 = o 4 → o2 7 = o 7 → (o2 5 = 1 ∧ ¬ (0 ≤ w ∧ w < f 1)) ∨ (o2 5 = 2 ∧ (0 ≤ w ∧ w < f 1) ∧ ¬ (0 ≤ a ∧ a ≤ 5)) ∨ (o2 5 = 0 ∧ (0 ≤ w ∧ w < f 1) ∧ (0 ≤ a ∧ a ≤ 5) ∧ TellW f w a v) → Q (0, vI v) (M2, S)) : EvQ 9 156 [vR m, vI w, vI a] (M, S) Q := by
  refine EvQ.enter (ls := [vR m, vI w, vI a]) (Nat.le_of_ble_eq_true rfl) rfl ?_
  have hA := hR.1
  have hA1 := hA.1
  have hWA := hR.2.1
  have hW1 := hWA.1
  have hI := hR.2.2
  have hI2 := hI.2.1
  have hI3 := hI.2.2.1
  obtain ⟨g0, hg0⟩ : ∃ g, M (m + 6) = g := ⟨_, rfl⟩
  obtain ⟨a0, ha0⟩ : ∃ g, M (m + 3) = g := ⟨_, rfl⟩
  obtain ⟨c0, hc0⟩ : ∃ g, M (m + 7) = g := ⟨_, rfl⟩
  refine WP.blk 3 ?_
  show WP 8 156 3 [vR m, vI w, vI a] [vI w, vR m, vR m] (M, S) Q
  refine WP.cl (a := [vR m, vI w]) (rest := [vR m]) rfl rfl rfl rfl ⟨hS.1.1, trivial⟩ (by decide) (r_isWord hS hf (by omega) (fun b_1 hb_1 => ⟨rfl, ?_⟩))
  show WP 8 156 6 [vR m, vI w, vI a] [vI b_1, vR m] (M, S) Q
  refine WP.blk 1 ?_
  show WP 8 156 (if cnd .ne b_1 0 = true then 13 else 9) [vR m, vI w, vI a] [vR m] (M, S) Q
  refine br_ne (fun c_2 => ?_) (fun c_2 => ?_)
  · have p_1 := (hb_1.resolve_right (fun h => by omega)).2
    refine WP.blk 3 ?_
    show WP 8 156 16 [vR m, vI w, vI a] [vI 5, vI 0, vI a, vR m] (M, S) Q
    refine WP.cl (a := [vI a, vI 0, vI 5]) (rest := [vR m]) rfl rfl rfl rfl trivial (by decide) (q_in  (fun b_3 hb_3 => ⟨rfl, ?_⟩))
    show WP 8 156 19 [vR m, vI w, vI a] [vI b_3, vR m] (M, S) Q
    refine WP.blk 1 ?_
    show WP 8 156 (if cnd .eq b_3 0 = true then 26 else 22) [vR m, vI w, vI a] [vR m] (M, S) Q
    refine br_eq (fun c_4 => ?_) (fun c_4 => ?_)
    · have p_3 := (hb_3.resolve_left (fun h => by omega)).2
      refine WP.blk 1 ?_
      show WP 8 156 27 [vR m, vI w, vI a] [vI 2, vR m] (M, S) Q
      refine WP.cl (a := [vR m, vI 2]) (rest := []) rfl rfl rfl rfl ⟨hS.1.1, trivial⟩ (by decide) (r_refused hS hf ho (fun b_5 Mr5 fr5 o5 ho5 h55 hk5 hb_5 => ⟨rfl, ?_⟩))
      show WP 8 156 30 [vR m, vI w, vI a] [vI b_5] (Mr5, S) Q
      have r_6 : Mr5 (m + 1) = f := (fr5 _ (by omega)).trans hf
      have r_8 : Mr5 (m + 3) = a0 := (fr5 _ (by omega)).trans ha0
      have r_9 : Mr5 (m + 6) = g0 := (fr5 _ (by omega)).trans hg0
      have r_10 : Mr5 (m + 7) = c0 := (fr5 _ (by omega)).trans hc0
      have fr_11 : ∀ r, r ≠ m → r ≠ m + 1 → r ≠ m + 3 → r ≠ m + 6 → r ≠ m + 7 → Mr5 r = M r := fun r q0 q1 q2 q3 q4 => (fr5 r q0).trans ((fun _ _ _ _ _ _ => rfl) r q0 q1 q2 q3 q4)
      have t45 := hk5 4 (by omega)
      have t75 := hk5 7 (by omega)
      refine WP.blk 1 ?_
      show WP 8 156 (if cnd .eq b_5 0 = true then 37 else 33) [vR m, vI w, vI a] [] (Mr5, S) Q
      refine br_eq (fun c_12 => ?_) (fun c_12 => ?_)
      · exfalso; omega
      · have p_5 := (hb_5.resolve_right (fun h => by omega)).2
        refine WP.blk 2 ?_
        show WP 8 156 43 [vR m, vI w, vI a] [vI 0] (Mr5, S) Q
        exact WP.ret rfl rfl rfl trivial (k _ _ fr_11 r_6 _ ho5 (by omega) (by omega) (by first | exact Or.inl ⟨by omega, by omega⟩ | exact Or.inr (Or.inl ⟨by omega, by omega, by omega⟩) | exact Or.inr (Or.inr ⟨by omega, by omega, by omega, by assumption⟩)))
    · have p_3 := (hb_3.resolve_right (fun h => by omega)).2
      refine WP.blk 2 ?_
      show WP 8 156 27 [vR m, vI w, vI a] [vI 0, vR m] (M, S) Q
      refine WP.cl (a := [vR m, vI 0]) (rest := []) rfl rfl rfl rfl ⟨hS.1.1, trivial⟩ (by decide) (r_refused hS hf ho (fun b_13 Mr13 fr13 o13 ho13 h513 hk13 hb_13 => ⟨rfl, ?_⟩))
      show WP 8 156 30 [vR m, vI w, vI a] [vI b_13] (Mr13, S) Q
      have r_14 : Mr13 (m + 1) = f := (fr13 _ (by omega)).trans hf
      have r_16 : Mr13 (m + 3) = a0 := (fr13 _ (by omega)).trans ha0
      have r_17 : Mr13 (m + 6) = g0 := (fr13 _ (by omega)).trans hg0
      have r_18 : Mr13 (m + 7) = c0 := (fr13 _ (by omega)).trans hc0
      have fr_19 : ∀ r, r ≠ m → r ≠ m + 1 → r ≠ m + 3 → r ≠ m + 6 → r ≠ m + 7 → Mr13 r = M r := fun r q0 q1 q2 q3 q4 => (fr13 r q0).trans ((fun _ _ _ _ _ _ => rfl) r q0 q1 q2 q3 q4)
      have t413 := hk13 4 (by omega)
      have t713 := hk13 7 (by omega)
      refine WP.blk 1 ?_
      show WP 8 156 (if cnd .eq b_13 0 = true then 37 else 33) [vR m, vI w, vI a] [] (Mr13, S) Q
      refine br_eq (fun c_20 => ?_) (fun c_20 => ?_)
      · have p_13 := (hb_13.resolve_left (fun h => by omega)).2
        refine WP.blk 3 ?_
        show WP 8 156 40 [vR m, vI w, vI a] [vI a, vI w, vR m] (Mr13, S) Q
        refine WP.cl (a := [vR m, vI w, vI a]) (rest := []) rfl rfl rfl rfl ⟨hS.1.1, trivial⟩ (by decide) (r_tellWord hS r_14 ho13 hR hB (hWA.2 w (by omega) (by omega)).1 (hWA.2 w (by omega) (by omega)).2 (by omega) (fun vy_21 My_21 fry_21 hMy_21 oy_21 hoy_21 t4y_21 t7y_21 t5y_21 t17y_21 hvy_21 => ⟨rfl, ?_⟩))
        show WP 8 156 43 [vR m, vI w, vI a] [vI vy_21] (My_21, S) Q
        obtain ⟨g_25, r_24⟩ : ∃ y9, My_21 (m + 3) = y9 := ⟨_, rfl⟩
        obtain ⟨g_27, r_26⟩ : ∃ y9, My_21 (m + 6) = y9 := ⟨_, rfl⟩
        obtain ⟨g_29, r_28⟩ : ∃ y9, My_21 (m + 7) = y9 := ⟨_, rfl⟩
        have fr_30 : ∀ r, r ≠ m → r ≠ m + 1 → r ≠ m + 3 → r ≠ m + 6 → r ≠ m + 7 → My_21 r = M r := fun r q0 q1 q2 q3 q4 => (fry_21 r q0 q1 q2 q3 q4).trans (fr_19 r q0 q1 q2 q3 q4)
        exact WP.ret rfl rfl rfl trivial (k _ _ fr_30 hMy_21 _ hoy_21 (by omega) (by omega) (by first | exact Or.inl ⟨by omega, by omega⟩ | exact Or.inr (Or.inl ⟨by omega, by omega, by omega⟩) | exact Or.inr (Or.inr ⟨by omega, by omega, by omega, by assumption⟩)))
      · exfalso; omega
  · have p_1 := (hb_1.resolve_left (fun h => by omega)).2
    refine WP.blk 2 ?_
    show WP 8 156 27 [vR m, vI w, vI a] [vI 1, vR m] (M, S) Q
    refine WP.cl (a := [vR m, vI 1]) (rest := []) rfl rfl rfl rfl ⟨hS.1.1, trivial⟩ (by decide) (r_refused hS hf ho (fun b_31 Mr31 fr31 o31 ho31 h531 hk31 hb_31 => ⟨rfl, ?_⟩))
    show WP 8 156 30 [vR m, vI w, vI a] [vI b_31] (Mr31, S) Q
    have r_32 : Mr31 (m + 1) = f := (fr31 _ (by omega)).trans hf
    have r_34 : Mr31 (m + 3) = a0 := (fr31 _ (by omega)).trans ha0
    have r_35 : Mr31 (m + 6) = g0 := (fr31 _ (by omega)).trans hg0
    have r_36 : Mr31 (m + 7) = c0 := (fr31 _ (by omega)).trans hc0
    have fr_37 : ∀ r, r ≠ m → r ≠ m + 1 → r ≠ m + 3 → r ≠ m + 6 → r ≠ m + 7 → Mr31 r = M r := fun r q0 q1 q2 q3 q4 => (fr31 r q0).trans ((fun _ _ _ _ _ _ => rfl) r q0 q1 q2 q3 q4)
    have t431 := hk31 4 (by omega)
    have t731 := hk31 7 (by omega)
    refine WP.blk 1 ?_
    show WP 8 156 (if cnd .eq b_31 0 = true then 37 else 33) [vR m, vI w, vI a] [] (Mr31, S) Q
    refine br_eq (fun c_38 => ?_) (fun c_38 => ?_)
    · exfalso; omega
    · have p_31 := (hb_31.resolve_right (fun h => by omega)).2
      refine WP.blk 2 ?_
      show WP 8 156 43 [vR m, vI w, vI a] [vI 0] (Mr31, S) Q
      exact WP.ret rfl rfl rfl trivial (k _ _ fr_37 r_32 _ ho31 (by omega) (by omega) (by first | exact Or.inl ⟨by omega, by omega⟩ | exact Or.inr (Or.inl ⟨by omega, by omega, by omega⟩) | exact Or.inr (Or.inr ⟨by omega, by omega, by omega, by assumption⟩)))
set_option maxHeartbeats 4000000 in
theorem r_press {S : SD} {M : Nat → Int → Int} {m : Nat} {f : Int → Int} {o : Int → Int} {w i B : Int} (hS : isMod S m) (hf : M (m + 1) = f) (ho : M m = o) (hR : RowOk B f) {Q : Res → Wd → Prop} (k : ∀ (v : Int) (M2 : Nat → Int → Int), (∀ r, r ≠ m → r ≠ m + 6 → r ≠ m + 7 → M2 r = M r) → ∀ o2, M2 m = o2 → o2 4 = o 4 → o2 7 = o 7 → (o2 5 = 1 ∧ ∀ c n, (0 ≤ w ∧ w < f 1) → BestP f w c n → ¬ (0 ≤ i ∧ i < n)) ∨ (o2 5 = 0 ∧ (0 ≤ w ∧ w < f 1) ∧ ∃ c n, BestP f w c n ∧ (0 ≤ i ∧ i < n) ∧ v = c i) → Q (0, vI v) (M2, S)) : EvQ 6 158 [vR m, vI w, vI i] (M, S) Q := by
  refine EvQ.enter (ls := [vR m, vI w, vI i, none]) (Nat.le_of_ble_eq_true rfl) rfl ?_
  have hA := hR.1
  have hA1 := hA.1
  have hWA := hR.2.1
  have hW1 := hWA.1
  have hI := hR.2.2
  have hI2 := hI.2.1
  have hI3 := hI.2.2.1
  obtain ⟨g0, hg0⟩ : ∃ g, M (m + 6) = g := ⟨_, rfl⟩
  obtain ⟨a0, ha0⟩ : ∃ g, M (m + 3) = g := ⟨_, rfl⟩
  obtain ⟨c0, hc0⟩ : ∃ g, M (m + 7) = g := ⟨_, rfl⟩
  refine WP.blk 2 ?_
  show WP 5 158 2 [vR m, vI w, vI i, none] [vI w, vR m] (M, S) Q
  refine WP.cl (a := [vR m, vI w]) (rest := []) rfl rfl rfl rfl ⟨hS.1.1, trivial⟩ (by decide) (r_isWord hS hf (by omega) (fun b_1 hb_1 => ⟨rfl, ?_⟩))
  show WP 5 158 5 [vR m, vI w, vI i, none] [vI b_1] (M, S) Q
  refine WP.blk 1 ?_
  show WP 5 158 (if cnd .eq b_1 0 = true then 38 else 8) [vR m, vI w, vI i, none] [] (M, S) Q
  refine br_eq (fun c_2 => ?_) (fun c_2 => ?_)
  · have p_1 := (hb_1.resolve_left (fun h => by omega)).2
    refine WP.blk 6 ?_
    show WP 5 158 50 [vR m, vI w, vI i, vI 0] [vI 1, vR m] (M, S) Q
    refine WP.cl (a := [vR m, vI 1]) (rest := []) rfl rfl rfl rfl ⟨hS.1.1, trivial⟩ (by decide) (r_refused hS hf ho (fun b_3 Mr3 fr3 o3 ho3 h53 hk3 hb_3 => ⟨rfl, ?_⟩))
    show WP 5 158 53 [vR m, vI w, vI i, vI 0] [vI b_3] (Mr3, S) Q
    have r_4 : Mr3 (m + 1) = f := (fr3 _ (by omega)).trans hf
    have r_6 : Mr3 (m + 3) = a0 := (fr3 _ (by omega)).trans ha0
    have r_7 : Mr3 (m + 6) = g0 := (fr3 _ (by omega)).trans hg0
    have r_8 : Mr3 (m + 7) = c0 := (fr3 _ (by omega)).trans hc0
    have fr_9 : ∀ r, r ≠ m → r ≠ m + 6 → r ≠ m + 7 → Mr3 r = M r := fun r q0 q1 q2 => (fr3 r q0).trans ((fun _ _ _ _ => rfl) r q0 q1 q2)
    have t43 := hk3 4 (by omega)
    have t73 := hk3 7 (by omega)
    have t113 := hk3 11 (by omega)
    refine WP.blk 1 ?_
    show WP 5 158 (if cnd .eq b_3 0 = true then 60 else 56) [vR m, vI w, vI i, vI 0] [] (Mr3, S) Q
    refine br_eq (fun c_10 => ?_) (fun c_10 => ?_)
    · exfalso; omega
    · have p_3 := (hb_3.resolve_right (fun h => by omega)).2
      refine WP.blk 2 ?_
      show WP 5 158 66 [vR m, vI w, vI i, vI 0] [vI 0] (Mr3, S) Q
      exact WP.ret rfl rfl rfl trivial (k _ _ fr_9 _ ho3 (by omega) (by omega) (Or.inl ⟨by omega, fun c n h1 h2 => by omega⟩))
  · have p_1 := (hb_1.resolve_right (fun h => by omega)).2
    refine WP.blk 3 ?_
    show WP 5 158 11 [vR m, vI w, vI i, none] [vR m, vI w, vR m] (M, S) Q
    refine WP.cl (a := [vR m]) (rest := [vI w, vR m]) rfl rfl rfl rfl ⟨hS.1.1, trivial⟩ (by decide) (r_fresh hS hf (by omega) (fun x_11 hx_11 => ⟨rfl, ?_⟩))
    show WP 5 158 14 [vR m, vI w, vI i, none] [vI x_11, vI w, vR m] (M, S) Q
    refine WP.cl (a := [vR m, vI w, vI x_11]) (rest := []) rfl rfl rfl rfl ⟨hS.1.1, trivial⟩ (by decide) (r_plans hS hf hA (hWA.2 w (by omega) (by omega)).1 ⟨hx_11.1, hx_11.2.1⟩ (fun b_12 Mp12 fr12 o12 c12 ho12 hc12 hk12 hb_12 => ⟨rfl, ?_⟩))
    show WP 5 158 17 [vR m, vI w, vI i, none] [vI b_12] (Mp12, S) Q
    have r_13 : Mp12 (m + 1) = f := (fr12 _ (by omega) (by omega) (by omega)).trans hf
    have r_15 : Mp12 (m + 3) = a0 := (fr12 _ (by omega) (by omega) (by omega)).trans ha0
    obtain ⟨g_17, r_16⟩ : ∃ y9, Mp12 (m + 6) = y9 := ⟨_, rfl⟩
    have fr_19 : ∀ r, r ≠ m → r ≠ m + 6 → r ≠ m + 7 → Mp12 r = M r := fun r q0 q1 q2 => (fr12 r q0 q1 q2).trans ((fun _ _ _ _ => rfl) r q0 q1 q2)
    have t412 := (hk12 4 (by omega)).trans (congrFun ho 4)
    have t712 := (hk12 7 (by omega)).trans (congrFun ho 7)
    have t512 := (hk12 5 (by omega)).trans (congrFun ho 5)
    have hz12 : b_12 = 1 → (0 ≤ o12 11 ∧ o12 11 ≤ 12) := fun h => (pln_le hA (hWA.2 w (by omega) (by omega)).1 (hb_12.resolve_right (fun h9 => by omega)).2).1
    refine WP.blk 1 ?_
    show WP 5 158 (if cnd .eq b_12 0 = true then 38 else 20) [vR m, vI w, vI i, none] [] (Mp12, S) Q
    refine br_eq (fun c_20 => ?_) (fun c_20 => ?_)
    · have p_12 := (hb_12.resolve_left (fun h => by omega)).2
      refine WP.blk 6 ?_
      show WP 5 158 50 [vR m, vI w, vI i, vI 0] [vI 1, vR m] (Mp12, S) Q
      refine WP.cl (a := [vR m, vI 1]) (rest := []) rfl rfl rfl rfl ⟨hS.1.1, trivial⟩ (by decide) (r_refused hS r_13 ho12 (fun b_21 Mr21 fr21 o21 ho21 h521 hk21 hb_21 => ⟨rfl, ?_⟩))
      show WP 5 158 53 [vR m, vI w, vI i, vI 0] [vI b_21] (Mr21, S) Q
      have r_22 : Mr21 (m + 1) = f := (fr21 _ (by omega)).trans r_13
      have r_24 : Mr21 (m + 3) = a0 := (fr21 _ (by omega)).trans r_15
      have r_25 : Mr21 (m + 6) = g_17 := (fr21 _ (by omega)).trans r_16
      have r_26 : Mr21 (m + 7) = c12 := (fr21 _ (by omega)).trans hc12
      have fr_27 : ∀ r, r ≠ m → r ≠ m + 6 → r ≠ m + 7 → Mr21 r = M r := fun r q0 q1 q2 => (fr21 r q0).trans (fr_19 r q0 q1 q2)
      have t421 := hk21 4 (by omega)
      have t721 := hk21 7 (by omega)
      have t1121 := hk21 11 (by omega)
      refine WP.blk 1 ?_
      show WP 5 158 (if cnd .eq b_21 0 = true then 60 else 56) [vR m, vI w, vI i, vI 0] [] (Mr21, S) Q
      refine br_eq (fun c_28 => ?_) (fun c_28 => ?_)
      · exfalso; omega
      · have p_21 := (hb_21.resolve_right (fun h => by omega)).2
        refine WP.blk 2 ?_
        show WP 5 158 66 [vR m, vI w, vI i, vI 0] [vI 0] (Mr21, S) Q
        exact WP.ret rfl rfl rfl trivial (k _ _ fr_27 _ ho21 (by omega) (by omega) (Or.inl ⟨by omega, fun c n h1 h2 => absurd h2 (bestp_no hA (hWA.2 w h1.1 h1.2).1 hx_11 p_12.1 c n)⟩))
    · have p_12 := (hb_12.resolve_right (fun h => by omega)).2
      refine WP.blk 6 ?_
      show sT S m = 10 ∧ ir ((Mp12 m 11) - 1) ∧ WP 5 158 28 [vR m, vI w, vI i, none] [vI ((Mp12 m 11) - 1), vI 0, vI i] (Mp12, S) Q
      rw [ho12]
      refine ⟨hS.1.1, (by unfold ir; omega), ?_⟩
      refine WP.cl (a := [vI i, vI 0, vI ((o12 11) - 1)]) (rest := []) rfl rfl rfl rfl trivial (by decide) (q_in  (fun b_29 hb_29 => ⟨rfl, ?_⟩))
      show WP 5 158 31 [vR m, vI w, vI i, none] [vI b_29] (Mp12, S) Q
      refine WP.blk 1 ?_
      show WP 5 158 (if cnd .eq b_29 0 = true then 38 else 34) [vR m, vI w, vI i, none] [] (Mp12, S) Q
      refine br_eq (fun c_30 => ?_) (fun c_30 => ?_)
      · have p_29 := (hb_29.resolve_left (fun h => by omega)).2
        refine WP.blk 6 ?_
        show WP 5 158 50 [vR m, vI w, vI i, vI 0] [vI 1, vR m] (Mp12, S) Q
        refine WP.cl (a := [vR m, vI 1]) (rest := []) rfl rfl rfl rfl ⟨hS.1.1, trivial⟩ (by decide) (r_refused hS r_13 ho12 (fun b_31 Mr31 fr31 o31 ho31 h531 hk31 hb_31 => ⟨rfl, ?_⟩))
        show WP 5 158 53 [vR m, vI w, vI i, vI 0] [vI b_31] (Mr31, S) Q
        have r_32 : Mr31 (m + 1) = f := (fr31 _ (by omega)).trans r_13
        have r_34 : Mr31 (m + 3) = a0 := (fr31 _ (by omega)).trans r_15
        have r_35 : Mr31 (m + 6) = g_17 := (fr31 _ (by omega)).trans r_16
        have r_36 : Mr31 (m + 7) = c12 := (fr31 _ (by omega)).trans hc12
        have fr_37 : ∀ r, r ≠ m → r ≠ m + 6 → r ≠ m + 7 → Mr31 r = M r := fun r q0 q1 q2 => (fr31 r q0).trans (fr_19 r q0 q1 q2)
        have t431 := hk31 4 (by omega)
        have t731 := hk31 7 (by omega)
        have t1131 := hk31 11 (by omega)
        refine WP.blk 1 ?_
        show WP 5 158 (if cnd .eq b_31 0 = true then 60 else 56) [vR m, vI w, vI i, vI 0] [] (Mr31, S) Q
        refine br_eq (fun c_38 => ?_) (fun c_38 => ?_)
        · exfalso; omega
        · have p_31 := (hb_31.resolve_right (fun h => by omega)).2
          refine WP.blk 2 ?_
          show WP 5 158 66 [vR m, vI w, vI i, vI 0] [vI 0] (Mr31, S) Q
          exact WP.ret rfl rfl rfl trivial (k _ _ fr_37 _ ho31 (by omega) (by omega) (Or.inl ⟨by omega, fun c n h1 h2 => by have e := (bestp_u hA (hWA.2 w h1.1 h1.2).1 h2 ⟨_, hx_11, p_12⟩).1; omega⟩))
      · have p_29 := (hb_29.resolve_right (fun h => by omega)).2
        refine WP.blk 8 ?_
        show WP 5 158 50 [vR m, vI w, vI i, vI 1] [vI 0, vR m] (Mp12, S) Q
        refine WP.cl (a := [vR m, vI 0]) (rest := []) rfl rfl rfl rfl ⟨hS.1.1, trivial⟩ (by decide) (r_refused hS r_13 ho12 (fun b_39 Mr39 fr39 o39 ho39 h539 hk39 hb_39 => ⟨rfl, ?_⟩))
        show WP 5 158 53 [vR m, vI w, vI i, vI 1] [vI b_39] (Mr39, S) Q
        have r_40 : Mr39 (m + 1) = f := (fr39 _ (by omega)).trans r_13
        have r_42 : Mr39 (m + 3) = a0 := (fr39 _ (by omega)).trans r_15
        have r_43 : Mr39 (m + 6) = g_17 := (fr39 _ (by omega)).trans r_16
        have r_44 : Mr39 (m + 7) = c12 := (fr39 _ (by omega)).trans hc12
        have fr_45 : ∀ r, r ≠ m → r ≠ m + 6 → r ≠ m + 7 → Mr39 r = M r := fun r q0 q1 q2 => (fr39 r q0).trans (fr_19 r q0 q1 q2)
        have t439 := hk39 4 (by omega)
        have t739 := hk39 7 (by omega)
        have t1139 := hk39 11 (by omega)
        refine WP.blk 1 ?_
        show WP 5 158 (if cnd .eq b_39 0 = true then 60 else 56) [vR m, vI w, vI i, vI 1] [] (Mr39, S) Q
        refine br_eq (fun c_46 => ?_) (fun c_46 => ?_)
        · have p_39 := (hb_39.resolve_left (fun h => by omega)).2
          refine WP.blk 2 ?_
          show (sT S m = 10 ∧ sR S m 10 ≠ 0) ∧ WP 5 158 64 [vR m, vI w, vI i, vI 1] [vR (sR S m 10)] (Mr39, S) Q
          refine ⟨⟨hS.1.1, by rw [hS.1.2.2.2.2.2.2.2.1]; omega⟩, ?_⟩
          rw [hS.1.2.2.2.2.2.2.2.1]
          refine WP.blk 2 ?_
          show ((sT S (m + 7) = 11 ∨ sT S (m + 7) = 16 ∨ sT S (m + 7) = 17) ∧ 0 ≤ i ∧ i < (sN S (m + 7) : Int)) ∧ WP 5 158 66 [vR m, vI w, vI i, vI 1] [vI (Mr39 (m + 7) i)] (Mr39, S) Q
          rw [r_44]
          refine ⟨⟨Or.inl hS.2.1.2.2.2.2.2.2.1, by omega, by rw [hS.2.2.2.2.2.2.2.2.1]; omega⟩, ?_⟩
          exact WP.ret rfl rfl rfl trivial (k _ _ fr_45 _ ho39 (by omega) (by omega) (Or.inr ⟨by omega, by omega, _, _, ⟨_, hx_11, p_12⟩, by omega, rfl⟩))
        · exfalso; omega
