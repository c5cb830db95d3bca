set_option maxHeartbeats 4000000 in
theorem r_digest {S : SD} {M : Nat → Int → Int} {m : Nat} {f : Int → Int} {o : Int → Int} {B : Int} (hS : isMod S m) (hf : M (m + 1) = f) (ho : M m = o) (hR : RowOk B f) (hB : 0 ≤ B ∧ B ≤ 1000000000 - 200) {Q : Res → Wd → Prop} (k : ∀ (h : Int) (M2 : Nat → Int → Int), (∀ r, r ≠ m → r ≠ m + 1 → r ≠ m + 3 → r ≠ m + 6 → r ≠ m + 7 → M2 r = M r) → M2 (m + 1) = f → ∀ o2, M2 m = o2 → o2 4 = o 4 → o2 7 = o 7 → o2 5 = 0 → Dig f (o 7) (o 4) h → Q (0, vL h) (M2, S)) : EvQ 10 178 [vR m] (M, S) Q := by
  refine EvQ.enter (ls := [vR m, none, none]) (Nat.le_of_ble_eq_true rfl) rfl ?_
  have hA := hR.1
  have hA1 := hA.1
  have hWA := hR.2.1
  have hW1 := hWA.1
  have hI := hR.2.2
  have hI2 := hI.2.1
  have hI3 := hI.2.2.1
  obtain ⟨g0, hg0⟩ : ∃ g, M (m + 6) = g := ⟨_, rfl⟩
  obtain ⟨a0, ha0⟩ : ∃ g, M (m + 3) = g := ⟨_, rfl⟩
  obtain ⟨c0, hc0⟩ : ∃ g, M (m + 7) = g := ⟨_, rfl⟩
  refine WP.blk 3 ?_
  show sT S m = 10 ∧ WP 9 178 5 [vR m, none, none] [] (up M m 5 0, S) Q
  refine ⟨hS.1.1, ?_⟩
  generalize hM_1 : up M m 5 0 = M_1
  have r_2 : M_1 (m + 1) = f := by rw [← hM_1]; exact (up_row (by omega)).trans hf
  obtain ⟨g_4, hg_4⟩ : ∃ y9, y9 = uf o 5 0 := ⟨_, rfl⟩
  have r_3 : M_1 m = g_4 := by rw [← hM_1, hg_4, up_self, ho]
  have t_5 : g_4 4 = o 4 := by rw [hg_4]; exact uf_ne (by omega)
  have t_6 : g_4 5 = 0 := by rw [hg_4]; exact uf_at _ _ (by omega)
  have t_7 : g_4 7 = o 7 := by rw [hg_4]; exact uf_ne (by omega)
  have t_8 : g_4 17 = o 17 := by rw [hg_4]; exact uf_ne (by omega)
  have r_9 : M_1 (m + 3) = a0 := by rw [← hM_1]; exact (up_row (by omega)).trans ha0
  have r_10 : M_1 (m + 6) = g0 := by rw [← hM_1]; exact (up_row (by omega)).trans hg0
  have r_11 : M_1 (m + 7) = c0 := by rw [← hM_1]; exact (up_row (by omega)).trans hc0
  have fr_12 : ∀ r, r ≠ m → r ≠ m + 1 → r ≠ m + 3 → r ≠ m + 6 → r ≠ m + 7 → M_1 r = M r := fun r q0 q1 q2 q3 q4 => by rw [← hM_1]; exact (up_row q0).trans ((fun _ _ _ _ _ _ => rfl) r q0 q1 q2 q3 q4)
  refine WP.blk 3 ?_
  show sT S m = 10 ∧ WP 9 178 12 [vR m, none, none] [] (up M_1 m 17 3389, S) Q
  refine ⟨hS.1.1, ?_⟩
  generalize hM_13 : up M_1 m 17 3389 = M_13
  have r_14 : M_13 (m + 1) = f := by rw [← hM_13]; exact (up_row (by omega)).trans r_2
  obtain ⟨g_16, hg_16⟩ : ∃ y9, y9 = uf g_4 17 3389 := ⟨_, rfl⟩
  have r_15 : M_13 m = g_16 := by rw [← hM_13, hg_16, up_self, r_3]
  have t_17 : g_16 4 = g_4 4 := by rw [hg_16]; exact uf_ne (by omega)
  have t_18 : g_16 5 = g_4 5 := by rw [hg_16]; exact uf_ne (by omega)
  have t_19 : g_16 7 = g_4 7 := by rw [hg_16]; exact uf_ne (by omega)
  have t_20 : g_16 17 = 3389 := by rw [hg_16]; exact uf_at _ _ (by omega)
  have r_21 : M_13 (m + 3) = a0 := by rw [← hM_13]; exact (up_row (by omega)).trans r_9
  have r_22 : M_13 (m + 6) = g0 := by rw [← hM_13]; exact (up_row (by omega)).trans r_10
  have r_23 : M_13 (m + 7) = c0 := by rw [← hM_13]; exact (up_row (by omega)).trans r_11
  have fr_24 : ∀ r, r ≠ m → r ≠ m + 1 → r ≠ m + 3 → r ≠ m + 6 → r ≠ m + 7 → M_13 r = M r := fun r q0 q1 q2 q3 q4 => by rw [← hM_13]; exact (up_row q0).trans (fr_12 r q0 q1 q2 q3 q4)
  refine WP.blk 3 ?_
  show sT S m = 10 ∧ WP 9 178 17 [vR m, none, none] [vI (M_13 m 7), vR m] (M_13, S) Q
  rw [r_15]
  refine ⟨hS.1.1, ?_⟩
  refine WP.cl (a := [vR m, vI (g_16 7)]) (rest := []) rfl rfl rfl rfl ⟨hS.1.1, trivial⟩ (by decide) (r_mix hS r_15 (fun My_25 fry_25 oy_25 hoy_25 hmy_25 => ⟨rfl, ?_⟩))
  show WP 9 178 20 [vR m, none, none] [] (My_25, S) Q
  have r_26 : My_25 (m + 1) = f := (fry_25 _ (by omega)).trans r_14
  have r_28 : My_25 (m + 3) = a0 := (fry_25 _ (by omega)).trans r_21
  have r_29 : My_25 (m + 6) = g0 := (fry_25 _ (by omega)).trans r_22
  have r_30 : My_25 (m + 7) = c0 := (fry_25 _ (by omega)).trans r_23
  have fr_31 : ∀ r, r ≠ m → r ≠ m + 1 → r ≠ m + 3 → r ≠ m + 6 → r ≠ m + 7 → My_25 r = M r := fun r q0 q1 q2 q3 q4 => (fry_25 r q0).trans (fr_24 r q0 q1 q2 q3 q4)
  have h17y_25 : oy_25 17 = 31 * g_16 17 + g_16 7 := by rw [hmy_25]; exact uf_eq _ _ _
  have t4y_25 : oy_25 4 = g_16 4 := by rw [hmy_25]; exact uf_ne (by omega)
  have t5y_25 : oy_25 5 = g_16 5 := by rw [hmy_25]; exact uf_ne (by omega)
  have t7y_25 : oy_25 7 = g_16 7 := by rw [hmy_25]; exact uf_ne (by omega)
  have t11y_25 : oy_25 11 = g_16 11 := by rw [hmy_25]; exact uf_ne (by omega)
  refine WP.blk 2 ?_
  show WP 9 178 22 [vR m, vI 0, none] [] (My_25, S) Q
  have hl_22 : ∀ (n_22 : Nat) (i : Int) (v2_22 : V) (M1 : Nat → Int → Int) (o1 : Int → Int) (g1 : Int → Int), 0 ≤ i ∧ i ≤ 9 → o1 17 = mx (tvf f) i (31 * 3389 + o 7) → o1 4 = o 4 ∧ o1 7 = o 7 ∧ o1 5 = 0 → M1 (m + 1) = f → M1 m = o1 → M1 (m + 3) = a0 → M1 (m + 6) = g1 → M1 (m + 7) = c0 → (∀ r, r ≠ m → r ≠ m + 1 → r ≠ m + 3 → r ≠ m + 6 → r ≠ m + 7 → M1 r = M r) → (9 - i).toNat < n_22 → WP 9 178 22 [vR m, vI i, v2_22] [] (M1, S) Q := by
    intro n_22
    induction n_22 with
    | zero => intro i v2_22 M1 o1 g1 h0 h1 h2 z_22_0 z_22_1 z_22_2 z_22_3 z_22_4 fr_22 hm_22; exact absurd hm_22 (Nat.not_lt_zero _)
    | succ n_22 ih_22 =>
      intro i v2_22 M1 o1 g1 h0 h1 h2 z_22_0 z_22_1 z_22_2 z_22_3 z_22_4 fr_22 hm_22
      refine WP.blk 3 ?_
      show WP 9 178 (if cnd .ge i 9 = true then 43 else 28) [vR m, vI i, v2_22] [] (M1, S) Q
      refine br_ge (fun c_32 => ?_) (fun c_32 => ?_)
      · refine WP.blk 2 ?_
        show WP 9 178 45 [vR m, vI 0, v2_22] [] (M1, S) Q
        have hl_45 : ∀ (n_45 : Nat) (s : Int) (v2_45 : V) (M2 : Nat → Int → Int) (o2 : Int → Int), 0 ≤ s ∧ s ≤ f 0 → o2 17 = fld (ds f) s (mx (tvf f) 9 (31 * 3389 + o 7)) → o2 4 = o 4 ∧ o2 7 = o 7 ∧ o2 5 = 0 → M2 (m + 1) = f → M2 m = o2 → M2 (m + 3) = a0 → M2 (m + 6) = g1 → M2 (m + 7) = c0 → (∀ r, r ≠ m → r ≠ m + 1 → r ≠ m + 3 → r ≠ m + 6 → r ≠ m + 7 → M2 r = M r) → (f 0 - s).toNat < n_45 → WP 9 178 45 [vR m, vI s, v2_45] [] (M2, S) Q := by
          intro n_45
          induction n_45 with
          | zero => intro s v2_45 M2 o2 h3 h4 h5 z_45_0 z_45_1 z_45_2 z_45_3 z_45_4 fr_45 hm_45; exact absurd hm_45 (Nat.not_lt_zero _)
          | succ n_45 ih_45 =>
            intro s v2_45 M2 o2 h3 h4 h5 z_45_0 z_45_1 z_45_2 z_45_3 z_45_4 fr_45 hm_45
            refine WP.blk 3 ?_
            show (sT S m = 10 ∧ sR S m 0 ≠ 0) ∧ WP 9 178 50 [vR m, vI s, v2_45] [vR (sR S m 0), vI s] (M2, S) Q
            refine ⟨⟨hS.1.1, by rw [hS.1.2.1]; omega⟩, ?_⟩
            rw [hS.1.2.1]
            refine WP.blk 3 ?_
            show ((sT S (m + 1) = 11 ∨ sT S (m + 1) = 16 ∨ sT S (m + 1) = 17) ∧ 0 ≤ 0 ∧ 0 < (sN S (m + 1) : Int)) ∧ WP 9 178 (if cnd .ge s (M2 (m + 1) 0) = true then 123 else 55) [vR m, vI s, v2_45] [] (M2, S) Q
            rw [z_45_0]
            refine ⟨⟨Or.inl hS.2.1.1, by omega, by rw [hS.2.2.1]; omega⟩, ?_⟩
            refine br_ge (fun c_33 => ?_) (fun c_33 => ?_)
            · refine WP.blk 2 ?_
              show WP 9 178 125 [vR m, vI 0, v2_45] [] (M2, S) Q
              have hl_125 : ∀ (n_125 : Nat) (w : Int) (v2_125 : V) (M5 : Nat → Int → Int) (o5 : Int → Int) (a5 : Int → Int) (g5 : Int → Int) (c5 : Int → Int), 0 ≤ w ∧ w ≤ f 1 → o5 17 = fld (dw f) w (fld (ds f) (f 0) (mx (tvf f) 9 (31 * 3389 + o 7))) → o5 4 = o 4 ∧ o5 7 = o 7 ∧ o5 5 = 0 → M5 (m + 1) = f → M5 m = o5 → M5 (m + 3) = a5 → M5 (m + 6) = g5 → M5 (m + 7) = c5 → (∀ r, r ≠ m → r ≠ m + 1 → r ≠ m + 3 → r ≠ m + 6 → r ≠ m + 7 → M5 r = M r) → (f 1 - w).toNat < n_125 → WP 9 178 125 [vR m, vI w, v2_125] [] (M5, S) Q := by
                intro n_125
                induction n_125 with
                | zero => intro w v2_125 M5 o5 a5 g5 c5 h12 h13 h14 z_125_0 z_125_1 z_125_2 z_125_3 z_125_4 fr_125 hm_125; exact absurd hm_125 (Nat.not_lt_zero _)
                | succ n_125 ih_125 =>
                  intro w v2_125 M5 o5 a5 g5 c5 h12 h13 h14 z_125_0 z_125_1 z_125_2 z_125_3 z_125_4 fr_125 hm_125
                  refine WP.blk 3 ?_
                  show (sT S m = 10 ∧ sR S m 0 ≠ 0) ∧ WP 9 178 130 [vR m, vI w, v2_125] [vR (sR S m 0), vI w] (M5, S) Q
                  refine ⟨⟨hS.1.1, by rw [hS.1.2.1]; omega⟩, ?_⟩
                  rw [hS.1.2.1]
                  refine WP.blk 3 ?_
                  show ((sT S (m + 1) = 11 ∨ sT S (m + 1) = 16 ∨ sT S (m + 1) = 17) ∧ 0 ≤ 1 ∧ 1 < (sN S (m + 1) : Int)) ∧ WP 9 178 (if cnd .ge w (M5 (m + 1) 1) = true then 146 else 135) [vR m, vI w, v2_125] [] (M5, S) Q
                  rw [z_125_0]
                  refine ⟨⟨Or.inl hS.2.1.1, by omega, by rw [hS.2.2.1]; omega⟩, ?_⟩
                  refine br_ge (fun c_34 => ?_) (fun c_34 => ?_)
                  · refine WP.blk 2 ?_
                    show WP 9 178 148 [vR m, vI w, v2_125] [vR m, vR m] (M5, S) Q
                    refine WP.cl (a := [vR m]) (rest := [vR m]) rfl rfl rfl rfl ⟨hS.1.1, trivial⟩ (by decide) (r_smallest hS z_125_0 hR (fun vy_35 My_35 fry_35 hvy_35 => ⟨rfl, ?_⟩))
                    show WP 9 178 151 [vR m, vI w, v2_125] [vI vy_35, vR m] (My_35, S) Q
                    have r_36 : My_35 (m + 1) = f := (fry_35 _ (by omega)).trans z_125_0
                    have r_37 : My_35 m = o5 := (fry_35 _ (by omega)).trans z_125_1
                    have r_38 : My_35 (m + 3) = a5 := (fry_35 _ (by omega)).trans z_125_2
                    obtain ⟨g_40, r_39⟩ : ∃ y9, My_35 (m + 6) = y9 := ⟨_, rfl⟩
                    have r_41 : My_35 (m + 7) = c5 := (fry_35 _ (by omega)).trans z_125_4
                    have fr_42 : ∀ r, r ≠ m → r ≠ m + 1 → r ≠ m + 3 → r ≠ m + 6 → r ≠ m + 7 → My_35 r = M r := fun r q0 q1 q2 q3 q4 => (fry_35 r q3).trans (fr_125 r q0 q1 q2 q3 q4)
                    refine WP.cl (a := [vR m, vI vy_35]) (rest := []) rfl rfl rfl rfl ⟨hS.1.1, trivial⟩ (by decide) (r_mix hS r_37 (fun My_43 fry_43 oy_43 hoy_43 hmy_43 => ⟨rfl, ?_⟩))
                    show WP 9 178 154 [vR m, vI w, v2_125] [] (My_43, S) Q
                    have r_44 : My_43 (m + 1) = f := (fry_43 _ (by omega)).trans r_36
                    have r_46 : My_43 (m + 3) = a5 := (fry_43 _ (by omega)).trans r_38
                    have r_47 : My_43 (m + 6) = g_40 := (fry_43 _ (by omega)).trans r_39
                    have r_48 : My_43 (m + 7) = c5 := (fry_43 _ (by omega)).trans r_41
                    have fr_49 : ∀ r, r ≠ m → r ≠ m + 1 → r ≠ m + 3 → r ≠ m + 6 → r ≠ m + 7 → My_43 r = M r := fun r q0 q1 q2 q3 q4 => (fry_43 r q0).trans (fr_42 r q0 q1 q2 q3 q4)
                    have h17y_43 : oy_43 17 = 31 * o5 17 + vy_35 := by rw [hmy_43]; exact uf_eq _ _ _
                    have t4y_43 : oy_43 4 = o5 4 := by rw [hmy_43]; exact uf_ne (by omega)
                    have t5y_43 : oy_43 5 = o5 5 := by rw [hmy_43]; exact uf_ne (by omega)
                    have t7y_43 : oy_43 7 = o5 7 := by rw [hmy_43]; exact uf_ne (by omega)
                    have t11y_43 : oy_43 11 = o5 11 := by rw [hmy_43]; exact uf_ne (by omega)
                    refine WP.blk 3 ?_
                    show sT S m = 10 ∧ WP 9 178 159 [vR m, vI w, v2_125] [vI (My_43 m 4), vR m] (My_43, S) Q
                    rw [hoy_43]
                    refine ⟨hS.1.1, ?_⟩
                    refine WP.cl (a := [vR m, vI (oy_43 4)]) (rest := []) rfl rfl rfl rfl ⟨hS.1.1, trivial⟩ (by decide) (r_mix hS hoy_43 (fun My_50 fry_50 oy_50 hoy_50 hmy_50 => ⟨rfl, ?_⟩))
                    show WP 9 178 162 [vR m, vI w, v2_125] [] (My_50, S) Q
                    have r_51 : My_50 (m + 1) = f := (fry_50 _ (by omega)).trans r_44
                    have r_53 : My_50 (m + 3) = a5 := (fry_50 _ (by omega)).trans r_46
                    have r_54 : My_50 (m + 6) = g_40 := (fry_50 _ (by omega)).trans r_47
                    have r_55 : My_50 (m + 7) = c5 := (fry_50 _ (by omega)).trans r_48
                    have fr_56 : ∀ r, r ≠ m → r ≠ m + 1 → r ≠ m + 3 → r ≠ m + 6 → r ≠ m + 7 → My_50 r = M r := fun r q0 q1 q2 q3 q4 => (fry_50 r q0).trans (fr_49 r q0 q1 q2 q3 q4)
                    have h17y_50 : oy_50 17 = 31 * oy_43 17 + oy_43 4 := by rw [hmy_50]; exact uf_eq _ _ _
                    have t4y_50 : oy_50 4 = oy_43 4 := by rw [hmy_50]; exact uf_ne (by omega)
                    have t5y_50 : oy_50 5 = oy_43 5 := by rw [hmy_50]; exact uf_ne (by omega)
                    have t7y_50 : oy_50 7 = oy_43 7 := by rw [hmy_50]; exact uf_ne (by omega)
                    have t11y_50 : oy_50 11 = oy_43 11 := by rw [hmy_50]; exact uf_ne (by omega)
                    refine WP.blk 2 ?_
                    show sT S m = 10 ∧ WP 9 178 166 [vR m, vI w, v2_125] [vL (My_50 m 17)] (My_50, S) Q
                    rw [hoy_50]
                    refine ⟨hS.1.1, ?_⟩
                    exact WP.ret rfl rfl rfl trivial (k _ _ fr_56 r_51 _ hoy_50 (by omega) (by omega) (by omega) ⟨_, hvy_35, by have e := h13; rw [show w = f 1 by omega] at e; unfold dg0; omega⟩)
                  · refine WP.blk 2 ?_
                    show WP 9 178 137 [vR m, vI w, v2_125] [vI w, vR m] (M5, S) Q
                    refine WP.cl (a := [vR m, vI w]) (rest := []) rfl rfl rfl rfl ⟨hS.1.1, trivial⟩ (by decide) (r_mixWord hS z_125_0 z_125_1 hR hB (hWA.2 w (by omega) (by omega)).1 (hWA.2 w (by omega) (by omega)).2 (fun My_57 fry_57 hMy_57 oy_57 hoy_57 t4y_57 t7y_57 t5y_57 hdy_57 => ⟨rfl, ?_⟩))
                    show WP 9 178 140 [vR m, vI w, v2_125] [] (My_57, S) Q
                    obtain ⟨g_61, r_60⟩ : ∃ y9, My_57 (m + 3) = y9 := ⟨_, rfl⟩
                    obtain ⟨g_63, r_62⟩ : ∃ y9, My_57 (m + 6) = y9 := ⟨_, rfl⟩
                    obtain ⟨g_65, r_64⟩ : ∃ y9, My_57 (m + 7) = y9 := ⟨_, rfl⟩
                    have fr_66 : ∀ r, r ≠ m → r ≠ m + 1 → r ≠ m + 3 → r ≠ m + 6 → r ≠ m + 7 → My_57 r = M r := fun r q0 q1 q2 q3 q4 => (fry_57 r q0 q1 q2 q3 q4).trans (fr_125 r q0 q1 q2 q3 q4)
                    refine WP.blk 2 ?_
                    show ir (w + 1) ∧ WP 9 178 125 [vR m, vI (w + 1), v2_125] [] (My_57, S) Q
                    refine ⟨(by unfold ir; omega), ?_⟩
                    exact ih_125 (w + 1) (v2_125) My_57 oy_57 g_61 g_63 g_65 (by omega) (by rw [fld_s h12.1, ← h13]; exact dw_eq hA (hWA.2 w (by omega) (by omega)).1 hdy_57) (by omega) hMy_57 hoy_57 r_60 r_62 r_64 fr_66 (by omega)
              exact hl_125 _ 0 (v2_45) M2 o2 a0 g1 c0 (by omega) (by rw [fld_0, h4, show s = f 0 by omega]) (by omega) z_45_0 z_45_1 z_45_2 z_45_3 z_45_4 fr_45 (Nat.lt_succ_self _)
            · have hs5 := (hA.2 s h3.1 (by omega)).2.2.1
              have hs6 := (hA.2 s h3.1 (by omega)).2.2.2.1
              refine WP.blk 2 ?_
              show WP 9 178 57 [vR m, vI s, vI 0] [] (M2, S) Q
              have hl_57 : ∀ (n_57 : Nat) (j : Int) (M3 : Nat → Int → Int) (o3 : Int → Int), 0 ≤ j ∧ j ≤ 6 → o3 17 = mx (tsf f s) j (o2 17) → o3 4 = o 4 ∧ o3 7 = o 7 ∧ o3 5 = 0 → M3 (m + 1) = f → M3 m = o3 → M3 (m + 3) = a0 → M3 (m + 6) = g1 → M3 (m + 7) = c0 → (∀ r, r ≠ m → r ≠ m + 1 → r ≠ m + 3 → r ≠ m + 6 → r ≠ m + 7 → M3 r = M r) → (6 - j).toNat < n_57 → WP 9 178 57 [vR m, vI s, vI j] [] (M3, S) Q := by
                intro n_57
                induction n_57 with
                | zero => intro j M3 o3 h6 h7 h8 z_57_0 z_57_1 z_57_2 z_57_3 z_57_4 fr_57 hm_57; exact absurd hm_57 (Nat.not_lt_zero _)
                | succ n_57 ih_57 =>
                  intro j M3 o3 h6 h7 h8 z_57_0 z_57_1 z_57_2 z_57_3 z_57_4 fr_57 hm_57
                  have hs5 := (hA.2 s h3.1 (by omega)).2.2.1
                  have hs6 := (hA.2 s h3.1 (by omega)).2.2.2.1
                  refine WP.blk 3 ?_
                  show WP 9 178 (if cnd .ge j 6 = true then 79 else 63) [vR m, vI s, vI j] [] (M3, S) Q
                  refine br_ge (fun c_67 => ?_) (fun c_67 => ?_)
                  · refine WP.blk 2 ?_
                    show WP 9 178 81 [vR m, vI s, vI 0] [] (M3, S) Q
                    have hl_81 : ∀ (n_81 : Nat) (q : Int) (M4 : Nat → Int → Int) (o4 : Int → Int), 0 ≤ q ∧ q ≤ f (7 + 9 * s) → o4 17 = mx (fun k => f (7 + 9 * s + 1 + k)) q (mx (tsf f s) 6 (o2 17)) → o4 4 = o 4 ∧ o4 7 = o 7 ∧ o4 5 = 0 → M4 (m + 1) = f → M4 m = o4 → M4 (m + 3) = a0 → M4 (m + 6) = g1 → M4 (m + 7) = c0 → (∀ r, r ≠ m → r ≠ m + 1 → r ≠ m + 3 → r ≠ m + 6 → r ≠ m + 7 → M4 r = M r) → (f (7 + 9 * s) - q).toNat < n_81 → WP 9 178 81 [vR m, vI s, vI q] [] (M4, S) Q := by
                      intro n_81
                      induction n_81 with
                      | zero => intro q M4 o4 h9 h10 h11 z_81_0 z_81_1 z_81_2 z_81_3 z_81_4 fr_81 hm_81; exact absurd hm_81 (Nat.not_lt_zero _)
                      | succ n_81 ih_81 =>
                        intro q M4 o4 h9 h10 h11 z_81_0 z_81_1 z_81_2 z_81_3 z_81_4 fr_81 hm_81
                        refine WP.blk 3 ?_
                        show (sT S m = 10 ∧ sR S m 0 ≠ 0) ∧ WP 9 178 86 [vR m, vI s, vI q] [vR (sR S m 0), vI q] (M4, S) Q
                        refine ⟨⟨hS.1.1, by rw [hS.1.2.1]; omega⟩, ?_⟩
                        rw [hS.1.2.1]
                        refine WP.blk 1 ?_
                        show WP 9 178 87 [vR m, vI s, vI q] [vI s, vR (m + 1), vI q] (M4, S) Q
                        refine WP.cl (a := [vI s]) (rest := [vR (m + 1), vI q]) rfl rfl rfl rfl trivial (by decide) (q_stampAt (by omega) ⟨rfl, ?_⟩)
                        show WP 9 178 90 [vR m, vI s, vI q] [vI (7 + 9 * s), vR (m + 1), vI q] (M4, S) Q
                        refine WP.blk 2 ?_
                        show ((sT S (m + 1) = 11 ∨ sT S (m + 1) = 16 ∨ sT S (m + 1) = 17) ∧ 0 ≤ (7 + 9 * s) ∧ (7 + 9 * s) < (sN S (m + 1) : Int)) ∧ WP 9 178 (if cnd .ge q (M4 (m + 1) (7 + 9 * s)) = true then 117 else 94) [vR m, vI s, vI q] [] (M4, S) Q
                        rw [z_81_0]
                        refine ⟨⟨Or.inl hS.2.1.1, by omega, by rw [hS.2.2.1]; omega⟩, ?_⟩
                        refine br_ge (fun c_68 => ?_) (fun c_68 => ?_)
                        · refine WP.blk 2 ?_
                          show ir (s + 1) ∧ WP 9 178 45 [vR m, vI (s + 1), vI q] [] (M4, S) Q
                          refine ⟨(by unfold ir; omega), ?_⟩
                          exact ih_45 (s + 1) (vI q) M4 o4 (by omega) (by rw [fld_s h3.1, ← h4]; unfold ds; rw [h10, show q = f (7 + 9 * s) by omega]) (by omega) z_81_0 z_81_1 z_81_2 z_81_3 z_81_4 fr_81 (by omega)
                        · refine WP.blk 3 ?_
                          show (sT S m = 10 ∧ sR S m 0 ≠ 0) ∧ WP 9 178 99 [vR m, vI s, vI q] [vR (sR S m 0), vR m] (M4, S) Q
                          refine ⟨⟨hS.1.1, by rw [hS.1.2.1]; omega⟩, ?_⟩
                          rw [hS.1.2.1]
                          refine WP.blk 1 ?_
                          show WP 9 178 100 [vR m, vI s, vI q] [vI s, vR (m + 1), vR m] (M4, S) Q
                          refine WP.cl (a := [vI s]) (rest := [vR (m + 1), vR m]) rfl rfl rfl rfl trivial (by decide) (q_stampAt (by omega) ⟨rfl, ?_⟩)
                          show WP 9 178 103 [vR m, vI s, vI q] [vI (7 + 9 * s), vR (m + 1), vR m] (M4, S) Q
                          refine WP.blk 5 ?_
                          show ir ((7 + 9 * s) + 1) ∧ ir (((7 + 9 * s) + 1) + q) ∧ ((sT S (m + 1) = 11 ∨ sT S (m + 1) = 16 ∨ sT S (m + 1) = 17) ∧ 0 ≤ (((7 + 9 * s) + 1) + q) ∧ (((7 + 9 * s) + 1) + q) < (sN S (m + 1) : Int)) ∧ WP 9 178 108 [vR m, vI s, vI q] [vI (M4 (m + 1) (((7 + 9 * s) + 1) + q)), vR m] (M4, S) Q
                          rw [z_81_0]
                          refine ⟨(by unfold ir; omega), (by unfold ir; omega), ⟨Or.inl hS.2.1.1, by omega, by rw [hS.2.2.1]; omega⟩, ?_⟩
                          refine WP.cl (a := [vR m, vI (f (((7 + 9 * s) + 1) + q))]) (rest := []) rfl rfl rfl rfl ⟨hS.1.1, trivial⟩ (by decide) (r_mix hS z_81_1 (fun My_69 fry_69 oy_69 hoy_69 hmy_69 => ⟨rfl, ?_⟩))
                          show WP 9 178 111 [vR m, vI s, vI q] [] (My_69, S) Q
                          have r_70 : My_69 (m + 1) = f := (fry_69 _ (by omega)).trans z_81_0
                          have r_72 : My_69 (m + 3) = a0 := (fry_69 _ (by omega)).trans z_81_2
                          have r_73 : My_69 (m + 6) = g1 := (fry_69 _ (by omega)).trans z_81_3
                          have r_74 : My_69 (m + 7) = c0 := (fry_69 _ (by omega)).trans z_81_4
                          have fr_75 : ∀ r, r ≠ m → r ≠ m + 1 → r ≠ m + 3 → r ≠ m + 6 → r ≠ m + 7 → My_69 r = M r := fun r q0 q1 q2 q3 q4 => (fry_69 r q0).trans (fr_81 r q0 q1 q2 q3 q4)
                          have h17y_69 : oy_69 17 = 31 * o4 17 + f (((7 + 9 * s) + 1) + q) := by rw [hmy_69]; exact uf_eq _ _ _
                          have t4y_69 : oy_69 4 = o4 4 := by rw [hmy_69]; exact uf_ne (by omega)
                          have t5y_69 : oy_69 5 = o4 5 := by rw [hmy_69]; exact uf_ne (by omega)
                          have t7y_69 : oy_69 7 = o4 7 := by rw [hmy_69]; exact uf_ne (by omega)
                          have t11y_69 : oy_69 11 = o4 11 := by rw [hmy_69]; exact uf_ne (by omega)
                          refine WP.blk 2 ?_
                          show ir (q + 1) ∧ WP 9 178 81 [vR m, vI s, vI (q + 1)] [] (My_69, S) Q
                          refine ⟨(by unfold ir; omega), ?_⟩
                          exact ih_81 (q + 1) My_69 oy_69 (by omega) (by rw [mx_s h9.1]; show _ = 31 * _ + f (7 + 9 * s + 1 + q); omega) (by omega) r_70 hoy_69 r_72 r_73 r_74 fr_75 (by omega)
                    exact hl_81 _ 0 M3 o3 (by omega) (by rw [mx_0, h7, show j = 6 by omega]) (by omega) z_57_0 z_57_1 z_57_2 z_57_3 z_57_4 fr_57 (Nat.lt_succ_self _)
                  · refine WP.blk 4 ?_
                    show WP 9 178 67 [vR m, vI s, vI j] [vI j, vI s, vR m, vR m] (M3, S) Q
                    refine WP.cl (a := [vR m, vI s, vI j]) (rest := [vR m]) rfl rfl rfl rfl ⟨hS.1.1, trivial⟩ (by decide) (r_tellStamp hS z_57_0 (hA.2 _ (by omega) (by omega)) (fun vy_76 hvy_76 => ⟨rfl, ?_⟩))
                    show WP 9 178 70 [vR m, vI s, vI j] [vI vy_76, vR m] (M3, S) Q
                    refine WP.cl (a := [vR m, vI vy_76]) (rest := []) rfl rfl rfl rfl ⟨hS.1.1, trivial⟩ (by decide) (r_mix hS z_57_1 (fun My_77 fry_77 oy_77 hoy_77 hmy_77 => ⟨rfl, ?_⟩))
                    show WP 9 178 73 [vR m, vI s, vI j] [] (My_77, S) Q
                    have r_78 : My_77 (m + 1) = f := (fry_77 _ (by omega)).trans z_57_0
                    have r_80 : My_77 (m + 3) = a0 := (fry_77 _ (by omega)).trans z_57_2
                    have r_81 : My_77 (m + 6) = g1 := (fry_77 _ (by omega)).trans z_57_3
                    have r_82 : My_77 (m + 7) = c0 := (fry_77 _ (by omega)).trans z_57_4
                    have fr_83 : ∀ r, r ≠ m → r ≠ m + 1 → r ≠ m + 3 → r ≠ m + 6 → r ≠ m + 7 → My_77 r = M r := fun r q0 q1 q2 q3 q4 => (fry_77 r q0).trans (fr_57 r q0 q1 q2 q3 q4)
                    have h17y_77 : oy_77 17 = 31 * o3 17 + vy_76 := by rw [hmy_77]; exact uf_eq _ _ _
                    have t4y_77 : oy_77 4 = o3 4 := by rw [hmy_77]; exact uf_ne (by omega)
                    have t5y_77 : oy_77 5 = o3 5 := by rw [hmy_77]; exact uf_ne (by omega)
                    have t7y_77 : oy_77 7 = o3 7 := by rw [hmy_77]; exact uf_ne (by omega)
                    have t11y_77 : oy_77 11 = o3 11 := by rw [hmy_77]; exact uf_ne (by omega)
                    refine WP.blk 2 ?_
                    show ir (j + 1) ∧ WP 9 178 57 [vR m, vI s, vI (j + 1)] [] (My_77, S) Q
                    refine ⟨(by unfold ir; omega), ?_⟩
                    exact ih_57 (j + 1) My_77 oy_77 (by omega) (by rw [mx_s h6.1, ← h7, ← tsf_eq hvy_76]; omega) (by omega) r_78 hoy_77 r_80 r_81 r_82 fr_83 (by omega)
              exact hl_57 _ 0 M2 o2 (by omega) mx_0.symm (by omega) z_45_0 z_45_1 z_45_2 z_45_3 z_45_4 fr_45 (Nat.lt_succ_self _)
        exact hl_45 _ 0 (v2_22) M1 o1 (by omega) (by rw [fld_0, h1, show i = 9 by omega]) (by omega) z_22_0 z_22_1 z_22_2 z_22_3 z_22_4 fr_22 (Nat.lt_succ_self _)
      · refine WP.blk 3 ?_
        show WP 9 178 31 [vR m, vI i, v2_22] [vI i, vR m, vR m] (M1, S) Q
        refine WP.cl (a := [vR m, vI i]) (rest := [vR m]) rfl rfl rfl rfl ⟨hS.1.1, trivial⟩ (by decide) (r_tellValue hS z_22_0 hR (by omega) (fun vy_84 My_84 fry_84 hvy_84 => ⟨rfl, ?_⟩))
        show WP 9 178 34 [vR m, vI i, v2_22] [vI vy_84, vR m] (My_84, S) Q
        have r_85 : My_84 (m + 1) = f := (fry_84 _ (by omega)).trans z_22_0
        have r_86 : My_84 m = o1 := (fry_84 _ (by omega)).trans z_22_1
        have r_87 : My_84 (m + 3) = a0 := (fry_84 _ (by omega)).trans z_22_2
        obtain ⟨g_89, r_88⟩ : ∃ y9, My_84 (m + 6) = y9 := ⟨_, rfl⟩
        have r_90 : My_84 (m + 7) = c0 := (fry_84 _ (by omega)).trans z_22_4
        have fr_91 : ∀ r, r ≠ m → r ≠ m + 1 → r ≠ m + 3 → r ≠ m + 6 → r ≠ m + 7 → My_84 r = M r := fun r q0 q1 q2 q3 q4 => (fry_84 r q3).trans (fr_22 r q0 q1 q2 q3 q4)
        refine WP.cl (a := [vR m, vI vy_84]) (rest := []) rfl rfl rfl rfl ⟨hS.1.1, trivial⟩ (by decide) (r_mix hS r_86 (fun My_92 fry_92 oy_92 hoy_92 hmy_92 => ⟨rfl, ?_⟩))
        show WP 9 178 37 [vR m, vI i, v2_22] [] (My_92, S) Q
        have r_93 : My_92 (m + 1) = f := (fry_92 _ (by omega)).trans r_85
        have r_95 : My_92 (m + 3) = a0 := (fry_92 _ (by omega)).trans r_87
        have r_96 : My_92 (m + 6) = g_89 := (fry_92 _ (by omega)).trans r_88
        have r_97 : My_92 (m + 7) = c0 := (fry_92 _ (by omega)).trans r_90
        have fr_98 : ∀ r, r ≠ m → r ≠ m + 1 → r ≠ m + 3 → r ≠ m + 6 → r ≠ m + 7 → My_92 r = M r := fun r q0 q1 q2 q3 q4 => (fry_92 r q0).trans (fr_91 r q0 q1 q2 q3 q4)
        have h17y_92 : oy_92 17 = 31 * o1 17 + vy_84 := by rw [hmy_92]; exact uf_eq _ _ _
        have t4y_92 : oy_92 4 = o1 4 := by rw [hmy_92]; exact uf_ne (by omega)
        have t5y_92 : oy_92 5 = o1 5 := by rw [hmy_92]; exact uf_ne (by omega)
        have t7y_92 : oy_92 7 = o1 7 := by rw [hmy_92]; exact uf_ne (by omega)
        have t11y_92 : oy_92 11 = o1 11 := by rw [hmy_92]; exact uf_ne (by omega)
        refine WP.blk 2 ?_
        show ir (i + 1) ∧ WP 9 178 22 [vR m, vI (i + 1), v2_22] [] (My_92, S) Q
        refine ⟨(by unfold ir; omega), ?_⟩
        exact ih_22 (i + 1) (v2_22) My_92 oy_92 g_89 (by omega) (by rw [mx_s h0.1, ← h1, ← tvf_eq hvy_84]; omega) (by omega) r_93 hoy_92 r_95 r_96 r_97 fr_98 (by omega)
  exact hl_22 _ 0 (none) My_25 oy_25 g0 (by omega) (by rw [mx_0]; omega) (by omega) r_26 hoy_25 r_28 r_29 r_30 fr_31 (Nat.lt_succ_self _)
