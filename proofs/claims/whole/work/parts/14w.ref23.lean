set_option maxHeartbeats 4000000 in
theorem r_orders {S : SD} {M : Nat → Int → Int} {m : Nat} {f : Int → Int} {o : Int → Int} {B : Int} (hS : isMod S m) (hf : M (m + 1) = f) (ho : M m = o) (hR : RowOk B f) (hB : 0 ≤ B ∧ B ≤ 1000000000 - 400) {Q : Res → Wd → Prop} (k : ∀ (b : Int) (M2 : Nat → Int → Int), (∀ r, r ≠ m → r ≠ m + 1 → r ≠ m + 3 → r ≠ m + 4 → r ≠ m + 6 → r ≠ m + 7 → r ≠ m + 8 → r ≠ m + 9 → r ≠ m + 10 → M2 r = M r) → M2 (m + 1) = f → ∀ o2 bb, M2 m = o2 → M2 (m + 10) = bb → o2 4 = o 4 → o2 5 = o 5 → o2 7 = o 7 → BestO f bb (o2 15) → (b = 1 ∧ ¬ o2 15 = -1) ∨ (b = 0 ∧ o2 15 = -1) → Q (0, vI b) (M2, S)) : EvQ 7 169 [vR m] (M, S) Q := by
  refine EvQ.enter (ls := [vR m, none, none, none, none, none, none]) (Nat.le_of_ble_eq_true rfl) rfl ?_
  have hA := hR.1
  have hA1 := hA.1
  have hWA := hR.2.1
  have hW1 := hWA.1
  have hI := hR.2.2
  have hI2 := hI.2.1
  have hI3 := hI.2.2.1
  have hI6 := hI.2.2.2.2.2
  obtain ⟨a0, ha0⟩ : ∃ g, M (m + 3) = g := ⟨_, rfl⟩
  obtain ⟨d0, hd0⟩ : ∃ g, M (m + 4) = g := ⟨_, rfl⟩
  obtain ⟨g0, hg0⟩ : ∃ g, M (m + 6) = g := ⟨_, rfl⟩
  obtain ⟨c0, hc0⟩ : ∃ g, M (m + 7) = g := ⟨_, rfl⟩
  obtain ⟨t0, ht0⟩ : ∃ g, M (m + 8) = g := ⟨_, rfl⟩
  obtain ⟨h0, hh0⟩ : ∃ g, M (m + 9) = g := ⟨_, rfl⟩
  obtain ⟨b0, hb0⟩ : ∃ g, M (m + 10) = g := ⟨_, rfl⟩
  refine WP.blk 2 ?_
  show (sT S m = 10 ∧ sR S m 0 ≠ 0) ∧ WP 6 169 4 [vR m, none, none, none, none, none, none] [vR (sR S m 0)] (M, S) Q
  refine ⟨⟨hS.1.1, by rw [hS.1.2.1]; omega⟩, ?_⟩
  rw [hS.1.2.1]
  refine WP.blk 5 ?_
  show ((sT S (m + 1) = 11 ∨ sT S (m + 1) = 16 ∨ sT S (m + 1) = 17) ∧ 0 ≤ 1 ∧ 1 < (sN S (m + 1) : Int)) ∧ (sT S m = 10 ∧ sR S m 0 ≠ 0) ∧ WP 6 169 11 [vR m, vI (M (m + 1) 1), none, none, none, none, none] [vR (sR S m 0)] (M, S) Q
  rw [hf]
  refine ⟨⟨Or.inl hS.2.1.1, by omega, by rw [hS.2.2.1]; omega⟩, ⟨hS.1.1, by rw [hS.1.2.1]; omega⟩, ?_⟩
  rw [hS.1.2.1]
  refine WP.blk 6 ?_
  show ((sT S (m + 1) = 11 ∨ sT S (m + 1) = 16 ∨ sT S (m + 1) = 17) ∧ 0 ≤ 6 ∧ 6 < (sN S (m + 1) : Int)) ∧ WP 6 169 (if cnd .ne (f 1) 0 = true then 24 else 20) [vR m, vI (f 1), vI (M (m + 1) 6), none, none, none, none] [vR m] (M, S) Q
  rw [hf]
  refine ⟨⟨Or.inl hS.2.1.1, by omega, by rw [hS.2.2.1]; omega⟩, ?_⟩
  refine br_ne (fun c_1 => ?_) (fun c_1 => ?_)
  · refine WP.blk 2 ?_
    show sT S m = 10 ∧ WP 6 169 28 [vR m, vI (f 1), vI (f 6), none, none, none, none] [] (up M m 15 (-1), S) Q
    refine ⟨hS.1.1, ?_⟩
    generalize hM_2 : up M m 15 (-1) = M_2
    have r_3 : M_2 (m + 1) = f := by rw [← hM_2]; exact (up_row (by omega)).trans hf
    obtain ⟨g_5, hg_5⟩ : ∃ y9, y9 = uf o 15 (-1) := ⟨_, rfl⟩
    have r_4 : M_2 m = g_5 := by rw [← hM_2, hg_5, up_self, ho]
    have t_6 : g_5 4 = o 4 := by rw [hg_5]; exact uf_ne (by omega)
    have t_7 : g_5 5 = o 5 := by rw [hg_5]; exact uf_ne (by omega)
    have t_8 : g_5 7 = o 7 := by rw [hg_5]; exact uf_ne (by omega)
    have t_9 : g_5 15 = (-1) := by rw [hg_5]; exact uf_at _ _ (by omega)
    have r_10 : M_2 (m + 3) = a0 := by rw [← hM_2]; exact (up_row (by omega)).trans ha0
    have r_11 : M_2 (m + 4) = d0 := by rw [← hM_2]; exact (up_row (by omega)).trans hd0
    have r_12 : M_2 (m + 6) = g0 := by rw [← hM_2]; exact (up_row (by omega)).trans hg0
    have r_13 : M_2 (m + 7) = c0 := by rw [← hM_2]; exact (up_row (by omega)).trans hc0
    have r_14 : M_2 (m + 8) = t0 := by rw [← hM_2]; exact (up_row (by omega)).trans ht0
    have r_15 : M_2 (m + 9) = h0 := by rw [← hM_2]; exact (up_row (by omega)).trans hh0
    have r_16 : M_2 (m + 10) = b0 := by rw [← hM_2]; exact (up_row (by omega)).trans hb0
    have fr_17 : ∀ r, r ≠ m → r ≠ m + 1 → r ≠ m + 3 → r ≠ m + 4 → r ≠ m + 6 → r ≠ m + 7 → r ≠ m + 8 → r ≠ m + 9 → r ≠ m + 10 → M_2 r = M r := fun r q0 q1 q2 q3 q4 q5 q6 q7 q8 => by rw [← hM_2]; exact (up_row q0).trans ((fun _ _ _ _ _ _ _ _ _ _ => rfl) r q0 q1 q2 q3 q4 q5 q6 q7 q8)
    refine WP.blk 2 ?_
    show WP 6 169 (if cnd .ne (f 1) 0 = true then 34 else 32) [vR m, vI (f 1), vI (f 6), none, none, none, none] [] (M_2, S) Q
    refine br_ne (fun c_18 => ?_) (fun c_18 => ?_)
    · refine WP.blk 1 ?_
      show WP 6 169 35 [vR m, vI (f 1), vI (f 6), none, none, none, none] [vR m] (M_2, S) Q
      refine WP.cl (a := [vR m]) (rest := []) rfl rfl rfl rfl ⟨hS.1.1, trivial⟩ (by decide) (r_keeps hS r_3 r_10 (fun My_19 fry_19 hMy_19 => ⟨rfl, ?_⟩))
      show WP 6 169 38 [vR m, vI (f 1), vI (f 6), none, none, none, none] [] (My_19, S) Q
      obtain ⟨ay_19, hay_19⟩ : ∃ y9, My_19 (m + 3) = y9 := ⟨_, rfl⟩
      rw [hay_19] at hMy_19
      have r_20 : My_19 (m + 1) = f := (fry_19 _ (by omega)).trans r_3
      have r_21 : My_19 m = g_5 := (fry_19 _ (by omega)).trans r_4
      have r_23 : My_19 (m + 4) = d0 := (fry_19 _ (by omega)).trans r_11
      have r_24 : My_19 (m + 6) = g0 := (fry_19 _ (by omega)).trans r_12
      have r_25 : My_19 (m + 7) = c0 := (fry_19 _ (by omega)).trans r_13
      have r_26 : My_19 (m + 8) = t0 := (fry_19 _ (by omega)).trans r_14
      have r_27 : My_19 (m + 9) = h0 := (fry_19 _ (by omega)).trans r_15
      have r_28 : My_19 (m + 10) = b0 := (fry_19 _ (by omega)).trans r_16
      have fr_29 : ∀ r, r ≠ m → r ≠ m + 1 → r ≠ m + 3 → r ≠ m + 4 → r ≠ m + 6 → r ≠ m + 7 → r ≠ m + 8 → r ≠ m + 9 → r ≠ m + 10 → My_19 r = M r := fun r q0 q1 q2 q3 q4 q5 q6 q7 q8 => (fry_19 r q2).trans (fr_17 r q0 q1 q2 q3 q4 q5 q6 q7 q8)
      refine WP.blk 2 ?_
      show WP 6 169 40 [vR m, vI (f 1), vI (f 6), vI 0, none, none, none] [] (My_19, S) Q
      have hl_40 : ∀ (n_40 : Nat) (i : Int) (M1 : Nat → Int → Int) (d1 : Int → Int), 0 ≤ i ∧ i ≤ 195 → d1 = rcp f 0 d0 0 i → M1 (m + 1) = f → M1 m = g_5 → M1 (m + 3) = ay_19 → M1 (m + 4) = d1 → M1 (m + 6) = g0 → M1 (m + 7) = c0 → M1 (m + 8) = t0 → M1 (m + 9) = h0 → M1 (m + 10) = b0 → (∀ r, r ≠ m → r ≠ m + 1 → r ≠ m + 3 → r ≠ m + 4 → r ≠ m + 6 → r ≠ m + 7 → r ≠ m + 8 → r ≠ m + 9 → r ≠ m + 10 → M1 r = M r) → (195 - i).toNat < n_40 → WP 6 169 40 [vR m, vI (f 1), vI (f 6), vI i, none, none, none] [] (M1, S) Q := by
        intro n_40
        induction n_40 with
        | zero => intro i M1 d1 i0 i1 z_40_0 z_40_1 z_40_2 z_40_3 z_40_4 z_40_5 z_40_6 z_40_7 z_40_8 fr_40 hm_40; exact absurd hm_40 (Nat.not_lt_zero _)
        | succ n_40 ih_40 =>
          intro i M1 d1 i0 i1 z_40_0 z_40_1 z_40_2 z_40_3 z_40_4 z_40_5 z_40_6 z_40_7 z_40_8 fr_40 hm_40
          refine WP.blk 3 ?_
          show WP 6 169 (if cnd .ge i 195 = true then 65 else 47) [vR m, vI (f 1), vI (f 6), vI i, none, none, none] [] (M1, S) Q
          refine br_ge (fun c_30 => ?_) (fun c_30 => ?_)
          · refine WP.blk 4 ?_
            show WP 6 169 69 [vR m, vI (f 1), vI (f 6), vI 0, none, none, none] [vI 0, vR m] (M1, S) Q
            refine WP.cl (a := [vR m, vI 0]) (rest := []) rfl rfl rfl rfl ⟨hS.1.1, trivial⟩ (by decide) (r_lays hS z_40_0 z_40_6 z_40_7 (by omega) (fun My_31 fry_31 hty_31 hhy_31 => ⟨rfl, ?_⟩))
            show WP 6 169 72 [vR m, vI (f 1), vI (f 6), vI 0, none, none, none] [] (My_31, S) Q
            obtain ⟨ty_31, zty_31⟩ : ∃ y9, My_31 (m + 8) = y9 := ⟨_, rfl⟩
            rw [zty_31] at hty_31
            obtain ⟨hy_31, zhy_31⟩ : ∃ y9, My_31 (m + 9) = y9 := ⟨_, rfl⟩
            rw [zhy_31] at hhy_31
            have r_32 : My_31 (m + 1) = f := (fry_31 _ (by omega) (by omega)).trans z_40_0
            have r_33 : My_31 m = g_5 := (fry_31 _ (by omega) (by omega)).trans z_40_1
            have r_34 : My_31 (m + 3) = ay_19 := (fry_31 _ (by omega) (by omega)).trans z_40_2
            have r_35 : My_31 (m + 4) = d1 := (fry_31 _ (by omega) (by omega)).trans z_40_3
            have r_36 : My_31 (m + 6) = g0 := (fry_31 _ (by omega) (by omega)).trans z_40_4
            have r_37 : My_31 (m + 7) = c0 := (fry_31 _ (by omega) (by omega)).trans z_40_5
            have r_40 : My_31 (m + 10) = b0 := (fry_31 _ (by omega) (by omega)).trans z_40_8
            have fr_41 : ∀ r, r ≠ m → r ≠ m + 1 → r ≠ m + 3 → r ≠ m + 4 → r ≠ m + 6 → r ≠ m + 7 → r ≠ m + 8 → r ≠ m + 9 → r ≠ m + 10 → My_31 r = M r := fun r q0 q1 q2 q3 q4 q5 q6 q7 q8 => (fry_31 r q6 q7).trans (fr_40 r q0 q1 q2 q3 q4 q5 q6 q7 q8)
            have hl_72 : ∀ (n_72 : Nat) (p : Int) (v4_72 : V) (v5_72 : V) (v6_72 : V) (M2 : Nat → Int → Int) (o1 : Int → Int) (g : Int → Int) (g1 : Int → Int) (c1 : Int → Int) (t1 : Int → Int) (h1 : Int → Int) (b1 : Int → Int), OSt f t1 h1 b1 (o1 15) p → (∀ k, ¬ (0 ≤ k ∧ k < 195) → g k = f k) → o1 4 = o 4 ∧ o1 5 = o 5 ∧ o1 7 = o 7 → M2 (m + 1) = g → M2 m = o1 → M2 (m + 3) = ay_19 → M2 (m + 4) = d1 → M2 (m + 6) = g1 → M2 (m + 7) = c1 → M2 (m + 8) = t1 → M2 (m + 9) = h1 → M2 (m + 10) = b1 → (∀ r, r ≠ m → r ≠ m + 1 → r ≠ m + 3 → r ≠ m + 4 → r ≠ m + 6 → r ≠ m + 7 → r ≠ m + 8 → r ≠ m + 9 → r ≠ m + 10 → M2 r = M r) → ms (f 1) t1 p < n_72 → WP 6 169 72 [vR m, vI (f 1), vI (f 6), vI p, v4_72, v5_72, v6_72] [] (M2, S) Q := by
              intro n_72
              induction n_72 with
              | zero => intro p v4_72 v5_72 v6_72 M2 o1 g g1 c1 t1 h1 b1 hO hgo hko z_72_0 z_72_1 z_72_2 z_72_3 z_72_4 z_72_5 z_72_6 z_72_7 z_72_8 fr_72 hm_72; exact absurd hm_72 (Nat.not_lt_zero _)
              | succ n_72 ih_72 =>
                intro p v4_72 v5_72 v6_72 M2 o1 g g1 c1 t1 h1 b1 hO hgo hko z_72_0 z_72_1 z_72_2 z_72_3 z_72_4 z_72_5 z_72_6 z_72_7 z_72_8 fr_72 hm_72
                have hb9 : -1 ≤ p ∧ p < f 1 := by rcases hO with h | h <;> omega
                refine WP.blk 2 ?_
                show WP 6 169 (if cnd .lt p 0 = true then 249 else 76) [vR m, vI (f 1), vI (f 6), vI p, v4_72, v5_72, v6_72] [] (M2, S) Q
                refine br_lt (fun c_42 => ?_) (fun c_42 => ?_)
                · refine WP.blk 2 ?_
                  show WP 6 169 252 [vR m, vI (f 1), vI (f 6), vI p, vI 0, v5_72, v6_72] [] (M2, S) Q
                  have hl_252 : ∀ (n_252 : Nat) (z : Int) (M4 : Nat → Int → Int) (g4 : Int → Int), 0 ≤ z ∧ z ≤ 195 → g4 = rcp d1 0 g 0 z → M4 (m + 1) = g4 → M4 m = o1 → M4 (m + 3) = ay_19 → M4 (m + 4) = d1 → M4 (m + 6) = g1 → M4 (m + 7) = c1 → M4 (m + 8) = t1 → M4 (m + 9) = h1 → M4 (m + 10) = b1 → (∀ r, r ≠ m → r ≠ m + 1 → r ≠ m + 3 → r ≠ m + 4 → r ≠ m + 6 → r ≠ m + 7 → r ≠ m + 8 → r ≠ m + 9 → r ≠ m + 10 → M4 r = M r) → (195 - z).toNat < n_252 → WP 6 169 252 [vR m, vI (f 1), vI (f 6), vI p, vI z, v5_72, v6_72] [] (M4, S) Q := by
                    intro n_252
                    induction n_252 with
                    | zero => intro z M4 g4 i2 i3 z_252_0 z_252_1 z_252_2 z_252_3 z_252_4 z_252_5 z_252_6 z_252_7 z_252_8 fr_252 hm_252; exact absurd hm_252 (Nat.not_lt_zero _)
                    | succ n_252 ih_252 =>
                      intro z M4 g4 i2 i3 z_252_0 z_252_1 z_252_2 z_252_3 z_252_4 z_252_5 z_252_6 z_252_7 z_252_8 fr_252 hm_252
                      refine WP.blk 3 ?_
                      show WP 6 169 (if cnd .ge z 195 = true then 280 else 260) [vR m, vI (f 1), vI (f 6), vI p, vI z, v5_72, v6_72] [] (M4, S) Q
                      refine br_ge (fun c_43 => ?_) (fun c_43 => ?_)
                      · refine WP.blk 4 ?_
                        show sT S m = 10 ∧ WP 6 169 (if cnd .eq (M4 m 15) (-1) = true then 292 else 288) [vR m, vI (f 1), vI (f 6), vI p, vI z, v5_72, v6_72] [] (M4, S) Q
                        rw [z_252_1]
                        refine ⟨hS.1.1, ?_⟩
                        refine br_eq (fun c_44 => ?_) (fun c_44 => ?_)
                        · refine WP.blk 1 ?_
                          show WP 6 169 293 [vR m, vI (f 1), vI (f 6), vI p, vI z, v5_72, v6_72] [vI 0] (M4, S) Q
                          exact WP.ret rfl rfl rfl ⟨by omega, trivial⟩ (k _ _ fr_252 (z_252_0.trans (by rw [i3, show z = 195 by omega, i1, show i = 195 by omega]; exact rcp_back hgo)) _ _ z_252_1 z_252_8 (by omega) (by omega) (by omega) (by rcases hO with h | h; exact StO_e (by omega) h.2; omega) (by omega))
                        · refine WP.blk 2 ?_
                          show WP 6 169 293 [vR m, vI (f 1), vI (f 6), vI p, vI z, v5_72, v6_72] [vI 1] (M4, S) Q
                          exact WP.ret rfl rfl rfl ⟨by omega, trivial⟩ (k _ _ fr_252 (z_252_0.trans (by rw [i3, show z = 195 by omega, i1, show i = 195 by omega]; exact rcp_back hgo)) _ _ z_252_1 z_252_8 (by omega) (by omega) (by omega) (by rcases hO with h | h; exact StO_e (by omega) h.2; omega) (by omega))
                      · refine WP.blk 2 ?_
                        show (sT S m = 10 ∧ sR S m 0 ≠ 0) ∧ WP 6 169 264 [vR m, vI (f 1), vI (f 6), vI p, vI z, v5_72, v6_72] [vR (sR S m 0)] (M4, S) Q
                        refine ⟨⟨hS.1.1, by rw [hS.1.2.1]; omega⟩, ?_⟩
                        rw [hS.1.2.1]
                        refine WP.blk 3 ?_
                        show (sT S m = 10 ∧ sR S m 3 ≠ 0) ∧ WP 6 169 270 [vR m, vI (f 1), vI (f 6), vI p, vI z, v5_72, v6_72] [vR (sR S m 3), vI z, vR (m + 1)] (M4, S) Q
                        refine ⟨⟨hS.1.1, by rw [hS.1.2.2.2.2.1]; omega⟩, ?_⟩
                        rw [hS.1.2.2.2.2.1]
                        refine WP.blk 3 ?_
                        show ((sT S (m + 4) = 11 ∨ sT S (m + 4) = 16 ∨ sT S (m + 4) = 17) ∧ 0 ≤ z ∧ z < (sN S (m + 4) : Int)) ∧ (sT S (m + 1) = 11 ∧ 0 ≤ z ∧ z < (sN S (m + 1) : Int)) ∧ WP 6 169 274 [vR m, vI (f 1), vI (f 6), vI p, vI z, v5_72, v6_72] [] (up M4 (m + 1) z (M4 (m + 4) z), S) Q
                        rw [z_252_3]
                        refine ⟨⟨Or.inl hS.2.1.2.2.2.1, by omega, by rw [hS.2.2.2.2.2.1]; omega⟩, ⟨hS.2.1.1, by omega, by rw [hS.2.2.1]; omega⟩, ?_⟩
                        generalize hM_45 : up M4 (m + 1) z (d1 z) = M_45
                        obtain ⟨g_47, hg_47⟩ : ∃ y9, y9 = uf g4 z (d1 z) := ⟨_, rfl⟩
                        have r_46 : M_45 (m + 1) = g_47 := by rw [← hM_45, hg_47, up_self, z_252_0]
                        have r_48 : M_45 m = o1 := by rw [← hM_45]; exact (up_row (by omega)).trans z_252_1
                        have r_49 : M_45 (m + 3) = ay_19 := by rw [← hM_45]; exact (up_row (by omega)).trans z_252_2
                        have r_50 : M_45 (m + 4) = d1 := by rw [← hM_45]; exact (up_row (by omega)).trans z_252_3
                        have r_51 : M_45 (m + 6) = g1 := by rw [← hM_45]; exact (up_row (by omega)).trans z_252_4
                        have r_52 : M_45 (m + 7) = c1 := by rw [← hM_45]; exact (up_row (by omega)).trans z_252_5
                        have r_53 : M_45 (m + 8) = t1 := by rw [← hM_45]; exact (up_row (by omega)).trans z_252_6
                        have r_54 : M_45 (m + 9) = h1 := by rw [← hM_45]; exact (up_row (by omega)).trans z_252_7
                        have r_55 : M_45 (m + 10) = b1 := by rw [← hM_45]; exact (up_row (by omega)).trans z_252_8
                        have fr_56 : ∀ r, r ≠ m → r ≠ m + 1 → r ≠ m + 3 → r ≠ m + 4 → r ≠ m + 6 → r ≠ m + 7 → r ≠ m + 8 → r ≠ m + 9 → r ≠ m + 10 → M_45 r = M r := fun r q0 q1 q2 q3 q4 q5 q6 q7 q8 => by rw [← hM_45]; exact (up_row q1).trans (fr_252 r q0 q1 q2 q3 q4 q5 q6 q7 q8)
                        refine WP.blk 2 ?_
                        show ir (z + 1) ∧ WP 6 169 252 [vR m, vI (f 1), vI (f 6), vI p, vI (z + 1), v5_72, v6_72] [] (M_45, S) Q
                        refine ⟨(by unfold ir; omega), ?_⟩
                        exact ih_252 (z + 1) M_45 g_47 (by omega) (by rw [hg_47, i3]; exact rcp_s i2.1 (by omega) (by congr 1; omega)) r_46 r_48 r_49 r_50 r_51 r_52 r_53 r_54 r_55 fr_56 (by omega)
                  exact hl_252 _ 0 M2 g (by omega) rcp_0.symm z_72_0 z_72_1 z_72_2 z_72_3 z_72_4 z_72_5 z_72_6 z_72_7 z_72_8 fr_72 (Nat.lt_succ_self _)
                · have hO2 := hO.resolve_left (fun h9 => by omega)
                  have hO3 := hO2.1
                  have hO4 := hO2.2.1
                  refine WP.blk 2 ?_
                  show (sT S m = 10 ∧ sR S m 12 ≠ 0) ∧ WP 6 169 80 [vR m, vI (f 1), vI (f 6), vI p, v4_72, v5_72, v6_72] [vR (sR S m 12)] (M2, S) Q
                  refine ⟨⟨hS.1.1, by rw [hS.1.2.2.2.2.2.2.2.2.1]; omega⟩, ?_⟩
                  rw [hS.1.2.2.2.2.2.2.2.2.1]
                  refine WP.blk 6 ?_
                  show ((sT S (m + 8) = 11 ∨ sT S (m + 8) = 16 ∨ sT S (m + 8) = 17) ∧ 0 ≤ p ∧ p < (sN S (m + 8) : Int)) ∧ ir ((M2 (m + 8) p) + 1) ∧ (sT S (m + 8) = 11 ∧ 0 ≤ p ∧ p < (sN S (m + 8) : Int)) ∧ WP 6 169 86 [vR m, vI (f 1), vI (f 6), vI p, v4_72, v5_72, v6_72] [] (up M2 (m + 8) p ((M2 (m + 8) p) + 1), S) Q
                  rw [z_72_6]
                  refine ⟨⟨Or.inl hS.2.1.2.2.2.2.2.2.2.1, by omega, by rw [hS.2.2.2.2.2.2.2.2.2.1]; omega⟩, (by unfold ir; omega), ⟨hS.2.1.2.2.2.2.2.2.2.1, by omega, by rw [hS.2.2.2.2.2.2.2.2.2.1]; omega⟩, ?_⟩
                  generalize hM_57 : up M2 (m + 8) p ((t1 p) + 1) = M_57
                  have r_58 : M_57 (m + 1) = g := by rw [← hM_57]; exact (up_row (by omega)).trans z_72_0
                  have r_59 : M_57 m = o1 := by rw [← hM_57]; exact (up_row (by omega)).trans z_72_1
                  have r_60 : M_57 (m + 3) = ay_19 := by rw [← hM_57]; exact (up_row (by omega)).trans z_72_2
                  have r_61 : M_57 (m + 4) = d1 := by rw [← hM_57]; exact (up_row (by omega)).trans z_72_3
                  have r_62 : M_57 (m + 6) = g1 := by rw [← hM_57]; exact (up_row (by omega)).trans z_72_4
                  have r_63 : M_57 (m + 7) = c1 := by rw [← hM_57]; exact (up_row (by omega)).trans z_72_5
                  obtain ⟨g_65, hg_65⟩ : ∃ y9, y9 = uf t1 p ((t1 p) + 1) := ⟨_, rfl⟩
                  have r_64 : M_57 (m + 8) = g_65 := by rw [← hM_57, hg_65, up_self, z_72_6]
                  have r_66 : M_57 (m + 9) = h1 := by rw [← hM_57]; exact (up_row (by omega)).trans z_72_7
                  have r_67 : M_57 (m + 10) = b1 := by rw [← hM_57]; exact (up_row (by omega)).trans z_72_8
                  have fr_68 : ∀ r, r ≠ m → r ≠ m + 1 → r ≠ m + 3 → r ≠ m + 4 → r ≠ m + 6 → r ≠ m + 7 → r ≠ m + 8 → r ≠ m + 9 → r ≠ m + 10 → M_57 r = M r := fun r q0 q1 q2 q3 q4 q5 q6 q7 q8 => by rw [← hM_57]; exact (up_row q6).trans (fr_72 r q0 q1 q2 q3 q4 q5 q6 q7 q8)
                  have hU := ost_up hO (by omega) hg_65
                  have hU2 := hU.2.1
                  have hTT := hg_65
                  refine WP.blk 2 ?_
                  show WP 6 169 88 [vR m, vI (f 1), vI (f 6), vI p, v4_72, v5_72, v6_72] [vI p, vR m] (M_57, S) Q
                  refine WP.cl (a := [vR m, vI p]) (rest := []) rfl rfl rfl rfl ⟨hS.1.1, trivial⟩ (by decide) (r_picks hS r_58 r_64 r_66 (by omega) (fun My_69 fry_69 hMy_69 => ⟨rfl, ?_⟩))
                  show WP 6 169 91 [vR m, vI (f 1), vI (f 6), vI p, v4_72, v5_72, v6_72] [] (My_69, S) Q
                  obtain ⟨qy_69, hqy_69⟩ : ∃ y9, My_69 (m + 1) = y9 := ⟨_, rfl⟩
                  rw [hqy_69] at hMy_69
                  have r_71 : My_69 m = o1 := (fry_69 _ (by omega)).trans r_59
                  have r_72 : My_69 (m + 3) = ay_19 := (fry_69 _ (by omega)).trans r_60
                  have r_73 : My_69 (m + 4) = d1 := (fry_69 _ (by omega)).trans r_61
                  have r_74 : My_69 (m + 6) = g1 := (fry_69 _ (by omega)).trans r_62
                  have r_75 : My_69 (m + 7) = c1 := (fry_69 _ (by omega)).trans r_63
                  have r_76 : My_69 (m + 8) = g_65 := (fry_69 _ (by omega)).trans r_64
                  have r_77 : My_69 (m + 9) = h1 := (fry_69 _ (by omega)).trans r_66
                  have r_78 : My_69 (m + 10) = b1 := (fry_69 _ (by omega)).trans r_67
                  have fr_79 : ∀ r, r ≠ m → r ≠ m + 1 → r ≠ m + 3 → r ≠ m + 4 → r ≠ m + 6 → r ≠ m + 7 → r ≠ m + 8 → r ≠ m + 9 → r ≠ m + 10 → My_69 r = M r := fun r q0 q1 q2 q3 q4 q5 q6 q7 q8 => (fry_69 r q1).trans (fr_68 r q0 q1 q2 q3 q4 q5 q6 q7 q8)
                  have hQ : qy_69 = sq f g_65 p := hMy_69.trans (osu_row hR hB.1 hU hgo)
                  have hqr := sq_row hR hB.1 (ord_rng hU.2.2.1.1) p (by omega) (Int.le_refl _)
                  rw [← hQ] at hqr
                  obtain ⟨⟨hAg, hWg, hIg⟩, hio, hqo⟩ := hqr
                  have hA1g := hAg.1
                  have hi1 := hio.2.1
                  have hi0 := hio.1
                  have hcol := fun (h : 0 ≤ g_65 p ∧ g_65 p < qy_69 1) => (hWg.2 (g_65 p) h.1 h.2).2
                  have hWr : ∀ s, 0 ≤ s → s < qy_69 0 → 0 ≤ qy_69 (7 + 9 * s + 8) ∧ qy_69 (7 + 9 * s + 8) ≤ 1000000000 := fun s a b => ⟨(hIg.1 s a b).2.2.1, by have := (hIg.1 s a b).2.2.2; omega⟩
                  refine WP.blk 2 ?_
                  show (sT S m = 10 ∧ sR S m 12 ≠ 0) ∧ WP 6 169 95 [vR m, vI (f 1), vI (f 6), vI p, v4_72, v5_72, v6_72] [vR (sR S m 12)] (My_69, S) Q
                  refine ⟨⟨hS.1.1, by rw [hS.1.2.2.2.2.2.2.2.2.1]; omega⟩, ?_⟩
                  rw [hS.1.2.2.2.2.2.2.2.2.1]
                  refine WP.blk 4 ?_
                  show ((sT S (m + 8) = 11 ∨ sT S (m + 8) = 16 ∨ sT S (m + 8) = 17) ∧ 0 ≤ p ∧ p < (sN S (m + 8) : Int)) ∧ WP 6 169 (if cnd .ne (My_69 (m + 8) p) (f 1) = true then 107 else 101) [vR m, vI (f 1), vI (f 6), vI p, v4_72, v5_72, v6_72] [] (My_69, S) Q
                  rw [r_76]
                  refine ⟨⟨Or.inl hS.2.1.2.2.2.2.2.2.2.1, by omega, by rw [hS.2.2.2.2.2.2.2.2.2.1]; omega⟩, ?_⟩
                  refine br_ne (fun c_80 => ?_) (fun c_80 => ?_)
                  · refine WP.blk 2 ?_
                    show WP 6 169 109 [vR m, vI (f 1), vI (f 6), vI p, v4_72, v5_72, v6_72] [vI p, vR m] (My_69, S) Q
                    refine WP.cl (a := [vR m, vI p]) (rest := []) rfl rfl rfl rfl ⟨hS.1.1, trivial⟩ (by decide) (r_isUsed hS hqy_69 r_76 r_77 (by omega) (fun u_81 hu_81 => ⟨rfl, ?_⟩))
                    show WP 6 169 112 [vR m, vI (f 1), vI (f 6), vI p, v4_72, v5_72, v6_72] [vI u_81] (My_69, S) Q
                    refine WP.blk 1 ?_
                    show WP 6 169 (if cnd .ne u_81 0 = true then 72 else 115) [vR m, vI (f 1), vI (f 6), vI p, v4_72, v5_72, v6_72] [] (My_69, S) Q
                    refine br_ne (fun c_82 => ?_) (fun c_82 => ?_)
                    · have hus := (hu_81.resolve_left (fun h9 => by omega)).2
                      exact ih_72 p (v4_72) (v5_72) (v6_72) My_69 o1 qy_69 g1 c1 g_65 h1 b1 (osu_used hU (by omega) hus) (fun k hk => hqo k hk) (by omega) hqy_69 r_71 r_72 r_73 r_74 r_75 r_76 r_77 r_78 fr_79 (Nat.lt_of_lt_of_le (ms_lt (by omega) hTT (by omega)) (Nat.le_of_lt_succ hm_72))
                    · have hnu := (hu_81.resolve_right (fun h9 => by omega)).2
                      refine WP.blk 3 ?_
                      show (sT S m = 10 ∧ sR S m 12 ≠ 0) ∧ WP 6 169 120 [vR m, vI (f 1), vI (f 6), vI p, v4_72, v5_72, v6_72] [vR (sR S m 12), vR m] (My_69, S) Q
                      refine ⟨⟨hS.1.1, by rw [hS.1.2.2.2.2.2.2.2.2.1]; omega⟩, ?_⟩
                      rw [hS.1.2.2.2.2.2.2.2.2.1]
                      refine WP.blk 2 ?_
                      show ((sT S (m + 8) = 11 ∨ sT S (m + 8) = 16 ∨ sT S (m + 8) = 17) ∧ 0 ≤ p ∧ p < (sN S (m + 8) : Int)) ∧ WP 6 169 122 [vR m, vI (f 1), vI (f 6), vI p, v4_72, v5_72, v6_72] [vI (My_69 (m + 8) p), vR m] (My_69, S) Q
                      rw [r_76]
                      refine ⟨⟨Or.inl hS.2.1.2.2.2.2.2.2.2.1, by omega, by rw [hS.2.2.2.2.2.2.2.2.2.1]; omega⟩, ?_⟩
                      refine WP.cl (a := [vR m, vI (g_65 p)]) (rest := []) rfl rfl rfl rfl ⟨hS.1.1, trivial⟩ (by decide) (r_canWrite hS hqy_69 hAg (hWg.2 (g_65 p) (by omega) (by omega)).1 hWr (fun b_83 Mc83 fr83 o83 c83 ho83 hc83 hk83 hb_83 => ⟨rfl, ?_⟩))
                      show WP 6 169 125 [vR m, vI (f 1), vI (f 6), vI p, v4_72, v5_72, v6_72] [vI b_83] (Mc83, S) Q
                      have r_84 : Mc83 (m + 1) = qy_69 := (fr83 _ (by omega) (by omega) (by omega)).trans hqy_69
                      have r_86 : Mc83 (m + 3) = ay_19 := (fr83 _ (by omega) (by omega) (by omega)).trans r_72
                      have r_87 : Mc83 (m + 4) = d1 := (fr83 _ (by omega) (by omega) (by omega)).trans r_73
                      obtain ⟨g_89, r_88⟩ : ∃ y9, Mc83 (m + 6) = y9 := ⟨_, rfl⟩
                      have r_91 : Mc83 (m + 8) = g_65 := (fr83 _ (by omega) (by omega) (by omega)).trans r_76
                      have r_92 : Mc83 (m + 9) = h1 := (fr83 _ (by omega) (by omega) (by omega)).trans r_77
                      have r_93 : Mc83 (m + 10) = b1 := (fr83 _ (by omega) (by omega) (by omega)).trans r_78
                      have fr_94 : ∀ r, r ≠ m → r ≠ m + 1 → r ≠ m + 3 → r ≠ m + 4 → r ≠ m + 6 → r ≠ m + 7 → r ≠ m + 8 → r ≠ m + 9 → r ≠ m + 10 → Mc83 r = M r := fun r q0 q1 q2 q3 q4 q5 q6 q7 q8 => (fr83 r q0 q4 q5).trans (fr_79 r q0 q1 q2 q3 q4 q5 q6 q7 q8)
                      have t483 := (hk83 4 (by omega)).trans (congrFun r_71 4)
                      have t583 := (hk83 5 (by omega)).trans (congrFun r_71 5)
                      have t783 := (hk83 7 (by omega)).trans (congrFun r_71 7)
                      have t1583 := (hk83 15 (by omega)).trans (congrFun r_71 15)
                      refine WP.blk 1 ?_
                      show WP 6 169 (if cnd .eq b_83 0 = true then 72 else 128) [vR m, vI (f 1), vI (f 6), vI p, v4_72, v5_72, v6_72] [] (Mc83, S) Q
                      refine br_eq (fun c_95 => ?_) (fun c_95 => ?_)
                      · have p_83 := (hb_83.resolve_left (fun h => by omega)).2
                        exact ih_72 p (v4_72) (v5_72) (v6_72) Mc83 o83 qy_69 g_89 c83 g_65 h1 b1 (by rw [show o83 15 = o1 15 by omega]; exact osu_cant hU (by omega) (by rw [← hQ]; exact can_n p_83)) (fun k hk => hqo k hk) (by omega) r_84 ho83 r_86 r_87 r_88 hc83 r_91 r_92 r_93 fr_94 (Nat.lt_of_lt_of_le (ms_lt (by omega) hTT (by omega)) (Nat.le_of_lt_succ hm_72))
                      · have p_83 := (hb_83.resolve_right (fun h => by omega)).2
                        have hpl := wrt_pl hAg (hWg.2 (g_65 p) (by omega) (by omega)).1 p_83
                        refine WP.blk 3 ?_
                        show (sT S m = 10 ∧ sR S m 0 ≠ 0) ∧ WP 6 169 133 [vR m, vI (f 1), vI (f 6), vI p, v4_72, v5_72, v6_72] [vR (sR S m 0), vR m] (Mc83, S) Q
                        refine ⟨⟨hS.1.1, by rw [hS.1.2.1]; omega⟩, ?_⟩
                        rw [hS.1.2.1]
                        refine WP.blk 2 ?_
                        show (sT S m = 10 ∧ sR S m 12 ≠ 0) ∧ WP 6 169 137 [vR m, vI (f 1), vI (f 6), vI p, v4_72, v5_72, v6_72] [vR (sR S m 12), vR (m + 1), vR m] (Mc83, S) Q
                        refine ⟨⟨hS.1.1, by rw [hS.1.2.2.2.2.2.2.2.2.1]; omega⟩, ?_⟩
                        rw [hS.1.2.2.2.2.2.2.2.2.1]
                        refine WP.blk 2 ?_
                        show ((sT S (m + 8) = 11 ∨ sT S (m + 8) = 16 ∨ sT S (m + 8) = 17) ∧ 0 ≤ p ∧ p < (sN S (m + 8) : Int)) ∧ WP 6 169 139 [vR m, vI (f 1), vI (f 6), vI p, v4_72, v5_72, v6_72] [vI (Mc83 (m + 8) p), vR (m + 1), vR m] (Mc83, S) Q
                        rw [r_91]
                        refine ⟨⟨Or.inl hS.2.1.2.2.2.2.2.2.2.1, by omega, by rw [hS.2.2.2.2.2.2.2.2.2.1]; omega⟩, ?_⟩
                        refine WP.cl (a := [vI (g_65 p)]) (rest := [vR (m + 1), vR m]) rfl rfl rfl rfl trivial (by decide) (q_wordAt (by omega) ⟨rfl, ?_⟩)
                        show WP 6 169 142 [vR m, vI (f 1), vI (f 6), vI p, v4_72, v5_72, v6_72] [vI (97 + 14 * (g_65 p)), vR (m + 1), vR m] (Mc83, S) Q
                        refine WP.blk 3 ?_
                        show ir ((97 + 14 * (g_65 p)) + 1) ∧ ((sT S (m + 1) = 11 ∨ sT S (m + 1) = 16 ∨ sT S (m + 1) = 17) ∧ 0 ≤ ((97 + 14 * (g_65 p)) + 1) ∧ ((97 + 14 * (g_65 p)) + 1) < (sN S (m + 1) : Int)) ∧ WP 6 169 145 [vR m, vI (f 1), vI (f 6), vI p, v4_72, v5_72, v6_72] [vI (Mc83 (m + 1) ((97 + 14 * (g_65 p)) + 1)), vR m] (Mc83, S) Q
                        rw [r_84]
                        refine ⟨(by unfold ir; omega), ⟨Or.inl hS.2.1.1, by omega, by rw [hS.2.2.1]; omega⟩, ?_⟩
                        refine WP.cl (a := [vR m, vI (qy_69 ((97 + 14 * (g_65 p)) + 1))]) (rest := []) rfl rfl rfl rfl ⟨hS.1.1, trivial⟩ (by decide) (r_carries hS r_84 ho83 hc83 (by omega) hA1g (fun i a b => hpl.2 i a (by omega)) hIg (by omega) (by omega) (fun My_96 fry_96 hMy_96 => ⟨rfl, ?_⟩))
                        show WP 6 169 148 [vR m, vI (f 1), vI (f 6), vI p, v4_72, v5_72, v6_72] [] (My_96, S) Q
                        obtain ⟨gy_96, hgy_96⟩ : ∃ y9, My_96 (m + 1) = y9 := ⟨_, rfl⟩
                        rw [hgy_96] at hMy_96
                        have r_98 : My_96 m = o83 := (fry_96 _ (by omega)).trans ho83
                        have r_99 : My_96 (m + 3) = ay_19 := (fry_96 _ (by omega)).trans r_86
                        have r_100 : My_96 (m + 4) = d1 := (fry_96 _ (by omega)).trans r_87
                        have r_101 : My_96 (m + 6) = g_89 := (fry_96 _ (by omega)).trans r_88
                        have r_102 : My_96 (m + 7) = c83 := (fry_96 _ (by omega)).trans hc83
                        have r_103 : My_96 (m + 8) = g_65 := (fry_96 _ (by omega)).trans r_91
                        have r_104 : My_96 (m + 9) = h1 := (fry_96 _ (by omega)).trans r_92
                        have r_105 : My_96 (m + 10) = b1 := (fry_96 _ (by omega)).trans r_93
                        have fr_106 : ∀ r, r ≠ m → r ≠ m + 1 → r ≠ m + 3 → r ≠ m + 4 → r ≠ m + 6 → r ≠ m + 7 → r ≠ m + 8 → r ≠ m + 9 → r ≠ m + 10 → My_96 r = M r := fun r q0 q1 q2 q3 q4 q5 q6 q7 q8 => (fry_96 r q1).trans (fr_94 r q0 q1 q2 q3 q4 q5 q6 q7 q8)
                        have hW : gy_96 = sq f g_65 (p + 1) := by rw [hMy_96, sq_s (by omega), ← hQ, wrote_t hAg (hWg.2 (g_65 p) (by omega) (by omega)).1 p_83]
                        have hOrd := osu_ord hU (by omega) hnu (by rw [← hQ]; exact can_i p_83)
                        have hq2 := sq_row hR hB.1 (ord_rng hOrd) (p + 1) (by omega) (Int.le_refl _)
                        rw [← hW] at hq2
                        have hq3 := hq2.2.2
                        have hq4 := hq2.1.2.2.2.2.2.2.2
                        refine WP.blk 2 ?_
                        show (sT S m = 10 ∧ sR S m 0 ≠ 0) ∧ WP 6 169 152 [vR m, vI (f 1), vI (f 6), vI p, v4_72, v5_72, v6_72] [vR (sR S m 0)] (My_96, S) Q
                        refine ⟨⟨hS.1.1, by rw [hS.1.2.1]; omega⟩, ?_⟩
                        rw [hS.1.2.1]
                        refine WP.blk 9 ?_
                        show ((sT S (m + 1) = 11 ∨ sT S (m + 1) = 16 ∨ sT S (m + 1) = 17) ∧ 0 ≤ 6 ∧ 6 < (sN S (m + 1) : Int)) ∧ ir ((My_96 (m + 1) 6) - (f 6)) ∧ sT S m = 10 ∧ WP 6 169 (if cnd .eq (My_96 m 15) (-1) = true then 176 else 167) [vR m, vI (f 1), vI (f 6), vI p, vI ((My_96 (m + 1) 6) - (f 6)), v5_72, v6_72] [] (My_96, S) Q
                        rw [hgy_96]
                        rw [r_98]
                        refine ⟨⟨Or.inl hS.2.1.1, by omega, by rw [hS.2.2.1]; omega⟩, (by unfold ir; omega), hS.1.1, ?_⟩
                        refine br_eq (fun c_107 => ?_) (fun c_107 => ?_)
                        · refine WP.blk 10 ?_
                          show ir ((f 1) - 1) ∧ WP 6 169 (if cnd .ne p ((f 1) - 1) = true then 233 else 195) [vR m, vI (f 1), vI (f 6), vI p, vI ((gy_96 6) - (f 6)), vI 1, v6_72] [] (My_96, S) Q
                          refine ⟨(by unfold ir; omega), ?_⟩
                          refine br_ne (fun c_108 => ?_) (fun c_108 => ?_)
                          · refine WP.blk 5 ?_
                            show ir (p + 1) ∧ WP 6 169 243 [vR m, vI (f 1), vI (f 6), vI (p + 1), vI ((gy_96 6) - (f 6)), vI 1, v6_72] [vI (p + 1), vR m] (My_96, S) Q
                            refine ⟨(by unfold ir; omega), ?_⟩
                            refine WP.cl (a := [vR m, vI (p + 1)]) (rest := []) rfl rfl rfl rfl ⟨hS.1.1, trivial⟩ (by decide) (r_lays hS hgy_96 r_103 r_104 (by omega) (fun My_109 fry_109 hty_109 hhy_109 => ⟨rfl, ?_⟩))
                            show WP 6 169 246 [vR m, vI (f 1), vI (f 6), vI (p + 1), vI ((gy_96 6) - (f 6)), vI 1, v6_72] [] (My_109, S) Q
                            obtain ⟨ty_109, zty_109⟩ : ∃ y9, My_109 (m + 8) = y9 := ⟨_, rfl⟩
                            rw [zty_109] at hty_109
                            obtain ⟨hy_109, zhy_109⟩ : ∃ y9, My_109 (m + 9) = y9 := ⟨_, rfl⟩
                            rw [zhy_109] at hhy_109
                            have r_110 : My_109 (m + 1) = gy_96 := (fry_109 _ (by omega) (by omega)).trans hgy_96
                            have r_111 : My_109 m = o83 := (fry_109 _ (by omega) (by omega)).trans r_98
                            have r_112 : My_109 (m + 3) = ay_19 := (fry_109 _ (by omega) (by omega)).trans r_99
                            have r_113 : My_109 (m + 4) = d1 := (fry_109 _ (by omega) (by omega)).trans r_100
                            have r_114 : My_109 (m + 6) = g_89 := (fry_109 _ (by omega) (by omega)).trans r_101
                            have r_115 : My_109 (m + 7) = c83 := (fry_109 _ (by omega) (by omega)).trans r_102
                            have r_118 : My_109 (m + 10) = b1 := (fry_109 _ (by omega) (by omega)).trans r_105
                            have fr_119 : ∀ r, r ≠ m → r ≠ m + 1 → r ≠ m + 3 → r ≠ m + 4 → r ≠ m + 6 → r ≠ m + 7 → r ≠ m + 8 → r ≠ m + 9 → r ≠ m + 10 → My_109 r = M r := fun r q0 q1 q2 q3 q4 q5 q6 q7 q8 => (fry_109 r q6 q7).trans (fr_106 r q0 q1 q2 q3 q4 q5 q6 q7 q8)
                            refine WP.blk 1 ?_
                            show WP 6 169 72 [vR m, vI (f 1), vI (f 6), vI (p + 1), vI ((gy_96 6) - (f 6)), vI 1, v6_72] [] (My_109, S) Q
                            exact ih_72 (p + 1) (vI ((gy_96 6) - (f 6))) (vI 1) (v6_72) My_109 o83 gy_96 g_89 c83 ty_109 hy_109 b1 (by rw [show o83 15 = o1 15 by omega]; exact osu_push hU hOrd (by omega) rfl hty_109 (by rw [← hW]; exact hhy_109)) (fun k hk => hq3 k hk) (by omega) r_110 r_111 r_112 r_113 r_114 r_115 zty_109 zhy_109 r_118 fr_119 (Nat.lt_of_lt_of_le (ms_push (by omega) hTT (by omega) (by omega) rfl hty_109) (Nat.le_of_lt_succ hm_72))
                          · refine WP.blk 3 ?_
                            show sT S m = 10 ∧ WP 6 169 201 [vR m, vI (f 1), vI (f 6), vI p, vI ((gy_96 6) - (f 6)), vI 1, v6_72] [] (up My_96 m 15 ((gy_96 6) - (f 6)), S) Q
                            refine ⟨hS.1.1, ?_⟩
                            generalize hM_120 : up My_96 m 15 ((gy_96 6) - (f 6)) = M_120
                            have r_121 : M_120 (m + 1) = gy_96 := by rw [← hM_120]; exact (up_row (by omega)).trans hgy_96
                            obtain ⟨g_123, hg_123⟩ : ∃ y9, y9 = uf o83 15 ((gy_96 6) - (f 6)) := ⟨_, rfl⟩
                            have r_122 : M_120 m = g_123 := by rw [← hM_120, hg_123, up_self, r_98]
                            have t_124 : g_123 4 = o83 4 := by rw [hg_123]; exact uf_ne (by omega)
                            have t_125 : g_123 5 = o83 5 := by rw [hg_123]; exact uf_ne (by omega)
                            have t_126 : g_123 7 = o83 7 := by rw [hg_123]; exact uf_ne (by omega)
                            have t_127 : g_123 15 = (gy_96 6) - (f 6) := by rw [hg_123]; exact uf_at _ _ (by omega)
                            have r_128 : M_120 (m + 3) = ay_19 := by rw [← hM_120]; exact (up_row (by omega)).trans r_99
                            have r_129 : M_120 (m + 4) = d1 := by rw [← hM_120]; exact (up_row (by omega)).trans r_100
                            have r_130 : M_120 (m + 6) = g_89 := by rw [← hM_120]; exact (up_row (by omega)).trans r_101
                            have r_131 : M_120 (m + 7) = c83 := by rw [← hM_120]; exact (up_row (by omega)).trans r_102
                            have r_132 : M_120 (m + 8) = g_65 := by rw [← hM_120]; exact (up_row (by omega)).trans r_103
                            have r_133 : M_120 (m + 9) = h1 := by rw [← hM_120]; exact (up_row (by omega)).trans r_104
                            have r_134 : M_120 (m + 10) = b1 := by rw [← hM_120]; exact (up_row (by omega)).trans r_105
                            have fr_135 : ∀ r, r ≠ m → r ≠ m + 1 → r ≠ m + 3 → r ≠ m + 4 → r ≠ m + 6 → r ≠ m + 7 → r ≠ m + 8 → r ≠ m + 9 → r ≠ m + 10 → M_120 r = M r := fun r q0 q1 q2 q3 q4 q5 q6 q7 q8 => by rw [← hM_120]; exact (up_row q0).trans (fr_106 r q0 q1 q2 q3 q4 q5 q6 q7 q8)
                            refine WP.blk 2 ?_
                            show WP 6 169 204 [vR m, vI (f 1), vI (f 6), vI p, vI ((gy_96 6) - (f 6)), vI 1, vI 0] [] (M_120, S) Q
                            have hl_204 : ∀ (n_204 : Nat) (q : Int) (M3 : Nat → Int → Int) (b2 : Int → Int), 0 ≤ q ∧ q ≤ f 1 → b2 = rcp g_65 0 b1 0 q → M3 (m + 1) = gy_96 → M3 m = g_123 → M3 (m + 3) = ay_19 → M3 (m + 4) = d1 → M3 (m + 6) = g_89 → M3 (m + 7) = c83 → M3 (m + 8) = g_65 → M3 (m + 9) = h1 → M3 (m + 10) = b2 → (∀ r, r ≠ m → r ≠ m + 1 → r ≠ m + 3 → r ≠ m + 4 → r ≠ m + 6 → r ≠ m + 7 → r ≠ m + 8 → r ≠ m + 9 → r ≠ m + 10 → M3 r = M r) → (f 1 - q).toNat < n_204 → WP 6 169 204 [vR m, vI (f 1), vI (f 6), vI p, vI ((gy_96 6) - (f 6)), vI 1, vI q] [] (M3, S) Q := by
                              intro n_204
                              induction n_204 with
                              | zero => intro q M3 b2 hb1 hb2 z_204_0 z_204_1 z_204_2 z_204_3 z_204_4 z_204_5 z_204_6 z_204_7 z_204_8 fr_204 hm_204; exact absurd hm_204 (Nat.not_lt_zero _)
                              | succ n_204 ih_204 =>
                                intro q M3 b2 hb1 hb2 z_204_0 z_204_1 z_204_2 z_204_3 z_204_4 z_204_5 z_204_6 z_204_7 z_204_8 fr_204 hm_204
                                refine WP.blk 3 ?_
                                show WP 6 169 (if cnd .ge q (f 1) = true then 230 else 210) [vR m, vI (f 1), vI (f 6), vI p, vI ((gy_96 6) - (f 6)), vI 1, vI q] [] (M3, S) Q
                                refine br_ge (fun c_136 => ?_) (fun c_136 => ?_)
                                · refine WP.blk 2 ?_
                                  show WP 6 169 72 [vR m, vI (f 1), vI (f 6), vI p, vI ((gy_96 6) - (f 6)), vI 1, vI q] [] (M3, S) Q
                                  exact ih_72 p (vI ((gy_96 6) - (f 6))) (vI 1) (vI q) M3 g_123 gy_96 g_89 c83 g_65 h1 b2 (osu_best hR hB.1 hU hOrd (by omega) (fun i a b => by rw [hb2, rcp_in (by omega)]; congr 1; omega) (by rw [← hW]; omega) (by omega)) (fun k hk => hq3 k hk) (by omega) z_204_0 z_204_1 z_204_2 z_204_3 z_204_4 z_204_5 z_204_6 z_204_7 z_204_8 fr_204 (Nat.lt_of_lt_of_le (ms_lt (by omega) hTT (by omega)) (Nat.le_of_lt_succ hm_72))
                                · refine WP.blk 2 ?_
                                  show (sT S m = 10 ∧ sR S m 14 ≠ 0) ∧ WP 6 169 214 [vR m, vI (f 1), vI (f 6), vI p, vI ((gy_96 6) - (f 6)), vI 1, vI q] [vR (sR S m 14)] (M3, S) Q
                                  refine ⟨⟨hS.1.1, by rw [hS.1.2.2.2.2.2.2.2.2.2.2.1]; omega⟩, ?_⟩
                                  rw [hS.1.2.2.2.2.2.2.2.2.2.2.1]
                                  refine WP.blk 3 ?_
                                  show (sT S m = 10 ∧ sR S m 12 ≠ 0) ∧ WP 6 169 220 [vR m, vI (f 1), vI (f 6), vI p, vI ((gy_96 6) - (f 6)), vI 1, vI q] [vR (sR S m 12), vI q, vR (m + 10)] (M3, S) Q
                                  refine ⟨⟨hS.1.1, by rw [hS.1.2.2.2.2.2.2.2.2.1]; omega⟩, ?_⟩
                                  rw [hS.1.2.2.2.2.2.2.2.2.1]
                                  refine WP.blk 3 ?_
                                  show ((sT S (m + 8) = 11 ∨ sT S (m + 8) = 16 ∨ sT S (m + 8) = 17) ∧ 0 ≤ q ∧ q < (sN S (m + 8) : Int)) ∧ (sT S (m + 10) = 11 ∧ 0 ≤ q ∧ q < (sN S (m + 10) : Int)) ∧ WP 6 169 224 [vR m, vI (f 1), vI (f 6), vI p, vI ((gy_96 6) - (f 6)), vI 1, vI q] [] (up M3 (m + 10) q (M3 (m + 8) q), S) Q
                                  rw [z_204_6]
                                  refine ⟨⟨Or.inl hS.2.1.2.2.2.2.2.2.2.1, by omega, by rw [hS.2.2.2.2.2.2.2.2.2.1]; omega⟩, ⟨hS.2.1.2.2.2.2.2.2.2.2.2.1, by omega, by rw [hS.2.2.2.2.2.2.2.2.2.2.2.1]; omega⟩, ?_⟩
                                  generalize hM_137 : up M3 (m + 10) q (g_65 q) = M_137
                                  have r_138 : M_137 (m + 1) = gy_96 := by rw [← hM_137]; exact (up_row (by omega)).trans z_204_0
                                  have r_139 : M_137 m = g_123 := by rw [← hM_137]; exact (up_row (by omega)).trans z_204_1
                                  have r_140 : M_137 (m + 3) = ay_19 := by rw [← hM_137]; exact (up_row (by omega)).trans z_204_2
                                  have r_141 : M_137 (m + 4) = d1 := by rw [← hM_137]; exact (up_row (by omega)).trans z_204_3
                                  have r_142 : M_137 (m + 6) = g_89 := by rw [← hM_137]; exact (up_row (by omega)).trans z_204_4
                                  have r_143 : M_137 (m + 7) = c83 := by rw [← hM_137]; exact (up_row (by omega)).trans z_204_5
                                  have r_144 : M_137 (m + 8) = g_65 := by rw [← hM_137]; exact (up_row (by omega)).trans z_204_6
                                  have r_145 : M_137 (m + 9) = h1 := by rw [← hM_137]; exact (up_row (by omega)).trans z_204_7
                                  obtain ⟨g_147, hg_147⟩ : ∃ y9, y9 = uf b2 q (g_65 q) := ⟨_, rfl⟩
                                  have r_146 : M_137 (m + 10) = g_147 := by rw [← hM_137, hg_147, up_self, z_204_8]
                                  have fr_148 : ∀ r, r ≠ m → r ≠ m + 1 → r ≠ m + 3 → r ≠ m + 4 → r ≠ m + 6 → r ≠ m + 7 → r ≠ m + 8 → r ≠ m + 9 → r ≠ m + 10 → M_137 r = M r := fun r q0 q1 q2 q3 q4 q5 q6 q7 q8 => by rw [← hM_137]; exact (up_row q8).trans (fr_204 r q0 q1 q2 q3 q4 q5 q6 q7 q8)
                                  refine WP.blk 2 ?_
                                  show ir (q + 1) ∧ WP 6 169 204 [vR m, vI (f 1), vI (f 6), vI p, vI ((gy_96 6) - (f 6)), vI 1, vI (q + 1)] [] (M_137, S) Q
                                  refine ⟨(by unfold ir; omega), ?_⟩
                                  exact ih_204 (q + 1) M_137 g_147 (by omega) (by rw [hg_147, hb2]; exact rcp_s hb1.1 (by omega) (by congr 1; omega)) r_138 r_139 r_140 r_141 r_142 r_143 r_144 r_145 r_146 fr_148 (by omega)
                            exact hl_204 _ 0 M_120 b1 (by omega) rcp_0.symm r_121 r_122 r_128 r_129 r_130 r_131 r_132 r_133 r_134 fr_135 (Nat.lt_succ_self _)
                        · refine WP.blk 4 ?_
                          show sT S m = 10 ∧ WP 6 169 (if cnd .ge ((gy_96 6) - (f 6)) (My_96 m 15) = true then 180 else 176) [vR m, vI (f 1), vI (f 6), vI p, vI ((gy_96 6) - (f 6)), v5_72, v6_72] [] (My_96, S) Q
                          rw [r_98]
                          refine ⟨hS.1.1, ?_⟩
                          refine br_ge (fun c_149 => ?_) (fun c_149 => ?_)
                          · refine WP.blk 7 ?_
                            show WP 6 169 72 [vR m, vI (f 1), vI (f 6), vI p, vI ((gy_96 6) - (f 6)), vI 0, v6_72] [] (My_96, S) Q
                            exact ih_72 p (vI ((gy_96 6) - (f 6))) (vI 0) (v6_72) My_96 o83 gy_96 g_89 c83 g_65 h1 b1 (by rw [show o83 15 = o1 15 by omega]; exact osu_cut hR hB.1 hU (by omega) (by omega) (by rw [← hW]; omega)) (fun k hk => hq3 k hk) (by omega) hgy_96 r_98 r_99 r_100 r_101 r_102 r_103 r_104 r_105 fr_106 (Nat.lt_of_lt_of_le (ms_lt (by omega) hTT (by omega)) (Nat.le_of_lt_succ hm_72))
                          · refine WP.blk 10 ?_
                            show ir ((f 1) - 1) ∧ WP 6 169 (if cnd .ne p ((f 1) - 1) = true then 233 else 195) [vR m, vI (f 1), vI (f 6), vI p, vI ((gy_96 6) - (f 6)), vI 1, v6_72] [] (My_96, S) Q
                            refine ⟨(by unfold ir; omega), ?_⟩
                            refine br_ne (fun c_150 => ?_) (fun c_150 => ?_)
                            · refine WP.blk 5 ?_
                              show ir (p + 1) ∧ WP 6 169 243 [vR m, vI (f 1), vI (f 6), vI (p + 1), vI ((gy_96 6) - (f 6)), vI 1, v6_72] [vI (p + 1), vR m] (My_96, S) Q
                              refine ⟨(by unfold ir; omega), ?_⟩
                              refine WP.cl (a := [vR m, vI (p + 1)]) (rest := []) rfl rfl rfl rfl ⟨hS.1.1, trivial⟩ (by decide) (r_lays hS hgy_96 r_103 r_104 (by omega) (fun My_151 fry_151 hty_151 hhy_151 => ⟨rfl, ?_⟩))
                              show WP 6 169 246 [vR m, vI (f 1), vI (f 6), vI (p + 1), vI ((gy_96 6) - (f 6)), vI 1, v6_72] [] (My_151, S) Q
                              obtain ⟨ty_151, zty_151⟩ : ∃ y9, My_151 (m + 8) = y9 := ⟨_, rfl⟩
                              rw [zty_151] at hty_151
                              obtain ⟨hy_151, zhy_151⟩ : ∃ y9, My_151 (m + 9) = y9 := ⟨_, rfl⟩
                              rw [zhy_151] at hhy_151
                              have r_152 : My_151 (m + 1) = gy_96 := (fry_151 _ (by omega) (by omega)).trans hgy_96
                              have r_153 : My_151 m = o83 := (fry_151 _ (by omega) (by omega)).trans r_98
                              have r_154 : My_151 (m + 3) = ay_19 := (fry_151 _ (by omega) (by omega)).trans r_99
                              have r_155 : My_151 (m + 4) = d1 := (fry_151 _ (by omega) (by omega)).trans r_100
                              have r_156 : My_151 (m + 6) = g_89 := (fry_151 _ (by omega) (by omega)).trans r_101
                              have r_157 : My_151 (m + 7) = c83 := (fry_151 _ (by omega) (by omega)).trans r_102
                              have r_160 : My_151 (m + 10) = b1 := (fry_151 _ (by omega) (by omega)).trans r_105
                              have fr_161 : ∀ r, r ≠ m → r ≠ m + 1 → r ≠ m + 3 → r ≠ m + 4 → r ≠ m + 6 → r ≠ m + 7 → r ≠ m + 8 → r ≠ m + 9 → r ≠ m + 10 → My_151 r = M r := fun r q0 q1 q2 q3 q4 q5 q6 q7 q8 => (fry_151 r q6 q7).trans (fr_106 r q0 q1 q2 q3 q4 q5 q6 q7 q8)
                              refine WP.blk 1 ?_
                              show WP 6 169 72 [vR m, vI (f 1), vI (f 6), vI (p + 1), vI ((gy_96 6) - (f 6)), vI 1, v6_72] [] (My_151, S) Q
                              exact ih_72 (p + 1) (vI ((gy_96 6) - (f 6))) (vI 1) (v6_72) My_151 o83 gy_96 g_89 c83 ty_151 hy_151 b1 (by rw [show o83 15 = o1 15 by omega]; exact osu_push hU hOrd (by omega) rfl hty_151 (by rw [← hW]; exact hhy_151)) (fun k hk => hq3 k hk) (by omega) r_152 r_153 r_154 r_155 r_156 r_157 zty_151 zhy_151 r_160 fr_161 (Nat.lt_of_lt_of_le (ms_push (by omega) hTT (by omega) (by omega) rfl hty_151) (Nat.le_of_lt_succ hm_72))
                            · refine WP.blk 3 ?_
                              show sT S m = 10 ∧ WP 6 169 201 [vR m, vI (f 1), vI (f 6), vI p, vI ((gy_96 6) - (f 6)), vI 1, v6_72] [] (up My_96 m 15 ((gy_96 6) - (f 6)), S) Q
                              refine ⟨hS.1.1, ?_⟩
                              generalize hM_162 : up My_96 m 15 ((gy_96 6) - (f 6)) = M_162
                              have r_163 : M_162 (m + 1) = gy_96 := by rw [← hM_162]; exact (up_row (by omega)).trans hgy_96
                              obtain ⟨g_165, hg_165⟩ : ∃ y9, y9 = uf o83 15 ((gy_96 6) - (f 6)) := ⟨_, rfl⟩
                              have r_164 : M_162 m = g_165 := by rw [← hM_162, hg_165, up_self, r_98]
                              have t_166 : g_165 4 = o83 4 := by rw [hg_165]; exact uf_ne (by omega)
                              have t_167 : g_165 5 = o83 5 := by rw [hg_165]; exact uf_ne (by omega)
                              have t_168 : g_165 7 = o83 7 := by rw [hg_165]; exact uf_ne (by omega)
                              have t_169 : g_165 15 = (gy_96 6) - (f 6) := by rw [hg_165]; exact uf_at _ _ (by omega)
                              have r_170 : M_162 (m + 3) = ay_19 := by rw [← hM_162]; exact (up_row (by omega)).trans r_99
                              have r_171 : M_162 (m + 4) = d1 := by rw [← hM_162]; exact (up_row (by omega)).trans r_100
                              have r_172 : M_162 (m + 6) = g_89 := by rw [← hM_162]; exact (up_row (by omega)).trans r_101
                              have r_173 : M_162 (m + 7) = c83 := by rw [← hM_162]; exact (up_row (by omega)).trans r_102
                              have r_174 : M_162 (m + 8) = g_65 := by rw [← hM_162]; exact (up_row (by omega)).trans r_103
                              have r_175 : M_162 (m + 9) = h1 := by rw [← hM_162]; exact (up_row (by omega)).trans r_104
                              have r_176 : M_162 (m + 10) = b1 := by rw [← hM_162]; exact (up_row (by omega)).trans r_105
                              have fr_177 : ∀ r, r ≠ m → r ≠ m + 1 → r ≠ m + 3 → r ≠ m + 4 → r ≠ m + 6 → r ≠ m + 7 → r ≠ m + 8 → r ≠ m + 9 → r ≠ m + 10 → M_162 r = M r := fun r q0 q1 q2 q3 q4 q5 q6 q7 q8 => by rw [← hM_162]; exact (up_row q0).trans (fr_106 r q0 q1 q2 q3 q4 q5 q6 q7 q8)
                              refine WP.blk 2 ?_
                              show WP 6 169 204 [vR m, vI (f 1), vI (f 6), vI p, vI ((gy_96 6) - (f 6)), vI 1, vI 0] [] (M_162, S) Q
                              have hl_204 : ∀ (n_204 : Nat) (q : Int) (M3 : Nat → Int → Int) (b2 : Int → Int), 0 ≤ q ∧ q ≤ f 1 → b2 = rcp g_65 0 b1 0 q → M3 (m + 1) = gy_96 → M3 m = g_165 → M3 (m + 3) = ay_19 → M3 (m + 4) = d1 → M3 (m + 6) = g_89 → M3 (m + 7) = c83 → M3 (m + 8) = g_65 → M3 (m + 9) = h1 → M3 (m + 10) = b2 → (∀ r, r ≠ m → r ≠ m + 1 → r ≠ m + 3 → r ≠ m + 4 → r ≠ m + 6 → r ≠ m + 7 → r ≠ m + 8 → r ≠ m + 9 → r ≠ m + 10 → M3 r = M r) → (f 1 - q).toNat < n_204 → WP 6 169 204 [vR m, vI (f 1), vI (f 6), vI p, vI ((gy_96 6) - (f 6)), vI 1, vI q] [] (M3, S) Q := by
                                intro n_204
                                induction n_204 with
                                | zero => intro q M3 b2 hb1 hb2 z_204_0 z_204_1 z_204_2 z_204_3 z_204_4 z_204_5 z_204_6 z_204_7 z_204_8 fr_204 hm_204; exact absurd hm_204 (Nat.not_lt_zero _)
                                | succ n_204 ih_204 =>
                                  intro q M3 b2 hb1 hb2 z_204_0 z_204_1 z_204_2 z_204_3 z_204_4 z_204_5 z_204_6 z_204_7 z_204_8 fr_204 hm_204
                                  refine WP.blk 3 ?_
                                  show WP 6 169 (if cnd .ge q (f 1) = true then 230 else 210) [vR m, vI (f 1), vI (f 6), vI p, vI ((gy_96 6) - (f 6)), vI 1, vI q] [] (M3, S) Q
                                  refine br_ge (fun c_178 => ?_) (fun c_178 => ?_)
                                  · refine WP.blk 2 ?_
                                    show WP 6 169 72 [vR m, vI (f 1), vI (f 6), vI p, vI ((gy_96 6) - (f 6)), vI 1, vI q] [] (M3, S) Q
                                    exact ih_72 p (vI ((gy_96 6) - (f 6))) (vI 1) (vI q) M3 g_165 gy_96 g_89 c83 g_65 h1 b2 (osu_best hR hB.1 hU hOrd (by omega) (fun i a b => by rw [hb2, rcp_in (by omega)]; congr 1; omega) (by rw [← hW]; omega) (by omega)) (fun k hk => hq3 k hk) (by omega) z_204_0 z_204_1 z_204_2 z_204_3 z_204_4 z_204_5 z_204_6 z_204_7 z_204_8 fr_204 (Nat.lt_of_lt_of_le (ms_lt (by omega) hTT (by omega)) (Nat.le_of_lt_succ hm_72))
                                  · refine WP.blk 2 ?_
                                    show (sT S m = 10 ∧ sR S m 14 ≠ 0) ∧ WP 6 169 214 [vR m, vI (f 1), vI (f 6), vI p, vI ((gy_96 6) - (f 6)), vI 1, vI q] [vR (sR S m 14)] (M3, S) Q
                                    refine ⟨⟨hS.1.1, by rw [hS.1.2.2.2.2.2.2.2.2.2.2.1]; omega⟩, ?_⟩
                                    rw [hS.1.2.2.2.2.2.2.2.2.2.2.1]
                                    refine WP.blk 3 ?_
                                    show (sT S m = 10 ∧ sR S m 12 ≠ 0) ∧ WP 6 169 220 [vR m, vI (f 1), vI (f 6), vI p, vI ((gy_96 6) - (f 6)), vI 1, vI q] [vR (sR S m 12), vI q, vR (m + 10)] (M3, S) Q
                                    refine ⟨⟨hS.1.1, by rw [hS.1.2.2.2.2.2.2.2.2.1]; omega⟩, ?_⟩
                                    rw [hS.1.2.2.2.2.2.2.2.2.1]
                                    refine WP.blk 3 ?_
                                    show ((sT S (m + 8) = 11 ∨ sT S (m + 8) = 16 ∨ sT S (m + 8) = 17) ∧ 0 ≤ q ∧ q < (sN S (m + 8) : Int)) ∧ (sT S (m + 10) = 11 ∧ 0 ≤ q ∧ q < (sN S (m + 10) : Int)) ∧ WP 6 169 224 [vR m, vI (f 1), vI (f 6), vI p, vI ((gy_96 6) - (f 6)), vI 1, vI q] [] (up M3 (m + 10) q (M3 (m + 8) q), S) Q
                                    rw [z_204_6]
                                    refine ⟨⟨Or.inl hS.2.1.2.2.2.2.2.2.2.1, by omega, by rw [hS.2.2.2.2.2.2.2.2.2.1]; omega⟩, ⟨hS.2.1.2.2.2.2.2.2.2.2.2.1, by omega, by rw [hS.2.2.2.2.2.2.2.2.2.2.2.1]; omega⟩, ?_⟩
                                    generalize hM_179 : up M3 (m + 10) q (g_65 q) = M_179
                                    have r_180 : M_179 (m + 1) = gy_96 := by rw [← hM_179]; exact (up_row (by omega)).trans z_204_0
                                    have r_181 : M_179 m = g_165 := by rw [← hM_179]; exact (up_row (by omega)).trans z_204_1
                                    have r_182 : M_179 (m + 3) = ay_19 := by rw [← hM_179]; exact (up_row (by omega)).trans z_204_2
                                    have r_183 : M_179 (m + 4) = d1 := by rw [← hM_179]; exact (up_row (by omega)).trans z_204_3
                                    have r_184 : M_179 (m + 6) = g_89 := by rw [← hM_179]; exact (up_row (by omega)).trans z_204_4
                                    have r_185 : M_179 (m + 7) = c83 := by rw [← hM_179]; exact (up_row (by omega)).trans z_204_5
                                    have r_186 : M_179 (m + 8) = g_65 := by rw [← hM_179]; exact (up_row (by omega)).trans z_204_6
                                    have r_187 : M_179 (m + 9) = h1 := by rw [← hM_179]; exact (up_row (by omega)).trans z_204_7
                                    obtain ⟨g_189, hg_189⟩ : ∃ y9, y9 = uf b2 q (g_65 q) := ⟨_, rfl⟩
                                    have r_188 : M_179 (m + 10) = g_189 := by rw [← hM_179, hg_189, up_self, z_204_8]
                                    have fr_190 : ∀ r, r ≠ m → r ≠ m + 1 → r ≠ m + 3 → r ≠ m + 4 → r ≠ m + 6 → r ≠ m + 7 → r ≠ m + 8 → r ≠ m + 9 → r ≠ m + 10 → M_179 r = M r := fun r q0 q1 q2 q3 q4 q5 q6 q7 q8 => by rw [← hM_179]; exact (up_row q8).trans (fr_204 r q0 q1 q2 q3 q4 q5 q6 q7 q8)
                                    refine WP.blk 2 ?_
                                    show ir (q + 1) ∧ WP 6 169 204 [vR m, vI (f 1), vI (f 6), vI p, vI ((gy_96 6) - (f 6)), vI 1, vI (q + 1)] [] (M_179, S) Q
                                    refine ⟨(by unfold ir; omega), ?_⟩
                                    exact ih_204 (q + 1) M_179 g_189 (by omega) (by rw [hg_189, hb2]; exact rcp_s hb1.1 (by omega) (by congr 1; omega)) r_180 r_181 r_182 r_183 r_184 r_185 r_186 r_187 r_188 fr_190 (by omega)
                              exact hl_204 _ 0 M_162 b1 (by omega) rcp_0.symm r_163 r_164 r_170 r_171 r_172 r_173 r_174 r_175 r_176 fr_177 (Nat.lt_succ_self _)
                  · refine WP.blk 2 ?_
                    show ir (p + (-1)) ∧ WP 6 169 72 [vR m, vI (f 1), vI (f 6), vI (p + (-1)), v4_72, v5_72, v6_72] [] (My_69, S) Q
                    refine ⟨(by unfold ir; omega), ?_⟩
                    exact ih_72 (p + (-1)) (v4_72) (v5_72) (v6_72) My_69 o1 qy_69 g1 c1 g_65 h1 b1 (osu_pop hU (by omega) (by omega)) (fun k hk => hqo k hk) (by omega) hqy_69 r_71 r_72 r_73 r_74 r_75 r_76 r_77 r_78 fr_79 (Nat.lt_of_lt_of_le (ms_pop (by omega) hTT (by omega) (by omega)) (Nat.le_of_lt_succ hm_72))
            exact hl_72 _ 0 (none) (none) (none) My_31 g_5 f g0 c0 ty_31 hy_31 b0 (by rw [show g_5 15 = -1 by omega]; exact Or.inr ⟨by omega, by rw [hty_31, uf_eq]; omega, ⟨fun k a b => by omega, fun q k a b c d => by rw [show q = 0 by omega, sq_0, hhy_31, rcp_in (by omega)]; congr 1; omega⟩, by rw [hty_31, uf_eq]; exact StO_0 (by omega)⟩) (fun k _ => rfl) (by omega) r_32 r_33 r_34 r_35 r_36 r_37 zty_31 zhy_31 r_40 fr_41 (Nat.lt_succ_self _)
          · refine WP.blk 2 ?_
            show (sT S m = 10 ∧ sR S m 3 ≠ 0) ∧ WP 6 169 51 [vR m, vI (f 1), vI (f 6), vI i, none, none, none] [vR (sR S m 3)] (M1, S) Q
            refine ⟨⟨hS.1.1, by rw [hS.1.2.2.2.2.1]; omega⟩, ?_⟩
            rw [hS.1.2.2.2.2.1]
            refine WP.blk 3 ?_
            show (sT S m = 10 ∧ sR S m 0 ≠ 0) ∧ WP 6 169 56 [vR m, vI (f 1), vI (f 6), vI i, none, none, none] [vR (sR S m 0), vI i, vR (m + 4)] (M1, S) Q
            refine ⟨⟨hS.1.1, by rw [hS.1.2.1]; omega⟩, ?_⟩
            rw [hS.1.2.1]
            refine WP.blk 3 ?_
            show ((sT S (m + 1) = 11 ∨ sT S (m + 1) = 16 ∨ sT S (m + 1) = 17) ∧ 0 ≤ i ∧ i < (sN S (m + 1) : Int)) ∧ (sT S (m + 4) = 11 ∧ 0 ≤ i ∧ i < (sN S (m + 4) : Int)) ∧ WP 6 169 59 [vR m, vI (f 1), vI (f 6), vI i, none, none, none] [] (up M1 (m + 4) i (M1 (m + 1) i), S) Q
            rw [z_40_0]
            refine ⟨⟨Or.inl hS.2.1.1, by omega, by rw [hS.2.2.1]; omega⟩, ⟨hS.2.1.2.2.2.1, by omega, by rw [hS.2.2.2.2.2.1]; omega⟩, ?_⟩
            generalize hM_191 : up M1 (m + 4) i (f i) = M_191
            have r_192 : M_191 (m + 1) = f := by rw [← hM_191]; exact (up_row (by omega)).trans z_40_0
            have r_193 : M_191 m = g_5 := by rw [← hM_191]; exact (up_row (by omega)).trans z_40_1
            have r_194 : M_191 (m + 3) = ay_19 := by rw [← hM_191]; exact (up_row (by omega)).trans z_40_2
            obtain ⟨g_196, hg_196⟩ : ∃ y9, y9 = uf d1 i (f i) := ⟨_, rfl⟩
            have r_195 : M_191 (m + 4) = g_196 := by rw [← hM_191, hg_196, up_self, z_40_3]
            have r_197 : M_191 (m + 6) = g0 := by rw [← hM_191]; exact (up_row (by omega)).trans z_40_4
            have r_198 : M_191 (m + 7) = c0 := by rw [← hM_191]; exact (up_row (by omega)).trans z_40_5
            have r_199 : M_191 (m + 8) = t0 := by rw [← hM_191]; exact (up_row (by omega)).trans z_40_6
            have r_200 : M_191 (m + 9) = h0 := by rw [← hM_191]; exact (up_row (by omega)).trans z_40_7
            have r_201 : M_191 (m + 10) = b0 := by rw [← hM_191]; exact (up_row (by omega)).trans z_40_8
            have fr_202 : ∀ r, r ≠ m → r ≠ m + 1 → r ≠ m + 3 → r ≠ m + 4 → r ≠ m + 6 → r ≠ m + 7 → r ≠ m + 8 → r ≠ m + 9 → r ≠ m + 10 → M_191 r = M r := fun r q0 q1 q2 q3 q4 q5 q6 q7 q8 => by rw [← hM_191]; exact (up_row q3).trans (fr_40 r q0 q1 q2 q3 q4 q5 q6 q7 q8)
            refine WP.blk 2 ?_
            show ir (i + 1) ∧ WP 6 169 40 [vR m, vI (f 1), vI (f 6), vI (i + 1), none, none, none] [] (M_191, S) Q
            refine ⟨(by unfold ir; omega), ?_⟩
            exact ih_40 (i + 1) M_191 g_196 (by omega) (by rw [hg_196, i1]; exact rcp_s i0.1 (by omega) (by congr 1; omega)) r_192 r_193 r_194 r_195 r_197 r_198 r_199 r_200 r_201 fr_202 (by omega)
      exact hl_40 _ 0 My_19 d0 (by omega) rcp_0.symm r_20 r_21 hay_19 r_23 r_24 r_25 r_26 r_27 r_28 fr_29 (Nat.lt_succ_self _)
    · refine WP.blk 1 ?_
      show WP 6 169 33 [vR m, vI (f 1), vI (f 6), none, none, none, none] [vI 1] (M_2, S) Q
      exact WP.ret rfl rfl rfl ⟨by omega, trivial⟩ (k _ _ fr_17 r_3 _ _ r_4 r_16 (by omega) (by omega) (by omega) (by rw [show g_5 15 = 0 by omega]; exact BestO_0 (by omega)) (by omega))
  · refine WP.blk 3 ?_
    show sT S m = 10 ∧ WP 6 169 28 [vR m, vI (f 1), vI (f 6), none, none, none, none] [] (up M m 15 0, S) Q
    refine ⟨hS.1.1, ?_⟩
    generalize hM_203 : up M m 15 0 = M_203
    have r_204 : M_203 (m + 1) = f := by rw [← hM_203]; exact (up_row (by omega)).trans hf
    obtain ⟨g_206, hg_206⟩ : ∃ y9, y9 = uf o 15 0 := ⟨_, rfl⟩
    have r_205 : M_203 m = g_206 := by rw [← hM_203, hg_206, up_self, ho]
    have t_207 : g_206 4 = o 4 := by rw [hg_206]; exact uf_ne (by omega)
    have t_208 : g_206 5 = o 5 := by rw [hg_206]; exact uf_ne (by omega)
    have t_209 : g_206 7 = o 7 := by rw [hg_206]; exact uf_ne (by omega)
    have t_210 : g_206 15 = 0 := by rw [hg_206]; exact uf_at _ _ (by omega)
    have r_211 : M_203 (m + 3) = a0 := by rw [← hM_203]; exact (up_row (by omega)).trans ha0
    have r_212 : M_203 (m + 4) = d0 := by rw [← hM_203]; exact (up_row (by omega)).trans hd0
    have r_213 : M_203 (m + 6) = g0 := by rw [← hM_203]; exact (up_row (by omega)).trans hg0
    have r_214 : M_203 (m + 7) = c0 := by rw [← hM_203]; exact (up_row (by omega)).trans hc0
    have r_215 : M_203 (m + 8) = t0 := by rw [← hM_203]; exact (up_row (by omega)).trans ht0
    have r_216 : M_203 (m + 9) = h0 := by rw [← hM_203]; exact (up_row (by omega)).trans hh0
    have r_217 : M_203 (m + 10) = b0 := by rw [← hM_203]; exact (up_row (by omega)).trans hb0
    have fr_218 : ∀ r, r ≠ m → r ≠ m + 1 → r ≠ m + 3 → r ≠ m + 4 → r ≠ m + 6 → r ≠ m + 7 → r ≠ m + 8 → r ≠ m + 9 → r ≠ m + 10 → M_203 r = M r := fun r q0 q1 q2 q3 q4 q5 q6 q7 q8 => by rw [← hM_203]; exact (up_row q0).trans ((fun _ _ _ _ _ _ _ _ _ _ => rfl) r q0 q1 q2 q3 q4 q5 q6 q7 q8)
    refine WP.blk 2 ?_
    show WP 6 169 (if cnd .ne (f 1) 0 = true then 34 else 32) [vR m, vI (f 1), vI (f 6), none, none, none, none] [] (M_203, S) Q
    refine br_ne (fun c_219 => ?_) (fun c_219 => ?_)
    · refine WP.blk 1 ?_
      show WP 6 169 35 [vR m, vI (f 1), vI (f 6), none, none, none, none] [vR m] (M_203, S) Q
      refine WP.cl (a := [vR m]) (rest := []) rfl rfl rfl rfl ⟨hS.1.1, trivial⟩ (by decide) (r_keeps hS r_204 r_211 (fun My_220 fry_220 hMy_220 => ⟨rfl, ?_⟩))
      show WP 6 169 38 [vR m, vI (f 1), vI (f 6), none, none, none, none] [] (My_220, S) Q
      obtain ⟨ay_220, hay_220⟩ : ∃ y9, My_220 (m + 3) = y9 := ⟨_, rfl⟩
      rw [hay_220] at hMy_220
      have r_221 : My_220 (m + 1) = f := (fry_220 _ (by omega)).trans r_204
      have r_222 : My_220 m = g_206 := (fry_220 _ (by omega)).trans r_205
      have r_224 : My_220 (m + 4) = d0 := (fry_220 _ (by omega)).trans r_212
      have r_225 : My_220 (m + 6) = g0 := (fry_220 _ (by omega)).trans r_213
      have r_226 : My_220 (m + 7) = c0 := (fry_220 _ (by omega)).trans r_214
      have r_227 : My_220 (m + 8) = t0 := (fry_220 _ (by omega)).trans r_215
      have r_228 : My_220 (m + 9) = h0 := (fry_220 _ (by omega)).trans r_216
      have r_229 : My_220 (m + 10) = b0 := (fry_220 _ (by omega)).trans r_217
      have fr_230 : ∀ r, r ≠ m → r ≠ m + 1 → r ≠ m + 3 → r ≠ m + 4 → r ≠ m + 6 → r ≠ m + 7 → r ≠ m + 8 → r ≠ m + 9 → r ≠ m + 10 → My_220 r = M r := fun r q0 q1 q2 q3 q4 q5 q6 q7 q8 => (fry_220 r q2).trans (fr_218 r q0 q1 q2 q3 q4 q5 q6 q7 q8)
      refine WP.blk 2 ?_
      show WP 6 169 40 [vR m, vI (f 1), vI (f 6), vI 0, none, none, none] [] (My_220, S) Q
      have hl_40 : ∀ (n_40 : Nat) (i : Int) (M1 : Nat → Int → Int) (d1 : Int → Int), 0 ≤ i ∧ i ≤ 195 → d1 = rcp f 0 d0 0 i → M1 (m + 1) = f → M1 m = g_206 → M1 (m + 3) = ay_220 → M1 (m + 4) = d1 → M1 (m + 6) = g0 → M1 (m + 7) = c0 → M1 (m + 8) = t0 → M1 (m + 9) = h0 → M1 (m + 10) = b0 → (∀ r, r ≠ m → r ≠ m + 1 → r ≠ m + 3 → r ≠ m + 4 → r ≠ m + 6 → r ≠ m + 7 → r ≠ m + 8 → r ≠ m + 9 → r ≠ m + 10 → M1 r = M r) → (195 - i).toNat < n_40 → WP 6 169 40 [vR m, vI (f 1), vI (f 6), vI i, none, none, none] [] (M1, S) Q := by
        intro n_40
        induction n_40 with
        | zero => intro i M1 d1 i0 i1 z_40_0 z_40_1 z_40_2 z_40_3 z_40_4 z_40_5 z_40_6 z_40_7 z_40_8 fr_40 hm_40; exact absurd hm_40 (Nat.not_lt_zero _)
        | succ n_40 ih_40 =>
          intro i M1 d1 i0 i1 z_40_0 z_40_1 z_40_2 z_40_3 z_40_4 z_40_5 z_40_6 z_40_7 z_40_8 fr_40 hm_40
          refine WP.blk 3 ?_
          show WP 6 169 (if cnd .ge i 195 = true then 65 else 47) [vR m, vI (f 1), vI (f 6), vI i, none, none, none] [] (M1, S) Q
          refine br_ge (fun c_231 => ?_) (fun c_231 => ?_)
          · refine WP.blk 4 ?_
            show WP 6 169 69 [vR m, vI (f 1), vI (f 6), vI 0, none, none, none] [vI 0, vR m] (M1, S) Q
            refine WP.cl (a := [vR m, vI 0]) (rest := []) rfl rfl rfl rfl ⟨hS.1.1, trivial⟩ (by decide) (r_lays hS z_40_0 z_40_6 z_40_7 (by omega) (fun My_232 fry_232 hty_232 hhy_232 => ⟨rfl, ?_⟩))
            show WP 6 169 72 [vR m, vI (f 1), vI (f 6), vI 0, none, none, none] [] (My_232, S) Q
            obtain ⟨ty_232, zty_232⟩ : ∃ y9, My_232 (m + 8) = y9 := ⟨_, rfl⟩
            rw [zty_232] at hty_232
            obtain ⟨hy_232, zhy_232⟩ : ∃ y9, My_232 (m + 9) = y9 := ⟨_, rfl⟩
            rw [zhy_232] at hhy_232
            have r_233 : My_232 (m + 1) = f := (fry_232 _ (by omega) (by omega)).trans z_40_0
            have r_234 : My_232 m = g_206 := (fry_232 _ (by omega) (by omega)).trans z_40_1
            have r_235 : My_232 (m + 3) = ay_220 := (fry_232 _ (by omega) (by omega)).trans z_40_2
            have r_236 : My_232 (m + 4) = d1 := (fry_232 _ (by omega) (by omega)).trans z_40_3
            have r_237 : My_232 (m + 6) = g0 := (fry_232 _ (by omega) (by omega)).trans z_40_4
            have r_238 : My_232 (m + 7) = c0 := (fry_232 _ (by omega) (by omega)).trans z_40_5
            have r_241 : My_232 (m + 10) = b0 := (fry_232 _ (by omega) (by omega)).trans z_40_8
            have fr_242 : ∀ r, r ≠ m → r ≠ m + 1 → r ≠ m + 3 → r ≠ m + 4 → r ≠ m + 6 → r ≠ m + 7 → r ≠ m + 8 → r ≠ m + 9 → r ≠ m + 10 → My_232 r = M r := fun r q0 q1 q2 q3 q4 q5 q6 q7 q8 => (fry_232 r q6 q7).trans (fr_40 r q0 q1 q2 q3 q4 q5 q6 q7 q8)
            have hl_72 : ∀ (n_72 : Nat) (p : Int) (v4_72 : V) (v5_72 : V) (v6_72 : V) (M2 : Nat → Int → Int) (o1 : Int → Int) (g : Int → Int) (g1 : Int → Int) (c1 : Int → Int) (t1 : Int → Int) (h1 : Int → Int) (b1 : Int → Int), OSt f t1 h1 b1 (o1 15) p → (∀ k, ¬ (0 ≤ k ∧ k < 195) → g k = f k) → o1 4 = o 4 ∧ o1 5 = o 5 ∧ o1 7 = o 7 → M2 (m + 1) = g → M2 m = o1 → M2 (m + 3) = ay_220 → M2 (m + 4) = d1 → M2 (m + 6) = g1 → M2 (m + 7) = c1 → M2 (m + 8) = t1 → M2 (m + 9) = h1 → M2 (m + 10) = b1 → (∀ r, r ≠ m → r ≠ m + 1 → r ≠ m + 3 → r ≠ m + 4 → r ≠ m + 6 → r ≠ m + 7 → r ≠ m + 8 → r ≠ m + 9 → r ≠ m + 10 → M2 r = M r) → ms (f 1) t1 p < n_72 → WP 6 169 72 [vR m, vI (f 1), vI (f 6), vI p, v4_72, v5_72, v6_72] [] (M2, S) Q := by
              intro n_72
              induction n_72 with
              | zero => intro p v4_72 v5_72 v6_72 M2 o1 g g1 c1 t1 h1 b1 hO hgo hko z_72_0 z_72_1 z_72_2 z_72_3 z_72_4 z_72_5 z_72_6 z_72_7 z_72_8 fr_72 hm_72; exact absurd hm_72 (Nat.not_lt_zero _)
              | succ n_72 ih_72 =>
                intro p v4_72 v5_72 v6_72 M2 o1 g g1 c1 t1 h1 b1 hO hgo hko z_72_0 z_72_1 z_72_2 z_72_3 z_72_4 z_72_5 z_72_6 z_72_7 z_72_8 fr_72 hm_72
                have hb9 : -1 ≤ p ∧ p < f 1 := by rcases hO with h | h <;> omega
                refine WP.blk 2 ?_
                show WP 6 169 (if cnd .lt p 0 = true then 249 else 76) [vR m, vI (f 1), vI (f 6), vI p, v4_72, v5_72, v6_72] [] (M2, S) Q
                refine br_lt (fun c_243 => ?_) (fun c_243 => ?_)
                · refine WP.blk 2 ?_
                  show WP 6 169 252 [vR m, vI (f 1), vI (f 6), vI p, vI 0, v5_72, v6_72] [] (M2, S) Q
                  have hl_252 : ∀ (n_252 : Nat) (z : Int) (M4 : Nat → Int → Int) (g4 : Int → Int), 0 ≤ z ∧ z ≤ 195 → g4 = rcp d1 0 g 0 z → M4 (m + 1) = g4 → M4 m = o1 → M4 (m + 3) = ay_220 → M4 (m + 4) = d1 → M4 (m + 6) = g1 → M4 (m + 7) = c1 → M4 (m + 8) = t1 → M4 (m + 9) = h1 → M4 (m + 10) = b1 → (∀ r, r ≠ m → r ≠ m + 1 → r ≠ m + 3 → r ≠ m + 4 → r ≠ m + 6 → r ≠ m + 7 → r ≠ m + 8 → r ≠ m + 9 → r ≠ m + 10 → M4 r = M r) → (195 - z).toNat < n_252 → WP 6 169 252 [vR m, vI (f 1), vI (f 6), vI p, vI z, v5_72, v6_72] [] (M4, S) Q := by
                    intro n_252
                    induction n_252 with
                    | zero => intro z M4 g4 i2 i3 z_252_0 z_252_1 z_252_2 z_252_3 z_252_4 z_252_5 z_252_6 z_252_7 z_252_8 fr_252 hm_252; exact absurd hm_252 (Nat.not_lt_zero _)
                    | succ n_252 ih_252 =>
                      intro z M4 g4 i2 i3 z_252_0 z_252_1 z_252_2 z_252_3 z_252_4 z_252_5 z_252_6 z_252_7 z_252_8 fr_252 hm_252
                      refine WP.blk 3 ?_
                      show WP 6 169 (if cnd .ge z 195 = true then 280 else 260) [vR m, vI (f 1), vI (f 6), vI p, vI z, v5_72, v6_72] [] (M4, S) Q
                      refine br_ge (fun c_244 => ?_) (fun c_244 => ?_)
                      · refine WP.blk 4 ?_
                        show sT S m = 10 ∧ WP 6 169 (if cnd .eq (M4 m 15) (-1) = true then 292 else 288) [vR m, vI (f 1), vI (f 6), vI p, vI z, v5_72, v6_72] [] (M4, S) Q
                        rw [z_252_1]
                        refine ⟨hS.1.1, ?_⟩
                        refine br_eq (fun c_245 => ?_) (fun c_245 => ?_)
                        · refine WP.blk 1 ?_
                          show WP 6 169 293 [vR m, vI (f 1), vI (f 6), vI p, vI z, v5_72, v6_72] [vI 0] (M4, S) Q
                          exact WP.ret rfl rfl rfl ⟨by omega, trivial⟩ (k _ _ fr_252 (z_252_0.trans (by rw [i3, show z = 195 by omega, i1, show i = 195 by omega]; exact rcp_back hgo)) _ _ z_252_1 z_252_8 (by omega) (by omega) (by omega) (by rcases hO with h | h; exact StO_e (by omega) h.2; omega) (by omega))
                        · refine WP.blk 2 ?_
                          show WP 6 169 293 [vR m, vI (f 1), vI (f 6), vI p, vI z, v5_72, v6_72] [vI 1] (M4, S) Q
                          exact WP.ret rfl rfl rfl ⟨by omega, trivial⟩ (k _ _ fr_252 (z_252_0.trans (by rw [i3, show z = 195 by omega, i1, show i = 195 by omega]; exact rcp_back hgo)) _ _ z_252_1 z_252_8 (by omega) (by omega) (by omega) (by rcases hO with h | h; exact StO_e (by omega) h.2; omega) (by omega))
                      · refine WP.blk 2 ?_
                        show (sT S m = 10 ∧ sR S m 0 ≠ 0) ∧ WP 6 169 264 [vR m, vI (f 1), vI (f 6), vI p, vI z, v5_72, v6_72] [vR (sR S m 0)] (M4, S) Q
                        refine ⟨⟨hS.1.1, by rw [hS.1.2.1]; omega⟩, ?_⟩
                        rw [hS.1.2.1]
                        refine WP.blk 3 ?_
                        show (sT S m = 10 ∧ sR S m 3 ≠ 0) ∧ WP 6 169 270 [vR m, vI (f 1), vI (f 6), vI p, vI z, v5_72, v6_72] [vR (sR S m 3), vI z, vR (m + 1)] (M4, S) Q
                        refine ⟨⟨hS.1.1, by rw [hS.1.2.2.2.2.1]; omega⟩, ?_⟩
                        rw [hS.1.2.2.2.2.1]
                        refine WP.blk 3 ?_
                        show ((sT S (m + 4) = 11 ∨ sT S (m + 4) = 16 ∨ sT S (m + 4) = 17) ∧ 0 ≤ z ∧ z < (sN S (m + 4) : Int)) ∧ (sT S (m + 1) = 11 ∧ 0 ≤ z ∧ z < (sN S (m + 1) : Int)) ∧ WP 6 169 274 [vR m, vI (f 1), vI (f 6), vI p, vI z, v5_72, v6_72] [] (up M4 (m + 1) z (M4 (m + 4) z), S) Q
                        rw [z_252_3]
                        refine ⟨⟨Or.inl hS.2.1.2.2.2.1, by omega, by rw [hS.2.2.2.2.2.1]; omega⟩, ⟨hS.2.1.1, by omega, by rw [hS.2.2.1]; omega⟩, ?_⟩
                        generalize hM_246 : up M4 (m + 1) z (d1 z) = M_246
                        obtain ⟨g_248, hg_248⟩ : ∃ y9, y9 = uf g4 z (d1 z) := ⟨_, rfl⟩
                        have r_247 : M_246 (m + 1) = g_248 := by rw [← hM_246, hg_248, up_self, z_252_0]
                        have r_249 : M_246 m = o1 := by rw [← hM_246]; exact (up_row (by omega)).trans z_252_1
                        have r_250 : M_246 (m + 3) = ay_220 := by rw [← hM_246]; exact (up_row (by omega)).trans z_252_2
                        have r_251 : M_246 (m + 4) = d1 := by rw [← hM_246]; exact (up_row (by omega)).trans z_252_3
                        have r_252 : M_246 (m + 6) = g1 := by rw [← hM_246]; exact (up_row (by omega)).trans z_252_4
                        have r_253 : M_246 (m + 7) = c1 := by rw [← hM_246]; exact (up_row (by omega)).trans z_252_5
                        have r_254 : M_246 (m + 8) = t1 := by rw [← hM_246]; exact (up_row (by omega)).trans z_252_6
                        have r_255 : M_246 (m + 9) = h1 := by rw [← hM_246]; exact (up_row (by omega)).trans z_252_7
                        have r_256 : M_246 (m + 10) = b1 := by rw [← hM_246]; exact (up_row (by omega)).trans z_252_8
                        have fr_257 : ∀ r, r ≠ m → r ≠ m + 1 → r ≠ m + 3 → r ≠ m + 4 → r ≠ m + 6 → r ≠ m + 7 → r ≠ m + 8 → r ≠ m + 9 → r ≠ m + 10 → M_246 r = M r := fun r q0 q1 q2 q3 q4 q5 q6 q7 q8 => by rw [← hM_246]; exact (up_row q1).trans (fr_252 r q0 q1 q2 q3 q4 q5 q6 q7 q8)
                        refine WP.blk 2 ?_
                        show ir (z + 1) ∧ WP 6 169 252 [vR m, vI (f 1), vI (f 6), vI p, vI (z + 1), v5_72, v6_72] [] (M_246, S) Q
                        refine ⟨(by unfold ir; omega), ?_⟩
                        exact ih_252 (z + 1) M_246 g_248 (by omega) (by rw [hg_248, i3]; exact rcp_s i2.1 (by omega) (by congr 1; omega)) r_247 r_249 r_250 r_251 r_252 r_253 r_254 r_255 r_256 fr_257 (by omega)
                  exact hl_252 _ 0 M2 g (by omega) rcp_0.symm z_72_0 z_72_1 z_72_2 z_72_3 z_72_4 z_72_5 z_72_6 z_72_7 z_72_8 fr_72 (Nat.lt_succ_self _)
                · have hO2 := hO.resolve_left (fun h9 => by omega)
                  have hO3 := hO2.1
                  have hO4 := hO2.2.1
                  refine WP.blk 2 ?_
                  show (sT S m = 10 ∧ sR S m 12 ≠ 0) ∧ WP 6 169 80 [vR m, vI (f 1), vI (f 6), vI p, v4_72, v5_72, v6_72] [vR (sR S m 12)] (M2, S) Q
                  refine ⟨⟨hS.1.1, by rw [hS.1.2.2.2.2.2.2.2.2.1]; omega⟩, ?_⟩
                  rw [hS.1.2.2.2.2.2.2.2.2.1]
                  refine WP.blk 6 ?_
                  show ((sT S (m + 8) = 11 ∨ sT S (m + 8) = 16 ∨ sT S (m + 8) = 17) ∧ 0 ≤ p ∧ p < (sN S (m + 8) : Int)) ∧ ir ((M2 (m + 8) p) + 1) ∧ (sT S (m + 8) = 11 ∧ 0 ≤ p ∧ p < (sN S (m + 8) : Int)) ∧ WP 6 169 86 [vR m, vI (f 1), vI (f 6), vI p, v4_72, v5_72, v6_72] [] (up M2 (m + 8) p ((M2 (m + 8) p) + 1), S) Q
                  rw [z_72_6]
                  refine ⟨⟨Or.inl hS.2.1.2.2.2.2.2.2.2.1, by omega, by rw [hS.2.2.2.2.2.2.2.2.2.1]; omega⟩, (by unfold ir; omega), ⟨hS.2.1.2.2.2.2.2.2.2.1, by omega, by rw [hS.2.2.2.2.2.2.2.2.2.1]; omega⟩, ?_⟩
                  generalize hM_258 : up M2 (m + 8) p ((t1 p) + 1) = M_258
                  have r_259 : M_258 (m + 1) = g := by rw [← hM_258]; exact (up_row (by omega)).trans z_72_0
                  have r_260 : M_258 m = o1 := by rw [← hM_258]; exact (up_row (by omega)).trans z_72_1
                  have r_261 : M_258 (m + 3) = ay_220 := by rw [← hM_258]; exact (up_row (by omega)).trans z_72_2
                  have r_262 : M_258 (m + 4) = d1 := by rw [← hM_258]; exact (up_row (by omega)).trans z_72_3
                  have r_263 : M_258 (m + 6) = g1 := by rw [← hM_258]; exact (up_row (by omega)).trans z_72_4
                  have r_264 : M_258 (m + 7) = c1 := by rw [← hM_258]; exact (up_row (by omega)).trans z_72_5
                  obtain ⟨g_266, hg_266⟩ : ∃ y9, y9 = uf t1 p ((t1 p) + 1) := ⟨_, rfl⟩
                  have r_265 : M_258 (m + 8) = g_266 := by rw [← hM_258, hg_266, up_self, z_72_6]
                  have r_267 : M_258 (m + 9) = h1 := by rw [← hM_258]; exact (up_row (by omega)).trans z_72_7
                  have r_268 : M_258 (m + 10) = b1 := by rw [← hM_258]; exact (up_row (by omega)).trans z_72_8
                  have fr_269 : ∀ r, r ≠ m → r ≠ m + 1 → r ≠ m + 3 → r ≠ m + 4 → r ≠ m + 6 → r ≠ m + 7 → r ≠ m + 8 → r ≠ m + 9 → r ≠ m + 10 → M_258 r = M r := fun r q0 q1 q2 q3 q4 q5 q6 q7 q8 => by rw [← hM_258]; exact (up_row q6).trans (fr_72 r q0 q1 q2 q3 q4 q5 q6 q7 q8)
                  have hU := ost_up hO (by omega) hg_266
                  have hU2 := hU.2.1
                  have hTT := hg_266
                  refine WP.blk 2 ?_
                  show WP 6 169 88 [vR m, vI (f 1), vI (f 6), vI p, v4_72, v5_72, v6_72] [vI p, vR m] (M_258, S) Q
                  refine WP.cl (a := [vR m, vI p]) (rest := []) rfl rfl rfl rfl ⟨hS.1.1, trivial⟩ (by decide) (r_picks hS r_259 r_265 r_267 (by omega) (fun My_270 fry_270 hMy_270 => ⟨rfl, ?_⟩))
                  show WP 6 169 91 [vR m, vI (f 1), vI (f 6), vI p, v4_72, v5_72, v6_72] [] (My_270, S) Q
                  obtain ⟨qy_270, hqy_270⟩ : ∃ y9, My_270 (m + 1) = y9 := ⟨_, rfl⟩
                  rw [hqy_270] at hMy_270
                  have r_272 : My_270 m = o1 := (fry_270 _ (by omega)).trans r_260
                  have r_273 : My_270 (m + 3) = ay_220 := (fry_270 _ (by omega)).trans r_261
                  have r_274 : My_270 (m + 4) = d1 := (fry_270 _ (by omega)).trans r_262
                  have r_275 : My_270 (m + 6) = g1 := (fry_270 _ (by omega)).trans r_263
                  have r_276 : My_270 (m + 7) = c1 := (fry_270 _ (by omega)).trans r_264
                  have r_277 : My_270 (m + 8) = g_266 := (fry_270 _ (by omega)).trans r_265
                  have r_278 : My_270 (m + 9) = h1 := (fry_270 _ (by omega)).trans r_267
                  have r_279 : My_270 (m + 10) = b1 := (fry_270 _ (by omega)).trans r_268
                  have fr_280 : ∀ r, r ≠ m → r ≠ m + 1 → r ≠ m + 3 → r ≠ m + 4 → r ≠ m + 6 → r ≠ m + 7 → r ≠ m + 8 → r ≠ m + 9 → r ≠ m + 10 → My_270 r = M r := fun r q0 q1 q2 q3 q4 q5 q6 q7 q8 => (fry_270 r q1).trans (fr_269 r q0 q1 q2 q3 q4 q5 q6 q7 q8)
                  have hQ : qy_270 = sq f g_266 p := hMy_270.trans (osu_row hR hB.1 hU hgo)
                  have hqr := sq_row hR hB.1 (ord_rng hU.2.2.1.1) p (by omega) (Int.le_refl _)
                  rw [← hQ] at hqr
                  obtain ⟨⟨hAg, hWg, hIg⟩, hio, hqo⟩ := hqr
                  have hA1g := hAg.1
                  have hi1 := hio.2.1
                  have hi0 := hio.1
                  have hcol := fun (h : 0 ≤ g_266 p ∧ g_266 p < qy_270 1) => (hWg.2 (g_266 p) h.1 h.2).2
                  have hWr : ∀ s, 0 ≤ s → s < qy_270 0 → 0 ≤ qy_270 (7 + 9 * s + 8) ∧ qy_270 (7 + 9 * s + 8) ≤ 1000000000 := fun s a b => ⟨(hIg.1 s a b).2.2.1, by have := (hIg.1 s a b).2.2.2; omega⟩
                  refine WP.blk 2 ?_
                  show (sT S m = 10 ∧ sR S m 12 ≠ 0) ∧ WP 6 169 95 [vR m, vI (f 1), vI (f 6), vI p, v4_72, v5_72, v6_72] [vR (sR S m 12)] (My_270, S) Q
                  refine ⟨⟨hS.1.1, by rw [hS.1.2.2.2.2.2.2.2.2.1]; omega⟩, ?_⟩
                  rw [hS.1.2.2.2.2.2.2.2.2.1]
                  refine WP.blk 4 ?_
                  show ((sT S (m + 8) = 11 ∨ sT S (m + 8) = 16 ∨ sT S (m + 8) = 17) ∧ 0 ≤ p ∧ p < (sN S (m + 8) : Int)) ∧ WP 6 169 (if cnd .ne (My_270 (m + 8) p) (f 1) = true then 107 else 101) [vR m, vI (f 1), vI (f 6), vI p, v4_72, v5_72, v6_72] [] (My_270, S) Q
                  rw [r_277]
                  refine ⟨⟨Or.inl hS.2.1.2.2.2.2.2.2.2.1, by omega, by rw [hS.2.2.2.2.2.2.2.2.2.1]; omega⟩, ?_⟩
                  refine br_ne (fun c_281 => ?_) (fun c_281 => ?_)
                  · refine WP.blk 2 ?_
                    show WP 6 169 109 [vR m, vI (f 1), vI (f 6), vI p, v4_72, v5_72, v6_72] [vI p, vR m] (My_270, S) Q
                    refine WP.cl (a := [vR m, vI p]) (rest := []) rfl rfl rfl rfl ⟨hS.1.1, trivial⟩ (by decide) (r_isUsed hS hqy_270 r_277 r_278 (by omega) (fun u_282 hu_282 => ⟨rfl, ?_⟩))
                    show WP 6 169 112 [vR m, vI (f 1), vI (f 6), vI p, v4_72, v5_72, v6_72] [vI u_282] (My_270, S) Q
                    refine WP.blk 1 ?_
                    show WP 6 169 (if cnd .ne u_282 0 = true then 72 else 115) [vR m, vI (f 1), vI (f 6), vI p, v4_72, v5_72, v6_72] [] (My_270, S) Q
                    refine br_ne (fun c_283 => ?_) (fun c_283 => ?_)
                    · have hus := (hu_282.resolve_left (fun h9 => by omega)).2
                      exact ih_72 p (v4_72) (v5_72) (v6_72) My_270 o1 qy_270 g1 c1 g_266 h1 b1 (osu_used hU (by omega) hus) (fun k hk => hqo k hk) (by omega) hqy_270 r_272 r_273 r_274 r_275 r_276 r_277 r_278 r_279 fr_280 (Nat.lt_of_lt_of_le (ms_lt (by omega) hTT (by omega)) (Nat.le_of_lt_succ hm_72))
                    · have hnu := (hu_282.resolve_right (fun h9 => by omega)).2
                      refine WP.blk 3 ?_
                      show (sT S m = 10 ∧ sR S m 12 ≠ 0) ∧ WP 6 169 120 [vR m, vI (f 1), vI (f 6), vI p, v4_72, v5_72, v6_72] [vR (sR S m 12), vR m] (My_270, S) Q
                      refine ⟨⟨hS.1.1, by rw [hS.1.2.2.2.2.2.2.2.2.1]; omega⟩, ?_⟩
                      rw [hS.1.2.2.2.2.2.2.2.2.1]
                      refine WP.blk 2 ?_
                      show ((sT S (m + 8) = 11 ∨ sT S (m + 8) = 16 ∨ sT S (m + 8) = 17) ∧ 0 ≤ p ∧ p < (sN S (m + 8) : Int)) ∧ WP 6 169 122 [vR m, vI (f 1), vI (f 6), vI p, v4_72, v5_72, v6_72] [vI (My_270 (m + 8) p), vR m] (My_270, S) Q
                      rw [r_277]
                      refine ⟨⟨Or.inl hS.2.1.2.2.2.2.2.2.2.1, by omega, by rw [hS.2.2.2.2.2.2.2.2.2.1]; omega⟩, ?_⟩
                      refine WP.cl (a := [vR m, vI (g_266 p)]) (rest := []) rfl rfl rfl rfl ⟨hS.1.1, trivial⟩ (by decide) (r_canWrite hS hqy_270 hAg (hWg.2 (g_266 p) (by omega) (by omega)).1 hWr (fun b_284 Mc284 fr284 o284 c284 ho284 hc284 hk284 hb_284 => ⟨rfl, ?_⟩))
                      show WP 6 169 125 [vR m, vI (f 1), vI (f 6), vI p, v4_72, v5_72, v6_72] [vI b_284] (Mc284, S) Q
                      have r_285 : Mc284 (m + 1) = qy_270 := (fr284 _ (by omega) (by omega) (by omega)).trans hqy_270
                      have r_287 : Mc284 (m + 3) = ay_220 := (fr284 _ (by omega) (by omega) (by omega)).trans r_273
                      have r_288 : Mc284 (m + 4) = d1 := (fr284 _ (by omega) (by omega) (by omega)).trans r_274
                      obtain ⟨g_290, r_289⟩ : ∃ y9, Mc284 (m + 6) = y9 := ⟨_, rfl⟩
                      have r_292 : Mc284 (m + 8) = g_266 := (fr284 _ (by omega) (by omega) (by omega)).trans r_277
                      have r_293 : Mc284 (m + 9) = h1 := (fr284 _ (by omega) (by omega) (by omega)).trans r_278
                      have r_294 : Mc284 (m + 10) = b1 := (fr284 _ (by omega) (by omega) (by omega)).trans r_279
                      have fr_295 : ∀ r, r ≠ m → r ≠ m + 1 → r ≠ m + 3 → r ≠ m + 4 → r ≠ m + 6 → r ≠ m + 7 → r ≠ m + 8 → r ≠ m + 9 → r ≠ m + 10 → Mc284 r = M r := fun r q0 q1 q2 q3 q4 q5 q6 q7 q8 => (fr284 r q0 q4 q5).trans (fr_280 r q0 q1 q2 q3 q4 q5 q6 q7 q8)
                      have t4284 := (hk284 4 (by omega)).trans (congrFun r_272 4)
                      have t5284 := (hk284 5 (by omega)).trans (congrFun r_272 5)
                      have t7284 := (hk284 7 (by omega)).trans (congrFun r_272 7)
                      have t15284 := (hk284 15 (by omega)).trans (congrFun r_272 15)
                      refine WP.blk 1 ?_
                      show WP 6 169 (if cnd .eq b_284 0 = true then 72 else 128) [vR m, vI (f 1), vI (f 6), vI p, v4_72, v5_72, v6_72] [] (Mc284, S) Q
                      refine br_eq (fun c_296 => ?_) (fun c_296 => ?_)
                      · have p_284 := (hb_284.resolve_left (fun h => by omega)).2
                        exact ih_72 p (v4_72) (v5_72) (v6_72) Mc284 o284 qy_270 g_290 c284 g_266 h1 b1 (by rw [show o284 15 = o1 15 by omega]; exact osu_cant hU (by omega) (by rw [← hQ]; exact can_n p_284)) (fun k hk => hqo k hk) (by omega) r_285 ho284 r_287 r_288 r_289 hc284 r_292 r_293 r_294 fr_295 (Nat.lt_of_lt_of_le (ms_lt (by omega) hTT (by omega)) (Nat.le_of_lt_succ hm_72))
                      · have p_284 := (hb_284.resolve_right (fun h => by omega)).2
                        have hpl := wrt_pl hAg (hWg.2 (g_266 p) (by omega) (by omega)).1 p_284
                        refine WP.blk 3 ?_
                        show (sT S m = 10 ∧ sR S m 0 ≠ 0) ∧ WP 6 169 133 [vR m, vI (f 1), vI (f 6), vI p, v4_72, v5_72, v6_72] [vR (sR S m 0), vR m] (Mc284, S) Q
                        refine ⟨⟨hS.1.1, by rw [hS.1.2.1]; omega⟩, ?_⟩
                        rw [hS.1.2.1]
                        refine WP.blk 2 ?_
                        show (sT S m = 10 ∧ sR S m 12 ≠ 0) ∧ WP 6 169 137 [vR m, vI (f 1), vI (f 6), vI p, v4_72, v5_72, v6_72] [vR (sR S m 12), vR (m + 1), vR m] (Mc284, S) Q
                        refine ⟨⟨hS.1.1, by rw [hS.1.2.2.2.2.2.2.2.2.1]; omega⟩, ?_⟩
                        rw [hS.1.2.2.2.2.2.2.2.2.1]
                        refine WP.blk 2 ?_
                        show ((sT S (m + 8) = 11 ∨ sT S (m + 8) = 16 ∨ sT S (m + 8) = 17) ∧ 0 ≤ p ∧ p < (sN S (m + 8) : Int)) ∧ WP 6 169 139 [vR m, vI (f 1), vI (f 6), vI p, v4_72, v5_72, v6_72] [vI (Mc284 (m + 8) p), vR (m + 1), vR m] (Mc284, S) Q
                        rw [r_292]
                        refine ⟨⟨Or.inl hS.2.1.2.2.2.2.2.2.2.1, by omega, by rw [hS.2.2.2.2.2.2.2.2.2.1]; omega⟩, ?_⟩
                        refine WP.cl (a := [vI (g_266 p)]) (rest := [vR (m + 1), vR m]) rfl rfl rfl rfl trivial (by decide) (q_wordAt (by omega) ⟨rfl, ?_⟩)
                        show WP 6 169 142 [vR m, vI (f 1), vI (f 6), vI p, v4_72, v5_72, v6_72] [vI (97 + 14 * (g_266 p)), vR (m + 1), vR m] (Mc284, S) Q
                        refine WP.blk 3 ?_
                        show ir ((97 + 14 * (g_266 p)) + 1) ∧ ((sT S (m + 1) = 11 ∨ sT S (m + 1) = 16 ∨ sT S (m + 1) = 17) ∧ 0 ≤ ((97 + 14 * (g_266 p)) + 1) ∧ ((97 + 14 * (g_266 p)) + 1) < (sN S (m + 1) : Int)) ∧ WP 6 169 145 [vR m, vI (f 1), vI (f 6), vI p, v4_72, v5_72, v6_72] [vI (Mc284 (m + 1) ((97 + 14 * (g_266 p)) + 1)), vR m] (Mc284, S) Q
                        rw [r_285]
                        refine ⟨(by unfold ir; omega), ⟨Or.inl hS.2.1.1, by omega, by rw [hS.2.2.1]; omega⟩, ?_⟩
                        refine WP.cl (a := [vR m, vI (qy_270 ((97 + 14 * (g_266 p)) + 1))]) (rest := []) rfl rfl rfl rfl ⟨hS.1.1, trivial⟩ (by decide) (r_carries hS r_285 ho284 hc284 (by omega) hA1g (fun i a b => hpl.2 i a (by omega)) hIg (by omega) (by omega) (fun My_297 fry_297 hMy_297 => ⟨rfl, ?_⟩))
                        show WP 6 169 148 [vR m, vI (f 1), vI (f 6), vI p, v4_72, v5_72, v6_72] [] (My_297, S) Q
                        obtain ⟨gy_297, hgy_297⟩ : ∃ y9, My_297 (m + 1) = y9 := ⟨_, rfl⟩
                        rw [hgy_297] at hMy_297
                        have r_299 : My_297 m = o284 := (fry_297 _ (by omega)).trans ho284
                        have r_300 : My_297 (m + 3) = ay_220 := (fry_297 _ (by omega)).trans r_287
                        have r_301 : My_297 (m + 4) = d1 := (fry_297 _ (by omega)).trans r_288
                        have r_302 : My_297 (m + 6) = g_290 := (fry_297 _ (by omega)).trans r_289
                        have r_303 : My_297 (m + 7) = c284 := (fry_297 _ (by omega)).trans hc284
                        have r_304 : My_297 (m + 8) = g_266 := (fry_297 _ (by omega)).trans r_292
                        have r_305 : My_297 (m + 9) = h1 := (fry_297 _ (by omega)).trans r_293
                        have r_306 : My_297 (m + 10) = b1 := (fry_297 _ (by omega)).trans r_294
                        have fr_307 : ∀ r, r ≠ m → r ≠ m + 1 → r ≠ m + 3 → r ≠ m + 4 → r ≠ m + 6 → r ≠ m + 7 → r ≠ m + 8 → r ≠ m + 9 → r ≠ m + 10 → My_297 r = M r := fun r q0 q1 q2 q3 q4 q5 q6 q7 q8 => (fry_297 r q1).trans (fr_295 r q0 q1 q2 q3 q4 q5 q6 q7 q8)
                        have hW : gy_297 = sq f g_266 (p + 1) := by rw [hMy_297, sq_s (by omega), ← hQ, wrote_t hAg (hWg.2 (g_266 p) (by omega) (by omega)).1 p_284]
                        have hOrd := osu_ord hU (by omega) hnu (by rw [← hQ]; exact can_i p_284)
                        have hq2 := sq_row hR hB.1 (ord_rng hOrd) (p + 1) (by omega) (Int.le_refl _)
                        rw [← hW] at hq2
                        have hq3 := hq2.2.2
                        have hq4 := hq2.1.2.2.2.2.2.2.2
                        refine WP.blk 2 ?_
                        show (sT S m = 10 ∧ sR S m 0 ≠ 0) ∧ WP 6 169 152 [vR m, vI (f 1), vI (f 6), vI p, v4_72, v5_72, v6_72] [vR (sR S m 0)] (My_297, S) Q
                        refine ⟨⟨hS.1.1, by rw [hS.1.2.1]; omega⟩, ?_⟩
                        rw [hS.1.2.1]
                        refine WP.blk 9 ?_
                        show ((sT S (m + 1) = 11 ∨ sT S (m + 1) = 16 ∨ sT S (m + 1) = 17) ∧ 0 ≤ 6 ∧ 6 < (sN S (m + 1) : Int)) ∧ ir ((My_297 (m + 1) 6) - (f 6)) ∧ sT S m = 10 ∧ WP 6 169 (if cnd .eq (My_297 m 15) (-1) = true then 176 else 167) [vR m, vI (f 1), vI (f 6), vI p, vI ((My_297 (m + 1) 6) - (f 6)), v5_72, v6_72] [] (My_297, S) Q
                        rw [hgy_297]
                        rw [r_299]
                        refine ⟨⟨Or.inl hS.2.1.1, by omega, by rw [hS.2.2.1]; omega⟩, (by unfold ir; omega), hS.1.1, ?_⟩
                        refine br_eq (fun c_308 => ?_) (fun c_308 => ?_)
                        · refine WP.blk 10 ?_
                          show ir ((f 1) - 1) ∧ WP 6 169 (if cnd .ne p ((f 1) - 1) = true then 233 else 195) [vR m, vI (f 1), vI (f 6), vI p, vI ((gy_297 6) - (f 6)), vI 1, v6_72] [] (My_297, S) Q
                          refine ⟨(by unfold ir; omega), ?_⟩
                          refine br_ne (fun c_309 => ?_) (fun c_309 => ?_)
                          · refine WP.blk 5 ?_
                            show ir (p + 1) ∧ WP 6 169 243 [vR m, vI (f 1), vI (f 6), vI (p + 1), vI ((gy_297 6) - (f 6)), vI 1, v6_72] [vI (p + 1), vR m] (My_297, S) Q
                            refine ⟨(by unfold ir; omega), ?_⟩
                            refine WP.cl (a := [vR m, vI (p + 1)]) (rest := []) rfl rfl rfl rfl ⟨hS.1.1, trivial⟩ (by decide) (r_lays hS hgy_297 r_304 r_305 (by omega) (fun My_310 fry_310 hty_310 hhy_310 => ⟨rfl, ?_⟩))
                            show WP 6 169 246 [vR m, vI (f 1), vI (f 6), vI (p + 1), vI ((gy_297 6) - (f 6)), vI 1, v6_72] [] (My_310, S) Q
                            obtain ⟨ty_310, zty_310⟩ : ∃ y9, My_310 (m + 8) = y9 := ⟨_, rfl⟩
                            rw [zty_310] at hty_310
                            obtain ⟨hy_310, zhy_310⟩ : ∃ y9, My_310 (m + 9) = y9 := ⟨_, rfl⟩
                            rw [zhy_310] at hhy_310
                            have r_311 : My_310 (m + 1) = gy_297 := (fry_310 _ (by omega) (by omega)).trans hgy_297
                            have r_312 : My_310 m = o284 := (fry_310 _ (by omega) (by omega)).trans r_299
                            have r_313 : My_310 (m + 3) = ay_220 := (fry_310 _ (by omega) (by omega)).trans r_300
                            have r_314 : My_310 (m + 4) = d1 := (fry_310 _ (by omega) (by omega)).trans r_301
                            have r_315 : My_310 (m + 6) = g_290 := (fry_310 _ (by omega) (by omega)).trans r_302
                            have r_316 : My_310 (m + 7) = c284 := (fry_310 _ (by omega) (by omega)).trans r_303
                            have r_319 : My_310 (m + 10) = b1 := (fry_310 _ (by omega) (by omega)).trans r_306
                            have fr_320 : ∀ r, r ≠ m → r ≠ m + 1 → r ≠ m + 3 → r ≠ m + 4 → r ≠ m + 6 → r ≠ m + 7 → r ≠ m + 8 → r ≠ m + 9 → r ≠ m + 10 → My_310 r = M r := fun r q0 q1 q2 q3 q4 q5 q6 q7 q8 => (fry_310 r q6 q7).trans (fr_307 r q0 q1 q2 q3 q4 q5 q6 q7 q8)
                            refine WP.blk 1 ?_
                            show WP 6 169 72 [vR m, vI (f 1), vI (f 6), vI (p + 1), vI ((gy_297 6) - (f 6)), vI 1, v6_72] [] (My_310, S) Q
                            exact ih_72 (p + 1) (vI ((gy_297 6) - (f 6))) (vI 1) (v6_72) My_310 o284 gy_297 g_290 c284 ty_310 hy_310 b1 (by rw [show o284 15 = o1 15 by omega]; exact osu_push hU hOrd (by omega) rfl hty_310 (by rw [← hW]; exact hhy_310)) (fun k hk => hq3 k hk) (by omega) r_311 r_312 r_313 r_314 r_315 r_316 zty_310 zhy_310 r_319 fr_320 (Nat.lt_of_lt_of_le (ms_push (by omega) hTT (by omega) (by omega) rfl hty_310) (Nat.le_of_lt_succ hm_72))
                          · refine WP.blk 3 ?_
                            show sT S m = 10 ∧ WP 6 169 201 [vR m, vI (f 1), vI (f 6), vI p, vI ((gy_297 6) - (f 6)), vI 1, v6_72] [] (up My_297 m 15 ((gy_297 6) - (f 6)), S) Q
                            refine ⟨hS.1.1, ?_⟩
                            generalize hM_321 : up My_297 m 15 ((gy_297 6) - (f 6)) = M_321
                            have r_322 : M_321 (m + 1) = gy_297 := by rw [← hM_321]; exact (up_row (by omega)).trans hgy_297
                            obtain ⟨g_324, hg_324⟩ : ∃ y9, y9 = uf o284 15 ((gy_297 6) - (f 6)) := ⟨_, rfl⟩
                            have r_323 : M_321 m = g_324 := by rw [← hM_321, hg_324, up_self, r_299]
                            have t_325 : g_324 4 = o284 4 := by rw [hg_324]; exact uf_ne (by omega)
                            have t_326 : g_324 5 = o284 5 := by rw [hg_324]; exact uf_ne (by omega)
                            have t_327 : g_324 7 = o284 7 := by rw [hg_324]; exact uf_ne (by omega)
                            have t_328 : g_324 15 = (gy_297 6) - (f 6) := by rw [hg_324]; exact uf_at _ _ (by omega)
                            have r_329 : M_321 (m + 3) = ay_220 := by rw [← hM_321]; exact (up_row (by omega)).trans r_300
                            have r_330 : M_321 (m + 4) = d1 := by rw [← hM_321]; exact (up_row (by omega)).trans r_301
                            have r_331 : M_321 (m + 6) = g_290 := by rw [← hM_321]; exact (up_row (by omega)).trans r_302
                            have r_332 : M_321 (m + 7) = c284 := by rw [← hM_321]; exact (up_row (by omega)).trans r_303
                            have r_333 : M_321 (m + 8) = g_266 := by rw [← hM_321]; exact (up_row (by omega)).trans r_304
                            have r_334 : M_321 (m + 9) = h1 := by rw [← hM_321]; exact (up_row (by omega)).trans r_305
                            have r_335 : M_321 (m + 10) = b1 := by rw [← hM_321]; exact (up_row (by omega)).trans r_306
                            have fr_336 : ∀ r, r ≠ m → r ≠ m + 1 → r ≠ m + 3 → r ≠ m + 4 → r ≠ m + 6 → r ≠ m + 7 → r ≠ m + 8 → r ≠ m + 9 → r ≠ m + 10 → M_321 r = M r := fun r q0 q1 q2 q3 q4 q5 q6 q7 q8 => by rw [← hM_321]; exact (up_row q0).trans (fr_307 r q0 q1 q2 q3 q4 q5 q6 q7 q8)
                            refine WP.blk 2 ?_
                            show WP 6 169 204 [vR m, vI (f 1), vI (f 6), vI p, vI ((gy_297 6) - (f 6)), vI 1, vI 0] [] (M_321, S) Q
                            have hl_204 : ∀ (n_204 : Nat) (q : Int) (M3 : Nat → Int → Int) (b2 : Int → Int), 0 ≤ q ∧ q ≤ f 1 → b2 = rcp g_266 0 b1 0 q → M3 (m + 1) = gy_297 → M3 m = g_324 → M3 (m + 3) = ay_220 → M3 (m + 4) = d1 → M3 (m + 6) = g_290 → M3 (m + 7) = c284 → M3 (m + 8) = g_266 → M3 (m + 9) = h1 → M3 (m + 10) = b2 → (∀ r, r ≠ m → r ≠ m + 1 → r ≠ m + 3 → r ≠ m + 4 → r ≠ m + 6 → r ≠ m + 7 → r ≠ m + 8 → r ≠ m + 9 → r ≠ m + 10 → M3 r = M r) → (f 1 - q).toNat < n_204 → WP 6 169 204 [vR m, vI (f 1), vI (f 6), vI p, vI ((gy_297 6) - (f 6)), vI 1, vI q] [] (M3, S) Q := by
                              intro n_204
                              induction n_204 with
                              | zero => intro q M3 b2 hb1 hb2 z_204_0 z_204_1 z_204_2 z_204_3 z_204_4 z_204_5 z_204_6 z_204_7 z_204_8 fr_204 hm_204; exact absurd hm_204 (Nat.not_lt_zero _)
                              | succ n_204 ih_204 =>
                                intro q M3 b2 hb1 hb2 z_204_0 z_204_1 z_204_2 z_204_3 z_204_4 z_204_5 z_204_6 z_204_7 z_204_8 fr_204 hm_204
                                refine WP.blk 3 ?_
                                show WP 6 169 (if cnd .ge q (f 1) = true then 230 else 210) [vR m, vI (f 1), vI (f 6), vI p, vI ((gy_297 6) - (f 6)), vI 1, vI q] [] (M3, S) Q
                                refine br_ge (fun c_337 => ?_) (fun c_337 => ?_)
                                · refine WP.blk 2 ?_
                                  show WP 6 169 72 [vR m, vI (f 1), vI (f 6), vI p, vI ((gy_297 6) - (f 6)), vI 1, vI q] [] (M3, S) Q
                                  exact ih_72 p (vI ((gy_297 6) - (f 6))) (vI 1) (vI q) M3 g_324 gy_297 g_290 c284 g_266 h1 b2 (osu_best hR hB.1 hU hOrd (by omega) (fun i a b => by rw [hb2, rcp_in (by omega)]; congr 1; omega) (by rw [← hW]; omega) (by omega)) (fun k hk => hq3 k hk) (by omega) z_204_0 z_204_1 z_204_2 z_204_3 z_204_4 z_204_5 z_204_6 z_204_7 z_204_8 fr_204 (Nat.lt_of_lt_of_le (ms_lt (by omega) hTT (by omega)) (Nat.le_of_lt_succ hm_72))
                                · refine WP.blk 2 ?_
                                  show (sT S m = 10 ∧ sR S m 14 ≠ 0) ∧ WP 6 169 214 [vR m, vI (f 1), vI (f 6), vI p, vI ((gy_297 6) - (f 6)), vI 1, vI q] [vR (sR S m 14)] (M3, S) Q
                                  refine ⟨⟨hS.1.1, by rw [hS.1.2.2.2.2.2.2.2.2.2.2.1]; omega⟩, ?_⟩
                                  rw [hS.1.2.2.2.2.2.2.2.2.2.2.1]
                                  refine WP.blk 3 ?_
                                  show (sT S m = 10 ∧ sR S m 12 ≠ 0) ∧ WP 6 169 220 [vR m, vI (f 1), vI (f 6), vI p, vI ((gy_297 6) - (f 6)), vI 1, vI q] [vR (sR S m 12), vI q, vR (m + 10)] (M3, S) Q
                                  refine ⟨⟨hS.1.1, by rw [hS.1.2.2.2.2.2.2.2.2.1]; omega⟩, ?_⟩
                                  rw [hS.1.2.2.2.2.2.2.2.2.1]
                                  refine WP.blk 3 ?_
                                  show ((sT S (m + 8) = 11 ∨ sT S (m + 8) = 16 ∨ sT S (m + 8) = 17) ∧ 0 ≤ q ∧ q < (sN S (m + 8) : Int)) ∧ (sT S (m + 10) = 11 ∧ 0 ≤ q ∧ q < (sN S (m + 10) : Int)) ∧ WP 6 169 224 [vR m, vI (f 1), vI (f 6), vI p, vI ((gy_297 6) - (f 6)), vI 1, vI q] [] (up M3 (m + 10) q (M3 (m + 8) q), S) Q
                                  rw [z_204_6]
                                  refine ⟨⟨Or.inl hS.2.1.2.2.2.2.2.2.2.1, by omega, by rw [hS.2.2.2.2.2.2.2.2.2.1]; omega⟩, ⟨hS.2.1.2.2.2.2.2.2.2.2.2.1, by omega, by rw [hS.2.2.2.2.2.2.2.2.2.2.2.1]; omega⟩, ?_⟩
                                  generalize hM_338 : up M3 (m + 10) q (g_266 q) = M_338
                                  have r_339 : M_338 (m + 1) = gy_297 := by rw [← hM_338]; exact (up_row (by omega)).trans z_204_0
                                  have r_340 : M_338 m = g_324 := by rw [← hM_338]; exact (up_row (by omega)).trans z_204_1
                                  have r_341 : M_338 (m + 3) = ay_220 := by rw [← hM_338]; exact (up_row (by omega)).trans z_204_2
                                  have r_342 : M_338 (m + 4) = d1 := by rw [← hM_338]; exact (up_row (by omega)).trans z_204_3
                                  have r_343 : M_338 (m + 6) = g_290 := by rw [← hM_338]; exact (up_row (by omega)).trans z_204_4
                                  have r_344 : M_338 (m + 7) = c284 := by rw [← hM_338]; exact (up_row (by omega)).trans z_204_5
                                  have r_345 : M_338 (m + 8) = g_266 := by rw [← hM_338]; exact (up_row (by omega)).trans z_204_6
                                  have r_346 : M_338 (m + 9) = h1 := by rw [← hM_338]; exact (up_row (by omega)).trans z_204_7
                                  obtain ⟨g_348, hg_348⟩ : ∃ y9, y9 = uf b2 q (g_266 q) := ⟨_, rfl⟩
                                  have r_347 : M_338 (m + 10) = g_348 := by rw [← hM_338, hg_348, up_self, z_204_8]
                                  have fr_349 : ∀ r, r ≠ m → r ≠ m + 1 → r ≠ m + 3 → r ≠ m + 4 → r ≠ m + 6 → r ≠ m + 7 → r ≠ m + 8 → r ≠ m + 9 → r ≠ m + 10 → M_338 r = M r := fun r q0 q1 q2 q3 q4 q5 q6 q7 q8 => by rw [← hM_338]; exact (up_row q8).trans (fr_204 r q0 q1 q2 q3 q4 q5 q6 q7 q8)
                                  refine WP.blk 2 ?_
                                  show ir (q + 1) ∧ WP 6 169 204 [vR m, vI (f 1), vI (f 6), vI p, vI ((gy_297 6) - (f 6)), vI 1, vI (q + 1)] [] (M_338, S) Q
                                  refine ⟨(by unfold ir; omega), ?_⟩
                                  exact ih_204 (q + 1) M_338 g_348 (by omega) (by rw [hg_348, hb2]; exact rcp_s hb1.1 (by omega) (by congr 1; omega)) r_339 r_340 r_341 r_342 r_343 r_344 r_345 r_346 r_347 fr_349 (by omega)
                            exact hl_204 _ 0 M_321 b1 (by omega) rcp_0.symm r_322 r_323 r_329 r_330 r_331 r_332 r_333 r_334 r_335 fr_336 (Nat.lt_succ_self _)
                        · refine WP.blk 4 ?_
                          show sT S m = 10 ∧ WP 6 169 (if cnd .ge ((gy_297 6) - (f 6)) (My_297 m 15) = true then 180 else 176) [vR m, vI (f 1), vI (f 6), vI p, vI ((gy_297 6) - (f 6)), v5_72, v6_72] [] (My_297, S) Q
                          rw [r_299]
                          refine ⟨hS.1.1, ?_⟩
                          refine br_ge (fun c_350 => ?_) (fun c_350 => ?_)
                          · refine WP.blk 7 ?_
                            show WP 6 169 72 [vR m, vI (f 1), vI (f 6), vI p, vI ((gy_297 6) - (f 6)), vI 0, v6_72] [] (My_297, S) Q
                            exact ih_72 p (vI ((gy_297 6) - (f 6))) (vI 0) (v6_72) My_297 o284 gy_297 g_290 c284 g_266 h1 b1 (by rw [show o284 15 = o1 15 by omega]; exact osu_cut hR hB.1 hU (by omega) (by omega) (by rw [← hW]; omega)) (fun k hk => hq3 k hk) (by omega) hgy_297 r_299 r_300 r_301 r_302 r_303 r_304 r_305 r_306 fr_307 (Nat.lt_of_lt_of_le (ms_lt (by omega) hTT (by omega)) (Nat.le_of_lt_succ hm_72))
                          · refine WP.blk 10 ?_
                            show ir ((f 1) - 1) ∧ WP 6 169 (if cnd .ne p ((f 1) - 1) = true then 233 else 195) [vR m, vI (f 1), vI (f 6), vI p, vI ((gy_297 6) - (f 6)), vI 1, v6_72] [] (My_297, S) Q
                            refine ⟨(by unfold ir; omega), ?_⟩
                            refine br_ne (fun c_351 => ?_) (fun c_351 => ?_)
                            · refine WP.blk 5 ?_
                              show ir (p + 1) ∧ WP 6 169 243 [vR m, vI (f 1), vI (f 6), vI (p + 1), vI ((gy_297 6) - (f 6)), vI 1, v6_72] [vI (p + 1), vR m] (My_297, S) Q
                              refine ⟨(by unfold ir; omega), ?_⟩
                              refine WP.cl (a := [vR m, vI (p + 1)]) (rest := []) rfl rfl rfl rfl ⟨hS.1.1, trivial⟩ (by decide) (r_lays hS hgy_297 r_304 r_305 (by omega) (fun My_352 fry_352 hty_352 hhy_352 => ⟨rfl, ?_⟩))
                              show WP 6 169 246 [vR m, vI (f 1), vI (f 6), vI (p + 1), vI ((gy_297 6) - (f 6)), vI 1, v6_72] [] (My_352, S) Q
                              obtain ⟨ty_352, zty_352⟩ : ∃ y9, My_352 (m + 8) = y9 := ⟨_, rfl⟩
                              rw [zty_352] at hty_352
                              obtain ⟨hy_352, zhy_352⟩ : ∃ y9, My_352 (m + 9) = y9 := ⟨_, rfl⟩
                              rw [zhy_352] at hhy_352
                              have r_353 : My_352 (m + 1) = gy_297 := (fry_352 _ (by omega) (by omega)).trans hgy_297
                              have r_354 : My_352 m = o284 := (fry_352 _ (by omega) (by omega)).trans r_299
                              have r_355 : My_352 (m + 3) = ay_220 := (fry_352 _ (by omega) (by omega)).trans r_300
                              have r_356 : My_352 (m + 4) = d1 := (fry_352 _ (by omega) (by omega)).trans r_301
                              have r_357 : My_352 (m + 6) = g_290 := (fry_352 _ (by omega) (by omega)).trans r_302
                              have r_358 : My_352 (m + 7) = c284 := (fry_352 _ (by omega) (by omega)).trans r_303
                              have r_361 : My_352 (m + 10) = b1 := (fry_352 _ (by omega) (by omega)).trans r_306
                              have fr_362 : ∀ r, r ≠ m → r ≠ m + 1 → r ≠ m + 3 → r ≠ m + 4 → r ≠ m + 6 → r ≠ m + 7 → r ≠ m + 8 → r ≠ m + 9 → r ≠ m + 10 → My_352 r = M r := fun r q0 q1 q2 q3 q4 q5 q6 q7 q8 => (fry_352 r q6 q7).trans (fr_307 r q0 q1 q2 q3 q4 q5 q6 q7 q8)
                              refine WP.blk 1 ?_
                              show WP 6 169 72 [vR m, vI (f 1), vI (f 6), vI (p + 1), vI ((gy_297 6) - (f 6)), vI 1, v6_72] [] (My_352, S) Q
                              exact ih_72 (p + 1) (vI ((gy_297 6) - (f 6))) (vI 1) (v6_72) My_352 o284 gy_297 g_290 c284 ty_352 hy_352 b1 (by rw [show o284 15 = o1 15 by omega]; exact osu_push hU hOrd (by omega) rfl hty_352 (by rw [← hW]; exact hhy_352)) (fun k hk => hq3 k hk) (by omega) r_353 r_354 r_355 r_356 r_357 r_358 zty_352 zhy_352 r_361 fr_362 (Nat.lt_of_lt_of_le (ms_push (by omega) hTT (by omega) (by omega) rfl hty_352) (Nat.le_of_lt_succ hm_72))
                            · refine WP.blk 3 ?_
                              show sT S m = 10 ∧ WP 6 169 201 [vR m, vI (f 1), vI (f 6), vI p, vI ((gy_297 6) - (f 6)), vI 1, v6_72] [] (up My_297 m 15 ((gy_297 6) - (f 6)), S) Q
                              refine ⟨hS.1.1, ?_⟩
                              generalize hM_363 : up My_297 m 15 ((gy_297 6) - (f 6)) = M_363
                              have r_364 : M_363 (m + 1) = gy_297 := by rw [← hM_363]; exact (up_row (by omega)).trans hgy_297
                              obtain ⟨g_366, hg_366⟩ : ∃ y9, y9 = uf o284 15 ((gy_297 6) - (f 6)) := ⟨_, rfl⟩
                              have r_365 : M_363 m = g_366 := by rw [← hM_363, hg_366, up_self, r_299]
                              have t_367 : g_366 4 = o284 4 := by rw [hg_366]; exact uf_ne (by omega)
                              have t_368 : g_366 5 = o284 5 := by rw [hg_366]; exact uf_ne (by omega)
                              have t_369 : g_366 7 = o284 7 := by rw [hg_366]; exact uf_ne (by omega)
                              have t_370 : g_366 15 = (gy_297 6) - (f 6) := by rw [hg_366]; exact uf_at _ _ (by omega)
                              have r_371 : M_363 (m + 3) = ay_220 := by rw [← hM_363]; exact (up_row (by omega)).trans r_300
                              have r_372 : M_363 (m + 4) = d1 := by rw [← hM_363]; exact (up_row (by omega)).trans r_301
                              have r_373 : M_363 (m + 6) = g_290 := by rw [← hM_363]; exact (up_row (by omega)).trans r_302
                              have r_374 : M_363 (m + 7) = c284 := by rw [← hM_363]; exact (up_row (by omega)).trans r_303
                              have r_375 : M_363 (m + 8) = g_266 := by rw [← hM_363]; exact (up_row (by omega)).trans r_304
                              have r_376 : M_363 (m + 9) = h1 := by rw [← hM_363]; exact (up_row (by omega)).trans r_305
                              have r_377 : M_363 (m + 10) = b1 := by rw [← hM_363]; exact (up_row (by omega)).trans r_306
                              have fr_378 : ∀ r, r ≠ m → r ≠ m + 1 → r ≠ m + 3 → r ≠ m + 4 → r ≠ m + 6 → r ≠ m + 7 → r ≠ m + 8 → r ≠ m + 9 → r ≠ m + 10 → M_363 r = M r := fun r q0 q1 q2 q3 q4 q5 q6 q7 q8 => by rw [← hM_363]; exact (up_row q0).trans (fr_307 r q0 q1 q2 q3 q4 q5 q6 q7 q8)
                              refine WP.blk 2 ?_
                              show WP 6 169 204 [vR m, vI (f 1), vI (f 6), vI p, vI ((gy_297 6) - (f 6)), vI 1, vI 0] [] (M_363, S) Q
                              have hl_204 : ∀ (n_204 : Nat) (q : Int) (M3 : Nat → Int → Int) (b2 : Int → Int), 0 ≤ q ∧ q ≤ f 1 → b2 = rcp g_266 0 b1 0 q → M3 (m + 1) = gy_297 → M3 m = g_366 → M3 (m + 3) = ay_220 → M3 (m + 4) = d1 → M3 (m + 6) = g_290 → M3 (m + 7) = c284 → M3 (m + 8) = g_266 → M3 (m + 9) = h1 → M3 (m + 10) = b2 → (∀ r, r ≠ m → r ≠ m + 1 → r ≠ m + 3 → r ≠ m + 4 → r ≠ m + 6 → r ≠ m + 7 → r ≠ m + 8 → r ≠ m + 9 → r ≠ m + 10 → M3 r = M r) → (f 1 - q).toNat < n_204 → WP 6 169 204 [vR m, vI (f 1), vI (f 6), vI p, vI ((gy_297 6) - (f 6)), vI 1, vI q] [] (M3, S) Q := by
                                intro n_204
                                induction n_204 with
                                | zero => intro q M3 b2 hb1 hb2 z_204_0 z_204_1 z_204_2 z_204_3 z_204_4 z_204_5 z_204_6 z_204_7 z_204_8 fr_204 hm_204; exact absurd hm_204 (Nat.not_lt_zero _)
                                | succ n_204 ih_204 =>
                                  intro q M3 b2 hb1 hb2 z_204_0 z_204_1 z_204_2 z_204_3 z_204_4 z_204_5 z_204_6 z_204_7 z_204_8 fr_204 hm_204
                                  refine WP.blk 3 ?_
                                  show WP 6 169 (if cnd .ge q (f 1) = true then 230 else 210) [vR m, vI (f 1), vI (f 6), vI p, vI ((gy_297 6) - (f 6)), vI 1, vI q] [] (M3, S) Q
                                  refine br_ge (fun c_379 => ?_) (fun c_379 => ?_)
                                  · refine WP.blk 2 ?_
                                    show WP 6 169 72 [vR m, vI (f 1), vI (f 6), vI p, vI ((gy_297 6) - (f 6)), vI 1, vI q] [] (M3, S) Q
                                    exact ih_72 p (vI ((gy_297 6) - (f 6))) (vI 1) (vI q) M3 g_366 gy_297 g_290 c284 g_266 h1 b2 (osu_best hR hB.1 hU hOrd (by omega) (fun i a b => by rw [hb2, rcp_in (by omega)]; congr 1; omega) (by rw [← hW]; omega) (by omega)) (fun k hk => hq3 k hk) (by omega) z_204_0 z_204_1 z_204_2 z_204_3 z_204_4 z_204_5 z_204_6 z_204_7 z_204_8 fr_204 (Nat.lt_of_lt_of_le (ms_lt (by omega) hTT (by omega)) (Nat.le_of_lt_succ hm_72))
                                  · refine WP.blk 2 ?_
                                    show (sT S m = 10 ∧ sR S m 14 ≠ 0) ∧ WP 6 169 214 [vR m, vI (f 1), vI (f 6), vI p, vI ((gy_297 6) - (f 6)), vI 1, vI q] [vR (sR S m 14)] (M3, S) Q
                                    refine ⟨⟨hS.1.1, by rw [hS.1.2.2.2.2.2.2.2.2.2.2.1]; omega⟩, ?_⟩
                                    rw [hS.1.2.2.2.2.2.2.2.2.2.2.1]
                                    refine WP.blk 3 ?_
                                    show (sT S m = 10 ∧ sR S m 12 ≠ 0) ∧ WP 6 169 220 [vR m, vI (f 1), vI (f 6), vI p, vI ((gy_297 6) - (f 6)), vI 1, vI q] [vR (sR S m 12), vI q, vR (m + 10)] (M3, S) Q
                                    refine ⟨⟨hS.1.1, by rw [hS.1.2.2.2.2.2.2.2.2.1]; omega⟩, ?_⟩
                                    rw [hS.1.2.2.2.2.2.2.2.2.1]
                                    refine WP.blk 3 ?_
                                    show ((sT S (m + 8) = 11 ∨ sT S (m + 8) = 16 ∨ sT S (m + 8) = 17) ∧ 0 ≤ q ∧ q < (sN S (m + 8) : Int)) ∧ (sT S (m + 10) = 11 ∧ 0 ≤ q ∧ q < (sN S (m + 10) : Int)) ∧ WP 6 169 224 [vR m, vI (f 1), vI (f 6), vI p, vI ((gy_297 6) - (f 6)), vI 1, vI q] [] (up M3 (m + 10) q (M3 (m + 8) q), S) Q
                                    rw [z_204_6]
                                    refine ⟨⟨Or.inl hS.2.1.2.2.2.2.2.2.2.1, by omega, by rw [hS.2.2.2.2.2.2.2.2.2.1]; omega⟩, ⟨hS.2.1.2.2.2.2.2.2.2.2.2.1, by omega, by rw [hS.2.2.2.2.2.2.2.2.2.2.2.1]; omega⟩, ?_⟩
                                    generalize hM_380 : up M3 (m + 10) q (g_266 q) = M_380
                                    have r_381 : M_380 (m + 1) = gy_297 := by rw [← hM_380]; exact (up_row (by omega)).trans z_204_0
                                    have r_382 : M_380 m = g_366 := by rw [← hM_380]; exact (up_row (by omega)).trans z_204_1
                                    have r_383 : M_380 (m + 3) = ay_220 := by rw [← hM_380]; exact (up_row (by omega)).trans z_204_2
                                    have r_384 : M_380 (m + 4) = d1 := by rw [← hM_380]; exact (up_row (by omega)).trans z_204_3
                                    have r_385 : M_380 (m + 6) = g_290 := by rw [← hM_380]; exact (up_row (by omega)).trans z_204_4
                                    have r_386 : M_380 (m + 7) = c284 := by rw [← hM_380]; exact (up_row (by omega)).trans z_204_5
                                    have r_387 : M_380 (m + 8) = g_266 := by rw [← hM_380]; exact (up_row (by omega)).trans z_204_6
                                    have r_388 : M_380 (m + 9) = h1 := by rw [← hM_380]; exact (up_row (by omega)).trans z_204_7
                                    obtain ⟨g_390, hg_390⟩ : ∃ y9, y9 = uf b2 q (g_266 q) := ⟨_, rfl⟩
                                    have r_389 : M_380 (m + 10) = g_390 := by rw [← hM_380, hg_390, up_self, z_204_8]
                                    have fr_391 : ∀ r, r ≠ m → r ≠ m + 1 → r ≠ m + 3 → r ≠ m + 4 → r ≠ m + 6 → r ≠ m + 7 → r ≠ m + 8 → r ≠ m + 9 → r ≠ m + 10 → M_380 r = M r := fun r q0 q1 q2 q3 q4 q5 q6 q7 q8 => by rw [← hM_380]; exact (up_row q8).trans (fr_204 r q0 q1 q2 q3 q4 q5 q6 q7 q8)
                                    refine WP.blk 2 ?_
                                    show ir (q + 1) ∧ WP 6 169 204 [vR m, vI (f 1), vI (f 6), vI p, vI ((gy_297 6) - (f 6)), vI 1, vI (q + 1)] [] (M_380, S) Q
                                    refine ⟨(by unfold ir; omega), ?_⟩
                                    exact ih_204 (q + 1) M_380 g_390 (by omega) (by rw [hg_390, hb2]; exact rcp_s hb1.1 (by omega) (by congr 1; omega)) r_381 r_382 r_383 r_384 r_385 r_386 r_387 r_388 r_389 fr_391 (by omega)
                              exact hl_204 _ 0 M_363 b1 (by omega) rcp_0.symm r_364 r_365 r_371 r_372 r_373 r_374 r_375 r_376 r_377 fr_378 (Nat.lt_succ_self _)
                  · refine WP.blk 2 ?_
                    show ir (p + (-1)) ∧ WP 6 169 72 [vR m, vI (f 1), vI (f 6), vI (p + (-1)), v4_72, v5_72, v6_72] [] (My_270, S) Q
                    refine ⟨(by unfold ir; omega), ?_⟩
                    exact ih_72 (p + (-1)) (v4_72) (v5_72) (v6_72) My_270 o1 qy_270 g1 c1 g_266 h1 b1 (osu_pop hU (by omega) (by omega)) (fun k hk => hqo k hk) (by omega) hqy_270 r_272 r_273 r_274 r_275 r_276 r_277 r_278 r_279 fr_280 (Nat.lt_of_lt_of_le (ms_pop (by omega) hTT (by omega) (by omega)) (Nat.le_of_lt_succ hm_72))
            exact hl_72 _ 0 (none) (none) (none) My_232 g_206 f g0 c0 ty_232 hy_232 b0 (by rw [show g_206 15 = -1 by omega]; exact Or.inr ⟨by omega, by rw [hty_232, uf_eq]; omega, ⟨fun k a b => by omega, fun q k a b c d => by rw [show q = 0 by omega, sq_0, hhy_232, rcp_in (by omega)]; congr 1; omega⟩, by rw [hty_232, uf_eq]; exact StO_0 (by omega)⟩) (fun k _ => rfl) (by omega) r_233 r_234 r_235 r_236 r_237 r_238 zty_232 zhy_232 r_241 fr_242 (Nat.lt_succ_self _)
          · refine WP.blk 2 ?_
            show (sT S m = 10 ∧ sR S m 3 ≠ 0) ∧ WP 6 169 51 [vR m, vI (f 1), vI (f 6), vI i, none, none, none] [vR (sR S m 3)] (M1, S) Q
            refine ⟨⟨hS.1.1, by rw [hS.1.2.2.2.2.1]; omega⟩, ?_⟩
            rw [hS.1.2.2.2.2.1]
            refine WP.blk 3 ?_
            show (sT S m = 10 ∧ sR S m 0 ≠ 0) ∧ WP 6 169 56 [vR m, vI (f 1), vI (f 6), vI i, none, none, none] [vR (sR S m 0), vI i, vR (m + 4)] (M1, S) Q
            refine ⟨⟨hS.1.1, by rw [hS.1.2.1]; omega⟩, ?_⟩
            rw [hS.1.2.1]
            refine WP.blk 3 ?_
            show ((sT S (m + 1) = 11 ∨ sT S (m + 1) = 16 ∨ sT S (m + 1) = 17) ∧ 0 ≤ i ∧ i < (sN S (m + 1) : Int)) ∧ (sT S (m + 4) = 11 ∧ 0 ≤ i ∧ i < (sN S (m + 4) : Int)) ∧ WP 6 169 59 [vR m, vI (f 1), vI (f 6), vI i, none, none, none] [] (up M1 (m + 4) i (M1 (m + 1) i), S) Q
            rw [z_40_0]
            refine ⟨⟨Or.inl hS.2.1.1, by omega, by rw [hS.2.2.1]; omega⟩, ⟨hS.2.1.2.2.2.1, by omega, by rw [hS.2.2.2.2.2.1]; omega⟩, ?_⟩
            generalize hM_392 : up M1 (m + 4) i (f i) = M_392
            have r_393 : M_392 (m + 1) = f := by rw [← hM_392]; exact (up_row (by omega)).trans z_40_0
            have r_394 : M_392 m = g_206 := by rw [← hM_392]; exact (up_row (by omega)).trans z_40_1
            have r_395 : M_392 (m + 3) = ay_220 := by rw [← hM_392]; exact (up_row (by omega)).trans z_40_2
            obtain ⟨g_397, hg_397⟩ : ∃ y9, y9 = uf d1 i (f i) := ⟨_, rfl⟩
            have r_396 : M_392 (m + 4) = g_397 := by rw [← hM_392, hg_397, up_self, z_40_3]
            have r_398 : M_392 (m + 6) = g0 := by rw [← hM_392]; exact (up_row (by omega)).trans z_40_4
            have r_399 : M_392 (m + 7) = c0 := by rw [← hM_392]; exact (up_row (by omega)).trans z_40_5
            have r_400 : M_392 (m + 8) = t0 := by rw [← hM_392]; exact (up_row (by omega)).trans z_40_6
            have r_401 : M_392 (m + 9) = h0 := by rw [← hM_392]; exact (up_row (by omega)).trans z_40_7
            have r_402 : M_392 (m + 10) = b0 := by rw [← hM_392]; exact (up_row (by omega)).trans z_40_8
            have fr_403 : ∀ r, r ≠ m → r ≠ m + 1 → r ≠ m + 3 → r ≠ m + 4 → r ≠ m + 6 → r ≠ m + 7 → r ≠ m + 8 → r ≠ m + 9 → r ≠ m + 10 → M_392 r = M r := fun r q0 q1 q2 q3 q4 q5 q6 q7 q8 => by rw [← hM_392]; exact (up_row q3).trans (fr_40 r q0 q1 q2 q3 q4 q5 q6 q7 q8)
            refine WP.blk 2 ?_
            show ir (i + 1) ∧ WP 6 169 40 [vR m, vI (f 1), vI (f 6), vI (i + 1), none, none, none] [] (M_392, S) Q
            refine ⟨(by unfold ir; omega), ?_⟩
            exact ih_40 (i + 1) M_392 g_397 (by omega) (by rw [hg_397, i1]; exact rcp_s i0.1 (by omega) (by congr 1; omega)) r_393 r_394 r_395 r_396 r_398 r_399 r_400 r_401 r_402 fr_403 (by omega)
      exact hl_40 _ 0 My_220 d0 (by omega) rcp_0.symm r_221 r_222 hay_220 r_224 r_225 r_226 r_227 r_228 r_229 fr_230 (Nat.lt_succ_self _)
    · refine WP.blk 1 ?_
      show WP 6 169 33 [vR m, vI (f 1), vI (f 6), none, none, none, none] [vI 1] (M_203, S) Q
      exact WP.ret rfl rfl rfl ⟨by omega, trivial⟩ (k _ _ fr_218 r_204 _ _ r_205 r_217 (by omega) (by omega) (by omega) (by rw [show g_206 15 = 0 by omega]; exact BestO_0 (by omega)) (by omega))
set_option maxHeartbeats 4000000 in
theorem r_order {S : SD} {M : Nat → Int → Int} {m : Nat} {f : Int → Int} {o : Int → Int} {i B : Int} (hS : isMod S m) (hf : M (m + 1) = f) (ho : M m = o) (hR : RowOk B f) (hB : 0 ≤ B ∧ B ≤ 1000000000 - 400) {Q : Res → Wd → Prop} (k : ∀ (v : Int) (M2 : Nat → Int → Int), (∀ r, r ≠ m → r ≠ m + 1 → r ≠ m + 3 → r ≠ m + 4 → r ≠ m + 6 → r ≠ m + 7 → r ≠ m + 8 → r ≠ m + 9 → r ≠ m + 10 → M2 r = M r) → M2 (m + 1) = f → ∀ o2, M2 m = o2 → o2 4 = o 4 → o2 7 = o 7 → (o2 5 = 1 ∧ ¬ (0 ≤ i ∧ i < f 1)) ∨ (o2 5 = 2 ∧ (0 ≤ i ∧ i < f 1) ∧ ∃ b, BestO f b (-1)) ∨ (o2 5 = 0 ∧ (0 ≤ i ∧ i < f 1) ∧ ∃ b c, BestO f b c ∧ ¬ c = -1 ∧ v = b i) → Q (0, vI v) (M2, S)) : EvQ 8 170 [vR m, vI i] (M, S) Q := by
  refine EvQ.enter (ls := [vR m, vI i]) (Nat.le_of_ble_eq_true rfl) rfl ?_
  have hA := hR.1
  have hA1 := hA.1
  have hWA := hR.2.1
  have hW1 := hWA.1
  have hI := hR.2.2
  have hI2 := hI.2.1
  have hI3 := hI.2.2.1
  obtain ⟨a0, ha0⟩ : ∃ g, M (m + 3) = g := ⟨_, rfl⟩
  obtain ⟨d0, hd0⟩ : ∃ g, M (m + 4) = g := ⟨_, rfl⟩
  obtain ⟨g0, hg0⟩ : ∃ g, M (m + 6) = g := ⟨_, rfl⟩
  obtain ⟨c0, hc0⟩ : ∃ g, M (m + 7) = g := ⟨_, rfl⟩
  obtain ⟨t0, ht0⟩ : ∃ g, M (m + 8) = g := ⟨_, rfl⟩
  obtain ⟨h0, hh0⟩ : ∃ g, M (m + 9) = g := ⟨_, rfl⟩
  obtain ⟨b0, hb0⟩ : ∃ g, M (m + 10) = g := ⟨_, rfl⟩
  refine WP.blk 3 ?_
  show WP 7 170 3 [vR m, vI i] [vI i, vR m, vR m] (M, S) Q
  refine WP.cl (a := [vR m, vI i]) (rest := [vR m]) rfl rfl rfl rfl ⟨hS.1.1, trivial⟩ (by decide) (r_isWord hS hf (by omega) (fun b_1 hb_1 => ⟨rfl, ?_⟩))
  show WP 7 170 6 [vR m, vI i] [vI b_1, vR m] (M, S) Q
  refine WP.blk 1 ?_
  show WP 7 170 (if cnd .ne b_1 0 = true then 13 else 9) [vR m, vI i] [vR m] (M, S) Q
  refine br_ne (fun c_2 => ?_) (fun c_2 => ?_)
  · have p_1 := (hb_1.resolve_right (fun h => by omega)).2
    refine WP.blk 1 ?_
    show WP 7 170 14 [vR m, vI i] [vR m, vR m] (M, S) Q
    refine WP.cl (a := [vR m]) (rest := [vR m]) rfl rfl rfl rfl ⟨hS.1.1, trivial⟩ (by decide) (r_orders hS hf ho hR hB (fun b_3 M3 fr3 hM3 o3 bb3 ho3 hbb3 t43 t53 t73 hbo3 hb_3 => ⟨rfl, ?_⟩))
    show WP 7 170 17 [vR m, vI i] [vI b_3, vR m] (M3, S) Q
    obtain ⟨g_7, r_6⟩ : ∃ y9, M3 (m + 3) = y9 := ⟨_, rfl⟩
    obtain ⟨g_9, r_8⟩ : ∃ y9, M3 (m + 4) = y9 := ⟨_, rfl⟩
    obtain ⟨g_11, r_10⟩ : ∃ y9, M3 (m + 6) = y9 := ⟨_, rfl⟩
    obtain ⟨g_13, r_12⟩ : ∃ y9, M3 (m + 7) = y9 := ⟨_, rfl⟩
    obtain ⟨g_15, r_14⟩ : ∃ y9, M3 (m + 8) = y9 := ⟨_, rfl⟩
    obtain ⟨g_17, r_16⟩ : ∃ y9, M3 (m + 9) = y9 := ⟨_, rfl⟩
    have fr_19 : ∀ r, r ≠ m → r ≠ m + 1 → r ≠ m + 3 → r ≠ m + 4 → r ≠ m + 6 → r ≠ m + 7 → r ≠ m + 8 → r ≠ m + 9 → r ≠ m + 10 → M3 r = M r := fun r q0 q1 q2 q3 q4 q5 q6 q7 q8 => (fr3 r q0 q1 q2 q3 q4 q5 q6 q7 q8).trans ((fun _ _ _ _ _ _ _ _ _ _ => rfl) r q0 q1 q2 q3 q4 q5 q6 q7 q8)
    refine WP.blk 1 ?_
    show WP 7 170 (if cnd .eq b_3 0 = true then 24 else 20) [vR m, vI i] [vR m] (M3, S) Q
    refine br_eq (fun c_20 => ?_) (fun c_20 => ?_)
    · have p_3 := (hb_3.resolve_left (fun h => by omega)).2
      refine WP.blk 1 ?_
      show WP 7 170 25 [vR m, vI i] [vI 2, vR m] (M3, S) Q
      refine WP.cl (a := [vR m, vI 2]) (rest := []) rfl rfl rfl rfl ⟨hS.1.1, trivial⟩ (by decide) (r_refused hS hM3 ho3 (fun b_21 Mr21 fr21 o21 ho21 h521 hk21 hb_21 => ⟨rfl, ?_⟩))
      show WP 7 170 28 [vR m, vI i] [vI b_21] (Mr21, S) Q
      have r_22 : Mr21 (m + 1) = f := (fr21 _ (by omega)).trans hM3
      have r_24 : Mr21 (m + 3) = g_7 := (fr21 _ (by omega)).trans r_6
      have r_25 : Mr21 (m + 4) = g_9 := (fr21 _ (by omega)).trans r_8
      have r_26 : Mr21 (m + 6) = g_11 := (fr21 _ (by omega)).trans r_10
      have r_27 : Mr21 (m + 7) = g_13 := (fr21 _ (by omega)).trans r_12
      have r_28 : Mr21 (m + 8) = g_15 := (fr21 _ (by omega)).trans r_14
      have r_29 : Mr21 (m + 9) = g_17 := (fr21 _ (by omega)).trans r_16
      have r_30 : Mr21 (m + 10) = bb3 := (fr21 _ (by omega)).trans hbb3
      have fr_31 : ∀ r, r ≠ m → r ≠ m + 1 → r ≠ m + 3 → r ≠ m + 4 → r ≠ m + 6 → r ≠ m + 7 → r ≠ m + 8 → r ≠ m + 9 → r ≠ m + 10 → Mr21 r = M r := fun r q0 q1 q2 q3 q4 q5 q6 q7 q8 => (fr21 r q0).trans (fr_19 r q0 q1 q2 q3 q4 q5 q6 q7 q8)
      have t421 := hk21 4 (by omega)
      have t721 := hk21 7 (by omega)
      refine WP.blk 1 ?_
      show WP 7 170 (if cnd .eq b_21 0 = true then 33 else 31) [vR m, vI i] [] (Mr21, S) Q
      refine br_eq (fun c_32 => ?_) (fun c_32 => ?_)
      · exfalso; omega
      · have p_21 := (hb_21.resolve_right (fun h => by omega)).2
        refine WP.blk 1 ?_
        show WP 7 170 32 [vR m, vI i] [vI 0] (Mr21, S) Q
        exact WP.ret rfl rfl rfl trivial (k _ _ fr_31 r_22 _ ho21 (by omega) (by omega) (Or.inr (Or.inl ⟨by omega, by omega, _, by have e9 := hbo3; rw [show o3 15 = -1 by omega] at e9; exact e9⟩)))
    · have p_3 := (hb_3.resolve_right (fun h => by omega)).2
      refine WP.blk 2 ?_
      show WP 7 170 25 [vR m, vI i] [vI 0, vR m] (M3, S) Q
      refine WP.cl (a := [vR m, vI 0]) (rest := []) rfl rfl rfl rfl ⟨hS.1.1, trivial⟩ (by decide) (r_refused hS hM3 ho3 (fun b_33 Mr33 fr33 o33 ho33 h533 hk33 hb_33 => ⟨rfl, ?_⟩))
      show WP 7 170 28 [vR m, vI i] [vI b_33] (Mr33, S) Q
      have r_34 : Mr33 (m + 1) = f := (fr33 _ (by omega)).trans hM3
      have r_36 : Mr33 (m + 3) = g_7 := (fr33 _ (by omega)).trans r_6
      have r_37 : Mr33 (m + 4) = g_9 := (fr33 _ (by omega)).trans r_8
      have r_38 : Mr33 (m + 6) = g_11 := (fr33 _ (by omega)).trans r_10
      have r_39 : Mr33 (m + 7) = g_13 := (fr33 _ (by omega)).trans r_12
      have r_40 : Mr33 (m + 8) = g_15 := (fr33 _ (by omega)).trans r_14
      have r_41 : Mr33 (m + 9) = g_17 := (fr33 _ (by omega)).trans r_16
      have r_42 : Mr33 (m + 10) = bb3 := (fr33 _ (by omega)).trans hbb3
      have fr_43 : ∀ r, r ≠ m → r ≠ m + 1 → r ≠ m + 3 → r ≠ m + 4 → r ≠ m + 6 → r ≠ m + 7 → r ≠ m + 8 → r ≠ m + 9 → r ≠ m + 10 → Mr33 r = M r := fun r q0 q1 q2 q3 q4 q5 q6 q7 q8 => (fr33 r q0).trans (fr_19 r q0 q1 q2 q3 q4 q5 q6 q7 q8)
      have t433 := hk33 4 (by omega)
      have t733 := hk33 7 (by omega)
      refine WP.blk 1 ?_
      show WP 7 170 (if cnd .eq b_33 0 = true then 33 else 31) [vR m, vI i] [] (Mr33, S) Q
      refine br_eq (fun c_44 => ?_) (fun c_44 => ?_)
      · have p_33 := (hb_33.resolve_left (fun h => by omega)).2
        refine WP.blk 2 ?_
        show (sT S m = 10 ∧ sR S m 14 ≠ 0) ∧ WP 7 170 37 [vR m, vI i] [vR (sR S m 14)] (Mr33, S) Q
        refine ⟨⟨hS.1.1, by rw [hS.1.2.2.2.2.2.2.2.2.2.2.1]; omega⟩, ?_⟩
        rw [hS.1.2.2.2.2.2.2.2.2.2.2.1]
        refine WP.blk 2 ?_
        show ((sT S (m + 10) = 11 ∨ sT S (m + 10) = 16 ∨ sT S (m + 10) = 17) ∧ 0 ≤ i ∧ i < (sN S (m + 10) : Int)) ∧ WP 7 170 39 [vR m, vI i] [vI (Mr33 (m + 10) i)] (Mr33, S) Q
        rw [r_42]
        refine ⟨⟨Or.inl hS.2.1.2.2.2.2.2.2.2.2.2.1, by omega, by rw [hS.2.2.2.2.2.2.2.2.2.2.2.1]; omega⟩, ?_⟩
        exact WP.ret rfl rfl rfl trivial (k _ _ fr_43 r_34 _ ho33 (by omega) (by omega) (Or.inr (Or.inr ⟨by omega, by omega, _, _, hbo3, by omega, rfl⟩)))
      · exfalso; omega
  · have p_1 := (hb_1.resolve_left (fun h => by omega)).2
    refine WP.blk 2 ?_
    show WP 7 170 25 [vR m, vI i] [vI 1, vR m] (M, S) Q
    refine WP.cl (a := [vR m, vI 1]) (rest := []) rfl rfl rfl rfl ⟨hS.1.1, trivial⟩ (by decide) (r_refused hS hf ho (fun b_45 Mr45 fr45 o45 ho45 h545 hk45 hb_45 => ⟨rfl, ?_⟩))
    show WP 7 170 28 [vR m, vI i] [vI b_45] (Mr45, S) Q
    have r_46 : Mr45 (m + 1) = f := (fr45 _ (by omega)).trans hf
    have r_48 : Mr45 (m + 3) = a0 := (fr45 _ (by omega)).trans ha0
    have r_49 : Mr45 (m + 4) = d0 := (fr45 _ (by omega)).trans hd0
    have r_50 : Mr45 (m + 6) = g0 := (fr45 _ (by omega)).trans hg0
    have r_51 : Mr45 (m + 7) = c0 := (fr45 _ (by omega)).trans hc0
    have r_52 : Mr45 (m + 8) = t0 := (fr45 _ (by omega)).trans ht0
    have r_53 : Mr45 (m + 9) = h0 := (fr45 _ (by omega)).trans hh0
    have r_54 : Mr45 (m + 10) = b0 := (fr45 _ (by omega)).trans hb0
    have fr_55 : ∀ r, r ≠ m → r ≠ m + 1 → r ≠ m + 3 → r ≠ m + 4 → r ≠ m + 6 → r ≠ m + 7 → r ≠ m + 8 → r ≠ m + 9 → r ≠ m + 10 → Mr45 r = M r := fun r q0 q1 q2 q3 q4 q5 q6 q7 q8 => (fr45 r q0).trans ((fun _ _ _ _ _ _ _ _ _ _ => rfl) r q0 q1 q2 q3 q4 q5 q6 q7 q8)
    have t445 := hk45 4 (by omega)
    have t745 := hk45 7 (by omega)
    refine WP.blk 1 ?_
    show WP 7 170 (if cnd .eq b_45 0 = true then 33 else 31) [vR m, vI i] [] (Mr45, S) Q
    refine br_eq (fun c_56 => ?_) (fun c_56 => ?_)
    · exfalso; omega
    · have p_45 := (hb_45.resolve_right (fun h => by omega)).2
      refine WP.blk 1 ?_
      show WP 7 170 32 [vR m, vI i] [vI 0] (Mr45, S) Q
      exact WP.ret rfl rfl rfl trivial (k _ _ fr_55 r_46 _ ho45 (by omega) (by omega) (Or.inl ⟨by omega, by omega⟩))
set_option maxHeartbeats 4000000 in
theorem r_leastCleanings {S : SD} {M : Nat → Int → Int} {m : Nat} {f : Int → Int} {o : Int → Int} {B : Int} (hS : isMod S m) (hf : M (m + 1) = f) (ho : M m = o) (hR : RowOk B f) (hB : 0 ≤ B ∧ B ≤ 1000000000 - 400) {Q : Res → Wd → Prop} (k : ∀ (v : Int) (M2 : Nat → Int → Int), (∀ r, r ≠ m → r ≠ m + 1 → r ≠ m + 3 → r ≠ m + 4 → r ≠ m + 6 → r ≠ m + 7 → r ≠ m + 8 → r ≠ m + 9 → r ≠ m + 10 → M2 r = M r) → M2 (m + 1) = f → ∀ o2, M2 m = o2 → o2 4 = o 4 → o2 7 = o 7 → (o2 5 = 0 ∧ ∃ b, BestO f b v) → Q (0, vI v) (M2, S)) : EvQ 8 171 [vR m] (M, S) Q := by
  refine EvQ.enter (ls := [vR m]) (Nat.le_of_ble_eq_true rfl) rfl ?_
  have hA := hR.1
  have hA1 := hA.1
  have hWA := hR.2.1
  have hW1 := hWA.1
  have hI := hR.2.2
  have hI2 := hI.2.1
  have hI3 := hI.2.2.1
  obtain ⟨a0, ha0⟩ : ∃ g, M (m + 3) = g := ⟨_, rfl⟩
  obtain ⟨d0, hd0⟩ : ∃ g, M (m + 4) = g := ⟨_, rfl⟩
  obtain ⟨g0, hg0⟩ : ∃ g, M (m + 6) = g := ⟨_, rfl⟩
  obtain ⟨c0, hc0⟩ : ∃ g, M (m + 7) = g := ⟨_, rfl⟩
  obtain ⟨t0, ht0⟩ : ∃ g, M (m + 8) = g := ⟨_, rfl⟩
  obtain ⟨h0, hh0⟩ : ∃ g, M (m + 9) = g := ⟨_, rfl⟩
  obtain ⟨b0, hb0⟩ : ∃ g, M (m + 10) = g := ⟨_, rfl⟩
  refine WP.blk 3 ?_
  show sT S m = 10 ∧ WP 7 171 5 [vR m] [] (up M m 5 0, S) Q
  refine ⟨hS.1.1, ?_⟩
  generalize hM_1 : up M m 5 0 = M_1
  have r_2 : M_1 (m + 1) = f := by rw [← hM_1]; exact (up_row (by omega)).trans hf
  obtain ⟨g_4, hg_4⟩ : ∃ y9, y9 = uf o 5 0 := ⟨_, rfl⟩
  have r_3 : M_1 m = g_4 := by rw [← hM_1, hg_4, up_self, ho]
  have t_5 : g_4 4 = o 4 := by rw [hg_4]; exact uf_ne (by omega)
  have t_6 : g_4 5 = 0 := by rw [hg_4]; exact uf_at _ _ (by omega)
  have t_7 : g_4 7 = o 7 := by rw [hg_4]; exact uf_ne (by omega)
  have r_8 : M_1 (m + 3) = a0 := by rw [← hM_1]; exact (up_row (by omega)).trans ha0
  have r_9 : M_1 (m + 4) = d0 := by rw [← hM_1]; exact (up_row (by omega)).trans hd0
  have r_10 : M_1 (m + 6) = g0 := by rw [← hM_1]; exact (up_row (by omega)).trans hg0
  have r_11 : M_1 (m + 7) = c0 := by rw [← hM_1]; exact (up_row (by omega)).trans hc0
  have r_12 : M_1 (m + 8) = t0 := by rw [← hM_1]; exact (up_row (by omega)).trans ht0
  have r_13 : M_1 (m + 9) = h0 := by rw [← hM_1]; exact (up_row (by omega)).trans hh0
  have r_14 : M_1 (m + 10) = b0 := by rw [← hM_1]; exact (up_row (by omega)).trans hb0
  have fr_15 : ∀ r, r ≠ m → r ≠ m + 1 → r ≠ m + 3 → r ≠ m + 4 → r ≠ m + 6 → r ≠ m + 7 → r ≠ m + 8 → r ≠ m + 9 → r ≠ m + 10 → M_1 r = M r := fun r q0 q1 q2 q3 q4 q5 q6 q7 q8 => by rw [← hM_1]; exact (up_row q0).trans ((fun _ _ _ _ _ _ _ _ _ _ => rfl) r q0 q1 q2 q3 q4 q5 q6 q7 q8)
  refine WP.blk 1 ?_
  show WP 7 171 6 [vR m] [vR m] (M_1, S) Q
  refine WP.cl (a := [vR m]) (rest := []) rfl rfl rfl rfl ⟨hS.1.1, trivial⟩ (by decide) (r_orders hS r_2 r_3 hR hB (fun b_16 M16 fr16 hM16 o16 bb16 ho16 hbb16 t416 t516 t716 hbo16 hb_16 => ⟨rfl, ?_⟩))
  show WP 7 171 9 [vR m] [vI b_16] (M16, S) Q
  obtain ⟨g_20, r_19⟩ : ∃ y9, M16 (m + 3) = y9 := ⟨_, rfl⟩
  obtain ⟨g_22, r_21⟩ : ∃ y9, M16 (m + 4) = y9 := ⟨_, rfl⟩
  obtain ⟨g_24, r_23⟩ : ∃ y9, M16 (m + 6) = y9 := ⟨_, rfl⟩
  obtain ⟨g_26, r_25⟩ : ∃ y9, M16 (m + 7) = y9 := ⟨_, rfl⟩
  obtain ⟨g_28, r_27⟩ : ∃ y9, M16 (m + 8) = y9 := ⟨_, rfl⟩
  obtain ⟨g_30, r_29⟩ : ∃ y9, M16 (m + 9) = y9 := ⟨_, rfl⟩
  have fr_32 : ∀ r, r ≠ m → r ≠ m + 1 → r ≠ m + 3 → r ≠ m + 4 → r ≠ m + 6 → r ≠ m + 7 → r ≠ m + 8 → r ≠ m + 9 → r ≠ m + 10 → M16 r = M r := fun r q0 q1 q2 q3 q4 q5 q6 q7 q8 => (fr16 r q0 q1 q2 q3 q4 q5 q6 q7 q8).trans (fr_15 r q0 q1 q2 q3 q4 q5 q6 q7 q8)
  refine WP.blk 1 ?_
  show WP 7 171 (if cnd .eq b_16 0 = true then 19 else 12) [vR m] [] (M16, S) Q
  refine br_eq (fun c_33 => ?_) (fun c_33 => ?_)
  · have p_16 := (hb_16.resolve_left (fun h => by omega)).2
    refine WP.blk 1 ?_
    show WP 7 171 20 [vR m] [vI (-1)] (M16, S) Q
    exact WP.ret rfl rfl rfl trivial (k _ _ fr_32 hM16 _ ho16 (by omega) (by omega) ⟨by omega, _, by have e9 := hbo16; rw [show o16 15 = -1 by omega] at e9; exact e9⟩)
  · have p_16 := (hb_16.resolve_right (fun h => by omega)).2
    refine WP.blk 3 ?_
    show sT S m = 10 ∧ WP 7 171 20 [vR m] [vI (M16 m 15)] (M16, S) Q
    rw [ho16]
    refine ⟨hS.1.1, ?_⟩
    exact WP.ret rfl rfl rfl trivial (k _ _ fr_32 hM16 _ ho16 (by omega) (by omega) ⟨by omega, _, hbo16⟩)
