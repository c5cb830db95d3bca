set_option maxHeartbeats 4000000 in
theorem r_part {S : SD} {M : Nat → Int → Int} {m : Nat} {f : Int → Int} {o : Int → Int} {a most B : Int} (hS : isMod S m) (hf : M (m + 1) = f) (ho : M m = o) (hR : RowOk B f) (hB : 0 ≤ B ∧ B ≤ 1000000000 - 200) (ha : 0 ≤ a ∧ a ≤ 3) (hm : 1 ≤ most ∧ most ≤ 5) {Q : Res → Wd → Prop} (k : ∀ (v : Int) (M2 : Nat → Int → Int), (∀ r, r ≠ m + 1 → r ≠ m + 3 → r ≠ m + 6 → r ≠ m + 11 → M2 r = M r) → M2 (m + 1) = f → PartV f a most v → Q (0, vI v) (M2, S)) : EvQ 6 173 [vR m, vI a, vI most] (M, S) Q := by
  refine EvQ.enter (ls := [vR m, vI a, vI most, none, none, none, none, none, none]) (Nat.le_of_ble_eq_true rfl) rfl ?_
  have hA := hR.1
  have hA1 := hA.1
  have hWA := hR.2.1
  have hW1 := hWA.1
  have hI := hR.2.2
  have hI2 := hI.2.1
  have hI3 := hI.2.2.1
  obtain ⟨g0, hg0⟩ : ∃ g, M (m + 6) = g := ⟨_, rfl⟩
  obtain ⟨a0, ha0⟩ : ∃ g, M (m + 3) = g := ⟨_, rfl⟩
  obtain ⟨bp, hbp⟩ : ∃ g, M (m + 11) = g := ⟨_, rfl⟩
  refine WP.blk 2 ?_
  show (sT S m = 10 ∧ sR S m 0 ≠ 0) ∧ WP 5 173 4 [vR m, vI a, vI most, none, none, none, none, none, none] [vR (sR S m 0)] (M, S) Q
  refine ⟨⟨hS.1.1, by rw [hS.1.2.1]; omega⟩, ?_⟩
  rw [hS.1.2.1]
  refine WP.blk 3 ?_
  show ((sT S (m + 1) = 11 ∨ sT S (m + 1) = 16 ∨ sT S (m + 1) = 17) ∧ 0 ≤ 1 ∧ 1 < (sN S (m + 1) : Int)) ∧ WP 5 173 (if cnd .eq (M (m + 1) 1) 0 = true then 20 else 9) [vR m, vI a, vI most, none, none, none, none, none, none] [] (M, S) Q
  rw [hf]
  refine ⟨⟨Or.inl hS.2.1.1, by omega, by rw [hS.2.2.1]; omega⟩, ?_⟩
  refine br_eq (fun c_1 => ?_) (fun c_1 => ?_)
  · refine WP.blk 1 ?_
    show WP 5 173 21 [vR m, vI a, vI most, none, none, none, none, none, none] [vI (-1)] (M, S) Q
    exact WP.ret rfl rfl rfl trivial (k _ _ (fun _ _ _ _ _ => rfl) hf (Or.inl ⟨by omega, rfl⟩))
  · refine WP.blk 2 ?_
    show (sT S m = 10 ∧ sR S m 0 ≠ 0) ∧ WP 5 173 13 [vR m, vI a, vI most, none, none, none, none, none, none] [vR (sR S m 0)] (M, S) Q
    refine ⟨⟨hS.1.1, by rw [hS.1.2.1]; omega⟩, ?_⟩
    rw [hS.1.2.1]
    refine WP.blk 4 ?_
    show ((sT S (m + 1) = 11 ∨ sT S (m + 1) = 16 ∨ sT S (m + 1) = 17) ∧ 0 ≤ 0 ∧ 0 < (sN S (m + 1) : Int)) ∧ WP 5 173 (if cnd .ne (M (m + 1) 0) 10 = true then 22 else 20) [vR m, vI a, vI most, none, none, none, none, none, none] [] (M, S) Q
    rw [hf]
    refine ⟨⟨Or.inl hS.2.1.1, by omega, by rw [hS.2.2.1]; omega⟩, ?_⟩
    refine br_ne (fun c_2 => ?_) (fun c_2 => ?_)
    · refine WP.blk 1 ?_
      show WP 5 173 23 [vR m, vI a, vI most, none, none, none, none, none, none] [vR m] (M, S) Q
      refine WP.cl (a := [vR m]) (rest := []) rfl rfl rfl rfl ⟨hS.1.1, trivial⟩ (by decide) (r_keeps hS hf ha0 (fun My_3 fry_3 hMy_3 => ⟨rfl, ?_⟩))
      show WP 5 173 26 [vR m, vI a, vI most, none, none, none, none, none, none] [] (My_3, S) Q
      obtain ⟨ay_3, hay_3⟩ : ∃ y9, My_3 (m + 3) = y9 := ⟨_, rfl⟩
      rw [hay_3] at hMy_3
      have r_4 : My_3 (m + 1) = f := (fry_3 _ (by omega)).trans hf
      have r_5 : My_3 m = o := (fry_3 _ (by omega)).trans ho
      have r_7 : My_3 (m + 6) = g0 := (fry_3 _ (by omega)).trans hg0
      have r_8 : My_3 (m + 11) = bp := (fry_3 _ (by omega)).trans hbp
      have fr_9 : ∀ r, r ≠ m + 1 → r ≠ m + 3 → r ≠ m + 6 → r ≠ m + 11 → My_3 r = M r := fun r q0 q1 q2 q3 => (fry_3 r q1).trans ((fun _ _ _ _ _ => rfl) r q0 q1 q2 q3)
      refine WP.blk 1 ?_
      show WP 5 173 27 [vR m, vI a, vI most, none, none, none, none, none, none] [vR m] (My_3, S) Q
      refine WP.cl (a := [vR m]) (rest := []) rfl rfl rfl rfl ⟨hS.1.1, trivial⟩ (by decide) (r_allPresses hS r_4 hR (fun vy_10 My_10 fry_10 hvy_10 hvry_10 => ⟨rfl, ?_⟩))
      show WP 5 173 30 [vR m, vI a, vI most, none, none, none, none, none, none] [vI vy_10] (My_10, S) Q
      have r_11 : My_10 (m + 1) = f := (fry_10 _ (by omega)).trans r_4
      have r_12 : My_10 m = o := (fry_10 _ (by omega)).trans r_5
      have r_13 : My_10 (m + 3) = ay_3 := (fry_10 _ (by omega)).trans hay_3
      obtain ⟨g_15, r_14⟩ : ∃ y9, My_10 (m + 6) = y9 := ⟨_, rfl⟩
      have r_16 : My_10 (m + 11) = bp := (fry_10 _ (by omega)).trans r_8
      have fr_17 : ∀ r, r ≠ m + 1 → r ≠ m + 3 → r ≠ m + 6 → r ≠ m + 11 → My_10 r = M r := fun r q0 q1 q2 q3 => (fry_10 r q2).trans (fr_9 r q0 q1 q2 q3)
      refine WP.blk 3 ?_
      show (sT S m = 10 ∧ sR S m 16 ≠ 0) ∧ WP 5 173 35 [vR m, vI a, vI most, vI vy_10, none, none, none, none, none] [vR (sR S m 16)] (My_10, S) Q
      refine ⟨⟨hS.1.1, by rw [hS.1.2.2.2.2.2.2.2.2.2.2.2]; omega⟩, ?_⟩
      rw [hS.1.2.2.2.2.2.2.2.2.2.2.2]
      refine WP.blk 3 ?_
      show (sT S (m + 11) = 11 ∧ 0 ≤ 3 ∧ 3 < (sN S (m + 11) : Int)) ∧ WP 5 173 38 [vR m, vI a, vI most, vI vy_10, none, none, none, none, none] [] (up My_10 (m + 11) 3 (-1), S) Q
      refine ⟨⟨hS.2.1.2.2.2.2.2.2.2.2.2.2, by omega, by rw [hS.2.2.2.2.2.2.2.2.2.2.2.2]; omega⟩, ?_⟩
      generalize hM_18 : up My_10 (m + 11) 3 (-1) = M_18
      have r_19 : M_18 (m + 1) = f := by rw [← hM_18]; exact (up_row (by omega)).trans r_11
      have r_20 : M_18 m = o := by rw [← hM_18]; exact (up_row (by omega)).trans r_12
      have r_21 : M_18 (m + 3) = ay_3 := by rw [← hM_18]; exact (up_row (by omega)).trans r_13
      have r_22 : M_18 (m + 6) = g_15 := by rw [← hM_18]; exact (up_row (by omega)).trans r_14
      obtain ⟨g_24, hg_24⟩ : ∃ y9, y9 = uf bp 3 (-1) := ⟨_, rfl⟩
      have r_23 : M_18 (m + 11) = g_24 := by rw [← hM_18, hg_24, up_self, r_16]
      have t_25 : g_24 0 = bp 0 := by rw [hg_24]; exact uf_ne (by omega)
      have t_26 : g_24 1 = bp 1 := by rw [hg_24]; exact uf_ne (by omega)
      have t_27 : g_24 2 = bp 2 := by rw [hg_24]; exact uf_ne (by omega)
      have t_28 : g_24 3 = (-1) := by rw [hg_24]; exact uf_at _ _ (by omega)
      have fr_29 : ∀ r, r ≠ m + 1 → r ≠ m + 3 → r ≠ m + 6 → r ≠ m + 11 → M_18 r = M r := fun r q0 q1 q2 q3 => by rw [← hM_18]; exact (up_row q3).trans (fr_17 r q0 q1 q2 q3)
      refine WP.blk 2 ?_
      show WP 5 173 41 [vR m, vI a, vI most, vI vy_10, vI 0, none, none, none, none] [] (M_18, S) Q
      have hl_41 : ∀ (n_41 : Nat) (w : Int) (v5_41 : V) (v6_41 : V) (v7_41 : V) (v8_41 : V) (M1 : Nat → Int → Int) (g1 : Int → Int) (b1 : Int → Int), 0 ≤ w ∧ w ≤ f 1 → BstI f most w 0 1 (b1 0) (b1 1) (b1 2) (b1 3) → M1 (m + 1) = f → M1 m = o → M1 (m + 3) = ay_3 → M1 (m + 6) = g1 → M1 (m + 11) = b1 → (∀ r, r ≠ m + 1 → r ≠ m + 3 → r ≠ m + 6 → r ≠ m + 11 → M1 r = M r) → (f 1 - w).toNat < n_41 → WP 5 173 41 [vR m, vI a, vI most, vI vy_10, vI w, v5_41, v6_41, v7_41, v8_41] [] (M1, S) Q := by
        intro n_41
        induction n_41 with
        | zero => intro w v5_41 v6_41 v7_41 v8_41 M1 g1 b1 h0 h1 z_41_0 z_41_1 z_41_2 z_41_3 z_41_4 fr_41 hm_41; exact absurd hm_41 (Nat.not_lt_zero _)
        | succ n_41 ih_41 =>
          intro w v5_41 v6_41 v7_41 v8_41 M1 g1 b1 h0 h1 z_41_0 z_41_1 z_41_2 z_41_3 z_41_4 fr_41 hm_41
          have hw9 : w < f 1 → 1 ≤ f (97 + 14 * w) ∧ f (97 + 14 * w) ≤ 12 := fun h => ⟨(hWA.2 w h0.1 h).1.2.2.1, (hWA.2 w h0.1 h).1.2.2.2.1⟩
          refine WP.blk 3 ?_
          show (sT S m = 10 ∧ sR S m 0 ≠ 0) ∧ WP 5 173 47 [vR m, vI a, vI most, vI vy_10, vI w, v5_41, v6_41, v7_41, v8_41] [vR (sR S m 0), vI w] (M1, S) Q
          refine ⟨⟨hS.1.1, by rw [hS.1.2.1]; omega⟩, ?_⟩
          rw [hS.1.2.1]
          refine WP.blk 3 ?_
          show ((sT S (m + 1) = 11 ∨ sT S (m + 1) = 16 ∨ sT S (m + 1) = 17) ∧ 0 ≤ 1 ∧ 1 < (sN S (m + 1) : Int)) ∧ WP 5 173 (if cnd .ge w (M1 (m + 1) 1) = true then 177 else 52) [vR m, vI a, vI most, vI vy_10, vI w, v5_41, v6_41, v7_41, v8_41] [] (M1, S) Q
          rw [z_41_0]
          refine ⟨⟨Or.inl hS.2.1.1, by omega, by rw [hS.2.2.1]; omega⟩, ?_⟩
          refine br_ge (fun c_30 => ?_) (fun c_30 => ?_)
          · refine WP.blk 2 ?_
            show (sT S m = 10 ∧ sR S m 16 ≠ 0) ∧ WP 5 173 181 [vR m, vI a, vI most, vI vy_10, vI w, v5_41, v6_41, v7_41, v8_41] [vR (sR S m 16)] (M1, S) Q
            refine ⟨⟨hS.1.1, by rw [hS.1.2.2.2.2.2.2.2.2.2.2.2]; omega⟩, ?_⟩
            rw [hS.1.2.2.2.2.2.2.2.2.2.2.2]
            refine WP.blk 2 ?_
            show ((sT S (m + 11) = 11 ∨ sT S (m + 11) = 16 ∨ sT S (m + 11) = 17) ∧ 0 ≤ a ∧ a < (sN S (m + 11) : Int)) ∧ WP 5 173 183 [vR m, vI a, vI most, vI vy_10, vI w, v5_41, v6_41, v7_41, v8_41] [vI (M1 (m + 11) a)] (M1, S) Q
            rw [z_41_4]
            refine ⟨⟨Or.inl hS.2.1.2.2.2.2.2.2.2.2.2.2, by omega, by rw [hS.2.2.2.2.2.2.2.2.2.2.2.2]; omega⟩, ?_⟩
            exact WP.ret rfl rfl rfl trivial (k _ _ fr_41 z_41_0 (Or.inr ⟨by omega, _, _, _, _, (by have e9 := h1; rw [show w = f 1 by omega] at e9; exact e9), by rcases (show a = 0 ∨ a = 1 ∨ a = 2 ∨ a = 3 by omega) with e | e | e | e <;> (subst e; rfl)⟩))
          · refine WP.blk 2 ?_
            show WP 5 173 55 [vR m, vI a, vI most, vI vy_10, vI w, vI 0, v6_41, v7_41, v8_41] [] (M1, S) Q
            have hl_55 : ∀ (n_55 : Nat) (p : Int) (v6_55 : V) (v7_55 : V) (v8_55 : V) (M2 : Nat → Int → Int) (g2 : Int → Int) (b2 : Int → Int), 0 ≤ p ∧ p ≤ f (97 + 14 * w) → BstI f most w p 1 (b2 0) (b2 1) (b2 2) (b2 3) → M2 (m + 1) = f → M2 m = o → M2 (m + 3) = ay_3 → M2 (m + 6) = g2 → M2 (m + 11) = b2 → (∀ r, r ≠ m + 1 → r ≠ m + 3 → r ≠ m + 6 → r ≠ m + 11 → M2 r = M r) → (f (97 + 14 * w) - p).toNat < n_55 → WP 5 173 55 [vR m, vI a, vI most, vI vy_10, vI w, vI p, v6_55, v7_55, v8_55] [] (M2, S) Q := by
              intro n_55
              induction n_55 with
              | zero => intro p v6_55 v7_55 v8_55 M2 g2 b2 h2 h3 z_55_0 z_55_1 z_55_2 z_55_3 z_55_4 fr_55 hm_55; exact absurd hm_55 (Nat.not_lt_zero _)
              | succ n_55 ih_55 =>
                intro p v6_55 v7_55 v8_55 M2 g2 b2 h2 h3 z_55_0 z_55_1 z_55_2 z_55_3 z_55_4 fr_55 hm_55
                refine WP.blk 3 ?_
                show (sT S m = 10 ∧ sR S m 0 ≠ 0) ∧ WP 5 173 61 [vR m, vI a, vI most, vI vy_10, vI w, vI p, v6_55, v7_55, v8_55] [vR (sR S m 0), vI p] (M2, S) Q
                refine ⟨⟨hS.1.1, by rw [hS.1.2.1]; omega⟩, ?_⟩
                rw [hS.1.2.1]
                refine WP.blk 1 ?_
                show WP 5 173 63 [vR m, vI a, vI most, vI vy_10, vI w, vI p, v6_55, v7_55, v8_55] [vI w, vR (m + 1), vI p] (M2, S) Q
                refine WP.cl (a := [vI w]) (rest := [vR (m + 1), vI p]) rfl rfl rfl rfl trivial (by decide) (q_wordAt (by omega) ⟨rfl, ?_⟩)
                show WP 5 173 66 [vR m, vI a, vI most, vI vy_10, vI w, vI p, v6_55, v7_55, v8_55] [vI (97 + 14 * w), vR (m + 1), vI p] (M2, S) Q
                refine WP.blk 2 ?_
                show ((sT S (m + 1) = 11 ∨ sT S (m + 1) = 16 ∨ sT S (m + 1) = 17) ∧ 0 ≤ (97 + 14 * w) ∧ (97 + 14 * w) < (sN S (m + 1) : Int)) ∧ WP 5 173 (if cnd .ge p (M2 (m + 1) (97 + 14 * w)) = true then 171 else 70) [vR m, vI a, vI most, vI vy_10, vI w, vI p, v6_55, v7_55, v8_55] [] (M2, S) Q
                rw [z_55_0]
                refine ⟨⟨Or.inl hS.2.1.1, by omega, by rw [hS.2.2.1]; omega⟩, ?_⟩
                refine br_ge (fun c_31 => ?_) (fun c_31 => ?_)
                · refine WP.blk 2 ?_
                  show ir (w + 1) ∧ WP 5 173 41 [vR m, vI a, vI most, vI vy_10, vI (w + 1), vI p, v6_55, v7_55, v8_55] [] (M2, S) Q
                  refine ⟨(by unfold ir; omega), ?_⟩
                  exact ih_41 (w + 1) (vI p) (v6_55) (v7_55) (v8_55) M2 g2 b2 (by omega) (BstI_w h3 (by omega)) z_55_0 z_55_1 z_55_2 z_55_3 z_55_4 fr_55 (by omega)
                · refine WP.blk 2 ?_
                  show WP 5 173 73 [vR m, vI a, vI most, vI vy_10, vI w, vI p, vI 1, v7_55, v8_55] [] (M2, S) Q
                  have hl_73 : ∀ (n_73 : Nat) (n : Int) (v7_73 : V) (v8_73 : V) (M3 : Nat → Int → Int) (g3 : Int → Int) (b3 : Int → Int), 1 ≤ n ∧ n ≤ 6 → BstI f most w p n (b3 0) (b3 1) (b3 2) (b3 3) → M3 (m + 1) = f → M3 m = o → M3 (m + 3) = ay_3 → M3 (m + 6) = g3 → M3 (m + 11) = b3 → (∀ r, r ≠ m + 1 → r ≠ m + 3 → r ≠ m + 6 → r ≠ m + 11 → M3 r = M r) → (6 - n).toNat < n_73 → WP 5 173 73 [vR m, vI a, vI most, vI vy_10, vI w, vI p, vI n, v7_73, v8_73] [] (M3, S) Q := by
                    intro n_73
                    induction n_73 with
                    | zero => intro n v7_73 v8_73 M3 g3 b3 h4 h5 z_73_0 z_73_1 z_73_2 z_73_3 z_73_4 fr_73 hm_73; exact absurd hm_73 (Nat.not_lt_zero _)
                    | succ n_73 ih_73 =>
                      intro n v7_73 v8_73 M3 g3 b3 h4 h5 z_73_0 z_73_1 z_73_2 z_73_3 z_73_4 fr_73 hm_73
                      refine WP.blk 3 ?_
                      show WP 5 173 (if cnd .gt n most = true then 165 else 79) [vR m, vI a, vI most, vI vy_10, vI w, vI p, vI n, v7_73, v8_73] [] (M3, S) Q
                      refine br_gt (fun c_32 => ?_) (fun c_32 => ?_)
                      · refine WP.blk 2 ?_
                        show ir (p + 1) ∧ WP 5 173 55 [vR m, vI a, vI most, vI vy_10, vI w, vI (p + 1), vI n, v7_73, v8_73] [] (M3, S) Q
                        refine ⟨(by unfold ir; omega), ?_⟩
                        exact ih_55 (p + 1) (vI n) (v7_73) (v8_73) M3 g3 b3 (by omega) (BstI_p h5 (fun n9 h8 h9 => by obtain ⟨k1, k2, k3, k4⟩ := h9; omega)) z_73_0 z_73_1 z_73_2 z_73_3 z_73_4 fr_73 (by omega)
                      · refine WP.blk 4 ?_
                        show WP 5 173 86 [vR m, vI a, vI most, vI vy_10, vI w, vI p, vI n, v7_73, v8_73] [vI n, vI p, vI w, vR m] (M3, S) Q
                        refine WP.cl (a := [vR m, vI w, vI p, vI n]) (rest := []) rfl rfl rfl rfl ⟨hS.1.1, trivial⟩ (by decide) (r_isPart hS z_73_0 (by omega) (by omega) (fun b_33 hb_33 => ⟨rfl, ?_⟩))
                        show WP 5 173 89 [vR m, vI a, vI most, vI vy_10, vI w, vI p, vI n, v7_73, v8_73] [vI b_33] (M3, S) Q
                        refine WP.blk 1 ?_
                        show WP 5 173 (if cnd .eq b_33 0 = true then 165 else 92) [vR m, vI a, vI most, vI vy_10, vI w, vI p, vI n, v7_73, v8_73] [] (M3, S) Q
                        refine br_eq (fun c_34 => ?_) (fun c_34 => ?_)
                        · have p_33 := (hb_33.resolve_left (fun h => by omega)).2
                          refine WP.blk 2 ?_
                          show ir (p + 1) ∧ WP 5 173 55 [vR m, vI a, vI most, vI vy_10, vI w, vI (p + 1), vI n, v7_73, v8_73] [] (M3, S) Q
                          refine ⟨(by unfold ir; omega), ?_⟩
                          exact ih_55 (p + 1) (vI n) (v7_73) (v8_73) M3 g3 b3 (by omega) (BstI_p h5 (fun n9 h8 h9 => by obtain ⟨k1, k2, k3, k4⟩ := h9; omega)) z_73_0 z_73_1 z_73_2 z_73_3 z_73_4 fr_73 (by omega)
                        · have p_33 := (hb_33.resolve_right (fun h => by omega)).2
                          refine WP.blk 4 ?_
                          show WP 5 173 99 [vR m, vI a, vI most, vI vy_10, vI w, vI p, vI n, v7_73, v8_73] [vI n, vI p, vI w, vR m] (M3, S) Q
                          refine WP.cl (a := [vR m, vI w, vI p, vI n]) (rest := []) rfl rfl rfl rfl ⟨hS.1.1, trivial⟩ (by decide) (r_comes hS z_73_0 (by omega) (by omega) (by omega) (by omega) (fun vy_35 My_35 fry_35 hMy_35 hvy_35 => ⟨rfl, ?_⟩))
                          show WP 5 173 102 [vR m, vI a, vI most, vI vy_10, vI w, vI p, vI n, v7_73, v8_73] [vI vy_35] (My_35, S) Q
                          obtain ⟨gy_35, hgy_35⟩ : ∃ y9, My_35 (m + 1) = y9 := ⟨_, rfl⟩
                          rw [hgy_35] at hMy_35
                          have r_37 : My_35 m = o := (fry_35 _ (by omega)).trans z_73_1
                          have r_38 : My_35 (m + 3) = ay_3 := (fry_35 _ (by omega)).trans z_73_2
                          have r_39 : My_35 (m + 6) = g3 := (fry_35 _ (by omega)).trans z_73_3
                          have r_40 : My_35 (m + 11) = b3 := (fry_35 _ (by omega)).trans z_73_4
                          have fr_41 : ∀ r, r ≠ m + 1 → r ≠ m + 3 → r ≠ m + 6 → r ≠ m + 11 → My_35 r = M r := fun r q0 q1 q2 q3 => (fry_35 r q0).trans (fr_73 r q0 q1 q2 q3)
                          have hRc : RowOk B gy_35 := by rw [hMy_35]; exact cut_row hR hB.1 (by omega) ⟨by omega, by omega, by omega, by omega⟩
                          refine WP.blk 3 ?_
                          show WP 5 173 106 [vR m, vI a, vI most, vI vy_10, vI w, vI p, vI n, vI vy_35, v8_73] [vR m, vI vy_10] (My_35, S) Q
                          refine WP.cl (a := [vR m]) (rest := [vI vy_10]) rfl rfl rfl rfl ⟨hS.1.1, trivial⟩ (by decide) (r_allPresses hS hgy_35 hRc (fun vy_42 My_42 fry_42 hvy_42 hvry_42 => ⟨rfl, ?_⟩))
                          show WP 5 173 109 [vR m, vI a, vI most, vI vy_10, vI w, vI p, vI n, vI vy_35, v8_73] [vI vy_42, vI vy_10] (My_42, S) Q
                          have r_43 : My_42 (m + 1) = gy_35 := (fry_42 _ (by omega)).trans hgy_35
                          have r_44 : My_42 m = o := (fry_42 _ (by omega)).trans r_37
                          have r_45 : My_42 (m + 3) = ay_3 := (fry_42 _ (by omega)).trans r_38
                          obtain ⟨g_47, r_46⟩ : ∃ y9, My_42 (m + 6) = y9 := ⟨_, rfl⟩
                          have r_48 : My_42 (m + 11) = b3 := (fry_42 _ (by omega)).trans r_40
                          have fr_49 : ∀ r, r ≠ m + 1 → r ≠ m + 3 → r ≠ m + 6 → r ≠ m + 11 → My_42 r = M r := fun r q0 q1 q2 q3 => (fry_42 r q2).trans (fr_41 r q0 q1 q2 q3)
                          refine WP.blk 3 ?_
                          show ir (vy_10 - vy_42) ∧ WP 5 173 113 [vR m, vI a, vI most, vI vy_10, vI w, vI p, vI n, vI vy_35, vI (vy_10 - vy_42)] [vR m] (My_42, S) Q
                          refine ⟨(by unfold ir; omega), ?_⟩
                          refine WP.cl (a := [vR m]) (rest := []) rfl rfl rfl rfl ⟨hS.1.1, trivial⟩ (by decide) (r_takesBack hS r_43 r_45 (fun My_50 fry_50 hMy_50 => ⟨rfl, ?_⟩))
                          show WP 5 173 116 [vR m, vI a, vI most, vI vy_10, vI w, vI p, vI n, vI vy_35, vI (vy_10 - vy_42)] [] (My_50, S) Q
                          have hby_50 : My_50 (m + 1) = f := hMy_50.trans (by rw [hMy_3, hMy_35]; exact rcp_back (fun k hk => cutR_out (by omega) (by omega) hk))
                          have r_52 : My_50 m = o := (fry_50 _ (by omega)).trans r_44
                          have r_53 : My_50 (m + 3) = ay_3 := (fry_50 _ (by omega)).trans r_45
                          have r_54 : My_50 (m + 6) = g_47 := (fry_50 _ (by omega)).trans r_46
                          have r_55 : My_50 (m + 11) = b3 := (fry_50 _ (by omega)).trans r_48
                          have fr_56 : ∀ r, r ≠ m + 1 → r ≠ m + 3 → r ≠ m + 6 → r ≠ m + 11 → My_50 r = M r := fun r q0 q1 q2 q3 => (fry_50 r q0).trans (fr_49 r q0 q1 q2 q3)
                          refine WP.blk 3 ?_
                          show (sT S m = 10 ∧ sR S m 16 ≠ 0) ∧ WP 5 173 122 [vR m, vI a, vI most, vI vy_10, vI w, vI p, vI n, vI vy_35, vI (vy_10 - vy_42)] [vR (sR S m 16), vI (vy_10 - vy_42)] (My_50, S) Q
                          refine ⟨⟨hS.1.1, by rw [hS.1.2.2.2.2.2.2.2.2.2.2.2]; omega⟩, ?_⟩
                          rw [hS.1.2.2.2.2.2.2.2.2.2.2.2]
                          refine WP.blk 3 ?_
                          show ((sT S (m + 11) = 11 ∨ sT S (m + 11) = 16 ∨ sT S (m + 11) = 17) ∧ 0 ≤ 3 ∧ 3 < (sN S (m + 11) : Int)) ∧ WP 5 173 (if cnd .le (vy_10 - vy_42) (My_50 (m + 11) 3) = true then 159 else 127) [vR m, vI a, vI most, vI vy_10, vI w, vI p, vI n, vI vy_35, vI (vy_10 - vy_42)] [] (My_50, S) Q
                          rw [r_55]
                          refine ⟨⟨Or.inl hS.2.1.2.2.2.2.2.2.2.2.2.2, by omega, by rw [hS.2.2.2.2.2.2.2.2.2.2.2.2]; omega⟩, ?_⟩
                          refine br_le (fun c_57 => ?_) (fun c_57 => ?_)
                          · refine WP.blk 2 ?_
                            show ir (n + 1) ∧ WP 5 173 73 [vR m, vI a, vI most, vI vy_10, vI w, vI p, vI (n + 1), vI vy_35, vI (vy_10 - vy_42)] [] (My_50, S) Q
                            refine ⟨(by unfold ir; omega), ?_⟩
                            exact ih_73 (n + 1) (vI vy_35) (vI (vy_10 - vy_42)) My_50 g_47 b3 (by omega) (BstI_n0 h5 (by have es : sav f w p n = vy_10 - vy_42 := (by unfold sav; rw [← hvy_10, hvy_42, hMy_35]); omega)) hby_50 r_52 r_53 r_54 r_55 fr_56 (by omega)
                          · refine WP.blk 2 ?_
                            show (sT S m = 10 ∧ sR S m 16 ≠ 0) ∧ WP 5 173 131 [vR m, vI a, vI most, vI vy_10, vI w, vI p, vI n, vI vy_35, vI (vy_10 - vy_42)] [vR (sR S m 16)] (My_50, S) Q
                            refine ⟨⟨hS.1.1, by rw [hS.1.2.2.2.2.2.2.2.2.2.2.2]; omega⟩, ?_⟩
                            rw [hS.1.2.2.2.2.2.2.2.2.2.2.2]
                            refine WP.blk 3 ?_
                            show (sT S (m + 11) = 11 ∧ 0 ≤ 0 ∧ 0 < (sN S (m + 11) : Int)) ∧ WP 5 173 135 [vR m, vI a, vI most, vI vy_10, vI w, vI p, vI n, vI vy_35, vI (vy_10 - vy_42)] [] (up My_50 (m + 11) 0 w, S) Q
                            refine ⟨⟨hS.2.1.2.2.2.2.2.2.2.2.2.2, by omega, by rw [hS.2.2.2.2.2.2.2.2.2.2.2.2]; omega⟩, ?_⟩
                            generalize hM_58 : up My_50 (m + 11) 0 w = M_58
                            have r_59 : M_58 (m + 1) = f := by rw [← hM_58]; exact (up_row (by omega)).trans hby_50
                            have r_60 : M_58 m = o := by rw [← hM_58]; exact (up_row (by omega)).trans r_52
                            have r_61 : M_58 (m + 3) = ay_3 := by rw [← hM_58]; exact (up_row (by omega)).trans r_53
                            have r_62 : M_58 (m + 6) = g_47 := by rw [← hM_58]; exact (up_row (by omega)).trans r_54
                            obtain ⟨g_64, hg_64⟩ : ∃ y9, y9 = uf b3 0 w := ⟨_, rfl⟩
                            have r_63 : M_58 (m + 11) = g_64 := by rw [← hM_58, hg_64, up_self, r_55]
                            have t_65 : g_64 0 = w := by rw [hg_64]; exact uf_at _ _ (by omega)
                            have t_66 : g_64 1 = b3 1 := by rw [hg_64]; exact uf_ne (by omega)
                            have t_67 : g_64 2 = b3 2 := by rw [hg_64]; exact uf_ne (by omega)
                            have t_68 : g_64 3 = b3 3 := by rw [hg_64]; exact uf_ne (by omega)
                            have fr_69 : ∀ r, r ≠ m + 1 → r ≠ m + 3 → r ≠ m + 6 → r ≠ m + 11 → M_58 r = M r := fun r q0 q1 q2 q3 => by rw [← hM_58]; exact (up_row q3).trans (fr_56 r q0 q1 q2 q3)
                            refine WP.blk 2 ?_
                            show (sT S m = 10 ∧ sR S m 16 ≠ 0) ∧ WP 5 173 139 [vR m, vI a, vI most, vI vy_10, vI w, vI p, vI n, vI vy_35, vI (vy_10 - vy_42)] [vR (sR S m 16)] (M_58, S) Q
                            refine ⟨⟨hS.1.1, by rw [hS.1.2.2.2.2.2.2.2.2.2.2.2]; omega⟩, ?_⟩
                            rw [hS.1.2.2.2.2.2.2.2.2.2.2.2]
                            refine WP.blk 3 ?_
                            show (sT S (m + 11) = 11 ∧ 0 ≤ 1 ∧ 1 < (sN S (m + 11) : Int)) ∧ WP 5 173 143 [vR m, vI a, vI most, vI vy_10, vI w, vI p, vI n, vI vy_35, vI (vy_10 - vy_42)] [] (up M_58 (m + 11) 1 p, S) Q
                            refine ⟨⟨hS.2.1.2.2.2.2.2.2.2.2.2.2, by omega, by rw [hS.2.2.2.2.2.2.2.2.2.2.2.2]; omega⟩, ?_⟩
                            generalize hM_70 : up M_58 (m + 11) 1 p = M_70
                            have r_71 : M_70 (m + 1) = f := by rw [← hM_70]; exact (up_row (by omega)).trans r_59
                            have r_72 : M_70 m = o := by rw [← hM_70]; exact (up_row (by omega)).trans r_60
                            have r_73 : M_70 (m + 3) = ay_3 := by rw [← hM_70]; exact (up_row (by omega)).trans r_61
                            have r_74 : M_70 (m + 6) = g_47 := by rw [← hM_70]; exact (up_row (by omega)).trans r_62
                            obtain ⟨g_76, hg_76⟩ : ∃ y9, y9 = uf g_64 1 p := ⟨_, rfl⟩
                            have r_75 : M_70 (m + 11) = g_76 := by rw [← hM_70, hg_76, up_self, r_63]
                            have t_77 : g_76 0 = g_64 0 := by rw [hg_76]; exact uf_ne (by omega)
                            have t_78 : g_76 1 = p := by rw [hg_76]; exact uf_at _ _ (by omega)
                            have t_79 : g_76 2 = g_64 2 := by rw [hg_76]; exact uf_ne (by omega)
                            have t_80 : g_76 3 = g_64 3 := by rw [hg_76]; exact uf_ne (by omega)
                            have fr_81 : ∀ r, r ≠ m + 1 → r ≠ m + 3 → r ≠ m + 6 → r ≠ m + 11 → M_70 r = M r := fun r q0 q1 q2 q3 => by rw [← hM_70]; exact (up_row q3).trans (fr_69 r q0 q1 q2 q3)
                            refine WP.blk 2 ?_
                            show (sT S m = 10 ∧ sR S m 16 ≠ 0) ∧ WP 5 173 147 [vR m, vI a, vI most, vI vy_10, vI w, vI p, vI n, vI vy_35, vI (vy_10 - vy_42)] [vR (sR S m 16)] (M_70, S) Q
                            refine ⟨⟨hS.1.1, by rw [hS.1.2.2.2.2.2.2.2.2.2.2.2]; omega⟩, ?_⟩
                            rw [hS.1.2.2.2.2.2.2.2.2.2.2.2]
                            refine WP.blk 3 ?_
                            show (sT S (m + 11) = 11 ∧ 0 ≤ 2 ∧ 2 < (sN S (m + 11) : Int)) ∧ WP 5 173 151 [vR m, vI a, vI most, vI vy_10, vI w, vI p, vI n, vI vy_35, vI (vy_10 - vy_42)] [] (up M_70 (m + 11) 2 n, S) Q
                            refine ⟨⟨hS.2.1.2.2.2.2.2.2.2.2.2.2, by omega, by rw [hS.2.2.2.2.2.2.2.2.2.2.2.2]; omega⟩, ?_⟩
                            generalize hM_82 : up M_70 (m + 11) 2 n = M_82
                            have r_83 : M_82 (m + 1) = f := by rw [← hM_82]; exact (up_row (by omega)).trans r_71
                            have r_84 : M_82 m = o := by rw [← hM_82]; exact (up_row (by omega)).trans r_72
                            have r_85 : M_82 (m + 3) = ay_3 := by rw [← hM_82]; exact (up_row (by omega)).trans r_73
                            have r_86 : M_82 (m + 6) = g_47 := by rw [← hM_82]; exact (up_row (by omega)).trans r_74
                            obtain ⟨g_88, hg_88⟩ : ∃ y9, y9 = uf g_76 2 n := ⟨_, rfl⟩
                            have r_87 : M_82 (m + 11) = g_88 := by rw [← hM_82, hg_88, up_self, r_75]
                            have t_89 : g_88 0 = g_76 0 := by rw [hg_88]; exact uf_ne (by omega)
                            have t_90 : g_88 1 = g_76 1 := by rw [hg_88]; exact uf_ne (by omega)
                            have t_91 : g_88 2 = n := by rw [hg_88]; exact uf_at _ _ (by omega)
                            have t_92 : g_88 3 = g_76 3 := by rw [hg_88]; exact uf_ne (by omega)
                            have fr_93 : ∀ r, r ≠ m + 1 → r ≠ m + 3 → r ≠ m + 6 → r ≠ m + 11 → M_82 r = M r := fun r q0 q1 q2 q3 => by rw [← hM_82]; exact (up_row q3).trans (fr_81 r q0 q1 q2 q3)
                            refine WP.blk 2 ?_
                            show (sT S m = 10 ∧ sR S m 16 ≠ 0) ∧ WP 5 173 155 [vR m, vI a, vI most, vI vy_10, vI w, vI p, vI n, vI vy_35, vI (vy_10 - vy_42)] [vR (sR S m 16)] (M_82, S) Q
                            refine ⟨⟨hS.1.1, by rw [hS.1.2.2.2.2.2.2.2.2.2.2.2]; omega⟩, ?_⟩
                            rw [hS.1.2.2.2.2.2.2.2.2.2.2.2]
                            refine WP.blk 3 ?_
                            show (sT S (m + 11) = 11 ∧ 0 ≤ 3 ∧ 3 < (sN S (m + 11) : Int)) ∧ WP 5 173 159 [vR m, vI a, vI most, vI vy_10, vI w, vI p, vI n, vI vy_35, vI (vy_10 - vy_42)] [] (up M_82 (m + 11) 3 (vy_10 - vy_42), S) Q
                            refine ⟨⟨hS.2.1.2.2.2.2.2.2.2.2.2.2, by omega, by rw [hS.2.2.2.2.2.2.2.2.2.2.2.2]; omega⟩, ?_⟩
                            generalize hM_94 : up M_82 (m + 11) 3 (vy_10 - vy_42) = M_94
                            have r_95 : M_94 (m + 1) = f := by rw [← hM_94]; exact (up_row (by omega)).trans r_83
                            have r_96 : M_94 m = o := by rw [← hM_94]; exact (up_row (by omega)).trans r_84
                            have r_97 : M_94 (m + 3) = ay_3 := by rw [← hM_94]; exact (up_row (by omega)).trans r_85
                            have r_98 : M_94 (m + 6) = g_47 := by rw [← hM_94]; exact (up_row (by omega)).trans r_86
                            obtain ⟨g_100, hg_100⟩ : ∃ y9, y9 = uf g_88 3 (vy_10 - vy_42) := ⟨_, rfl⟩
                            have r_99 : M_94 (m + 11) = g_100 := by rw [← hM_94, hg_100, up_self, r_87]
                            have t_101 : g_100 0 = g_88 0 := by rw [hg_100]; exact uf_ne (by omega)
                            have t_102 : g_100 1 = g_88 1 := by rw [hg_100]; exact uf_ne (by omega)
                            have t_103 : g_100 2 = g_88 2 := by rw [hg_100]; exact uf_ne (by omega)
                            have t_104 : g_100 3 = vy_10 - vy_42 := by rw [hg_100]; exact uf_at _ _ (by omega)
                            have fr_105 : ∀ r, r ≠ m + 1 → r ≠ m + 3 → r ≠ m + 6 → r ≠ m + 11 → M_94 r = M r := fun r q0 q1 q2 q3 => by rw [← hM_94]; exact (up_row q3).trans (fr_93 r q0 q1 q2 q3)
                            refine WP.blk 2 ?_
                            show ir (n + 1) ∧ WP 5 173 73 [vR m, vI a, vI most, vI vy_10, vI w, vI p, vI (n + 1), vI vy_35, vI (vy_10 - vy_42)] [] (M_94, S) Q
                            refine ⟨(by unfold ir; omega), ?_⟩
                            exact ih_73 (n + 1) (vI vy_35) (vI (vy_10 - vy_42)) M_94 g_47 g_100 (by omega) (by have es : sav f w p n = vy_10 - vy_42 := (by unfold sav; rw [← hvy_10, hvy_42, hMy_35]); have e9 := BstI_n1 h5 (show Cd f most w p n from ⟨by omega, by omega, by omega, by omega⟩) (by omega); rw [show g_100 0 = w by omega, show g_100 1 = p by omega, show g_100 2 = n by omega, show g_100 3 = sav f w p n by omega]; exact e9) r_95 r_96 r_97 r_98 r_99 fr_105 (by omega)
                  exact hl_73 _ 1 (v7_55) (v8_55) M2 g2 b2 (by omega) h3 z_55_0 z_55_1 z_55_2 z_55_3 z_55_4 fr_55 (Nat.lt_succ_self _)
            exact hl_55 _ 0 (v6_41) (v7_41) (v8_41) M1 g1 b1 (by omega) h1 z_41_0 z_41_1 z_41_2 z_41_3 z_41_4 fr_41 (Nat.lt_succ_self _)
      exact hl_41 _ 0 (none) (none) (none) (none) M_18 g_15 g_24 (by omega) (by rw [show g_24 3 = -1 by omega]; exact BstI_0) r_19 r_20 r_21 r_22 r_23 fr_29 (Nat.lt_succ_self _)
    · refine WP.blk 1 ?_
      show WP 5 173 21 [vR m, vI a, vI most, none, none, none, none, none, none] [vI (-1)] (M, S) Q
      exact WP.ret rfl rfl rfl trivial (k _ _ (fun _ _ _ _ _ => rfl) hf (Or.inl ⟨by omega, rfl⟩))
set_option maxHeartbeats 4000000 in
theorem r_bestCut {S : SD} {M : Nat → Int → Int} {m : Nat} {f : Int → Int} {o : Int → Int} {a most B : Int} (hS : isMod S m) (hf : M (m + 1) = f) (ho : M m = o) (hR : RowOk B f) (hB : 0 ≤ B ∧ B ≤ 1000000000 - 200) {Q : Res → Wd → Prop} (k : ∀ (v : Int) (M2 : Nat → Int → Int), (∀ r, r ≠ m → r ≠ m + 1 → r ≠ m + 3 → r ≠ m + 6 → r ≠ m + 11 → M2 r = M r) → M2 (m + 1) = f → ∀ o2, M2 m = o2 → o2 4 = o 4 → o2 7 = o 7 → (o2 5 = 1 ∧ ¬ ((0 ≤ a ∧ a ≤ 3) ∧ 1 ≤ most ∧ most ≤ 5)) ∨ (o2 5 = 0 ∧ ((0 ≤ a ∧ a ≤ 3) ∧ 1 ≤ most ∧ most ≤ 5) ∧ PartV f a most v) → Q (0, vI v) (M2, S)) : EvQ 7 174 [vR m, vI a, vI most] (M, S) Q := by
  refine EvQ.enter (ls := [vR m, vI a, vI most]) (Nat.le_of_ble_eq_true rfl) rfl ?_
  obtain ⟨g0, hg0⟩ : ∃ g, M (m + 6) = g := ⟨_, rfl⟩
  obtain ⟨a0, ha0⟩ : ∃ g, M (m + 3) = g := ⟨_, rfl⟩
  obtain ⟨bp, hbp⟩ : ∃ g, M (m + 11) = g := ⟨_, rfl⟩
  refine WP.blk 4 ?_
  show WP 6 174 4 [vR m, vI a, vI most] [vI 3, vI 0, vI a, vR m] (M, S) Q
  refine WP.cl (a := [vI a, vI 0, vI 3]) (rest := [vR m]) rfl rfl rfl rfl trivial (by decide) (q_in  (fun b_1 hb_1 => ⟨rfl, ?_⟩))
  show WP 6 174 7 [vR m, vI a, vI most] [vI b_1, vR m] (M, S) Q
  refine WP.blk 1 ?_
  show WP 6 174 (if cnd .eq b_1 0 = true then 23 else 10) [vR m, vI a, vI most] [vR m] (M, S) Q
  refine br_eq (fun c_2 => ?_) (fun c_2 => ?_)
  · have p_1 := (hb_1.resolve_left (fun h => by omega)).2
    refine WP.blk 1 ?_
    show WP 6 174 24 [vR m, vI a, vI most] [vI 1, vR m] (M, S) Q
    refine WP.cl (a := [vR m, vI 1]) (rest := []) rfl rfl rfl rfl ⟨hS.1.1, trivial⟩ (by decide) (r_refused hS hf ho (fun b_3 Mr3 fr3 o3 ho3 h53 hk3 hb_3 => ⟨rfl, ?_⟩))
    show WP 6 174 27 [vR m, vI a, vI most] [vI b_3] (Mr3, S) Q
    have r_4 : Mr3 (m + 1) = f := (fr3 _ (by omega)).trans hf
    have r_6 : Mr3 (m + 3) = a0 := (fr3 _ (by omega)).trans ha0
    have r_7 : Mr3 (m + 6) = g0 := (fr3 _ (by omega)).trans hg0
    have r_8 : Mr3 (m + 11) = bp := (fr3 _ (by omega)).trans hbp
    have fr_9 : ∀ r, r ≠ m → r ≠ m + 1 → r ≠ m + 3 → r ≠ m + 6 → r ≠ m + 11 → Mr3 r = M r := fun r q0 q1 q2 q3 q4 => (fr3 r q0).trans ((fun _ _ _ _ _ _ => rfl) r q0 q1 q2 q3 q4)
    have t43 := hk3 4 (by omega)
    have t73 := hk3 7 (by omega)
    have t113 := hk3 11 (by omega)
    refine WP.blk 1 ?_
    show WP 6 174 (if cnd .eq b_3 0 = true then 34 else 30) [vR m, vI a, vI most] [] (Mr3, S) Q
    refine br_eq (fun c_10 => ?_) (fun c_10 => ?_)
    · exfalso; omega
    · have p_3 := (hb_3.resolve_right (fun h => by omega)).2
      refine WP.blk 2 ?_
      show WP 6 174 40 [vR m, vI a, vI most] [vI 0] (Mr3, S) Q
      exact WP.ret rfl rfl rfl trivial (k _ _ fr_9 r_4 _ ho3 (by omega) (by omega) (by first | exact Or.inl ⟨by omega, by omega⟩ | exact Or.inr ⟨by omega, by omega, by assumption⟩))
  · have p_1 := (hb_1.resolve_right (fun h => by omega)).2
    refine WP.blk 3 ?_
    show WP 6 174 13 [vR m, vI a, vI most] [vI 5, vI 1, vI most, vR m] (M, S) Q
    refine WP.cl (a := [vI most, vI 1, vI 5]) (rest := [vR m]) rfl rfl rfl rfl trivial (by decide) (q_in  (fun b_11 hb_11 => ⟨rfl, ?_⟩))
    show WP 6 174 16 [vR m, vI a, vI most] [vI b_11, vR m] (M, S) Q
    refine WP.blk 1 ?_
    show WP 6 174 (if cnd .eq b_11 0 = true then 23 else 19) [vR m, vI a, vI most] [vR m] (M, S) Q
    refine br_eq (fun c_12 => ?_) (fun c_12 => ?_)
    · have p_11 := (hb_11.resolve_left (fun h => by omega)).2
      refine WP.blk 1 ?_
      show WP 6 174 24 [vR m, vI a, vI most] [vI 1, vR m] (M, S) Q
      refine WP.cl (a := [vR m, vI 1]) (rest := []) rfl rfl rfl rfl ⟨hS.1.1, trivial⟩ (by decide) (r_refused hS hf ho (fun b_13 Mr13 fr13 o13 ho13 h513 hk13 hb_13 => ⟨rfl, ?_⟩))
      show WP 6 174 27 [vR m, vI a, vI most] [vI b_13] (Mr13, S) Q
      have r_14 : Mr13 (m + 1) = f := (fr13 _ (by omega)).trans hf
      have r_16 : Mr13 (m + 3) = a0 := (fr13 _ (by omega)).trans ha0
      have r_17 : Mr13 (m + 6) = g0 := (fr13 _ (by omega)).trans hg0
      have r_18 : Mr13 (m + 11) = bp := (fr13 _ (by omega)).trans hbp
      have fr_19 : ∀ r, r ≠ m → r ≠ m + 1 → r ≠ m + 3 → r ≠ m + 6 → r ≠ m + 11 → Mr13 r = M r := fun r q0 q1 q2 q3 q4 => (fr13 r q0).trans ((fun _ _ _ _ _ _ => rfl) r q0 q1 q2 q3 q4)
      have t413 := hk13 4 (by omega)
      have t713 := hk13 7 (by omega)
      have t1113 := hk13 11 (by omega)
      refine WP.blk 1 ?_
      show WP 6 174 (if cnd .eq b_13 0 = true then 34 else 30) [vR m, vI a, vI most] [] (Mr13, S) Q
      refine br_eq (fun c_20 => ?_) (fun c_20 => ?_)
      · exfalso; omega
      · have p_13 := (hb_13.resolve_right (fun h => by omega)).2
        refine WP.blk 2 ?_
        show WP 6 174 40 [vR m, vI a, vI most] [vI 0] (Mr13, S) Q
        exact WP.ret rfl rfl rfl trivial (k _ _ fr_19 r_14 _ ho13 (by omega) (by omega) (by first | exact Or.inl ⟨by omega, by omega⟩ | exact Or.inr ⟨by omega, by omega, by assumption⟩))
    · have p_11 := (hb_11.resolve_right (fun h => by omega)).2
      refine WP.blk 2 ?_
      show WP 6 174 24 [vR m, vI a, vI most] [vI 0, vR m] (M, S) Q
      refine WP.cl (a := [vR m, vI 0]) (rest := []) rfl rfl rfl rfl ⟨hS.1.1, trivial⟩ (by decide) (r_refused hS hf ho (fun b_21 Mr21 fr21 o21 ho21 h521 hk21 hb_21 => ⟨rfl, ?_⟩))
      show WP 6 174 27 [vR m, vI a, vI most] [vI b_21] (Mr21, S) Q
      have r_22 : Mr21 (m + 1) = f := (fr21 _ (by omega)).trans hf
      have r_24 : Mr21 (m + 3) = a0 := (fr21 _ (by omega)).trans ha0
      have r_25 : Mr21 (m + 6) = g0 := (fr21 _ (by omega)).trans hg0
      have r_26 : Mr21 (m + 11) = bp := (fr21 _ (by omega)).trans hbp
      have fr_27 : ∀ r, r ≠ m → r ≠ m + 1 → r ≠ m + 3 → r ≠ m + 6 → r ≠ m + 11 → Mr21 r = M r := fun r q0 q1 q2 q3 q4 => (fr21 r q0).trans ((fun _ _ _ _ _ _ => rfl) r q0 q1 q2 q3 q4)
      have t421 := hk21 4 (by omega)
      have t721 := hk21 7 (by omega)
      have t1121 := hk21 11 (by omega)
      refine WP.blk 1 ?_
      show WP 6 174 (if cnd .eq b_21 0 = true then 34 else 30) [vR m, vI a, vI most] [] (Mr21, S) Q
      refine br_eq (fun c_28 => ?_) (fun c_28 => ?_)
      · have p_21 := (hb_21.resolve_left (fun h => by omega)).2
        refine WP.blk 3 ?_
        show WP 6 174 37 [vR m, vI a, vI most] [vI most, vI a, vR m] (Mr21, S) Q
        refine WP.cl (a := [vR m, vI a, vI most]) (rest := []) rfl rfl rfl rfl ⟨hS.1.1, trivial⟩ (by decide) (r_part hS r_22 ho21 hR hB (by omega) (by omega) (fun vy_29 My_29 fry_29 hMy_29 hvy_29 => ⟨rfl, ?_⟩))
        show WP 6 174 40 [vR m, vI a, vI most] [vI vy_29] (My_29, S) Q
        have r_31 : My_29 m = o21 := (fry_29 _ (by omega) (by omega) (by omega) (by omega)).trans ho21
        obtain ⟨g_33, r_32⟩ : ∃ y9, My_29 (m + 3) = y9 := ⟨_, rfl⟩
        obtain ⟨g_35, r_34⟩ : ∃ y9, My_29 (m + 6) = y9 := ⟨_, rfl⟩
        obtain ⟨g_37, r_36⟩ : ∃ y9, My_29 (m + 11) = y9 := ⟨_, rfl⟩
        have fr_38 : ∀ r, r ≠ m → r ≠ m + 1 → r ≠ m + 3 → r ≠ m + 6 → r ≠ m + 11 → My_29 r = M r := fun r q0 q1 q2 q3 q4 => (fry_29 r q1 q2 q3 q4).trans (fr_27 r q0 q1 q2 q3 q4)
        exact WP.ret rfl rfl rfl trivial (k _ _ fr_38 hMy_29 _ r_31 (by omega) (by omega) (by first | exact Or.inl ⟨by omega, by omega⟩ | exact Or.inr ⟨by omega, by omega, by assumption⟩))
      · exfalso; omega
