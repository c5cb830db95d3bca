set_option maxHeartbeats 4000000 in
theorem r_smallest {S : SD} {M : Nat → Int → Int} {m : Nat} {f : Int → Int} {B : Int} (hS : isMod S m) (hf : M (m + 1) = f) (hR : RowOk B f) {Q : Res → Wd → Prop} (k : ∀ (v : Int) (M2 : Nat → Int → Int), (∀ r, r ≠ m + 6 → M2 r = M r) → Sml f v → Q (0, vI v) (M2, S)) : EvQ 6 163 [vR m] (M, S) Q := by
  refine EvQ.enter (ls := [vR m, none, none, none]) (Nat.le_of_ble_eq_true rfl) rfl ?_
  have hA := hR.1
  have hA1 := hA.1
  have hWA := hR.2.1
  have hW1 := hWA.1
  have hI := hR.2.2
  have hI2 := hI.2.1
  have hI3 := hI.2.2.1
  obtain ⟨g0, hg0⟩ : ∃ g, M (m + 6) = g := ⟨_, rfl⟩
  have hil := iL_r hA1
  refine WP.blk 1 ?_
  show WP 5 163 1 [vR m, none, none, none] [vR m] (M, S) Q
  refine WP.cl (a := [vR m]) (rest := []) rfl rfl rfl rfl ⟨hS.1.1, trivial⟩ (by decide) (r_fresh hS hf (by omega) (fun x_1 hx_1 => ⟨rfl, ?_⟩))
  show WP 5 163 4 [vR m, none, none, none] [vI x_1] (M, S) Q
  have hx1 := hx_1.1
  have hx2 := hx_1.2.1
  refine WP.blk 3 ?_
  show WP 5 163 7 [vR m, vI x_1, none, none] [vI x_1, vR m] (M, S) Q
  refine WP.cl (a := [vR m, vI x_1]) (rest := []) rfl rfl rfl rfl ⟨hS.1.1, trivial⟩ (by decide) (r_allWith hS hf hR (by omega) (fun b_2 M2 fr2 hb_2 => ⟨rfl, ?_⟩))
  show WP 5 163 10 [vR m, vI x_1, none, none] [vI b_2] (M2, S) Q
  have r_3 : M2 (m + 1) = f := (fr2 _ (by omega)).trans hf
  obtain ⟨g_5, r_4⟩ : ∃ y9, M2 (m + 6) = y9 := ⟨_, rfl⟩
  have fr_6 : ∀ r, r ≠ m + 6 → M2 r = M r := fun r q0 => (fr2 r q0).trans ((fun _ _ => rfl) r q0)
  refine WP.blk 1 ?_
  show WP 5 163 (if cnd .ne b_2 0 = true then 15 else 13) [vR m, vI x_1, none, none] [] (M2, S) Q
  refine br_ne (fun c_7 => ?_) (fun c_7 => ?_)
  · have p_2 := (hb_2.resolve_right (fun h => by omega)).2
    refine WP.blk 2 ?_
    show WP 5 163 17 [vR m, vI x_1, vI 0, none] [] (M2, S) Q
    have hl_17 : ∀ (n_17 : Nat) (n : Int) (v3_17 : V) (M1 : Nat → Int → Int) (g : Int → Int), 0 ≤ n ∧ n ≤ 11 → NoG f x_1 n 0 → M1 (m + 1) = f → M1 (m + 6) = g → (∀ r, r ≠ m + 6 → M1 r = M r) → (11 - n).toNat < n_17 → WP 5 163 17 [vR m, vI x_1, vI n, v3_17] [] (M1, S) Q := by
      intro n_17
      induction n_17 with
      | zero => intro n v3_17 M1 g h0 h1 z_17_0 z_17_1 fr_17 hm_17; exact absurd hm_17 (Nat.not_lt_zero _)
      | succ n_17 ih_17 =>
        intro n v3_17 M1 g h0 h1 z_17_0 z_17_1 fr_17 hm_17
        refine WP.blk 3 ?_
        show WP 5 163 (if cnd .gt n 10 = true then 75 else 23) [vR m, vI x_1, vI n, v3_17] [] (M1, S) Q
        refine br_gt (fun c_8 => ?_) (fun c_8 => ?_)
        · refine WP.blk 1 ?_
          show WP 5 163 76 [vR m, vI x_1, vI n, v3_17] [vI (-1)] (M1, S) Q
          exact WP.ret rfl rfl rfl trivial (k _ _ fr_17 ⟨_, hx_1, Or.inl ⟨rfl, NoG_e hA1 h1 (by omega)⟩⟩)
        · refine WP.blk 2 ?_
          show WP 5 163 25 [vR m, vI x_1, vI n, vI 0] [] (M1, S) Q
          have hl_25 : ∀ (n_25 : Nat) (u : Int) (M2 : Nat → Int → Int) (g2 : Int → Int), 0 ≤ u ∧ u ≤ 1024 → NoG f x_1 n u → M2 (m + 1) = f → M2 (m + 6) = g2 → (∀ r, r ≠ m + 6 → M2 r = M r) → (1024 - u).toNat < n_25 → WP 5 163 25 [vR m, vI x_1, vI n, vI u] [] (M2, S) Q := by
            intro n_25
            induction n_25 with
            | zero => intro u M2 g2 h2 h3 z_25_0 z_25_1 fr_25 hm_25; exact absurd hm_25 (Nat.not_lt_zero _)
            | succ n_25 ih_25 =>
              intro u M2 g2 h2 h3 z_25_0 z_25_1 fr_25 hm_25
              refine WP.blk 4 ?_
              show (sT S m = 10 ∧ sR S m 0 ≠ 0) ∧ WP 5 163 31 [vR m, vI x_1, vI n, vI u] [vR (sR S m 0), vI 1, vI u] (M2, S) Q
              refine ⟨⟨hS.1.1, by rw [hS.1.2.1]; omega⟩, ?_⟩
              rw [hS.1.2.1]
              refine WP.blk 4 ?_
              show ((sT S (m + 1) = 11 ∨ sT S (m + 1) = 16 ∨ sT S (m + 1) = 17) ∧ 0 ≤ 0 ∧ 0 < (sN S (m + 1) : Int)) ∧ WP 5 163 (if cnd .ge u (iL 1 (M2 (m + 1) 0)) = true then 69 else 37) [vR m, vI x_1, vI n, vI u] [] (M2, S) Q
              rw [z_25_0]
              refine ⟨⟨Or.inl hS.2.1.1, by omega, by rw [hS.2.2.1]; omega⟩, ?_⟩
              refine br_ge (fun c_9 => ?_) (fun c_9 => ?_)
              · refine WP.blk 2 ?_
                show ir (n + 1) ∧ WP 5 163 17 [vR m, vI x_1, vI (n + 1), vI u] [] (M2, S) Q
                refine ⟨(by unfold ir; omega), ?_⟩
                exact ih_17 (n + 1) (vI u) M2 g2 (by omega) (NoG_n h3 (by omega)) z_25_0 z_25_1 fr_25 (by omega)
              · refine WP.blk 1 ?_
                show WP 5 163 38 [vR m, vI x_1, vI n, vI u] [vI u] (M2, S) Q
                refine WP.cl (a := [vI u]) (rest := []) rfl rfl rfl rfl trivial (by decide) (r_bits (by omega) ⟨rfl, ?_⟩)
                show WP 5 163 41 [vR m, vI x_1, vI n, vI u] [vI (pop u)] (M2, S) Q
                refine WP.blk 2 ?_
                show WP 5 163 (if cnd .ne (pop u) n = true then 63 else 45) [vR m, vI x_1, vI n, vI u] [] (M2, S) Q
                refine br_ne (fun c_10 => ?_) (fun c_10 => ?_)
                · refine WP.blk 2 ?_
                  show ir (u + 1) ∧ WP 5 163 25 [vR m, vI x_1, vI n, vI (u + 1)] [] (M2, S) Q
                  refine ⟨(by unfold ir; omega), ?_⟩
                  exact ih_25 (u + 1) M2 g2 (by omega) (NoG_s h3 (fun hg => by first | omega | exact absurd ((sub_iff (by omega) ⟨hx1, hx2⟩).2 hg.2.1) (by assumption) | exact absurd hg.2.2 (by assumption))) z_25_0 z_25_1 fr_25 (by omega)
                · refine WP.blk 6 ?_
                  show WP 5 163 (if cnd .ne (iA u (iX x_1 (-1))) 0 = true then 63 else 53) [vR m, vI x_1, vI n, vI u] [] (M2, S) Q
                  refine br_ne (fun c_11 => ?_) (fun c_11 => ?_)
                  · refine WP.blk 2 ?_
                    show ir (u + 1) ∧ WP 5 163 25 [vR m, vI x_1, vI n, vI (u + 1)] [] (M2, S) Q
                    refine ⟨(by unfold ir; omega), ?_⟩
                    exact ih_25 (u + 1) M2 g2 (by omega) (NoG_s h3 (fun hg => by first | omega | exact absurd ((sub_iff (by omega) ⟨hx1, hx2⟩).2 hg.2.1) (by assumption) | exact absurd hg.2.2 (by assumption))) z_25_0 z_25_1 fr_25 (by omega)
                  · refine WP.blk 2 ?_
                    show WP 5 163 55 [vR m, vI x_1, vI n, vI u] [vI u, vR m] (M2, S) Q
                    refine WP.cl (a := [vR m, vI u]) (rest := []) rfl rfl rfl rfl ⟨hS.1.1, trivial⟩ (by decide) (r_allWith hS z_25_0 hR (by omega) (fun b_12 M12 fr12 hb_12 => ⟨rfl, ?_⟩))
                    show WP 5 163 58 [vR m, vI x_1, vI n, vI u] [vI b_12] (M12, S) Q
                    have r_13 : M12 (m + 1) = f := (fr12 _ (by omega)).trans z_25_0
                    obtain ⟨g_15, r_14⟩ : ∃ y9, M12 (m + 6) = y9 := ⟨_, rfl⟩
                    have fr_16 : ∀ r, r ≠ m + 6 → M12 r = M r := fun r q0 => (fr12 r q0).trans (fr_25 r q0)
                    refine WP.blk 1 ?_
                    show WP 5 163 (if cnd .eq b_12 0 = true then 63 else 61) [vR m, vI x_1, vI n, vI u] [] (M12, S) Q
                    refine br_eq (fun c_17 => ?_) (fun c_17 => ?_)
                    · have p_12 := (hb_12.resolve_left (fun h => by omega)).2
                      refine WP.blk 2 ?_
                      show ir (u + 1) ∧ WP 5 163 25 [vR m, vI x_1, vI n, vI (u + 1)] [] (M12, S) Q
                      refine ⟨(by unfold ir; omega), ?_⟩
                      exact ih_25 (u + 1) M12 g_15 (by omega) (NoG_s h3 (fun hg => by first | omega | exact absurd ((sub_iff (by omega) ⟨hx1, hx2⟩).2 hg.2.1) (by assumption) | exact absurd hg.2.2 (by assumption))) r_13 r_14 fr_16 (by omega)
                    · have p_12 := (hb_12.resolve_right (fun h => by omega)).2
                      refine WP.blk 1 ?_
                      show WP 5 163 62 [vR m, vI x_1, vI n, vI u] [vI u] (M12, S) Q
                      exact WP.ret rfl rfl rfl trivial (k _ _ fr_16 ⟨_, hx_1, Or.inr (NoG_f h3 ⟨by omega, (sub_iff (by omega) ⟨hx1, hx2⟩).1 (by assumption), p_12⟩ (by assumption))⟩)
          exact hl_25 _ 0 M1 g (by omega) h1 z_17_0 z_17_1 fr_17 (Nat.lt_succ_self _)
    exact hl_17 _ 0 (none) M2 g_5 (by omega) (NoG_0 hA1) r_3 r_4 fr_6 (Nat.lt_succ_self _)
  · have p_2 := (hb_2.resolve_left (fun h => by omega)).2
    refine WP.blk 1 ?_
    show WP 5 163 14 [vR m, vI x_1, none, none] [vI (-1)] (M2, S) Q
    exact WP.ret rfl rfl rfl trivial (k _ _ fr_6 ⟨_, hx_1, Or.inl ⟨rfl, good_no hA hWA p_2⟩⟩)
set_option maxHeartbeats 4000000 in
theorem r_fewest {S : SD} {M : Nat → Int → Int} {m : Nat} {f : Int → Int} {o : Int → Int} {B : Int} (hS : isMod S m) (hf : M (m + 1) = f) (ho : M m = o) (hR : RowOk B f) {Q : Res → Wd → Prop} (k : ∀ (v : Int) (M2 : Nat → Int → Int), (∀ r, r ≠ m → r ≠ m + 6 → M2 r = M r) → ∀ o2, M2 m = o2 → o2 4 = o 4 → o2 7 = o 7 → o2 5 = 0 → Sml f v → Q (0, vI v) (M2, S)) : EvQ 7 164 [vR m] (M, S) Q := by
  refine EvQ.enter (ls := [vR m]) (Nat.le_of_ble_eq_true rfl) rfl ?_
  obtain ⟨g0, hg0⟩ : ∃ g, M (m + 6) = g := ⟨_, rfl⟩
  refine WP.blk 3 ?_
  show sT S m = 10 ∧ WP 6 164 5 [vR m] [] (up M m 5 0, S) Q
  refine ⟨hS.1.1, ?_⟩
  generalize hM_1 : up M m 5 0 = M_1
  have r_2 : M_1 (m + 1) = f := by rw [← hM_1]; exact (up_row (by omega)).trans hf
  obtain ⟨g_4, hg_4⟩ : ∃ y9, y9 = uf o 5 0 := ⟨_, rfl⟩
  have r_3 : M_1 m = g_4 := by rw [← hM_1, hg_4, up_self, ho]
  have t_5 : g_4 4 = o 4 := by rw [hg_4]; exact uf_ne (by omega)
  have t_6 : g_4 5 = 0 := by rw [hg_4]; exact uf_at _ _ (by omega)
  have t_7 : g_4 7 = o 7 := by rw [hg_4]; exact uf_ne (by omega)
  have r_8 : M_1 (m + 6) = g0 := by rw [← hM_1]; exact (up_row (by omega)).trans hg0
  have fr_9 : ∀ r, r ≠ m → r ≠ m + 6 → M_1 r = M r := fun r q0 q1 => by rw [← hM_1]; exact (up_row q0).trans ((fun _ _ _ => rfl) r q0 q1)
  refine WP.blk 1 ?_
  show WP 6 164 6 [vR m] [vR m] (M_1, S) Q
  refine WP.cl (a := [vR m]) (rest := []) rfl rfl rfl rfl ⟨hS.1.1, trivial⟩ (by decide) (r_smallest hS r_2 hR (fun vy_10 My_10 fry_10 hvy_10 => ⟨rfl, ?_⟩))
  show WP 6 164 9 [vR m] [vI vy_10] (My_10, S) Q
  have r_11 : My_10 (m + 1) = f := (fry_10 _ (by omega)).trans r_2
  have r_12 : My_10 m = g_4 := (fry_10 _ (by omega)).trans r_3
  obtain ⟨g_14, r_13⟩ : ∃ y9, My_10 (m + 6) = y9 := ⟨_, rfl⟩
  have fr_15 : ∀ r, r ≠ m → r ≠ m + 6 → My_10 r = M r := fun r q0 q1 => (fry_10 r q1).trans (fr_9 r q0 q1)
  exact WP.ret rfl rfl rfl trivial (k _ _ fr_15 _ r_12 (by omega) (by omega) (by omega) (by assumption))
