set_option maxHeartbeats 4000000 in
theorem r_writeAll {S : SD} {M : Nat → Int → Int} {m : Nat} {f : Int → Int} {o p : Int → Int} {B : Int} (hS : isMod S m) (hf : M (m + 1) = f) (ho : M m = o) (hp2 : M (m + 2) = p) (hsv : 0 ≤ o 4 ∧ o 4 ≤ 4) (hR : RowOk B f) (hB : 0 ≤ B ∧ B ≤ 1000000000 - 400) {Q : Res → Wd → Prop} (k : ∀ (v : Int) (M2 : Nat → Int → Int), (∀ r, r ≠ m → r ≠ m + 1 → r ≠ m + 2 → r ≠ m + 6 → r ≠ m + 7 → M2 r = M r) → ∀ o2, M2 m = o2 → o2 7 = o 7 → o2 5 = 0 → v = num (fun w => Can (wall f w) w) (f 1) → M2 (m + 1) = wall f (f 1) → ∀ p2, M2 (m + 2) = p2 → SavedP p (o 4) f p2 (o2 4) → Q (0, vI v) (M2, S)) : EvQ 7 160 [vR m] (M, S) Q := by
  refine EvQ.enter (ls := [vR m, none, none]) (Nat.le_of_ble_eq_true rfl) rfl ?_
  have hA := hR.1
  have hA1 := hA.1
  have hWA := hR.2.1
  have hW1 := hWA.1
  have hI := hR.2.2
  have hI2 := hI.2.1
  have hI3 := hI.2.2.1
  obtain ⟨g0, hg0⟩ : ∃ g, M (m + 6) = g := ⟨_, rfl⟩
  obtain ⟨c0, hc0⟩ : ∃ g, M (m + 7) = g := ⟨_, rfl⟩
  refine WP.blk 3 ?_
  show sT S m = 10 ∧ WP 6 160 5 [vR m, none, none] [] (up M m 5 0, S) Q
  refine ⟨hS.1.1, ?_⟩
  generalize hM_1 : up M m 5 0 = M_1
  have r_2 : M_1 (m + 1) = f := by rw [← hM_1]; exact (up_row (by omega)).trans hf
  obtain ⟨g_4, hg_4⟩ : ∃ y9, y9 = uf o 5 0 := ⟨_, rfl⟩
  have r_3 : M_1 m = g_4 := by rw [← hM_1, hg_4, up_self, ho]
  have t_5 : g_4 4 = o 4 := by rw [hg_4]; exact uf_ne (by omega)
  have t_6 : g_4 5 = 0 := by rw [hg_4]; exact uf_at _ _ (by omega)
  have t_7 : g_4 7 = o 7 := by rw [hg_4]; exact uf_ne (by omega)
  have t_8 : g_4 11 = o 11 := by rw [hg_4]; exact uf_ne (by omega)
  have r_9 : M_1 (m + 2) = p := by rw [← hM_1]; exact (up_row (by omega)).trans hp2
  have r_10 : M_1 (m + 6) = g0 := by rw [← hM_1]; exact (up_row (by omega)).trans hg0
  have r_11 : M_1 (m + 7) = c0 := by rw [← hM_1]; exact (up_row (by omega)).trans hc0
  have fr_12 : ∀ r, r ≠ m → r ≠ m + 1 → r ≠ m + 2 → r ≠ m + 6 → r ≠ m + 7 → M_1 r = M r := fun r q0 q1 q2 q3 q4 => by rw [← hM_1]; exact (up_row q0).trans ((fun _ _ _ _ _ _ => rfl) r q0 q1 q2 q3 q4)
  refine WP.blk 1 ?_
  show WP 6 160 6 [vR m, none, none] [vR m] (M_1, S) Q
  refine WP.cl (a := [vR m]) (rest := []) rfl rfl rfl rfl ⟨hS.1.1, trivial⟩ (by decide) (r_saves hS r_2 r_3 r_9 (by omega) (fun My_13 fry_13 py_13 oy_13 hpy_13 hoy_13 hky_13 hvy_13 => ⟨rfl, ?_⟩))
  show WP 6 160 9 [vR m, none, none] [] (My_13, S) Q
  have r_14 : My_13 (m + 1) = f := (fry_13 _ (by omega) (by omega)).trans r_2
  have r_17 : My_13 (m + 6) = g0 := (fry_13 _ (by omega) (by omega)).trans r_10
  have r_18 : My_13 (m + 7) = c0 := (fry_13 _ (by omega) (by omega)).trans r_11
  have fr_19 : ∀ r, r ≠ m → r ≠ m + 1 → r ≠ m + 2 → r ≠ m + 6 → r ≠ m + 7 → My_13 r = M r := fun r q0 q1 q2 q3 q4 => (fry_13 r q0 q2).trans (fr_12 r q0 q1 q2 q3 q4)
  have t5y_13 := hky_13 5 (by omega)
  have t7y_13 := hky_13 7 (by omega)
  have t11y_13 := hky_13 11 (by omega)
  refine WP.blk 4 ?_
  show WP 6 160 13 [vR m, vI 0, vI 0] [] (My_13, S) Q
  have hl_13 : ∀ (n_13 : Nat) (i : Int) (x : Int) (M1 : Nat → Int → Int) (o1 : Int → Int) (g : Int → Int) (l1 : Int → Int) (c1 : Int → Int), 0 ≤ i ∧ i ≤ f 1 → g = wall f i → x = num (fun w => Can (wall f w) w) i → o1 4 = oy_13 4 ∧ o1 5 = 0 ∧ o1 7 = o 7 → M1 (m + 1) = g → M1 m = o1 → M1 (m + 2) = py_13 → M1 (m + 6) = l1 → M1 (m + 7) = c1 → (∀ r, r ≠ m → r ≠ m + 1 → r ≠ m + 2 → r ≠ m + 6 → r ≠ m + 7 → M1 r = M r) → (f 1 - i).toNat < n_13 → WP 6 160 13 [vR m, vI x, vI i] [] (M1, S) Q := by
    intro n_13
    induction n_13 with
    | zero => intro i x M1 o1 g l1 c1 h0 h1 h2 h3 z_13_0 z_13_1 z_13_2 z_13_3 z_13_4 fr_13 hm_13; exact absurd hm_13 (Nat.not_lt_zero _)
    | succ n_13 ih_13 =>
      intro i x M1 o1 g l1 c1 h0 h1 h2 h3 z_13_0 z_13_1 z_13_2 z_13_3 z_13_4 fr_13 hm_13
      have hq := wall_row hR hB.1 i h0.1 h0.2
      rw [← h1] at hq
      obtain ⟨⟨hAg, hWg, hIg⟩, hio⟩ := hq
      have hA1g := hAg.1
      have hi1 := hio.2.1
      have h9 := num_r (P := (fun w => Can (wall f w) w)) h0.1
      have hcol := fun (h : 0 ≤ i ∧ i < g 1) => (hWg.2 i h.1 h.2).2
      have hWr : ∀ s, 0 ≤ s → s < g 0 → 0 ≤ g (7 + 9 * s + 8) ∧ g (7 + 9 * s + 8) ≤ 1000000000 := fun s a b => ⟨(hIg.1 s a b).2.2.1, by have := (hIg.1 s a b).2.2.2; omega⟩
      refine WP.blk 3 ?_
      show (sT S m = 10 ∧ sR S m 0 ≠ 0) ∧ WP 6 160 18 [vR m, vI x, vI i] [vR (sR S m 0), vI i] (M1, S) Q
      refine ⟨⟨hS.1.1, by rw [hS.1.2.1]; omega⟩, ?_⟩
      rw [hS.1.2.1]
      refine WP.blk 3 ?_
      show ((sT S (m + 1) = 11 ∨ sT S (m + 1) = 16 ∨ sT S (m + 1) = 17) ∧ 0 ≤ 1 ∧ 1 < (sN S (m + 1) : Int)) ∧ WP 6 160 (if cnd .ge i (M1 (m + 1) 1) = true then 55 else 23) [vR m, vI x, vI i] [] (M1, S) Q
      rw [z_13_0]
      refine ⟨⟨Or.inl hS.2.1.1, by omega, by rw [hS.2.2.1]; omega⟩, ?_⟩
      refine br_ge (fun c_20 => ?_) (fun c_20 => ?_)
      · refine WP.blk 1 ?_
        show WP 6 160 56 [vR m, vI x, vI i] [vI x] (M1, S) Q
        refine WP.ret rfl rfl rfl trivial ?_
        have e1 : i = f 1 := by omega
        subst e1
        refine k _ _ fr_13 _ z_13_1 (by omega) (by omega) h2 (z_13_0.trans h1) _ z_13_2 ?_
        have e4 := hvy_13
        rw [show g_4 4 = o 4 by omega, ← h3.1] at e4
        exact e4
      · refine WP.blk 2 ?_
        show WP 6 160 25 [vR m, vI x, vI i] [vI i, vR m] (M1, S) Q
        refine WP.cl (a := [vR m, vI i]) (rest := []) rfl rfl rfl rfl ⟨hS.1.1, trivial⟩ (by decide) (r_canWrite hS z_13_0 hAg (hWg.2 i (by omega) (by omega)).1 hWr (fun b_21 Mc21 fr21 o21 c21 ho21 hc21 hk21 hb_21 => ⟨rfl, ?_⟩))
        show WP 6 160 28 [vR m, vI x, vI i] [vI b_21] (Mc21, S) Q
        have r_22 : Mc21 (m + 1) = g := (fr21 _ (by omega) (by omega) (by omega)).trans z_13_0
        have r_24 : Mc21 (m + 2) = py_13 := (fr21 _ (by omega) (by omega) (by omega)).trans z_13_2
        obtain ⟨g_26, r_25⟩ : ∃ y9, Mc21 (m + 6) = y9 := ⟨_, rfl⟩
        have fr_28 : ∀ r, r ≠ m → r ≠ m + 1 → r ≠ m + 2 → r ≠ m + 6 → r ≠ m + 7 → Mc21 r = M r := fun r q0 q1 q2 q3 q4 => (fr21 r q0 q3 q4).trans (fr_13 r q0 q1 q2 q3 q4)
        have t421 := (hk21 4 (by omega)).trans (congrFun z_13_1 4)
        have t521 := (hk21 5 (by omega)).trans (congrFun z_13_1 5)
        have t721 := (hk21 7 (by omega)).trans (congrFun z_13_1 7)
        refine WP.blk 1 ?_
        show WP 6 160 (if cnd .eq b_21 0 = true then 49 else 31) [vR m, vI x, vI i] [] (Mc21, S) Q
        refine br_eq (fun c_29 => ?_) (fun c_29 => ?_)
        · have p_21 := (hb_21.resolve_left (fun h => by omega)).2
          refine WP.blk 2 ?_
          show ir (i + 1) ∧ WP 6 160 13 [vR m, vI x, vI (i + 1)] [] (Mc21, S) Q
          refine ⟨(by unfold ir; omega), ?_⟩
          exact ih_13 (i + 1) x Mc21 o21 g g_26 c21 (by omega) (by rw [wall_s h0.1, ← h1, wrote_f (can_n p_21)]) (by rw [num_f (P := (fun w => Can (wall f w) w)) h0.1 (by rw [← h1]; exact can_n p_21)]; exact h2) (by omega) r_22 ho21 r_24 r_25 hc21 fr_28 (by omega)
        · have p_21 := (hb_21.resolve_right (fun h => by omega)).2
          have hpl := wrt_pl hAg (hWg.2 i (by omega) (by omega)).1 p_21
          refine WP.blk 3 ?_
          show (sT S m = 10 ∧ sR S m 0 ≠ 0) ∧ WP 6 160 36 [vR m, vI x, vI i] [vR (sR S m 0), vR m] (Mc21, S) Q
          refine ⟨⟨hS.1.1, by rw [hS.1.2.1]; omega⟩, ?_⟩
          rw [hS.1.2.1]
          refine WP.blk 1 ?_
          show WP 6 160 37 [vR m, vI x, vI i] [vI i, vR (m + 1), vR m] (Mc21, S) Q
          refine WP.cl (a := [vI i]) (rest := [vR (m + 1), vR m]) rfl rfl rfl rfl trivial (by decide) (q_wordAt (by omega) ⟨rfl, ?_⟩)
          show WP 6 160 40 [vR m, vI x, vI i] [vI (97 + 14 * i), vR (m + 1), vR m] (Mc21, S) Q
          refine WP.blk 3 ?_
          show ir ((97 + 14 * i) + 1) ∧ ((sT S (m + 1) = 11 ∨ sT S (m + 1) = 16 ∨ sT S (m + 1) = 17) ∧ 0 ≤ ((97 + 14 * i) + 1) ∧ ((97 + 14 * i) + 1) < (sN S (m + 1) : Int)) ∧ WP 6 160 43 [vR m, vI x, vI i] [vI (Mc21 (m + 1) ((97 + 14 * i) + 1)), vR m] (Mc21, S) Q
          rw [r_22]
          refine ⟨(by unfold ir; omega), ⟨Or.inl hS.2.1.1, by omega, by rw [hS.2.2.1]; omega⟩, ?_⟩
          refine WP.cl (a := [vR m, vI (g ((97 + 14 * i) + 1))]) (rest := []) rfl rfl rfl rfl ⟨hS.1.1, trivial⟩ (by decide) (r_carries hS r_22 ho21 hc21 (by omega) hA1g (fun i a b => hpl.2 i a (by omega)) hIg (by omega) (by omega) (fun My_30 fry_30 hMy_30 => ⟨rfl, ?_⟩))
          show WP 6 160 46 [vR m, vI x, vI i] [] (My_30, S) Q
          obtain ⟨gy_30, hgy_30⟩ : ∃ y9, My_30 (m + 1) = y9 := ⟨_, rfl⟩
          rw [hgy_30] at hMy_30
          have r_32 : My_30 m = o21 := (fry_30 _ (by omega)).trans ho21
          have r_33 : My_30 (m + 2) = py_13 := (fry_30 _ (by omega)).trans r_24
          have r_34 : My_30 (m + 6) = g_26 := (fry_30 _ (by omega)).trans r_25
          have r_35 : My_30 (m + 7) = c21 := (fry_30 _ (by omega)).trans hc21
          have fr_36 : ∀ r, r ≠ m → r ≠ m + 1 → r ≠ m + 2 → r ≠ m + 6 → r ≠ m + 7 → My_30 r = M r := fun r q0 q1 q2 q3 q4 => (fry_30 r q1).trans (fr_28 r q0 q1 q2 q3 q4)
          refine WP.blk 3 ?_
          show ir (x + 1) ∧ ir (i + 1) ∧ WP 6 160 13 [vR m, vI (x + 1), vI (i + 1)] [] (My_30, S) Q
          refine ⟨(by unfold ir; omega), (by unfold ir; omega), ?_⟩
          exact ih_13 (i + 1) (x + 1) My_30 o21 gy_30 g_26 c21 (by omega) (by rw [wall_s h0.1, ← h1, wrote_t hAg (hWg.2 i (by omega) (by omega)).1 p_21, hMy_30]) (by rw [num_t (P := (fun w => Can (wall f w) w)) h0.1 (by rw [← h1]; exact can_i p_21)]; omega) (by omega) hgy_30 r_32 r_33 r_34 r_35 fr_36 (by omega)
  exact hl_13 _ 0 0 My_13 oy_13 f g0 c0 (by omega) wall_0.symm num_0.symm (by omega) r_14 hoy_13 hpy_13 r_17 r_18 fr_19 (Nat.lt_succ_self _)
