set_option maxHeartbeats 4000000 in
theorem r_saves {S : SD} {M : Nat → Int → Int} {m : Nat} {f : Int → Int} {o p : Int → Int} (hS : isMod S m) (hf : M (m + 1) = f) (ho : M m = o) (hp2 : M (m + 2) = p) (hsv : 0 ≤ o 4 ∧ o 4 ≤ 4) {Q : Res → Wd → Prop} (k : ∀ M2 : Nat → Int → Int, (∀ r, r ≠ m → r ≠ m + 2 → M2 r = M r) → ∀ p2 o2, M2 (m + 2) = p2 → M2 m = o2 → (∀ k, k ≠ 4 → o2 k = o k) → SavedP p (o 4) f p2 (o2 4) → Q (0, none) (M2, S)) : EvQ 1 113 [vR m] (M, S) Q := by
  refine EvQ.enter (ls := [vR m, none]) (Nat.le_of_ble_eq_true rfl) rfl ?_
  refine WP.blk 4 ?_
  show sT S m = 10 ∧ WP 0 113 (if cnd .ne (M m 4) 4 = true then 49 else 8) [vR m, none] [] (M, S) Q
  rw [ho]
  refine ⟨hS.1.1, ?_⟩
  refine br_ne (fun c_1 => ?_) (fun c_1 => ?_)
  · refine WP.blk 2 ?_
    show WP 0 113 51 [vR m, vI 0] [] (M, S) Q
    have hl_51 : ∀ (n_51 : Nat) (j : Int) (M2 : Nat → Int → Int) (g2 : Int → Int), 0 ≤ j ∧ j ≤ 195 → g2 = rcp f 0 p (195 * o 4) j → M2 (m + 1) = f → M2 m = o → M2 (m + 2) = g2 → (∀ r, r ≠ m → r ≠ m + 2 → M2 r = M r) → (195 - j).toNat < n_51 → WP 0 113 51 [vR m, vI j] [] (M2, S) Q := by
      intro n_51
      induction n_51 with
      | zero => intro j M2 g2 h2 h3 z_51_0 z_51_1 z_51_2 fr_51 hm_51; exact absurd hm_51 (Nat.not_lt_zero _)
      | succ n_51 ih_51 =>
        intro j M2 g2 h2 h3 z_51_0 z_51_1 z_51_2 fr_51 hm_51
        refine WP.blk 3 ?_
        show WP 0 113 (if cnd .ge j 195 = true then 85 else 58) [vR m, vI j] [] (M2, S) Q
        refine br_ge (fun c_2 => ?_) (fun c_2 => ?_)
        · refine WP.blk 6 ?_
          show sT S m = 10 ∧ ir ((M2 m 4) + 1) ∧ sT S m = 10 ∧ WP 0 113 95 [vR m, vI j] [] (up M2 m 4 ((M2 m 4) + 1), S) Q
          rw [z_51_1]
          refine ⟨hS.1.1, (by unfold ir; omega), hS.1.1, ?_⟩
          generalize hM_3 : up M2 m 4 ((o 4) + 1) = M_3
          have r_4 : M_3 (m + 1) = f := by rw [← hM_3]; exact (up_row (by omega)).trans z_51_0
          obtain ⟨g_6, hg_6⟩ : ∃ y9, y9 = uf o 4 ((o 4) + 1) := ⟨_, rfl⟩
          have r_5 : M_3 m = g_6 := by rw [← hM_3, hg_6, up_self, z_51_1]
          have t_7 : g_6 4 = (o 4) + 1 := by rw [hg_6]; exact uf_at _ _ (by omega)
          have r_8 : M_3 (m + 2) = g2 := by rw [← hM_3]; exact (up_row (by omega)).trans z_51_2
          have fr_9 : ∀ r, r ≠ m → r ≠ m + 2 → M_3 r = M r := fun r q0 q1 => by rw [← hM_3]; exact (up_row q0).trans (fr_51 r q0 q1)
          refine WP.ret rfl rfl rfl trivial ?_
          have e1 : j = 195 := by omega
          subst e1
          refine k _ fr_9 _ _ r_8 r_5 (fun k hk => by rw [hg_6, uf_ne hk]) ?_
          rw [h3, show g_6 4 = o 4 + 1 by omega]
          exact saved_n hsv.1 (by omega)
        · refine WP.blk 2 ?_
          show (sT S m = 10 ∧ sR S m 1 ≠ 0) ∧ WP 0 113 62 [vR m, vI j] [vR (sR S m 1)] (M2, S) Q
          refine ⟨⟨hS.1.1, by rw [hS.1.2.2.1]; omega⟩, ?_⟩
          rw [hS.1.2.2.1]
          refine WP.blk 8 ?_
          show sT S m = 10 ∧ ir (195 * (M2 m 4)) ∧ ir ((195 * (M2 m 4)) + j) ∧ (sT S m = 10 ∧ sR S m 0 ≠ 0) ∧ WP 0 113 76 [vR m, vI j] [vR (sR S m 0), vI ((195 * (M2 m 4)) + j), vR (m + 2)] (M2, S) Q
          rw [z_51_1]
          refine ⟨hS.1.1, (by unfold ir; omega), (by unfold ir; omega), ⟨hS.1.1, by rw [hS.1.2.1]; omega⟩, ?_⟩
          rw [hS.1.2.1]
          refine WP.blk 3 ?_
          show ((sT S (m + 1) = 11 ∨ sT S (m + 1) = 16 ∨ sT S (m + 1) = 17) ∧ 0 ≤ j ∧ j < (sN S (m + 1) : Int)) ∧ (sT S (m + 2) = 11 ∧ 0 ≤ ((195 * (o 4)) + j) ∧ ((195 * (o 4)) + j) < (sN S (m + 2) : Int)) ∧ WP 0 113 79 [vR m, vI j] [] (up M2 (m + 2) ((195 * (o 4)) + j) (M2 (m + 1) j), S) Q
          rw [z_51_0]
          refine ⟨⟨Or.inl hS.2.1.1, by omega, by rw [hS.2.2.1]; omega⟩, ⟨hS.2.1.2.1, by omega, by rw [hS.2.2.2.1]; omega⟩, ?_⟩
          generalize hM_10 : up M2 (m + 2) ((195 * (o 4)) + j) (f j) = M_10
          have r_11 : M_10 (m + 1) = f := by rw [← hM_10]; exact (up_row (by omega)).trans z_51_0
          have r_12 : M_10 m = o := by rw [← hM_10]; exact (up_row (by omega)).trans z_51_1
          obtain ⟨g_14, hg_14⟩ : ∃ y9, y9 = uf g2 ((195 * (o 4)) + j) (f j) := ⟨_, rfl⟩
          have r_13 : M_10 (m + 2) = g_14 := by rw [← hM_10, hg_14, up_self, z_51_2]
          have fr_15 : ∀ r, r ≠ m → r ≠ m + 2 → M_10 r = M r := fun r q0 q1 => by rw [← hM_10]; exact (up_row q1).trans (fr_51 r q0 q1)
          refine WP.blk 2 ?_
          show ir (j + 1) ∧ WP 0 113 51 [vR m, vI (j + 1)] [] (M_10, S) Q
          refine ⟨(by unfold ir; omega), ?_⟩
          exact ih_51 (j + 1) M_10 g_14 (by omega) (by rw [hg_14, h3]; exact rcp_s h2.1 (by omega) (by congr 1; omega)) r_11 r_12 r_13 fr_15 (by omega)
    exact hl_51 _ 0 M p (by omega) rcp_0.symm hf ho hp2 (fun _ _ _ => rfl) (Nat.lt_succ_self _)
  · refine WP.blk 2 ?_
    show WP 0 113 10 [vR m, vI 0] [] (M, S) Q
    have hl_10 : ∀ (n_10 : Nat) (i : Int) (M1 : Nat → Int → Int) (g : Int → Int), 0 ≤ i ∧ i ≤ 585 → g = rcp p 195 p 0 i → M1 (m + 1) = f → M1 m = o → M1 (m + 2) = g → (∀ r, r ≠ m → r ≠ m + 2 → M1 r = M r) → (585 - i).toNat < n_10 → WP 0 113 10 [vR m, vI i] [] (M1, S) Q := by
      intro n_10
      induction n_10 with
      | zero => intro i M1 g h0 h1 z_10_0 z_10_1 z_10_2 fr_10 hm_10; exact absurd hm_10 (Nat.not_lt_zero _)
      | succ n_10 ih_10 =>
        intro i M1 g h0 h1 z_10_0 z_10_1 z_10_2 fr_10 hm_10
        refine WP.blk 3 ?_
        show WP 0 113 (if cnd .ge i 585 = true then 39 else 17) [vR m, vI i] [] (M1, S) Q
        refine br_ge (fun c_16 => ?_) (fun c_16 => ?_)
        · refine WP.blk 6 ?_
          show sT S m = 10 ∧ ir ((M1 m 4) - 1) ∧ sT S m = 10 ∧ WP 0 113 49 [vR m, vI i] [] (up M1 m 4 ((M1 m 4) - 1), S) Q
          rw [z_10_1]
          refine ⟨hS.1.1, (by unfold ir; omega), hS.1.1, ?_⟩
          generalize hM_17 : up M1 m 4 ((o 4) - 1) = M_17
          have r_18 : M_17 (m + 1) = f := by rw [← hM_17]; exact (up_row (by omega)).trans z_10_0
          obtain ⟨g_20, hg_20⟩ : ∃ y9, y9 = uf o 4 ((o 4) - 1) := ⟨_, rfl⟩
          have r_19 : M_17 m = g_20 := by rw [← hM_17, hg_20, up_self, z_10_1]
          have t_21 : g_20 4 = (o 4) - 1 := by rw [hg_20]; exact uf_at _ _ (by omega)
          have r_22 : M_17 (m + 2) = g := by rw [← hM_17]; exact (up_row (by omega)).trans z_10_2
          have fr_23 : ∀ r, r ≠ m → r ≠ m + 2 → M_17 r = M r := fun r q0 q1 => by rw [← hM_17]; exact (up_row q0).trans (fr_10 r q0 q1)
          refine WP.blk 2 ?_
          show WP 0 113 51 [vR m, vI 0] [] (M_17, S) Q
          have hl_51 : ∀ (n_51 : Nat) (j : Int) (M2 : Nat → Int → Int) (g2 : Int → Int), 0 ≤ j ∧ j ≤ 195 → g2 = rcp f 0 g (195 * g_20 4) j → M2 (m + 1) = f → M2 m = g_20 → M2 (m + 2) = g2 → (∀ r, r ≠ m → r ≠ m + 2 → M2 r = M r) → (195 - j).toNat < n_51 → WP 0 113 51 [vR m, vI j] [] (M2, S) Q := by
            intro n_51
            induction n_51 with
            | zero => intro j M2 g2 h2 h3 z_51_0 z_51_1 z_51_2 fr_51 hm_51; exact absurd hm_51 (Nat.not_lt_zero _)
            | succ n_51 ih_51 =>
              intro j M2 g2 h2 h3 z_51_0 z_51_1 z_51_2 fr_51 hm_51
              refine WP.blk 3 ?_
              show WP 0 113 (if cnd .ge j 195 = true then 85 else 58) [vR m, vI j] [] (M2, S) Q
              refine br_ge (fun c_24 => ?_) (fun c_24 => ?_)
              · refine WP.blk 6 ?_
                show sT S m = 10 ∧ ir ((M2 m 4) + 1) ∧ sT S m = 10 ∧ WP 0 113 95 [vR m, vI j] [] (up M2 m 4 ((M2 m 4) + 1), S) Q
                rw [z_51_1]
                refine ⟨hS.1.1, (by unfold ir; omega), hS.1.1, ?_⟩
                generalize hM_25 : up M2 m 4 ((g_20 4) + 1) = M_25
                have r_26 : M_25 (m + 1) = f := by rw [← hM_25]; exact (up_row (by omega)).trans z_51_0
                obtain ⟨g_28, hg_28⟩ : ∃ y9, y9 = uf g_20 4 ((g_20 4) + 1) := ⟨_, rfl⟩
                have r_27 : M_25 m = g_28 := by rw [← hM_25, hg_28, up_self, z_51_1]
                have t_29 : g_28 4 = (g_20 4) + 1 := by rw [hg_28]; exact uf_at _ _ (by omega)
                have r_30 : M_25 (m + 2) = g2 := by rw [← hM_25]; exact (up_row (by omega)).trans z_51_2
                have fr_31 : ∀ r, r ≠ m → r ≠ m + 2 → M_25 r = M r := fun r q0 q1 => by rw [← hM_25]; exact (up_row q0).trans (fr_51 r q0 q1)
                refine WP.ret rfl rfl rfl trivial ?_
                have e1 : j = 195 := by omega
                have e2 : i = 585 := by omega
                subst e1
                subst e2
                refine k _ fr_31 _ _ r_30 r_27 (fun k hk => by rw [hg_28, uf_ne hk, hg_20, uf_ne hk]) ?_
                rw [h3, show 195 * g_20 4 = 585 by omega, h1, show o 4 = 4 by omega, show g_28 4 = 4 by omega]
                exact saved_4
              · refine WP.blk 2 ?_
                show (sT S m = 10 ∧ sR S m 1 ≠ 0) ∧ WP 0 113 62 [vR m, vI j] [vR (sR S m 1)] (M2, S) Q
                refine ⟨⟨hS.1.1, by rw [hS.1.2.2.1]; omega⟩, ?_⟩
                rw [hS.1.2.2.1]
                refine WP.blk 8 ?_
                show sT S m = 10 ∧ ir (195 * (M2 m 4)) ∧ ir ((195 * (M2 m 4)) + j) ∧ (sT S m = 10 ∧ sR S m 0 ≠ 0) ∧ WP 0 113 76 [vR m, vI j] [vR (sR S m 0), vI ((195 * (M2 m 4)) + j), vR (m + 2)] (M2, S) Q
                rw [z_51_1]
                refine ⟨hS.1.1, (by unfold ir; omega), (by unfold ir; omega), ⟨hS.1.1, by rw [hS.1.2.1]; omega⟩, ?_⟩
                rw [hS.1.2.1]
                refine WP.blk 3 ?_
                show ((sT S (m + 1) = 11 ∨ sT S (m + 1) = 16 ∨ sT S (m + 1) = 17) ∧ 0 ≤ j ∧ j < (sN S (m + 1) : Int)) ∧ (sT S (m + 2) = 11 ∧ 0 ≤ ((195 * (g_20 4)) + j) ∧ ((195 * (g_20 4)) + j) < (sN S (m + 2) : Int)) ∧ WP 0 113 79 [vR m, vI j] [] (up M2 (m + 2) ((195 * (g_20 4)) + j) (M2 (m + 1) j), S) Q
                rw [z_51_0]
                refine ⟨⟨Or.inl hS.2.1.1, by omega, by rw [hS.2.2.1]; omega⟩, ⟨hS.2.1.2.1, by omega, by rw [hS.2.2.2.1]; omega⟩, ?_⟩
                generalize hM_32 : up M2 (m + 2) ((195 * (g_20 4)) + j) (f j) = M_32
                have r_33 : M_32 (m + 1) = f := by rw [← hM_32]; exact (up_row (by omega)).trans z_51_0
                have r_34 : M_32 m = g_20 := by rw [← hM_32]; exact (up_row (by omega)).trans z_51_1
                obtain ⟨g_36, hg_36⟩ : ∃ y9, y9 = uf g2 ((195 * (g_20 4)) + j) (f j) := ⟨_, rfl⟩
                have r_35 : M_32 (m + 2) = g_36 := by rw [← hM_32, hg_36, up_self, z_51_2]
                have fr_37 : ∀ r, r ≠ m → r ≠ m + 2 → M_32 r = M r := fun r q0 q1 => by rw [← hM_32]; exact (up_row q1).trans (fr_51 r q0 q1)
                refine WP.blk 2 ?_
                show ir (j + 1) ∧ WP 0 113 51 [vR m, vI (j + 1)] [] (M_32, S) Q
                refine ⟨(by unfold ir; omega), ?_⟩
                exact ih_51 (j + 1) M_32 g_36 (by omega) (by rw [hg_36, h3]; exact rcp_s h2.1 (by omega) (by congr 1; omega)) r_33 r_34 r_35 fr_37 (by omega)
          exact hl_51 _ 0 M_17 g (by omega) rcp_0.symm r_18 r_19 r_22 fr_23 (Nat.lt_succ_self _)
        · refine WP.blk 2 ?_
          show (sT S m = 10 ∧ sR S m 1 ≠ 0) ∧ WP 0 113 21 [vR m, vI i] [vR (sR S m 1)] (M1, S) Q
          refine ⟨⟨hS.1.1, by rw [hS.1.2.2.1]; omega⟩, ?_⟩
          rw [hS.1.2.2.1]
          refine WP.blk 3 ?_
          show (sT S m = 10 ∧ sR S m 1 ≠ 0) ∧ WP 0 113 26 [vR m, vI i] [vR (sR S m 1), vI i, vR (m + 2)] (M1, S) Q
          refine ⟨⟨hS.1.1, by rw [hS.1.2.2.1]; omega⟩, ?_⟩
          rw [hS.1.2.2.1]
          refine WP.blk 5 ?_
          show ir (i + 195) ∧ ((sT S (m + 2) = 11 ∨ sT S (m + 2) = 16 ∨ sT S (m + 2) = 17) ∧ 0 ≤ (i + 195) ∧ (i + 195) < (sN S (m + 2) : Int)) ∧ (sT S (m + 2) = 11 ∧ 0 ≤ i ∧ i < (sN S (m + 2) : Int)) ∧ WP 0 113 33 [vR m, vI i] [] (up M1 (m + 2) i (M1 (m + 2) (i + 195)), S) Q
          rw [z_10_2]
          refine ⟨(by unfold ir; omega), ⟨Or.inl hS.2.1.2.1, by omega, by rw [hS.2.2.2.1]; omega⟩, ⟨hS.2.1.2.1, by omega, by rw [hS.2.2.2.1]; omega⟩, ?_⟩
          generalize hM_38 : up M1 (m + 2) i (g (i + 195)) = M_38
          have r_39 : M_38 (m + 1) = f := by rw [← hM_38]; exact (up_row (by omega)).trans z_10_0
          have r_40 : M_38 m = o := by rw [← hM_38]; exact (up_row (by omega)).trans z_10_1
          obtain ⟨g_42, hg_42⟩ : ∃ y9, y9 = uf g i (g (i + 195)) := ⟨_, rfl⟩
          have r_41 : M_38 (m + 2) = g_42 := by rw [← hM_38, hg_42, up_self, z_10_2]
          have fr_43 : ∀ r, r ≠ m → r ≠ m + 2 → M_38 r = M r := fun r q0 q1 => by rw [← hM_38]; exact (up_row q1).trans (fr_10 r q0 q1)
          refine WP.blk 2 ?_
          show ir (i + 1) ∧ WP 0 113 10 [vR m, vI (i + 1)] [] (M_38, S) Q
          refine ⟨(by unfold ir; omega), ?_⟩
          exact ih_10 (i + 1) M_38 g_42 (by omega) (by rw [hg_42, h1]; exact rcp_s h0.1 (by omega) (by rw [rcp_out (by omega)]; congr 1; omega)) r_39 r_40 r_41 fr_43 (by omega)
    exact hl_10 _ 0 M p (by omega) rcp_0.symm hf ho hp2 (fun _ _ _ => rfl) (Nat.lt_succ_self _)
set_option maxHeartbeats 4000000 in
theorem r_undo {S : SD} {M : Nat → Int → Int} {m : Nat} {f : Int → Int} {o p : Int → Int} (hS : isMod S m) (hf : M (m + 1) = f) (ho : M m = o) (hp2 : M (m + 2) = p) (hsv : 0 ≤ o 4 ∧ o 4 ≤ 4) {Q : Res → Wd → Prop} (k : ∀ (v : Int) (M2 : Nat → Int → Int), (∀ r, r ≠ m → r ≠ m + 1 → M2 r = M r) → ∀ o2, M2 m = o2 → o2 7 = o 7 → (o2 5 = 1 ∧ o 4 = 0 ∧ o2 4 = o 4 ∧ M2 (m + 1) = f) ∨ (o2 5 = 0 ∧ 0 < o 4 ∧ o2 4 = o 4 - 1 ∧ v = o 4 - 1 ∧ M2 (m + 1) = rcp p (195 * (o 4 - 1)) f 0 195) → Q (0, vI v) (M2, S)) : EvQ 3 114 [vR m] (M, S) Q := by
  refine EvQ.enter (ls := [vR m, none]) (Nat.le_of_ble_eq_true rfl) rfl ?_
  refine WP.blk 4 ?_
  show sT S m = 10 ∧ WP 2 114 (if cnd .ne (M m 4) 0 = true then 12 else 8) [vR m, none] [vR m] (M, S) Q
  rw [ho]
  refine ⟨hS.1.1, ?_⟩
  refine br_ne (fun c_1 => ?_) (fun c_1 => ?_)
  · refine WP.blk 1 ?_
    show WP 2 114 13 [vR m, none] [vI 0, vR m] (M, S) Q
    refine WP.cl (a := [vR m, vI 0]) (rest := []) rfl rfl rfl rfl ⟨hS.1.1, trivial⟩ (by decide) (r_refused hS hf ho (fun b_2 Mr2 fr2 o2 ho2 h52 hk2 hb_2 => ⟨rfl, ?_⟩))
    show WP 2 114 16 [vR m, none] [vI b_2] (Mr2, S) Q
    have r_3 : Mr2 (m + 1) = f := (fr2 _ (by omega)).trans hf
    have r_5 : Mr2 (m + 2) = p := (fr2 _ (by omega)).trans hp2
    have fr_6 : ∀ r, r ≠ m → r ≠ m + 1 → Mr2 r = M r := fun r q0 q1 => (fr2 r q0).trans ((fun _ _ _ => rfl) r q0 q1)
    have t42 := hk2 4 (by omega)
    have t72 := hk2 7 (by omega)
    refine WP.blk 1 ?_
    show WP 2 114 (if cnd .eq b_2 0 = true then 21 else 19) [vR m, none] [] (Mr2, S) Q
    refine br_eq (fun c_7 => ?_) (fun c_7 => ?_)
    · have p_2 := (hb_2.resolve_left (fun h => by omega)).2
      refine WP.blk 6 ?_
      show sT S m = 10 ∧ ir ((Mr2 m 4) - 1) ∧ sT S m = 10 ∧ WP 2 114 31 [vR m, none] [] (up Mr2 m 4 ((Mr2 m 4) - 1), S) Q
      rw [ho2]
      refine ⟨hS.1.1, (by unfold ir; omega), hS.1.1, ?_⟩
      generalize hM_8 : up Mr2 m 4 ((o2 4) - 1) = M_8
      have r_9 : M_8 (m + 1) = f := by rw [← hM_8]; exact (up_row (by omega)).trans r_3
      obtain ⟨g_11, hg_11⟩ : ∃ y9, y9 = uf o2 4 ((o2 4) - 1) := ⟨_, rfl⟩
      have r_10 : M_8 m = g_11 := by rw [← hM_8, hg_11, up_self, ho2]
      have t_12 : g_11 4 = (o2 4) - 1 := by rw [hg_11]; exact uf_at _ _ (by omega)
      have t_13 : g_11 5 = o2 5 := by rw [hg_11]; exact uf_ne (by omega)
      have t_14 : g_11 7 = o2 7 := by rw [hg_11]; exact uf_ne (by omega)
      have r_15 : M_8 (m + 2) = p := by rw [← hM_8]; exact (up_row (by omega)).trans r_5
      have fr_16 : ∀ r, r ≠ m → r ≠ m + 1 → M_8 r = M r := fun r q0 q1 => by rw [← hM_8]; exact (up_row q0).trans (fr_6 r q0 q1)
      refine WP.blk 2 ?_
      show WP 2 114 33 [vR m, vI 0] [] (M_8, S) Q
      have hl_33 : ∀ (n_33 : Nat) (i : Int) (M1 : Nat → Int → Int) (g : Int → Int), 0 ≤ i ∧ i ≤ 195 → g = rcp p (195 * g_11 4) f 0 i → M1 (m + 1) = g → M1 m = g_11 → M1 (m + 2) = p → (∀ r, r ≠ m → r ≠ m + 1 → M1 r = M r) → (195 - i).toNat < n_33 → WP 2 114 33 [vR m, vI i] [] (M1, S) Q := by
        intro n_33
        induction n_33 with
        | zero => intro i M1 g h0 h1 z_33_0 z_33_1 z_33_2 fr_33 hm_33; exact absurd hm_33 (Nat.not_lt_zero _)
        | succ n_33 ih_33 =>
          intro i M1 g h0 h1 z_33_0 z_33_1 z_33_2 fr_33 hm_33
          refine WP.blk 3 ?_
          show WP 2 114 (if cnd .ge i 195 = true then 67 else 40) [vR m, vI i] [] (M1, S) Q
          refine br_ge (fun c_17 => ?_) (fun c_17 => ?_)
          · refine WP.blk 2 ?_
            show sT S m = 10 ∧ WP 2 114 71 [vR m, vI i] [vI (M1 m 4)] (M1, S) Q
            rw [z_33_1]
            refine ⟨hS.1.1, ?_⟩
            refine WP.ret rfl rfl rfl trivial ?_
            have e1 : i = 195 := by omega
            subst e1
            exact k _ _ fr_33 _ z_33_1 (by omega) (Or.inr ⟨by omega, by omega, by omega, by omega, by rw [z_33_0, h1, show g_11 4 = o 4 - 1 by omega]⟩)
          · refine WP.blk 2 ?_
            show (sT S m = 10 ∧ sR S m 0 ≠ 0) ∧ WP 2 114 44 [vR m, vI i] [vR (sR S m 0)] (M1, S) Q
            refine ⟨⟨hS.1.1, by rw [hS.1.2.1]; omega⟩, ?_⟩
            rw [hS.1.2.1]
            refine WP.blk 3 ?_
            show (sT S m = 10 ∧ sR S m 1 ≠ 0) ∧ WP 2 114 49 [vR m, vI i] [vR (sR S m 1), vI i, vR (m + 1)] (M1, S) Q
            refine ⟨⟨hS.1.1, by rw [hS.1.2.2.1]; omega⟩, ?_⟩
            rw [hS.1.2.2.1]
            refine WP.blk 8 ?_
            show sT S m = 10 ∧ ir (195 * (M1 m 4)) ∧ ir ((195 * (M1 m 4)) + i) ∧ ((sT S (m + 2) = 11 ∨ sT S (m + 2) = 16 ∨ sT S (m + 2) = 17) ∧ 0 ≤ ((195 * (M1 m 4)) + i) ∧ ((195 * (M1 m 4)) + i) < (sN S (m + 2) : Int)) ∧ (sT S (m + 1) = 11 ∧ 0 ≤ i ∧ i < (sN S (m + 1) : Int)) ∧ WP 2 114 61 [vR m, vI i] [] (up M1 (m + 1) i (M1 (m + 2) ((195 * (M1 m 4)) + i)), S) Q
            rw [z_33_1]
            rw [z_33_2]
            refine ⟨hS.1.1, (by unfold ir; omega), (by unfold ir; omega), ⟨Or.inl hS.2.1.2.1, by omega, by rw [hS.2.2.2.1]; omega⟩, ⟨hS.2.1.1, by omega, by rw [hS.2.2.1]; omega⟩, ?_⟩
            generalize hM_18 : up M1 (m + 1) i (p ((195 * (g_11 4)) + i)) = M_18
            obtain ⟨g_20, hg_20⟩ : ∃ y9, y9 = uf g i (p ((195 * (g_11 4)) + i)) := ⟨_, rfl⟩
            have r_19 : M_18 (m + 1) = g_20 := by rw [← hM_18, hg_20, up_self, z_33_0]
            have r_21 : M_18 m = g_11 := by rw [← hM_18]; exact (up_row (by omega)).trans z_33_1
            have r_22 : M_18 (m + 2) = p := by rw [← hM_18]; exact (up_row (by omega)).trans z_33_2
            have fr_23 : ∀ r, r ≠ m → r ≠ m + 1 → M_18 r = M r := fun r q0 q1 => by rw [← hM_18]; exact (up_row q1).trans (fr_33 r q0 q1)
            refine WP.blk 2 ?_
            show ir (i + 1) ∧ WP 2 114 33 [vR m, vI (i + 1)] [] (M_18, S) Q
            refine ⟨(by unfold ir; omega), ?_⟩
            exact ih_33 (i + 1) M_18 g_20 (by omega) (by rw [hg_20, h1]; exact rcp_s h0.1 (by omega) (by congr 1)) r_19 r_21 r_22 fr_23 (by omega)
      exact hl_33 _ 0 M_8 f (by omega) rcp_0.symm r_9 r_10 r_15 fr_16 (Nat.lt_succ_self _)
    · exfalso; omega
  · refine WP.blk 2 ?_
    show WP 2 114 13 [vR m, none] [vI 1, vR m] (M, S) Q
    refine WP.cl (a := [vR m, vI 1]) (rest := []) rfl rfl rfl rfl ⟨hS.1.1, trivial⟩ (by decide) (r_refused hS hf ho (fun b_24 Mr24 fr24 o24 ho24 h524 hk24 hb_24 => ⟨rfl, ?_⟩))
    show WP 2 114 16 [vR m, none] [vI b_24] (Mr24, S) Q
    have r_25 : Mr24 (m + 1) = f := (fr24 _ (by omega)).trans hf
    have r_27 : Mr24 (m + 2) = p := (fr24 _ (by omega)).trans hp2
    have fr_28 : ∀ r, r ≠ m → r ≠ m + 1 → Mr24 r = M r := fun r q0 q1 => (fr24 r q0).trans ((fun _ _ _ => rfl) r q0 q1)
    have t424 := hk24 4 (by omega)
    have t724 := hk24 7 (by omega)
    refine WP.blk 1 ?_
    show WP 2 114 (if cnd .eq b_24 0 = true then 21 else 19) [vR m, none] [] (Mr24, S) Q
    refine br_eq (fun c_29 => ?_) (fun c_29 => ?_)
    · exfalso; omega
    · have p_24 := (hb_24.resolve_right (fun h => by omega)).2
      refine WP.blk 1 ?_
      show WP 2 114 20 [vR m, none] [vI 0] (Mr24, S) Q
      exact WP.ret rfl rfl rfl trivial (k _ _ fr_28 _ ho24 (by omega) (Or.inl ⟨by omega, by omega, by omega, r_25⟩))
set_option maxHeartbeats 4000000 in
theorem r_append {S : SD} {M : Nat → Int → Int} {m : Nat} {f : Int → Int} {o t : Int → Int} {v : Int} (hS : isMod S m) (hf : M (m + 1) = f) (ho : M m = o) (ht : M (m + 5) = t) (hl : 0 ≤ o 7 ∧ o 7 ≤ 150) {Q : Res → Wd → Prop} (k : ∀ (x : Int) (M2 : Nat → Int → Int), (∀ r, r ≠ m → r ≠ m + 5 → M2 r = M r) → ∀ o2, M2 m = o2 → o2 4 = o 4 → (o2 5 = 1 ∧ ¬ (0 ≤ v ∧ v ≤ 127) ∧ o2 7 = o 7 ∧ M2 (m + 5) = t) ∨ (o2 5 = 2 ∧ (0 ≤ v ∧ v ≤ 127) ∧ o 7 = 150 ∧ o2 7 = o 7 ∧ M2 (m + 5) = t) ∨ (o2 5 = 0 ∧ (0 ≤ v ∧ v ≤ 127) ∧ o 7 ≠ 150 ∧ o2 7 = o 7 + 1 ∧ x = o 7 + 1 ∧ M2 (m + 5) = uf t (o 7) v) → Q (0, vI x) (M2, S)) : EvQ 2 126 [vR m, vI v] (M, S) Q := by
  refine EvQ.enter (ls := [vR m, vI v]) (Nat.le_of_ble_eq_true rfl) rfl ?_
  refine WP.blk 4 ?_
  show WP 1 126 5 [vR m, vI v] [vI 127, vI 0, vI v, vR m] (M, S) Q
  refine WP.cl (a := [vI v, vI 0, vI 127]) (rest := [vR m]) rfl rfl rfl rfl trivial (by decide) (q_in  (fun b_1 hb_1 => ⟨rfl, ?_⟩))
  show WP 1 126 8 [vR m, vI v] [vI b_1, vR m] (M, S) Q
  refine WP.blk 1 ?_
  show WP 1 126 (if cnd .ne b_1 0 = true then 15 else 11) [vR m, vI v] [vR m] (M, S) Q
  refine br_ne (fun c_2 => ?_) (fun c_2 => ?_)
  · have p_1 := (hb_1.resolve_right (fun h => by omega)).2
    refine WP.blk 4 ?_
    show sT S m = 10 ∧ WP 1 126 (if cnd .ne (M m 7) 150 = true then 29 else 25) [vR m, vI v] [vR m] (M, S) Q
    rw [ho]
    refine ⟨hS.1.1, ?_⟩
    refine br_ne (fun c_3 => ?_) (fun c_3 => ?_)
    · refine WP.blk 1 ?_
      show WP 1 126 30 [vR m, vI v] [vI 0, vR m] (M, S) Q
      refine WP.cl (a := [vR m, vI 0]) (rest := []) rfl rfl rfl rfl ⟨hS.1.1, trivial⟩ (by decide) (r_refused hS hf ho (fun b_4 Mr4 fr4 o4 ho4 h54 hk4 hb_4 => ⟨rfl, ?_⟩))
      show WP 1 126 33 [vR m, vI v] [vI b_4] (Mr4, S) Q
      have r_5 : Mr4 (m + 1) = f := (fr4 _ (by omega)).trans hf
      have r_7 : Mr4 (m + 5) = t := (fr4 _ (by omega)).trans ht
      have fr_8 : ∀ r, r ≠ m → r ≠ m + 5 → Mr4 r = M r := fun r q0 q1 => (fr4 r q0).trans ((fun _ _ _ => rfl) r q0 q1)
      have t44 := hk4 4 (by omega)
      have t74 := hk4 7 (by omega)
      refine WP.blk 1 ?_
      show WP 1 126 (if cnd .eq b_4 0 = true then 38 else 36) [vR m, vI v] [] (Mr4, S) Q
      refine br_eq (fun c_9 => ?_) (fun c_9 => ?_)
      · have p_4 := (hb_4.resolve_left (fun h => by omega)).2
        refine WP.blk 2 ?_
        show (sT S m = 10 ∧ sR S m 6 ≠ 0) ∧ WP 1 126 42 [vR m, vI v] [vR (sR S m 6)] (Mr4, S) Q
        refine ⟨⟨hS.1.1, by rw [hS.1.2.2.2.2.2.1]; omega⟩, ?_⟩
        rw [hS.1.2.2.2.2.2.1]
        refine WP.blk 4 ?_
        show sT S m = 10 ∧ (sT S (m + 5) = 11 ∧ 0 ≤ (Mr4 m 7) ∧ (Mr4 m 7) < (sN S (m + 5) : Int)) ∧ WP 1 126 48 [vR m, vI v] [] (up Mr4 (m + 5) (Mr4 m 7) v, S) Q
        rw [ho4]
        refine ⟨hS.1.1, ⟨hS.2.1.2.2.2.2.1, by omega, by rw [hS.2.2.2.2.2.2.1]; omega⟩, ?_⟩
        generalize hM_10 : up Mr4 (m + 5) (o4 7) v = M_10
        have r_11 : M_10 (m + 1) = f := by rw [← hM_10]; exact (up_row (by omega)).trans r_5
        have r_12 : M_10 m = o4 := by rw [← hM_10]; exact (up_row (by omega)).trans ho4
        obtain ⟨g_14, hg_14⟩ : ∃ y9, y9 = uf t (o4 7) v := ⟨_, rfl⟩
        have r_13 : M_10 (m + 5) = g_14 := by rw [← hM_10, hg_14, up_self, r_7]
        have fr_15 : ∀ r, r ≠ m → r ≠ m + 5 → M_10 r = M r := fun r q0 q1 => by rw [← hM_10]; exact (up_row q1).trans (fr_8 r q0 q1)
        refine WP.blk 6 ?_
        show sT S m = 10 ∧ ir ((M_10 m 7) + 1) ∧ sT S m = 10 ∧ WP 1 126 58 [vR m, vI v] [] (up M_10 m 7 ((M_10 m 7) + 1), S) Q
        rw [r_12]
        refine ⟨hS.1.1, (by unfold ir; omega), hS.1.1, ?_⟩
        generalize hM_16 : up M_10 m 7 ((o4 7) + 1) = M_16
        have r_17 : M_16 (m + 1) = f := by rw [← hM_16]; exact (up_row (by omega)).trans r_11
        obtain ⟨g_19, hg_19⟩ : ∃ y9, y9 = uf o4 7 ((o4 7) + 1) := ⟨_, rfl⟩
        have r_18 : M_16 m = g_19 := by rw [← hM_16, hg_19, up_self, r_12]
        have t_20 : g_19 4 = o4 4 := by rw [hg_19]; exact uf_ne (by omega)
        have t_21 : g_19 5 = o4 5 := by rw [hg_19]; exact uf_ne (by omega)
        have t_22 : g_19 7 = (o4 7) + 1 := by rw [hg_19]; exact uf_at _ _ (by omega)
        have r_23 : M_16 (m + 5) = g_14 := by rw [← hM_16]; exact (up_row (by omega)).trans r_13
        have fr_24 : ∀ r, r ≠ m → r ≠ m + 5 → M_16 r = M r := fun r q0 q1 => by rw [← hM_16]; exact (up_row q0).trans (fr_15 r q0 q1)
        refine WP.blk 2 ?_
        show sT S m = 10 ∧ WP 1 126 62 [vR m, vI v] [vI (M_16 m 7)] (M_16, S) Q
        rw [r_18]
        refine ⟨hS.1.1, ?_⟩
        exact WP.ret rfl rfl rfl trivial (k _ _ fr_24 _ r_18 (by omega) (Or.inr (Or.inr ⟨by omega, by omega, by omega, by omega, by omega, by rw [r_23, hg_14]; congr 1⟩)))
      · exfalso; omega
    · refine WP.blk 2 ?_
      show WP 1 126 30 [vR m, vI v] [vI 2, vR m] (M, S) Q
      refine WP.cl (a := [vR m, vI 2]) (rest := []) rfl rfl rfl rfl ⟨hS.1.1, trivial⟩ (by decide) (r_refused hS hf ho (fun b_25 Mr25 fr25 o25 ho25 h525 hk25 hb_25 => ⟨rfl, ?_⟩))
      show WP 1 126 33 [vR m, vI v] [vI b_25] (Mr25, S) Q
      have r_26 : Mr25 (m + 1) = f := (fr25 _ (by omega)).trans hf
      have r_28 : Mr25 (m + 5) = t := (fr25 _ (by omega)).trans ht
      have fr_29 : ∀ r, r ≠ m → r ≠ m + 5 → Mr25 r = M r := fun r q0 q1 => (fr25 r q0).trans ((fun _ _ _ => rfl) r q0 q1)
      have t425 := hk25 4 (by omega)
      have t725 := hk25 7 (by omega)
      refine WP.blk 1 ?_
      show WP 1 126 (if cnd .eq b_25 0 = true then 38 else 36) [vR m, vI v] [] (Mr25, S) Q
      refine br_eq (fun c_30 => ?_) (fun c_30 => ?_)
      · exfalso; omega
      · have p_25 := (hb_25.resolve_right (fun h => by omega)).2
        refine WP.blk 1 ?_
        show WP 1 126 37 [vR m, vI v] [vI 0] (Mr25, S) Q
        exact WP.ret rfl rfl rfl trivial (k _ _ fr_29 _ ho25 (by omega) (by first | exact Or.inl ⟨by omega, by omega, by omega, r_28⟩ | exact Or.inr (Or.inl ⟨by omega, by omega, by omega, by omega, r_28⟩)))
  · have p_1 := (hb_1.resolve_left (fun h => by omega)).2
    refine WP.blk 2 ?_
    show WP 1 126 30 [vR m, vI v] [vI 1, vR m] (M, S) Q
    refine WP.cl (a := [vR m, vI 1]) (rest := []) rfl rfl rfl rfl ⟨hS.1.1, trivial⟩ (by decide) (r_refused hS hf ho (fun b_31 Mr31 fr31 o31 ho31 h531 hk31 hb_31 => ⟨rfl, ?_⟩))
    show WP 1 126 33 [vR m, vI v] [vI b_31] (Mr31, S) Q
    have r_32 : Mr31 (m + 1) = f := (fr31 _ (by omega)).trans hf
    have r_34 : Mr31 (m + 5) = t := (fr31 _ (by omega)).trans ht
    have fr_35 : ∀ r, r ≠ m → r ≠ m + 5 → Mr31 r = M r := fun r q0 q1 => (fr31 r q0).trans ((fun _ _ _ => rfl) r q0 q1)
    have t431 := hk31 4 (by omega)
    have t731 := hk31 7 (by omega)
    refine WP.blk 1 ?_
    show WP 1 126 (if cnd .eq b_31 0 = true then 38 else 36) [vR m, vI v] [] (Mr31, S) Q
    refine br_eq (fun c_36 => ?_) (fun c_36 => ?_)
    · exfalso; omega
    · have p_31 := (hb_31.resolve_right (fun h => by omega)).2
      refine WP.blk 1 ?_
      show WP 1 126 37 [vR m, vI v] [vI 0] (Mr31, S) Q
      exact WP.ret rfl rfl rfl trivial (k _ _ fr_35 _ ho31 (by omega) (by first | exact Or.inl ⟨by omega, by omega, by omega, r_34⟩ | exact Or.inr (Or.inl ⟨by omega, by omega, by omega, by omega, r_34⟩)))
set_option maxHeartbeats 4000000 in
theorem r_clearText {S : SD} {M : Nat → Int → Int} {m : Nat} {o : Int → Int} (hS : isMod S m) (ho : M m = o) {Q : Res → Wd → Prop} (k : ∀ (x : Int) (M2 : Nat → Int → Int), (∀ r, r ≠ m → M2 r = M r) → ∀ o2, M2 m = o2 → o2 4 = o 4 → o2 5 = 0 → o2 7 = 0 → x = o 7 → Q (0, vI x) (M2, S)) : EvQ 1 127 [vR m] (M, S) Q := by
  refine EvQ.enter (ls := [vR m, none]) (Nat.le_of_ble_eq_true rfl) rfl ?_
  refine WP.blk 3 ?_
  show sT S m = 10 ∧ WP 0 127 5 [vR m, none] [] (up M m 5 0, S) Q
  refine ⟨hS.1.1, ?_⟩
  generalize hM_1 : up M m 5 0 = M_1
  obtain ⟨g_3, hg_3⟩ : ∃ y9, y9 = uf o 5 0 := ⟨_, rfl⟩
  have r_2 : M_1 m = g_3 := by rw [← hM_1, hg_3, up_self, ho]
  have t_4 : g_3 4 = o 4 := by rw [hg_3]; exact uf_ne (by omega)
  have t_5 : g_3 5 = 0 := by rw [hg_3]; exact uf_at _ _ (by omega)
  have t_6 : g_3 7 = o 7 := by rw [hg_3]; exact uf_ne (by omega)
  have fr_7 : ∀ r, r ≠ m → M_1 r = M r := fun r q0 => by rw [← hM_1]; exact (up_row q0).trans ((fun _ _ => rfl) r q0)
  refine WP.blk 6 ?_
  show sT S m = 10 ∧ sT S m = 10 ∧ WP 0 127 15 [vR m, vI (M_1 m 7)] [] (up M_1 m 7 0, S) Q
  rw [r_2]
  refine ⟨hS.1.1, hS.1.1, ?_⟩
  generalize hM_8 : up M_1 m 7 0 = M_8
  obtain ⟨g_10, hg_10⟩ : ∃ y9, y9 = uf g_3 7 0 := ⟨_, rfl⟩
  have r_9 : M_8 m = g_10 := by rw [← hM_8, hg_10, up_self, r_2]
  have t_11 : g_10 4 = g_3 4 := by rw [hg_10]; exact uf_ne (by omega)
  have t_12 : g_10 5 = g_3 5 := by rw [hg_10]; exact uf_ne (by omega)
  have t_13 : g_10 7 = 0 := by rw [hg_10]; exact uf_at _ _ (by omega)
  have fr_14 : ∀ r, r ≠ m → M_8 r = M r := fun r q0 => by rw [← hM_8]; exact (up_row q0).trans (fr_7 r q0)
  refine WP.blk 1 ?_
  show WP 0 127 16 [vR m, vI (g_3 7)] [vI (g_3 7)] (M_8, S) Q
  exact WP.ret rfl rfl rfl trivial (k _ _ fr_14 _ r_9 (by omega) (by omega) (by omega) (by omega))
