set_option maxHeartbeats 4000000 in
theorem r_clears {S : SD} {M : Nat → Int → Int} {m : Nat} {f : Int → Int} {a : Int} (hS : isMod S m) (hf : M (m + 1) = f) (ha : 0 ≤ a ∧ a ≤ 186) {Q : Res → Wd → Prop} (k : ∀ M2 : Nat → Int → Int, (∀ r, r ≠ m + 1 → M2 r = M r) → M2 (m + 1) = clrS f a → Q (0, none) (M2, S)) : EvQ 1 131 [vR m, vI a] (M, S) Q := by
  refine EvQ.enter (ls := [vR m, vI a, none]) (Nat.le_of_ble_eq_true rfl) rfl ?_
  refine WP.blk 2 ?_
  show WP 0 131 2 [vR m, vI a, vI 0] [] (M, S) Q
  have hl_2 : ∀ (n_2 : Nat) (i : Int) (M1 : Nat → Int → Int) (g : Int → Int), 0 ≤ i ∧ i ≤ 9 → g = clrR f a i → M1 (m + 1) = g → (∀ r, r ≠ m + 1 → M1 r = M r) → (9 - i).toNat < n_2 → WP 0 131 2 [vR m, vI a, vI i] [] (M1, S) Q := by
    intro n_2
    induction n_2 with
    | zero => intro i M1 g h0 h1 z_2_0 fr_2 hm_2; exact absurd hm_2 (Nat.not_lt_zero _)
    | succ n_2 ih_2 =>
      intro i M1 g h0 h1 z_2_0 fr_2 hm_2
      refine WP.blk 3 ?_
      show WP 0 131 (if cnd .ge i 9 = true then 23 else 8) [vR m, vI a, vI i] [] (M1, S) Q
      refine br_ge (fun c_1 => ?_) (fun c_1 => ?_)
      · refine WP.blk 2 ?_
        show (sT S m = 10 ∧ sR S m 0 ≠ 0) ∧ WP 0 131 27 [vR m, vI a, vI i] [vR (sR S m 0)] (M1, S) Q
        refine ⟨⟨hS.1.1, by rw [hS.1.2.1]; omega⟩, ?_⟩
        rw [hS.1.2.1]
        refine WP.blk 5 ?_
        show ir (a + 6) ∧ (sT S (m + 1) = 11 ∧ 0 ≤ (a + 6) ∧ (a + 6) < (sN S (m + 1) : Int)) ∧ WP 0 131 33 [vR m, vI a, vI i] [] (up M1 (m + 1) (a + 6) (-1), S) Q
        refine ⟨(by unfold ir; omega), ⟨hS.2.1.1, by omega, by rw [hS.2.2.1]; omega⟩, ?_⟩
        generalize hM_2 : up M1 (m + 1) (a + 6) (-1) = M_2
        obtain ⟨g_4, hg_4⟩ : ∃ y9, y9 = uf g (a + 6) (-1) := ⟨_, rfl⟩
        have r_3 : M_2 (m + 1) = g_4 := by rw [← hM_2, hg_4, up_self, z_2_0]
        have fr_5 : ∀ r, r ≠ m + 1 → M_2 r = M r := fun r q0 => by rw [← hM_2]; exact (up_row q0).trans (fr_2 r q0)
        exact WP.ret rfl rfl rfl trivial (k _ fr_5 (by rw [r_3, hg_4, h1, show i = 9 by omega]; rfl))
      · refine WP.blk 2 ?_
        show (sT S m = 10 ∧ sR S m 0 ≠ 0) ∧ WP 0 131 12 [vR m, vI a, vI i] [vR (sR S m 0)] (M1, S) Q
        refine ⟨⟨hS.1.1, by rw [hS.1.2.1]; omega⟩, ?_⟩
        rw [hS.1.2.1]
        refine WP.blk 5 ?_
        show ir (a + i) ∧ (sT S (m + 1) = 11 ∧ 0 ≤ (a + i) ∧ (a + i) < (sN S (m + 1) : Int)) ∧ WP 0 131 17 [vR m, vI a, vI i] [] (up M1 (m + 1) (a + i) 0, S) Q
        refine ⟨(by unfold ir; omega), ⟨hS.2.1.1, by omega, by rw [hS.2.2.1]; omega⟩, ?_⟩
        generalize hM_6 : up M1 (m + 1) (a + i) 0 = M_6
        obtain ⟨g_8, hg_8⟩ : ∃ y9, y9 = uf g (a + i) 0 := ⟨_, rfl⟩
        have r_7 : M_6 (m + 1) = g_8 := by rw [← hM_6, hg_8, up_self, z_2_0]
        have fr_9 : ∀ r, r ≠ m + 1 → M_6 r = M r := fun r q0 => by rw [← hM_6]; exact (up_row q0).trans (fr_2 r q0)
        refine WP.blk 2 ?_
        show ir (i + 1) ∧ WP 0 131 2 [vR m, vI a, vI (i + 1)] [] (M_6, S) Q
        refine ⟨(by unfold ir; omega), ?_⟩
        exact ih_2 (i + 1) M_6 g_8 (by omega) (by rw [hg_8, h1]; exact clrR_s h0.1 rfl) r_7 fr_9 (by omega)
  exact hl_2 _ 0 M f (by omega) clrR_0.symm hf (fun _ _ => rfl) (Nat.lt_succ_self _)
set_option maxHeartbeats 4000000 in
theorem r_comes {S : SD} {M : Nat → Int → Int} {m : Nat} {f : Int → Int} {w p n : Int} (hS : isMod S m) (hf : M (m + 1) = f) (h9 : 0 ≤ f 0 ∧ f 0 ≤ 9) (hw : 0 ≤ w ∧ w ≤ 6) (hp : 0 ≤ p ∧ p + n ≤ 12) (hn : 1 ≤ n ∧ n ≤ 5) {Q : Res → Wd → Prop} (k : ∀ (v : Int) (M2 : Nat → Int → Int), (∀ r, r ≠ m + 1 → M2 r = M r) → M2 (m + 1) = cutR f w p n → v = f 0 → Q (0, vI v) (M2, S)) : EvQ 2 133 [vR m, vI w, vI p, vI n] (M, S) Q := by
  refine EvQ.enter (ls := [vR m, vI w, vI p, vI n, none, none]) (Nat.le_of_ble_eq_true rfl) rfl ?_
  refine WP.blk 2 ?_
  show (sT S m = 10 ∧ sR S m 0 ≠ 0) ∧ WP 1 133 4 [vR m, vI w, vI p, vI n, none, none] [vR (sR S m 0)] (M, S) Q
  refine ⟨⟨hS.1.1, by rw [hS.1.2.1]; omega⟩, ?_⟩
  rw [hS.1.2.1]
  refine WP.blk 2 ?_
  show ((sT S (m + 1) = 11 ∨ sT S (m + 1) = 16 ∨ sT S (m + 1) = 17) ∧ 0 ≤ 0 ∧ 0 < (sN S (m + 1) : Int)) ∧ WP 1 133 6 [vR m, vI w, vI p, vI n, none, none] [vI (M (m + 1) 0)] (M, S) Q
  rw [hf]
  refine ⟨⟨Or.inl hS.2.1.1, by omega, by rw [hS.2.2.1]; omega⟩, ?_⟩
  refine WP.cl (a := [vI (f 0)]) (rest := []) rfl rfl rfl rfl trivial (by decide) (q_stampAt (by omega) ⟨rfl, ?_⟩)
  show WP 1 133 9 [vR m, vI w, vI p, vI n, none, none] [vI (7 + 9 * (f 0))] (M, S) Q
  refine WP.blk 3 ?_
  show WP 1 133 14 [vR m, vI w, vI p, vI n, vI (7 + 9 * (f 0)), none] [vI (7 + 9 * (f 0)), vR m] (M, S) Q
  refine WP.cl (a := [vR m, vI (7 + 9 * (f 0))]) (rest := []) rfl rfl rfl rfl ⟨hS.1.1, trivial⟩ (by decide) (r_clears hS hf (by omega) (fun My_1 fry_1 hMy_1 => ⟨rfl, ?_⟩))
  show WP 1 133 17 [vR m, vI w, vI p, vI n, vI (7 + 9 * (f 0)), none] [] (My_1, S) Q
  obtain ⟨gy_1, hgy_1⟩ : ∃ y9, My_1 (m + 1) = y9 := ⟨_, rfl⟩
  rw [hgy_1] at hMy_1
  have fr_3 : ∀ r, r ≠ m + 1 → My_1 r = M r := fun r q0 => (fry_1 r q0).trans ((fun _ _ => rfl) r q0)
  refine WP.blk 2 ?_
  show (sT S m = 10 ∧ sR S m 0 ≠ 0) ∧ WP 1 133 21 [vR m, vI w, vI p, vI n, vI (7 + 9 * (f 0)), none] [vR (sR S m 0)] (My_1, S) Q
  refine ⟨⟨hS.1.1, by rw [hS.1.2.1]; omega⟩, ?_⟩
  rw [hS.1.2.1]
  refine WP.blk 3 ?_
  show (sT S (m + 1) = 11 ∧ 0 ≤ (7 + 9 * (f 0)) ∧ (7 + 9 * (f 0)) < (sN S (m + 1) : Int)) ∧ WP 1 133 25 [vR m, vI w, vI p, vI n, vI (7 + 9 * (f 0)), none] [] (up My_1 (m + 1) (7 + 9 * (f 0)) n, S) Q
  refine ⟨⟨hS.2.1.1, by omega, by rw [hS.2.2.1]; omega⟩, ?_⟩
  generalize hM_4 : up My_1 (m + 1) (7 + 9 * (f 0)) n = M_4
  obtain ⟨g_6, hg_6⟩ : ∃ y9, y9 = uf gy_1 (7 + 9 * (f 0)) n := ⟨_, rfl⟩
  have r_5 : M_4 (m + 1) = g_6 := by rw [← hM_4, hg_6, up_self, hgy_1]
  have t_7 : g_6 0 = gy_1 0 := by rw [hg_6]; exact uf_ne (by omega)
  have fr_8 : ∀ r, r ≠ m + 1 → M_4 r = M r := fun r q0 => by rw [← hM_4]; exact (up_row q0).trans (fr_3 r q0)
  refine WP.blk 2 ?_
  show WP 1 133 28 [vR m, vI w, vI p, vI n, vI (7 + 9 * (f 0)), vI 0] [] (M_4, S) Q
  have hl_28 : ∀ (n_28 : Nat) (i : Int) (M1 : Nat → Int → Int) (g : Int → Int), 0 ≤ i ∧ i ≤ n → g = letR f w p n i → M1 (m + 1) = g → (∀ r, r ≠ m + 1 → M1 r = M r) → (n - i).toNat < n_28 → WP 1 133 28 [vR m, vI w, vI p, vI n, vI (7 + 9 * (f 0)), vI i] [] (M1, S) Q := by
    intro n_28
    induction n_28 with
    | zero => intro i M1 g h0 h1 z_28_0 fr_28 hm_28; exact absurd hm_28 (Nat.not_lt_zero _)
    | succ n_28 ih_28 =>
      intro i M1 g h0 h1 z_28_0 fr_28 hm_28
      have hz : g 0 = f 0 := by rw [h1]; exact letR_z h9
      refine WP.blk 3 ?_
      show WP 1 133 (if cnd .ge i n = true then 68 else 34) [vR m, vI w, vI p, vI n, vI (7 + 9 * (f 0)), vI i] [] (M1, S) Q
      refine br_ge (fun c_9 => ?_) (fun c_9 => ?_)
      · refine WP.blk 2 ?_
        show (sT S m = 10 ∧ sR S m 0 ≠ 0) ∧ WP 1 133 72 [vR m, vI w, vI p, vI n, vI (7 + 9 * (f 0)), vI i] [vR (sR S m 0)] (M1, S) Q
        refine ⟨⟨hS.1.1, by rw [hS.1.2.1]; omega⟩, ?_⟩
        rw [hS.1.2.1]
        refine WP.blk 6 ?_
        show ((sT S (m + 1) = 11 ∨ sT S (m + 1) = 16 ∨ sT S (m + 1) = 17) ∧ 0 ≤ 0 ∧ 0 < (sN S (m + 1) : Int)) ∧ ir ((M1 (m + 1) 0) + 1) ∧ (sT S (m + 1) = 11 ∧ 0 ≤ 0 ∧ 0 < (sN S (m + 1) : Int)) ∧ WP 1 133 78 [vR m, vI w, vI p, vI n, vI (7 + 9 * (f 0)), vI i] [] (up M1 (m + 1) 0 ((M1 (m + 1) 0) + 1), S) Q
        rw [z_28_0]
        refine ⟨⟨Or.inl hS.2.1.1, by omega, by rw [hS.2.2.1]; omega⟩, (by unfold ir; omega), ⟨hS.2.1.1, by omega, by rw [hS.2.2.1]; omega⟩, ?_⟩
        generalize hM_10 : up M1 (m + 1) 0 ((g 0) + 1) = M_10
        obtain ⟨g_12, hg_12⟩ : ∃ y9, y9 = uf g 0 ((g 0) + 1) := ⟨_, rfl⟩
        have r_11 : M_10 (m + 1) = g_12 := by rw [← hM_10, hg_12, up_self, z_28_0]
        have t_13 : g_12 0 = (g 0) + 1 := by rw [hg_12]; exact uf_at _ _ (by omega)
        have fr_14 : ∀ r, r ≠ m + 1 → M_10 r = M r := fun r q0 => by rw [← hM_10]; exact (up_row q0).trans (fr_28 r q0)
        refine WP.blk 2 ?_
        show (sT S m = 10 ∧ sR S m 0 ≠ 0) ∧ WP 1 133 82 [vR m, vI w, vI p, vI n, vI (7 + 9 * (f 0)), vI i] [vR (sR S m 0)] (M_10, S) Q
        refine ⟨⟨hS.1.1, by rw [hS.1.2.1]; omega⟩, ?_⟩
        rw [hS.1.2.1]
        refine WP.blk 4 ?_
        show ((sT S (m + 1) = 11 ∨ sT S (m + 1) = 16 ∨ sT S (m + 1) = 17) ∧ 0 ≤ 0 ∧ 0 < (sN S (m + 1) : Int)) ∧ ir ((M_10 (m + 1) 0) - 1) ∧ WP 1 133 86 [vR m, vI w, vI p, vI n, vI (7 + 9 * (f 0)), vI i] [vI ((M_10 (m + 1) 0) - 1)] (M_10, S) Q
        rw [r_11]
        refine ⟨⟨Or.inl hS.2.1.1, by omega, by rw [hS.2.2.1]; omega⟩, (by unfold ir; omega), ?_⟩
        exact WP.ret rfl rfl rfl trivial (k _ _ fr_14 (by rw [r_11]; exact letR_e h9 hn (by rw [hg_12, hz, h1, show i = n by omega])) (by omega))
      · refine WP.blk 2 ?_
        show (sT S m = 10 ∧ sR S m 0 ≠ 0) ∧ WP 1 133 38 [vR m, vI w, vI p, vI n, vI (7 + 9 * (f 0)), vI i] [vR (sR S m 0)] (M1, S) Q
        refine ⟨⟨hS.1.1, by rw [hS.1.2.1]; omega⟩, ?_⟩
        rw [hS.1.2.1]
        refine WP.blk 7 ?_
        show ir ((7 + 9 * (f 0)) + 1) ∧ ir (((7 + 9 * (f 0)) + 1) + i) ∧ (sT S m = 10 ∧ sR S m 0 ≠ 0) ∧ WP 1 133 49 [vR m, vI w, vI p, vI n, vI (7 + 9 * (f 0)), vI i] [vR (sR S m 0), vI (((7 + 9 * (f 0)) + 1) + i), vR (m + 1)] (M1, S) Q
        refine ⟨(by unfold ir; omega), (by unfold ir; omega), ⟨hS.1.1, by rw [hS.1.2.1]; omega⟩, ?_⟩
        rw [hS.1.2.1]
        refine WP.blk 1 ?_
        show WP 1 133 50 [vR m, vI w, vI p, vI n, vI (7 + 9 * (f 0)), vI i] [vI w, vR (m + 1), vI (((7 + 9 * (f 0)) + 1) + i), vR (m + 1)] (M1, S) Q
        refine WP.cl (a := [vI w]) (rest := [vR (m + 1), vI (((7 + 9 * (f 0)) + 1) + i), vR (m + 1)]) rfl rfl rfl rfl trivial (by decide) (q_wordAt (by omega) ⟨rfl, ?_⟩)
        show WP 1 133 53 [vR m, vI w, vI p, vI n, vI (7 + 9 * (f 0)), vI i] [vI (97 + 14 * w), vR (m + 1), vI (((7 + 9 * (f 0)) + 1) + i), vR (m + 1)] (M1, S) Q
        refine WP.blk 8 ?_
        show ir ((97 + 14 * w) + 2) ∧ ir (((97 + 14 * w) + 2) + p) ∧ ir ((((97 + 14 * w) + 2) + p) + i) ∧ ((sT S (m + 1) = 11 ∨ sT S (m + 1) = 16 ∨ sT S (m + 1) = 17) ∧ 0 ≤ ((((97 + 14 * w) + 2) + p) + i) ∧ ((((97 + 14 * w) + 2) + p) + i) < (sN S (m + 1) : Int)) ∧ (sT S (m + 1) = 11 ∧ 0 ≤ (((7 + 9 * (f 0)) + 1) + i) ∧ (((7 + 9 * (f 0)) + 1) + i) < (sN S (m + 1) : Int)) ∧ WP 1 133 62 [vR m, vI w, vI p, vI n, vI (7 + 9 * (f 0)), vI i] [] (up M1 (m + 1) (((7 + 9 * (f 0)) + 1) + i) (M1 (m + 1) ((((97 + 14 * w) + 2) + p) + i)), S) Q
        rw [z_28_0]
        refine ⟨(by unfold ir; omega), (by unfold ir; omega), (by unfold ir; omega), ⟨Or.inl hS.2.1.1, by omega, by rw [hS.2.2.1]; omega⟩, ⟨hS.2.1.1, by omega, by rw [hS.2.2.1]; omega⟩, ?_⟩
        generalize hM_15 : up M1 (m + 1) (((7 + 9 * (f 0)) + 1) + i) (g ((((97 + 14 * w) + 2) + p) + i)) = M_15
        obtain ⟨g_17, hg_17⟩ : ∃ y9, y9 = uf g (((7 + 9 * (f 0)) + 1) + i) (g ((((97 + 14 * w) + 2) + p) + i)) := ⟨_, rfl⟩
        have r_16 : M_15 (m + 1) = g_17 := by rw [← hM_15, hg_17, up_self, z_28_0]
        have t_18 : g_17 0 = g 0 := by rw [hg_17]; exact uf_ne (by omega)
        have fr_19 : ∀ r, r ≠ m + 1 → M_15 r = M r := fun r q0 => by rw [← hM_15]; exact (up_row q0).trans (fr_28 r q0)
        refine WP.blk 2 ?_
        show ir (i + 1) ∧ WP 1 133 28 [vR m, vI w, vI p, vI n, vI (7 + 9 * (f 0)), vI (i + 1)] [] (M_15, S) Q
        refine ⟨(by unfold ir; omega), ?_⟩
        exact ih_28 (i + 1) M_15 g_17 (by omega) (by rw [hg_17, h1]; exact letR_s h0.1 (by omega) (letR_w h9 (by omega) (by omega))) r_16 fr_19 (by omega)
  exact hl_28 _ 0 M_4 g_6 (by omega) (by rw [hg_6, hMy_1]; exact letR_0.symm) r_5 fr_8 (Nat.lt_succ_self _)
set_option maxHeartbeats 4000000 in
theorem r_isPart {S : SD} {M : Nat → Int → Int} {m : Nat} {f : Int → Int} {w p n : Int} (hS : isMod S m) (hf : M (m + 1) = f) (hw : 0 ≤ w ∧ w ≤ 6) (hl : 1 ≤ f (97 + 14 * w) ∧ f (97 + 14 * w) ≤ 12) {Q : Res → Wd → Prop} (k : ∀ b : Int, (b = 1 ∧ (0 ≤ p ∧ p < f (97 + 14 * w)) ∧ (1 ≤ n ∧ n ≤ 5) ∧ n ≤ f (97 + 14 * w) - p) ∨ (b = 0 ∧ ¬ ((0 ≤ p ∧ p < f (97 + 14 * w)) ∧ (1 ≤ n ∧ n ≤ 5) ∧ n ≤ f (97 + 14 * w) - p)) → Q (0, vI b) (M, S)) : EvQ 2 134 [vR m, vI w, vI p, vI n] (M, S) Q := by
  refine EvQ.enter (ls := [vR m, vI w, vI p, vI n, none]) (Nat.le_of_ble_eq_true rfl) rfl ?_
  refine WP.blk 2 ?_
  show (sT S m = 10 ∧ sR S m 0 ≠ 0) ∧ WP 1 134 4 [vR m, vI w, vI p, vI n, none] [vR (sR S m 0)] (M, S) Q
  refine ⟨⟨hS.1.1, by rw [hS.1.2.1]; omega⟩, ?_⟩
  rw [hS.1.2.1]
  refine WP.blk 1 ?_
  show WP 1 134 5 [vR m, vI w, vI p, vI n, none] [vI w, vR (m + 1)] (M, S) Q
  refine WP.cl (a := [vI w]) (rest := [vR (m + 1)]) rfl rfl rfl rfl trivial (by decide) (q_wordAt (by omega) ⟨rfl, ?_⟩)
  show WP 1 134 8 [vR m, vI w, vI p, vI n, none] [vI (97 + 14 * w), vR (m + 1)] (M, S) Q
  refine WP.blk 7 ?_
  show ((sT S (m + 1) = 11 ∨ sT S (m + 1) = 16 ∨ sT S (m + 1) = 17) ∧ 0 ≤ (97 + 14 * w) ∧ (97 + 14 * w) < (sN S (m + 1) : Int)) ∧ ir ((M (m + 1) (97 + 14 * w)) - 1) ∧ WP 1 134 17 [vR m, vI w, vI p, vI n, vI (M (m + 1) (97 + 14 * w))] [vI ((M (m + 1) (97 + 14 * w)) - 1), vI 0, vI p] (M, S) Q
  rw [hf]
  refine ⟨⟨Or.inl hS.2.1.1, by omega, by rw [hS.2.2.1]; omega⟩, (by unfold ir; omega), ?_⟩
  refine WP.cl (a := [vI p, vI 0, vI ((f (97 + 14 * w)) - 1)]) (rest := []) rfl rfl rfl rfl trivial (by decide) (q_in  (fun b_1 hb_1 => ⟨rfl, ?_⟩))
  show WP 1 134 20 [vR m, vI w, vI p, vI n, vI (f (97 + 14 * w))] [vI b_1] (M, S) Q
  refine WP.blk 1 ?_
  show WP 1 134 (if cnd .eq b_1 0 = true then 44 else 23) [vR m, vI w, vI p, vI n, vI (f (97 + 14 * w))] [] (M, S) Q
  refine br_eq (fun c_2 => ?_) (fun c_2 => ?_)
  · have p_1 := (hb_1.resolve_left (fun h => by omega)).2
    refine WP.blk 1 ?_
    show WP 1 134 45 [vR m, vI w, vI p, vI n, vI (f (97 + 14 * w))] [vI 0] (M, S) Q
    exact WP.ret rfl rfl rfl ⟨by omega, trivial⟩ (k _ (by omega))
  · have p_1 := (hb_1.resolve_right (fun h => by omega)).2
    refine WP.blk 3 ?_
    show WP 1 134 26 [vR m, vI w, vI p, vI n, vI (f (97 + 14 * w))] [vI 5, vI 1, vI n] (M, S) Q
    refine WP.cl (a := [vI n, vI 1, vI 5]) (rest := []) rfl rfl rfl rfl trivial (by decide) (q_in  (fun b_3 hb_3 => ⟨rfl, ?_⟩))
    show WP 1 134 29 [vR m, vI w, vI p, vI n, vI (f (97 + 14 * w))] [vI b_3] (M, S) Q
    refine WP.blk 1 ?_
    show WP 1 134 (if cnd .eq b_3 0 = true then 44 else 32) [vR m, vI w, vI p, vI n, vI (f (97 + 14 * w))] [] (M, S) Q
    refine br_eq (fun c_4 => ?_) (fun c_4 => ?_)
    · have p_3 := (hb_3.resolve_left (fun h => by omega)).2
      refine WP.blk 1 ?_
      show WP 1 134 45 [vR m, vI w, vI p, vI n, vI (f (97 + 14 * w))] [vI 0] (M, S) Q
      exact WP.ret rfl rfl rfl ⟨by omega, trivial⟩ (k _ (by omega))
    · have p_3 := (hb_3.resolve_right (fun h => by omega)).2
      refine WP.blk 5 ?_
      show ir ((f (97 + 14 * w)) - p) ∧ WP 1 134 (if cnd .gt n ((f (97 + 14 * w)) - p) = true then 44 else 40) [vR m, vI w, vI p, vI n, vI (f (97 + 14 * w))] [] (M, S) Q
      refine ⟨(by unfold ir; omega), ?_⟩
      refine br_gt (fun c_5 => ?_) (fun c_5 => ?_)
      · refine WP.blk 1 ?_
        show WP 1 134 45 [vR m, vI w, vI p, vI n, vI (f (97 + 14 * w))] [vI 0] (M, S) Q
        exact WP.ret rfl rfl rfl ⟨by omega, trivial⟩ (k _ (by omega))
      · refine WP.blk 2 ?_
        show WP 1 134 45 [vR m, vI w, vI p, vI n, vI (f (97 + 14 * w))] [vI 1] (M, S) Q
        exact WP.ret rfl rfl rfl ⟨by omega, trivial⟩ (k _ (by omega))
set_option maxHeartbeats 4000000 in
theorem r_cut {S : SD} {M : Nat → Int → Int} {m : Nat} {f : Int → Int} {o p : Int → Int} {w q n B : Int} (hS : isMod S m) (hf : M (m + 1) = f) (ho : M m = o) (hp2 : M (m + 2) = p) (hsv : 0 ≤ o 4 ∧ o 4 ≤ 4) (hR : RowOk B f) {Q : Res → Wd → Prop} (k : ∀ (v : Int) (M2 : Nat → Int → Int), (∀ r, r ≠ m → r ≠ m + 1 → r ≠ m + 2 → M2 r = M r) → ∀ o2, M2 m = o2 → o2 7 = o 7 → (o2 5 = 1 ∧ ¬ (0 ≤ w ∧ w < f 1) ∧ M2 (m + 1) = f ∧ M2 (m + 2) = p ∧ o2 4 = o 4) ∨ (o2 5 = 2 ∧ ((0 ≤ w ∧ w < f 1) ∧ ¬ ((0 ≤ q ∧ q < f (97 + 14 * w)) ∧ (1 ≤ n ∧ n ≤ 5) ∧ n ≤ f (97 + 14 * w) - q)) ∧ M2 (m + 1) = f ∧ M2 (m + 2) = p ∧ o2 4 = o 4) ∨ (o2 5 = 3 ∧ ((0 ≤ w ∧ w < f 1) ∧ ((0 ≤ q ∧ q < f (97 + 14 * w)) ∧ (1 ≤ n ∧ n ≤ 5) ∧ n ≤ f (97 + 14 * w) - q) ∧ f 0 = 10) ∧ M2 (m + 1) = f ∧ M2 (m + 2) = p ∧ o2 4 = o 4) ∨ (o2 5 = 0 ∧ ((0 ≤ w ∧ w < f 1) ∧ ((0 ≤ q ∧ q < f (97 + 14 * w)) ∧ (1 ≤ n ∧ n ≤ 5) ∧ n ≤ f (97 + 14 * w) - q) ∧ f 0 ≠ 10) ∧ v = f 0 ∧ M2 (m + 1) = cutR f w q n ∧ ∃ p2, M2 (m + 2) = p2 ∧ SavedP p (o 4) f p2 (o2 4)) → Q (0, vI v) (M2, S)) : EvQ 3 135 [vR m, vI w, vI q, vI n] (M, S) Q := by
  refine EvQ.enter (ls := [vR m, vI w, vI q, vI n]) (Nat.le_of_ble_eq_true rfl) rfl ?_
  have hA := hR.1
  have hA1 := hA.1
  have hWA := hR.2.1
  have hW1 := hWA.1
  have hI := hR.2.2
  have hI2 := hI.2.1
  have hI3 := hI.2.2.1
  have hW9 : (0 ≤ w ∧ w < f 1) → 1 ≤ f (97 + 14 * w) ∧ f (97 + 14 * w) ≤ 12 := fun h => ⟨(hWA.2 w h.1 h.2).1.2.2.1, (hWA.2 w h.1 h.2).1.2.2.2.1⟩
  refine WP.blk 3 ?_
  show WP 2 135 3 [vR m, vI w, vI q, vI n] [vI w, vR m, vR m] (M, S) Q
  refine WP.cl (a := [vR m, vI w]) (rest := [vR m]) rfl rfl rfl rfl ⟨hS.1.1, trivial⟩ (by decide) (r_isWord hS hf (by omega) (fun b_1 hb_1 => ⟨rfl, ?_⟩))
  show WP 2 135 6 [vR m, vI w, vI q, vI n] [vI b_1, vR m] (M, S) Q
  refine WP.blk 1 ?_
  show WP 2 135 (if cnd .ne b_1 0 = true then 13 else 9) [vR m, vI w, vI q, vI n] [vR m] (M, S) Q
  refine br_ne (fun c_2 => ?_) (fun c_2 => ?_)
  · have p_1 := (hb_1.resolve_right (fun h => by omega)).2
    refine WP.blk 4 ?_
    show WP 2 135 17 [vR m, vI w, vI q, vI n] [vI n, vI q, vI w, vR m, vR m] (M, S) Q
    refine WP.cl (a := [vR m, vI w, vI q, vI n]) (rest := [vR m]) rfl rfl rfl rfl ⟨hS.1.1, trivial⟩ (by decide) (r_isPart hS hf (by omega) (hW9 (by omega)) (fun b_3 hb_3 => ⟨rfl, ?_⟩))
    show WP 2 135 20 [vR m, vI w, vI q, vI n] [vI b_3, vR m] (M, S) Q
    refine WP.blk 1 ?_
    show WP 2 135 (if cnd .ne b_3 0 = true then 27 else 23) [vR m, vI w, vI q, vI n] [vR m] (M, S) Q
    refine br_ne (fun c_4 => ?_) (fun c_4 => ?_)
    · have p_3 := (hb_3.resolve_right (fun h => by omega)).2
      refine WP.blk 2 ?_
      show (sT S m = 10 ∧ sR S m 0 ≠ 0) ∧ WP 2 135 31 [vR m, vI w, vI q, vI n] [vR (sR S m 0), vR m] (M, S) Q
      refine ⟨⟨hS.1.1, by rw [hS.1.2.1]; omega⟩, ?_⟩
      rw [hS.1.2.1]
      refine WP.blk 4 ?_
      show ((sT S (m + 1) = 11 ∨ sT S (m + 1) = 16 ∨ sT S (m + 1) = 17) ∧ 0 ≤ 0 ∧ 0 < (sN S (m + 1) : Int)) ∧ WP 2 135 (if cnd .ne (M (m + 1) 0) 10 = true then 42 else 38) [vR m, vI w, vI q, vI n] [vR m] (M, S) Q
      rw [hf]
      refine ⟨⟨Or.inl hS.2.1.1, by omega, by rw [hS.2.2.1]; omega⟩, ?_⟩
      refine br_ne (fun c_5 => ?_) (fun c_5 => ?_)
      · refine WP.blk 1 ?_
        show WP 2 135 43 [vR m, vI w, vI q, vI n] [vI 0, vR m] (M, S) Q
        refine WP.cl (a := [vR m, vI 0]) (rest := []) rfl rfl rfl rfl ⟨hS.1.1, trivial⟩ (by decide) (r_refused hS hf ho (fun b_6 Mr6 fr6 o6 ho6 h56 hk6 hb_6 => ⟨rfl, ?_⟩))
        show WP 2 135 46 [vR m, vI w, vI q, vI n] [vI b_6] (Mr6, S) Q
        have r_7 : Mr6 (m + 1) = f := (fr6 _ (by omega)).trans hf
        have r_9 : Mr6 (m + 2) = p := (fr6 _ (by omega)).trans hp2
        have fr_10 : ∀ r, r ≠ m → r ≠ m + 1 → r ≠ m + 2 → Mr6 r = M r := fun r q0 q1 q2 => (fr6 r q0).trans ((fun _ _ _ _ => rfl) r q0 q1 q2)
        have t46 := hk6 4 (by omega)
        have t76 := hk6 7 (by omega)
        have t116 := hk6 11 (by omega)
        refine WP.blk 1 ?_
        show WP 2 135 (if cnd .eq b_6 0 = true then 51 else 49) [vR m, vI w, vI q, vI n] [] (Mr6, S) Q
        refine br_eq (fun c_11 => ?_) (fun c_11 => ?_)
        · have p_6 := (hb_6.resolve_left (fun h => by omega)).2
          refine WP.blk 1 ?_
          show WP 2 135 52 [vR m, vI w, vI q, vI n] [vR m] (Mr6, S) Q
          refine WP.cl (a := [vR m]) (rest := []) rfl rfl rfl rfl ⟨hS.1.1, trivial⟩ (by decide) (r_saves hS r_7 ho6 r_9 (by omega) (fun My_12 fry_12 py_12 oy_12 hpy_12 hoy_12 hky_12 hvy_12 => ⟨rfl, ?_⟩))
          show WP 2 135 55 [vR m, vI w, vI q, vI n] [] (My_12, S) Q
          have r_13 : My_12 (m + 1) = f := (fry_12 _ (by omega) (by omega)).trans r_7
          have fr_16 : ∀ r, r ≠ m → r ≠ m + 1 → r ≠ m + 2 → My_12 r = M r := fun r q0 q1 q2 => (fry_12 r q0 q2).trans (fr_10 r q0 q1 q2)
          have t5y_12 := hky_12 5 (by omega)
          have t7y_12 := hky_12 7 (by omega)
          have t11y_12 := hky_12 11 (by omega)
          refine WP.blk 4 ?_
          show WP 2 135 59 [vR m, vI w, vI q, vI n] [vI n, vI q, vI w, vR m] (My_12, S) Q
          refine WP.cl (a := [vR m, vI w, vI q, vI n]) (rest := []) rfl rfl rfl rfl ⟨hS.1.1, trivial⟩ (by decide) (r_comes hS r_13 (by omega) (by omega) (by omega) (by omega) (fun vy_17 My_17 fry_17 hMy_17 hvy_17 => ⟨rfl, ?_⟩))
          show WP 2 135 62 [vR m, vI w, vI q, vI n] [vI vy_17] (My_17, S) Q
          obtain ⟨gy_17, hgy_17⟩ : ∃ y9, My_17 (m + 1) = y9 := ⟨_, rfl⟩
          rw [hgy_17] at hMy_17
          have r_19 : My_17 m = oy_12 := (fry_17 _ (by omega)).trans hoy_12
          have r_20 : My_17 (m + 2) = py_12 := (fry_17 _ (by omega)).trans hpy_12
          have fr_21 : ∀ r, r ≠ m → r ≠ m + 1 → r ≠ m + 2 → My_17 r = M r := fun r q0 q1 q2 => (fry_17 r q1).trans (fr_16 r q0 q1 q2)
          refine WP.ret rfl rfl rfl trivial ?_
          refine k _ _ fr_21 _ r_19 (by omega) (Or.inr (Or.inr (Or.inr ⟨by omega, by omega, ?v, ?r, _, r_20, ?s⟩)))
          case v => first | omega | rfl
          case r => exact hgy_17.trans hMy_17
          case s =>
            have e4 := hvy_12
            rw [show o6 4 = o 4 by omega] at e4
            exact e4
        · exfalso; omega
      · refine WP.blk 2 ?_
        show WP 2 135 43 [vR m, vI w, vI q, vI n] [vI 3, vR m] (M, S) Q
        refine WP.cl (a := [vR m, vI 3]) (rest := []) rfl rfl rfl rfl ⟨hS.1.1, trivial⟩ (by decide) (r_refused hS hf ho (fun b_22 Mr22 fr22 o22 ho22 h522 hk22 hb_22 => ⟨rfl, ?_⟩))
        show WP 2 135 46 [vR m, vI w, vI q, vI n] [vI b_22] (Mr22, S) Q
        have r_23 : Mr22 (m + 1) = f := (fr22 _ (by omega)).trans hf
        have r_25 : Mr22 (m + 2) = p := (fr22 _ (by omega)).trans hp2
        have fr_26 : ∀ r, r ≠ m → r ≠ m + 1 → r ≠ m + 2 → Mr22 r = M r := fun r q0 q1 q2 => (fr22 r q0).trans ((fun _ _ _ _ => rfl) r q0 q1 q2)
        have t422 := hk22 4 (by omega)
        have t722 := hk22 7 (by omega)
        have t1122 := hk22 11 (by omega)
        refine WP.blk 1 ?_
        show WP 2 135 (if cnd .eq b_22 0 = true then 51 else 49) [vR m, vI w, vI q, vI n] [] (Mr22, S) Q
        refine br_eq (fun c_27 => ?_) (fun c_27 => ?_)
        · exfalso; omega
        · have p_22 := (hb_22.resolve_right (fun h => by omega)).2
          refine WP.blk 1 ?_
          show WP 2 135 50 [vR m, vI w, vI q, vI n] [vI 0] (Mr22, S) Q
          exact WP.ret rfl rfl rfl trivial (k _ _ fr_26 _ ho22 (by omega) (by first | exact Or.inl ⟨by omega, by omega, r_23, r_25, by omega⟩ | exact Or.inr (Or.inl ⟨by omega, by omega, r_23, r_25, by omega⟩) | exact Or.inr (Or.inr (Or.inl ⟨by omega, by omega, r_23, r_25, by omega⟩))))
    · have p_3 := (hb_3.resolve_left (fun h => by omega)).2
      refine WP.blk 2 ?_
      show WP 2 135 43 [vR m, vI w, vI q, vI n] [vI 2, vR m] (M, S) Q
      refine WP.cl (a := [vR m, vI 2]) (rest := []) rfl rfl rfl rfl ⟨hS.1.1, trivial⟩ (by decide) (r_refused hS hf ho (fun b_28 Mr28 fr28 o28 ho28 h528 hk28 hb_28 => ⟨rfl, ?_⟩))
      show WP 2 135 46 [vR m, vI w, vI q, vI n] [vI b_28] (Mr28, S) Q
      have r_29 : Mr28 (m + 1) = f := (fr28 _ (by omega)).trans hf
      have r_31 : Mr28 (m + 2) = p := (fr28 _ (by omega)).trans hp2
      have fr_32 : ∀ r, r ≠ m → r ≠ m + 1 → r ≠ m + 2 → Mr28 r = M r := fun r q0 q1 q2 => (fr28 r q0).trans ((fun _ _ _ _ => rfl) r q0 q1 q2)
      have t428 := hk28 4 (by omega)
      have t728 := hk28 7 (by omega)
      have t1128 := hk28 11 (by omega)
      refine WP.blk 1 ?_
      show WP 2 135 (if cnd .eq b_28 0 = true then 51 else 49) [vR m, vI w, vI q, vI n] [] (Mr28, S) Q
      refine br_eq (fun c_33 => ?_) (fun c_33 => ?_)
      · exfalso; omega
      · have p_28 := (hb_28.resolve_right (fun h => by omega)).2
        refine WP.blk 1 ?_
        show WP 2 135 50 [vR m, vI w, vI q, vI n] [vI 0] (Mr28, S) Q
        exact WP.ret rfl rfl rfl trivial (k _ _ fr_32 _ ho28 (by omega) (by first | exact Or.inl ⟨by omega, by omega, r_29, r_31, by omega⟩ | exact Or.inr (Or.inl ⟨by omega, by omega, r_29, r_31, by omega⟩) | exact Or.inr (Or.inr (Or.inl ⟨by omega, by omega, r_29, r_31, by omega⟩))))
  · have p_1 := (hb_1.resolve_left (fun h => by omega)).2
    refine WP.blk 2 ?_
    show WP 2 135 43 [vR m, vI w, vI q, vI n] [vI 1, vR m] (M, S) Q
    refine WP.cl (a := [vR m, vI 1]) (rest := []) rfl rfl rfl rfl ⟨hS.1.1, trivial⟩ (by decide) (r_refused hS hf ho (fun b_34 Mr34 fr34 o34 ho34 h534 hk34 hb_34 => ⟨rfl, ?_⟩))
    show WP 2 135 46 [vR m, vI w, vI q, vI n] [vI b_34] (Mr34, S) Q
    have r_35 : Mr34 (m + 1) = f := (fr34 _ (by omega)).trans hf
    have r_37 : Mr34 (m + 2) = p := (fr34 _ (by omega)).trans hp2
    have fr_38 : ∀ r, r ≠ m → r ≠ m + 1 → r ≠ m + 2 → Mr34 r = M r := fun r q0 q1 q2 => (fr34 r q0).trans ((fun _ _ _ _ => rfl) r q0 q1 q2)
    have t434 := hk34 4 (by omega)
    have t734 := hk34 7 (by omega)
    have t1134 := hk34 11 (by omega)
    refine WP.blk 1 ?_
    show WP 2 135 (if cnd .eq b_34 0 = true then 51 else 49) [vR m, vI w, vI q, vI n] [] (Mr34, S) Q
    refine br_eq (fun c_39 => ?_) (fun c_39 => ?_)
    · exfalso; omega
    · have p_34 := (hb_34.resolve_right (fun h => by omega)).2
      refine WP.blk 1 ?_
      show WP 2 135 50 [vR m, vI w, vI q, vI n] [vI 0] (Mr34, S) Q
      exact WP.ret rfl rfl rfl trivial (k _ _ fr_38 _ ho34 (by omega) (by first | exact Or.inl ⟨by omega, by omega, r_35, r_37, by omega⟩ | exact Or.inr (Or.inl ⟨by omega, by omega, r_35, r_37, by omega⟩) | exact Or.inr (Or.inr (Or.inl ⟨by omega, by omega, r_35, r_37, by omega⟩))))
