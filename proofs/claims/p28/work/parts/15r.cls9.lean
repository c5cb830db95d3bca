set_option maxHeartbeats 4000000 in
theorem t_append {S : SD} {M : Nat → Int → Int} {x : Nat} {ox tx : Int → Int} {v : Int} (hS : isRub S x) (hox : M x = ox) (htx : M (x + 1) = tx) (hl : 0 ≤ ox 1 ∧ ox 1 ≤ 150) {Q : Res → Wd → Prop} (k : ∀ (M2 : Nat → Int → Int), (∀ q9, q9 ≠ x → q9 ≠ x + 1 → M2 q9 = M q9) → (0 ≤ v ∧ v ≤ 127) → ox 1 ≠ 150 → M2 x = uf ox 1 (ox 1 + 1) → M2 (x + 1) = uf tx (ox 1) v → Q (0, vI (ox 1 + 1)) (M2, S)) (k1 : ¬ (0 ≤ v ∧ v ≤ 127) → Q (1, none) (tk (M, S))) (k2 : (0 ≤ v ∧ v ≤ 127) → ox 1 = 150 → Q (2, none) (tk (M, S))) : EvQ 1 63 [vR x, vI v] (M, S) Q := by
  refine EvQ.enter (ls := [vR x, vI v]) (Nat.le_of_ble_eq_true rfl) rfl ?_
  have hN9 := hS.1.2.2.2.2.2.2.2.2.2.2.2
  refine WP.blk 2 ?_
  show WP 0 63 (if cnd .lt v 0 = true then 10 else 4) [vR x, vI v] [] (M, S) Q
  refine br_lt (fun c_1 => ?_) (fun c_1 => ?_)
  · exact WP.thr rfl rfl rfl rfl rfl (by decide) (k1 (by omega))
  · refine WP.blk 3 ?_
    show WP 0 63 (if cnd .le v 127 = true then 20 else 10) [vR x, vI v] [] (M, S) Q
    refine br_le (fun c_2 => ?_) (fun c_2 => ?_)
    · refine WP.blk 3 ?_
      show sT S x = 9 ∧ WP 0 63 (if cnd .lt (M x 1) 0 = true then 39 else 27) [vR x, vI v] [] (M, S) Q
      rw [hox]
      refine ⟨hS.1.1, ?_⟩
      refine br_lt (fun c_3 => ?_) (fun c_3 => ?_)
      · exact WP.thr rfl rfl rfl rfl rfl (by decide) (k2 (by omega) (by omega))
      · refine WP.blk 4 ?_
        show sT S x = 9 ∧ (sT S x = 9 ∧ sR S x 0 ≠ 0) ∧ WP 0 63 35 [vR x, vI v] [vR (sR S x 0), vI (M x 1)] (M, S) Q
        rw [hox]
        refine ⟨hS.1.1, ⟨hS.1.1, by rw [(show sR S x 0 = x + 1 from hS.1.2.1)]; omega⟩, ?_⟩
        rw [(show sR S x 0 = x + 1 from hS.1.2.1)]
        refine WP.blk 2 ?_
        show (sT S (x + 1) = 11 ∨ sT S (x + 1) = 16 ∨ sT S (x + 1) = 17) ∧ WP 0 63 (if cnd .lt (ox 1) (sN S (x + 1) : Int) = true then 49 else 39) [vR x, vI v] [] (M, S) Q
        refine ⟨(Or.inl hS.1.2.2.2.2.2.2.2.2.2.2.1), ?_⟩
        refine br_lt (fun c_4 => ?_) (fun c_4 => ?_)
        · refine WP.blk 2 ?_
          show (sT S x = 9 ∧ sR S x 0 ≠ 0) ∧ WP 0 63 53 [vR x, vI v] [vR (sR S x 0)] (M, S) Q
          refine ⟨⟨hS.1.1, by rw [(show sR S x 0 = x + 1 from hS.1.2.1)]; omega⟩, ?_⟩
          rw [(show sR S x 0 = x + 1 from hS.1.2.1)]
          refine WP.blk 4 ?_
          show sT S x = 9 ∧ (sT S (x + 1) = 11 ∧ 0 ≤ (M x 1) ∧ (M x 1) < (sN S (x + 1) : Int)) ∧ WP 0 63 59 [vR x, vI v] [] (up M (x + 1) (M x 1) v, S) Q
          rw [hox]
          refine ⟨hS.1.1, ⟨hS.1.2.2.2.2.2.2.2.2.2.2.1, by omega, by rw [(show sN S (x + 1) = 150 from hS.1.2.2.2.2.2.2.2.2.2.2.2)]; omega⟩, ?_⟩
          generalize hM_5 : up M (x + 1) (ox 1) v = M_5
          have r_6 : M_5 x = ox := by rw [← hM_5]; exact (up_row (by omega)).trans hox
          obtain ⟨g_8, hg_8⟩ : ∃ y9, y9 = uf tx (ox 1) v := ⟨_, rfl⟩
          have r_7 : M_5 (x + 1) = g_8 := by rw [← hM_5, hg_8, up_self, htx]
          have fr_9 : (∀ q9, q9 ≠ x → q9 ≠ x + 1 → M_5 q9 = M q9) := fun q9 q0 q1 => by rw [← hM_5]; exact (up_row (by omega)).trans ((fun _ _ _ => rfl) q9 q0 q1)
          refine WP.blk 6 ?_
          show sT S x = 9 ∧ ir ((M_5 x 1) + 1) ∧ sT S x = 9 ∧ WP 0 63 69 [vR x, vI v] [] (up M_5 x 1 ((M_5 x 1) + 1), S) Q
          rw [r_6]
          refine ⟨hS.1.1, (by unfold ir; omega), hS.1.1, ?_⟩
          generalize hM_10 : up M_5 x 1 ((ox 1) + 1) = M_10
          obtain ⟨g_12, hg_12⟩ : ∃ y9, y9 = uf ox 1 ((ox 1) + 1) := ⟨_, rfl⟩
          have r_11 : M_10 x = g_12 := by rw [← hM_10, hg_12, up_self, r_6]
          have r_13 : M_10 (x + 1) = g_8 := by rw [← hM_10]; exact (up_row (by omega)).trans r_7
          have fr_14 : (∀ q9, q9 ≠ x → q9 ≠ x + 1 → M_10 q9 = M q9) := fun q9 q0 q1 => by rw [← hM_10]; exact (up_row (by omega)).trans (fr_9 q9 q0 q1)
          refine WP.blk 2 ?_
          show sT S x = 9 ∧ WP 0 63 73 [vR x, vI v] [vI (M_10 x 1)] (M_10, S) Q
          rw [r_11]
          refine ⟨hS.1.1, ?_⟩
          exact WP.ret rfl rfl rfl trivial (by rw [show g_12 1 = ox 1 + 1 from (by rw [hg_12]; exact uf_eq _ _ _)]; exact k _ fr_14 (by omega) (by omega) (by rw [r_11, hg_12]) (by rw [r_13, hg_8]))
        · exact WP.thr rfl rfl rfl rfl rfl (by decide) (k2 (by omega) (by omega))
    · exact WP.thr rfl rfl rfl rfl rfl (by decide) (k1 (by omega))
set_option maxHeartbeats 4000000 in
theorem t_clearText {S : SD} {M : Nat → Int → Int} {x : Nat} {ox : Int → Int} (hS : isRub S x) (hox : M x = ox) {Q : Res → Wd → Prop} (k : ∀ (M2 : Nat → Int → Int), (∀ q9, q9 ≠ x → M2 q9 = M q9) → M2 x = uf ox 1 0 → Q (0, vI (ox 1)) (M2, S)) : EvQ 1 64 [vR x] (M, S) Q := by
  refine EvQ.enter (ls := [vR x, none]) (Nat.le_of_ble_eq_true rfl) rfl ?_
  refine WP.blk 6 ?_
  show sT S x = 9 ∧ sT S x = 9 ∧ WP 0 64 10 [vR x, vI (M x 1)] [] (up M x 1 0, S) Q
  rw [hox]
  refine ⟨hS.1.1, hS.1.1, ?_⟩
  generalize hM_1 : up M x 1 0 = M_1
  obtain ⟨g_3, hg_3⟩ : ∃ y9, y9 = uf ox 1 0 := ⟨_, rfl⟩
  have r_2 : M_1 x = g_3 := by rw [← hM_1, hg_3, up_self, hox]
  have fr_4 : (∀ q9, q9 ≠ x → M_1 q9 = M q9) := fun q9 q0 => by rw [← hM_1]; exact (up_row (by omega)).trans ((fun _ _ => rfl) q9 q0)
  refine WP.blk 1 ?_
  show WP 0 64 11 [vR x, vI (ox 1)] [vI (ox 1)] (M_1, S) Q
  exact WP.ret rfl rfl rfl trivial (k _ fr_4 (by rw [r_2, hg_3]))
set_option maxHeartbeats 4000000 in
theorem t_undo {S : SD} {M : Nat → Int → Int} {x : Nat} {f : Int → Int} {B : Int} {p g : Int → Int} {sv : Int} (hS : isRub S x) (has : AskR M x f) (hx3 : 3 ≤ x) (hR : RowOk B g) (hhi : HisF M S (x + 26) p sv) (hg : ∀ q, 0 ≤ q → q < 195 → g q = prw p (sv - 1) q) {Q : Res → Wd → Prop} (k : ∀ (M2 : Nat → Int → Int), (∀ q9, (q9 < x + 2 ∨ x + 14 ≤ q9) → (q9 < x + 26 ∨ x + 86 ≤ q9) → M2 q9 = M q9) → AskR M2 x g → HisF M2 S (x + 26) p (sv - 1) → 0 < sv → Q (0, vI (sv - 1)) (M2, S)) (k2 : sv = 0 → Q (2, none) (tk (M, S))) : EvQ 7 86 [vR x] (M, S) Q := by
  refine EvQ.enter (ls := [vR x]) (Nat.le_of_ble_eq_true rfl) rfl ?_
  have hsv9 := hhi.1.2
  have hA := hR.1
  have hA1 := hA.1
  have hWA := hR.2.1
  have hW1 := hWA.1
  refine WP.blk 2 ?_
  show (sT S x = 9 ∧ sR S x 4 ≠ 0) ∧ WP 6 86 4 [vR x] [vR (sR S x 4)] (M, S) Q
  refine ⟨⟨hS.1.1, by rw [(show sR S x 4 = x + 26 from hS.1.2.2.2.2.1)]; omega⟩, ?_⟩
  rw [(show sR S x 4 = x + 26 from hS.1.2.2.2.2.1)]
  refine WP.blk 2 ?_
  show sT S (x + 26) = 3 ∧ WP 6 86 (if cnd .gt (M (x + 26) 1) 0 = true then 21 else 10) [vR x] [] (M, S) Q
  rw [hhi.1.1]
  refine ⟨hS.2.2.2.1.1.1, ?_⟩
  refine br_gt (fun c_1 => ?_) (fun c_1 => ?_)
  · refine WP.blk 2 ?_
    show (sT S x = 9 ∧ sR S x 4 ≠ 0) ∧ WP 6 86 25 [vR x] [vR (sR S x 4)] (M, S) Q
    refine ⟨⟨hS.1.1, by rw [(show sR S x 4 = x + 26 from hS.1.2.2.2.2.1)]; omega⟩, ?_⟩
    rw [(show sR S x 4 = x + 26 from hS.1.2.2.2.2.1)]
    refine WP.blk 2 ?_
    show (sT S x = 9 ∧ sR S x 2 ≠ 0) ∧ WP 6 86 29 [vR x] [vR (sR S x 2), vR (x + 26)] (M, S) Q
    refine ⟨⟨hS.1.1, by rw [(show sR S x 2 = x + 2 from hS.1.2.2.1)]; omega⟩, ?_⟩
    rw [(show sR S x 2 = x + 2 from hS.1.2.2.1)]
    refine WP.cl (a := [vR (x + 26), vR (x + 2)]) (rest := []) rfl rfl rfl rfl ⟨hS.2.2.2.1.1.1, trivial⟩ (by decide) (k_pop hS.2.2.2.1 hS.2.1 (by omega) hhi (sht_cst has.1) (by omega) (fun My_2 fry_2 hky_2 hhy_2 => ⟨rfl, ?_⟩))
    show WP 6 86 32 [vR x] [] (My_2, S) Q
    have hty_2 : TurR My_2 := TurR_fr (fun r9 h8 h9 => fry_2 r9 (by omega) (by omega)) has.2.2
    have hsy_2 : Sht My_2 (x + 2) g := Sht_c (by rw [← hg 0 (by omega) (by omega)]; omega) (by rw [← hg 1 (by omega) (by omega)]; omega) hg hky_2
    have fr_3 : (∀ q9, (q9 < x + 2 ∨ x + 14 ≤ q9) → (q9 < x + 26 ∨ x + 86 ≤ q9) → My_2 q9 = M q9) := fun q9 q0 q1 => (fry_2 q9 (by omega) (by omega)).trans ((fun _ _ _ => rfl) q9 q0 q1)
    refine WP.blk 2 ?_
    show (sT S x = 9 ∧ sR S x 5 ≠ 0) ∧ WP 6 86 36 [vR x] [vR (sR S x 5)] (My_2, S) Q
    refine ⟨⟨hS.1.1, by rw [(show sR S x 5 = x + 76 from hS.1.2.2.2.2.2.1)]; omega⟩, ?_⟩
    rw [(show sR S x 5 = x + 76 from hS.1.2.2.2.2.2.1)]
    refine WP.blk 2 ?_
    show (sT S x = 9 ∧ sR S x 2 ≠ 0) ∧ WP 6 86 40 [vR x] [vR (sR S x 2), vR (x + 76)] (My_2, S) Q
    refine ⟨⟨hS.1.1, by rw [(show sR S x 2 = x + 2 from hS.1.2.2.1)]; omega⟩, ?_⟩
    rw [(show sR S x 2 = x + 2 from hS.1.2.2.1)]
    refine WP.cl (a := [vR (x + 76), vR (x + 2)]) (rest := []) rfl rfl rfl rfl ⟨hS.2.2.2.2.1.1, trivial⟩ (by decide) (k_rebuild hS.2.1 hS.2.2.2.2.1 hS.2.2.2.2.2.2.2.2.2 (by omega) (by omega) (by omega) hty_2 hsy_2.1.1 hsy_2.1.2.1 hA hW1.2 (fun w a b => (hWA.2 w a b).1.2.2.2.1) (fun My_4 fry_4 hky_4 => ⟨rfl, ?_⟩))
    show WP 6 86 43 [vR x] [] (My_4, S) Q
    have F_5 : Sht My_4 (x + 2) (g) := Sht_fr (fun r9 h8 h9 => fry_4 r9 (by omega)) hsy_2
    have F_6 : TurR My_4 := TurR_fr (fun r9 h8 h9 => fry_4 r9 (by omega)) hty_2
    have F_7 : HisF My_4 S (x + 26) p (sv - 1) := (HisF_fr hS.2.2.2.1) (fun r9 h8 h9 => fry_4 r9 (by omega)) hhy_2
    have fr_8 : (∀ q9, (q9 < x + 2 ∨ x + 14 ≤ q9) → (q9 < x + 26 ∨ x + 86 ≤ q9) → My_4 q9 = M q9) := fun q9 q0 q1 => (fry_4 q9 (by omega)).trans (fr_3 q9 q0 q1)
    refine WP.blk 2 ?_
    show (sT S x = 9 ∧ sR S x 4 ≠ 0) ∧ WP 6 86 47 [vR x] [vR (sR S x 4)] (My_4, S) Q
    refine ⟨⟨hS.1.1, by rw [(show sR S x 4 = x + 26 from hS.1.2.2.2.2.1)]; omega⟩, ?_⟩
    rw [(show sR S x 4 = x + 26 from hS.1.2.2.2.2.1)]
    refine WP.blk 1 ?_
    show sT S (x + 26) = 3 ∧ WP 6 86 50 [vR x] [vI (My_4 (x + 26) 1)] (My_4, S) Q
    rw [F_7.1.1]
    refine ⟨hS.2.2.2.1.1.1, ?_⟩
    exact WP.ret rfl rfl rfl trivial (k _ fr_8 ⟨F_5, hky_4, F_6⟩ F_7 (by omega))
  · exact WP.thr rfl rfl rfl rfl rfl (by decide) (k2 (by omega))
set_option maxHeartbeats 4000000 in
theorem t_writeAll {S : SD} {M : Nat → Int → Int} {x : Nat} {f : Int → Int} {B : Int} {p : Int → Int} {sv : Int} (hS : isRub S x) (has : AskR M x f) (hx3 : 3 ≤ x) (hR : RowOk B f) (hhi : HisF M S (x + 26) p sv) (hB : 0 ≤ B ∧ B ≤ 1000000000 - 400) {Q : Res → Wd → Prop} (k : ∀ (v : Int) (M2 : Nat → Int → Int) (R2 : Nat → Int → Nat), (∀ q9, (q9 < x + 2 ∨ x + 14 ≤ q9) → (q9 < x + 26 ∨ x + 86 ≤ q9) → M2 q9 = M q9) → (∀ r i, r ≠ x + 27 → R2 r i = sR S r i) → isRub (R2, S.2) x → AskR M2 x (wall f (f 1)) → HisN M2 (R2, S.2) (x + 26) p sv f → v = num (fun w => Can (wall f w) w) (f 1) → Q (0, vI v) (M2, (R2, S.2))) : EvQ 6 79 [vR x] (M, S) Q := by
  refine EvQ.enter (ls := [vR x, none, none, none]) (Nat.le_of_ble_eq_true rfl) rfl ?_
  have hA := hR.1
  have hA1 := hA.1
  have hWA := hR.2.1
  have hW1 := hWA.1
  refine WP.blk 2 ?_
  show (sT S x = 9 ∧ sR S x 4 ≠ 0) ∧ WP 5 79 4 [vR x, none, none, none] [vR (sR S x 4)] (M, S) Q
  refine ⟨⟨hS.1.1, by rw [(show sR S x 4 = x + 26 from hS.1.2.2.2.2.1)]; omega⟩, ?_⟩
  rw [(show sR S x 4 = x + 26 from hS.1.2.2.2.2.1)]
  refine WP.blk 2 ?_
  show (sT S x = 9 ∧ sR S x 2 ≠ 0) ∧ WP 5 79 8 [vR x, none, none, none] [vR (sR S x 2), vR (x + 26)] (M, S) Q
  refine ⟨⟨hS.1.1, by rw [(show sR S x 2 = x + 2 from hS.1.2.2.1)]; omega⟩, ?_⟩
  rw [(show sR S x 2 = x + 2 from hS.1.2.2.1)]
  refine WP.cl (a := [vR (x + 26), vR (x + 2)]) (rest := []) rfl rfl rfl rfl ⟨hS.2.2.2.1.1.1, trivial⟩ (by decide) (k_push hS.2.2.2.1 hS.2.1 (by omega) hhi has.1 (by omega) (by omega) (fun My_1 Ry_1 fry_1 hry_1 hHy_1 hNy_1 => ⟨rfl, ?_⟩))
  show WP 5 79 11 [vR x, none, none, none] [] (My_1, (Ry_1, S.2)) Q
  have hSy_1 := rub_s hry_1 hHy_1 hS
  have F_2 : AskR My_1 x f := AskR_fr (fun r9 h7 h8 h9 => fry_1 r9 (by omega)) has
  have fr_3 : (∀ q9, (q9 < x + 2 ∨ x + 14 ≤ q9) → (q9 < x + 26 ∨ x + 86 ≤ q9) → My_1 q9 = M q9) := fun q9 q0 q1 => (fry_1 q9 (by omega)).trans ((fun _ _ _ => rfl) q9 q0 q1)
  refine WP.blk 4 ?_
  show WP 5 79 15 [vR x, vI 0, vI 0, none] [] (My_1, (Ry_1, S.2)) Q
  have hl_15 : ∀ (n_15 : Nat) (i : Int) (v : Int) (g : Int → Int) (v3_15 : V) (Ma : Nat → Int → Int), 0 ≤ i ∧ i ≤ f 1 → g = wall f i → AskR Ma x g → v = num (fun w => Can (wall f w) w) i → HisN Ma (Ry_1, S.2) (x + 26) p sv f → (∀ q9, (q9 < x + 2 ∨ x + 14 ≤ q9) → (q9 < x + 26 ∨ x + 86 ≤ q9) → Ma q9 = M q9) → (f 1 - i).toNat < n_15 → WP 5 79 15 [vR x, vI v, vI i, v3_15] [] (Ma, (Ry_1, S.2)) Q := by
    intro n_15
    induction n_15 with
    | zero => intro i v g v3_15 Ma h0 hgw haw h2 F_15_hn fr_15 hm_15; exact absurd hm_15 (Nat.not_lt_zero _)
    | succ n_15 ih_15 =>
      intro i v g v3_15 Ma h0 hgw haw h2 F_15_hn fr_15 hm_15
      have hq := wall_row hR hB.1 i h0.1 h0.2
      rw [← hgw] at hq
      obtain ⟨hRw, hio⟩ := hq
      have hAw := hRw.1
      have hA1w := hAw.1
      have hWw := hRw.2.1
      have hW1w := hWw.1
      have hIw := hRw.2.2
      have hi1 := hio.2.1
      obtain ⟨xw, hxw⟩ := fresh_ex hA1w
      have hWrw : ∀ s, 0 ≤ s → s < g 0 → 0 ≤ g (7 + 9 * s + 8) ∧ g (7 + 9 * s + 8) ≤ 1000000000 := fun s a b => ⟨(hIw.1 s a b).2.2.1, by have := (hIw.1 s a b).2.2.2; omega⟩
      have h9 := num_r (P := fun w => Can (wall f w) w) h0.1
      refine WP.blk 3 ?_
      show (sT (Ry_1, S.2) x = 9 ∧ sR (Ry_1, S.2) x 2 ≠ 0) ∧ WP 5 79 20 [vR x, vI v, vI i, v3_15] [vR (sR (Ry_1, S.2) x 2), vI i] (Ma, (Ry_1, S.2)) Q
      refine ⟨⟨hSy_1.1.1, by rw [(show sR (Ry_1, S.2) x 2 = x + 2 from hSy_1.1.2.2.1)]; omega⟩, ?_⟩
      rw [(show sR (Ry_1, S.2) x 2 = x + 2 from hSy_1.1.2.2.1)]
      refine WP.blk 1 ?_
      show (sT (Ry_1, S.2) (x + 2) = 8 ∧ sR (Ry_1, S.2) (x + 2) 1 ≠ 0) ∧ WP 5 79 23 [vR x, vI v, vI i, v3_15] [vR (sR (Ry_1, S.2) (x + 2) 1), vI i] (Ma, (Ry_1, S.2)) Q
      refine ⟨⟨hSy_1.2.1.1, by rw [(show sR (Ry_1, S.2) (x + 2) 1 = x + 6 from hSy_1.2.1.2.2.1)]; omega⟩, ?_⟩
      rw [(show sR (Ry_1, S.2) (x + 2) 1 = x + 6 from hSy_1.2.1.2.2.1)]
      refine WP.blk 2 ?_
      show sT (Ry_1, S.2) (x + 6) = 7 ∧ WP 5 79 (if cnd .ge i (Ma (x + 6) 4) = true then 91 else 29) [vR x, vI v, vI i, v3_15] [] (Ma, (Ry_1, S.2)) Q
      rw [haw.1.1.2.1.1.2.2]
      refine ⟨hSy_1.2.1.2.2.2.2.2.2.1.1, ?_⟩
      refine br_ge (fun c_4 => ?_) (fun c_4 => ?_)
      · refine WP.blk 1 ?_
        show WP 5 79 92 [vR x, vI v, vI i, v3_15] [vI v] (Ma, (Ry_1, S.2)) Q
        exact WP.ret rfl rfl rfl trivial (k _ _ _ fr_15 hry_1 hSy_1 (by have e9 := haw; rw [hgw, show i = f 1 by omega] at e9; exact e9) F_15_hn (by rw [h2, show i = f 1 by omega]))
      · refine WP.blk 2 ?_
        show WP 5 79 31 [vR x, vI v, vI i, v3_15] [vI i, vR x] (Ma, (Ry_1, S.2)) Q
        refine WP.cl (a := [vR x, vI i]) (rest := []) rfl rfl rfl rfl ⟨hSy_1.1.1, trivial⟩ (by decide) (t_bestPlan hSy_1 haw hx3 hRw (by omega) hxw (fun My_5 fry_5 hky_5 => ⟨rfl, ?_⟩))
        show WP 5 79 34 [vR x, vI v, vI i, v3_15] [vR (x + 78)] (My_5, (Ry_1, S.2)) Q
        have F_6 : HisN My_5 (Ry_1, S.2) (x + 26) p sv f := (HisN_fr hHy_1) (fun r9 h8 h9 => fry_5 r9 (by omega)) F_15_hn
        have F_7 : AskR My_5 x g := AskR_fr (fun r9 h7 h8 h9 => fry_5 r9 (by omega)) haw
        have fr_8 : (∀ q9, (q9 < x + 2 ∨ x + 14 ≤ q9) → (q9 < x + 26 ∨ x + 86 ≤ q9) → My_5 q9 = M q9) := fun q9 q0 q1 => (fry_5 q9 (by omega)).trans (fr_15 q9 q0 q1)
        refine WP.blk 4 ?_
        show (sT (Ry_1, S.2) x = 9 ∧ sR (Ry_1, S.2) x 2 ≠ 0) ∧ WP 5 79 40 [vR x, vI v, vI i, vR (x + 78)] [vR (sR (Ry_1, S.2) x 2), vR (x + 78)] (My_5, (Ry_1, S.2)) Q
        refine ⟨⟨hSy_1.1.1, by rw [(show sR (Ry_1, S.2) x 2 = x + 2 from hSy_1.1.2.2.1)]; omega⟩, ?_⟩
        rw [(show sR (Ry_1, S.2) x 2 = x + 2 from hSy_1.1.2.2.1)]
        refine WP.blk 1 ?_
        show (sT (Ry_1, S.2) (x + 2) = 8 ∧ sR (Ry_1, S.2) (x + 2) 3 ≠ 0) ∧ WP 5 79 43 [vR x, vI v, vI i, vR (x + 78)] [vR (sR (Ry_1, S.2) (x + 2) 3), vR (x + 78)] (My_5, (Ry_1, S.2)) Q
        refine ⟨⟨hSy_1.2.1.1, by rw [(show sR (Ry_1, S.2) (x + 2) 3 = x + 10 from hSy_1.2.1.2.2.2.2.1)]; omega⟩, ?_⟩
        rw [(show sR (Ry_1, S.2) (x + 2) 3 = x + 10 from hSy_1.2.1.2.2.2.2.1)]
        refine WP.blk 2 ?_
        show (sT (Ry_1, S.2) x = 9 ∧ sR (Ry_1, S.2) x 2 ≠ 0) ∧ WP 5 79 47 [vR x, vI v, vI i, vR (x + 78)] [vR (sR (Ry_1, S.2) x 2), vR (x + 10), vR (x + 78)] (My_5, (Ry_1, S.2)) Q
        refine ⟨⟨hSy_1.1.1, by rw [(show sR (Ry_1, S.2) x 2 = x + 2 from hSy_1.1.2.2.1)]; omega⟩, ?_⟩
        rw [(show sR (Ry_1, S.2) x 2 = x + 2 from hSy_1.1.2.2.1)]
        refine WP.blk 1 ?_
        show sT (Ry_1, S.2) (x + 2) = 8 ∧ WP 5 79 50 [vR x, vI v, vI i, vR (x + 78)] [vI (My_5 (x + 2) 4), vR (x + 10), vR (x + 78)] (My_5, (Ry_1, S.2)) Q
        rw [F_7.1.1.2.2.2.1]
        refine ⟨hSy_1.2.1.1, ?_⟩
        refine WP.cl (a := [vR (x + 78), vR (x + 10), vI (g 2)]) (rest := []) rfl rfl rfl rfl ⟨hSy_1.2.2.2.2.2.1.1, trivial⟩ (by decide) (k_possible hSy_1.2.2.2.2.2.1 hSy_1.2.1.2.2.2.2.2.2.2.2.2 F_7.1.2 hAw (hWw.2 i (by omega) (by omega)).1 hxw hky_5 rfl hWrw (fun q9 hq9 => ⟨rfl, ?_⟩))
        show WP 5 79 53 [vR x, vI v, vI i, vR (x + 78)] [vI q9] (My_5, (Ry_1, S.2)) Q
        replace hq9 : PosR My_5 (x + 78) g i q9 := hq9
        have hz9 := posR_b hq9
        refine WP.blk 1 ?_
        show WP 5 79 (if cnd .eq q9 0 = true then 85 else 56) [vR x, vI v, vI i, vR (x + 78)] [] (My_5, (Ry_1, S.2)) Q
        refine br_eq (fun c_10 => ?_) (fun c_10 => ?_)
        · refine WP.blk 2 ?_
          show ir (i + 1) ∧ WP 5 79 15 [vR x, vI v, vI (i + 1), vR (x + 78)] [] (My_5, (Ry_1, S.2)) Q
          refine ⟨(by unfold ir; omega), ?_⟩
          exact ih_15 (i + 1) v g (vR (x + 78)) My_5 (by omega) (by rw [wall_s h0.1, ← hgw, wrote_f (can_n (posR_f hq9 (by omega)))]) F_7 (by rw [num_f (P := fun w => Can (wall f w) w) h0.1 (by rw [← hgw]; exact can_n (posR_f hq9 (by omega)))]; exact h2) F_6 fr_8 (by omega)
        · obtain ⟨nw, cw, hcan, hpw1, hpw2⟩ := posR_t hq9 (by omega)
          have hpw : PlnW My_5 (x + 78) cw nw := ⟨hpw1, hpw2⟩
          clear hpw1 hpw2
          have hpl := wrt_pl hAw (hWw.2 i (by omega) (by omega)).1 hcan
          have hpl1 := hpl.1
          have hcolw := (hWw.2 i (by omega) (by omega)).2
          refine WP.blk 3 ?_
          show (sT (Ry_1, S.2) x = 9 ∧ sR (Ry_1, S.2) x 2 ≠ 0) ∧ WP 5 79 61 [vR x, vI v, vI i, vR (x + 78)] [vR (sR (Ry_1, S.2) x 2), vR (x + 78)] (My_5, (Ry_1, S.2)) Q
          refine ⟨⟨hSy_1.1.1, by rw [(show sR (Ry_1, S.2) x 2 = x + 2 from hSy_1.1.2.2.1)]; omega⟩, ?_⟩
          rw [(show sR (Ry_1, S.2) x 2 = x + 2 from hSy_1.1.2.2.1)]
          refine WP.blk 1 ?_
          show (sT (Ry_1, S.2) (x + 2) = 8 ∧ sR (Ry_1, S.2) (x + 2) 3 ≠ 0) ∧ WP 5 79 64 [vR x, vI v, vI i, vR (x + 78)] [vR (sR (Ry_1, S.2) (x + 2) 3), vR (x + 78)] (My_5, (Ry_1, S.2)) Q
          refine ⟨⟨hSy_1.2.1.1, by rw [(show sR (Ry_1, S.2) (x + 2) 3 = x + 10 from hSy_1.2.1.2.2.2.2.1)]; omega⟩, ?_⟩
          rw [(show sR (Ry_1, S.2) (x + 2) 3 = x + 10 from hSy_1.2.1.2.2.2.2.1)]
          refine WP.blk 2 ?_
          show (sT (Ry_1, S.2) x = 9 ∧ sR (Ry_1, S.2) x 2 ≠ 0) ∧ WP 5 79 68 [vR x, vI v, vI i, vR (x + 78)] [vR (sR (Ry_1, S.2) x 2), vR (x + 10), vR (x + 78)] (My_5, (Ry_1, S.2)) Q
          refine ⟨⟨hSy_1.1.1, by rw [(show sR (Ry_1, S.2) x 2 = x + 2 from hSy_1.1.2.2.1)]; omega⟩, ?_⟩
          rw [(show sR (Ry_1, S.2) x 2 = x + 2 from hSy_1.1.2.2.1)]
          refine WP.blk 1 ?_
          show WP 5 79 69 [vR x, vI v, vI i, vR (x + 78)] [vI i, vR (x + 2), vR (x + 10), vR (x + 78)] (My_5, (Ry_1, S.2)) Q
          refine WP.cl (a := [vR (x + 2), vI i]) (rest := [vR (x + 10), vR (x + 78)]) rfl rfl rfl rfl ⟨hSy_1.2.1.1, trivial⟩ (by decide) (k_colorOf hSy_1.2.1 F_7.1.1.2.2.1 (by omega) (by omega) ⟨rfl, ?_⟩)
          show WP 5 79 72 [vR x, vI v, vI i, vR (x + 78)] [vI (g (97 + 14 * i + 1)), vR (x + 10), vR (x + 78)] (My_5, (Ry_1, S.2)) Q
          refine WP.blk 2 ?_
          show (sT (Ry_1, S.2) x = 9 ∧ sR (Ry_1, S.2) x 2 ≠ 0) ∧ WP 5 79 76 [vR x, vI v, vI i, vR (x + 78)] [vR (sR (Ry_1, S.2) x 2), vI (g (97 + 14 * i + 1)), vR (x + 10), vR (x + 78)] (My_5, (Ry_1, S.2)) Q
          refine ⟨⟨hSy_1.1.1, by rw [(show sR (Ry_1, S.2) x 2 = x + 2 from hSy_1.1.2.2.1)]; omega⟩, ?_⟩
          rw [(show sR (Ry_1, S.2) x 2 = x + 2 from hSy_1.1.2.2.1)]
          refine WP.blk 1 ?_
          show sT (Ry_1, S.2) (x + 2) = 8 ∧ WP 5 79 79 [vR x, vI v, vI i, vR (x + 78)] [vI (My_5 (x + 2) 5), vI (g (97 + 14 * i + 1)), vR (x + 10), vR (x + 78)] (My_5, (Ry_1, S.2)) Q
          rw [F_7.1.1.2.2.2.2]
          refine ⟨hSy_1.2.1.1, ?_⟩
          refine WP.cl (a := [vR (x + 78), vR (x + 10), vI (g (97 + 14 * i + 1)), vI (g 3)]) (rest := []) rfl rfl rfl rfl ⟨hSy_1.2.2.2.2.2.1.1, trivial⟩ (by decide) (k_carryOut hSy_1.2.2.2.2.2.1 hSy_1.2.1.2.2.2.2.2.2.2.2.2 (by omega) F_7.1.2 hRw (by omega) hcolw rfl hpw.1 hpl1 hpw.2 hpl.2 (fun My_11 fry_11 hky_11 => ⟨rfl, ?_⟩))
          show WP 5 79 82 [vR x, vI v, vI i, vR (x + 78)] [] (My_11, (Ry_1, S.2)) Q
          have F_12 : HisN My_11 (Ry_1, S.2) (x + 26) p sv f := (HisN_fr hHy_1) (fun r9 h8 h9 => fry_11 r9 (by omega)) F_6
          have F_13 : PlnR My_11 (x + 78) g i xw := PlnR_fr (fun r9 h8 h9 => fry_11 r9 (by omega)) hky_5
          have F_14 : PlnW My_11 (x + 78) cw nw := PlnW_fr (fun r9 h8 h9 => fry_11 r9 (by omega)) hpw
          have fr_15 : (∀ q9, (q9 < x + 2 ∨ x + 14 ≤ q9) → (q9 < x + 26 ∨ x + 86 ≤ q9) → My_11 q9 = M q9) := fun q9 q0 q1 => (fry_11 q9 (by omega)).trans (fr_8 q9 q0 q1)
          refine WP.blk 3 ?_
          show ir (v + 1) ∧ ir (i + 1) ∧ WP 5 79 15 [vR x, vI (v + 1), vI (i + 1), vR (x + 78)] [] (My_11, (Ry_1, S.2)) Q
          refine ⟨(by unfold ir; omega), (by unfold ir; omega), ?_⟩
          exact ih_15 (i + 1) (v + 1) (car (g (97 + 14 * i + 1)) cw g nw) (vR (x + 78)) My_11 (by omega) (by rw [wall_s h0.1, ← hgw, wrote_t hAw (hWw.2 i (by omega) (by omega)).1 hcan]) (ask_ink F_7 hx3 (by omega) (car_row hRw (by omega) hcolw hpl1.1 hpl.2).2 (fun q hq => fry_11 q hq) hky_11) (by rw [num_t (P := fun w => Can (wall f w) w) h0.1 (by rw [← hgw]; exact can_i hcan)]; omega) F_12 fr_15 (by omega)
  exact hl_15 _ 0 0 f (none) My_1 (by omega) wall_0.symm F_2 num_0.symm hNy_1 fr_3 (Nat.lt_succ_self _)
set_option maxHeartbeats 4000000 in
theorem k_openItem {S : SD} {M : Nat → Int → Int} {k1 : Nat} {g : Int → Int} {c : Int} (hS : isSheet S k1) (hst : StR M (k1 + 1) g) (hwd : WdR M (k1 + 4) g) (hco : ColR M (k1 + 7) g) (h0 : 0 ≤ g 0 ∧ g 0 ≤ 10) (h7 : g 1 ≤ 7) (hcr : -1000 ≤ c ∧ c ≤ 1000) {Q : Res → Wd → Prop} (k : ∀ (v : Int) (M2 : Nat → Int → Int), (∀ q9, (q9 < k1 + 1 ∨ k1 + 8 ≤ q9) → M2 q9 = M q9) → NxV M2 k1 0 g c v → Q (0, vI v) (M2, S)) : EvQ 3 89 [vR k1, vI c] (M, S) Q := by
  refine EvQ.enter (ls := [vR k1, vI c, none]) (Nat.le_of_ble_eq_true rfl) rfl ?_
  have hl5 : ∀ s, 0 ≤ s → s < g 0 → g (7 + 9 * s) ≤ 5 := fun s a b => (hst.2.2 s a b).1.2.2
  have hw1 : 0 ≤ g 1 := hwd.2.1.1
  refine WP.blk 3 ?_
  show WP 2 89 (if cnd .ne c 42 = true then 22 else 6) [vR k1, vI c, none] [] (M, S) Q
  refine br_ne (fun c_1 => ?_) (fun c_1 => ?_)
  · refine WP.blk 6 ?_
    show ir (c - 48) ∧ WP 2 89 (if cnd .lt (c - 48) 0 = true then 46 else 31) [vR k1, vI c, vI (c - 48)] [] (M, S) Q
    refine ⟨(by unfold ir; omega), ?_⟩
    refine br_lt (fun c_2 => ?_) (fun c_2 => ?_)
    · refine WP.blk 1 ?_
      show WP 2 89 47 [vR k1, vI c, vI (c - 48)] [vI 3] (M, S) Q
      exact WP.ret rfl rfl rfl trivial (k _ _ (fun _ _ => rfl) (Or.inl ⟨rfl, nx_0n (by omega) (by omega), (show DrF M k1 g from ⟨hst, hwd, hco⟩)⟩))
    · refine WP.blk 3 ?_
      show WP 2 89 (if cnd .ge (c - 48) 4 = true then 46 else 36) [vR k1, vI c, vI (c - 48)] [] (M, S) Q
      refine br_ge (fun c_3 => ?_) (fun c_3 => ?_)
      · refine WP.blk 1 ?_
        show WP 2 89 47 [vR k1, vI c, vI (c - 48)] [vI 3] (M, S) Q
        exact WP.ret rfl rfl rfl trivial (k _ _ (fun _ _ => rfl) (Or.inl ⟨rfl, nx_0n (by omega) (by omega), (show DrF M k1 g from ⟨hst, hwd, hco⟩)⟩))
      · refine WP.blk 2 ?_
        show (sT S k1 = 8 ∧ sR S k1 1 ≠ 0) ∧ WP 2 89 40 [vR k1, vI c, vI (c - 48)] [vR (sR S k1 1)] (M, S) Q
        refine ⟨⟨hS.1, by rw [(show sR S k1 1 = k1 + 4 from hS.2.2.1)]; omega⟩, ?_⟩
        rw [(show sR S k1 1 = k1 + 4 from hS.2.2.1)]
        refine WP.cl (a := [vR (k1 + 4)]) (rest := []) rfl rfl rfl rfl ⟨hS.2.2.2.2.2.2.1.1, trivial⟩ (by decide) (k_open hS.2.2.2.2.2.2.1 hwd (by omega) (by omega) (fun b_4 M4 fr4 hb_4 => ⟨rfl, ?_⟩))
        show WP 2 89 43 [vR k1, vI c, vI (c - 48)] [vI b_4] (M4, S) Q
        have F_5 : StR M4 (k1 + 1) g := StR_fr (fun r9 h8 h9 => fr4 r9 (by omega) (by omega)) hst
        have F_6 : ColR M4 (k1 + 7) g := ColR_fr (fun r9 h8 h9 => fr4 r9 (by omega) (by omega)) hco
        have fr_7 : (∀ q9, (q9 < k1 + 1 ∨ k1 + 8 ≤ q9) → M4 q9 = M q9) := fun q9 q0 => (fr4 q9 (by omega) (by omega)).trans ((fun _ _ => rfl) q9 q0)
        have hz4 : b_4 = 0 ∨ b_4 = 1 := by rcases hb_4 with h | h <;> omega
        refine WP.blk 1 ?_
        show WP 2 89 (if cnd .ne b_4 0 = true then 48 else 46) [vR k1, vI c, vI (c - 48)] [] (M4, S) Q
        refine br_ne (fun c_8 => ?_) (fun c_8 => ?_)
        · have p_4 := (hb_4.resolve_right (fun h => by omega)).2
          have hc94 := ((hb_4.resolve_right (fun h => by omega)).2.2).1.2.2
          have hco94 := F_6
          refine WP.blk 3 ?_
          show (sT S k1 = 8 ∧ sR S k1 1 ≠ 0) ∧ WP 2 89 53 [vR k1, vI c, vI (c - 48)] [vR (sR S k1 1), vR k1] (M4, S) Q
          refine ⟨⟨hS.1, by rw [(show sR S k1 1 = k1 + 4 from hS.2.2.1)]; omega⟩, ?_⟩
          rw [(show sR S k1 1 = k1 + 4 from hS.2.2.1)]
          refine WP.blk 4 ?_
          show sT S (k1 + 4) = 7 ∧ ir ((M4 (k1 + 4) 4) - 1) ∧ WP 2 89 59 [vR k1, vI c, vI (c - 48)] [vI (c - 48), vI ((M4 (k1 + 4) 4) - 1), vR k1] (M4, S) Q
          rw [hc94]
          refine ⟨hS.2.2.2.2.2.2.1.1, (by unfold ir; omega), ?_⟩
          refine WP.cl (a := [vR k1, vI (((g 1 + 1)) - 1), vI (c - 48)]) (rest := []) rfl rfl rfl rfl ⟨hS.1, trivial⟩ (by decide) (k_paint hS (by omega) (fun My_9 fry_9 hky_9 => ⟨rfl, ?_⟩))
          show WP 2 89 62 [vR k1, vI c, vI (c - 48)] [] (My_9, S) Q
          have F_10 : StR My_9 (k1 + 1) g := StR_fr (fun r9 h8 h9 => fry_9 r9 (by omega)) F_5
          have fr_11 : (∀ q9, (q9 < k1 + 1 ∨ k1 + 8 ≤ q9) → My_9 q9 = M q9) := fun q9 q0 => (fry_9 q9 (by omega)).trans (fr_7 q9 q0)
          refine WP.blk 1 ?_
          show WP 2 89 63 [vR k1, vI c, vI (c - 48)] [vI 2] (My_9, S) Q
          exact WP.ret rfl rfl rfl trivial (k _ _ fr_11 (Or.inr ⟨by omega, _, nx_0w (v := c - 48) (by omega) (by rcases hb_4 with h | h <;> omega) rfl, str_c (opW_k (by omega) (by omega) (by omega)) hl5 (fun s9 k9 a b q r => opW_k (by omega) (by omega) (by omega)) F_10, drf_W (by rcases hb_4 with h | h <;> omega) (RowsR_fr (fun r9 h8 h9 => fry_9 r9 (by omega)) (hb_4.resolve_right (fun h => by omega)).2.2), drf_col (by omega) hco94 (by rw [hky_9, show g 1 + 1 - 1 = g 1 by omega])⟩))
        · have p_4 := (hb_4.resolve_left (fun h => by omega)).2
          refine WP.blk 1 ?_
          show WP 2 89 47 [vR k1, vI c, vI (c - 48)] [vI 3] (M4, S) Q
          exact WP.ret rfl rfl rfl trivial (k _ _ fr_7 (Or.inl ⟨rfl, nx_0n (by omega) (by rcases hb_4 with h | h <;> omega), (hb_4.elim (fun h => absurd h.1 (by omega)) (fun h => by rw [h.2.2]; exact (show DrF M k1 g from ⟨hst, hwd, hco⟩)))⟩))
  · refine WP.blk 2 ?_
    show (sT S k1 = 8 ∧ sR S k1 0 ≠ 0) ∧ WP 2 89 10 [vR k1, vI c, none] [vR (sR S k1 0)] (M, S) Q
    refine ⟨⟨hS.1, by rw [(show sR S k1 0 = k1 + 1 from hS.2.1)]; omega⟩, ?_⟩
    rw [(show sR S k1 0 = k1 + 1 from hS.2.1)]
    refine WP.cl (a := [vR (k1 + 1)]) (rest := []) rfl rfl rfl rfl ⟨hS.2.2.2.2.2.1.1, trivial⟩ (by decide) (k_open hS.2.2.2.2.2.1 hst (by omega) (by omega) (fun b_12 M12 fr12 hb_12 => ⟨rfl, ?_⟩))
    show WP 2 89 13 [vR k1, vI c, none] [vI b_12] (M12, S) Q
    have F_13 : WdR M12 (k1 + 4) g := WdR_fr (fun r9 h8 h9 => fr12 r9 (by omega) (by omega)) hwd
    have F_14 : ColR M12 (k1 + 7) g := ColR_fr (fun r9 h8 h9 => fr12 r9 (by omega) (by omega)) hco
    have fr_15 : (∀ q9, (q9 < k1 + 1 ∨ k1 + 8 ≤ q9) → M12 q9 = M q9) := fun q9 q0 => (fr12 q9 (by omega) (by omega)).trans ((fun _ _ => rfl) q9 q0)
    have hz12 : b_12 = 0 ∨ b_12 = 1 := by rcases hb_12 with h | h <;> omega
    refine WP.blk 1 ?_
    show WP 2 89 (if cnd .eq b_12 0 = true then 20 else 16) [vR k1, vI c, none] [] (M12, S) Q
    refine br_eq (fun c_16 => ?_) (fun c_16 => ?_)
    · have p_12 := (hb_12.resolve_left (fun h => by omega)).2
      refine WP.blk 1 ?_
      show WP 2 89 21 [vR k1, vI c, none] [vI 3] (M12, S) Q
      exact WP.ret rfl rfl rfl trivial (k _ _ fr_15 (Or.inl ⟨rfl, nx_0n (by rcases hb_12 with h | h <;> omega) (by omega), (hb_12.elim (fun h => absurd h.1 (by omega)) (fun h => by rw [h.2.2]; exact (show DrF M k1 g from ⟨hst, hwd, hco⟩)))⟩))
    · have p_12 := (hb_12.resolve_right (fun h => by omega)).2
      refine WP.blk 2 ?_
      show WP 2 89 21 [vR k1, vI c, none] [vI 1] (M12, S) Q
      exact WP.ret rfl rfl rfl trivial (k _ _ fr_15 (Or.inr ⟨by omega, _, nx_0s (by omega) (by rcases hb_12 with h | h <;> omega), drf_S (by rcases hb_12 with h | h <;> omega) (hb_12.resolve_right (fun h => by omega)).2.2, wdr_c (opS_k (by omega) (by omega)) (fun k9 h9 => opS_k (by omega) (by rcases hb_12 with h | h <;> omega)) F_13, col_c (opS_k (by omega) (by omega)) (fun k9 h9 => opS_k (by omega) (by rcases hb_12 with h | h <;> omega)) F_14⟩))
set_option maxHeartbeats 4000000 in
theorem k_nextStage {S : SD} {M : Nat → Int → Int} {k1 : Nat} {f g : Int → Int} {st c : Int} (hS : isSheet S k1) (hst : StR M (k1 + 1) g) (hwd : WdR M (k1 + 4) g) (hco : ColR M (k1 + 7) g) (hpw : PW f st g) (hcr : -1000 ≤ c ∧ c ≤ 1000) {Q : Res → Wd → Prop} (k : ∀ (v : Int) (M2 : Nat → Int → Int), (∀ q9, (q9 < k1 + 1 ∨ k1 + 8 ≤ q9) → M2 q9 = M q9) → NxV M2 k1 st g c v → Q (0, vI v) (M2, S)) : EvQ 4 88 [vR k1, vI st, vI c] (M, S) Q := by
  refine EvQ.enter (ls := [vR k1, vI st, vI c, none, none]) (Nat.le_of_ble_eq_true rfl) rfl ?_
  have hl5 : ∀ s, 0 ≤ s → s < g 0 → g (7 + 9 * s) ≤ 5 := fun s a b => (hst.2.2 s a b).1.2.2
  have hpw1 := hpw.1.1
  have hpw2 := hpw.1.2.1
  have hpw3 := hpw.1.2.2
  refine WP.blk 2 ?_
  show WP 3 88 (if cnd .ne st 0 = true then 10 else 4) [vR k1, vI st, vI c, none, none] [] (M, S) Q
  refine br_ne (fun c_1 => ?_) (fun c_1 => ?_)
  · refine WP.blk 3 ?_
    show WP 3 88 (if cnd .ne st 1 = true then 22 else 15) [vR k1, vI st, vI c, none, none] [] (M, S) Q
    refine br_ne (fun c_2 => ?_) (fun c_2 => ?_)
    · have hp9 := hpw.2.2.1 (g 1 - 1) (by omega) (by omega)
      have hp8 := hp9.1
      have hp7 := hp9.2.1
      refine WP.blk 2 ?_
      show (sT S k1 = 8 ∧ sR S k1 1 ≠ 0) ∧ WP 3 88 26 [vR k1, vI st, vI c, none, none] [vR (sR S k1 1)] (M, S) Q
      refine ⟨⟨hS.1, by rw [(show sR S k1 1 = k1 + 4 from hS.2.2.1)]; omega⟩, ?_⟩
      rw [(show sR S k1 1 = k1 + 4 from hS.2.2.1)]
      refine WP.blk 4 ?_
      show WP 3 88 (if cnd .ne c 59 = true then 52 else 33) [vR k1, vI st, vI c, vR (k1 + 4), none] [] (M, S) Q
      refine br_ne (fun c_3 => ?_) (fun c_3 => ?_)
      · refine WP.blk 3 ?_
        show WP 3 88 (if cnd .lt c 97 = true then 79 else 58) [vR k1, vI st, vI c, vR (k1 + 4), none] [] (M, S) Q
        refine br_lt (fun c_4 => ?_) (fun c_4 => ?_)
        · refine WP.blk 5 ?_
          show WP 3 88 92 [vR k1, vI st, vI c, vR (k1 + 4), vI 0] [vI 3] (M, S) Q
          exact WP.ret rfl rfl rfl trivial (k _ _ (fun _ _ => rfl) (Or.inl ⟨rfl, nx_n (by omega) (show 97 + 14 * (g 1 - 1) = atS st g from (if_neg (by omega)).symm) (show 12 = moS st from (if_neg (by omega)).symm) (by omega) (by omega), (show DrF M k1 g from ⟨hst, hwd, hco⟩)⟩))
        · refine WP.blk 3 ?_
          show WP 3 88 (if cnd .gt c 122 = true then 79 else 64) [vR k1, vI st, vI c, vR (k1 + 4), none] [] (M, S) Q
          refine br_gt (fun c_5 => ?_) (fun c_5 => ?_)
          · refine WP.blk 5 ?_
            show WP 3 88 92 [vR k1, vI st, vI c, vR (k1 + 4), vI 0] [vI 3] (M, S) Q
            exact WP.ret rfl rfl rfl trivial (k _ _ (fun _ _ => rfl) (Or.inl ⟨rfl, nx_n (by omega) (show 97 + 14 * (g 1 - 1) = atS st g from (if_neg (by omega)).symm) (show 12 = moS st from (if_neg (by omega)).symm) (by omega) (by omega), (show DrF M k1 g from ⟨hst, hwd, hco⟩)⟩))
          · refine WP.blk 4 ?_
            show ir (c - 97) ∧ WP 3 88 69 [vR k1, vI st, vI c, vR (k1 + 4), none] [vI (c - 97), vR (k1 + 4)] (M, S) Q
            refine ⟨(by unfold ir; omega), ?_⟩
            refine WP.cl (a := [vR (k1 + 4), vI (c - 97)]) (rest := []) rfl rfl rfl rfl ⟨hS.2.2.2.2.2.2.1.1, trivial⟩ (by decide) (k_addLetter hS.2.2.2.2.2.2.1 hwd (by omega) (by omega) (by omega) (fun b_6 M6 fr6 hb_6 => ⟨rfl, ?_⟩))
            show WP 3 88 72 [vR k1, vI st, vI c, vR (k1 + 4), none] [vI b_6] (M6, S) Q
            have F_7 : StR M6 (k1 + 1) g := StR_fr (fun r9 h8 h9 => fr6 r9 (by omega) (by omega)) hst
            have F_8 : ColR M6 (k1 + 7) g := ColR_fr (fun r9 h8 h9 => fr6 r9 (by omega) (by omega)) hco
            have fr_9 : (∀ q9, (q9 < k1 + 1 ∨ k1 + 8 ≤ q9) → M6 q9 = M q9) := fun q9 q0 => (fr6 q9 (by omega) (by omega)).trans ((fun _ _ => rfl) q9 q0)
            have hz6 : b_6 = 0 ∨ b_6 = 1 := by rcases hb_6 with h | h <;> omega
            refine WP.blk 1 ?_
            show WP 3 88 (if cnd .eq b_6 0 = true then 79 else 75) [vR k1, vI st, vI c, vR (k1 + 4), none] [] (M6, S) Q
            refine br_eq (fun c_10 => ?_) (fun c_10 => ?_)
            · have p_6 := (hb_6.resolve_left (fun h => by omega)).2
              have hl9 : 12 ≤ g (97 + 14 * (g 1 - 1)) := (hb_6.resolve_left (fun h => by omega)).2.1
              refine WP.blk 5 ?_
              show WP 3 88 92 [vR k1, vI st, vI c, vR (k1 + 4), vI 0] [vI 3] (M6, S) Q
              exact WP.ret rfl rfl rfl trivial (k _ _ fr_9 (Or.inl ⟨rfl, nx_n (by omega) (show 97 + 14 * (g 1 - 1) = atS st g from (if_neg (by omega)).symm) (show 12 = moS st from (if_neg (by omega)).symm) (by omega) (by omega), (hb_6.elim (fun h => absurd h.1 (by omega)) (fun h => by rw [h.2.2]; exact (show DrF M k1 g from ⟨hst, hwd, hco⟩)))⟩))
            · have p_6 := (hb_6.resolve_right (fun h => by omega)).2
              have hq96 := hb_6.resolve_right (fun h => by omega)
              have hq6 := hq96.2.2
              have hl9 : g (97 + 14 * (g 1 - 1)) < 12 := hq96.2.1
              refine WP.blk 7 ?_
              show WP 3 88 92 [vR k1, vI st, vI c, vR (k1 + 4), vI 1] [vI st] (M6, S) Q
              exact WP.ret rfl rfl rfl trivial (k _ _ fr_9 (Or.inr ⟨by omega, _, nx_l (v := c - 97) (by omega) (show 97 + 14 * (g 1 - 1) = atS st g from (if_neg (by omega)).symm) (show 97 + 14 * (g 1 - 1) + 2 = fiS st g from (if_neg (by omega)).symm) (show 12 = moS st from (if_neg (by omega)).symm) (by omega) (by omega) rfl, str_c (adL_k (by omega) (by omega)) hl5 (fun s9 k9 a b q r => adL_k (by omega) (by omega)) F_7, drf_L2 (by omega) hq6 (by omega) (by omega), fun w9 a b => by rw [adL_k (by omega) (by omega)] at b; rw [adL_k (by omega) (by omega)]; exact F_8 w9 a b⟩))
      · refine WP.blk 5 ?_
        show sT S (k1 + 4) = 7 ∧ ir ((M (k1 + 4) 4) - 1) ∧ WP 3 88 40 [vR k1, vI st, vI c, vR (k1 + 4), none] [vI ((M (k1 + 4) 4) - 1), vR (k1 + 4)] (M, S) Q
        rw [hwd.1.2.2]
        refine ⟨hS.2.2.2.2.2.2.1.1, (by unfold ir; omega), ?_⟩
        refine WP.cl (a := [vR (k1 + 4), vI (((g 1)) - 1)]) (rest := []) rfl rfl rfl rfl ⟨hS.2.2.2.2.2.2.1.1, trivial⟩ (by decide) (k_len hS.2.2.2.2.2.2.1 hwd (by omega) (by omega) ⟨rfl, ?_⟩)
        show WP 3 88 43 [vR k1, vI st, vI c, vR (k1 + 4), none] [vI (g (97 + 14 * (((g 1)) - 1)))] (M, S) Q
        refine WP.blk 1 ?_
        show WP 3 88 (if cnd .le (g (97 + 14 * (((g 1)) - 1))) 0 = true then 50 else 46) [vR k1, vI st, vI c, vR (k1 + 4), none] [] (M, S) Q
        refine br_le (fun c_11 => ?_) (fun c_11 => ?_)
        · refine WP.blk 1 ?_
          show WP 3 88 51 [vR k1, vI st, vI c, vR (k1 + 4), none] [vI 3] (M, S) Q
          exact WP.ret rfl rfl rfl trivial (k _ _ (fun _ _ => rfl) (Or.inl ⟨rfl, nx_n (by omega) (show 97 + 14 * (g 1 - 1) = atS st g from (if_neg (by omega)).symm) (show 12 = moS st from (if_neg (by omega)).symm) (by omega) (by omega), (show DrF M k1 g from ⟨hst, hwd, hco⟩)⟩))
        · refine WP.blk 2 ?_
          show WP 3 88 51 [vR k1, vI st, vI c, vR (k1 + 4), none] [vI 0] (M, S) Q
          exact WP.ret rfl rfl rfl trivial (k _ _ (fun _ _ => rfl) (Or.inr ⟨by omega, _, nx_e (by omega) (show 97 + 14 * (g 1 - 1) = atS st g from (if_neg (by omega)).symm) (by omega) (by omega), hst, hwd, hco⟩))
    · have hp9 := hpw.2.1 (g 0 - 1) (by omega) (by omega)
      have hp8 := hp9.1
      have hp7 := hp9.2.1
      refine WP.blk 2 ?_
      show (sT S k1 = 8 ∧ sR S k1 0 ≠ 0) ∧ WP 3 88 19 [vR k1, vI st, vI c, none, none] [vR (sR S k1 0)] (M, S) Q
      refine ⟨⟨hS.1, by rw [(show sR S k1 0 = k1 + 1 from hS.2.1)]; omega⟩, ?_⟩
      rw [(show sR S k1 0 = k1 + 1 from hS.2.1)]
      refine WP.blk 5 ?_
      show WP 3 88 (if cnd .ne c 59 = true then 52 else 33) [vR k1, vI st, vI c, vR (k1 + 1), none] [] (M, S) Q
      refine br_ne (fun c_12 => ?_) (fun c_12 => ?_)
      · refine WP.blk 3 ?_
        show WP 3 88 (if cnd .lt c 97 = true then 79 else 58) [vR k1, vI st, vI c, vR (k1 + 1), none] [] (M, S) Q
        refine br_lt (fun c_13 => ?_) (fun c_13 => ?_)
        · refine WP.blk 5 ?_
          show WP 3 88 92 [vR k1, vI st, vI c, vR (k1 + 1), vI 0] [vI 3] (M, S) Q
          exact WP.ret rfl rfl rfl trivial (k _ _ (fun _ _ => rfl) (Or.inl ⟨rfl, nx_n (by omega) (show 7 + 9 * (g 0 - 1) = atS st g from (if_pos (by omega)).symm) (show 5 = moS st from (if_pos (by omega)).symm) (by omega) (by omega), (show DrF M k1 g from ⟨hst, hwd, hco⟩)⟩))
        · refine WP.blk 3 ?_
          show WP 3 88 (if cnd .gt c 122 = true then 79 else 64) [vR k1, vI st, vI c, vR (k1 + 1), none] [] (M, S) Q
          refine br_gt (fun c_14 => ?_) (fun c_14 => ?_)
          · refine WP.blk 5 ?_
            show WP 3 88 92 [vR k1, vI st, vI c, vR (k1 + 1), vI 0] [vI 3] (M, S) Q
            exact WP.ret rfl rfl rfl trivial (k _ _ (fun _ _ => rfl) (Or.inl ⟨rfl, nx_n (by omega) (show 7 + 9 * (g 0 - 1) = atS st g from (if_pos (by omega)).symm) (show 5 = moS st from (if_pos (by omega)).symm) (by omega) (by omega), (show DrF M k1 g from ⟨hst, hwd, hco⟩)⟩))
          · refine WP.blk 4 ?_
            show ir (c - 97) ∧ WP 3 88 69 [vR k1, vI st, vI c, vR (k1 + 1), none] [vI (c - 97), vR (k1 + 1)] (M, S) Q
            refine ⟨(by unfold ir; omega), ?_⟩
            refine WP.cl (a := [vR (k1 + 1), vI (c - 97)]) (rest := []) rfl rfl rfl rfl ⟨hS.2.2.2.2.2.1.1, trivial⟩ (by decide) (k_addLetter hS.2.2.2.2.2.1 hst (by omega) (by omega) (by omega) (fun b_15 M15 fr15 hb_15 => ⟨rfl, ?_⟩))
            show WP 3 88 72 [vR k1, vI st, vI c, vR (k1 + 1), none] [vI b_15] (M15, S) Q
            have F_16 : WdR M15 (k1 + 4) g := WdR_fr (fun r9 h8 h9 => fr15 r9 (by omega) (by omega)) hwd
            have F_17 : ColR M15 (k1 + 7) g := ColR_fr (fun r9 h8 h9 => fr15 r9 (by omega) (by omega)) hco
            have fr_18 : (∀ q9, (q9 < k1 + 1 ∨ k1 + 8 ≤ q9) → M15 q9 = M q9) := fun q9 q0 => (fr15 q9 (by omega) (by omega)).trans ((fun _ _ => rfl) q9 q0)
            have hz15 : b_15 = 0 ∨ b_15 = 1 := by rcases hb_15 with h | h <;> omega
            refine WP.blk 1 ?_
            show WP 3 88 (if cnd .eq b_15 0 = true then 79 else 75) [vR k1, vI st, vI c, vR (k1 + 1), none] [] (M15, S) Q
            refine br_eq (fun c_19 => ?_) (fun c_19 => ?_)
            · have p_15 := (hb_15.resolve_left (fun h => by omega)).2
              have hl9 : 5 ≤ g (7 + 9 * (g 0 - 1)) := (hb_15.resolve_left (fun h => by omega)).2.1
              refine WP.blk 5 ?_
              show WP 3 88 92 [vR k1, vI st, vI c, vR (k1 + 1), vI 0] [vI 3] (M15, S) Q
              exact WP.ret rfl rfl rfl trivial (k _ _ fr_18 (Or.inl ⟨rfl, nx_n (by omega) (show 7 + 9 * (g 0 - 1) = atS st g from (if_pos (by omega)).symm) (show 5 = moS st from (if_pos (by omega)).symm) (by omega) (by omega), (hb_15.elim (fun h => absurd h.1 (by omega)) (fun h => by rw [h.2.2]; exact (show DrF M k1 g from ⟨hst, hwd, hco⟩)))⟩))
            · have p_15 := (hb_15.resolve_right (fun h => by omega)).2
              have hq915 := hb_15.resolve_right (fun h => by omega)
              have hq15 := hq915.2.2
              have hl9 : g (7 + 9 * (g 0 - 1)) < 5 := hq915.2.1
              refine WP.blk 7 ?_
              show WP 3 88 92 [vR k1, vI st, vI c, vR (k1 + 1), vI 1] [vI st] (M15, S) Q
              exact WP.ret rfl rfl rfl trivial (k _ _ fr_18 (Or.inr ⟨by omega, _, nx_l (v := c - 97) (by omega) (show 7 + 9 * (g 0 - 1) = atS st g from (if_pos (by omega)).symm) (show 7 + 9 * (g 0 - 1) + 1 = fiS st g from (if_pos (by omega)).symm) (show 5 = moS st from (if_pos (by omega)).symm) (by omega) (by omega) rfl, drf_L1 (by omega) hq15 (by omega) (by omega), wdr_c (adL_k (by omega) (by omega)) (fun k9 h9 => adL_k (by omega) (by omega)) F_16, col_c (adL_k (by omega) (by omega)) (fun k9 h9 => adL_k (by omega) (by omega)) F_17⟩))
      · refine WP.blk 5 ?_
        show sT S (k1 + 1) = 7 ∧ ir ((M (k1 + 1) 4) - 1) ∧ WP 3 88 40 [vR k1, vI st, vI c, vR (k1 + 1), none] [vI ((M (k1 + 1) 4) - 1), vR (k1 + 1)] (M, S) Q
        rw [hst.1.2.2]
        refine ⟨hS.2.2.2.2.2.1.1, (by unfold ir; omega), ?_⟩
        refine WP.cl (a := [vR (k1 + 1), vI (((g 0)) - 1)]) (rest := []) rfl rfl rfl rfl ⟨hS.2.2.2.2.2.1.1, trivial⟩ (by decide) (k_len hS.2.2.2.2.2.1 hst (by omega) (by omega) ⟨rfl, ?_⟩)
        show WP 3 88 43 [vR k1, vI st, vI c, vR (k1 + 1), none] [vI (g (7 + 9 * (((g 0)) - 1)))] (M, S) Q
        refine WP.blk 1 ?_
        show WP 3 88 (if cnd .le (g (7 + 9 * (((g 0)) - 1))) 0 = true then 50 else 46) [vR k1, vI st, vI c, vR (k1 + 1), none] [] (M, S) Q
        refine br_le (fun c_20 => ?_) (fun c_20 => ?_)
        · refine WP.blk 1 ?_
          show WP 3 88 51 [vR k1, vI st, vI c, vR (k1 + 1), none] [vI 3] (M, S) Q
          exact WP.ret rfl rfl rfl trivial (k _ _ (fun _ _ => rfl) (Or.inl ⟨rfl, nx_n (by omega) (show 7 + 9 * (g 0 - 1) = atS st g from (if_pos (by omega)).symm) (show 5 = moS st from (if_pos (by omega)).symm) (by omega) (by omega), (show DrF M k1 g from ⟨hst, hwd, hco⟩)⟩))
        · refine WP.blk 2 ?_
          show WP 3 88 51 [vR k1, vI st, vI c, vR (k1 + 1), none] [vI 0] (M, S) Q
          exact WP.ret rfl rfl rfl trivial (k _ _ (fun _ _ => rfl) (Or.inr ⟨by omega, _, nx_e (by omega) (show 7 + 9 * (g 0 - 1) = atS st g from (if_pos (by omega)).symm) (by omega) (by omega), hst, hwd, hco⟩))
  · refine WP.blk 2 ?_
    show WP 3 88 6 [vR k1, vI st, vI c, none, none] [vI c, vR k1] (M, S) Q
    refine WP.cl (a := [vR k1, vI c]) (rest := []) rfl rfl rfl rfl trivial (by decide) (k_openItem hS hst hwd hco (by omega) (by omega) hcr (fun vy_21 My_21 fry_21 hvy_21 => ⟨rfl, ?_⟩))
    show WP 3 88 9 [vR k1, vI st, vI c, none, none] [vI vy_21] (My_21, S) Q
    have fr_22 : (∀ q9, (q9 < k1 + 1 ∨ k1 + 8 ≤ q9) → My_21 q9 = M q9) := fun q9 q0 => (fry_21 q9 (by omega)).trans ((fun _ _ => rfl) q9 q0)
    exact WP.ret rfl rfl rfl trivial (by have e9 : st = 0 := (by omega); subst e9; exact k _ _ fr_22 hvy_21)
/-- what readText tells -/
def RdT (M : Nat → Int → Int) (x : Nat) (f t : Int → Int) (len v : Int) : Prop := (Err t len (st0 f) v ∧ ∃ g, DrF M (x + 14) g) ∨ (v = -1 ∧ ∃ g, ps t (st0 f) len = some (0, g) ∧ DrF M (x + 14) g)
set_option maxHeartbeats 4000000 in
theorem t_readText {S : SD} {M : Nat → Int → Int} {x : Nat} {f ox tx : Int → Int} (hS : isRub S x) (hox : M x = ox) (htx : M (x + 1) = tx) (hl : 0 ≤ ox 1 ∧ ox 1 ≤ 150) (hbt : ∀ k, 0 ≤ k → k < ox 1 → -1000 ≤ tx k ∧ tx k ≤ 1000) (hcs : CstR M (x + 14)) {Q : Res → Wd → Prop} (k : ∀ (v : Int) (M2 : Nat → Int → Int), (∀ q9, (q9 < x + 15 ∨ x + 22 ≤ q9) → M2 q9 = M q9) → RdT M2 x f tx (ox 1) v → Q (0, vI v) (M2, S)) : EvQ 5 87 [vR x] (M, S) Q := by
  refine EvQ.enter (ls := [vR x, none, none]) (Nat.le_of_ble_eq_true rfl) rfl ?_
  have hN9 := hS.1.2.2.2.2.2.2.2.2.2.2.2
  refine WP.blk 2 ?_
  show (sT S x = 9 ∧ sR S x 3 ≠ 0) ∧ WP 4 87 4 [vR x, none, none] [vR (sR S x 3)] (M, S) Q
  refine ⟨⟨hS.1.1, by rw [(show sR S x 3 = x + 14 from hS.1.2.2.2.1)]; omega⟩, ?_⟩
  rw [(show sR S x 3 = x + 14 from hS.1.2.2.2.1)]
  refine WP.cl (a := [vR (x + 14)]) (rest := []) rfl rfl rfl rfl ⟨hS.2.2.1.1, trivial⟩ (by decide) (k_empty hS.2.2.1 (fun My_1 fry_1 hay_1 hby_1 => ⟨rfl, ?_⟩))
  show WP 4 87 7 [vR x, none, none] [] (My_1, S) Q
  have r_2 : My_1 x = ox := (fry_1 _ (by omega) (by omega)).trans hox
  have r_3 : My_1 (x + 1) = tx := (fry_1 _ (by omega) (by omega)).trans htx
  have fr_4 : (∀ q9, (q9 < x + 15 ∨ x + 22 ≤ q9) → My_1 q9 = M q9) := fun q9 q0 => (fry_1 q9 (by omega) (by omega)).trans ((fun _ _ => rfl) q9 q0)
  have hdy_1 : DrF My_1 (x + 14) (st0 f) := drf_0 (by rw [hay_1, uf_ne (by omega), uf_ne (by omega), uf_eq]; exact ⟨hcs.1, hcs.2.1, rfl⟩) (by rw [hby_1, uf_ne (by omega), uf_ne (by omega), uf_eq]; exact ⟨hcs.2.2.1, hcs.2.2.2, rfl⟩)
  refine WP.blk 4 ?_
  show WP 4 87 11 [vR x, vI 0, vI 0] [] (My_1, S) Q
  have hl_11 : ∀ (n_11 : Nat) (i : Int) (st : Int) (g : Int → Int) (Ma : Nat → Int → Int), 0 ≤ i ∧ i ≤ ox 1 → ps tx (st0 f) i = some (st, g) → DrF Ma (x + 14) g → Ma x = ox → Ma (x + 1) = tx → (∀ q9, (q9 < x + 15 ∨ x + 22 ≤ q9) → Ma q9 = M q9) → (ox 1 - i).toNat < n_11 → WP 4 87 11 [vR x, vI st, vI i] [] (Ma, S) Q := by
    intro n_11
    induction n_11 with
    | zero => intro i st g Ma h1 hps hdr z_11_0 z_11_1 fr_11 hm_11; exact absurd hm_11 (Nat.not_lt_zero _)
    | succ n_11 ih_11 =>
      intro i st g Ma h1 hps hdr z_11_0 z_11_1 fr_11 hm_11
      refine WP.blk 4 ?_
      show sT S x = 9 ∧ WP 4 87 (if cnd .ge i (Ma x 1) = true then 56 else 19) [vR x, vI st, vI i] [] (Ma, S) Q
      rw [z_11_0]
      refine ⟨hS.1.1, ?_⟩
      refine br_ge (fun c_5 => ?_) (fun c_5 => ?_)
      · refine WP.blk 2 ?_
        show WP 4 87 (if cnd .ne st 0 = true then 64 else 60) [vR x, vI st, vI i] [] (Ma, S) Q
        refine br_ne (fun c_6 => ?_) (fun c_6 => ?_)
        · refine WP.blk 2 ?_
          show sT S x = 9 ∧ WP 4 87 68 [vR x, vI st, vI i] [vI (Ma x 1)] (Ma, S) Q
          rw [z_11_0]
          refine ⟨hS.1.1, ?_⟩
          exact WP.ret rfl rfl rfl trivial (k _ _ fr_11 (Or.inl ⟨psv_e (by omega) (by rw [← show i = ox 1 by omega]; exact hps) (by omega), g, hdr⟩))
        · refine WP.blk 2 ?_
          show WP 4 87 68 [vR x, vI st, vI i] [vI (-1)] (Ma, S) Q
          exact WP.ret rfl rfl rfl trivial (k _ _ fr_11 (Or.inr ⟨rfl, g, by rw [← show i = ox 1 by omega, ← show st = 0 by omega]; exact hps, hdr⟩))
      · refine WP.blk 3 ?_
        show (sT S x = 9 ∧ sR S x 0 ≠ 0) ∧ WP 4 87 24 [vR x, vI st, vI i] [vR (sR S x 0), vI i] (Ma, S) Q
        refine ⟨⟨hS.1.1, by rw [(show sR S x 0 = x + 1 from hS.1.2.1)]; omega⟩, ?_⟩
        rw [(show sR S x 0 = x + 1 from hS.1.2.1)]
        refine WP.blk 2 ?_
        show (sT S (x + 1) = 11 ∨ sT S (x + 1) = 16 ∨ sT S (x + 1) = 17) ∧ WP 4 87 (if cnd .ge i (sN S (x + 1) : Int) = true then 56 else 28) [vR x, vI st, vI i] [] (Ma, S) Q
        refine ⟨(Or.inl hS.1.2.2.2.2.2.2.2.2.2.2.1), ?_⟩
        refine br_ge (fun c_7 => ?_) (fun c_7 => ?_)
        · refine WP.blk 2 ?_
          show WP 4 87 (if cnd .ne st 0 = true then 64 else 60) [vR x, vI st, vI i] [] (Ma, S) Q
          refine br_ne (fun c_8 => ?_) (fun c_8 => ?_)
          · refine WP.blk 2 ?_
            show sT S x = 9 ∧ WP 4 87 68 [vR x, vI st, vI i] [vI (Ma x 1)] (Ma, S) Q
            rw [z_11_0]
            refine ⟨hS.1.1, ?_⟩
            exact WP.ret rfl rfl rfl trivial (k _ _ fr_11 (Or.inl ⟨psv_e (by omega) (by rw [← show i = ox 1 by omega]; exact hps) (by omega), g, hdr⟩))
          · refine WP.blk 2 ?_
            show WP 4 87 68 [vR x, vI st, vI i] [vI (-1)] (Ma, S) Q
            exact WP.ret rfl rfl rfl trivial (k _ _ fr_11 (Or.inr ⟨rfl, g, by rw [← show i = ox 1 by omega, ← show st = 0 by omega]; exact hps, hdr⟩))
        · refine WP.blk 2 ?_
          show (sT S x = 9 ∧ sR S x 3 ≠ 0) ∧ WP 4 87 32 [vR x, vI st, vI i] [vR (sR S x 3)] (Ma, S) Q
          refine ⟨⟨hS.1.1, by rw [(show sR S x 3 = x + 14 from hS.1.2.2.2.1)]; omega⟩, ?_⟩
          rw [(show sR S x 3 = x + 14 from hS.1.2.2.2.1)]
          refine WP.blk 3 ?_
          show (sT S x = 9 ∧ sR S x 0 ≠ 0) ∧ WP 4 87 37 [vR x, vI st, vI i] [vR (sR S x 0), vI st, vR (x + 14)] (Ma, S) Q
          refine ⟨⟨hS.1.1, by rw [(show sR S x 0 = x + 1 from hS.1.2.1)]; omega⟩, ?_⟩
          rw [(show sR S x 0 = x + 1 from hS.1.2.1)]
          refine WP.blk 2 ?_
          show ((sT S (x + 1) = 11 ∨ sT S (x + 1) = 16 ∨ sT S (x + 1) = 17) ∧ 0 ≤ i ∧ i < (sN S (x + 1) : Int)) ∧ WP 4 87 39 [vR x, vI st, vI i] [vI (Ma (x + 1) i), vI st, vR (x + 14)] (Ma, S) Q
          rw [z_11_1]
          refine ⟨⟨Or.inl hS.1.2.2.2.2.2.2.2.2.2.2.1, by omega, by rw [(show sN S (x + 1) = 150 from hS.1.2.2.2.2.2.2.2.2.2.2.2)]; omega⟩, ?_⟩
          refine WP.cl (a := [vR (x + 14), vI st, vI (tx i)]) (rest := []) rfl rfl rfl rfl trivial (by decide) (k_nextStage hS.2.2.1 hdr.1 hdr.2.1 hdr.2.2 (pw_i hps) (hbt i (by omega) (by omega)) (fun vy_9 My_9 fry_9 hvy_9 => ⟨rfl, ?_⟩))
          show WP 4 87 42 [vR x, vI st, vI i] [vI vy_9] (My_9, S) Q
          have r_10 : My_9 x = ox := (fry_9 _ (by omega)).trans z_11_0
          have r_11 : My_9 (x + 1) = tx := (fry_9 _ (by omega)).trans z_11_1
          have fr_12 : (∀ q9, (q9 < x + 15 ∨ x + 22 ≤ q9) → My_9 q9 = M q9) := fun q9 q0 => (fry_9 q9 (by omega)).trans (fr_11 q9 q0)
          refine WP.blk 4 ?_
          show WP 4 87 (if cnd .ne vy_9 3 = true then 50 else 48) [vR x, vI vy_9, vI i] [] (My_9, S) Q
          refine br_ne (fun c_13 => ?_) (fun c_13 => ?_)
          · obtain ⟨g9, hps9, hdr9⟩ := nxv_s (by omega) hps hvy_9 c_13
            refine WP.blk 2 ?_
            show ir (i + 1) ∧ WP 4 87 11 [vR x, vI vy_9, vI (i + 1)] [] (My_9, S) Q
            refine ⟨(by unfold ir; omega), ?_⟩
            exact ih_11 (i + 1) vy_9 g9 My_9 (by omega) hps9 hdr9 r_10 r_11 fr_12 (by omega)
          · refine WP.blk 1 ?_
            show WP 4 87 49 [vR x, vI vy_9, vI i] [vI i] (My_9, S) Q
            exact WP.ret rfl rfl rfl trivial (k _ _ fr_12 (Or.inl ⟨nxv_e (by omega) hps hvy_9 (by omega), g, nxv_d hvy_9 (by omega)⟩))
  exact hl_11 _ 0 0 (st0 f) My_1 (by omega) ps_0 hdy_1 r_2 r_3 fr_4 (Nat.lt_succ_self _)
theorem rdt_r {M : Nat → Int → Int} {x : Nat} {f t : Int → Int} {len v : Int} (h : RdT M x f t len v) : v = -1 ∨ (0 ≤ v ∧ v ≤ len) := by
  rcases h with h | h
  · exact Or.inr h.1.1
  · exact Or.inl h.1
theorem rdt_t {M : Nat → Int → Int} {x : Nat} {f t : Int → Int} {len v : Int} (h : RdT M x f t len v) (hv : v = -1) : ∃ g, ps t (st0 f) len = some (0, g) ∧ DrF M (x + 14) g := by
  rcases h with h | h
  · have := h.1.1; omega
  · exact h.2
theorem rdt_e {M : Nat → Int → Int} {x : Nat} {f t : Int → Int} {len v : Int} (h : RdT M x f t len v) (hv : ¬ v = -1) : Err t len (st0 f) v := by
  rcases h with h | h
  · exact h.1
  · exact absurd h.1 hv
theorem rdt_c {M : Nat → Int → Int} {x : Nat} {f t : Int → Int} {len v : Int} (h : RdT M x f t len v) : CstR M (x + 14) := by
  rcases h with ⟨-, g, h⟩ | ⟨-, g, -, h⟩ <;> exact drf_cst h
set_option maxHeartbeats 4000000 in
theorem t_parse {S : SD} {M : Nat → Int → Int} {x : Nat} {f : Int → Int} {B : Int} {p ox tx : Int → Int} {sv : Int} (hS : isRub S x) (has : AskR M x f) (hx3 : 3 ≤ x) (hR : RowOk B f) (hhi : HisF M S (x + 26) p sv) (hox : M x = ox) (htx : M (x + 1) = tx) (hl : 0 ≤ ox 1 ∧ ox 1 ≤ 150) (hbt : ∀ k, 0 ≤ k → k < ox 1 → -1000 ≤ tx k ∧ tx k ≤ 1000) (hcs : CstR M (x + 14)) (hiz : InkZ M (x + 22)) (hB : 0 ≤ B ∧ B ≤ 1000000000 - 400) {Q : Res → Wd → Prop} (k : ∀ (g : Int → Int) (M2 : Nat → Int → Int) (R2 : Nat → Int → Nat), (∀ q9, (q9 < x + 2 ∨ x + 14 ≤ q9) → (q9 < x + 15 ∨ x + 22 ≤ q9) → (q9 < x + 26 ∨ x + 86 ≤ q9) → M2 q9 = M q9) → (∀ r i, r ≠ x + 27 → R2 r i = sR S r i) → isRub (R2, S.2) x → AskR M2 x g → HisN M2 (R2, S.2) (x + 26) p sv f → ps tx (st0 f) (ox 1) = some (0, g) → CstR M2 (x + 14) → Q (0, vI (g 0 + g 1)) (M2, (R2, S.2))) (k1 : ∀ (e : Int) (M2 : Nat → Int → Int), (∀ q9, (q9 < x + 2 ∨ x + 14 ≤ q9) → (q9 < x + 15 ∨ x + 22 ≤ q9) → (q9 < x + 26 ∨ x + 86 ≤ q9) → M2 q9 = M q9) → Err tx (ox 1) (st0 f) e → AskR M2 x f → HisF M2 S (x + 26) p sv → CstR M2 (x + 14) → Q (0, vI (-10 - e)) (M2, S)) : EvQ 7 65 [vR x] (M, S) Q := by
  refine EvQ.enter (ls := [vR x, none]) (Nat.le_of_ble_eq_true rfl) rfl ?_
  have hA := hR.1
  have hA1 := hA.1
  have hWA := hR.2.1
  have hW1 := hWA.1
  refine WP.blk 1 ?_
  show WP 6 65 1 [vR x, none] [vR x] (M, S) Q
  refine WP.cl (a := [vR x]) (rest := []) rfl rfl rfl rfl ⟨hS.1.1, trivial⟩ (by decide) (t_readText (f := f) hS hox htx hl hbt hcs (fun vy_1 My_1 fry_1 hvy_1 => ⟨rfl, ?_⟩))
  show WP 6 65 4 [vR x, none] [vI vy_1] (My_1, S) Q
  have F_2 : AskR My_1 x f := AskR_fr (fun r9 h7 h8 h9 => fry_1 r9 (by omega)) has
  have F_3 : HisF My_1 S (x + 26) p sv := (HisF_fr hS.2.2.2.1) (fun r9 h8 h9 => fry_1 r9 (by omega)) hhi
  have fr_4 : (∀ q9, (q9 < x + 2 ∨ x + 14 ≤ q9) → (q9 < x + 15 ∨ x + 22 ≤ q9) → (q9 < x + 26 ∨ x + 86 ≤ q9) → My_1 q9 = M q9) := fun q9 q0 q1 q2 => (fry_1 q9 (by omega)).trans ((fun _ _ _ _ => rfl) q9 q0 q1 q2)
  have hry_1 := rdt_r hvy_1
  refine WP.blk 4 ?_
  show WP 6 65 (if cnd .eq vy_1 (-1) = true then 15 else 10) [vR x, vI vy_1] [] (My_1, S) Q
  refine br_eq (fun c_5 => ?_) (fun c_5 => ?_)
  · obtain ⟨g9, hps9, hdr9⟩ := rdt_t hvy_1 (by omega)
    have hpw := pw_i hps9
    have hRg := pw_row hB.1 hpw hR
    have hg0 := hpw.1.1
    have hg1 := hpw.1.2.1
    have hg2 := hpw.2.2.2.1.1
    have hg3 := hpw.2.2.2.1.2.1
    have hiz9 : InkR My_1 (x + 14 + 8) g9 := inkZ_r (InkZ_fr (fun r9 h8 h9 => fry_1 r9 (by omega)) hiz) hpw
    refine WP.blk 2 ?_
    show (sT S x = 9 ∧ sR S x 4 ≠ 0) ∧ WP 6 65 19 [vR x, vI vy_1] [vR (sR S x 4)] (My_1, S) Q
    refine ⟨⟨hS.1.1, by rw [(show sR S x 4 = x + 26 from hS.1.2.2.2.2.1)]; omega⟩, ?_⟩
    rw [(show sR S x 4 = x + 26 from hS.1.2.2.2.2.1)]
    refine WP.blk 2 ?_
    show (sT S x = 9 ∧ sR S x 2 ≠ 0) ∧ WP 6 65 23 [vR x, vI vy_1] [vR (sR S x 2), vR (x + 26)] (My_1, S) Q
    refine ⟨⟨hS.1.1, by rw [(show sR S x 2 = x + 2 from hS.1.2.2.1)]; omega⟩, ?_⟩
    rw [(show sR S x 2 = x + 2 from hS.1.2.2.1)]
    refine WP.cl (a := [vR (x + 26), vR (x + 2)]) (rest := []) rfl rfl rfl rfl ⟨hS.2.2.2.1.1.1, trivial⟩ (by decide) (k_push hS.2.2.2.1 hS.2.1 (by omega) F_3 F_2.1 (by omega) (by omega) (fun My_6 Ry_6 fry_6 hry_6 hHy_6 hNy_6 => ⟨rfl, ?_⟩))
    show WP 6 65 26 [vR x, vI vy_1] [] (My_6, (Ry_6, S.2)) Q
    have hSy_6 := rub_s hry_6 hHy_6 hS
    have F_7 : AskR My_6 x f := AskR_fr (fun r9 h7 h8 h9 => fry_6 r9 (by omega)) F_2
    have F_8 : DrF My_6 (x + 14) g9 := DrF_fr (fun r9 h8 h9 => fry_6 r9 (by omega)) hdr9
    have F_9 : InkR My_6 (x + 14 + 8) g9 := InkR_fr (fun r9 h8 h9 => fry_6 r9 (by omega)) hiz9
    have fr_10 : (∀ q9, (q9 < x + 2 ∨ x + 14 ≤ q9) → (q9 < x + 15 ∨ x + 22 ≤ q9) → (q9 < x + 26 ∨ x + 86 ≤ q9) → My_6 q9 = M q9) := fun q9 q0 q1 q2 => (fry_6 q9 (by omega)).trans (fr_4 q9 q0 q1 q2)
    refine WP.blk 2 ?_
    show (sT (Ry_6, S.2) x = 9 ∧ sR (Ry_6, S.2) x 2 ≠ 0) ∧ WP 6 65 30 [vR x, vI vy_1] [vR (sR (Ry_6, S.2) x 2)] (My_6, (Ry_6, S.2)) Q
    refine ⟨⟨hSy_6.1.1, by rw [(show sR (Ry_6, S.2) x 2 = x + 2 from hSy_6.1.2.2.1)]; omega⟩, ?_⟩
    rw [(show sR (Ry_6, S.2) x 2 = x + 2 from hSy_6.1.2.2.1)]
    refine WP.blk 2 ?_
    show (sT (Ry_6, S.2) x = 9 ∧ sR (Ry_6, S.2) x 3 ≠ 0) ∧ WP 6 65 34 [vR x, vI vy_1] [vR (sR (Ry_6, S.2) x 3), vR (x + 2)] (My_6, (Ry_6, S.2)) Q
    refine ⟨⟨hSy_6.1.1, by rw [(show sR (Ry_6, S.2) x 3 = x + 14 from hSy_6.1.2.2.2.1)]; omega⟩, ?_⟩
    rw [(show sR (Ry_6, S.2) x 3 = x + 14 from hSy_6.1.2.2.2.1)]
    refine WP.cl (a := [vR (x + 2), vR (x + 14)]) (rest := []) rfl rfl rfl rfl ⟨hSy_6.2.1.1, trivial⟩ (by decide) (k_takeItems hSy_6.2.1 hSy_6.2.2.1 (by omega) (sht_cst F_7.1).1 (sht_cst F_7.1).2.1 (sht_cst F_7.1).2.2.1 (sht_cst F_7.1).2.2.2 F_8.1 F_8.2.1 F_8.2.2 F_9 (by omega) (by omega) (fun My_11 fry_11 hay_11 hby_11 hcy_11 hdy_11 => ⟨rfl, ?_⟩))
    show WP 6 65 37 [vR x, vI vy_1] [] (My_11, (Ry_6, S.2)) Q
    have hty_11 : TurR My_11 := TurR_fr (fun r9 h8 h9 => fry_11 r9 (by omega)) F_7.2.2
    have hky_11 : Sht My_11 (x + 2) g9 := ⟨⟨hay_11, hby_11, hcy_11, lim_c hg2 hg3 (LimR_fr (fun r9 h8 h9 => fry_11 r9 (by omega)) F_7.1.1.2.2.2)⟩, hdy_11⟩
    have F_12 : DrF My_11 (x + 14) g9 := DrF_fr (fun r9 h8 h9 => fry_11 r9 (by omega)) F_8
    have F_13 : InkR My_11 (x + 14 + 8) g9 := InkR_fr (fun r9 h8 h9 => fry_11 r9 (by omega)) F_9
    have F_14 : HisN My_11 (Ry_6, S.2) (x + 26) p sv f := (HisN_fr hHy_6) (fun r9 h8 h9 => fry_11 r9 (by omega)) hNy_6
    have fr_15 : (∀ q9, (q9 < x + 2 ∨ x + 14 ≤ q9) → (q9 < x + 15 ∨ x + 22 ≤ q9) → (q9 < x + 26 ∨ x + 86 ≤ q9) → My_11 q9 = M q9) := fun q9 q0 q1 q2 => (fry_11 q9 (by omega)).trans (fr_10 q9 q0 q1 q2)
    refine WP.blk 2 ?_
    show (sT (Ry_6, S.2) x = 9 ∧ sR (Ry_6, S.2) x 5 ≠ 0) ∧ WP 6 65 41 [vR x, vI vy_1] [vR (sR (Ry_6, S.2) x 5)] (My_11, (Ry_6, S.2)) Q
    refine ⟨⟨hSy_6.1.1, by rw [(show sR (Ry_6, S.2) x 5 = x + 76 from hSy_6.1.2.2.2.2.2.1)]; omega⟩, ?_⟩
    rw [(show sR (Ry_6, S.2) x 5 = x + 76 from hSy_6.1.2.2.2.2.2.1)]
    refine WP.blk 2 ?_
    show (sT (Ry_6, S.2) x = 9 ∧ sR (Ry_6, S.2) x 2 ≠ 0) ∧ WP 6 65 45 [vR x, vI vy_1] [vR (sR (Ry_6, S.2) x 2), vR (x + 76)] (My_11, (Ry_6, S.2)) Q
    refine ⟨⟨hSy_6.1.1, by rw [(show sR (Ry_6, S.2) x 2 = x + 2 from hSy_6.1.2.2.1)]; omega⟩, ?_⟩
    rw [(show sR (Ry_6, S.2) x 2 = x + 2 from hSy_6.1.2.2.1)]
    refine WP.cl (a := [vR (x + 76), vR (x + 2)]) (rest := []) rfl rfl rfl rfl ⟨hSy_6.2.2.2.2.1.1, trivial⟩ (by decide) (k_rebuild hSy_6.2.1 hSy_6.2.2.2.2.1 hSy_6.2.2.2.2.2.2.2.2.2 (by omega) (by omega) (by omega) hty_11 hky_11.1.1 hky_11.1.2.1 hRg.1 hRg.2.1.1.2 (fun w a b => (hRg.2.1.2 w a b).1.2.2.2.1) (fun My_16 fry_16 hky_16 => ⟨rfl, ?_⟩))
    show WP 6 65 48 [vR x, vI vy_1] [] (My_16, (Ry_6, S.2)) Q
    have F_17 : DrF My_16 (x + 14) g9 := DrF_fr (fun r9 h8 h9 => fry_16 r9 (by omega)) F_12
    have F_18 : InkR My_16 (x + 14 + 8) g9 := InkR_fr (fun r9 h8 h9 => fry_16 r9 (by omega)) F_13
    have F_19 : HisN My_16 (Ry_6, S.2) (x + 26) p sv f := (HisN_fr hHy_6) (fun r9 h8 h9 => fry_16 r9 (by omega)) F_14
    have F_20 : Sht My_16 (x + 2) (g9) := Sht_fr (fun r9 h8 h9 => fry_16 r9 (by omega)) hky_11
    have F_21 : TurR My_16 := TurR_fr (fun r9 h8 h9 => fry_16 r9 (by omega)) hty_11
    have fr_22 : (∀ q9, (q9 < x + 2 ∨ x + 14 ≤ q9) → (q9 < x + 15 ∨ x + 22 ≤ q9) → (q9 < x + 26 ∨ x + 86 ≤ q9) → My_16 q9 = M q9) := fun q9 q0 q1 q2 => (fry_16 q9 (by omega)).trans (fr_15 q9 q0 q1 q2)
    refine WP.blk 2 ?_
    show (sT (Ry_6, S.2) x = 9 ∧ sR (Ry_6, S.2) x 2 ≠ 0) ∧ WP 6 65 52 [vR x, vI vy_1] [vR (sR (Ry_6, S.2) x 2)] (My_16, (Ry_6, S.2)) Q
    refine ⟨⟨hSy_6.1.1, by rw [(show sR (Ry_6, S.2) x 2 = x + 2 from hSy_6.1.2.2.1)]; omega⟩, ?_⟩
    rw [(show sR (Ry_6, S.2) x 2 = x + 2 from hSy_6.1.2.2.1)]
    refine WP.blk 1 ?_
    show (sT (Ry_6, S.2) (x + 2) = 8 ∧ sR (Ry_6, S.2) (x + 2) 0 ≠ 0) ∧ WP 6 65 55 [vR x, vI vy_1] [vR (sR (Ry_6, S.2) (x + 2) 0)] (My_16, (Ry_6, S.2)) Q
    refine ⟨⟨hSy_6.2.1.1, by rw [(show sR (Ry_6, S.2) (x + 2) 0 = x + 3 from hSy_6.2.1.2.1)]; omega⟩, ?_⟩
    rw [(show sR (Ry_6, S.2) (x + 2) 0 = x + 3 from hSy_6.2.1.2.1)]
    refine WP.blk 3 ?_
    show sT (Ry_6, S.2) (x + 3) = 7 ∧ (sT (Ry_6, S.2) x = 9 ∧ sR (Ry_6, S.2) x 2 ≠ 0) ∧ WP 6 65 62 [vR x, vI vy_1] [vR (sR (Ry_6, S.2) x 2), vI (My_16 (x + 3) 4)] (My_16, (Ry_6, S.2)) Q
    rw [F_20.1.1.1.2.2]
    refine ⟨hSy_6.2.1.2.2.2.2.2.1.1, ⟨hSy_6.1.1, by rw [(show sR (Ry_6, S.2) x 2 = x + 2 from hSy_6.1.2.2.1)]; omega⟩, ?_⟩
    rw [(show sR (Ry_6, S.2) x 2 = x + 2 from hSy_6.1.2.2.1)]
    refine WP.blk 1 ?_
    show (sT (Ry_6, S.2) (x + 2) = 8 ∧ sR (Ry_6, S.2) (x + 2) 1 ≠ 0) ∧ WP 6 65 65 [vR x, vI vy_1] [vR (sR (Ry_6, S.2) (x + 2) 1), vI (g9 0)] (My_16, (Ry_6, S.2)) Q
    refine ⟨⟨hSy_6.2.1.1, by rw [(show sR (Ry_6, S.2) (x + 2) 1 = x + 6 from hSy_6.2.1.2.2.1)]; omega⟩, ?_⟩
    rw [(show sR (Ry_6, S.2) (x + 2) 1 = x + 6 from hSy_6.2.1.2.2.1)]
    refine WP.blk 2 ?_
    show sT (Ry_6, S.2) (x + 6) = 7 ∧ ir ((g9 0) + (My_16 (x + 6) 4)) ∧ WP 6 65 69 [vR x, vI vy_1] [vI ((g9 0) + (My_16 (x + 6) 4))] (My_16, (Ry_6, S.2)) Q
    rw [F_20.1.2.1.1.2.2]
    refine ⟨hSy_6.2.1.2.2.2.2.2.2.1.1, (by unfold ir; omega), ?_⟩
    exact WP.ret rfl rfl rfl trivial (k _ _ _ fr_22 hry_6 hSy_6 ⟨F_20, hky_16, F_21⟩ F_19 hps9 (drf_cst F_17))
  · refine WP.blk 3 ?_
    show ir ((-10) - vy_1) ∧ WP 6 65 14 [vR x, vI vy_1] [vI ((-10) - vy_1)] (My_1, S) Q
    refine ⟨(by unfold ir; omega), ?_⟩
    exact WP.ret rfl rfl rfl trivial (k1 _ _ fr_4 (rdt_e hvy_1 (by omega)) F_2 F_3 (rdt_c hvy_1))
