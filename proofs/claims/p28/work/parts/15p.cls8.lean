set_option maxHeartbeats 4000000 in
theorem t_setColor {S : SD} {M : Nat → Int → Int} {x : Nat} {f : Int → Int} {B : Int} {p : Int → Int} {sv : Int} {w c : Int} (hS : isRub S x) (has : AskR M x f) (hx3 : 3 ≤ x) (hR : RowOk B f) (hhi : HisF M S (x + 26) p sv) {Q : Res → Wd → Prop} (k : ∀ (v : Int) (M2 : Nat → Int → Int) (R2 : Nat → Int → Nat), (∀ q9, (q9 < x + 2 ∨ x + 14 ≤ q9) → (q9 < x + 26 ∨ x + 86 ≤ q9) → M2 q9 = M q9) → (∀ r i, r ≠ x + 27 → R2 r i = sR S r i) → isRub (R2, S.2) x → AskR M2 x (uf f (97 + 14 * w + 1) c) → HisN M2 (R2, S.2) (x + 26) p sv f → ((0 ≤ w ∧ w < f 1) ∧ 0 ≤ c ∧ c ≤ 3) → v = f (97 + 14 * w + 1) → Q (0, vI v) (M2, (R2, S.2))) (k3 : ¬ (0 ≤ w ∧ w < f 1) → Q (3, none) (tk (M, S))) (k1 : ((0 ≤ w ∧ w < f 1) ∧ ¬ (0 ≤ c ∧ c ≤ 3)) → Q (1, none) (tk (M, S))) : EvQ 5 69 [vR x, vI w, vI c] (M, S) Q := by
  refine EvQ.enter (ls := [vR x, vI w, vI c, none]) (Nat.le_of_ble_eq_true rfl) rfl ?_
  have hA := hR.1
  have hA1 := hA.1
  have hWA := hR.2.1
  have hW1 := hWA.1
  have hI := hR.2.2
  have hI2 := hI.2.1
  have hI3 := hI.2.2.1
  obtain ⟨xf, hxf⟩ := fresh_ex hA1
  refine WP.blk 2 ?_
  show (sT S x = 9 ∧ sR S x 2 ≠ 0) ∧ WP 4 69 4 [vR x, vI w, vI c, none] [vR (sR S x 2)] (M, S) Q
  refine ⟨⟨hS.1.1, by rw [(show sR S x 2 = x + 2 from hS.1.2.2.1)]; omega⟩, ?_⟩
  rw [(show sR S x 2 = x + 2 from hS.1.2.2.1)]
  refine WP.blk 1 ?_
  show (sT S (x + 2) = 8 ∧ sR S (x + 2) 1 ≠ 0) ∧ WP 4 69 7 [vR x, vI w, vI c, none] [vR (sR S (x + 2) 1)] (M, S) Q
  refine ⟨⟨hS.2.1.1, by rw [(show sR S (x + 2) 1 = x + 6 from hS.2.1.2.2.1)]; omega⟩, ?_⟩
  rw [(show sR S (x + 2) 1 = x + 6 from hS.2.1.2.2.1)]
  refine WP.blk 1 ?_
  show WP 4 69 8 [vR x, vI w, vI c, none] [vI w, vR (x + 6)] (M, S) Q
  refine WP.cl (a := [vR (x + 6), vI w]) (rest := []) rfl rfl rfl rfl ⟨hS.2.1.2.2.2.2.2.2.1.1, trivial⟩ (by decide) (k_has hS.2.1.2.2.2.2.2.2.1 has.1.1.2.1 (by omega) (fun b_1 hb_1 => ⟨rfl, ?_⟩))
  show WP 4 69 11 [vR x, vI w, vI c, none] [vI b_1] (M, S) Q
  refine WP.blk 1 ?_
  show WP 4 69 (if cnd .ne b_1 0 = true then 24 else 14) [vR x, vI w, vI c, none] [] (M, S) Q
  refine br_ne (fun c_2 => ?_) (fun c_2 => ?_)
  · have p_1 := (hb_1.resolve_right (fun h => by omega)).2
    refine WP.blk 2 ?_
    show WP 4 69 (if cnd .lt c 0 = true then 33 else 28) [vR x, vI w, vI c, none] [] (M, S) Q
    refine br_lt (fun c_3 => ?_) (fun c_3 => ?_)
    · exact WP.thr rfl rfl rfl rfl rfl (by decide) (k1 (by omega))
    · refine WP.blk 3 ?_
      show WP 4 69 (if cnd .lt c 4 = true then 43 else 33) [vR x, vI w, vI c, none] [] (M, S) Q
      refine br_lt (fun c_4 => ?_) (fun c_4 => ?_)
      · refine WP.blk 2 ?_
        show (sT S x = 9 ∧ sR S x 4 ≠ 0) ∧ WP 4 69 47 [vR x, vI w, vI c, none] [vR (sR S x 4)] (M, S) Q
        refine ⟨⟨hS.1.1, by rw [(show sR S x 4 = x + 26 from hS.1.2.2.2.2.1)]; omega⟩, ?_⟩
        rw [(show sR S x 4 = x + 26 from hS.1.2.2.2.2.1)]
        refine WP.blk 2 ?_
        show (sT S x = 9 ∧ sR S x 2 ≠ 0) ∧ WP 4 69 51 [vR x, vI w, vI c, none] [vR (sR S x 2), vR (x + 26)] (M, S) Q
        refine ⟨⟨hS.1.1, by rw [(show sR S x 2 = x + 2 from hS.1.2.2.1)]; omega⟩, ?_⟩
        rw [(show sR S x 2 = x + 2 from hS.1.2.2.1)]
        refine WP.cl (a := [vR (x + 26), vR (x + 2)]) (rest := []) rfl rfl rfl rfl ⟨hS.2.2.2.1.1.1, trivial⟩ (by decide) (k_push hS.2.2.2.1 hS.2.1 (by omega) hhi has.1 (by omega) (by omega) (fun My_5 Ry_5 fry_5 hry_5 hHy_5 hNy_5 => ⟨rfl, ?_⟩))
        show WP 4 69 54 [vR x, vI w, vI c, none] [] (My_5, (Ry_5, S.2)) Q
        have hSy_5 := rub_s hry_5 hHy_5 hS
        have F_6 : AskR My_5 x f := AskR_fr (fun r9 h7 h8 h9 => fry_5 r9 (by omega)) has
        have fr_7 : (∀ q9, (q9 < x + 2 ∨ x + 14 ≤ q9) → (q9 < x + 26 ∨ x + 86 ≤ q9) → My_5 q9 = M q9) := fun q9 q0 q1 => (fry_5 q9 (by omega)).trans ((fun _ _ _ => rfl) q9 q0 q1)
        refine WP.blk 2 ?_
        show (sT (Ry_5, S.2) x = 9 ∧ sR (Ry_5, S.2) x 2 ≠ 0) ∧ WP 4 69 58 [vR x, vI w, vI c, none] [vR (sR (Ry_5, S.2) x 2)] (My_5, (Ry_5, S.2)) Q
        refine ⟨⟨hSy_5.1.1, by rw [(show sR (Ry_5, S.2) x 2 = x + 2 from hSy_5.1.2.2.1)]; omega⟩, ?_⟩
        rw [(show sR (Ry_5, S.2) x 2 = x + 2 from hSy_5.1.2.2.1)]
        refine WP.blk 1 ?_
        show WP 4 69 59 [vR x, vI w, vI c, none] [vI w, vR (x + 2)] (My_5, (Ry_5, S.2)) Q
        refine WP.cl (a := [vR (x + 2), vI w]) (rest := []) rfl rfl rfl rfl ⟨hSy_5.2.1.1, trivial⟩ (by decide) (k_colorOf hSy_5.2.1 F_6.1.1.2.2.1 (by omega) (by omega) ⟨rfl, ?_⟩)
        show WP 4 69 62 [vR x, vI w, vI c, none] [vI (f (97 + 14 * w + 1))] (My_5, (Ry_5, S.2)) Q
        refine WP.blk 3 ?_
        show (sT (Ry_5, S.2) x = 9 ∧ sR (Ry_5, S.2) x 2 ≠ 0) ∧ WP 4 69 67 [vR x, vI w, vI c, vI (f (97 + 14 * w + 1))] [vR (sR (Ry_5, S.2) x 2)] (My_5, (Ry_5, S.2)) Q
        refine ⟨⟨hSy_5.1.1, by rw [(show sR (Ry_5, S.2) x 2 = x + 2 from hSy_5.1.2.2.1)]; omega⟩, ?_⟩
        rw [(show sR (Ry_5, S.2) x 2 = x + 2 from hSy_5.1.2.2.1)]
        refine WP.blk 2 ?_
        show WP 4 69 69 [vR x, vI w, vI c, vI (f (97 + 14 * w + 1))] [vI c, vI w, vR (x + 2)] (My_5, (Ry_5, S.2)) Q
        refine WP.cl (a := [vR (x + 2), vI w, vI c]) (rest := []) rfl rfl rfl rfl ⟨hSy_5.2.1.1, trivial⟩ (by decide) (k_paint hSy_5.2.1 (by omega) (fun My_8 fry_8 hky_8 => ⟨rfl, ?_⟩))
        show WP 4 69 72 [vR x, vI w, vI c, vI (f (97 + 14 * w + 1))] [] (My_8, (Ry_5, S.2)) Q
        have F_9 : HisN My_8 (Ry_5, S.2) (x + 26) p sv f := (HisN_fr hHy_5) (fun r9 h8 h9 => fry_8 r9 (by omega)) hNy_5
        have fr_10 : (∀ q9, (q9 < x + 2 ∨ x + 14 ≤ q9) → (q9 < x + 26 ∨ x + 86 ≤ q9) → My_8 q9 = M q9) := fun q9 q0 q1 => (fry_8 q9 (by omega)).trans (fr_7 q9 q0 q1)
        refine WP.blk 1 ?_
        show WP 4 69 73 [vR x, vI w, vI c, vI (f (97 + 14 * w + 1))] [vI (f (97 + 14 * w + 1))] (My_8, (Ry_5, S.2)) Q
        exact WP.ret rfl rfl rfl trivial (k _ _ _ fr_10 hry_5 hSy_5 (ask_col F_6 hx3 (by omega) (by omega) (fun q hq => fry_8 q (by omega)) hky_8) F_9 (by omega) rfl)
      · exact WP.thr rfl rfl rfl rfl rfl (by decide) (k1 (by omega))
  · have p_1 := (hb_1.resolve_left (fun h => by omega)).2
    exact WP.thr rfl rfl rfl rfl rfl (by decide) (k3 (by omega))
set_option maxHeartbeats 4000000 in
theorem t_setLimits {S : SD} {M : Nat → Int → Int} {x : Nat} {f : Int → Int} {B : Int} {p : Int → Int} {sv : Int} {a b : Int} (hS : isRub S x) (has : AskR M x f) (hx3 : 3 ≤ x) (hR : RowOk B f) (hhi : HisF M S (x + 26) p sv) {Q : Res → Wd → Prop} (k : ∀ (v : Int) (M2 : Nat → Int → Int) (R2 : Nat → Int → Nat), (∀ q9, (q9 < x + 2 ∨ x + 14 ≤ q9) → (q9 < x + 26 ∨ x + 86 ≤ q9) → M2 q9 = M q9) → (∀ r i, r ≠ x + 27 → R2 r i = sR S r i) → isRub (R2, S.2) x → AskR M2 x (uf (uf f 2 a) 3 b) → HisN M2 (R2, S.2) (x + 26) p sv f → ((1 ≤ a ∧ a ≤ 200) ∧ 1 ≤ b ∧ b ≤ 20) → v = f 2 → Q (0, vI v) (M2, (R2, S.2))) (k1 : ¬ ((1 ≤ a ∧ a ≤ 200) ∧ 1 ≤ b ∧ b ≤ 20) → Q (1, none) (tk (M, S))) : EvQ 5 70 [vR x, vI a, vI b] (M, S) Q := by
  refine EvQ.enter (ls := [vR x, vI a, vI b, none]) (Nat.le_of_ble_eq_true rfl) rfl ?_
  have hA := hR.1
  have hA1 := hA.1
  have hWA := hR.2.1
  have hW1 := hWA.1
  have hI := hR.2.2
  have hI2 := hI.2.1
  have hI3 := hI.2.2.1
  obtain ⟨xf, hxf⟩ := fresh_ex hA1
  obtain ⟨ol, hol⟩ : ∃ y9, M (x + 2) = y9 := ⟨_, rfl⟩
  have hol4 : ol 4 = f 2 := by rw [← hol]; exact has.1.1.2.2.2.1
  refine WP.blk 3 ?_
  show WP 4 70 (if cnd .lt a 1 = true then 23 else 5) [vR x, vI a, vI b, none] [] (M, S) Q
  refine br_lt (fun c_1 => ?_) (fun c_1 => ?_)
  · exact WP.thr rfl rfl rfl rfl rfl (by decide) (k1 (by omega))
  · refine WP.blk 3 ?_
    show WP 4 70 (if cnd .gt a 200 = true then 23 else 12) [vR x, vI a, vI b, none] [] (M, S) Q
    refine br_gt (fun c_2 => ?_) (fun c_2 => ?_)
    · exact WP.thr rfl rfl rfl rfl rfl (by decide) (k1 (by omega))
    · refine WP.blk 3 ?_
      show WP 4 70 (if cnd .lt b 1 = true then 23 else 17) [vR x, vI a, vI b, none] [] (M, S) Q
      refine br_lt (fun c_3 => ?_) (fun c_3 => ?_)
      · exact WP.thr rfl rfl rfl rfl rfl (by decide) (k1 (by omega))
      · refine WP.blk 3 ?_
        show WP 4 70 (if cnd .le b 20 = true then 33 else 23) [vR x, vI a, vI b, none] [] (M, S) Q
        refine br_le (fun c_4 => ?_) (fun c_4 => ?_)
        · refine WP.blk 2 ?_
          show (sT S x = 9 ∧ sR S x 4 ≠ 0) ∧ WP 4 70 37 [vR x, vI a, vI b, none] [vR (sR S x 4)] (M, S) Q
          refine ⟨⟨hS.1.1, by rw [(show sR S x 4 = x + 26 from hS.1.2.2.2.2.1)]; omega⟩, ?_⟩
          rw [(show sR S x 4 = x + 26 from hS.1.2.2.2.2.1)]
          refine WP.blk 2 ?_
          show (sT S x = 9 ∧ sR S x 2 ≠ 0) ∧ WP 4 70 41 [vR x, vI a, vI b, none] [vR (sR S x 2), vR (x + 26)] (M, S) Q
          refine ⟨⟨hS.1.1, by rw [(show sR S x 2 = x + 2 from hS.1.2.2.1)]; omega⟩, ?_⟩
          rw [(show sR S x 2 = x + 2 from hS.1.2.2.1)]
          refine WP.cl (a := [vR (x + 26), vR (x + 2)]) (rest := []) rfl rfl rfl rfl ⟨hS.2.2.2.1.1.1, trivial⟩ (by decide) (k_push hS.2.2.2.1 hS.2.1 (by omega) hhi has.1 (by omega) (by omega) (fun My_5 Ry_5 fry_5 hry_5 hHy_5 hNy_5 => ⟨rfl, ?_⟩))
          show WP 4 70 44 [vR x, vI a, vI b, none] [] (My_5, (Ry_5, S.2)) Q
          have hSy_5 := rub_s hry_5 hHy_5 hS
          have r_6 : My_5 (x + 2) = ol := (fry_5 _ (by omega)).trans hol
          have F_7 : AskR My_5 x f := AskR_fr (fun r9 h7 h8 h9 => fry_5 r9 (by omega)) has
          have fr_8 : (∀ q9, (q9 < x + 2 ∨ x + 14 ≤ q9) → (q9 < x + 26 ∨ x + 86 ≤ q9) → My_5 q9 = M q9) := fun q9 q0 q1 => (fry_5 q9 (by omega)).trans ((fun _ _ _ => rfl) q9 q0 q1)
          refine WP.blk 2 ?_
          show (sT (Ry_5, S.2) x = 9 ∧ sR (Ry_5, S.2) x 2 ≠ 0) ∧ WP 4 70 48 [vR x, vI a, vI b, none] [vR (sR (Ry_5, S.2) x 2)] (My_5, (Ry_5, S.2)) Q
          refine ⟨⟨hSy_5.1.1, by rw [(show sR (Ry_5, S.2) x 2 = x + 2 from hSy_5.1.2.2.1)]; omega⟩, ?_⟩
          rw [(show sR (Ry_5, S.2) x 2 = x + 2 from hSy_5.1.2.2.1)]
          refine WP.blk 4 ?_
          show sT (Ry_5, S.2) (x + 2) = 8 ∧ (sT (Ry_5, S.2) x = 9 ∧ sR (Ry_5, S.2) x 2 ≠ 0) ∧ WP 4 70 56 [vR x, vI a, vI b, vI (My_5 (x + 2) 4)] [vR (sR (Ry_5, S.2) x 2)] (My_5, (Ry_5, S.2)) Q
          rw [r_6]
          refine ⟨hSy_5.2.1.1, ⟨hSy_5.1.1, by rw [(show sR (Ry_5, S.2) x 2 = x + 2 from hSy_5.1.2.2.1)]; omega⟩, ?_⟩
          rw [(show sR (Ry_5, S.2) x 2 = x + 2 from hSy_5.1.2.2.1)]
          refine WP.blk 2 ?_
          show sT (Ry_5, S.2) (x + 2) = 8 ∧ WP 4 70 60 [vR x, vI a, vI b, vI (ol 4)] [] (up My_5 (x + 2) 4 a, (Ry_5, S.2)) Q
          refine ⟨hSy_5.2.1.1, ?_⟩
          generalize hM_9 : up My_5 (x + 2) 4 a = M_9
          obtain ⟨g_11, hg_11⟩ : ∃ y9, y9 = uf ol 4 a := ⟨_, rfl⟩
          have r_10 : M_9 (x + 2) = g_11 := by rw [← hM_9, hg_11, up_self, r_6]
          have t_12 : g_11 4 = a := by rw [hg_11]; exact uf_at _ _ (by omega)
          have t_13 : g_11 5 = ol 5 := by rw [hg_11]; exact uf_ne (by omega)
          have F_14 : HisN M_9 (Ry_5, S.2) (x + 26) p sv f := (HisN_fr hHy_5) (fun r9 h8 h9 => by rw [← hM_9]; exact up_row (by omega)) hNy_5
          have fr_15 : (∀ q9, (q9 < x + 2 ∨ x + 14 ≤ q9) → (q9 < x + 26 ∨ x + 86 ≤ q9) → M_9 q9 = M q9) := fun q9 q0 q1 => by rw [← hM_9]; exact (up_row (by omega)).trans (fr_8 q9 q0 q1)
          refine WP.blk 2 ?_
          show (sT (Ry_5, S.2) x = 9 ∧ sR (Ry_5, S.2) x 2 ≠ 0) ∧ WP 4 70 64 [vR x, vI a, vI b, vI (ol 4)] [vR (sR (Ry_5, S.2) x 2)] (M_9, (Ry_5, S.2)) Q
          refine ⟨⟨hSy_5.1.1, by rw [(show sR (Ry_5, S.2) x 2 = x + 2 from hSy_5.1.2.2.1)]; omega⟩, ?_⟩
          rw [(show sR (Ry_5, S.2) x 2 = x + 2 from hSy_5.1.2.2.1)]
          refine WP.blk 2 ?_
          show sT (Ry_5, S.2) (x + 2) = 8 ∧ WP 4 70 68 [vR x, vI a, vI b, vI (ol 4)] [] (up M_9 (x + 2) 5 b, (Ry_5, S.2)) Q
          refine ⟨hSy_5.2.1.1, ?_⟩
          generalize hM_16 : up M_9 (x + 2) 5 b = M_16
          obtain ⟨g_18, hg_18⟩ : ∃ y9, y9 = uf g_11 5 b := ⟨_, rfl⟩
          have r_17 : M_16 (x + 2) = g_18 := by rw [← hM_16, hg_18, up_self, r_10]
          have t_19 : g_18 4 = g_11 4 := by rw [hg_18]; exact uf_ne (by omega)
          have t_20 : g_18 5 = b := by rw [hg_18]; exact uf_at _ _ (by omega)
          have F_21 : HisN M_16 (Ry_5, S.2) (x + 26) p sv f := (HisN_fr hHy_5) (fun r9 h8 h9 => by rw [← hM_16]; exact up_row (by omega)) F_14
          have fr_22 : (∀ q9, (q9 < x + 2 ∨ x + 14 ≤ q9) → (q9 < x + 26 ∨ x + 86 ≤ q9) → M_16 q9 = M q9) := fun q9 q0 q1 => by rw [← hM_16]; exact (up_row (by omega)).trans (fr_15 q9 q0 q1)
          refine WP.blk 1 ?_
          show WP 4 70 69 [vR x, vI a, vI b, vI (ol 4)] [vI (ol 4)] (M_16, (Ry_5, S.2)) Q
          exact WP.ret rfl rfl rfl trivial (k _ _ _ fr_22 hry_5 hSy_5 (ask_lim F_7 hx3 (by omega) (fun q hq => by rw [← hM_16, up_row (by omega), ← hM_9, up_row (by omega)]) (by rw [r_17]; omega) (by rw [r_17]; omega)) F_21 (by omega) (by omega))
        · exact WP.thr rfl rfl rfl rfl rfl (by decide) (k1 (by omega))
set_option maxHeartbeats 4000000 in
theorem t_clean {S : SD} {M : Nat → Int → Int} {x : Nat} {f : Int → Int} {B : Int} {p : Int → Int} {sv : Int} {s : Int} (hS : isRub S x) (has : AskR M x f) (hx3 : 3 ≤ x) (hR : RowOk B f) (hhi : HisF M S (x + 26) p sv) (hB : 0 ≤ B ∧ B ≤ 1000000000 - 400) {Q : Res → Wd → Prop} (k : ∀ (v : Int) (M2 : Nat → Int → Int) (R2 : Nat → Int → Nat), (∀ q9, (q9 < x + 2 ∨ x + 14 ≤ q9) → (q9 < x + 26 ∨ x + 86 ≤ q9) → M2 q9 = M q9) → (∀ r i, r ≠ x + 27 → R2 r i = sR S r i) → isRub (R2, S.2) x → AskR M2 x (cleanR f s) → HisN M2 (R2, S.2) (x + 26) p sv f → (0 ≤ s ∧ s < f 0) → v = (if f (7 + 9 * s + 6) = -1 then 0 else 1) → Q (0, vI v) (M2, (R2, S.2))) (k3 : ¬ (0 ≤ s ∧ s < f 0) → Q (3, none) (tk (M, S))) : EvQ 5 71 [vR x, vI s] (M, S) Q := by
  refine EvQ.enter (ls := [vR x, vI s]) (Nat.le_of_ble_eq_true rfl) rfl ?_
  have hA := hR.1
  have hA1 := hA.1
  have hWA := hR.2.1
  have hW1 := hWA.1
  have hI := hR.2.2
  have hI2 := hI.2.1
  have hI3 := hI.2.2.1
  obtain ⟨xf, hxf⟩ := fresh_ex hA1
  have hI6 := hI.2.2.2.2.2
  refine WP.blk 2 ?_
  show (sT S x = 9 ∧ sR S x 2 ≠ 0) ∧ WP 4 71 4 [vR x, vI s] [vR (sR S x 2)] (M, S) Q
  refine ⟨⟨hS.1.1, by rw [(show sR S x 2 = x + 2 from hS.1.2.2.1)]; omega⟩, ?_⟩
  rw [(show sR S x 2 = x + 2 from hS.1.2.2.1)]
  refine WP.blk 1 ?_
  show (sT S (x + 2) = 8 ∧ sR S (x + 2) 0 ≠ 0) ∧ WP 4 71 7 [vR x, vI s] [vR (sR S (x + 2) 0)] (M, S) Q
  refine ⟨⟨hS.2.1.1, by rw [(show sR S (x + 2) 0 = x + 3 from hS.2.1.2.1)]; omega⟩, ?_⟩
  rw [(show sR S (x + 2) 0 = x + 3 from hS.2.1.2.1)]
  refine WP.blk 1 ?_
  show WP 4 71 8 [vR x, vI s] [vI s, vR (x + 3)] (M, S) Q
  refine WP.cl (a := [vR (x + 3), vI s]) (rest := []) rfl rfl rfl rfl ⟨hS.2.1.2.2.2.2.2.1.1, trivial⟩ (by decide) (k_has hS.2.1.2.2.2.2.2.1 has.1.1.1 (by omega) (fun b_1 hb_1 => ⟨rfl, ?_⟩))
  show WP 4 71 11 [vR x, vI s] [vI b_1] (M, S) Q
  refine WP.blk 1 ?_
  show WP 4 71 (if cnd .ne b_1 0 = true then 24 else 14) [vR x, vI s] [] (M, S) Q
  refine br_ne (fun c_2 => ?_) (fun c_2 => ?_)
  · have p_1 := (hb_1.resolve_right (fun h => by omega)).2
    refine WP.blk 2 ?_
    show (sT S x = 9 ∧ sR S x 4 ≠ 0) ∧ WP 4 71 28 [vR x, vI s] [vR (sR S x 4)] (M, S) Q
    refine ⟨⟨hS.1.1, by rw [(show sR S x 4 = x + 26 from hS.1.2.2.2.2.1)]; omega⟩, ?_⟩
    rw [(show sR S x 4 = x + 26 from hS.1.2.2.2.2.1)]
    refine WP.blk 2 ?_
    show (sT S x = 9 ∧ sR S x 2 ≠ 0) ∧ WP 4 71 32 [vR x, vI s] [vR (sR S x 2), vR (x + 26)] (M, S) Q
    refine ⟨⟨hS.1.1, by rw [(show sR S x 2 = x + 2 from hS.1.2.2.1)]; omega⟩, ?_⟩
    rw [(show sR S x 2 = x + 2 from hS.1.2.2.1)]
    refine WP.cl (a := [vR (x + 26), vR (x + 2)]) (rest := []) rfl rfl rfl rfl ⟨hS.2.2.2.1.1.1, trivial⟩ (by decide) (k_push hS.2.2.2.1 hS.2.1 (by omega) hhi has.1 (by omega) (by omega) (fun My_3 Ry_3 fry_3 hry_3 hHy_3 hNy_3 => ⟨rfl, ?_⟩))
    show WP 4 71 35 [vR x, vI s] [] (My_3, (Ry_3, S.2)) Q
    have hSy_3 := rub_s hry_3 hHy_3 hS
    have F_4 : AskR My_3 x f := AskR_fr (fun r9 h7 h8 h9 => fry_3 r9 (by omega)) has
    have fr_5 : (∀ q9, (q9 < x + 2 ∨ x + 14 ≤ q9) → (q9 < x + 26 ∨ x + 86 ≤ q9) → My_3 q9 = M q9) := fun q9 q0 q1 => (fry_3 q9 (by omega)).trans ((fun _ _ _ => rfl) q9 q0 q1)
    refine WP.blk 2 ?_
    show (sT (Ry_3, S.2) x = 9 ∧ sR (Ry_3, S.2) x 2 ≠ 0) ∧ WP 4 71 39 [vR x, vI s] [vR (sR (Ry_3, S.2) x 2)] (My_3, (Ry_3, S.2)) Q
    refine ⟨⟨hSy_3.1.1, by rw [(show sR (Ry_3, S.2) x 2 = x + 2 from hSy_3.1.2.2.1)]; omega⟩, ?_⟩
    rw [(show sR (Ry_3, S.2) x 2 = x + 2 from hSy_3.1.2.2.1)]
    refine WP.blk 1 ?_
    show (sT (Ry_3, S.2) (x + 2) = 8 ∧ sR (Ry_3, S.2) (x + 2) 3 ≠ 0) ∧ WP 4 71 42 [vR x, vI s] [vR (sR (Ry_3, S.2) (x + 2) 3)] (My_3, (Ry_3, S.2)) Q
    refine ⟨⟨hSy_3.2.1.1, by rw [(show sR (Ry_3, S.2) (x + 2) 3 = x + 10 from hSy_3.2.1.2.2.2.2.1)]; omega⟩, ?_⟩
    rw [(show sR (Ry_3, S.2) (x + 2) 3 = x + 10 from hSy_3.2.1.2.2.2.2.1)]
    refine WP.blk 1 ?_
    show WP 4 71 43 [vR x, vI s] [vI s, vR (x + 10)] (My_3, (Ry_3, S.2)) Q
    refine WP.cl (a := [vR (x + 10), vI s]) (rest := []) rfl rfl rfl rfl ⟨hSy_3.2.1.2.2.2.2.2.2.2.2.2.1, trivial⟩ (by decide) (k_wash hSy_3.2.1.2.2.2.2.2.2.2.2.2 F_4.1.2 (by omega) (by omega) (by omega) (fun vy_6 My_6 fry_6 hky_6 hvy_6 => ⟨rfl, ?_⟩))
    show WP 4 71 46 [vR x, vI s] [vI vy_6] (My_6, (Ry_3, S.2)) Q
    have F_7 : HisN My_6 (Ry_3, S.2) (x + 26) p sv f := (HisN_fr hHy_3) (fun r9 h8 h9 => fry_6 r9 (by omega)) hNy_3
    have fr_8 : (∀ q9, (q9 < x + 2 ∨ x + 14 ≤ q9) → (q9 < x + 26 ∨ x + 86 ≤ q9) → My_6 q9 = M q9) := fun q9 q0 q1 => (fry_6 q9 (by omega)).trans (fr_5 q9 q0 q1)
    have hvvy_6 : vy_6 = 0 ∨ vy_6 = 1 := by rw [hvy_6]; split <;> omega
    refine WP.blk 1 ?_
    show WP 4 71 (if cnd .eq vy_6 0 = true then 53 else 49) [vR x, vI s] [] (My_6, (Ry_3, S.2)) Q
    refine br_eq (fun c_9 => ?_) (fun c_9 => ?_)
    · refine WP.blk 1 ?_
      show WP 4 71 54 [vR x, vI s] [vI 0] (My_6, (Ry_3, S.2)) Q
      exact WP.ret rfl rfl rfl trivial (k _ _ _ fr_8 hry_3 hSy_3 (ask_ink F_4 hx3 (by omega) (clean_io (by omega)) (fun q hq => fry_6 q hq) hky_6) F_7 (by omega) (by rw [← hvy_6]; omega))
    · refine WP.blk 2 ?_
      show WP 4 71 54 [vR x, vI s] [vI 1] (My_6, (Ry_3, S.2)) Q
      exact WP.ret rfl rfl rfl trivial (k _ _ _ fr_8 hry_3 hSy_3 (ask_ink F_4 hx3 (by omega) (clean_io (by omega)) (fun q hq => fry_6 q hq) hky_6) F_7 (by omega) (by rw [← hvy_6]; omega))
  · have p_1 := (hb_1.resolve_left (fun h => by omega)).2
    exact WP.thr rfl rfl rfl rfl rfl (by decide) (k3 (by omega))
set_option maxHeartbeats 4000000 in
theorem t_cut {S : SD} {M : Nat → Int → Int} {x : Nat} {f : Int → Int} {B : Int} {p : Int → Int} {sv : Int} {w q n : Int} (hS : isRub S x) (has : AskR M x f) (hx3 : 3 ≤ x) (hR : RowOk B f) (hhi : HisF M S (x + 26) p sv) (hB : 0 ≤ B ∧ B ≤ 1000000000 - 400) {Q : Res → Wd → Prop} (k : ∀ (v : Int) (M2 : Nat → Int → Int) (R2 : Nat → Int → Nat), (∀ q9, (q9 < x + 2 ∨ x + 14 ≤ q9) → (q9 < x + 26 ∨ x + 86 ≤ q9) → M2 q9 = M q9) → (∀ r i, r ≠ x + 27 → R2 r i = sR S r i) → isRub (R2, S.2) x → AskR M2 x (cutR f w q n) → HisN M2 (R2, S.2) (x + 26) p sv f → ((0 ≤ w ∧ w < f 1) ∧ ((0 ≤ q ∧ q < f (97 + 14 * w)) ∧ (1 ≤ n ∧ n ≤ 5) ∧ n ≤ f (97 + 14 * w) - q) ∧ f 0 ≠ 10) → v = f 0 → Q (0, vI v) (M2, (R2, S.2))) (k3 : ¬ (0 ≤ w ∧ w < f 1) → Q (3, none) (tk (M, S))) (k1 : ((0 ≤ w ∧ w < f 1) ∧ ¬ ((0 ≤ q ∧ q < f (97 + 14 * w)) ∧ (1 ≤ n ∧ n ≤ 5) ∧ n ≤ f (97 + 14 * w) - q)) → Q (1, none) (tk (M, S))) (k2 : ((0 ≤ w ∧ w < f 1) ∧ ((0 ≤ q ∧ q < f (97 + 14 * w)) ∧ (1 ≤ n ∧ n ≤ 5) ∧ n ≤ f (97 + 14 * w) - q) ∧ f 0 = 10) → Q (2, none) (tk (M, S))) : EvQ 7 66 [vR x, vI w, vI q, vI n] (M, S) Q := by
  refine EvQ.enter (ls := [vR x, vI w, vI q, vI n]) (Nat.le_of_ble_eq_true rfl) rfl ?_
  have hA := hR.1
  have hA1 := hA.1
  have hWA := hR.2.1
  have hW1 := hWA.1
  have hI := hR.2.2
  have hI2 := hI.2.1
  have hI3 := hI.2.2.1
  obtain ⟨xf, hxf⟩ := fresh_ex hA1
  obtain ⟨hl5, hl12⟩ := ask_len has
  refine WP.blk 2 ?_
  show (sT S x = 9 ∧ sR S x 2 ≠ 0) ∧ WP 6 66 4 [vR x, vI w, vI q, vI n] [vR (sR S x 2)] (M, S) Q
  refine ⟨⟨hS.1.1, by rw [(show sR S x 2 = x + 2 from hS.1.2.2.1)]; omega⟩, ?_⟩
  rw [(show sR S x 2 = x + 2 from hS.1.2.2.1)]
  refine WP.blk 1 ?_
  show (sT S (x + 2) = 8 ∧ sR S (x + 2) 1 ≠ 0) ∧ WP 6 66 7 [vR x, vI w, vI q, vI n] [vR (sR S (x + 2) 1)] (M, S) Q
  refine ⟨⟨hS.2.1.1, by rw [(show sR S (x + 2) 1 = x + 6 from hS.2.1.2.2.1)]; omega⟩, ?_⟩
  rw [(show sR S (x + 2) 1 = x + 6 from hS.2.1.2.2.1)]
  refine WP.blk 1 ?_
  show WP 6 66 8 [vR x, vI w, vI q, vI n] [vI w, vR (x + 6)] (M, S) Q
  refine WP.cl (a := [vR (x + 6), vI w]) (rest := []) rfl rfl rfl rfl ⟨hS.2.1.2.2.2.2.2.2.1.1, trivial⟩ (by decide) (k_has hS.2.1.2.2.2.2.2.2.1 has.1.1.2.1 (by omega) (fun b_1 hb_1 => ⟨rfl, ?_⟩))
  show WP 6 66 11 [vR x, vI w, vI q, vI n] [vI b_1] (M, S) Q
  refine WP.blk 1 ?_
  show WP 6 66 (if cnd .ne b_1 0 = true then 24 else 14) [vR x, vI w, vI q, vI n] [] (M, S) Q
  refine br_ne (fun c_2 => ?_) (fun c_2 => ?_)
  · have p_1 := (hb_1.resolve_right (fun h => by omega)).2
    refine WP.blk 2 ?_
    show (sT S x = 9 ∧ sR S x 2 ≠ 0) ∧ WP 6 66 28 [vR x, vI w, vI q, vI n] [vR (sR S x 2)] (M, S) Q
    refine ⟨⟨hS.1.1, by rw [(show sR S x 2 = x + 2 from hS.1.2.2.1)]; omega⟩, ?_⟩
    rw [(show sR S x 2 = x + 2 from hS.1.2.2.1)]
    refine WP.blk 1 ?_
    show (sT S (x + 2) = 8 ∧ sR S (x + 2) 1 ≠ 0) ∧ WP 6 66 31 [vR x, vI w, vI q, vI n] [vR (sR S (x + 2) 1)] (M, S) Q
    refine ⟨⟨hS.2.1.1, by rw [(show sR S (x + 2) 1 = x + 6 from hS.2.1.2.2.1)]; omega⟩, ?_⟩
    rw [(show sR S (x + 2) 1 = x + 6 from hS.2.1.2.2.1)]
    refine WP.blk 3 ?_
    show WP 6 66 34 [vR x, vI w, vI q, vI n] [vI n, vI q, vI w, vR (x + 6)] (M, S) Q
    refine WP.cl (a := [vR (x + 6), vI w, vI q, vI n]) (rest := []) rfl rfl rfl rfl ⟨hS.2.1.2.2.2.2.2.2.1.1, trivial⟩ (by decide) (k_hasPart hS.2.1.2.2.2.2.2.2.1 has.1.1.2.1 (by omega) (by omega) (fun b_3 hb_3 => ⟨rfl, ?_⟩))
    show WP 6 66 37 [vR x, vI w, vI q, vI n] [vI b_3] (M, S) Q
    replace hb_3 : (b_3 = 1 ∧ (0 ≤ w ∧ w < f 1) ∧ (0 ≤ q ∧ q < f (97 + 14 * w)) ∧ 1 ≤ n ∧ n ≤ f (97 + 14 * w) - q) ∨ (b_3 = 0 ∧ ¬ ((0 ≤ w ∧ w < f 1) ∧ (0 ≤ q ∧ q < f (97 + 14 * w)) ∧ 1 ≤ n ∧ n ≤ f (97 + 14 * w) - q)) := hb_3
    refine WP.blk 1 ?_
    show WP 6 66 (if cnd .eq b_3 0 = true then 45 else 40) [vR x, vI w, vI q, vI n] [] (M, S) Q
    refine br_eq (fun c_4 => ?_) (fun c_4 => ?_)
    · have p_3 := (hb_3.resolve_left (fun h => by omega)).2
      exact WP.thr rfl rfl rfl rfl rfl (by decide) (k1 (by omega))
    · have p_3 := (hb_3.resolve_right (fun h => by omega)).2
      refine WP.blk 3 ?_
      show WP 6 66 (if cnd .le n 5 = true then 55 else 45) [vR x, vI w, vI q, vI n] [] (M, S) Q
      refine br_le (fun c_5 => ?_) (fun c_5 => ?_)
      · refine WP.blk 2 ?_
        show (sT S x = 9 ∧ sR S x 2 ≠ 0) ∧ WP 6 66 59 [vR x, vI w, vI q, vI n] [vR (sR S x 2)] (M, S) Q
        refine ⟨⟨hS.1.1, by rw [(show sR S x 2 = x + 2 from hS.1.2.2.1)]; omega⟩, ?_⟩
        rw [(show sR S x 2 = x + 2 from hS.1.2.2.1)]
        refine WP.blk 1 ?_
        show (sT S (x + 2) = 8 ∧ sR S (x + 2) 0 ≠ 0) ∧ WP 6 66 62 [vR x, vI w, vI q, vI n] [vR (sR S (x + 2) 0)] (M, S) Q
        refine ⟨⟨hS.2.1.1, by rw [(show sR S (x + 2) 0 = x + 3 from hS.2.1.2.1)]; omega⟩, ?_⟩
        rw [(show sR S (x + 2) 0 = x + 3 from hS.2.1.2.1)]
        refine WP.cl (a := [vR (x + 3)]) (rest := []) rfl rfl rfl rfl ⟨hS.2.1.2.2.2.2.2.1.1, trivial⟩ (by decide) (k_isFull hS.2.1.2.2.2.2.2.1 has.1.1.1 (fun b_6 hb_6 => ⟨rfl, ?_⟩))
        show WP 6 66 65 [vR x, vI w, vI q, vI n] [vI b_6] (M, S) Q
        refine WP.blk 1 ?_
        show WP 6 66 (if cnd .eq b_6 0 = true then 78 else 68) [vR x, vI w, vI q, vI n] [] (M, S) Q
        refine br_eq (fun c_7 => ?_) (fun c_7 => ?_)
        · have p_6 := (hb_6.resolve_left (fun h => by omega)).2
          have hcd : Cd f 5 w q n := ⟨by omega, by omega, by omega, by omega⟩
          have hRg := cut_row hR hB.1 (by omega) hcd
          refine WP.blk 2 ?_
          show (sT S x = 9 ∧ sR S x 4 ≠ 0) ∧ WP 6 66 82 [vR x, vI w, vI q, vI n] [vR (sR S x 4)] (M, S) Q
          refine ⟨⟨hS.1.1, by rw [(show sR S x 4 = x + 26 from hS.1.2.2.2.2.1)]; omega⟩, ?_⟩
          rw [(show sR S x 4 = x + 26 from hS.1.2.2.2.2.1)]
          refine WP.blk 2 ?_
          show (sT S x = 9 ∧ sR S x 2 ≠ 0) ∧ WP 6 66 86 [vR x, vI w, vI q, vI n] [vR (sR S x 2), vR (x + 26)] (M, S) Q
          refine ⟨⟨hS.1.1, by rw [(show sR S x 2 = x + 2 from hS.1.2.2.1)]; omega⟩, ?_⟩
          rw [(show sR S x 2 = x + 2 from hS.1.2.2.1)]
          refine WP.cl (a := [vR (x + 26), vR (x + 2)]) (rest := []) rfl rfl rfl rfl ⟨hS.2.2.2.1.1.1, trivial⟩ (by decide) (k_push hS.2.2.2.1 hS.2.1 (by omega) hhi has.1 (by omega) (by omega) (fun My_8 Ry_8 fry_8 hry_8 hHy_8 hNy_8 => ⟨rfl, ?_⟩))
          show WP 6 66 89 [vR x, vI w, vI q, vI n] [] (My_8, (Ry_8, S.2)) Q
          have hSy_8 := rub_s hry_8 hHy_8 hS
          have F_9 : AskR My_8 x f := AskR_fr (fun r9 h7 h8 h9 => fry_8 r9 (by omega)) has
          have fr_10 : (∀ q9, (q9 < x + 2 ∨ x + 14 ≤ q9) → (q9 < x + 26 ∨ x + 86 ≤ q9) → My_8 q9 = M q9) := fun q9 q0 q1 => (fry_8 q9 (by omega)).trans ((fun _ _ _ => rfl) q9 q0 q1)
          refine WP.blk 2 ?_
          show (sT (Ry_8, S.2) x = 9 ∧ sR (Ry_8, S.2) x 2 ≠ 0) ∧ WP 6 66 93 [vR x, vI w, vI q, vI n] [vR (sR (Ry_8, S.2) x 2)] (My_8, (Ry_8, S.2)) Q
          refine ⟨⟨hSy_8.1.1, by rw [(show sR (Ry_8, S.2) x 2 = x + 2 from hSy_8.1.2.2.1)]; omega⟩, ?_⟩
          rw [(show sR (Ry_8, S.2) x 2 = x + 2 from hSy_8.1.2.2.1)]
          refine WP.blk 3 ?_
          show WP 6 66 96 [vR x, vI w, vI q, vI n] [vI n, vI q, vI w, vR (x + 2)] (My_8, (Ry_8, S.2)) Q
          refine WP.cl (a := [vR (x + 2), vI w, vI q, vI n]) (rest := []) rfl rfl rfl rfl ⟨hSy_8.2.1.1, trivial⟩ (by decide) (k_addPart hSy_8.2.1 F_9.1.1.1 F_9.1.1.2.1 F_9.1.1.2.2.1 F_9.1.1.2.2.2 F_9.1.2 (by omega) hcd hl5 (fun My_11 fry_11 hky_11 => ⟨rfl, ?_⟩))
          show WP 6 66 99 [vR x, vI w, vI q, vI n] [] (My_11, (Ry_8, S.2)) Q
          have hty_11 : TurR My_11 := TurR_fr (fun r9 h8 h9 => fry_11 r9 (by omega)) F_9.2.2
          have F_12 : HisN My_11 (Ry_8, S.2) (x + 26) p sv f := (HisN_fr hHy_8) (fun r9 h8 h9 => fry_11 r9 (by omega)) hNy_8
          have fr_13 : (∀ q9, (q9 < x + 2 ∨ x + 14 ≤ q9) → (q9 < x + 26 ∨ x + 86 ≤ q9) → My_11 q9 = M q9) := fun q9 q0 q1 => (fry_11 q9 (by omega)).trans (fr_10 q9 q0 q1)
          refine WP.blk 2 ?_
          show (sT (Ry_8, S.2) x = 9 ∧ sR (Ry_8, S.2) x 5 ≠ 0) ∧ WP 6 66 103 [vR x, vI w, vI q, vI n] [vR (sR (Ry_8, S.2) x 5)] (My_11, (Ry_8, S.2)) Q
          refine ⟨⟨hSy_8.1.1, by rw [(show sR (Ry_8, S.2) x 5 = x + 76 from hSy_8.1.2.2.2.2.2.1)]; omega⟩, ?_⟩
          rw [(show sR (Ry_8, S.2) x 5 = x + 76 from hSy_8.1.2.2.2.2.2.1)]
          refine WP.blk 2 ?_
          show (sT (Ry_8, S.2) x = 9 ∧ sR (Ry_8, S.2) x 2 ≠ 0) ∧ WP 6 66 107 [vR x, vI w, vI q, vI n] [vR (sR (Ry_8, S.2) x 2), vR (x + 76)] (My_11, (Ry_8, S.2)) Q
          refine ⟨⟨hSy_8.1.1, by rw [(show sR (Ry_8, S.2) x 2 = x + 2 from hSy_8.1.2.2.1)]; omega⟩, ?_⟩
          rw [(show sR (Ry_8, S.2) x 2 = x + 2 from hSy_8.1.2.2.1)]
          refine WP.cl (a := [vR (x + 76), vR (x + 2)]) (rest := []) rfl rfl rfl rfl ⟨hSy_8.2.2.2.2.1.1, trivial⟩ (by decide) (k_rebuild hSy_8.2.1 hSy_8.2.2.2.2.1 hSy_8.2.2.2.2.2.2.2.2.2 (by omega) (by omega) (by omega) hty_11 hky_11.1.1 hky_11.1.2.1 hRg.1 hRg.2.1.1.2 (fun w a b => (hRg.2.1.2 w a b).1.2.2.2.1) (fun My_14 fry_14 hky_14 => ⟨rfl, ?_⟩))
          show WP 6 66 110 [vR x, vI w, vI q, vI n] [] (My_14, (Ry_8, S.2)) Q
          have F_15 : HisN My_14 (Ry_8, S.2) (x + 26) p sv f := (HisN_fr hHy_8) (fun r9 h8 h9 => fry_14 r9 (by omega)) F_12
          have F_16 : Sht My_14 (x + 2) (cutR f w q n) := Sht_fr (fun r9 h8 h9 => fry_14 r9 (by omega)) hky_11
          have F_17 : TurR My_14 := TurR_fr (fun r9 h8 h9 => fry_14 r9 (by omega)) hty_11
          have fr_18 : (∀ q9, (q9 < x + 2 ∨ x + 14 ≤ q9) → (q9 < x + 26 ∨ x + 86 ≤ q9) → My_14 q9 = M q9) := fun q9 q0 q1 => (fry_14 q9 (by omega)).trans (fr_13 q9 q0 q1)
          refine WP.blk 2 ?_
          show (sT (Ry_8, S.2) x = 9 ∧ sR (Ry_8, S.2) x 2 ≠ 0) ∧ WP 6 66 114 [vR x, vI w, vI q, vI n] [vR (sR (Ry_8, S.2) x 2)] (My_14, (Ry_8, S.2)) Q
          refine ⟨⟨hSy_8.1.1, by rw [(show sR (Ry_8, S.2) x 2 = x + 2 from hSy_8.1.2.2.1)]; omega⟩, ?_⟩
          rw [(show sR (Ry_8, S.2) x 2 = x + 2 from hSy_8.1.2.2.1)]
          refine WP.blk 1 ?_
          show (sT (Ry_8, S.2) (x + 2) = 8 ∧ sR (Ry_8, S.2) (x + 2) 0 ≠ 0) ∧ WP 6 66 117 [vR x, vI w, vI q, vI n] [vR (sR (Ry_8, S.2) (x + 2) 0)] (My_14, (Ry_8, S.2)) Q
          refine ⟨⟨hSy_8.2.1.1, by rw [(show sR (Ry_8, S.2) (x + 2) 0 = x + 3 from hSy_8.2.1.2.1)]; omega⟩, ?_⟩
          rw [(show sR (Ry_8, S.2) (x + 2) 0 = x + 3 from hSy_8.2.1.2.1)]
          refine WP.blk 3 ?_
          show sT (Ry_8, S.2) (x + 3) = 7 ∧ ir ((My_14 (x + 3) 4) - 1) ∧ WP 6 66 122 [vR x, vI w, vI q, vI n] [vI ((My_14 (x + 3) 4) - 1)] (My_14, (Ry_8, S.2)) Q
          rw [(F_16.1.1.1.2.2.trans cutR_0)]
          refine ⟨hSy_8.2.1.2.2.2.2.2.1.1, (by unfold ir; omega), ?_⟩
          exact WP.ret rfl rfl rfl trivial (k _ _ _ fr_18 hry_8 hSy_8 ⟨F_16, hky_14, F_17⟩ F_15 (by omega) (by omega))
        · have p_6 := (hb_6.resolve_right (fun h => by omega)).2
          exact WP.thr rfl rfl rfl rfl rfl (by decide) (k2 (by omega))
      · exact WP.thr rfl rfl rfl rfl rfl (by decide) (k1 (by omega))
  · have p_1 := (hb_1.resolve_left (fun h => by omega)).2
    exact WP.thr rfl rfl rfl rfl rfl (by decide) (k3 (by omega))
set_option maxHeartbeats 4000000 in
theorem t_remove {S : SD} {M : Nat → Int → Int} {x : Nat} {f : Int → Int} {B : Int} {p : Int → Int} {sv : Int} {s : Int} (hS : isRub S x) (has : AskR M x f) (hx3 : 3 ≤ x) (hR : RowOk B f) (hhi : HisF M S (x + 26) p sv) {Q : Res → Wd → Prop} (k : ∀ (v : Int) (M2 : Nat → Int → Int) (R2 : Nat → Int → Nat), (∀ q9, (q9 < x + 2 ∨ x + 14 ≤ q9) → (q9 < x + 26 ∨ x + 86 ≤ q9) → M2 q9 = M q9) → (∀ r i, r ≠ x + 27 → R2 r i = sR S r i) → isRub (R2, S.2) x → AskR M2 x (remR f s) → HisN M2 (R2, S.2) (x + 26) p sv f → (0 ≤ s ∧ s < f 0) → v = f 0 - 1 → Q (0, vI v) (M2, (R2, S.2))) (k3 : ¬ (0 ≤ s ∧ s < f 0) → Q (3, none) (tk (M, S))) : EvQ 7 67 [vR x, vI s] (M, S) Q := by
  refine EvQ.enter (ls := [vR x, vI s]) (Nat.le_of_ble_eq_true rfl) rfl ?_
  have hA := hR.1
  have hA1 := hA.1
  have hWA := hR.2.1
  have hW1 := hWA.1
  have hI := hR.2.2
  have hI2 := hI.2.1
  have hI3 := hI.2.2.1
  obtain ⟨xf, hxf⟩ := fresh_ex hA1
  obtain ⟨hl5, hl12⟩ := ask_len has
  refine WP.blk 2 ?_
  show (sT S x = 9 ∧ sR S x 2 ≠ 0) ∧ WP 6 67 4 [vR x, vI s] [vR (sR S x 2)] (M, S) Q
  refine ⟨⟨hS.1.1, by rw [(show sR S x 2 = x + 2 from hS.1.2.2.1)]; omega⟩, ?_⟩
  rw [(show sR S x 2 = x + 2 from hS.1.2.2.1)]
  refine WP.blk 1 ?_
  show (sT S (x + 2) = 8 ∧ sR S (x + 2) 0 ≠ 0) ∧ WP 6 67 7 [vR x, vI s] [vR (sR S (x + 2) 0)] (M, S) Q
  refine ⟨⟨hS.2.1.1, by rw [(show sR S (x + 2) 0 = x + 3 from hS.2.1.2.1)]; omega⟩, ?_⟩
  rw [(show sR S (x + 2) 0 = x + 3 from hS.2.1.2.1)]
  refine WP.blk 1 ?_
  show WP 6 67 8 [vR x, vI s] [vI s, vR (x + 3)] (M, S) Q
  refine WP.cl (a := [vR (x + 3), vI s]) (rest := []) rfl rfl rfl rfl ⟨hS.2.1.2.2.2.2.2.1.1, trivial⟩ (by decide) (k_has hS.2.1.2.2.2.2.2.1 has.1.1.1 (by omega) (fun b_1 hb_1 => ⟨rfl, ?_⟩))
  show WP 6 67 11 [vR x, vI s] [vI b_1] (M, S) Q
  refine WP.blk 1 ?_
  show WP 6 67 (if cnd .ne b_1 0 = true then 24 else 14) [vR x, vI s] [] (M, S) Q
  refine br_ne (fun c_2 => ?_) (fun c_2 => ?_)
  · have p_1 := (hb_1.resolve_right (fun h => by omega)).2
    have hRg := row_rem hR (show 0 ≤ s ∧ s < f 0 by omega)
    refine WP.blk 2 ?_
    show (sT S x = 9 ∧ sR S x 4 ≠ 0) ∧ WP 6 67 28 [vR x, vI s] [vR (sR S x 4)] (M, S) Q
    refine ⟨⟨hS.1.1, by rw [(show sR S x 4 = x + 26 from hS.1.2.2.2.2.1)]; omega⟩, ?_⟩
    rw [(show sR S x 4 = x + 26 from hS.1.2.2.2.2.1)]
    refine WP.blk 2 ?_
    show (sT S x = 9 ∧ sR S x 2 ≠ 0) ∧ WP 6 67 32 [vR x, vI s] [vR (sR S x 2), vR (x + 26)] (M, S) Q
    refine ⟨⟨hS.1.1, by rw [(show sR S x 2 = x + 2 from hS.1.2.2.1)]; omega⟩, ?_⟩
    rw [(show sR S x 2 = x + 2 from hS.1.2.2.1)]
    refine WP.cl (a := [vR (x + 26), vR (x + 2)]) (rest := []) rfl rfl rfl rfl ⟨hS.2.2.2.1.1.1, trivial⟩ (by decide) (k_push hS.2.2.2.1 hS.2.1 (by omega) hhi has.1 (by omega) (by omega) (fun My_3 Ry_3 fry_3 hry_3 hHy_3 hNy_3 => ⟨rfl, ?_⟩))
    show WP 6 67 35 [vR x, vI s] [] (My_3, (Ry_3, S.2)) Q
    have hSy_3 := rub_s hry_3 hHy_3 hS
    have F_4 : AskR My_3 x f := AskR_fr (fun r9 h7 h8 h9 => fry_3 r9 (by omega)) has
    have fr_5 : (∀ q9, (q9 < x + 2 ∨ x + 14 ≤ q9) → (q9 < x + 26 ∨ x + 86 ≤ q9) → My_3 q9 = M q9) := fun q9 q0 q1 => (fry_3 q9 (by omega)).trans ((fun _ _ _ => rfl) q9 q0 q1)
    refine WP.blk 2 ?_
    show (sT (Ry_3, S.2) x = 9 ∧ sR (Ry_3, S.2) x 2 ≠ 0) ∧ WP 6 67 39 [vR x, vI s] [vR (sR (Ry_3, S.2) x 2)] (My_3, (Ry_3, S.2)) Q
    refine ⟨⟨hSy_3.1.1, by rw [(show sR (Ry_3, S.2) x 2 = x + 2 from hSy_3.1.2.2.1)]; omega⟩, ?_⟩
    rw [(show sR (Ry_3, S.2) x 2 = x + 2 from hSy_3.1.2.2.1)]
    refine WP.blk 1 ?_
    show WP 6 67 40 [vR x, vI s] [vI s, vR (x + 2)] (My_3, (Ry_3, S.2)) Q
    refine WP.cl (a := [vR (x + 2), vI s]) (rest := []) rfl rfl rfl rfl ⟨hSy_3.2.1.1, trivial⟩ (by decide) (k_takeOutStamp hSy_3.2.1 F_4.1.1.1 F_4.1.1.2.1 F_4.1.1.2.2.1 F_4.1.1.2.2.2 F_4.1.2 (by omega) (by omega) hl5 (fun My_6 fry_6 hky_6 => ⟨rfl, ?_⟩))
    show WP 6 67 43 [vR x, vI s] [] (My_6, (Ry_3, S.2)) Q
    have hty_6 : TurR My_6 := TurR_fr (fun r9 h8 h9 => fry_6 r9 (by omega)) F_4.2.2
    have F_7 : HisN My_6 (Ry_3, S.2) (x + 26) p sv f := (HisN_fr hHy_3) (fun r9 h8 h9 => fry_6 r9 (by omega)) hNy_3
    have fr_8 : (∀ q9, (q9 < x + 2 ∨ x + 14 ≤ q9) → (q9 < x + 26 ∨ x + 86 ≤ q9) → My_6 q9 = M q9) := fun q9 q0 q1 => (fry_6 q9 (by omega)).trans (fr_5 q9 q0 q1)
    refine WP.blk 2 ?_
    show (sT (Ry_3, S.2) x = 9 ∧ sR (Ry_3, S.2) x 5 ≠ 0) ∧ WP 6 67 47 [vR x, vI s] [vR (sR (Ry_3, S.2) x 5)] (My_6, (Ry_3, S.2)) Q
    refine ⟨⟨hSy_3.1.1, by rw [(show sR (Ry_3, S.2) x 5 = x + 76 from hSy_3.1.2.2.2.2.2.1)]; omega⟩, ?_⟩
    rw [(show sR (Ry_3, S.2) x 5 = x + 76 from hSy_3.1.2.2.2.2.2.1)]
    refine WP.blk 2 ?_
    show (sT (Ry_3, S.2) x = 9 ∧ sR (Ry_3, S.2) x 2 ≠ 0) ∧ WP 6 67 51 [vR x, vI s] [vR (sR (Ry_3, S.2) x 2), vR (x + 76)] (My_6, (Ry_3, S.2)) Q
    refine ⟨⟨hSy_3.1.1, by rw [(show sR (Ry_3, S.2) x 2 = x + 2 from hSy_3.1.2.2.1)]; omega⟩, ?_⟩
    rw [(show sR (Ry_3, S.2) x 2 = x + 2 from hSy_3.1.2.2.1)]
    refine WP.cl (a := [vR (x + 76), vR (x + 2)]) (rest := []) rfl rfl rfl rfl ⟨hSy_3.2.2.2.2.1.1, trivial⟩ (by decide) (k_rebuild hSy_3.2.1 hSy_3.2.2.2.2.1 hSy_3.2.2.2.2.2.2.2.2.2 (by omega) (by omega) (by omega) hty_6 hky_6.1.1 hky_6.1.2.1 hRg.1 hRg.2.1.1.2 (fun w a b => (hRg.2.1.2 w a b).1.2.2.2.1) (fun My_9 fry_9 hky_9 => ⟨rfl, ?_⟩))
    show WP 6 67 54 [vR x, vI s] [] (My_9, (Ry_3, S.2)) Q
    have F_10 : HisN My_9 (Ry_3, S.2) (x + 26) p sv f := (HisN_fr hHy_3) (fun r9 h8 h9 => fry_9 r9 (by omega)) F_7
    have F_11 : Sht My_9 (x + 2) (remR f s) := Sht_fr (fun r9 h8 h9 => fry_9 r9 (by omega)) hky_6
    have F_12 : TurR My_9 := TurR_fr (fun r9 h8 h9 => fry_9 r9 (by omega)) hty_6
    have fr_13 : (∀ q9, (q9 < x + 2 ∨ x + 14 ≤ q9) → (q9 < x + 26 ∨ x + 86 ≤ q9) → My_9 q9 = M q9) := fun q9 q0 q1 => (fry_9 q9 (by omega)).trans (fr_8 q9 q0 q1)
    refine WP.blk 2 ?_
    show (sT (Ry_3, S.2) x = 9 ∧ sR (Ry_3, S.2) x 2 ≠ 0) ∧ WP 6 67 58 [vR x, vI s] [vR (sR (Ry_3, S.2) x 2)] (My_9, (Ry_3, S.2)) Q
    refine ⟨⟨hSy_3.1.1, by rw [(show sR (Ry_3, S.2) x 2 = x + 2 from hSy_3.1.2.2.1)]; omega⟩, ?_⟩
    rw [(show sR (Ry_3, S.2) x 2 = x + 2 from hSy_3.1.2.2.1)]
    refine WP.blk 1 ?_
    show (sT (Ry_3, S.2) (x + 2) = 8 ∧ sR (Ry_3, S.2) (x + 2) 0 ≠ 0) ∧ WP 6 67 61 [vR x, vI s] [vR (sR (Ry_3, S.2) (x + 2) 0)] (My_9, (Ry_3, S.2)) Q
    refine ⟨⟨hSy_3.2.1.1, by rw [(show sR (Ry_3, S.2) (x + 2) 0 = x + 3 from hSy_3.2.1.2.1)]; omega⟩, ?_⟩
    rw [(show sR (Ry_3, S.2) (x + 2) 0 = x + 3 from hSy_3.2.1.2.1)]
    refine WP.blk 1 ?_
    show sT (Ry_3, S.2) (x + 3) = 7 ∧ WP 6 67 64 [vR x, vI s] [vI (My_9 (x + 3) 4)] (My_9, (Ry_3, S.2)) Q
    rw [(F_11.1.1.1.2.2.trans remR_0)]
    refine ⟨hSy_3.2.1.2.2.2.2.2.1.1, ?_⟩
    exact WP.ret rfl rfl rfl trivial (k _ _ _ fr_13 hry_3 hSy_3 ⟨F_11, hky_9, F_12⟩ F_10 (by omega) (by omega))
  · have p_1 := (hb_1.resolve_left (fun h => by omega)).2
    exact WP.thr rfl rfl rfl rfl rfl (by decide) (k3 (by omega))
set_option maxHeartbeats 4000000 in
theorem t_drop {S : SD} {M : Nat → Int → Int} {x : Nat} {f : Int → Int} {B : Int} {p : Int → Int} {sv : Int} {s : Int} (hS : isRub S x) (has : AskR M x f) (hx3 : 3 ≤ x) (hR : RowOk B f) (hhi : HisF M S (x + 26) p sv) {Q : Res → Wd → Prop} (k : ∀ (v : Int) (M2 : Nat → Int → Int) (R2 : Nat → Int → Nat), (∀ q9, (q9 < x + 2 ∨ x + 14 ≤ q9) → (q9 < x + 26 ∨ x + 86 ≤ q9) → M2 q9 = M q9) → (∀ r i, r ≠ x + 27 → R2 r i = sR S r i) → isRub (R2, S.2) x → AskR M2 x (dropR f s) → HisN M2 (R2, S.2) (x + 26) p sv f → (0 ≤ s ∧ s < f 1) → v = f 1 - 1 → Q (0, vI v) (M2, (R2, S.2))) (k3 : ¬ (0 ≤ s ∧ s < f 1) → Q (3, none) (tk (M, S))) : EvQ 7 68 [vR x, vI s] (M, S) Q := by
  refine EvQ.enter (ls := [vR x, vI s]) (Nat.le_of_ble_eq_true rfl) rfl ?_
  have hA := hR.1
  have hA1 := hA.1
  have hWA := hR.2.1
  have hW1 := hWA.1
  have hI := hR.2.2
  have hI2 := hI.2.1
  have hI3 := hI.2.2.1
  obtain ⟨xf, hxf⟩ := fresh_ex hA1
  obtain ⟨hl5, hl12⟩ := ask_len has
  refine WP.blk 2 ?_
  show (sT S x = 9 ∧ sR S x 2 ≠ 0) ∧ WP 6 68 4 [vR x, vI s] [vR (sR S x 2)] (M, S) Q
  refine ⟨⟨hS.1.1, by rw [(show sR S x 2 = x + 2 from hS.1.2.2.1)]; omega⟩, ?_⟩
  rw [(show sR S x 2 = x + 2 from hS.1.2.2.1)]
  refine WP.blk 1 ?_
  show (sT S (x + 2) = 8 ∧ sR S (x + 2) 1 ≠ 0) ∧ WP 6 68 7 [vR x, vI s] [vR (sR S (x + 2) 1)] (M, S) Q
  refine ⟨⟨hS.2.1.1, by rw [(show sR S (x + 2) 1 = x + 6 from hS.2.1.2.2.1)]; omega⟩, ?_⟩
  rw [(show sR S (x + 2) 1 = x + 6 from hS.2.1.2.2.1)]
  refine WP.blk 1 ?_
  show WP 6 68 8 [vR x, vI s] [vI s, vR (x + 6)] (M, S) Q
  refine WP.cl (a := [vR (x + 6), vI s]) (rest := []) rfl rfl rfl rfl ⟨hS.2.1.2.2.2.2.2.2.1.1, trivial⟩ (by decide) (k_has hS.2.1.2.2.2.2.2.2.1 has.1.1.2.1 (by omega) (fun b_1 hb_1 => ⟨rfl, ?_⟩))
  show WP 6 68 11 [vR x, vI s] [vI b_1] (M, S) Q
  refine WP.blk 1 ?_
  show WP 6 68 (if cnd .ne b_1 0 = true then 24 else 14) [vR x, vI s] [] (M, S) Q
  refine br_ne (fun c_2 => ?_) (fun c_2 => ?_)
  · have p_1 := (hb_1.resolve_right (fun h => by omega)).2
    have hRg := row_drop hR (show 0 ≤ s ∧ s < f 1 by omega)
    refine WP.blk 2 ?_
    show (sT S x = 9 ∧ sR S x 4 ≠ 0) ∧ WP 6 68 28 [vR x, vI s] [vR (sR S x 4)] (M, S) Q
    refine ⟨⟨hS.1.1, by rw [(show sR S x 4 = x + 26 from hS.1.2.2.2.2.1)]; omega⟩, ?_⟩
    rw [(show sR S x 4 = x + 26 from hS.1.2.2.2.2.1)]
    refine WP.blk 2 ?_
    show (sT S x = 9 ∧ sR S x 2 ≠ 0) ∧ WP 6 68 32 [vR x, vI s] [vR (sR S x 2), vR (x + 26)] (M, S) Q
    refine ⟨⟨hS.1.1, by rw [(show sR S x 2 = x + 2 from hS.1.2.2.1)]; omega⟩, ?_⟩
    rw [(show sR S x 2 = x + 2 from hS.1.2.2.1)]
    refine WP.cl (a := [vR (x + 26), vR (x + 2)]) (rest := []) rfl rfl rfl rfl ⟨hS.2.2.2.1.1.1, trivial⟩ (by decide) (k_push hS.2.2.2.1 hS.2.1 (by omega) hhi has.1 (by omega) (by omega) (fun My_3 Ry_3 fry_3 hry_3 hHy_3 hNy_3 => ⟨rfl, ?_⟩))
    show WP 6 68 35 [vR x, vI s] [] (My_3, (Ry_3, S.2)) Q
    have hSy_3 := rub_s hry_3 hHy_3 hS
    have F_4 : AskR My_3 x f := AskR_fr (fun r9 h7 h8 h9 => fry_3 r9 (by omega)) has
    have fr_5 : (∀ q9, (q9 < x + 2 ∨ x + 14 ≤ q9) → (q9 < x + 26 ∨ x + 86 ≤ q9) → My_3 q9 = M q9) := fun q9 q0 q1 => (fry_3 q9 (by omega)).trans ((fun _ _ _ => rfl) q9 q0 q1)
    refine WP.blk 2 ?_
    show (sT (Ry_3, S.2) x = 9 ∧ sR (Ry_3, S.2) x 2 ≠ 0) ∧ WP 6 68 39 [vR x, vI s] [vR (sR (Ry_3, S.2) x 2)] (My_3, (Ry_3, S.2)) Q
    refine ⟨⟨hSy_3.1.1, by rw [(show sR (Ry_3, S.2) x 2 = x + 2 from hSy_3.1.2.2.1)]; omega⟩, ?_⟩
    rw [(show sR (Ry_3, S.2) x 2 = x + 2 from hSy_3.1.2.2.1)]
    refine WP.blk 1 ?_
    show WP 6 68 40 [vR x, vI s] [vI s, vR (x + 2)] (My_3, (Ry_3, S.2)) Q
    refine WP.cl (a := [vR (x + 2), vI s]) (rest := []) rfl rfl rfl rfl ⟨hSy_3.2.1.1, trivial⟩ (by decide) (k_takeOutWord hSy_3.2.1 F_4.1.1.1 F_4.1.1.2.1 F_4.1.1.2.2.1 F_4.1.1.2.2.2 F_4.1.2 (by omega) (by omega) (by omega) hl12 hl5 (fun My_6 fry_6 hky_6 => ⟨rfl, ?_⟩))
    show WP 6 68 43 [vR x, vI s] [] (My_6, (Ry_3, S.2)) Q
    have hty_6 : TurR My_6 := TurR_fr (fun r9 h8 h9 => fry_6 r9 (by omega)) F_4.2.2
    have F_7 : HisN My_6 (Ry_3, S.2) (x + 26) p sv f := (HisN_fr hHy_3) (fun r9 h8 h9 => fry_6 r9 (by omega)) hNy_3
    have fr_8 : (∀ q9, (q9 < x + 2 ∨ x + 14 ≤ q9) → (q9 < x + 26 ∨ x + 86 ≤ q9) → My_6 q9 = M q9) := fun q9 q0 q1 => (fry_6 q9 (by omega)).trans (fr_5 q9 q0 q1)
    refine WP.blk 2 ?_
    show (sT (Ry_3, S.2) x = 9 ∧ sR (Ry_3, S.2) x 5 ≠ 0) ∧ WP 6 68 47 [vR x, vI s] [vR (sR (Ry_3, S.2) x 5)] (My_6, (Ry_3, S.2)) Q
    refine ⟨⟨hSy_3.1.1, by rw [(show sR (Ry_3, S.2) x 5 = x + 76 from hSy_3.1.2.2.2.2.2.1)]; omega⟩, ?_⟩
    rw [(show sR (Ry_3, S.2) x 5 = x + 76 from hSy_3.1.2.2.2.2.2.1)]
    refine WP.blk 2 ?_
    show (sT (Ry_3, S.2) x = 9 ∧ sR (Ry_3, S.2) x 2 ≠ 0) ∧ WP 6 68 51 [vR x, vI s] [vR (sR (Ry_3, S.2) x 2), vR (x + 76)] (My_6, (Ry_3, S.2)) Q
    refine ⟨⟨hSy_3.1.1, by rw [(show sR (Ry_3, S.2) x 2 = x + 2 from hSy_3.1.2.2.1)]; omega⟩, ?_⟩
    rw [(show sR (Ry_3, S.2) x 2 = x + 2 from hSy_3.1.2.2.1)]
    refine WP.cl (a := [vR (x + 76), vR (x + 2)]) (rest := []) rfl rfl rfl rfl ⟨hSy_3.2.2.2.2.1.1, trivial⟩ (by decide) (k_rebuild hSy_3.2.1 hSy_3.2.2.2.2.1 hSy_3.2.2.2.2.2.2.2.2.2 (by omega) (by omega) (by omega) hty_6 hky_6.1.1 hky_6.1.2.1 hRg.1 hRg.2.1.1.2 (fun w a b => (hRg.2.1.2 w a b).1.2.2.2.1) (fun My_9 fry_9 hky_9 => ⟨rfl, ?_⟩))
    show WP 6 68 54 [vR x, vI s] [] (My_9, (Ry_3, S.2)) Q
    have F_10 : HisN My_9 (Ry_3, S.2) (x + 26) p sv f := (HisN_fr hHy_3) (fun r9 h8 h9 => fry_9 r9 (by omega)) F_7
    have F_11 : Sht My_9 (x + 2) (dropR f s) := Sht_fr (fun r9 h8 h9 => fry_9 r9 (by omega)) hky_6
    have F_12 : TurR My_9 := TurR_fr (fun r9 h8 h9 => fry_9 r9 (by omega)) hty_6
    have fr_13 : (∀ q9, (q9 < x + 2 ∨ x + 14 ≤ q9) → (q9 < x + 26 ∨ x + 86 ≤ q9) → My_9 q9 = M q9) := fun q9 q0 q1 => (fry_9 q9 (by omega)).trans (fr_8 q9 q0 q1)
    refine WP.blk 2 ?_
    show (sT (Ry_3, S.2) x = 9 ∧ sR (Ry_3, S.2) x 2 ≠ 0) ∧ WP 6 68 58 [vR x, vI s] [vR (sR (Ry_3, S.2) x 2)] (My_9, (Ry_3, S.2)) Q
    refine ⟨⟨hSy_3.1.1, by rw [(show sR (Ry_3, S.2) x 2 = x + 2 from hSy_3.1.2.2.1)]; omega⟩, ?_⟩
    rw [(show sR (Ry_3, S.2) x 2 = x + 2 from hSy_3.1.2.2.1)]
    refine WP.blk 1 ?_
    show (sT (Ry_3, S.2) (x + 2) = 8 ∧ sR (Ry_3, S.2) (x + 2) 1 ≠ 0) ∧ WP 6 68 61 [vR x, vI s] [vR (sR (Ry_3, S.2) (x + 2) 1)] (My_9, (Ry_3, S.2)) Q
    refine ⟨⟨hSy_3.2.1.1, by rw [(show sR (Ry_3, S.2) (x + 2) 1 = x + 6 from hSy_3.2.1.2.2.1)]; omega⟩, ?_⟩
    rw [(show sR (Ry_3, S.2) (x + 2) 1 = x + 6 from hSy_3.2.1.2.2.1)]
    refine WP.blk 1 ?_
    show sT (Ry_3, S.2) (x + 6) = 7 ∧ WP 6 68 64 [vR x, vI s] [vI (My_9 (x + 6) 4)] (My_9, (Ry_3, S.2)) Q
    rw [(F_11.1.2.1.1.2.2.trans dropR_1)]
    refine ⟨hSy_3.2.1.2.2.2.2.2.2.1.1, ?_⟩
    exact WP.ret rfl rfl rfl trivial (k _ _ _ fr_13 hry_3 hSy_3 ⟨F_11, hky_9, F_12⟩ F_10 (by omega) (by omega))
  · have p_1 := (hb_1.resolve_left (fun h => by omega)).2
    exact WP.thr rfl rfl rfl rfl rfl (by decide) (k3 (by omega))
set_option maxHeartbeats 4000000 in
theorem t_write {S : SD} {M : Nat → Int → Int} {x : Nat} {f : Int → Int} {B : Int} {p : Int → Int} {sv : Int} {w : Int} (hS : isRub S x) (has : AskR M x f) (hx3 : 3 ≤ x) (hR : RowOk B f) (hhi : HisF M S (x + 26) p sv) (hB : 0 ≤ B ∧ B ≤ 1000000000 - 400) {Q : Res → Wd → Prop} (k : ∀ (v : Int) (c : Int → Int) (M2 : Nat → Int → Int) (R2 : Nat → Int → Nat), (∀ q9, (q9 < x + 2 ∨ x + 14 ≤ q9) → (q9 < x + 26 ∨ x + 86 ≤ q9) → M2 q9 = M q9) → (∀ r i, r ≠ x + 27 → R2 r i = sR S r i) → isRub (R2, S.2) x → AskR M2 x (car (f (97 + 14 * w + 1)) c f v) → HisN M2 (R2, S.2) (x + 26) p sv f → (0 ≤ w ∧ w < f 1) → ∀ n, Wrt f w c n → v = n → Q (0, vI v) (M2, (R2, S.2))) (k3 : ¬ (0 ≤ w ∧ w < f 1) → Q (3, none) (tk (M, S))) (k2 : ∀ (M2 : Nat → Int → Int), (∀ q9, (q9 < x + 2 ∨ x + 14 ≤ q9) → (q9 < x + 26 ∨ x + 86 ≤ q9) → M2 q9 = M q9) → (0 ≤ w ∧ w < f 1) → (∀ c n, ¬ Wrt f w c n) → AskR M2 x f → HisF M2 S (x + 26) p sv → Q (2, none) (tk (M2, S))) : EvQ 6 78 [vR x, vI w] (M, S) Q := by
  refine EvQ.enter (ls := [vR x, vI w, none]) (Nat.le_of_ble_eq_true rfl) rfl ?_
  have hA := hR.1
  have hA1 := hA.1
  have hWA := hR.2.1
  have hW1 := hWA.1
  have hI := hR.2.2
  have hI2 := hI.2.1
  have hI3 := hI.2.2.1
  obtain ⟨xf, hxf⟩ := fresh_ex hA1
  have hWr : ∀ s, 0 ≤ s → s < f 0 → 0 ≤ f (7 + 9 * s + 8) ∧ f (7 + 9 * s + 8) ≤ 1000000000 := fun s a b => ⟨(hI.1 s a b).2.2.1, by have := (hI.1 s a b).2.2.2; omega⟩
  refine WP.blk 2 ?_
  show (sT S x = 9 ∧ sR S x 2 ≠ 0) ∧ WP 5 78 4 [vR x, vI w, none] [vR (sR S x 2)] (M, S) Q
  refine ⟨⟨hS.1.1, by rw [(show sR S x 2 = x + 2 from hS.1.2.2.1)]; omega⟩, ?_⟩
  rw [(show sR S x 2 = x + 2 from hS.1.2.2.1)]
  refine WP.blk 1 ?_
  show (sT S (x + 2) = 8 ∧ sR S (x + 2) 1 ≠ 0) ∧ WP 5 78 7 [vR x, vI w, none] [vR (sR S (x + 2) 1)] (M, S) Q
  refine ⟨⟨hS.2.1.1, by rw [(show sR S (x + 2) 1 = x + 6 from hS.2.1.2.2.1)]; omega⟩, ?_⟩
  rw [(show sR S (x + 2) 1 = x + 6 from hS.2.1.2.2.1)]
  refine WP.blk 1 ?_
  show WP 5 78 8 [vR x, vI w, none] [vI w, vR (x + 6)] (M, S) Q
  refine WP.cl (a := [vR (x + 6), vI w]) (rest := []) rfl rfl rfl rfl ⟨hS.2.1.2.2.2.2.2.2.1.1, trivial⟩ (by decide) (k_has hS.2.1.2.2.2.2.2.2.1 has.1.1.2.1 (by omega) (fun b_1 hb_1 => ⟨rfl, ?_⟩))
  show WP 5 78 11 [vR x, vI w, none] [vI b_1] (M, S) Q
  refine WP.blk 1 ?_
  show WP 5 78 (if cnd .ne b_1 0 = true then 24 else 14) [vR x, vI w, none] [] (M, S) Q
  refine br_ne (fun c_2 => ?_) (fun c_2 => ?_)
  · have p_1 := (hb_1.resolve_right (fun h => by omega)).2
    refine WP.blk 2 ?_
    show WP 5 78 26 [vR x, vI w, none] [vI w, vR x] (M, S) Q
    refine WP.cl (a := [vR x, vI w]) (rest := []) rfl rfl rfl rfl ⟨hS.1.1, trivial⟩ (by decide) (t_bestPlan hS has hx3 hR (by omega) hxf (fun My_3 fry_3 hky_3 => ⟨rfl, ?_⟩))
    show WP 5 78 29 [vR x, vI w, none] [vR (x + 78)] (My_3, S) Q
    have F_4 : AskR My_3 x f := AskR_fr (fun r9 h7 h8 h9 => fry_3 r9 (by omega)) has
    have F_5 : HisF My_3 S (x + 26) p sv := (HisF_fr hS.2.2.2.1) (fun r9 h8 h9 => fry_3 r9 (by omega)) hhi
    have fr_6 : (∀ q9, (q9 < x + 2 ∨ x + 14 ≤ q9) → (q9 < x + 26 ∨ x + 86 ≤ q9) → My_3 q9 = M q9) := fun q9 q0 q1 => (fry_3 q9 (by omega)).trans ((fun _ _ _ => rfl) q9 q0 q1)
    have hnoy_3 := plnR_no hA (hWA.2 w (by omega) (by omega)).1 hxf hky_3
    refine WP.blk 4 ?_
    show (sT S x = 9 ∧ sR S x 2 ≠ 0) ∧ WP 5 78 35 [vR x, vI w, vR (x + 78)] [vR (sR S x 2), vR (x + 78)] (My_3, S) Q
    refine ⟨⟨hS.1.1, by rw [(show sR S x 2 = x + 2 from hS.1.2.2.1)]; omega⟩, ?_⟩
    rw [(show sR S x 2 = x + 2 from hS.1.2.2.1)]
    refine WP.blk 1 ?_
    show (sT S (x + 2) = 8 ∧ sR S (x + 2) 3 ≠ 0) ∧ WP 5 78 38 [vR x, vI w, vR (x + 78)] [vR (sR S (x + 2) 3), vR (x + 78)] (My_3, S) Q
    refine ⟨⟨hS.2.1.1, by rw [(show sR S (x + 2) 3 = x + 10 from hS.2.1.2.2.2.2.1)]; omega⟩, ?_⟩
    rw [(show sR S (x + 2) 3 = x + 10 from hS.2.1.2.2.2.2.1)]
    refine WP.blk 2 ?_
    show (sT S x = 9 ∧ sR S x 2 ≠ 0) ∧ WP 5 78 42 [vR x, vI w, vR (x + 78)] [vR (sR S x 2), vR (x + 10), vR (x + 78)] (My_3, S) Q
    refine ⟨⟨hS.1.1, by rw [(show sR S x 2 = x + 2 from hS.1.2.2.1)]; omega⟩, ?_⟩
    rw [(show sR S x 2 = x + 2 from hS.1.2.2.1)]
    refine WP.blk 1 ?_
    show sT S (x + 2) = 8 ∧ WP 5 78 45 [vR x, vI w, vR (x + 78)] [vI (My_3 (x + 2) 4), vR (x + 10), vR (x + 78)] (My_3, S) Q
    rw [F_4.1.1.2.2.2.1]
    refine ⟨hS.2.1.1, ?_⟩
    refine WP.cl (a := [vR (x + 78), vR (x + 10), vI (f 2)]) (rest := []) rfl rfl rfl rfl ⟨hS.2.2.2.2.2.1.1, trivial⟩ (by decide) (k_possible hS.2.2.2.2.2.1 hS.2.1.2.2.2.2.2.2.2.2.2 F_4.1.2 hA (hWA.2 w (by omega) (by omega)).1 hxf hky_3 rfl hWr (fun q7 hq7 => ⟨rfl, ?_⟩))
    show WP 5 78 48 [vR x, vI w, vR (x + 78)] [vI q7] (My_3, S) Q
    replace hq7 : PosR My_3 (x + 78) f w q7 := hq7
    have hz7 := posR_b hq7
    refine WP.blk 1 ?_
    show WP 5 78 (if cnd .ne q7 0 = true then 61 else 51) [vR x, vI w, vR (x + 78)] [] (My_3, S) Q
    refine br_ne (fun c_8 => ?_) (fun c_8 => ?_)
    · obtain ⟨nw, cw, hcan, hpw1, hpw2⟩ := posR_t hq7 (by omega)
      have hpw : PlnW My_3 (x + 78) cw nw := ⟨hpw1, hpw2⟩
      clear hpw1 hpw2
      have hpl := wrt_pl hA (hWA.2 w (by omega) (by omega)).1 hcan
      have hpl1 := hpl.1
      have hcol := (hWA.2 w (by omega) (by omega)).2
      refine WP.blk 2 ?_
      show (sT S x = 9 ∧ sR S x 4 ≠ 0) ∧ WP 5 78 65 [vR x, vI w, vR (x + 78)] [vR (sR S x 4)] (My_3, S) Q
      refine ⟨⟨hS.1.1, by rw [(show sR S x 4 = x + 26 from hS.1.2.2.2.2.1)]; omega⟩, ?_⟩
      rw [(show sR S x 4 = x + 26 from hS.1.2.2.2.2.1)]
      refine WP.blk 2 ?_
      show (sT S x = 9 ∧ sR S x 2 ≠ 0) ∧ WP 5 78 69 [vR x, vI w, vR (x + 78)] [vR (sR S x 2), vR (x + 26)] (My_3, S) Q
      refine ⟨⟨hS.1.1, by rw [(show sR S x 2 = x + 2 from hS.1.2.2.1)]; omega⟩, ?_⟩
      rw [(show sR S x 2 = x + 2 from hS.1.2.2.1)]
      refine WP.cl (a := [vR (x + 26), vR (x + 2)]) (rest := []) rfl rfl rfl rfl ⟨hS.2.2.2.1.1.1, trivial⟩ (by decide) (k_push hS.2.2.2.1 hS.2.1 (by omega) F_5 F_4.1 (by omega) (by omega) (fun My_9 Ry_9 fry_9 hry_9 hHy_9 hNy_9 => ⟨rfl, ?_⟩))
      show WP 5 78 72 [vR x, vI w, vR (x + 78)] [] (My_9, (Ry_9, S.2)) Q
      have hSy_9 := rub_s hry_9 hHy_9 hS
      have F_10 : AskR My_9 x f := AskR_fr (fun r9 h7 h8 h9 => fry_9 r9 (by omega)) F_4
      have F_11 : PlnR My_9 (x + 78) f w xf := PlnR_fr (fun r9 h8 h9 => fry_9 r9 (by omega)) hky_3
      have F_12 : PlnW My_9 (x + 78) cw nw := PlnW_fr (fun r9 h8 h9 => fry_9 r9 (by omega)) hpw
      have fr_13 : (∀ q9, (q9 < x + 2 ∨ x + 14 ≤ q9) → (q9 < x + 26 ∨ x + 86 ≤ q9) → My_9 q9 = M q9) := fun q9 q0 q1 => (fry_9 q9 (by omega)).trans (fr_6 q9 q0 q1)
      refine WP.blk 3 ?_
      show (sT (Ry_9, S.2) x = 9 ∧ sR (Ry_9, S.2) x 2 ≠ 0) ∧ WP 5 78 77 [vR x, vI w, vR (x + 78)] [vR (sR (Ry_9, S.2) x 2), vR (x + 78)] (My_9, (Ry_9, S.2)) Q
      refine ⟨⟨hSy_9.1.1, by rw [(show sR (Ry_9, S.2) x 2 = x + 2 from hSy_9.1.2.2.1)]; omega⟩, ?_⟩
      rw [(show sR (Ry_9, S.2) x 2 = x + 2 from hSy_9.1.2.2.1)]
      refine WP.blk 1 ?_
      show (sT (Ry_9, S.2) (x + 2) = 8 ∧ sR (Ry_9, S.2) (x + 2) 3 ≠ 0) ∧ WP 5 78 80 [vR x, vI w, vR (x + 78)] [vR (sR (Ry_9, S.2) (x + 2) 3), vR (x + 78)] (My_9, (Ry_9, S.2)) Q
      refine ⟨⟨hSy_9.2.1.1, by rw [(show sR (Ry_9, S.2) (x + 2) 3 = x + 10 from hSy_9.2.1.2.2.2.2.1)]; omega⟩, ?_⟩
      rw [(show sR (Ry_9, S.2) (x + 2) 3 = x + 10 from hSy_9.2.1.2.2.2.2.1)]
      refine WP.blk 2 ?_
      show (sT (Ry_9, S.2) x = 9 ∧ sR (Ry_9, S.2) x 2 ≠ 0) ∧ WP 5 78 84 [vR x, vI w, vR (x + 78)] [vR (sR (Ry_9, S.2) x 2), vR (x + 10), vR (x + 78)] (My_9, (Ry_9, S.2)) Q
      refine ⟨⟨hSy_9.1.1, by rw [(show sR (Ry_9, S.2) x 2 = x + 2 from hSy_9.1.2.2.1)]; omega⟩, ?_⟩
      rw [(show sR (Ry_9, S.2) x 2 = x + 2 from hSy_9.1.2.2.1)]
      refine WP.blk 1 ?_
      show WP 5 78 85 [vR x, vI w, vR (x + 78)] [vI w, vR (x + 2), vR (x + 10), vR (x + 78)] (My_9, (Ry_9, S.2)) Q
      refine WP.cl (a := [vR (x + 2), vI w]) (rest := [vR (x + 10), vR (x + 78)]) rfl rfl rfl rfl ⟨hSy_9.2.1.1, trivial⟩ (by decide) (k_colorOf hSy_9.2.1 F_10.1.1.2.2.1 (by omega) (by omega) ⟨rfl, ?_⟩)
      show WP 5 78 88 [vR x, vI w, vR (x + 78)] [vI (f (97 + 14 * w + 1)), vR (x + 10), vR (x + 78)] (My_9, (Ry_9, S.2)) Q
      refine WP.blk 2 ?_
      show (sT (Ry_9, S.2) x = 9 ∧ sR (Ry_9, S.2) x 2 ≠ 0) ∧ WP 5 78 92 [vR x, vI w, vR (x + 78)] [vR (sR (Ry_9, S.2) x 2), vI (f (97 + 14 * w + 1)), vR (x + 10), vR (x + 78)] (My_9, (Ry_9, S.2)) Q
      refine ⟨⟨hSy_9.1.1, by rw [(show sR (Ry_9, S.2) x 2 = x + 2 from hSy_9.1.2.2.1)]; omega⟩, ?_⟩
      rw [(show sR (Ry_9, S.2) x 2 = x + 2 from hSy_9.1.2.2.1)]
      refine WP.blk 1 ?_
      show sT (Ry_9, S.2) (x + 2) = 8 ∧ WP 5 78 95 [vR x, vI w, vR (x + 78)] [vI (My_9 (x + 2) 5), vI (f (97 + 14 * w + 1)), vR (x + 10), vR (x + 78)] (My_9, (Ry_9, S.2)) Q
      rw [F_10.1.1.2.2.2.2]
      refine ⟨hSy_9.2.1.1, ?_⟩
      refine WP.cl (a := [vR (x + 78), vR (x + 10), vI (f (97 + 14 * w + 1)), vI (f 3)]) (rest := []) rfl rfl rfl rfl ⟨hSy_9.2.2.2.2.2.1.1, trivial⟩ (by decide) (k_carryOut hSy_9.2.2.2.2.2.1 hSy_9.2.1.2.2.2.2.2.2.2.2.2 (by omega) F_10.1.2 hR (by omega) hcol rfl F_12.1 hpl1 F_12.2 hpl.2 (fun My_14 fry_14 hky_14 => ⟨rfl, ?_⟩))
      show WP 5 78 98 [vR x, vI w, vR (x + 78)] [] (My_14, (Ry_9, S.2)) Q
      have F_15 : PlnR My_14 (x + 78) f w xf := PlnR_fr (fun r9 h8 h9 => fry_14 r9 (by omega)) F_11
      have F_16 : PlnW My_14 (x + 78) cw nw := PlnW_fr (fun r9 h8 h9 => fry_14 r9 (by omega)) F_12
      have F_17 : HisN My_14 (Ry_9, S.2) (x + 26) p sv f := (HisN_fr hHy_9) (fun r9 h8 h9 => fry_14 r9 (by omega)) hNy_9
      have fr_18 : (∀ q9, (q9 < x + 2 ∨ x + 14 ≤ q9) → (q9 < x + 26 ∨ x + 86 ≤ q9) → My_14 q9 = M q9) := fun q9 q0 q1 => (fry_14 q9 (by omega)).trans (fr_13 q9 q0 q1)
      refine WP.blk 2 ?_
      show sT (Ry_9, S.2) (x + 78) = 6 ∧ WP 5 78 102 [vR x, vI w, vR (x + 78)] [vI (My_14 (x + 78) 3)] (My_14, (Ry_9, S.2)) Q
      rw [F_16.1]
      refine ⟨hSy_9.2.2.2.2.2.1.1, ?_⟩
      exact WP.ret rfl rfl rfl trivial (k _ _ _ _ fr_18 hry_9 hSy_9 (ask_ink F_10 hx3 (by omega) (car_row hR hB.1 hcol hpl1.1 hpl.2).2 (fun q hq => fry_14 q hq) hky_14) F_17 (by omega) _ hcan rfl)
    · exact WP.thr rfl rfl rfl rfl rfl (by decide) (k2 _ fr_6 (by omega) (posR_f hq7 (by omega)) F_4 F_5)
  · have p_1 := (hb_1.resolve_left (fun h => by omega)).2
    exact WP.thr rfl rfl rfl rfl rfl (by decide) (k3 (by omega))
