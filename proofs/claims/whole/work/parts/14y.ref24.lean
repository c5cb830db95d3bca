set_option maxHeartbeats 4000000 in
theorem r_takesLetters {S : SD} {M : Nat → Int → Int} {m : Nat} {f : Int → Int} {F o t : Int → Int} {sg a fi mo : Int} (hS : isMod S m) (hf : M (m + 1) = f) (ho : M m = o) (ht : M (m + 5) = t) (hl : 0 ≤ o 8 ∧ o 8 ≤ o 7 ∧ o 7 ≤ 150) (hps : ps t (st0 F) (o 8) = some (sg, f)) (h0 : sg ≠ 0) (ha : a = atS sg f) (hfi : fi = fiS sg f) (hmo : mo = moS sg) {Q : Res → Wd → Prop} (k : ∀ (b : Int) (M2 : Nat → Int → Int), (∀ r, r ≠ m → r ≠ m + 1 → M2 r = M r) → ∀ o2 g, M2 m = o2 → M2 (m + 1) = g → (o2 4 = o 4 ∧ o2 5 = o 5 ∧ o2 7 = o 7) → (o 8 ≤ o2 8 ∧ o2 8 ≤ o 7) → (∀ k, ¬ (0 ≤ k ∧ k < 195) → g k = F k) → (b = 1 ∧ ps t (st0 F) (o2 8) = some (0, g) ∧ o 8 < o2 8) ∨ (b = 0 ∧ Err t (o 7) (st0 F) (o2 8)) → Q (0, vI b) (M2, S)) : EvQ 3 129 [vR m, vI a, vI fi, vI mo] (M, S) Q := by
  refine EvQ.enter (ls := [vR m, vI a, vI fi, vI mo, none]) (Nat.le_of_ble_eq_true rfl) rfl ?_
  have hl_0 : ∀ (n_0 : Nat) (v4_0 : V) (M1 : Nat → Int → Int) (o1 : Int → Int) (g : Int → Int), ps t (st0 F) (o1 8) = some (sg, g) → a = atS sg g → fi = fiS sg g → o1 4 = o 4 ∧ o1 5 = o 5 ∧ o1 7 = o 7 → o 8 ≤ o1 8 ∧ o1 8 ≤ o 7 → M1 (m + 1) = g → M1 m = o1 → M1 (m + 5) = t → (∀ r, r ≠ m → r ≠ m + 1 → M1 r = M r) → (o 7 - o1 8).toNat < n_0 → WP 2 129 0 [vR m, vI a, vI fi, vI mo, v4_0] [] (M1, S) Q := by
    intro n_0
    induction n_0 with
    | zero => intro v4_0 M1 o1 g hq ha1 hfi1 hk1 ho8 z_0_0 z_0_1 z_0_2 fr_0 hm_0; exact absurd hm_0 (Nat.not_lt_zero _)
    | succ n_0 ih_0 =>
      intro v4_0 M1 o1 g hq ha1 hfi1 hk1 ho8 z_0_0 z_0_1 z_0_2 fr_0 hm_0
      obtain ⟨r1, r2, r3, r4⟩ := at_r (pw_i hq) h0
      rw [← ha1] at r1 r2 r3 r4
      rw [← hfi1] at r3
      rw [← hmo] at r2 r4
      have r5 : a + 1 ≤ fi ∧ fi ≤ a + 2 := by rw [r3]; split <;> omega
      clear r3
      refine WP.blk 3 ?_
      show WP 2 129 5 [vR m, vI a, vI fi, vI mo, v4_0] [vI 122, vI 97, vR m] (M1, S) Q
      refine WP.cl (a := [vR m, vI 97, vI 122]) (rest := []) rfl rfl rfl rfl ⟨hS.1.1, trivial⟩ (by decide) (r_isAt hS z_0_1 z_0_2 (by omega) (fun b_1 hb_1 => ⟨rfl, ?_⟩))
      show WP 2 129 8 [vR m, vI a, vI fi, vI mo, v4_0] [vI b_1] (M1, S) Q
      refine WP.blk 1 ?_
      show WP 2 129 (if cnd .eq b_1 0 = true then 69 else 11) [vR m, vI a, vI fi, vI mo, v4_0] [] (M1, S) Q
      refine br_eq (fun c_2 => ?_) (fun c_2 => ?_)
      · have p_1 := (hb_1.resolve_left (fun h => by omega)).2
        refine WP.blk 2 ?_
        show (sT S m = 10 ∧ sR S m 0 ≠ 0) ∧ WP 2 129 73 [vR m, vI a, vI fi, vI mo, v4_0] [vR (sR S m 0)] (M1, S) Q
        refine ⟨⟨hS.1.1, by rw [hS.1.2.1]; omega⟩, ?_⟩
        rw [hS.1.2.1]
        refine WP.blk 3 ?_
        show ((sT S (m + 1) = 11 ∨ sT S (m + 1) = 16 ∨ sT S (m + 1) = 17) ∧ 0 ≤ a ∧ a < (sN S (m + 1) : Int)) ∧ WP 2 129 (if cnd .le (M1 (m + 1) a) 0 = true then 93 else 78) [vR m, vI a, vI fi, vI mo, v4_0] [] (M1, S) Q
        rw [z_0_0]
        refine ⟨⟨Or.inl hS.2.1.1, by omega, by rw [hS.2.2.1]; omega⟩, ?_⟩
        refine br_le (fun c_3 => ?_) (fun c_3 => ?_)
        · refine WP.blk 10 ?_
          show sT S m = 10 ∧ ir ((M1 m 8) + 0) ∧ sT S m = 10 ∧ WP 2 129 115 [vR m, vI a, vI fi, vI mo, vI 0] [] (up M1 m 8 ((M1 m 8) + 0), S) Q
          rw [z_0_1]
          refine ⟨hS.1.1, (by unfold ir; omega), hS.1.1, ?_⟩
          generalize hM_4 : up M1 m 8 ((o1 8) + 0) = M_4
          have r_5 : M_4 (m + 1) = g := by rw [← hM_4]; exact (up_row (by omega)).trans z_0_0
          obtain ⟨g_7, hg_7⟩ : ∃ y9, y9 = uf o1 8 ((o1 8) + 0) := ⟨_, rfl⟩
          have r_6 : M_4 m = g_7 := by rw [← hM_4, hg_7, up_self, z_0_1]
          have t_8 : g_7 4 = o1 4 := by rw [hg_7]; exact uf_ne (by omega)
          have t_9 : g_7 5 = o1 5 := by rw [hg_7]; exact uf_ne (by omega)
          have t_10 : g_7 7 = o1 7 := by rw [hg_7]; exact uf_ne (by omega)
          have t_11 : g_7 8 = (o1 8) + 0 := by rw [hg_7]; exact uf_at _ _ (by omega)
          have r_12 : M_4 (m + 5) = t := by rw [← hM_4]; exact (up_row (by omega)).trans z_0_2
          have fr_13 : ∀ r, r ≠ m → r ≠ m + 1 → M_4 r = M r := fun r q0 q1 => by rw [← hM_4]; exact (up_row q0).trans (fr_0 r q0 q1)
          refine WP.blk 1 ?_
          show WP 2 129 117 [vR m, vI a, vI fi, vI mo, vI 0] [vI 0] (M_4, S) Q
          exact WP.ret rfl rfl rfl ⟨by omega, trivial⟩ (k _ _ fr_13 _ _ r_6 r_5 (by omega) (by omega) (pw_i hq).2.2.2.2 (Or.inr ⟨rfl, by rw [show g_7 8 = o1 8 by omega]; exact nx_F h0 ha1 hmo hq (by omega) (fun _ _ => by omega) (fun _ _ => by omega)⟩))
        · refine WP.blk 3 ?_
          show WP 2 129 83 [vR m, vI a, vI fi, vI mo, v4_0] [vI 59, vI 59, vR m] (M1, S) Q
          refine WP.cl (a := [vR m, vI 59, vI 59]) (rest := []) rfl rfl rfl rfl ⟨hS.1.1, trivial⟩ (by decide) (r_isAt hS z_0_1 z_0_2 (by omega) (fun b_14 hb_14 => ⟨rfl, ?_⟩))
          show WP 2 129 86 [vR m, vI a, vI fi, vI mo, v4_0] [vI b_14] (M1, S) Q
          refine WP.blk 1 ?_
          show WP 2 129 (if cnd .eq b_14 0 = true then 93 else 89) [vR m, vI a, vI fi, vI mo, v4_0] [] (M1, S) Q
          refine br_eq (fun c_15 => ?_) (fun c_15 => ?_)
          · have p_14 := (hb_14.resolve_left (fun h => by omega)).2
            refine WP.blk 10 ?_
            show sT S m = 10 ∧ ir ((M1 m 8) + 0) ∧ sT S m = 10 ∧ WP 2 129 115 [vR m, vI a, vI fi, vI mo, vI 0] [] (up M1 m 8 ((M1 m 8) + 0), S) Q
            rw [z_0_1]
            refine ⟨hS.1.1, (by unfold ir; omega), hS.1.1, ?_⟩
            generalize hM_16 : up M1 m 8 ((o1 8) + 0) = M_16
            have r_17 : M_16 (m + 1) = g := by rw [← hM_16]; exact (up_row (by omega)).trans z_0_0
            obtain ⟨g_19, hg_19⟩ : ∃ y9, y9 = uf o1 8 ((o1 8) + 0) := ⟨_, rfl⟩
            have r_18 : M_16 m = g_19 := by rw [← hM_16, hg_19, up_self, z_0_1]
            have t_20 : g_19 4 = o1 4 := by rw [hg_19]; exact uf_ne (by omega)
            have t_21 : g_19 5 = o1 5 := by rw [hg_19]; exact uf_ne (by omega)
            have t_22 : g_19 7 = o1 7 := by rw [hg_19]; exact uf_ne (by omega)
            have t_23 : g_19 8 = (o1 8) + 0 := by rw [hg_19]; exact uf_at _ _ (by omega)
            have r_24 : M_16 (m + 5) = t := by rw [← hM_16]; exact (up_row (by omega)).trans z_0_2
            have fr_25 : ∀ r, r ≠ m → r ≠ m + 1 → M_16 r = M r := fun r q0 q1 => by rw [← hM_16]; exact (up_row q0).trans (fr_0 r q0 q1)
            refine WP.blk 1 ?_
            show WP 2 129 117 [vR m, vI a, vI fi, vI mo, vI 0] [vI 0] (M_16, S) Q
            exact WP.ret rfl rfl rfl ⟨by omega, trivial⟩ (k _ _ fr_25 _ _ r_18 r_17 (by omega) (by omega) (pw_i hq).2.2.2.2 (Or.inr ⟨rfl, by rw [show g_19 8 = o1 8 by omega]; exact nx_F h0 ha1 hmo hq (by omega) (fun _ _ => by omega) (fun _ _ => by omega)⟩))
          · have p_14 := (hb_14.resolve_right (fun h => by omega)).2
            refine WP.blk 12 ?_
            show sT S m = 10 ∧ ir ((M1 m 8) + 1) ∧ sT S m = 10 ∧ WP 2 129 115 [vR m, vI a, vI fi, vI mo, vI 1] [] (up M1 m 8 ((M1 m 8) + 1), S) Q
            rw [z_0_1]
            refine ⟨hS.1.1, (by unfold ir; omega), hS.1.1, ?_⟩
            generalize hM_26 : up M1 m 8 ((o1 8) + 1) = M_26
            have r_27 : M_26 (m + 1) = g := by rw [← hM_26]; exact (up_row (by omega)).trans z_0_0
            obtain ⟨g_29, hg_29⟩ : ∃ y9, y9 = uf o1 8 ((o1 8) + 1) := ⟨_, rfl⟩
            have r_28 : M_26 m = g_29 := by rw [← hM_26, hg_29, up_self, z_0_1]
            have t_30 : g_29 4 = o1 4 := by rw [hg_29]; exact uf_ne (by omega)
            have t_31 : g_29 5 = o1 5 := by rw [hg_29]; exact uf_ne (by omega)
            have t_32 : g_29 7 = o1 7 := by rw [hg_29]; exact uf_ne (by omega)
            have t_33 : g_29 8 = (o1 8) + 1 := by rw [hg_29]; exact uf_at _ _ (by omega)
            have r_34 : M_26 (m + 5) = t := by rw [← hM_26]; exact (up_row (by omega)).trans z_0_2
            have fr_35 : ∀ r, r ≠ m → r ≠ m + 1 → M_26 r = M r := fun r q0 q1 => by rw [← hM_26]; exact (up_row q0).trans (fr_0 r q0 q1)
            refine WP.blk 1 ?_
            show WP 2 129 117 [vR m, vI a, vI fi, vI mo, vI 1] [vI 1] (M_26, S) Q
            exact WP.ret rfl rfl rfl ⟨by omega, trivial⟩ (k _ _ fr_35 _ _ r_28 r_27 (by omega) (by omega) (pw_i hq).2.2.2.2 (Or.inl ⟨rfl, nx_E h0 ha1 hq (by omega) (by omega) (by omega) (by omega), by omega⟩))
      · have p_1 := (hb_1.resolve_right (fun h => by omega)).2
        refine WP.blk 2 ?_
        show (sT S m = 10 ∧ sR S m 0 ≠ 0) ∧ WP 2 129 15 [vR m, vI a, vI fi, vI mo, v4_0] [vR (sR S m 0)] (M1, S) Q
        refine ⟨⟨hS.1.1, by rw [hS.1.2.1]; omega⟩, ?_⟩
        rw [hS.1.2.1]
        refine WP.blk 4 ?_
        show ((sT S (m + 1) = 11 ∨ sT S (m + 1) = 16 ∨ sT S (m + 1) = 17) ∧ 0 ≤ a ∧ a < (sN S (m + 1) : Int)) ∧ WP 2 129 (if cnd .ge (M1 (m + 1) a) mo = true then 69 else 21) [vR m, vI a, vI fi, vI mo, v4_0] [] (M1, S) Q
        rw [z_0_0]
        refine ⟨⟨Or.inl hS.2.1.1, by omega, by rw [hS.2.2.1]; omega⟩, ?_⟩
        refine br_ge (fun c_36 => ?_) (fun c_36 => ?_)
        · refine WP.blk 2 ?_
          show (sT S m = 10 ∧ sR S m 0 ≠ 0) ∧ WP 2 129 73 [vR m, vI a, vI fi, vI mo, v4_0] [vR (sR S m 0)] (M1, S) Q
          refine ⟨⟨hS.1.1, by rw [hS.1.2.1]; omega⟩, ?_⟩
          rw [hS.1.2.1]
          refine WP.blk 3 ?_
          show ((sT S (m + 1) = 11 ∨ sT S (m + 1) = 16 ∨ sT S (m + 1) = 17) ∧ 0 ≤ a ∧ a < (sN S (m + 1) : Int)) ∧ WP 2 129 (if cnd .le (M1 (m + 1) a) 0 = true then 93 else 78) [vR m, vI a, vI fi, vI mo, v4_0] [] (M1, S) Q
          rw [z_0_0]
          refine ⟨⟨Or.inl hS.2.1.1, by omega, by rw [hS.2.2.1]; omega⟩, ?_⟩
          refine br_le (fun c_37 => ?_) (fun c_37 => ?_)
          · refine WP.blk 10 ?_
            show sT S m = 10 ∧ ir ((M1 m 8) + 0) ∧ sT S m = 10 ∧ WP 2 129 115 [vR m, vI a, vI fi, vI mo, vI 0] [] (up M1 m 8 ((M1 m 8) + 0), S) Q
            rw [z_0_1]
            refine ⟨hS.1.1, (by unfold ir; omega), hS.1.1, ?_⟩
            generalize hM_38 : up M1 m 8 ((o1 8) + 0) = M_38
            have r_39 : M_38 (m + 1) = g := by rw [← hM_38]; exact (up_row (by omega)).trans z_0_0
            obtain ⟨g_41, hg_41⟩ : ∃ y9, y9 = uf o1 8 ((o1 8) + 0) := ⟨_, rfl⟩
            have r_40 : M_38 m = g_41 := by rw [← hM_38, hg_41, up_self, z_0_1]
            have t_42 : g_41 4 = o1 4 := by rw [hg_41]; exact uf_ne (by omega)
            have t_43 : g_41 5 = o1 5 := by rw [hg_41]; exact uf_ne (by omega)
            have t_44 : g_41 7 = o1 7 := by rw [hg_41]; exact uf_ne (by omega)
            have t_45 : g_41 8 = (o1 8) + 0 := by rw [hg_41]; exact uf_at _ _ (by omega)
            have r_46 : M_38 (m + 5) = t := by rw [← hM_38]; exact (up_row (by omega)).trans z_0_2
            have fr_47 : ∀ r, r ≠ m → r ≠ m + 1 → M_38 r = M r := fun r q0 q1 => by rw [← hM_38]; exact (up_row q0).trans (fr_0 r q0 q1)
            refine WP.blk 1 ?_
            show WP 2 129 117 [vR m, vI a, vI fi, vI mo, vI 0] [vI 0] (M_38, S) Q
            exact WP.ret rfl rfl rfl ⟨by omega, trivial⟩ (k _ _ fr_47 _ _ r_40 r_39 (by omega) (by omega) (pw_i hq).2.2.2.2 (Or.inr ⟨rfl, by rw [show g_41 8 = o1 8 by omega]; exact nx_F h0 ha1 hmo hq (by omega) (fun _ _ => by omega) (fun _ _ => by omega)⟩))
          · refine WP.blk 3 ?_
            show WP 2 129 83 [vR m, vI a, vI fi, vI mo, v4_0] [vI 59, vI 59, vR m] (M1, S) Q
            refine WP.cl (a := [vR m, vI 59, vI 59]) (rest := []) rfl rfl rfl rfl ⟨hS.1.1, trivial⟩ (by decide) (r_isAt hS z_0_1 z_0_2 (by omega) (fun b_48 hb_48 => ⟨rfl, ?_⟩))
            show WP 2 129 86 [vR m, vI a, vI fi, vI mo, v4_0] [vI b_48] (M1, S) Q
            refine WP.blk 1 ?_
            show WP 2 129 (if cnd .eq b_48 0 = true then 93 else 89) [vR m, vI a, vI fi, vI mo, v4_0] [] (M1, S) Q
            refine br_eq (fun c_49 => ?_) (fun c_49 => ?_)
            · have p_48 := (hb_48.resolve_left (fun h => by omega)).2
              refine WP.blk 10 ?_
              show sT S m = 10 ∧ ir ((M1 m 8) + 0) ∧ sT S m = 10 ∧ WP 2 129 115 [vR m, vI a, vI fi, vI mo, vI 0] [] (up M1 m 8 ((M1 m 8) + 0), S) Q
              rw [z_0_1]
              refine ⟨hS.1.1, (by unfold ir; omega), hS.1.1, ?_⟩
              generalize hM_50 : up M1 m 8 ((o1 8) + 0) = M_50
              have r_51 : M_50 (m + 1) = g := by rw [← hM_50]; exact (up_row (by omega)).trans z_0_0
              obtain ⟨g_53, hg_53⟩ : ∃ y9, y9 = uf o1 8 ((o1 8) + 0) := ⟨_, rfl⟩
              have r_52 : M_50 m = g_53 := by rw [← hM_50, hg_53, up_self, z_0_1]
              have t_54 : g_53 4 = o1 4 := by rw [hg_53]; exact uf_ne (by omega)
              have t_55 : g_53 5 = o1 5 := by rw [hg_53]; exact uf_ne (by omega)
              have t_56 : g_53 7 = o1 7 := by rw [hg_53]; exact uf_ne (by omega)
              have t_57 : g_53 8 = (o1 8) + 0 := by rw [hg_53]; exact uf_at _ _ (by omega)
              have r_58 : M_50 (m + 5) = t := by rw [← hM_50]; exact (up_row (by omega)).trans z_0_2
              have fr_59 : ∀ r, r ≠ m → r ≠ m + 1 → M_50 r = M r := fun r q0 q1 => by rw [← hM_50]; exact (up_row q0).trans (fr_0 r q0 q1)
              refine WP.blk 1 ?_
              show WP 2 129 117 [vR m, vI a, vI fi, vI mo, vI 0] [vI 0] (M_50, S) Q
              exact WP.ret rfl rfl rfl ⟨by omega, trivial⟩ (k _ _ fr_59 _ _ r_52 r_51 (by omega) (by omega) (pw_i hq).2.2.2.2 (Or.inr ⟨rfl, by rw [show g_53 8 = o1 8 by omega]; exact nx_F h0 ha1 hmo hq (by omega) (fun _ _ => by omega) (fun _ _ => by omega)⟩))
            · have p_48 := (hb_48.resolve_right (fun h => by omega)).2
              refine WP.blk 12 ?_
              show sT S m = 10 ∧ ir ((M1 m 8) + 1) ∧ sT S m = 10 ∧ WP 2 129 115 [vR m, vI a, vI fi, vI mo, vI 1] [] (up M1 m 8 ((M1 m 8) + 1), S) Q
              rw [z_0_1]
              refine ⟨hS.1.1, (by unfold ir; omega), hS.1.1, ?_⟩
              generalize hM_60 : up M1 m 8 ((o1 8) + 1) = M_60
              have r_61 : M_60 (m + 1) = g := by rw [← hM_60]; exact (up_row (by omega)).trans z_0_0
              obtain ⟨g_63, hg_63⟩ : ∃ y9, y9 = uf o1 8 ((o1 8) + 1) := ⟨_, rfl⟩
              have r_62 : M_60 m = g_63 := by rw [← hM_60, hg_63, up_self, z_0_1]
              have t_64 : g_63 4 = o1 4 := by rw [hg_63]; exact uf_ne (by omega)
              have t_65 : g_63 5 = o1 5 := by rw [hg_63]; exact uf_ne (by omega)
              have t_66 : g_63 7 = o1 7 := by rw [hg_63]; exact uf_ne (by omega)
              have t_67 : g_63 8 = (o1 8) + 1 := by rw [hg_63]; exact uf_at _ _ (by omega)
              have r_68 : M_60 (m + 5) = t := by rw [← hM_60]; exact (up_row (by omega)).trans z_0_2
              have fr_69 : ∀ r, r ≠ m → r ≠ m + 1 → M_60 r = M r := fun r q0 q1 => by rw [← hM_60]; exact (up_row q0).trans (fr_0 r q0 q1)
              refine WP.blk 1 ?_
              show WP 2 129 117 [vR m, vI a, vI fi, vI mo, vI 1] [vI 1] (M_60, S) Q
              exact WP.ret rfl rfl rfl ⟨by omega, trivial⟩ (k _ _ fr_69 _ _ r_62 r_61 (by omega) (by omega) (pw_i hq).2.2.2.2 (Or.inl ⟨rfl, nx_E h0 ha1 hq (by omega) (by omega) (by omega) (by omega), by omega⟩))
        · refine WP.blk 2 ?_
          show (sT S m = 10 ∧ sR S m 0 ≠ 0) ∧ WP 2 129 25 [vR m, vI a, vI fi, vI mo, v4_0] [vR (sR S m 0)] (M1, S) Q
          refine ⟨⟨hS.1.1, by rw [hS.1.2.1]; omega⟩, ?_⟩
          rw [hS.1.2.1]
          refine WP.blk 3 ?_
          show (sT S m = 10 ∧ sR S m 0 ≠ 0) ∧ WP 2 129 30 [vR m, vI a, vI fi, vI mo, v4_0] [vR (sR S m 0), vI fi, vR (m + 1)] (M1, S) Q
          refine ⟨⟨hS.1.1, by rw [hS.1.2.1]; omega⟩, ?_⟩
          rw [hS.1.2.1]
          refine WP.blk 5 ?_
          show ((sT S (m + 1) = 11 ∨ sT S (m + 1) = 16 ∨ sT S (m + 1) = 17) ∧ 0 ≤ a ∧ a < (sN S (m + 1) : Int)) ∧ ir (fi + (M1 (m + 1) a)) ∧ (sT S m = 10 ∧ sR S m 6 ≠ 0) ∧ WP 2 129 37 [vR m, vI a, vI fi, vI mo, v4_0] [vR (sR S m 6), vI (fi + (M1 (m + 1) a)), vR (m + 1)] (M1, S) Q
          rw [z_0_0]
          refine ⟨⟨Or.inl hS.2.1.1, by omega, by rw [hS.2.2.1]; omega⟩, (by unfold ir; omega), ⟨hS.1.1, by rw [hS.1.2.2.2.2.2.1]; omega⟩, ?_⟩
          rw [hS.1.2.2.2.2.2.1]
          refine WP.blk 6 ?_
          show sT S m = 10 ∧ ((sT S (m + 5) = 11 ∨ sT S (m + 5) = 16 ∨ sT S (m + 5) = 17) ∧ 0 ≤ (M1 m 8) ∧ (M1 m 8) < (sN S (m + 5) : Int)) ∧ ir ((M1 (m + 5) (M1 m 8)) - 97) ∧ (sT S (m + 1) = 11 ∧ 0 ≤ (fi + (g a)) ∧ (fi + (g a)) < (sN S (m + 1) : Int)) ∧ WP 2 129 46 [vR m, vI a, vI fi, vI mo, v4_0] [] (up M1 (m + 1) (fi + (g a)) ((M1 (m + 5) (M1 m 8)) - 97), S) Q
          rw [z_0_1]
          rw [z_0_2]
          refine ⟨hS.1.1, ⟨Or.inl hS.2.1.2.2.2.2.1, by omega, by rw [hS.2.2.2.2.2.2.1]; omega⟩, (by unfold ir; omega), ⟨hS.2.1.1, by omega, by rw [hS.2.2.1]; omega⟩, ?_⟩
          generalize hM_70 : up M1 (m + 1) (fi + (g a)) ((t (o1 8)) - 97) = M_70
          obtain ⟨g_72, hg_72⟩ : ∃ y9, y9 = uf g (fi + (g a)) ((t (o1 8)) - 97) := ⟨_, rfl⟩
          have r_71 : M_70 (m + 1) = g_72 := by rw [← hM_70, hg_72, up_self, z_0_0]
          have t_73 : g_72 a = g a := by rw [hg_72]; exact uf_ne (by omega)
          have r_74 : M_70 m = o1 := by rw [← hM_70]; exact (up_row (by omega)).trans z_0_1
          have r_75 : M_70 (m + 5) = t := by rw [← hM_70]; exact (up_row (by omega)).trans z_0_2
          have fr_76 : ∀ r, r ≠ m → r ≠ m + 1 → M_70 r = M r := fun r q0 q1 => by rw [← hM_70]; exact (up_row q1).trans (fr_0 r q0 q1)
          refine WP.blk 2 ?_
          show (sT S m = 10 ∧ sR S m 0 ≠ 0) ∧ WP 2 129 50 [vR m, vI a, vI fi, vI mo, v4_0] [vR (sR S m 0)] (M_70, S) Q
          refine ⟨⟨hS.1.1, by rw [hS.1.2.1]; omega⟩, ?_⟩
          rw [hS.1.2.1]
          refine WP.blk 6 ?_
          show ((sT S (m + 1) = 11 ∨ sT S (m + 1) = 16 ∨ sT S (m + 1) = 17) ∧ 0 ≤ a ∧ a < (sN S (m + 1) : Int)) ∧ ir ((M_70 (m + 1) a) + 1) ∧ (sT S (m + 1) = 11 ∧ 0 ≤ a ∧ a < (sN S (m + 1) : Int)) ∧ WP 2 129 56 [vR m, vI a, vI fi, vI mo, v4_0] [] (up M_70 (m + 1) a ((M_70 (m + 1) a) + 1), S) Q
          rw [r_71]
          refine ⟨⟨Or.inl hS.2.1.1, by omega, by rw [hS.2.2.1]; omega⟩, (by unfold ir; omega), ⟨hS.2.1.1, by omega, by rw [hS.2.2.1]; omega⟩, ?_⟩
          generalize hM_77 : up M_70 (m + 1) a ((g_72 a) + 1) = M_77
          obtain ⟨g_79, hg_79⟩ : ∃ y9, y9 = uf g_72 a ((g_72 a) + 1) := ⟨_, rfl⟩
          have r_78 : M_77 (m + 1) = g_79 := by rw [← hM_77, hg_79, up_self, r_71]
          have t_80 : g_79 a = (g_72 a) + 1 := by rw [hg_79]; exact uf_at _ _ (by omega)
          have r_81 : M_77 m = o1 := by rw [← hM_77]; exact (up_row (by omega)).trans r_74
          have r_82 : M_77 (m + 5) = t := by rw [← hM_77]; exact (up_row (by omega)).trans r_75
          have fr_83 : ∀ r, r ≠ m → r ≠ m + 1 → M_77 r = M r := fun r q0 q1 => by rw [← hM_77]; exact (up_row q1).trans (fr_76 r q0 q1)
          refine WP.blk 6 ?_
          show sT S m = 10 ∧ ir ((M_77 m 8) + 1) ∧ sT S m = 10 ∧ WP 2 129 66 [vR m, vI a, vI fi, vI mo, v4_0] [] (up M_77 m 8 ((M_77 m 8) + 1), S) Q
          rw [r_81]
          refine ⟨hS.1.1, (by unfold ir; omega), hS.1.1, ?_⟩
          generalize hM_84 : up M_77 m 8 ((o1 8) + 1) = M_84
          have r_85 : M_84 (m + 1) = g_79 := by rw [← hM_84]; exact (up_row (by omega)).trans r_78
          obtain ⟨g_87, hg_87⟩ : ∃ y9, y9 = uf o1 8 ((o1 8) + 1) := ⟨_, rfl⟩
          have r_86 : M_84 m = g_87 := by rw [← hM_84, hg_87, up_self, r_81]
          have t_88 : g_87 4 = o1 4 := by rw [hg_87]; exact uf_ne (by omega)
          have t_89 : g_87 5 = o1 5 := by rw [hg_87]; exact uf_ne (by omega)
          have t_90 : g_87 7 = o1 7 := by rw [hg_87]; exact uf_ne (by omega)
          have t_91 : g_87 8 = (o1 8) + 1 := by rw [hg_87]; exact uf_at _ _ (by omega)
          have r_92 : M_84 (m + 5) = t := by rw [← hM_84]; exact (up_row (by omega)).trans r_82
          have fr_93 : ∀ r, r ≠ m → r ≠ m + 1 → M_84 r = M r := fun r q0 q1 => by rw [← hM_84]; exact (up_row q0).trans (fr_83 r q0 q1)
          refine WP.blk 1 ?_
          show WP 2 129 0 [vR m, vI a, vI fi, vI mo, v4_0] [] (M_84, S) Q
          exact ih_0 (v4_0) M_84 g_87 g_79 (nx_L (pw_i hq) h0 ha1 hfi1 hmo hq (by omega) (by omega) (by omega) (show g_79 = adL g a fi (t (o1 8) - 97) from by rw [hg_79, show g_72 a = g a by omega, hg_72]; rfl) (show g_87 8 = o1 8 + 1 by omega)).1 (nx_L (pw_i hq) h0 ha1 hfi1 hmo hq (by omega) (by omega) (by omega) (show g_79 = adL g a fi (t (o1 8) - 97) from by rw [hg_79, show g_72 a = g a by omega, hg_72]; rfl) (show g_87 8 = o1 8 + 1 by omega)).2.1 (nx_L (pw_i hq) h0 ha1 hfi1 hmo hq (by omega) (by omega) (by omega) (show g_79 = adL g a fi (t (o1 8) - 97) from by rw [hg_79, show g_72 a = g a by omega, hg_72]; rfl) (show g_87 8 = o1 8 + 1 by omega)).2.2 (by omega) (by omega) r_85 r_86 r_92 fr_93 (by omega)
  exact hl_0 _ (none) M o f hps ha hfi (by omega) (by omega) hf ho ht (fun _ _ _ => rfl) (Nat.lt_succ_self _)
set_option maxHeartbeats 4000000 in
theorem r_takesItem {S : SD} {M : Nat → Int → Int} {m : Nat} {f : Int → Int} {F o t : Int → Int} (hS : isMod S m) (hf : M (m + 1) = f) (ho : M m = o) (ht : M (m + 5) = t) (hl : 0 ≤ o 8 ∧ o 8 < o 7 ∧ o 7 ≤ 150) (hps : ps t (st0 F) (o 8) = some (0, f)) {Q : Res → Wd → Prop} (k : ∀ (b : Int) (M2 : Nat → Int → Int), (∀ r, r ≠ m → r ≠ m + 1 → M2 r = M r) → ∀ o2 g, M2 m = o2 → M2 (m + 1) = g → (o2 4 = o 4 ∧ o2 5 = o 5 ∧ o2 7 = o 7) → (o 8 ≤ o2 8 ∧ o2 8 ≤ o 7) → (∀ k, ¬ (0 ≤ k ∧ k < 195) → g k = F k) → (b = 1 ∧ ps t (st0 F) (o2 8) = some (0, g) ∧ o 8 < o2 8) ∨ (b = 0 ∧ Err t (o 7) (st0 F) (o2 8)) → Q (0, vI b) (M2, S)) : EvQ 4 130 [vR m] (M, S) Q := by
  refine EvQ.enter (ls := [vR m, none]) (Nat.le_of_ble_eq_true rfl) rfl ?_
  have hpw := pw_i hps
  have hp0 := hpw.1.1
  have hp1 := hpw.1.2.1
  refine WP.blk 3 ?_
  show WP 3 130 5 [vR m, none] [vI 42, vI 42, vR m] (M, S) Q
  refine WP.cl (a := [vR m, vI 42, vI 42]) (rest := []) rfl rfl rfl rfl ⟨hS.1.1, trivial⟩ (by decide) (r_isAt hS ho ht (by omega) (fun b_1 hb_1 => ⟨rfl, ?_⟩))
  show WP 3 130 8 [vR m, none] [vI b_1] (M, S) Q
  refine WP.blk 1 ?_
  show WP 3 130 (if cnd .eq b_1 0 = true then 67 else 11) [vR m, none] [] (M, S) Q
  refine br_eq (fun c_2 => ?_) (fun c_2 => ?_)
  · have p_1 := (hb_1.resolve_left (fun h => by omega)).2
    refine WP.blk 3 ?_
    show WP 3 130 72 [vR m, none] [vI 51, vI 48, vR m] (M, S) Q
    refine WP.cl (a := [vR m, vI 48, vI 51]) (rest := []) rfl rfl rfl rfl ⟨hS.1.1, trivial⟩ (by decide) (r_isAt hS ho ht (by omega) (fun b_3 hb_3 => ⟨rfl, ?_⟩))
    show WP 3 130 75 [vR m, none] [vI b_3] (M, S) Q
    refine WP.blk 1 ?_
    show WP 3 130 (if cnd .eq b_3 0 = true then 157 else 78) [vR m, none] [] (M, S) Q
    refine br_eq (fun c_4 => ?_) (fun c_4 => ?_)
    · have p_3 := (hb_3.resolve_left (fun h => by omega)).2
      refine WP.blk 1 ?_
      show WP 3 130 158 [vR m, none] [vI 0] (M, S) Q
      exact WP.ret rfl rfl rfl ⟨by omega, trivial⟩ (k _ _ (fun _ _ _ => rfl) _ _ ho hf (by omega) (by omega) hpw.2.2.2.2 (Or.inr ⟨rfl, nx_0 hps (by omega) (by omega) (by omega)⟩))
    · have p_3 := (hb_3.resolve_right (fun h => by omega)).2
      refine WP.blk 2 ?_
      show (sT S m = 10 ∧ sR S m 0 ≠ 0) ∧ WP 3 130 82 [vR m, none] [vR (sR S m 0)] (M, S) Q
      refine ⟨⟨hS.1.1, by rw [hS.1.2.1]; omega⟩, ?_⟩
      rw [hS.1.2.1]
      refine WP.blk 4 ?_
      show ((sT S (m + 1) = 11 ∨ sT S (m + 1) = 16 ∨ sT S (m + 1) = 17) ∧ 0 ≤ 1 ∧ 1 < (sN S (m + 1) : Int)) ∧ WP 3 130 (if cnd .ge (M (m + 1) 1) 7 = true then 157 else 89) [vR m, none] [] (M, S) Q
      rw [hf]
      refine ⟨⟨Or.inl hS.2.1.1, by omega, by rw [hS.2.2.1]; omega⟩, ?_⟩
      refine br_ge (fun c_5 => ?_) (fun c_5 => ?_)
      · refine WP.blk 1 ?_
        show WP 3 130 158 [vR m, none] [vI 0] (M, S) Q
        exact WP.ret rfl rfl rfl ⟨by omega, trivial⟩ (k _ _ (fun _ _ _ => rfl) _ _ ho hf (by omega) (by omega) hpw.2.2.2.2 (Or.inr ⟨rfl, nx_0 hps (by omega) (by omega) (by omega)⟩))
      · refine WP.blk 2 ?_
        show (sT S m = 10 ∧ sR S m 0 ≠ 0) ∧ WP 3 130 93 [vR m, none] [vR (sR S m 0)] (M, S) Q
        refine ⟨⟨hS.1.1, by rw [hS.1.2.1]; omega⟩, ?_⟩
        rw [hS.1.2.1]
        refine WP.blk 2 ?_
        show ((sT S (m + 1) = 11 ∨ sT S (m + 1) = 16 ∨ sT S (m + 1) = 17) ∧ 0 ≤ 1 ∧ 1 < (sN S (m + 1) : Int)) ∧ WP 3 130 95 [vR m, none] [vI (M (m + 1) 1)] (M, S) Q
        rw [hf]
        refine ⟨⟨Or.inl hS.2.1.1, by omega, by rw [hS.2.2.1]; omega⟩, ?_⟩
        refine WP.cl (a := [vI (f 1)]) (rest := []) rfl rfl rfl rfl trivial (by decide) (q_wordAt (by omega) ⟨rfl, ?_⟩)
        show WP 3 130 98 [vR m, none] [vI (97 + 14 * (f 1))] (M, S) Q
        refine WP.blk 3 ?_
        show (sT S m = 10 ∧ sR S m 0 ≠ 0) ∧ WP 3 130 103 [vR m, vI (97 + 14 * (f 1))] [vR (sR S m 0)] (M, S) Q
        refine ⟨⟨hS.1.1, by rw [hS.1.2.1]; omega⟩, ?_⟩
        rw [hS.1.2.1]
        refine WP.blk 3 ?_
        show (sT S (m + 1) = 11 ∧ 0 ≤ (97 + 14 * (f 1)) ∧ (97 + 14 * (f 1)) < (sN S (m + 1) : Int)) ∧ WP 3 130 106 [vR m, vI (97 + 14 * (f 1))] [] (up M (m + 1) (97 + 14 * (f 1)) 0, S) Q
        refine ⟨⟨hS.2.1.1, by omega, by rw [hS.2.2.1]; omega⟩, ?_⟩
        generalize hM_6 : up M (m + 1) (97 + 14 * (f 1)) 0 = M_6
        obtain ⟨g_8, hg_8⟩ : ∃ y9, y9 = uf f (97 + 14 * (f 1)) 0 := ⟨_, rfl⟩
        have r_7 : M_6 (m + 1) = g_8 := by rw [← hM_6, hg_8, up_self, hf]
        have t_9 : g_8 1 = f 1 := by rw [hg_8]; exact uf_ne (by omega)
        have r_10 : M_6 m = o := by rw [← hM_6]; exact (up_row (by omega)).trans ho
        have r_11 : M_6 (m + 5) = t := by rw [← hM_6]; exact (up_row (by omega)).trans ht
        have fr_12 : ∀ r, r ≠ m → r ≠ m + 1 → M_6 r = M r := fun r q0 q1 => by rw [← hM_6]; exact (up_row q1).trans ((fun _ _ _ => rfl) r q0 q1)
        refine WP.blk 2 ?_
        show (sT S m = 10 ∧ sR S m 0 ≠ 0) ∧ WP 3 130 110 [vR m, vI (97 + 14 * (f 1))] [vR (sR S m 0)] (M_6, S) Q
        refine ⟨⟨hS.1.1, by rw [hS.1.2.1]; omega⟩, ?_⟩
        rw [hS.1.2.1]
        refine WP.blk 5 ?_
        show ir ((97 + 14 * (f 1)) + 1) ∧ (sT S m = 10 ∧ sR S m 6 ≠ 0) ∧ WP 3 130 117 [vR m, vI (97 + 14 * (f 1))] [vR (sR S m 6), vI ((97 + 14 * (f 1)) + 1), vR (m + 1)] (M_6, S) Q
        refine ⟨(by unfold ir; omega), ⟨hS.1.1, by rw [hS.1.2.2.2.2.2.1]; omega⟩, ?_⟩
        rw [hS.1.2.2.2.2.2.1]
        refine WP.blk 6 ?_
        show sT S m = 10 ∧ ((sT S (m + 5) = 11 ∨ sT S (m + 5) = 16 ∨ sT S (m + 5) = 17) ∧ 0 ≤ (M_6 m 8) ∧ (M_6 m 8) < (sN S (m + 5) : Int)) ∧ ir ((M_6 (m + 5) (M_6 m 8)) - 48) ∧ (sT S (m + 1) = 11 ∧ 0 ≤ ((97 + 14 * (f 1)) + 1) ∧ ((97 + 14 * (f 1)) + 1) < (sN S (m + 1) : Int)) ∧ WP 3 130 126 [vR m, vI (97 + 14 * (f 1))] [] (up M_6 (m + 1) ((97 + 14 * (f 1)) + 1) ((M_6 (m + 5) (M_6 m 8)) - 48), S) Q
        rw [r_10]
        rw [r_11]
        refine ⟨hS.1.1, ⟨Or.inl hS.2.1.2.2.2.2.1, by omega, by rw [hS.2.2.2.2.2.2.1]; omega⟩, (by unfold ir; omega), ⟨hS.2.1.1, by omega, by rw [hS.2.2.1]; omega⟩, ?_⟩
        generalize hM_13 : up M_6 (m + 1) ((97 + 14 * (f 1)) + 1) ((t (o 8)) - 48) = M_13
        obtain ⟨g_15, hg_15⟩ : ∃ y9, y9 = uf g_8 ((97 + 14 * (f 1)) + 1) ((t (o 8)) - 48) := ⟨_, rfl⟩
        have r_14 : M_13 (m + 1) = g_15 := by rw [← hM_13, hg_15, up_self, r_7]
        have t_16 : g_15 1 = g_8 1 := by rw [hg_15]; exact uf_ne (by omega)
        have r_17 : M_13 m = o := by rw [← hM_13]; exact (up_row (by omega)).trans r_10
        have r_18 : M_13 (m + 5) = t := by rw [← hM_13]; exact (up_row (by omega)).trans r_11
        have fr_19 : ∀ r, r ≠ m → r ≠ m + 1 → M_13 r = M r := fun r q0 q1 => by rw [← hM_13]; exact (up_row q1).trans (fr_12 r q0 q1)
        refine WP.blk 2 ?_
        show (sT S m = 10 ∧ sR S m 0 ≠ 0) ∧ WP 3 130 130 [vR m, vI (97 + 14 * (f 1))] [vR (sR S m 0)] (M_13, S) Q
        refine ⟨⟨hS.1.1, by rw [hS.1.2.1]; omega⟩, ?_⟩
        rw [hS.1.2.1]
        refine WP.blk 6 ?_
        show ((sT S (m + 1) = 11 ∨ sT S (m + 1) = 16 ∨ sT S (m + 1) = 17) ∧ 0 ≤ 1 ∧ 1 < (sN S (m + 1) : Int)) ∧ ir ((M_13 (m + 1) 1) + 1) ∧ (sT S (m + 1) = 11 ∧ 0 ≤ 1 ∧ 1 < (sN S (m + 1) : Int)) ∧ WP 3 130 136 [vR m, vI (97 + 14 * (f 1))] [] (up M_13 (m + 1) 1 ((M_13 (m + 1) 1) + 1), S) Q
        rw [r_14]
        refine ⟨⟨Or.inl hS.2.1.1, by omega, by rw [hS.2.2.1]; omega⟩, (by unfold ir; omega), ⟨hS.2.1.1, by omega, by rw [hS.2.2.1]; omega⟩, ?_⟩
        generalize hM_20 : up M_13 (m + 1) 1 ((g_15 1) + 1) = M_20
        obtain ⟨g_22, hg_22⟩ : ∃ y9, y9 = uf g_15 1 ((g_15 1) + 1) := ⟨_, rfl⟩
        have r_21 : M_20 (m + 1) = g_22 := by rw [← hM_20, hg_22, up_self, r_14]
        have t_23 : g_22 1 = (g_15 1) + 1 := by rw [hg_22]; exact uf_at _ _ (by omega)
        have r_24 : M_20 m = o := by rw [← hM_20]; exact (up_row (by omega)).trans r_17
        have r_25 : M_20 (m + 5) = t := by rw [← hM_20]; exact (up_row (by omega)).trans r_18
        have fr_26 : ∀ r, r ≠ m → r ≠ m + 1 → M_20 r = M r := fun r q0 q1 => by rw [← hM_20]; exact (up_row q1).trans (fr_19 r q0 q1)
        refine WP.blk 6 ?_
        show sT S m = 10 ∧ ir ((M_20 m 8) + 1) ∧ sT S m = 10 ∧ WP 3 130 146 [vR m, vI (97 + 14 * (f 1))] [] (up M_20 m 8 ((M_20 m 8) + 1), S) Q
        rw [r_24]
        refine ⟨hS.1.1, (by unfold ir; omega), hS.1.1, ?_⟩
        generalize hM_27 : up M_20 m 8 ((o 8) + 1) = M_27
        have r_28 : M_27 (m + 1) = g_22 := by rw [← hM_27]; exact (up_row (by omega)).trans r_21
        obtain ⟨g_30, hg_30⟩ : ∃ y9, y9 = uf o 8 ((o 8) + 1) := ⟨_, rfl⟩
        have r_29 : M_27 m = g_30 := by rw [← hM_27, hg_30, up_self, r_24]
        have t_31 : g_30 4 = o 4 := by rw [hg_30]; exact uf_ne (by omega)
        have t_32 : g_30 5 = o 5 := by rw [hg_30]; exact uf_ne (by omega)
        have t_33 : g_30 7 = o 7 := by rw [hg_30]; exact uf_ne (by omega)
        have t_34 : g_30 8 = (o 8) + 1 := by rw [hg_30]; exact uf_at _ _ (by omega)
        have r_35 : M_27 (m + 5) = t := by rw [← hM_27]; exact (up_row (by omega)).trans r_25
        have fr_36 : ∀ r, r ≠ m → r ≠ m + 1 → M_27 r = M r := fun r q0 q1 => by rw [← hM_27]; exact (up_row q0).trans (fr_26 r q0 q1)
        refine WP.blk 6 ?_
        show ir ((97 + 14 * (f 1)) + 2) ∧ WP 3 130 153 [vR m, vI (97 + 14 * (f 1))] [vI 12, vI ((97 + 14 * (f 1)) + 2), vI (97 + 14 * (f 1)), vR m] (M_27, S) Q
        refine ⟨(by unfold ir; omega), ?_⟩
        refine WP.cl (a := [vR m, vI (97 + 14 * (f 1)), vI ((97 + 14 * (f 1)) + 2), vI 12]) (rest := []) rfl rfl rfl rfl ⟨hS.1.1, trivial⟩ (by decide) (r_takesLetters (F := F) hS r_28 r_29 r_35 (by omega) (nx_W hps (by omega) (by omega) (by omega) (show g_22 = opW f (t (o 8) - 48) from by rw [hg_22, show g_15 1 = f 1 by omega, hg_15, hg_8]; rfl) (show g_30 8 = o 8 + 1 by omega)).1 (by decide) (nx_W hps (by omega) (by omega) (by omega) (show g_22 = opW f (t (o 8) - 48) from by rw [hg_22, show g_15 1 = f 1 by omega, hg_15, hg_8]; rfl) (show g_30 8 = o 8 + 1 by omega)).2.1 (nx_W hps (by omega) (by omega) (by omega) (show g_22 = opW f (t (o 8) - 48) from by rw [hg_22, show g_15 1 = f 1 by omega, hg_15, hg_8]; rfl) (show g_30 8 = o 8 + 1 by omega)).2.2 rfl (fun b_37 M37 fr37 o37 g37 ho37 hg37 hk37 hs37 hx37 hb_37 => ⟨rfl, ?_⟩))
        show WP 3 130 156 [vR m, vI (97 + 14 * (f 1))] [vI b_37] (M37, S) Q
        have r_40 : M37 (m + 5) = t := (fr37 _ (by omega) (by omega)).trans r_35
        have fr_41 : ∀ r, r ≠ m → r ≠ m + 1 → M37 r = M r := fun r q0 q1 => (fr37 r q0 q1).trans (fr_36 r q0 q1)
        have hb37 : b_37 = 0 ∨ b_37 = 1 := by rcases hb_37 with h | h <;> omega
        rw [show g_30 7 = o 7 by omega] at hb_37
        exact WP.ret rfl rfl rfl ⟨by omega, trivial⟩ (k _ _ fr_41 _ _ ho37 hg37 (by omega) (by omega) hx37 (hb_37.imp (fun h => ⟨h.1, h.2.1, by have := h.2.2; omega⟩) (fun h => h)))
  · have p_1 := (hb_1.resolve_right (fun h => by omega)).2
    refine WP.blk 2 ?_
    show (sT S m = 10 ∧ sR S m 0 ≠ 0) ∧ WP 3 130 15 [vR m, none] [vR (sR S m 0)] (M, S) Q
    refine ⟨⟨hS.1.1, by rw [hS.1.2.1]; omega⟩, ?_⟩
    rw [hS.1.2.1]
    refine WP.blk 4 ?_
    show ((sT S (m + 1) = 11 ∨ sT S (m + 1) = 16 ∨ sT S (m + 1) = 17) ∧ 0 ≤ 0 ∧ 0 < (sN S (m + 1) : Int)) ∧ WP 3 130 (if cnd .ge (M (m + 1) 0) 10 = true then 67 else 22) [vR m, none] [] (M, S) Q
    rw [hf]
    refine ⟨⟨Or.inl hS.2.1.1, by omega, by rw [hS.2.2.1]; omega⟩, ?_⟩
    refine br_ge (fun c_42 => ?_) (fun c_42 => ?_)
    · refine WP.blk 3 ?_
      show WP 3 130 72 [vR m, none] [vI 51, vI 48, vR m] (M, S) Q
      refine WP.cl (a := [vR m, vI 48, vI 51]) (rest := []) rfl rfl rfl rfl ⟨hS.1.1, trivial⟩ (by decide) (r_isAt hS ho ht (by omega) (fun b_43 hb_43 => ⟨rfl, ?_⟩))
      show WP 3 130 75 [vR m, none] [vI b_43] (M, S) Q
      refine WP.blk 1 ?_
      show WP 3 130 (if cnd .eq b_43 0 = true then 157 else 78) [vR m, none] [] (M, S) Q
      refine br_eq (fun c_44 => ?_) (fun c_44 => ?_)
      · have p_43 := (hb_43.resolve_left (fun h => by omega)).2
        refine WP.blk 1 ?_
        show WP 3 130 158 [vR m, none] [vI 0] (M, S) Q
        exact WP.ret rfl rfl rfl ⟨by omega, trivial⟩ (k _ _ (fun _ _ _ => rfl) _ _ ho hf (by omega) (by omega) hpw.2.2.2.2 (Or.inr ⟨rfl, nx_0 hps (by omega) (by omega) (by omega)⟩))
      · have p_43 := (hb_43.resolve_right (fun h => by omega)).2
        refine WP.blk 2 ?_
        show (sT S m = 10 ∧ sR S m 0 ≠ 0) ∧ WP 3 130 82 [vR m, none] [vR (sR S m 0)] (M, S) Q
        refine ⟨⟨hS.1.1, by rw [hS.1.2.1]; omega⟩, ?_⟩
        rw [hS.1.2.1]
        refine WP.blk 4 ?_
        show ((sT S (m + 1) = 11 ∨ sT S (m + 1) = 16 ∨ sT S (m + 1) = 17) ∧ 0 ≤ 1 ∧ 1 < (sN S (m + 1) : Int)) ∧ WP 3 130 (if cnd .ge (M (m + 1) 1) 7 = true then 157 else 89) [vR m, none] [] (M, S) Q
        rw [hf]
        refine ⟨⟨Or.inl hS.2.1.1, by omega, by rw [hS.2.2.1]; omega⟩, ?_⟩
        refine br_ge (fun c_45 => ?_) (fun c_45 => ?_)
        · refine WP.blk 1 ?_
          show WP 3 130 158 [vR m, none] [vI 0] (M, S) Q
          exact WP.ret rfl rfl rfl ⟨by omega, trivial⟩ (k _ _ (fun _ _ _ => rfl) _ _ ho hf (by omega) (by omega) hpw.2.2.2.2 (Or.inr ⟨rfl, nx_0 hps (by omega) (by omega) (by omega)⟩))
        · refine WP.blk 2 ?_
          show (sT S m = 10 ∧ sR S m 0 ≠ 0) ∧ WP 3 130 93 [vR m, none] [vR (sR S m 0)] (M, S) Q
          refine ⟨⟨hS.1.1, by rw [hS.1.2.1]; omega⟩, ?_⟩
          rw [hS.1.2.1]
          refine WP.blk 2 ?_
          show ((sT S (m + 1) = 11 ∨ sT S (m + 1) = 16 ∨ sT S (m + 1) = 17) ∧ 0 ≤ 1 ∧ 1 < (sN S (m + 1) : Int)) ∧ WP 3 130 95 [vR m, none] [vI (M (m + 1) 1)] (M, S) Q
          rw [hf]
          refine ⟨⟨Or.inl hS.2.1.1, by omega, by rw [hS.2.2.1]; omega⟩, ?_⟩
          refine WP.cl (a := [vI (f 1)]) (rest := []) rfl rfl rfl rfl trivial (by decide) (q_wordAt (by omega) ⟨rfl, ?_⟩)
          show WP 3 130 98 [vR m, none] [vI (97 + 14 * (f 1))] (M, S) Q
          refine WP.blk 3 ?_
          show (sT S m = 10 ∧ sR S m 0 ≠ 0) ∧ WP 3 130 103 [vR m, vI (97 + 14 * (f 1))] [vR (sR S m 0)] (M, S) Q
          refine ⟨⟨hS.1.1, by rw [hS.1.2.1]; omega⟩, ?_⟩
          rw [hS.1.2.1]
          refine WP.blk 3 ?_
          show (sT S (m + 1) = 11 ∧ 0 ≤ (97 + 14 * (f 1)) ∧ (97 + 14 * (f 1)) < (sN S (m + 1) : Int)) ∧ WP 3 130 106 [vR m, vI (97 + 14 * (f 1))] [] (up M (m + 1) (97 + 14 * (f 1)) 0, S) Q
          refine ⟨⟨hS.2.1.1, by omega, by rw [hS.2.2.1]; omega⟩, ?_⟩
          generalize hM_46 : up M (m + 1) (97 + 14 * (f 1)) 0 = M_46
          obtain ⟨g_48, hg_48⟩ : ∃ y9, y9 = uf f (97 + 14 * (f 1)) 0 := ⟨_, rfl⟩
          have r_47 : M_46 (m + 1) = g_48 := by rw [← hM_46, hg_48, up_self, hf]
          have t_49 : g_48 1 = f 1 := by rw [hg_48]; exact uf_ne (by omega)
          have r_50 : M_46 m = o := by rw [← hM_46]; exact (up_row (by omega)).trans ho
          have r_51 : M_46 (m + 5) = t := by rw [← hM_46]; exact (up_row (by omega)).trans ht
          have fr_52 : ∀ r, r ≠ m → r ≠ m + 1 → M_46 r = M r := fun r q0 q1 => by rw [← hM_46]; exact (up_row q1).trans ((fun _ _ _ => rfl) r q0 q1)
          refine WP.blk 2 ?_
          show (sT S m = 10 ∧ sR S m 0 ≠ 0) ∧ WP 3 130 110 [vR m, vI (97 + 14 * (f 1))] [vR (sR S m 0)] (M_46, S) Q
          refine ⟨⟨hS.1.1, by rw [hS.1.2.1]; omega⟩, ?_⟩
          rw [hS.1.2.1]
          refine WP.blk 5 ?_
          show ir ((97 + 14 * (f 1)) + 1) ∧ (sT S m = 10 ∧ sR S m 6 ≠ 0) ∧ WP 3 130 117 [vR m, vI (97 + 14 * (f 1))] [vR (sR S m 6), vI ((97 + 14 * (f 1)) + 1), vR (m + 1)] (M_46, S) Q
          refine ⟨(by unfold ir; omega), ⟨hS.1.1, by rw [hS.1.2.2.2.2.2.1]; omega⟩, ?_⟩
          rw [hS.1.2.2.2.2.2.1]
          refine WP.blk 6 ?_
          show sT S m = 10 ∧ ((sT S (m + 5) = 11 ∨ sT S (m + 5) = 16 ∨ sT S (m + 5) = 17) ∧ 0 ≤ (M_46 m 8) ∧ (M_46 m 8) < (sN S (m + 5) : Int)) ∧ ir ((M_46 (m + 5) (M_46 m 8)) - 48) ∧ (sT S (m + 1) = 11 ∧ 0 ≤ ((97 + 14 * (f 1)) + 1) ∧ ((97 + 14 * (f 1)) + 1) < (sN S (m + 1) : Int)) ∧ WP 3 130 126 [vR m, vI (97 + 14 * (f 1))] [] (up M_46 (m + 1) ((97 + 14 * (f 1)) + 1) ((M_46 (m + 5) (M_46 m 8)) - 48), S) Q
          rw [r_50]
          rw [r_51]
          refine ⟨hS.1.1, ⟨Or.inl hS.2.1.2.2.2.2.1, by omega, by rw [hS.2.2.2.2.2.2.1]; omega⟩, (by unfold ir; omega), ⟨hS.2.1.1, by omega, by rw [hS.2.2.1]; omega⟩, ?_⟩
          generalize hM_53 : up M_46 (m + 1) ((97 + 14 * (f 1)) + 1) ((t (o 8)) - 48) = M_53
          obtain ⟨g_55, hg_55⟩ : ∃ y9, y9 = uf g_48 ((97 + 14 * (f 1)) + 1) ((t (o 8)) - 48) := ⟨_, rfl⟩
          have r_54 : M_53 (m + 1) = g_55 := by rw [← hM_53, hg_55, up_self, r_47]
          have t_56 : g_55 1 = g_48 1 := by rw [hg_55]; exact uf_ne (by omega)
          have r_57 : M_53 m = o := by rw [← hM_53]; exact (up_row (by omega)).trans r_50
          have r_58 : M_53 (m + 5) = t := by rw [← hM_53]; exact (up_row (by omega)).trans r_51
          have fr_59 : ∀ r, r ≠ m → r ≠ m + 1 → M_53 r = M r := fun r q0 q1 => by rw [← hM_53]; exact (up_row q1).trans (fr_52 r q0 q1)
          refine WP.blk 2 ?_
          show (sT S m = 10 ∧ sR S m 0 ≠ 0) ∧ WP 3 130 130 [vR m, vI (97 + 14 * (f 1))] [vR (sR S m 0)] (M_53, S) Q
          refine ⟨⟨hS.1.1, by rw [hS.1.2.1]; omega⟩, ?_⟩
          rw [hS.1.2.1]
          refine WP.blk 6 ?_
          show ((sT S (m + 1) = 11 ∨ sT S (m + 1) = 16 ∨ sT S (m + 1) = 17) ∧ 0 ≤ 1 ∧ 1 < (sN S (m + 1) : Int)) ∧ ir ((M_53 (m + 1) 1) + 1) ∧ (sT S (m + 1) = 11 ∧ 0 ≤ 1 ∧ 1 < (sN S (m + 1) : Int)) ∧ WP 3 130 136 [vR m, vI (97 + 14 * (f 1))] [] (up M_53 (m + 1) 1 ((M_53 (m + 1) 1) + 1), S) Q
          rw [r_54]
          refine ⟨⟨Or.inl hS.2.1.1, by omega, by rw [hS.2.2.1]; omega⟩, (by unfold ir; omega), ⟨hS.2.1.1, by omega, by rw [hS.2.2.1]; omega⟩, ?_⟩
          generalize hM_60 : up M_53 (m + 1) 1 ((g_55 1) + 1) = M_60
          obtain ⟨g_62, hg_62⟩ : ∃ y9, y9 = uf g_55 1 ((g_55 1) + 1) := ⟨_, rfl⟩
          have r_61 : M_60 (m + 1) = g_62 := by rw [← hM_60, hg_62, up_self, r_54]
          have t_63 : g_62 1 = (g_55 1) + 1 := by rw [hg_62]; exact uf_at _ _ (by omega)
          have r_64 : M_60 m = o := by rw [← hM_60]; exact (up_row (by omega)).trans r_57
          have r_65 : M_60 (m + 5) = t := by rw [← hM_60]; exact (up_row (by omega)).trans r_58
          have fr_66 : ∀ r, r ≠ m → r ≠ m + 1 → M_60 r = M r := fun r q0 q1 => by rw [← hM_60]; exact (up_row q1).trans (fr_59 r q0 q1)
          refine WP.blk 6 ?_
          show sT S m = 10 ∧ ir ((M_60 m 8) + 1) ∧ sT S m = 10 ∧ WP 3 130 146 [vR m, vI (97 + 14 * (f 1))] [] (up M_60 m 8 ((M_60 m 8) + 1), S) Q
          rw [r_64]
          refine ⟨hS.1.1, (by unfold ir; omega), hS.1.1, ?_⟩
          generalize hM_67 : up M_60 m 8 ((o 8) + 1) = M_67
          have r_68 : M_67 (m + 1) = g_62 := by rw [← hM_67]; exact (up_row (by omega)).trans r_61
          obtain ⟨g_70, hg_70⟩ : ∃ y9, y9 = uf o 8 ((o 8) + 1) := ⟨_, rfl⟩
          have r_69 : M_67 m = g_70 := by rw [← hM_67, hg_70, up_self, r_64]
          have t_71 : g_70 4 = o 4 := by rw [hg_70]; exact uf_ne (by omega)
          have t_72 : g_70 5 = o 5 := by rw [hg_70]; exact uf_ne (by omega)
          have t_73 : g_70 7 = o 7 := by rw [hg_70]; exact uf_ne (by omega)
          have t_74 : g_70 8 = (o 8) + 1 := by rw [hg_70]; exact uf_at _ _ (by omega)
          have r_75 : M_67 (m + 5) = t := by rw [← hM_67]; exact (up_row (by omega)).trans r_65
          have fr_76 : ∀ r, r ≠ m → r ≠ m + 1 → M_67 r = M r := fun r q0 q1 => by rw [← hM_67]; exact (up_row q0).trans (fr_66 r q0 q1)
          refine WP.blk 6 ?_
          show ir ((97 + 14 * (f 1)) + 2) ∧ WP 3 130 153 [vR m, vI (97 + 14 * (f 1))] [vI 12, vI ((97 + 14 * (f 1)) + 2), vI (97 + 14 * (f 1)), vR m] (M_67, S) Q
          refine ⟨(by unfold ir; omega), ?_⟩
          refine WP.cl (a := [vR m, vI (97 + 14 * (f 1)), vI ((97 + 14 * (f 1)) + 2), vI 12]) (rest := []) rfl rfl rfl rfl ⟨hS.1.1, trivial⟩ (by decide) (r_takesLetters (F := F) hS r_68 r_69 r_75 (by omega) (nx_W hps (by omega) (by omega) (by omega) (show g_62 = opW f (t (o 8) - 48) from by rw [hg_62, show g_55 1 = f 1 by omega, hg_55, hg_48]; rfl) (show g_70 8 = o 8 + 1 by omega)).1 (by decide) (nx_W hps (by omega) (by omega) (by omega) (show g_62 = opW f (t (o 8) - 48) from by rw [hg_62, show g_55 1 = f 1 by omega, hg_55, hg_48]; rfl) (show g_70 8 = o 8 + 1 by omega)).2.1 (nx_W hps (by omega) (by omega) (by omega) (show g_62 = opW f (t (o 8) - 48) from by rw [hg_62, show g_55 1 = f 1 by omega, hg_55, hg_48]; rfl) (show g_70 8 = o 8 + 1 by omega)).2.2 rfl (fun b_77 M77 fr77 o77 g77 ho77 hg77 hk77 hs77 hx77 hb_77 => ⟨rfl, ?_⟩))
          show WP 3 130 156 [vR m, vI (97 + 14 * (f 1))] [vI b_77] (M77, S) Q
          have r_80 : M77 (m + 5) = t := (fr77 _ (by omega) (by omega)).trans r_75
          have fr_81 : ∀ r, r ≠ m → r ≠ m + 1 → M77 r = M r := fun r q0 q1 => (fr77 r q0 q1).trans (fr_76 r q0 q1)
          have hb77 : b_77 = 0 ∨ b_77 = 1 := by rcases hb_77 with h | h <;> omega
          rw [show g_70 7 = o 7 by omega] at hb_77
          exact WP.ret rfl rfl rfl ⟨by omega, trivial⟩ (k _ _ fr_81 _ _ ho77 hg77 (by omega) (by omega) hx77 (hb_77.imp (fun h => ⟨h.1, h.2.1, by have := h.2.2; omega⟩) (fun h => h)))
    · refine WP.blk 6 ?_
      show sT S m = 10 ∧ ir ((M m 8) + 1) ∧ sT S m = 10 ∧ WP 3 130 32 [vR m, none] [] (up M m 8 ((M m 8) + 1), S) Q
      rw [ho]
      refine ⟨hS.1.1, (by unfold ir; omega), hS.1.1, ?_⟩
      generalize hM_82 : up M m 8 ((o 8) + 1) = M_82
      have r_83 : M_82 (m + 1) = f := by rw [← hM_82]; exact (up_row (by omega)).trans hf
      obtain ⟨g_85, hg_85⟩ : ∃ y9, y9 = uf o 8 ((o 8) + 1) := ⟨_, rfl⟩
      have r_84 : M_82 m = g_85 := by rw [← hM_82, hg_85, up_self, ho]
      have t_86 : g_85 4 = o 4 := by rw [hg_85]; exact uf_ne (by omega)
      have t_87 : g_85 5 = o 5 := by rw [hg_85]; exact uf_ne (by omega)
      have t_88 : g_85 7 = o 7 := by rw [hg_85]; exact uf_ne (by omega)
      have t_89 : g_85 8 = (o 8) + 1 := by rw [hg_85]; exact uf_at _ _ (by omega)
      have r_90 : M_82 (m + 5) = t := by rw [← hM_82]; exact (up_row (by omega)).trans ht
      have fr_91 : ∀ r, r ≠ m → r ≠ m + 1 → M_82 r = M r := fun r q0 q1 => by rw [← hM_82]; exact (up_row q0).trans ((fun _ _ _ => rfl) r q0 q1)
      refine WP.blk 2 ?_
      show (sT S m = 10 ∧ sR S m 0 ≠ 0) ∧ WP 3 130 36 [vR m, none] [vR (sR S m 0)] (M_82, S) Q
      refine ⟨⟨hS.1.1, by rw [hS.1.2.1]; omega⟩, ?_⟩
      rw [hS.1.2.1]
      refine WP.blk 2 ?_
      show ((sT S (m + 1) = 11 ∨ sT S (m + 1) = 16 ∨ sT S (m + 1) = 17) ∧ 0 ≤ 0 ∧ 0 < (sN S (m + 1) : Int)) ∧ WP 3 130 38 [vR m, none] [vI (M_82 (m + 1) 0)] (M_82, S) Q
      rw [r_83]
      refine ⟨⟨Or.inl hS.2.1.1, by omega, by rw [hS.2.2.1]; omega⟩, ?_⟩
      refine WP.cl (a := [vI (f 0)]) (rest := []) rfl rfl rfl rfl trivial (by decide) (q_stampAt (by omega) ⟨rfl, ?_⟩)
      show WP 3 130 41 [vR m, none] [vI (7 + 9 * (f 0))] (M_82, S) Q
      refine WP.blk 3 ?_
      show WP 3 130 44 [vR m, vI (7 + 9 * (f 0))] [vI (7 + 9 * (f 0)), vR m] (M_82, S) Q
      refine WP.cl (a := [vR m, vI (7 + 9 * (f 0))]) (rest := []) rfl rfl rfl rfl ⟨hS.1.1, trivial⟩ (by decide) (r_clears hS r_83 (by omega) (fun My_92 fry_92 hMy_92 => ⟨rfl, ?_⟩))
      show WP 3 130 47 [vR m, vI (7 + 9 * (f 0))] [] (My_92, S) Q
      obtain ⟨gy_92, hgy_92⟩ : ∃ y9, My_92 (m + 1) = y9 := ⟨_, rfl⟩
      rw [hgy_92] at hMy_92
      have r_94 : My_92 m = g_85 := (fry_92 _ (by omega)).trans r_84
      have r_95 : My_92 (m + 5) = t := (fry_92 _ (by omega)).trans r_90
      have fr_96 : ∀ r, r ≠ m → r ≠ m + 1 → My_92 r = M r := fun r q0 q1 => (fry_92 r q1).trans (fr_91 r q0 q1)
      have hzy_92 : gy_92 0 = f 0 := by rw [hMy_92]; exact clrS_0 (by omega)
      refine WP.blk 2 ?_
      show (sT S m = 10 ∧ sR S m 0 ≠ 0) ∧ WP 3 130 51 [vR m, vI (7 + 9 * (f 0))] [vR (sR S m 0)] (My_92, S) Q
      refine ⟨⟨hS.1.1, by rw [hS.1.2.1]; omega⟩, ?_⟩
      rw [hS.1.2.1]
      refine WP.blk 6 ?_
      show ((sT S (m + 1) = 11 ∨ sT S (m + 1) = 16 ∨ sT S (m + 1) = 17) ∧ 0 ≤ 0 ∧ 0 < (sN S (m + 1) : Int)) ∧ ir ((My_92 (m + 1) 0) + 1) ∧ (sT S (m + 1) = 11 ∧ 0 ≤ 0 ∧ 0 < (sN S (m + 1) : Int)) ∧ WP 3 130 57 [vR m, vI (7 + 9 * (f 0))] [] (up My_92 (m + 1) 0 ((My_92 (m + 1) 0) + 1), S) Q
      rw [hgy_92]
      refine ⟨⟨Or.inl hS.2.1.1, by omega, by rw [hS.2.2.1]; omega⟩, (by unfold ir; omega), ⟨hS.2.1.1, by omega, by rw [hS.2.2.1]; omega⟩, ?_⟩
      generalize hM_97 : up My_92 (m + 1) 0 ((gy_92 0) + 1) = M_97
      obtain ⟨g_99, hg_99⟩ : ∃ y9, y9 = uf gy_92 0 ((gy_92 0) + 1) := ⟨_, rfl⟩
      have r_98 : M_97 (m + 1) = g_99 := by rw [← hM_97, hg_99, up_self, hgy_92]
      have t_100 : g_99 1 = gy_92 1 := by rw [hg_99]; exact uf_ne (by omega)
      have r_101 : M_97 m = g_85 := by rw [← hM_97]; exact (up_row (by omega)).trans r_94
      have r_102 : M_97 (m + 5) = t := by rw [← hM_97]; exact (up_row (by omega)).trans r_95
      have fr_103 : ∀ r, r ≠ m → r ≠ m + 1 → M_97 r = M r := fun r q0 q1 => by rw [← hM_97]; exact (up_row q1).trans (fr_96 r q0 q1)
      refine WP.blk 6 ?_
      show ir ((7 + 9 * (f 0)) + 1) ∧ WP 3 130 63 [vR m, vI (7 + 9 * (f 0))] [vI 5, vI ((7 + 9 * (f 0)) + 1), vI (7 + 9 * (f 0)), vR m] (M_97, S) Q
      refine ⟨(by unfold ir; omega), ?_⟩
      refine WP.cl (a := [vR m, vI (7 + 9 * (f 0)), vI ((7 + 9 * (f 0)) + 1), vI 5]) (rest := []) rfl rfl rfl rfl ⟨hS.1.1, trivial⟩ (by decide) (r_takesLetters (F := F) hS r_98 r_101 r_102 (by omega) (nx_S hps (by omega) (by omega) (by omega) (opS_of hMy_92 hzy_92 hg_99) (show g_85 8 = o 8 + 1 by omega)).1 (by decide) (nx_S hps (by omega) (by omega) (by omega) (opS_of hMy_92 hzy_92 hg_99) (show g_85 8 = o 8 + 1 by omega)).2.1 (nx_S hps (by omega) (by omega) (by omega) (opS_of hMy_92 hzy_92 hg_99) (show g_85 8 = o 8 + 1 by omega)).2.2 rfl (fun b_104 M104 fr104 o104 g104 ho104 hg104 hk104 hs104 hx104 hb_104 => ⟨rfl, ?_⟩))
      show WP 3 130 66 [vR m, vI (7 + 9 * (f 0))] [vI b_104] (M104, S) Q
      have r_107 : M104 (m + 5) = t := (fr104 _ (by omega) (by omega)).trans r_102
      have fr_108 : ∀ r, r ≠ m → r ≠ m + 1 → M104 r = M r := fun r q0 q1 => (fr104 r q0 q1).trans (fr_103 r q0 q1)
      have hb104 : b_104 = 0 ∨ b_104 = 1 := by rcases hb_104 with h | h <;> omega
      rw [show g_85 7 = o 7 by omega] at hb_104
      exact WP.ret rfl rfl rfl ⟨by omega, trivial⟩ (k _ _ fr_108 _ _ ho104 hg104 (by omega) (by omega) hx104 (hb_104.imp (fun h => ⟨h.1, h.2.1, by have := h.2.2; omega⟩) (fun h => h)))
set_option maxHeartbeats 4000000 in
theorem r_parse {S : SD} {M : Nat → Int → Int} {m : Nat} {f : Int → Int} {o p t : Int → Int} {B : Int} (hS : isMod S m) (hf : M (m + 1) = f) (ho : M m = o) (hp2 : M (m + 2) = p) (hsv : 0 ≤ o 4 ∧ o 4 ≤ 4) (ht : M (m + 5) = t) (hl : 0 ≤ o 7 ∧ o 7 ≤ 150) (hR : RowOk B f) {Q : Res → Wd → Prop} (k : ∀ (v : Int) (M2 : Nat → Int → Int), (∀ r, r ≠ m → r ≠ m + 1 → r ≠ m + 2 → r ≠ m + 3 → r ≠ m + 4 → M2 r = M r) → ∀ o2, M2 m = o2 → o2 7 = o 7 → o2 5 = 0 → (∃ e, Err t (o 7) (st0 f) e ∧ v = -10 - e ∧ M2 (m + 1) = f ∧ M2 (m + 2) = p ∧ o2 4 = o 4) ∨ (∃ g, ps t (st0 f) (o 7) = some (0, g) ∧ v = g 0 + g 1 ∧ M2 (m + 1) = g ∧ ∃ p2, M2 (m + 2) = p2 ∧ SavedP p (o 4) f p2 (o2 4)) → Q (0, vI v) (M2, S)) : EvQ 5 132 [vR m] (M, S) Q := by
  refine EvQ.enter (ls := [vR m, none, none]) (Nat.le_of_ble_eq_true rfl) rfl ?_
  have hA1 := hR.1.1
  have hW1 := hR.2.1.1
  obtain ⟨a0, ha0⟩ : ∃ g, M (m + 3) = g := ⟨_, rfl⟩
  obtain ⟨d0, hd0⟩ : ∃ g, M (m + 4) = g := ⟨_, rfl⟩
  refine WP.blk 3 ?_
  show sT S m = 10 ∧ WP 4 132 5 [vR m, none, none] [] (up M m 5 0, S) Q
  refine ⟨hS.1.1, ?_⟩
  generalize hM_1 : up M m 5 0 = M_1
  have r_2 : M_1 (m + 1) = f := by rw [← hM_1]; exact (up_row (by omega)).trans hf
  obtain ⟨g_4, hg_4⟩ : ∃ y9, y9 = uf o 5 0 := ⟨_, rfl⟩
  have r_3 : M_1 m = g_4 := by rw [← hM_1, hg_4, up_self, ho]
  have t_5 : g_4 4 = o 4 := by rw [hg_4]; exact uf_ne (by omega)
  have t_6 : g_4 5 = 0 := by rw [hg_4]; exact uf_at _ _ (by omega)
  have t_7 : g_4 7 = o 7 := by rw [hg_4]; exact uf_ne (by omega)
  have t_8 : g_4 8 = o 8 := by rw [hg_4]; exact uf_ne (by omega)
  have r_9 : M_1 (m + 2) = p := by rw [← hM_1]; exact (up_row (by omega)).trans hp2
  have r_10 : M_1 (m + 3) = a0 := by rw [← hM_1]; exact (up_row (by omega)).trans ha0
  have r_11 : M_1 (m + 4) = d0 := by rw [← hM_1]; exact (up_row (by omega)).trans hd0
  have r_12 : M_1 (m + 5) = t := by rw [← hM_1]; exact (up_row (by omega)).trans ht
  have fr_13 : ∀ r, r ≠ m → r ≠ m + 1 → r ≠ m + 2 → r ≠ m + 3 → r ≠ m + 4 → M_1 r = M r := fun r q0 q1 q2 q3 q4 => by rw [← hM_1]; exact (up_row q0).trans ((fun _ _ _ _ _ _ => rfl) r q0 q1 q2 q3 q4)
  refine WP.blk 1 ?_
  show WP 4 132 6 [vR m, none, none] [vR m] (M_1, S) Q
  refine WP.cl (a := [vR m]) (rest := []) rfl rfl rfl rfl ⟨hS.1.1, trivial⟩ (by decide) (r_keeps hS r_2 r_10 (fun My_14 fry_14 hMy_14 => ⟨rfl, ?_⟩))
  show WP 4 132 9 [vR m, none, none] [] (My_14, S) Q
  obtain ⟨ay_14, hay_14⟩ : ∃ y9, My_14 (m + 3) = y9 := ⟨_, rfl⟩
  rw [hay_14] at hMy_14
  have r_15 : My_14 (m + 1) = f := (fry_14 _ (by omega)).trans r_2
  have r_16 : My_14 m = g_4 := (fry_14 _ (by omega)).trans r_3
  have r_17 : My_14 (m + 2) = p := (fry_14 _ (by omega)).trans r_9
  have r_19 : My_14 (m + 4) = d0 := (fry_14 _ (by omega)).trans r_11
  have r_20 : My_14 (m + 5) = t := (fry_14 _ (by omega)).trans r_12
  have fr_21 : ∀ r, r ≠ m → r ≠ m + 1 → r ≠ m + 2 → r ≠ m + 3 → r ≠ m + 4 → My_14 r = M r := fun r q0 q1 q2 q3 q4 => (fry_14 r q3).trans (fr_13 r q0 q1 q2 q3 q4)
  refine WP.blk 2 ?_
  show (sT S m = 10 ∧ sR S m 0 ≠ 0) ∧ WP 4 132 13 [vR m, none, none] [vR (sR S m 0)] (My_14, S) Q
  refine ⟨⟨hS.1.1, by rw [hS.1.2.1]; omega⟩, ?_⟩
  rw [hS.1.2.1]
  refine WP.blk 3 ?_
  show (sT S (m + 1) = 11 ∧ 0 ≤ 0 ∧ 0 < (sN S (m + 1) : Int)) ∧ WP 4 132 16 [vR m, none, none] [] (up My_14 (m + 1) 0 0, S) Q
  refine ⟨⟨hS.2.1.1, by omega, by rw [hS.2.2.1]; omega⟩, ?_⟩
  generalize hM_22 : up My_14 (m + 1) 0 0 = M_22
  obtain ⟨g_24, hg_24⟩ : ∃ y9, y9 = uf f 0 0 := ⟨_, rfl⟩
  have r_23 : M_22 (m + 1) = g_24 := by rw [← hM_22, hg_24, up_self, r_15]
  have r_25 : M_22 m = g_4 := by rw [← hM_22]; exact (up_row (by omega)).trans r_16
  have r_26 : M_22 (m + 2) = p := by rw [← hM_22]; exact (up_row (by omega)).trans r_17
  have r_27 : M_22 (m + 3) = ay_14 := by rw [← hM_22]; exact (up_row (by omega)).trans hay_14
  have r_28 : M_22 (m + 4) = d0 := by rw [← hM_22]; exact (up_row (by omega)).trans r_19
  have r_29 : M_22 (m + 5) = t := by rw [← hM_22]; exact (up_row (by omega)).trans r_20
  have fr_30 : ∀ r, r ≠ m → r ≠ m + 1 → r ≠ m + 2 → r ≠ m + 3 → r ≠ m + 4 → M_22 r = M r := fun r q0 q1 q2 q3 q4 => by rw [← hM_22]; exact (up_row q1).trans (fr_21 r q0 q1 q2 q3 q4)
  refine WP.blk 2 ?_
  show (sT S m = 10 ∧ sR S m 0 ≠ 0) ∧ WP 4 132 20 [vR m, none, none] [vR (sR S m 0)] (M_22, S) Q
  refine ⟨⟨hS.1.1, by rw [hS.1.2.1]; omega⟩, ?_⟩
  rw [hS.1.2.1]
  refine WP.blk 3 ?_
  show (sT S (m + 1) = 11 ∧ 0 ≤ 1 ∧ 1 < (sN S (m + 1) : Int)) ∧ WP 4 132 23 [vR m, none, none] [] (up M_22 (m + 1) 1 0, S) Q
  refine ⟨⟨hS.2.1.1, by omega, by rw [hS.2.2.1]; omega⟩, ?_⟩
  generalize hM_31 : up M_22 (m + 1) 1 0 = M_31
  obtain ⟨g_33, hg_33⟩ : ∃ y9, y9 = uf g_24 1 0 := ⟨_, rfl⟩
  have r_32 : M_31 (m + 1) = g_33 := by rw [← hM_31, hg_33, up_self, r_23]
  have r_34 : M_31 m = g_4 := by rw [← hM_31]; exact (up_row (by omega)).trans r_25
  have r_35 : M_31 (m + 2) = p := by rw [← hM_31]; exact (up_row (by omega)).trans r_26
  have r_36 : M_31 (m + 3) = ay_14 := by rw [← hM_31]; exact (up_row (by omega)).trans r_27
  have r_37 : M_31 (m + 4) = d0 := by rw [← hM_31]; exact (up_row (by omega)).trans r_28
  have r_38 : M_31 (m + 5) = t := by rw [← hM_31]; exact (up_row (by omega)).trans r_29
  have fr_39 : ∀ r, r ≠ m → r ≠ m + 1 → r ≠ m + 2 → r ≠ m + 3 → r ≠ m + 4 → M_31 r = M r := fun r q0 q1 q2 q3 q4 => by rw [← hM_31]; exact (up_row q1).trans (fr_30 r q0 q1 q2 q3 q4)
  refine WP.blk 2 ?_
  show (sT S m = 10 ∧ sR S m 0 ≠ 0) ∧ WP 4 132 27 [vR m, none, none] [vR (sR S m 0)] (M_31, S) Q
  refine ⟨⟨hS.1.1, by rw [hS.1.2.1]; omega⟩, ?_⟩
  rw [hS.1.2.1]
  refine WP.blk 3 ?_
  show (sT S (m + 1) = 11 ∧ 0 ≤ 4 ∧ 4 < (sN S (m + 1) : Int)) ∧ WP 4 132 30 [vR m, none, none] [] (up M_31 (m + 1) 4 0, S) Q
  refine ⟨⟨hS.2.1.1, by omega, by rw [hS.2.2.1]; omega⟩, ?_⟩
  generalize hM_40 : up M_31 (m + 1) 4 0 = M_40
  obtain ⟨g_42, hg_42⟩ : ∃ y9, y9 = uf g_33 4 0 := ⟨_, rfl⟩
  have r_41 : M_40 (m + 1) = g_42 := by rw [← hM_40, hg_42, up_self, r_32]
  have r_43 : M_40 m = g_4 := by rw [← hM_40]; exact (up_row (by omega)).trans r_34
  have r_44 : M_40 (m + 2) = p := by rw [← hM_40]; exact (up_row (by omega)).trans r_35
  have r_45 : M_40 (m + 3) = ay_14 := by rw [← hM_40]; exact (up_row (by omega)).trans r_36
  have r_46 : M_40 (m + 4) = d0 := by rw [← hM_40]; exact (up_row (by omega)).trans r_37
  have r_47 : M_40 (m + 5) = t := by rw [← hM_40]; exact (up_row (by omega)).trans r_38
  have fr_48 : ∀ r, r ≠ m → r ≠ m + 1 → r ≠ m + 2 → r ≠ m + 3 → r ≠ m + 4 → M_40 r = M r := fun r q0 q1 q2 q3 q4 => by rw [← hM_40]; exact (up_row q1).trans (fr_39 r q0 q1 q2 q3 q4)
  refine WP.blk 2 ?_
  show (sT S m = 10 ∧ sR S m 0 ≠ 0) ∧ WP 4 132 34 [vR m, none, none] [vR (sR S m 0)] (M_40, S) Q
  refine ⟨⟨hS.1.1, by rw [hS.1.2.1]; omega⟩, ?_⟩
  rw [hS.1.2.1]
  refine WP.blk 3 ?_
  show (sT S (m + 1) = 11 ∧ 0 ≤ 5 ∧ 5 < (sN S (m + 1) : Int)) ∧ WP 4 132 37 [vR m, none, none] [] (up M_40 (m + 1) 5 0, S) Q
  refine ⟨⟨hS.2.1.1, by omega, by rw [hS.2.2.1]; omega⟩, ?_⟩
  generalize hM_49 : up M_40 (m + 1) 5 0 = M_49
  obtain ⟨g_51, hg_51⟩ : ∃ y9, y9 = uf g_42 5 0 := ⟨_, rfl⟩
  have r_50 : M_49 (m + 1) = g_51 := by rw [← hM_49, hg_51, up_self, r_41]
  have r_52 : M_49 m = g_4 := by rw [← hM_49]; exact (up_row (by omega)).trans r_43
  have r_53 : M_49 (m + 2) = p := by rw [← hM_49]; exact (up_row (by omega)).trans r_44
  have r_54 : M_49 (m + 3) = ay_14 := by rw [← hM_49]; exact (up_row (by omega)).trans r_45
  have r_55 : M_49 (m + 4) = d0 := by rw [← hM_49]; exact (up_row (by omega)).trans r_46
  have r_56 : M_49 (m + 5) = t := by rw [← hM_49]; exact (up_row (by omega)).trans r_47
  have fr_57 : ∀ r, r ≠ m → r ≠ m + 1 → r ≠ m + 2 → r ≠ m + 3 → r ≠ m + 4 → M_49 r = M r := fun r q0 q1 q2 q3 q4 => by rw [← hM_49]; exact (up_row q1).trans (fr_48 r q0 q1 q2 q3 q4)
  refine WP.blk 2 ?_
  show (sT S m = 10 ∧ sR S m 0 ≠ 0) ∧ WP 4 132 41 [vR m, none, none] [vR (sR S m 0)] (M_49, S) Q
  refine ⟨⟨hS.1.1, by rw [hS.1.2.1]; omega⟩, ?_⟩
  rw [hS.1.2.1]
  refine WP.blk 3 ?_
  show (sT S (m + 1) = 11 ∧ 0 ≤ 6 ∧ 6 < (sN S (m + 1) : Int)) ∧ WP 4 132 45 [vR m, none, none] [] (up M_49 (m + 1) 6 0, S) Q
  refine ⟨⟨hS.2.1.1, by omega, by rw [hS.2.2.1]; omega⟩, ?_⟩
  generalize hM_58 : up M_49 (m + 1) 6 0 = M_58
  obtain ⟨g_60, hg_60⟩ : ∃ y9, y9 = uf g_51 6 0 := ⟨_, rfl⟩
  have r_59 : M_58 (m + 1) = g_60 := by rw [← hM_58, hg_60, up_self, r_50]
  have r_61 : M_58 m = g_4 := by rw [← hM_58]; exact (up_row (by omega)).trans r_52
  have r_62 : M_58 (m + 2) = p := by rw [← hM_58]; exact (up_row (by omega)).trans r_53
  have r_63 : M_58 (m + 3) = ay_14 := by rw [← hM_58]; exact (up_row (by omega)).trans r_54
  have r_64 : M_58 (m + 4) = d0 := by rw [← hM_58]; exact (up_row (by omega)).trans r_55
  have r_65 : M_58 (m + 5) = t := by rw [← hM_58]; exact (up_row (by omega)).trans r_56
  have fr_66 : ∀ r, r ≠ m → r ≠ m + 1 → r ≠ m + 2 → r ≠ m + 3 → r ≠ m + 4 → M_58 r = M r := fun r q0 q1 q2 q3 q4 => by rw [← hM_58]; exact (up_row q1).trans (fr_57 r q0 q1 q2 q3 q4)
  refine WP.blk 3 ?_
  show sT S m = 10 ∧ WP 4 132 50 [vR m, none, none] [] (up M_58 m 8 0, S) Q
  refine ⟨hS.1.1, ?_⟩
  generalize hM_67 : up M_58 m 8 0 = M_67
  have r_68 : M_67 (m + 1) = g_60 := by rw [← hM_67]; exact (up_row (by omega)).trans r_59
  obtain ⟨g_70, hg_70⟩ : ∃ y9, y9 = uf g_4 8 0 := ⟨_, rfl⟩
  have r_69 : M_67 m = g_70 := by rw [← hM_67, hg_70, up_self, r_61]
  have t_71 : g_70 4 = g_4 4 := by rw [hg_70]; exact uf_ne (by omega)
  have t_72 : g_70 5 = g_4 5 := by rw [hg_70]; exact uf_ne (by omega)
  have t_73 : g_70 7 = g_4 7 := by rw [hg_70]; exact uf_ne (by omega)
  have t_74 : g_70 8 = 0 := by rw [hg_70]; exact uf_at _ _ (by omega)
  have r_75 : M_67 (m + 2) = p := by rw [← hM_67]; exact (up_row (by omega)).trans r_62
  have r_76 : M_67 (m + 3) = ay_14 := by rw [← hM_67]; exact (up_row (by omega)).trans r_63
  have r_77 : M_67 (m + 4) = d0 := by rw [← hM_67]; exact (up_row (by omega)).trans r_64
  have r_78 : M_67 (m + 5) = t := by rw [← hM_67]; exact (up_row (by omega)).trans r_65
  have fr_79 : ∀ r, r ≠ m → r ≠ m + 1 → r ≠ m + 2 → r ≠ m + 3 → r ≠ m + 4 → M_67 r = M r := fun r q0 q1 q2 q3 q4 => by rw [← hM_67]; exact (up_row q0).trans (fr_66 r q0 q1 q2 q3 q4)
  refine WP.blk 2 ?_
  show WP 4 132 52 [vR m, vI 1, none] [] (M_67, S) Q
  have hl_52 : ∀ (n_52 : Nat) (b : Int) (v2_52 : V) (M1 : Nat → Int → Int) (o1 : Int → Int) (g : Int → Int), (b = 1 ∧ ps t (st0 f) (o1 8) = some (0, g)) ∨ (b = 0 ∧ Err t (o 7) (st0 f) (o1 8)) → (∀ k, ¬ (0 ≤ k ∧ k < 195) → g k = f k) → o1 4 = o 4 ∧ o1 5 = 0 ∧ o1 7 = o 7 → 0 ≤ o1 8 ∧ o1 8 ≤ o 7 → M1 (m + 1) = g → M1 m = o1 → M1 (m + 2) = p → M1 (m + 3) = ay_14 → M1 (m + 4) = d0 → M1 (m + 5) = t → (∀ r, r ≠ m → r ≠ m + 1 → r ≠ m + 2 → r ≠ m + 3 → r ≠ m + 4 → M1 r = M r) → ((o 7 - o1 8) * 2 + b).toNat < n_52 → WP 4 132 52 [vR m, vI b, v2_52] [] (M1, S) Q := by
    intro n_52
    induction n_52 with
    | zero => intro b v2_52 M1 o1 g hb9 hgo hk9 ho8 z_52_0 z_52_1 z_52_2 z_52_3 z_52_4 z_52_5 fr_52 hm_52; exact absurd hm_52 (Nat.not_lt_zero _)
    | succ n_52 ih_52 =>
      intro b v2_52 M1 o1 g hb9 hgo hk9 ho8 z_52_0 z_52_1 z_52_2 z_52_3 z_52_4 z_52_5 fr_52 hm_52
      have hbb : b = 0 ∨ b = 1 := by rcases hb9 with h | h <;> omega
      refine WP.blk 2 ?_
      show WP 4 132 (if cnd .eq b 0 = true then 75 else 56) [vR m, vI b, v2_52] [] (M1, S) Q
      refine br_eq (fun c_80 => ?_) (fun c_80 => ?_)
      · refine WP.blk 2 ?_
        show WP 4 132 (if cnd .ne b 0 = true then 91 else 79) [vR m, vI b, v2_52] [] (M1, S) Q
        refine br_ne (fun c_81 => ?_) (fun c_81 => ?_)
        · refine WP.blk 2 ?_
          show WP 4 132 93 [vR m, vI b, vI 0] [] (M1, S) Q
          have hl_93 : ∀ (n_93 : Nat) (i : Int) (M2 : Nat → Int → Int) (d1 : Int → Int), 0 ≤ i ∧ i ≤ 195 → d1 = rcp g 0 d0 0 i → M2 (m + 1) = g → M2 m = o1 → M2 (m + 2) = p → M2 (m + 3) = ay_14 → M2 (m + 4) = d1 → M2 (m + 5) = t → (∀ r, r ≠ m → r ≠ m + 1 → r ≠ m + 2 → r ≠ m + 3 → r ≠ m + 4 → M2 r = M r) → (195 - i).toNat < n_93 → WP 4 132 93 [vR m, vI b, vI i] [] (M2, S) Q := by
            intro n_93
            induction n_93 with
            | zero => intro i M2 d1 i0 i1 z_93_0 z_93_1 z_93_2 z_93_3 z_93_4 z_93_5 fr_93 hm_93; exact absurd hm_93 (Nat.not_lt_zero _)
            | succ n_93 ih_93 =>
              intro i M2 d1 i0 i1 z_93_0 z_93_1 z_93_2 z_93_3 z_93_4 z_93_5 fr_93 hm_93
              refine WP.blk 3 ?_
              show WP 4 132 (if cnd .ge i 195 = true then 118 else 100) [vR m, vI b, vI i] [] (M2, S) Q
              refine br_ge (fun c_82 => ?_) (fun c_82 => ?_)
              · have hz9 := (hb9.resolve_right (fun h => by omega)).2
                have hpw := pw_i hz9
                have hp0 := hpw.1.1
                have hp1 := hpw.1.2.1
                refine WP.blk 1 ?_
                show WP 4 132 119 [vR m, vI b, vI i] [vR m] (M2, S) Q
                refine WP.cl (a := [vR m]) (rest := []) rfl rfl rfl rfl ⟨hS.1.1, trivial⟩ (by decide) (r_takesBack hS z_93_0 z_93_3 (fun My_83 fry_83 hMy_83 => ⟨rfl, ?_⟩))
                show WP 4 132 122 [vR m, vI b, vI i] [] (My_83, S) Q
                have hby_83 : My_83 (m + 1) = f := hMy_83.trans (by rw [hMy_14]; exact rcp_back hgo)
                have r_85 : My_83 m = o1 := (fry_83 _ (by omega)).trans z_93_1
                have r_86 : My_83 (m + 2) = p := (fry_83 _ (by omega)).trans z_93_2
                have r_87 : My_83 (m + 3) = ay_14 := (fry_83 _ (by omega)).trans z_93_3
                have r_88 : My_83 (m + 4) = d1 := (fry_83 _ (by omega)).trans z_93_4
                have r_89 : My_83 (m + 5) = t := (fry_83 _ (by omega)).trans z_93_5
                have fr_90 : ∀ r, r ≠ m → r ≠ m + 1 → r ≠ m + 2 → r ≠ m + 3 → r ≠ m + 4 → My_83 r = M r := fun r q0 q1 q2 q3 q4 => (fry_83 r q1).trans (fr_93 r q0 q1 q2 q3 q4)
                refine WP.blk 1 ?_
                show WP 4 132 123 [vR m, vI b, vI i] [vR m] (My_83, S) Q
                refine WP.cl (a := [vR m]) (rest := []) rfl rfl rfl rfl ⟨hS.1.1, trivial⟩ (by decide) (r_saves hS hby_83 r_85 r_86 (by omega) (fun My_91 fry_91 py_91 oy_91 hpy_91 hoy_91 hky_91 hvy_91 => ⟨rfl, ?_⟩))
                show WP 4 132 126 [vR m, vI b, vI i] [] (My_91, S) Q
                have r_92 : My_91 (m + 1) = f := (fry_91 _ (by omega) (by omega)).trans hby_83
                have r_95 : My_91 (m + 3) = ay_14 := (fry_91 _ (by omega) (by omega)).trans r_87
                have r_96 : My_91 (m + 4) = d1 := (fry_91 _ (by omega) (by omega)).trans r_88
                have r_97 : My_91 (m + 5) = t := (fry_91 _ (by omega) (by omega)).trans r_89
                have fr_98 : ∀ r, r ≠ m → r ≠ m + 1 → r ≠ m + 2 → r ≠ m + 3 → r ≠ m + 4 → My_91 r = M r := fun r q0 q1 q2 q3 q4 => (fry_91 r q0 q2).trans (fr_90 r q0 q1 q2 q3 q4)
                have t5y_91 := hky_91 5 (by omega)
                have t7y_91 := hky_91 7 (by omega)
                have t11y_91 := hky_91 11 (by omega)
                refine WP.blk 2 ?_
                show WP 4 132 128 [vR m, vI b, vI 0] [] (My_91, S) Q
                have hl_128 : ∀ (n_128 : Nat) (z : Int) (M3 : Nat → Int → Int) (g4 : Int → Int), 0 ≤ z ∧ z ≤ 195 → g4 = rcp d1 0 f 0 z → M3 (m + 1) = g4 → M3 m = oy_91 → M3 (m + 2) = py_91 → M3 (m + 3) = ay_14 → M3 (m + 4) = d1 → M3 (m + 5) = t → (∀ r, r ≠ m → r ≠ m + 1 → r ≠ m + 2 → r ≠ m + 3 → r ≠ m + 4 → M3 r = M r) → (195 - z).toNat < n_128 → WP 4 132 128 [vR m, vI b, vI z] [] (M3, S) Q := by
                  intro n_128
                  induction n_128 with
                  | zero => intro z M3 g4 i2 i3 z_128_0 z_128_1 z_128_2 z_128_3 z_128_4 z_128_5 fr_128 hm_128; exact absurd hm_128 (Nat.not_lt_zero _)
                  | succ n_128 ih_128 =>
                    intro z M3 g4 i2 i3 z_128_0 z_128_1 z_128_2 z_128_3 z_128_4 z_128_5 fr_128 hm_128
                    refine WP.blk 3 ?_
                    show WP 4 132 (if cnd .ge z 195 = true then 153 else 135) [vR m, vI b, vI z] [] (M3, S) Q
                    refine br_ge (fun c_99 => ?_) (fun c_99 => ?_)
                    · have hg4 : g4 = g := by rw [i3, show z = 195 by omega, i1, show i = 195 by omega]; exact rcp_back (fun k hk => (hgo k hk).symm)
                      have hg40 := congrFun hg4 0
                      have hg41 := congrFun hg4 1
                      refine WP.blk 2 ?_
                      show (sT S m = 10 ∧ sR S m 0 ≠ 0) ∧ WP 4 132 157 [vR m, vI b, vI z] [vR (sR S m 0)] (M3, S) Q
                      refine ⟨⟨hS.1.1, by rw [hS.1.2.1]; omega⟩, ?_⟩
                      rw [hS.1.2.1]
                      refine WP.blk 4 ?_
                      show ((sT S (m + 1) = 11 ∨ sT S (m + 1) = 16 ∨ sT S (m + 1) = 17) ∧ 0 ≤ 0 ∧ 0 < (sN S (m + 1) : Int)) ∧ (sT S m = 10 ∧ sR S m 0 ≠ 0) ∧ WP 4 132 163 [vR m, vI b, vI z] [vR (sR S m 0), vI (M3 (m + 1) 0)] (M3, S) Q
                      rw [z_128_0]
                      refine ⟨⟨Or.inl hS.2.1.1, by omega, by rw [hS.2.2.1]; omega⟩, ⟨hS.1.1, by rw [hS.1.2.1]; omega⟩, ?_⟩
                      rw [hS.1.2.1]
                      refine WP.blk 3 ?_
                      show ((sT S (m + 1) = 11 ∨ sT S (m + 1) = 16 ∨ sT S (m + 1) = 17) ∧ 0 ≤ 1 ∧ 1 < (sN S (m + 1) : Int)) ∧ ir ((g4 0) + (M3 (m + 1) 1)) ∧ WP 4 132 166 [vR m, vI b, vI z] [vI ((g4 0) + (M3 (m + 1) 1))] (M3, S) Q
                      rw [z_128_0]
                      refine ⟨⟨Or.inl hS.2.1.1, by omega, by rw [hS.2.2.1]; omega⟩, (by unfold ir; omega), ?_⟩
                      refine WP.ret rfl rfl rfl trivial ?_
                      refine k _ _ fr_128 _ z_128_1 (by omega) (by omega) (Or.inr ⟨g, by rw [show o 7 = o1 8 by omega]; exact hz9, by omega, z_128_0.trans hg4, _, z_128_2, ?_⟩)
                      have e4 := hvy_91
                      rw [show o1 4 = o 4 by omega] at e4
                      exact e4
                    · refine WP.blk 2 ?_
                      show (sT S m = 10 ∧ sR S m 0 ≠ 0) ∧ WP 4 132 139 [vR m, vI b, vI z] [vR (sR S m 0)] (M3, S) Q
                      refine ⟨⟨hS.1.1, by rw [hS.1.2.1]; omega⟩, ?_⟩
                      rw [hS.1.2.1]
                      refine WP.blk 3 ?_
                      show (sT S m = 10 ∧ sR S m 3 ≠ 0) ∧ WP 4 132 144 [vR m, vI b, vI z] [vR (sR S m 3), vI z, vR (m + 1)] (M3, S) Q
                      refine ⟨⟨hS.1.1, by rw [hS.1.2.2.2.2.1]; omega⟩, ?_⟩
                      rw [hS.1.2.2.2.2.1]
                      refine WP.blk 3 ?_
                      show ((sT S (m + 4) = 11 ∨ sT S (m + 4) = 16 ∨ sT S (m + 4) = 17) ∧ 0 ≤ z ∧ z < (sN S (m + 4) : Int)) ∧ (sT S (m + 1) = 11 ∧ 0 ≤ z ∧ z < (sN S (m + 1) : Int)) ∧ WP 4 132 147 [vR m, vI b, vI z] [] (up M3 (m + 1) z (M3 (m + 4) z), S) Q
                      rw [z_128_4]
                      refine ⟨⟨Or.inl hS.2.1.2.2.2.1, by omega, by rw [hS.2.2.2.2.2.1]; omega⟩, ⟨hS.2.1.1, by omega, by rw [hS.2.2.1]; omega⟩, ?_⟩
                      generalize hM_100 : up M3 (m + 1) z (d1 z) = M_100
                      obtain ⟨g_102, hg_102⟩ : ∃ y9, y9 = uf g4 z (d1 z) := ⟨_, rfl⟩
                      have r_101 : M_100 (m + 1) = g_102 := by rw [← hM_100, hg_102, up_self, z_128_0]
                      have r_103 : M_100 m = oy_91 := by rw [← hM_100]; exact (up_row (by omega)).trans z_128_1
                      have r_104 : M_100 (m + 2) = py_91 := by rw [← hM_100]; exact (up_row (by omega)).trans z_128_2
                      have r_105 : M_100 (m + 3) = ay_14 := by rw [← hM_100]; exact (up_row (by omega)).trans z_128_3
                      have r_106 : M_100 (m + 4) = d1 := by rw [← hM_100]; exact (up_row (by omega)).trans z_128_4
                      have r_107 : M_100 (m + 5) = t := by rw [← hM_100]; exact (up_row (by omega)).trans z_128_5
                      have fr_108 : ∀ r, r ≠ m → r ≠ m + 1 → r ≠ m + 2 → r ≠ m + 3 → r ≠ m + 4 → M_100 r = M r := fun r q0 q1 q2 q3 q4 => by rw [← hM_100]; exact (up_row q1).trans (fr_128 r q0 q1 q2 q3 q4)
                      refine WP.blk 2 ?_
                      show ir (z + 1) ∧ WP 4 132 128 [vR m, vI b, vI (z + 1)] [] (M_100, S) Q
                      refine ⟨(by unfold ir; omega), ?_⟩
                      exact ih_128 (z + 1) M_100 g_102 (by omega) (by rw [hg_102, i3]; exact rcp_s i2.1 (by omega) (by congr 1; omega)) r_101 r_103 r_104 r_105 r_106 r_107 fr_108 (by omega)
                exact hl_128 _ 0 My_91 f (by omega) rcp_0.symm r_92 hoy_91 hpy_91 r_95 r_96 r_97 fr_98 (Nat.lt_succ_self _)
              · refine WP.blk 2 ?_
                show (sT S m = 10 ∧ sR S m 3 ≠ 0) ∧ WP 4 132 104 [vR m, vI b, vI i] [vR (sR S m 3)] (M2, S) Q
                refine ⟨⟨hS.1.1, by rw [hS.1.2.2.2.2.1]; omega⟩, ?_⟩
                rw [hS.1.2.2.2.2.1]
                refine WP.blk 3 ?_
                show (sT S m = 10 ∧ sR S m 0 ≠ 0) ∧ WP 4 132 109 [vR m, vI b, vI i] [vR (sR S m 0), vI i, vR (m + 4)] (M2, S) Q
                refine ⟨⟨hS.1.1, by rw [hS.1.2.1]; omega⟩, ?_⟩
                rw [hS.1.2.1]
                refine WP.blk 3 ?_
                show ((sT S (m + 1) = 11 ∨ sT S (m + 1) = 16 ∨ sT S (m + 1) = 17) ∧ 0 ≤ i ∧ i < (sN S (m + 1) : Int)) ∧ (sT S (m + 4) = 11 ∧ 0 ≤ i ∧ i < (sN S (m + 4) : Int)) ∧ WP 4 132 112 [vR m, vI b, vI i] [] (up M2 (m + 4) i (M2 (m + 1) i), S) Q
                rw [z_93_0]
                refine ⟨⟨Or.inl hS.2.1.1, by omega, by rw [hS.2.2.1]; omega⟩, ⟨hS.2.1.2.2.2.1, by omega, by rw [hS.2.2.2.2.2.1]; omega⟩, ?_⟩
                generalize hM_109 : up M2 (m + 4) i (g i) = M_109
                have r_110 : M_109 (m + 1) = g := by rw [← hM_109]; exact (up_row (by omega)).trans z_93_0
                have r_111 : M_109 m = o1 := by rw [← hM_109]; exact (up_row (by omega)).trans z_93_1
                have r_112 : M_109 (m + 2) = p := by rw [← hM_109]; exact (up_row (by omega)).trans z_93_2
                have r_113 : M_109 (m + 3) = ay_14 := by rw [← hM_109]; exact (up_row (by omega)).trans z_93_3
                obtain ⟨g_115, hg_115⟩ : ∃ y9, y9 = uf d1 i (g i) := ⟨_, rfl⟩
                have r_114 : M_109 (m + 4) = g_115 := by rw [← hM_109, hg_115, up_self, z_93_4]
                have r_116 : M_109 (m + 5) = t := by rw [← hM_109]; exact (up_row (by omega)).trans z_93_5
                have fr_117 : ∀ r, r ≠ m → r ≠ m + 1 → r ≠ m + 2 → r ≠ m + 3 → r ≠ m + 4 → M_109 r = M r := fun r q0 q1 q2 q3 q4 => by rw [← hM_109]; exact (up_row q4).trans (fr_93 r q0 q1 q2 q3 q4)
                refine WP.blk 2 ?_
                show ir (i + 1) ∧ WP 4 132 93 [vR m, vI b, vI (i + 1)] [] (M_109, S) Q
                refine ⟨(by unfold ir; omega), ?_⟩
                exact ih_93 (i + 1) M_109 g_115 (by omega) (by rw [hg_115, i1]; exact rcp_s i0.1 (by omega) (by congr 1; omega)) r_110 r_111 r_112 r_113 r_114 r_116 fr_117 (by omega)
          exact hl_93 _ 0 M1 d0 (by omega) rcp_0.symm z_52_0 z_52_1 z_52_2 z_52_3 z_52_4 z_52_5 fr_52 (Nat.lt_succ_self _)
        · refine WP.blk 1 ?_
          show WP 4 132 80 [vR m, vI b, v2_52] [vR m] (M1, S) Q
          refine WP.cl (a := [vR m]) (rest := []) rfl rfl rfl rfl ⟨hS.1.1, trivial⟩ (by decide) (r_takesBack hS z_52_0 z_52_3 (fun My_118 fry_118 hMy_118 => ⟨rfl, ?_⟩))
          show WP 4 132 83 [vR m, vI b, v2_52] [] (My_118, S) Q
          have hby_118 : My_118 (m + 1) = f := hMy_118.trans (by rw [hMy_14]; exact rcp_back hgo)
          have r_120 : My_118 m = o1 := (fry_118 _ (by omega)).trans z_52_1
          have r_121 : My_118 (m + 2) = p := (fry_118 _ (by omega)).trans z_52_2
          have r_122 : My_118 (m + 3) = ay_14 := (fry_118 _ (by omega)).trans z_52_3
          have r_123 : My_118 (m + 4) = d0 := (fry_118 _ (by omega)).trans z_52_4
          have r_124 : My_118 (m + 5) = t := (fry_118 _ (by omega)).trans z_52_5
          have fr_125 : ∀ r, r ≠ m → r ≠ m + 1 → r ≠ m + 2 → r ≠ m + 3 → r ≠ m + 4 → My_118 r = M r := fun r q0 q1 q2 q3 q4 => (fry_118 r q1).trans (fr_52 r q0 q1 q2 q3 q4)
          refine WP.blk 4 ?_
          show sT S m = 10 ∧ ir ((-10) - (My_118 m 8)) ∧ WP 4 132 90 [vR m, vI b, v2_52] [vI ((-10) - (My_118 m 8))] (My_118, S) Q
          rw [r_120]
          refine ⟨hS.1.1, (by unfold ir; omega), ?_⟩
          exact WP.ret rfl rfl rfl trivial (k _ _ fr_125 _ r_120 (by omega) (by omega) (Or.inl ⟨_, (hb9.resolve_left (fun h => by omega)).2, rfl, hby_118, r_121, by omega⟩))
      · refine WP.blk 5 ?_
        show sT S m = 10 ∧ sT S m = 10 ∧ WP 4 132 (if cnd .ge (M1 m 8) (M1 m 7) = true then 75 else 67) [vR m, vI b, v2_52] [] (M1, S) Q
        rw [z_52_1]
        refine ⟨hS.1.1, hS.1.1, ?_⟩
        refine br_ge (fun c_126 => ?_) (fun c_126 => ?_)
        · refine WP.blk 2 ?_
          show WP 4 132 (if cnd .ne b 0 = true then 91 else 79) [vR m, vI b, v2_52] [] (M1, S) Q
          refine br_ne (fun c_127 => ?_) (fun c_127 => ?_)
          · refine WP.blk 2 ?_
            show WP 4 132 93 [vR m, vI b, vI 0] [] (M1, S) Q
            have hl_93 : ∀ (n_93 : Nat) (i : Int) (M2 : Nat → Int → Int) (d1 : Int → Int), 0 ≤ i ∧ i ≤ 195 → d1 = rcp g 0 d0 0 i → M2 (m + 1) = g → M2 m = o1 → M2 (m + 2) = p → M2 (m + 3) = ay_14 → M2 (m + 4) = d1 → M2 (m + 5) = t → (∀ r, r ≠ m → r ≠ m + 1 → r ≠ m + 2 → r ≠ m + 3 → r ≠ m + 4 → M2 r = M r) → (195 - i).toNat < n_93 → WP 4 132 93 [vR m, vI b, vI i] [] (M2, S) Q := by
              intro n_93
              induction n_93 with
              | zero => intro i M2 d1 i0 i1 z_93_0 z_93_1 z_93_2 z_93_3 z_93_4 z_93_5 fr_93 hm_93; exact absurd hm_93 (Nat.not_lt_zero _)
              | succ n_93 ih_93 =>
                intro i M2 d1 i0 i1 z_93_0 z_93_1 z_93_2 z_93_3 z_93_4 z_93_5 fr_93 hm_93
                refine WP.blk 3 ?_
                show WP 4 132 (if cnd .ge i 195 = true then 118 else 100) [vR m, vI b, vI i] [] (M2, S) Q
                refine br_ge (fun c_128 => ?_) (fun c_128 => ?_)
                · have hz9 := (hb9.resolve_right (fun h => by omega)).2
                  have hpw := pw_i hz9
                  have hp0 := hpw.1.1
                  have hp1 := hpw.1.2.1
                  refine WP.blk 1 ?_
                  show WP 4 132 119 [vR m, vI b, vI i] [vR m] (M2, S) Q
                  refine WP.cl (a := [vR m]) (rest := []) rfl rfl rfl rfl ⟨hS.1.1, trivial⟩ (by decide) (r_takesBack hS z_93_0 z_93_3 (fun My_129 fry_129 hMy_129 => ⟨rfl, ?_⟩))
                  show WP 4 132 122 [vR m, vI b, vI i] [] (My_129, S) Q
                  have hby_129 : My_129 (m + 1) = f := hMy_129.trans (by rw [hMy_14]; exact rcp_back hgo)
                  have r_131 : My_129 m = o1 := (fry_129 _ (by omega)).trans z_93_1
                  have r_132 : My_129 (m + 2) = p := (fry_129 _ (by omega)).trans z_93_2
                  have r_133 : My_129 (m + 3) = ay_14 := (fry_129 _ (by omega)).trans z_93_3
                  have r_134 : My_129 (m + 4) = d1 := (fry_129 _ (by omega)).trans z_93_4
                  have r_135 : My_129 (m + 5) = t := (fry_129 _ (by omega)).trans z_93_5
                  have fr_136 : ∀ r, r ≠ m → r ≠ m + 1 → r ≠ m + 2 → r ≠ m + 3 → r ≠ m + 4 → My_129 r = M r := fun r q0 q1 q2 q3 q4 => (fry_129 r q1).trans (fr_93 r q0 q1 q2 q3 q4)
                  refine WP.blk 1 ?_
                  show WP 4 132 123 [vR m, vI b, vI i] [vR m] (My_129, S) Q
                  refine WP.cl (a := [vR m]) (rest := []) rfl rfl rfl rfl ⟨hS.1.1, trivial⟩ (by decide) (r_saves hS hby_129 r_131 r_132 (by omega) (fun My_137 fry_137 py_137 oy_137 hpy_137 hoy_137 hky_137 hvy_137 => ⟨rfl, ?_⟩))
                  show WP 4 132 126 [vR m, vI b, vI i] [] (My_137, S) Q
                  have r_138 : My_137 (m + 1) = f := (fry_137 _ (by omega) (by omega)).trans hby_129
                  have r_141 : My_137 (m + 3) = ay_14 := (fry_137 _ (by omega) (by omega)).trans r_133
                  have r_142 : My_137 (m + 4) = d1 := (fry_137 _ (by omega) (by omega)).trans r_134
                  have r_143 : My_137 (m + 5) = t := (fry_137 _ (by omega) (by omega)).trans r_135
                  have fr_144 : ∀ r, r ≠ m → r ≠ m + 1 → r ≠ m + 2 → r ≠ m + 3 → r ≠ m + 4 → My_137 r = M r := fun r q0 q1 q2 q3 q4 => (fry_137 r q0 q2).trans (fr_136 r q0 q1 q2 q3 q4)
                  have t5y_137 := hky_137 5 (by omega)
                  have t7y_137 := hky_137 7 (by omega)
                  have t11y_137 := hky_137 11 (by omega)
                  refine WP.blk 2 ?_
                  show WP 4 132 128 [vR m, vI b, vI 0] [] (My_137, S) Q
                  have hl_128 : ∀ (n_128 : Nat) (z : Int) (M3 : Nat → Int → Int) (g4 : Int → Int), 0 ≤ z ∧ z ≤ 195 → g4 = rcp d1 0 f 0 z → M3 (m + 1) = g4 → M3 m = oy_137 → M3 (m + 2) = py_137 → M3 (m + 3) = ay_14 → M3 (m + 4) = d1 → M3 (m + 5) = t → (∀ r, r ≠ m → r ≠ m + 1 → r ≠ m + 2 → r ≠ m + 3 → r ≠ m + 4 → M3 r = M r) → (195 - z).toNat < n_128 → WP 4 132 128 [vR m, vI b, vI z] [] (M3, S) Q := by
                    intro n_128
                    induction n_128 with
                    | zero => intro z M3 g4 i2 i3 z_128_0 z_128_1 z_128_2 z_128_3 z_128_4 z_128_5 fr_128 hm_128; exact absurd hm_128 (Nat.not_lt_zero _)
                    | succ n_128 ih_128 =>
                      intro z M3 g4 i2 i3 z_128_0 z_128_1 z_128_2 z_128_3 z_128_4 z_128_5 fr_128 hm_128
                      refine WP.blk 3 ?_
                      show WP 4 132 (if cnd .ge z 195 = true then 153 else 135) [vR m, vI b, vI z] [] (M3, S) Q
                      refine br_ge (fun c_145 => ?_) (fun c_145 => ?_)
                      · have hg4 : g4 = g := by rw [i3, show z = 195 by omega, i1, show i = 195 by omega]; exact rcp_back (fun k hk => (hgo k hk).symm)
                        have hg40 := congrFun hg4 0
                        have hg41 := congrFun hg4 1
                        refine WP.blk 2 ?_
                        show (sT S m = 10 ∧ sR S m 0 ≠ 0) ∧ WP 4 132 157 [vR m, vI b, vI z] [vR (sR S m 0)] (M3, S) Q
                        refine ⟨⟨hS.1.1, by rw [hS.1.2.1]; omega⟩, ?_⟩
                        rw [hS.1.2.1]
                        refine WP.blk 4 ?_
                        show ((sT S (m + 1) = 11 ∨ sT S (m + 1) = 16 ∨ sT S (m + 1) = 17) ∧ 0 ≤ 0 ∧ 0 < (sN S (m + 1) : Int)) ∧ (sT S m = 10 ∧ sR S m 0 ≠ 0) ∧ WP 4 132 163 [vR m, vI b, vI z] [vR (sR S m 0), vI (M3 (m + 1) 0)] (M3, S) Q
                        rw [z_128_0]
                        refine ⟨⟨Or.inl hS.2.1.1, by omega, by rw [hS.2.2.1]; omega⟩, ⟨hS.1.1, by rw [hS.1.2.1]; omega⟩, ?_⟩
                        rw [hS.1.2.1]
                        refine WP.blk 3 ?_
                        show ((sT S (m + 1) = 11 ∨ sT S (m + 1) = 16 ∨ sT S (m + 1) = 17) ∧ 0 ≤ 1 ∧ 1 < (sN S (m + 1) : Int)) ∧ ir ((g4 0) + (M3 (m + 1) 1)) ∧ WP 4 132 166 [vR m, vI b, vI z] [vI ((g4 0) + (M3 (m + 1) 1))] (M3, S) Q
                        rw [z_128_0]
                        refine ⟨⟨Or.inl hS.2.1.1, by omega, by rw [hS.2.2.1]; omega⟩, (by unfold ir; omega), ?_⟩
                        refine WP.ret rfl rfl rfl trivial ?_
                        refine k _ _ fr_128 _ z_128_1 (by omega) (by omega) (Or.inr ⟨g, by rw [show o 7 = o1 8 by omega]; exact hz9, by omega, z_128_0.trans hg4, _, z_128_2, ?_⟩)
                        have e4 := hvy_137
                        rw [show o1 4 = o 4 by omega] at e4
                        exact e4
                      · refine WP.blk 2 ?_
                        show (sT S m = 10 ∧ sR S m 0 ≠ 0) ∧ WP 4 132 139 [vR m, vI b, vI z] [vR (sR S m 0)] (M3, S) Q
                        refine ⟨⟨hS.1.1, by rw [hS.1.2.1]; omega⟩, ?_⟩
                        rw [hS.1.2.1]
                        refine WP.blk 3 ?_
                        show (sT S m = 10 ∧ sR S m 3 ≠ 0) ∧ WP 4 132 144 [vR m, vI b, vI z] [vR (sR S m 3), vI z, vR (m + 1)] (M3, S) Q
                        refine ⟨⟨hS.1.1, by rw [hS.1.2.2.2.2.1]; omega⟩, ?_⟩
                        rw [hS.1.2.2.2.2.1]
                        refine WP.blk 3 ?_
                        show ((sT S (m + 4) = 11 ∨ sT S (m + 4) = 16 ∨ sT S (m + 4) = 17) ∧ 0 ≤ z ∧ z < (sN S (m + 4) : Int)) ∧ (sT S (m + 1) = 11 ∧ 0 ≤ z ∧ z < (sN S (m + 1) : Int)) ∧ WP 4 132 147 [vR m, vI b, vI z] [] (up M3 (m + 1) z (M3 (m + 4) z), S) Q
                        rw [z_128_4]
                        refine ⟨⟨Or.inl hS.2.1.2.2.2.1, by omega, by rw [hS.2.2.2.2.2.1]; omega⟩, ⟨hS.2.1.1, by omega, by rw [hS.2.2.1]; omega⟩, ?_⟩
                        generalize hM_146 : up M3 (m + 1) z (d1 z) = M_146
                        obtain ⟨g_148, hg_148⟩ : ∃ y9, y9 = uf g4 z (d1 z) := ⟨_, rfl⟩
                        have r_147 : M_146 (m + 1) = g_148 := by rw [← hM_146, hg_148, up_self, z_128_0]
                        have r_149 : M_146 m = oy_137 := by rw [← hM_146]; exact (up_row (by omega)).trans z_128_1
                        have r_150 : M_146 (m + 2) = py_137 := by rw [← hM_146]; exact (up_row (by omega)).trans z_128_2
                        have r_151 : M_146 (m + 3) = ay_14 := by rw [← hM_146]; exact (up_row (by omega)).trans z_128_3
                        have r_152 : M_146 (m + 4) = d1 := by rw [← hM_146]; exact (up_row (by omega)).trans z_128_4
                        have r_153 : M_146 (m + 5) = t := by rw [← hM_146]; exact (up_row (by omega)).trans z_128_5
                        have fr_154 : ∀ r, r ≠ m → r ≠ m + 1 → r ≠ m + 2 → r ≠ m + 3 → r ≠ m + 4 → M_146 r = M r := fun r q0 q1 q2 q3 q4 => by rw [← hM_146]; exact (up_row q1).trans (fr_128 r q0 q1 q2 q3 q4)
                        refine WP.blk 2 ?_
                        show ir (z + 1) ∧ WP 4 132 128 [vR m, vI b, vI (z + 1)] [] (M_146, S) Q
                        refine ⟨(by unfold ir; omega), ?_⟩
                        exact ih_128 (z + 1) M_146 g_148 (by omega) (by rw [hg_148, i3]; exact rcp_s i2.1 (by omega) (by congr 1; omega)) r_147 r_149 r_150 r_151 r_152 r_153 fr_154 (by omega)
                  exact hl_128 _ 0 My_137 f (by omega) rcp_0.symm r_138 hoy_137 hpy_137 r_141 r_142 r_143 fr_144 (Nat.lt_succ_self _)
                · refine WP.blk 2 ?_
                  show (sT S m = 10 ∧ sR S m 3 ≠ 0) ∧ WP 4 132 104 [vR m, vI b, vI i] [vR (sR S m 3)] (M2, S) Q
                  refine ⟨⟨hS.1.1, by rw [hS.1.2.2.2.2.1]; omega⟩, ?_⟩
                  rw [hS.1.2.2.2.2.1]
                  refine WP.blk 3 ?_
                  show (sT S m = 10 ∧ sR S m 0 ≠ 0) ∧ WP 4 132 109 [vR m, vI b, vI i] [vR (sR S m 0), vI i, vR (m + 4)] (M2, S) Q
                  refine ⟨⟨hS.1.1, by rw [hS.1.2.1]; omega⟩, ?_⟩
                  rw [hS.1.2.1]
                  refine WP.blk 3 ?_
                  show ((sT S (m + 1) = 11 ∨ sT S (m + 1) = 16 ∨ sT S (m + 1) = 17) ∧ 0 ≤ i ∧ i < (sN S (m + 1) : Int)) ∧ (sT S (m + 4) = 11 ∧ 0 ≤ i ∧ i < (sN S (m + 4) : Int)) ∧ WP 4 132 112 [vR m, vI b, vI i] [] (up M2 (m + 4) i (M2 (m + 1) i), S) Q
                  rw [z_93_0]
                  refine ⟨⟨Or.inl hS.2.1.1, by omega, by rw [hS.2.2.1]; omega⟩, ⟨hS.2.1.2.2.2.1, by omega, by rw [hS.2.2.2.2.2.1]; omega⟩, ?_⟩
                  generalize hM_155 : up M2 (m + 4) i (g i) = M_155
                  have r_156 : M_155 (m + 1) = g := by rw [← hM_155]; exact (up_row (by omega)).trans z_93_0
                  have r_157 : M_155 m = o1 := by rw [← hM_155]; exact (up_row (by omega)).trans z_93_1
                  have r_158 : M_155 (m + 2) = p := by rw [← hM_155]; exact (up_row (by omega)).trans z_93_2
                  have r_159 : M_155 (m + 3) = ay_14 := by rw [← hM_155]; exact (up_row (by omega)).trans z_93_3
                  obtain ⟨g_161, hg_161⟩ : ∃ y9, y9 = uf d1 i (g i) := ⟨_, rfl⟩
                  have r_160 : M_155 (m + 4) = g_161 := by rw [← hM_155, hg_161, up_self, z_93_4]
                  have r_162 : M_155 (m + 5) = t := by rw [← hM_155]; exact (up_row (by omega)).trans z_93_5
                  have fr_163 : ∀ r, r ≠ m → r ≠ m + 1 → r ≠ m + 2 → r ≠ m + 3 → r ≠ m + 4 → M_155 r = M r := fun r q0 q1 q2 q3 q4 => by rw [← hM_155]; exact (up_row q4).trans (fr_93 r q0 q1 q2 q3 q4)
                  refine WP.blk 2 ?_
                  show ir (i + 1) ∧ WP 4 132 93 [vR m, vI b, vI (i + 1)] [] (M_155, S) Q
                  refine ⟨(by unfold ir; omega), ?_⟩
                  exact ih_93 (i + 1) M_155 g_161 (by omega) (by rw [hg_161, i1]; exact rcp_s i0.1 (by omega) (by congr 1; omega)) r_156 r_157 r_158 r_159 r_160 r_162 fr_163 (by omega)
            exact hl_93 _ 0 M1 d0 (by omega) rcp_0.symm z_52_0 z_52_1 z_52_2 z_52_3 z_52_4 z_52_5 fr_52 (Nat.lt_succ_self _)
          · refine WP.blk 1 ?_
            show WP 4 132 80 [vR m, vI b, v2_52] [vR m] (M1, S) Q
            refine WP.cl (a := [vR m]) (rest := []) rfl rfl rfl rfl ⟨hS.1.1, trivial⟩ (by decide) (r_takesBack hS z_52_0 z_52_3 (fun My_164 fry_164 hMy_164 => ⟨rfl, ?_⟩))
            show WP 4 132 83 [vR m, vI b, v2_52] [] (My_164, S) Q
            have hby_164 : My_164 (m + 1) = f := hMy_164.trans (by rw [hMy_14]; exact rcp_back hgo)
            have r_166 : My_164 m = o1 := (fry_164 _ (by omega)).trans z_52_1
            have r_167 : My_164 (m + 2) = p := (fry_164 _ (by omega)).trans z_52_2
            have r_168 : My_164 (m + 3) = ay_14 := (fry_164 _ (by omega)).trans z_52_3
            have r_169 : My_164 (m + 4) = d0 := (fry_164 _ (by omega)).trans z_52_4
            have r_170 : My_164 (m + 5) = t := (fry_164 _ (by omega)).trans z_52_5
            have fr_171 : ∀ r, r ≠ m → r ≠ m + 1 → r ≠ m + 2 → r ≠ m + 3 → r ≠ m + 4 → My_164 r = M r := fun r q0 q1 q2 q3 q4 => (fry_164 r q1).trans (fr_52 r q0 q1 q2 q3 q4)
            refine WP.blk 4 ?_
            show sT S m = 10 ∧ ir ((-10) - (My_164 m 8)) ∧ WP 4 132 90 [vR m, vI b, v2_52] [vI ((-10) - (My_164 m 8))] (My_164, S) Q
            rw [r_166]
            refine ⟨hS.1.1, (by unfold ir; omega), ?_⟩
            exact WP.ret rfl rfl rfl trivial (k _ _ fr_171 _ r_166 (by omega) (by omega) (Or.inl ⟨_, (hb9.resolve_left (fun h => by omega)).2, rfl, hby_164, r_167, by omega⟩))
        · refine WP.blk 1 ?_
          show WP 4 132 68 [vR m, vI b, v2_52] [vR m] (M1, S) Q
          refine WP.cl (a := [vR m]) (rest := []) rfl rfl rfl rfl ⟨hS.1.1, trivial⟩ (by decide) (r_takesItem (F := f) hS z_52_0 z_52_1 z_52_5 (by omega) (hb9.resolve_right (fun h => by omega)).2 (fun b_172 M172 fr172 o172 g172 ho172 hg172 hk172 hs172 hx172 hb_172 => ⟨rfl, ?_⟩))
          show WP 4 132 71 [vR m, vI b, v2_52] [vI b_172] (M172, S) Q
          have r_175 : M172 (m + 2) = p := (fr172 _ (by omega) (by omega)).trans z_52_2
          have r_176 : M172 (m + 3) = ay_14 := (fr172 _ (by omega) (by omega)).trans z_52_3
          have r_177 : M172 (m + 4) = d0 := (fr172 _ (by omega) (by omega)).trans z_52_4
          have r_178 : M172 (m + 5) = t := (fr172 _ (by omega) (by omega)).trans z_52_5
          have fr_179 : ∀ r, r ≠ m → r ≠ m + 1 → r ≠ m + 2 → r ≠ m + 3 → r ≠ m + 4 → M172 r = M r := fun r q0 q1 q2 q3 q4 => (fr172 r q0 q1).trans (fr_52 r q0 q1 q2 q3 q4)
          have hb172 : b_172 = 0 ∨ b_172 = 1 := by rcases hb_172 with h | h <;> omega
          rw [show o1 7 = o 7 by omega] at hb_172
          have hd172 : b_172 = 1 → o1 8 < o172 8 := fun h => (hb_172.resolve_right (fun h9 => by omega)).2.2
          refine WP.blk 2 ?_
          show WP 4 132 52 [vR m, vI b_172, v2_52] [] (M172, S) Q
          exact ih_52 b_172 (v2_52) M172 o172 g172 (hb_172.imp (fun h => ⟨h.1, h.2.1⟩) (fun h => h)) hx172 (by omega) (by omega) hg172 ho172 r_175 r_176 r_177 r_178 fr_179 (by omega)
  exact hl_52 _ 1 (none) M_67 g_70 g_60 (Or.inl ⟨rfl, by rw [show g_70 8 = 0 by omega, ps_0, hg_60, hg_51, hg_42, hg_33, hg_24]; rfl⟩) (fun k hk => by rw [hg_60, uf_ne (by omega), hg_51, uf_ne (by omega), hg_42, uf_ne (by omega), hg_33, uf_ne (by omega), hg_24, uf_ne (by omega)]) (by omega) (by omega) r_68 r_69 r_75 r_76 r_77 r_78 fr_79 (Nat.lt_succ_self _)
