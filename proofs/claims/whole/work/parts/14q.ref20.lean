/-- the digest once a word is mixed in -/
def DigW (f : Int → Int) (w h h2 : Int) : Prop := ∃ (n : Int) (c : Int → Int), (BestP f w c n ∨ (n = 0 ∧ ∀ c n, ¬ BestP f w c n)) ∧ h2 = mx c n (mx (fun k => f (97 + 14 * w + 2 + k)) (f (97 + 14 * w)) (mx (tw f w) 6 h))
set_option maxHeartbeats 4000000 in
theorem r_mixWord {S : SD} {M : Nat → Int → Int} {m : Nat} {f : Int → Int} {o : Int → Int} {w B : Int} (hS : isMod S m) (hf : M (m + 1) = f) (ho : M m = o) (hR : RowOk B f) (hB : 0 ≤ B ∧ B ≤ 1000000000 - 200) (hw : WdOk f w) (hcol : 0 ≤ f (97 + 14 * w + 1) ∧ f (97 + 14 * w + 1) ≤ 3) {Q : Res → Wd → Prop} (k : ∀ (M2 : Nat → Int → Int), (∀ r, r ≠ m → r ≠ m + 1 → r ≠ m + 3 → r ≠ m + 6 → r ≠ m + 7 → M2 r = M r) → M2 (m + 1) = f → ∀ o2, M2 m = o2 → o2 4 = o 4 → o2 7 = o 7 → o2 5 = o 5 → DigW f w (o 17) (o2 17) → Q (0, none) (M2, S)) : EvQ 9 177 [vR m, vI w] (M, S) Q := by
  refine EvQ.enter (ls := [vR m, vI w, none, none]) (Nat.le_of_ble_eq_true rfl) rfl ?_
  have hA := hR.1
  have hA1 := hA.1
  have hWA := hR.2.1
  have hW1 := hWA.1
  have hI := hR.2.2
  have hI2 := hI.2.1
  have hI3 := hI.2.2.1
  obtain ⟨g0, hg0⟩ : ∃ g, M (m + 6) = g := ⟨_, rfl⟩
  obtain ⟨a0, ha0⟩ : ∃ g, M (m + 3) = g := ⟨_, rfl⟩
  obtain ⟨c0, hc0⟩ : ∃ g, M (m + 7) = g := ⟨_, rfl⟩
  have hw1 := hw.1
  have hw2 := hw.2.1
  have hw3 := hw.2.2.1
  have hw4 := hw.2.2.2.1
  refine WP.blk 2 ?_
  show WP 8 177 2 [vR m, vI w, vI 0, none] [] (M, S) Q
  have hl_2 : ∀ (n_2 : Nat) (i : Int) (v3_2 : V) (M1 : Nat → Int → Int) (o1 : Int → Int) (a1 : Int → Int) (g1 : Int → Int) (c1 : Int → Int), 0 ≤ i ∧ i ≤ 6 → o1 17 = mx (tw f w) i (o 17) → o1 4 = o 4 ∧ o1 7 = o 7 ∧ o1 5 = o 5 → M1 (m + 1) = f → M1 m = o1 → M1 (m + 3) = a1 → M1 (m + 6) = g1 → M1 (m + 7) = c1 → (∀ r, r ≠ m → r ≠ m + 1 → r ≠ m + 3 → r ≠ m + 6 → r ≠ m + 7 → M1 r = M r) → (6 - i).toNat < n_2 → WP 8 177 2 [vR m, vI w, vI i, v3_2] [] (M1, S) Q := by
    intro n_2
    induction n_2 with
    | zero => intro i v3_2 M1 o1 a1 g1 c1 h0 h1 h2 z_2_0 z_2_1 z_2_2 z_2_3 z_2_4 fr_2 hm_2; exact absurd hm_2 (Nat.not_lt_zero _)
    | succ n_2 ih_2 =>
      intro i v3_2 M1 o1 a1 g1 c1 h0 h1 h2 z_2_0 z_2_1 z_2_2 z_2_3 z_2_4 fr_2 hm_2
      refine WP.blk 3 ?_
      show WP 8 177 (if cnd .ge i 6 = true then 24 else 8) [vR m, vI w, vI i, v3_2] [] (M1, S) Q
      refine br_ge (fun c_1 => ?_) (fun c_1 => ?_)
      · refine WP.blk 2 ?_
        show WP 8 177 26 [vR m, vI w, vI 0, v3_2] [] (M1, S) Q
        have hl_26 : ∀ (n_26 : Nat) (j : Int) (v3_26 : V) (M2 : Nat → Int → Int) (o2 : Int → Int), 0 ≤ j ∧ j ≤ f (97 + 14 * w) → o2 17 = mx (fun k => f (97 + 14 * w + 2 + k)) j (mx (tw f w) 6 (o 17)) → o2 4 = o 4 ∧ o2 7 = o 7 ∧ o2 5 = o 5 → M2 (m + 1) = f → M2 m = o2 → M2 (m + 3) = a1 → M2 (m + 6) = g1 → M2 (m + 7) = c1 → (∀ r, r ≠ m → r ≠ m + 1 → r ≠ m + 3 → r ≠ m + 6 → r ≠ m + 7 → M2 r = M r) → (f (97 + 14 * w) - j).toNat < n_26 → WP 8 177 26 [vR m, vI w, vI j, v3_26] [] (M2, S) Q := by
          intro n_26
          induction n_26 with
          | zero => intro j v3_26 M2 o2 h3 h4 h5 z_26_0 z_26_1 z_26_2 z_26_3 z_26_4 fr_26 hm_26; exact absurd hm_26 (Nat.not_lt_zero _)
          | succ n_26 ih_26 =>
            intro j v3_26 M2 o2 h3 h4 h5 z_26_0 z_26_1 z_26_2 z_26_3 z_26_4 fr_26 hm_26
            refine WP.blk 3 ?_
            show (sT S m = 10 ∧ sR S m 0 ≠ 0) ∧ WP 8 177 31 [vR m, vI w, vI j, v3_26] [vR (sR S m 0), vI j] (M2, S) Q
            refine ⟨⟨hS.1.1, by rw [hS.1.2.1]; omega⟩, ?_⟩
            rw [hS.1.2.1]
            refine WP.blk 1 ?_
            show WP 8 177 32 [vR m, vI w, vI j, v3_26] [vI w, vR (m + 1), vI j] (M2, S) Q
            refine WP.cl (a := [vI w]) (rest := [vR (m + 1), vI j]) rfl rfl rfl rfl trivial (by decide) (q_wordAt (by omega) ⟨rfl, ?_⟩)
            show WP 8 177 35 [vR m, vI w, vI j, v3_26] [vI (97 + 14 * w), vR (m + 1), vI j] (M2, S) Q
            refine WP.blk 2 ?_
            show ((sT S (m + 1) = 11 ∨ sT S (m + 1) = 16 ∨ sT S (m + 1) = 17) ∧ 0 ≤ (97 + 14 * w) ∧ (97 + 14 * w) < (sN S (m + 1) : Int)) ∧ WP 8 177 (if cnd .ge j (M2 (m + 1) (97 + 14 * w)) = true then 62 else 39) [vR m, vI w, vI j, v3_26] [] (M2, S) Q
            rw [z_26_0]
            refine ⟨⟨Or.inl hS.2.1.1, by omega, by rw [hS.2.2.1]; omega⟩, ?_⟩
            refine br_ge (fun c_2 => ?_) (fun c_2 => ?_)
            · refine WP.blk 3 ?_
              show WP 8 177 65 [vR m, vI w, vI j, v3_26] [vR m, vI w, vR m] (M2, S) Q
              refine WP.cl (a := [vR m]) (rest := [vI w, vR m]) rfl rfl rfl rfl ⟨hS.1.1, trivial⟩ (by decide) (r_fresh hS z_26_0 (by omega) (fun x_3 hx_3 => ⟨rfl, ?_⟩))
              show WP 8 177 68 [vR m, vI w, vI j, v3_26] [vI x_3, vI w, vR m] (M2, S) Q
              refine WP.cl (a := [vR m, vI w, vI x_3]) (rest := []) rfl rfl rfl rfl ⟨hS.1.1, trivial⟩ (by decide) (r_plans hS z_26_0 hA hw ⟨hx_3.1, hx_3.2.1⟩ (fun b_4 Mp4 fr4 o4 c4 ho4 hc4 hk4 hb_4 => ⟨rfl, ?_⟩))
              show WP 8 177 71 [vR m, vI w, vI j, v3_26] [vI b_4] (Mp4, S) Q
              have r_5 : Mp4 (m + 1) = f := (fr4 _ (by omega) (by omega) (by omega)).trans z_26_0
              have r_7 : Mp4 (m + 3) = a1 := (fr4 _ (by omega) (by omega) (by omega)).trans z_26_2
              obtain ⟨g_9, r_8⟩ : ∃ y9, Mp4 (m + 6) = y9 := ⟨_, rfl⟩
              have fr_11 : ∀ r, r ≠ m → r ≠ m + 1 → r ≠ m + 3 → r ≠ m + 6 → r ≠ m + 7 → Mp4 r = M r := fun r q0 q1 q2 q3 q4 => (fr4 r q0 q3 q4).trans (fr_26 r q0 q1 q2 q3 q4)
              have t44 := (hk4 4 (by omega)).trans (congrFun z_26_1 4)
              have t74 := (hk4 7 (by omega)).trans (congrFun z_26_1 7)
              have t54 := (hk4 5 (by omega)).trans (congrFun z_26_1 5)
              have t174 := (hk4 17 (by omega)).trans (congrFun z_26_1 17)
              have hn4 : 0 ≤ o4 11 ∧ o4 11 ≤ 12 := by rcases hb_4 with ⟨-, h⟩ | ⟨-, -, h⟩; exact (pln_le hA hw h).1; omega
              refine WP.blk 3 ?_
              show WP 8 177 74 [vR m, vI w, vI b_4, vI 0] [] (Mp4, S) Q
              have hl_74 : ∀ (n_74 : Nat) (q : Int) (M3 : Nat → Int → Int) (o3 : Int → Int), 0 ≤ q ∧ q ≤ o4 11 → o3 17 = mx c4 q (mx (fun k => f (97 + 14 * w + 2 + k)) (f (97 + 14 * w)) (mx (tw f w) 6 (o 17))) → o3 4 = o 4 ∧ o3 7 = o 7 ∧ o3 5 = o 5 ∧ o3 11 = o4 11 → M3 (m + 1) = f → M3 m = o3 → M3 (m + 3) = a1 → M3 (m + 6) = g_9 → M3 (m + 7) = c4 → (∀ r, r ≠ m → r ≠ m + 1 → r ≠ m + 3 → r ≠ m + 6 → r ≠ m + 7 → M3 r = M r) → (12 - q).toNat < n_74 → WP 8 177 74 [vR m, vI w, vI b_4, vI q] [] (M3, S) Q := by
                intro n_74
                induction n_74 with
                | zero => intro q M3 o3 h6 h7 h8 z_74_0 z_74_1 z_74_2 z_74_3 z_74_4 fr_74 hm_74; exact absurd hm_74 (Nat.not_lt_zero _)
                | succ n_74 ih_74 =>
                  intro q M3 o3 h6 h7 h8 z_74_0 z_74_1 z_74_2 z_74_3 z_74_4 fr_74 hm_74
                  refine WP.blk 4 ?_
                  show sT S m = 10 ∧ WP 8 177 (if cnd .ge q (M3 m 11) = true then 98 else 82) [vR m, vI w, vI b_4, vI q] [] (M3, S) Q
                  rw [z_74_1]
                  refine ⟨hS.1.1, ?_⟩
                  refine br_ge (fun c_12 => ?_) (fun c_12 => ?_)
                  · exact WP.ret rfl rfl rfl trivial (k _ fr_74 z_74_0 _ z_74_1 (by omega) (by omega) (by omega) ⟨o4 11, c4, hb_4.imp (fun h => ⟨_, hx_3, h.2⟩) (fun h => ⟨h.2.2, bestp_no hA hw hx_3 h.2.1⟩), by rw [h7, show q = o4 11 by omega]⟩)
                  · refine WP.blk 3 ?_
                    show (sT S m = 10 ∧ sR S m 10 ≠ 0) ∧ WP 8 177 87 [vR m, vI w, vI b_4, vI q] [vR (sR S m 10), vR m] (M3, S) Q
                    refine ⟨⟨hS.1.1, by rw [hS.1.2.2.2.2.2.2.2.1]; omega⟩, ?_⟩
                    rw [hS.1.2.2.2.2.2.2.2.1]
                    refine WP.blk 2 ?_
                    show ((sT S (m + 7) = 11 ∨ sT S (m + 7) = 16 ∨ sT S (m + 7) = 17) ∧ 0 ≤ q ∧ q < (sN S (m + 7) : Int)) ∧ WP 8 177 89 [vR m, vI w, vI b_4, vI q] [vI (M3 (m + 7) q), vR m] (M3, S) Q
                    rw [z_74_4]
                    refine ⟨⟨Or.inl hS.2.1.2.2.2.2.2.2.1, by omega, by rw [hS.2.2.2.2.2.2.2.2.1]; omega⟩, ?_⟩
                    refine WP.cl (a := [vR m, vI (c4 q)]) (rest := []) rfl rfl rfl rfl ⟨hS.1.1, trivial⟩ (by decide) (r_mix hS z_74_1 (fun My_13 fry_13 oy_13 hoy_13 hmy_13 => ⟨rfl, ?_⟩))
                    show WP 8 177 92 [vR m, vI w, vI b_4, vI q] [] (My_13, S) Q
                    have r_14 : My_13 (m + 1) = f := (fry_13 _ (by omega)).trans z_74_0
                    have r_16 : My_13 (m + 3) = a1 := (fry_13 _ (by omega)).trans z_74_2
                    have r_17 : My_13 (m + 6) = g_9 := (fry_13 _ (by omega)).trans z_74_3
                    have r_18 : My_13 (m + 7) = c4 := (fry_13 _ (by omega)).trans z_74_4
                    have fr_19 : ∀ r, r ≠ m → r ≠ m + 1 → r ≠ m + 3 → r ≠ m + 6 → r ≠ m + 7 → My_13 r = M r := fun r q0 q1 q2 q3 q4 => (fry_13 r q0).trans (fr_74 r q0 q1 q2 q3 q4)
                    have h17y_13 : oy_13 17 = 31 * o3 17 + c4 q := by rw [hmy_13]; exact uf_eq _ _ _
                    have t4y_13 : oy_13 4 = o3 4 := by rw [hmy_13]; exact uf_ne (by omega)
                    have t5y_13 : oy_13 5 = o3 5 := by rw [hmy_13]; exact uf_ne (by omega)
                    have t7y_13 : oy_13 7 = o3 7 := by rw [hmy_13]; exact uf_ne (by omega)
                    have t11y_13 : oy_13 11 = o3 11 := by rw [hmy_13]; exact uf_ne (by omega)
                    refine WP.blk 2 ?_
                    show ir (q + 1) ∧ WP 8 177 74 [vR m, vI w, vI b_4, vI (q + 1)] [] (My_13, S) Q
                    refine ⟨(by unfold ir; omega), ?_⟩
                    exact ih_74 (q + 1) My_13 oy_13 (by omega) (by rw [mx_s h6.1]; omega) (by omega) r_14 hoy_13 r_16 r_17 r_18 fr_19 (by omega)
              exact hl_74 _ 0 Mp4 o4 (by omega) (by rw [mx_0, t174, h4, show j = f (97 + 14 * w) by omega]) (by omega) r_5 ho4 r_7 r_8 hc4 fr_11 (Nat.lt_succ_self _)
            · refine WP.blk 3 ?_
              show (sT S m = 10 ∧ sR S m 0 ≠ 0) ∧ WP 8 177 44 [vR m, vI w, vI j, v3_26] [vR (sR S m 0), vR m] (M2, S) Q
              refine ⟨⟨hS.1.1, by rw [hS.1.2.1]; omega⟩, ?_⟩
              rw [hS.1.2.1]
              refine WP.blk 1 ?_
              show WP 8 177 45 [vR m, vI w, vI j, v3_26] [vI w, vR (m + 1), vR m] (M2, S) Q
              refine WP.cl (a := [vI w]) (rest := [vR (m + 1), vR m]) rfl rfl rfl rfl trivial (by decide) (q_wordAt (by omega) ⟨rfl, ?_⟩)
              show WP 8 177 48 [vR m, vI w, vI j, v3_26] [vI (97 + 14 * w), vR (m + 1), vR m] (M2, S) Q
              refine WP.blk 5 ?_
              show ir ((97 + 14 * w) + 2) ∧ ir (((97 + 14 * w) + 2) + j) ∧ ((sT S (m + 1) = 11 ∨ sT S (m + 1) = 16 ∨ sT S (m + 1) = 17) ∧ 0 ≤ (((97 + 14 * w) + 2) + j) ∧ (((97 + 14 * w) + 2) + j) < (sN S (m + 1) : Int)) ∧ WP 8 177 53 [vR m, vI w, vI j, v3_26] [vI (M2 (m + 1) (((97 + 14 * w) + 2) + j)), vR m] (M2, S) Q
              rw [z_26_0]
              refine ⟨(by unfold ir; omega), (by unfold ir; omega), ⟨Or.inl hS.2.1.1, by omega, by rw [hS.2.2.1]; omega⟩, ?_⟩
              refine WP.cl (a := [vR m, vI (f (((97 + 14 * w) + 2) + j))]) (rest := []) rfl rfl rfl rfl ⟨hS.1.1, trivial⟩ (by decide) (r_mix hS z_26_1 (fun My_20 fry_20 oy_20 hoy_20 hmy_20 => ⟨rfl, ?_⟩))
              show WP 8 177 56 [vR m, vI w, vI j, v3_26] [] (My_20, S) Q
              have r_21 : My_20 (m + 1) = f := (fry_20 _ (by omega)).trans z_26_0
              have r_23 : My_20 (m + 3) = a1 := (fry_20 _ (by omega)).trans z_26_2
              have r_24 : My_20 (m + 6) = g1 := (fry_20 _ (by omega)).trans z_26_3
              have r_25 : My_20 (m + 7) = c1 := (fry_20 _ (by omega)).trans z_26_4
              have fr_26 : ∀ r, r ≠ m → r ≠ m + 1 → r ≠ m + 3 → r ≠ m + 6 → r ≠ m + 7 → My_20 r = M r := fun r q0 q1 q2 q3 q4 => (fry_20 r q0).trans (fr_26 r q0 q1 q2 q3 q4)
              have h17y_20 : oy_20 17 = 31 * o2 17 + f (((97 + 14 * w) + 2) + j) := by rw [hmy_20]; exact uf_eq _ _ _
              have t4y_20 : oy_20 4 = o2 4 := by rw [hmy_20]; exact uf_ne (by omega)
              have t5y_20 : oy_20 5 = o2 5 := by rw [hmy_20]; exact uf_ne (by omega)
              have t7y_20 : oy_20 7 = o2 7 := by rw [hmy_20]; exact uf_ne (by omega)
              have t11y_20 : oy_20 11 = o2 11 := by rw [hmy_20]; exact uf_ne (by omega)
              refine WP.blk 2 ?_
              show ir (j + 1) ∧ WP 8 177 26 [vR m, vI w, vI (j + 1), v3_26] [] (My_20, S) Q
              refine ⟨(by unfold ir; omega), ?_⟩
              exact ih_26 (j + 1) (v3_26) My_20 oy_20 (by omega) (by rw [mx_s h3.1]; show _ = 31 * _ + f (97 + 14 * w + 2 + j); omega) (by omega) r_21 hoy_20 r_23 r_24 r_25 fr_26 (by omega)
        exact hl_26 _ 0 (v3_2) M1 o1 (by omega) (by rw [mx_0, h1, show i = 6 by omega]) (by omega) z_2_0 z_2_1 z_2_2 z_2_3 z_2_4 fr_2 (Nat.lt_succ_self _)
      · refine WP.blk 4 ?_
        show WP 8 177 12 [vR m, vI w, vI i, v3_2] [vI i, vI w, vR m, vR m] (M1, S) Q
        refine WP.cl (a := [vR m, vI w, vI i]) (rest := [vR m]) rfl rfl rfl rfl ⟨hS.1.1, trivial⟩ (by decide) (r_tellWord hS z_2_0 z_2_1 hR hB hw hcol (by omega) (fun vy_27 My_27 fry_27 hMy_27 oy_27 hoy_27 t4y_27 t7y_27 t5y_27 t17y_27 hvy_27 => ⟨rfl, ?_⟩))
        show WP 8 177 15 [vR m, vI w, vI i, v3_2] [vI vy_27, vR m] (My_27, S) Q
        obtain ⟨g_31, r_30⟩ : ∃ y9, My_27 (m + 3) = y9 := ⟨_, rfl⟩
        obtain ⟨g_33, r_32⟩ : ∃ y9, My_27 (m + 6) = y9 := ⟨_, rfl⟩
        obtain ⟨g_35, r_34⟩ : ∃ y9, My_27 (m + 7) = y9 := ⟨_, rfl⟩
        have fr_36 : ∀ r, r ≠ m → r ≠ m + 1 → r ≠ m + 3 → r ≠ m + 6 → r ≠ m + 7 → My_27 r = M r := fun r q0 q1 q2 q3 q4 => (fry_27 r q0 q1 q2 q3 q4).trans (fr_2 r q0 q1 q2 q3 q4)
        have htwy_27 := tw_eq hA hw hvy_27
        refine WP.cl (a := [vR m, vI vy_27]) (rest := []) rfl rfl rfl rfl ⟨hS.1.1, trivial⟩ (by decide) (r_mix hS hoy_27 (fun My_37 fry_37 oy_37 hoy_37 hmy_37 => ⟨rfl, ?_⟩))
        show WP 8 177 18 [vR m, vI w, vI i, v3_2] [] (My_37, S) Q
        have r_38 : My_37 (m + 1) = f := (fry_37 _ (by omega)).trans hMy_27
        have r_40 : My_37 (m + 3) = g_31 := (fry_37 _ (by omega)).trans r_30
        have r_41 : My_37 (m + 6) = g_33 := (fry_37 _ (by omega)).trans r_32
        have r_42 : My_37 (m + 7) = g_35 := (fry_37 _ (by omega)).trans r_34
        have fr_43 : ∀ r, r ≠ m → r ≠ m + 1 → r ≠ m + 3 → r ≠ m + 6 → r ≠ m + 7 → My_37 r = M r := fun r q0 q1 q2 q3 q4 => (fry_37 r q0).trans (fr_36 r q0 q1 q2 q3 q4)
        have h17y_37 : oy_37 17 = 31 * oy_27 17 + vy_27 := by rw [hmy_37]; exact uf_eq _ _ _
        have t4y_37 : oy_37 4 = oy_27 4 := by rw [hmy_37]; exact uf_ne (by omega)
        have t5y_37 : oy_37 5 = oy_27 5 := by rw [hmy_37]; exact uf_ne (by omega)
        have t7y_37 : oy_37 7 = oy_27 7 := by rw [hmy_37]; exact uf_ne (by omega)
        have t11y_37 : oy_37 11 = oy_27 11 := by rw [hmy_37]; exact uf_ne (by omega)
        refine WP.blk 2 ?_
        show ir (i + 1) ∧ WP 8 177 2 [vR m, vI w, vI (i + 1), v3_2] [] (My_37, S) Q
        refine ⟨(by unfold ir; omega), ?_⟩
        exact ih_2 (i + 1) (v3_2) My_37 oy_37 g_31 g_33 g_35 (by omega) (by rw [mx_s h0.1]; omega) (by omega) r_38 hoy_37 r_40 r_41 r_42 fr_43 (by omega)
  exact hl_2 _ 0 (none) M o a0 g0 c0 (by omega) mx_0.symm (by omega) hf ho ha0 hg0 hc0 (fun _ _ _ _ _ _ => rfl) (Nat.lt_succ_self _)
