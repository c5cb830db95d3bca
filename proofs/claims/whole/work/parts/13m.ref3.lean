set_option maxHeartbeats 4000000 in
theorem r_plans {S : SD} {M : Nat → Int → Int} {m : Nat} {f : Int → Int} {w x : Int} (hS : isMod S m) (hf : M (m + 1) = f) (hA : StAll f) (hw : WdOk f w) (hx : 0 ≤ x ∧ x < 1024) {Q : Res → Wd → Prop} (k : ∀ (b : Int) (M2 : Nat → Int → Int), (∀ r, r ≠ m → r ≠ m + 6 → r ≠ m + 7 → M2 r = M r) → ∀ o c, M2 m = o → M2 (m + 7) = c → (∀ k, k ≠ 11 → o k = M m k) → (b = 1 ∧ Pln f w x c (o 11)) ∨ (b = 0 ∧ NoP f w x ∧ o 11 = 0) → Q (0, vI b) (M2, S)) : EvQ 5 144 [vR m, vI w, vI x] (M, S) Q := by
  refine EvQ.enter (ls := [vR m, vI w, vI x, none, none, none, none, none, none]) (Nat.le_of_ble_eq_true rfl) rfl ?_
  have hn1 := hw.2.2.1
  have hn2 := hw.2.2.2.1
  have hw1 := hw.1
  have hw2 := hw.2.1
  have hA1 := hA.1
  obtain ⟨g0, hg0⟩ : ∃ g, M (m + 6) = g := ⟨_, rfl⟩
  obtain ⟨o0, ho0⟩ : ∃ g, M m = g := ⟨_, rfl⟩
  obtain ⟨c0, hc0⟩ : ∃ g, M (m + 7) = g := ⟨_, rfl⟩
  refine WP.blk 3 ?_
  show sT S m = 10 ∧ WP 4 144 5 [vR m, vI w, vI x, none, none, none, none, none, none] [] (up M m 11 0, S) Q
  refine ⟨hS.1.1, ?_⟩
  generalize hM_1 : up M m 11 0 = M_1
  have r_2 : M_1 (m + 1) = f := by rw [← hM_1]; exact (up_row (by omega)).trans hf
  obtain ⟨g_4, hg_4⟩ : ∃ y9, y9 = uf o0 11 0 := ⟨_, rfl⟩
  have r_3 : M_1 m = g_4 := by rw [← hM_1, hg_4, up_self, ho0]
  have r_5 : M_1 (m + 6) = g0 := by rw [← hM_1]; exact (up_row (by omega)).trans hg0
  have r_6 : M_1 (m + 7) = c0 := by rw [← hM_1]; exact (up_row (by omega)).trans hc0
  have fr_7 : ∀ r, r ≠ m → r ≠ m + 6 → r ≠ m + 7 → M_1 r = M r := fun r q0 q1 q2 => by rw [← hM_1]; exact (up_row q0).trans ((fun _ _ _ _ => rfl) r q0 q1 q2)
  refine WP.blk 3 ?_
  show WP 4 144 8 [vR m, vI w, vI x, none, none, none, none, none, none] [vI x, vI w, vR m] (M_1, S) Q
  refine WP.cl (a := [vR m, vI w, vI x]) (rest := []) rfl rfl rfl rfl ⟨hS.1.1, trivial⟩ (by decide) (r_presses hS r_2 hA hw (by omega) (fun vx_8 Mx_8 frx_8 Lx_8 hLx_8 hlx_8 hvx_8 => ⟨rfl, ?_⟩))
  show WP 4 144 11 [vR m, vI w, vI x, none, none, none, none, none, none] [vI vx_8] (Mx_8, S) Q
  have r_9 : Mx_8 (m + 1) = f := (frx_8 _ (by omega)).trans r_2
  have r_10 : Mx_8 m = g_4 := (frx_8 _ (by omega)).trans r_3
  have r_12 : Mx_8 (m + 7) = c0 := (frx_8 _ (by omega)).trans r_6
  have fr_13 : ∀ r, r ≠ m → r ≠ m + 6 → r ≠ m + 7 → Mx_8 r = M r := fun r q0 q1 q2 => (frx_8 r q1).trans (fr_7 r q0 q1 q2)
  refine WP.blk 2 ?_
  show WP 4 144 (if cnd .ne vx_8 (-1) = true then 17 else 15) [vR m, vI w, vI x, none, none, none, none, none, none] [] (Mx_8, S) Q
  refine br_ne (fun c_14 => ?_) (fun c_14 => ?_)
  · refine WP.blk 2 ?_
    show WP 4 144 19 [vR m, vI w, vI x, vI 0, none, none, none, none, none] [] (Mx_8, S) Q
    have hz0 : Lx_8 0 ≠ 100 := by omega
    have hl_19 : ∀ (n_19 : Nat) (p : Int) (v4_19 : V) (v5_19 : V) (v6_19 : V) (v7_19 : V) (v8_19 : V) (M1 : Nat → Int → Int) (o : Int → Int) (c : Int → Int), (∀ k, k ≠ 11 → o k = o0 k) → PlnX f w x Lx_8 c p (o 11) → M1 (m + 1) = f → M1 m = o → M1 (m + 6) = Lx_8 → M1 (m + 7) = c → (∀ r, r ≠ m → r ≠ m + 6 → r ≠ m + 7 → M1 r = M r) → (f (97 + 14 * w) - p).toNat < n_19 → WP 4 144 19 [vR m, vI w, vI x, vI p, v4_19, v5_19, v6_19, v7_19, v8_19] [] (M1, S) Q := by
      intro n_19
      induction n_19 with
      | zero => intro p v4_19 v5_19 v6_19 v7_19 v8_19 M1 o c h0 h1 z_19_0 z_19_1 z_19_2 z_19_3 fr_19 hm_19; exact absurd hm_19 (Nat.not_lt_zero _)
      | succ n_19 ih_19 =>
        intro p v4_19 v5_19 v6_19 v7_19 v8_19 M1 o c h0 h1 z_19_0 z_19_1 z_19_2 z_19_3 fr_19 hm_19
        have hq1 := h1.1.1
        have hq2 := h1.1.2.1
        have hq3 := h1.1.2.2.1
        have hq5 := lst_rng (by omega) hA hlx_8 p hq1 hq2
        refine WP.blk 3 ?_
        show (sT S m = 10 ∧ sR S m 0 ≠ 0) ∧ WP 4 144 24 [vR m, vI w, vI x, vI p, v4_19, v5_19, v6_19, v7_19, v8_19] [vR (sR S m 0), vI p] (M1, S) Q
        refine ⟨⟨hS.1.1, by rw [hS.1.2.1]; omega⟩, ?_⟩
        rw [hS.1.2.1]
        refine WP.blk 1 ?_
        show WP 4 144 25 [vR m, vI w, vI x, vI p, v4_19, v5_19, v6_19, v7_19, v8_19] [vI w, vR (m + 1), vI p] (M1, S) Q
        refine WP.cl (a := [vI w]) (rest := [vR (m + 1), vI p]) rfl rfl rfl rfl trivial (by decide) (q_wordAt (by omega) ⟨rfl, ?_⟩)
        show WP 4 144 28 [vR m, vI w, vI x, vI p, v4_19, v5_19, v6_19, v7_19, v8_19] [vI (97 + 14 * w), vR (m + 1), vI p] (M1, S) Q
        refine WP.blk 2 ?_
        show ((sT S (m + 1) = 11 ∨ sT S (m + 1) = 16 ∨ sT S (m + 1) = 17) ∧ 0 ≤ (97 + 14 * w) ∧ (97 + 14 * w) < (sN S (m + 1) : Int)) ∧ WP 4 144 (if cnd .ge p (M1 (m + 1) (97 + 14 * w)) = true then 203 else 32) [vR m, vI w, vI x, vI p, v4_19, v5_19, v6_19, v7_19, v8_19] [] (M1, S) Q
        rw [z_19_0]
        refine ⟨⟨Or.inl hS.2.1.1, by omega, by rw [hS.2.2.1]; omega⟩, ?_⟩
        refine br_ge (fun c_15 => ?_) (fun c_15 => ?_)
        · refine WP.blk 1 ?_
          show WP 4 144 204 [vR m, vI w, vI x, vI p, v4_19, v5_19, v6_19, v7_19, v8_19] [vI 1] (M1, S) Q
          exact WP.ret rfl rfl rfl ⟨by omega, trivial⟩ (k _ _ fr_19 _ _ z_19_1 z_19_3 (by rw [ho0]; exact h0) (Or.inl ⟨rfl, PlnX_e hlx_8 hz0 h1 (by omega)⟩))
        · refine WP.blk 4 ?_
          show WP 4 144 38 [vR m, vI w, vI x, vI p, vI 0, vI 0, v6_19, v7_19, v8_19] [] (M1, S) Q
          obtain ⟨hi12, uu, huu, hu2⟩ := PlnX_f hA hw hlx_8 hz0 h1 (by omega)
          have hl_38 : ∀ (n_38 : Nat) (u : Int) (b : Int) (v6_38 : V) (v7_38 : V) (v8_38 : V), 0 ≤ u ∧ (b = 0 ∨ b = 1) → Srch f w x Lx_8 p u b → (uu + 1 - u).toNat < n_38 → WP 4 144 38 [vR m, vI w, vI x, vI p, vI u, vI b, v6_38, v7_38, v8_38] [] (M1, S) Q := by
            intro n_38
            induction n_38 with
            | zero => intro u b v6_38 v7_38 v8_38 h2 h3 hm_38; exact absurd hm_38 (Nat.not_lt_zero _)
            | succ n_38 ih_38 =>
              intro u b v6_38 v7_38 v8_38 h2 h3 hm_38
              have e0 := Srch_le h3 huu
              have e1 := fun (h : b = 0) => bs_bit (x := x) (s := u / 2) (by omega) (by omega)
              refine WP.blk 2 ?_
              show WP 4 144 (if cnd .ne b 0 = true then 160 else 43) [vR m, vI w, vI x, vI p, vI u, vI b, v6_38, v7_38, v8_38] [] (M1, S) Q
              refine br_ne (fun c_16 => ?_) (fun c_16 => ?_)
              · obtain ⟨hu1, hlow⟩ := Srch_e h3 c_16
                have e9 := hlow.1.2.1
                have e8 := hlow.1.2.2.2.1
                have e5 := (hA.2 ((u - 1) / 2) (by omega) e9).2.2.2.1
                have e6 := (hA.2 ((u - 1) / 2) (by omega) e9).2.2.1
                refine WP.blk 2 ?_
                show (sT S m = 10 ∧ sR S m 10 ≠ 0) ∧ WP 4 144 164 [vR m, vI w, vI x, vI p, vI u, vI b, v6_38, v7_38, v8_38] [vR (sR S m 10)] (M1, S) Q
                refine ⟨⟨hS.1.1, by rw [hS.1.2.2.2.2.2.2.2.1]; omega⟩, ?_⟩
                rw [hS.1.2.2.2.2.2.2.2.1]
                refine WP.blk 6 ?_
                show sT S m = 10 ∧ ir (u - 1) ∧ (sT S (m + 7) = 11 ∧ 0 ≤ (M1 m 11) ∧ (M1 m 11) < (sN S (m + 7) : Int)) ∧ WP 4 144 173 [vR m, vI w, vI x, vI p, vI u, vI b, v6_38, v7_38, v8_38] [] (up M1 (m + 7) (M1 m 11) (u - 1), S) Q
                rw [z_19_1]
                refine ⟨hS.1.1, (by unfold ir; omega), ⟨hS.2.1.2.2.2.2.2.2.1, by omega, by rw [hS.2.2.2.2.2.2.2.2.1]; omega⟩, ?_⟩
                generalize hM_17 : up M1 (m + 7) (o 11) (u - 1) = M_17
                have r_18 : M_17 (m + 1) = f := by rw [← hM_17]; exact (up_row (by omega)).trans z_19_0
                have r_19 : M_17 m = o := by rw [← hM_17]; exact (up_row (by omega)).trans z_19_1
                have r_20 : M_17 (m + 6) = Lx_8 := by rw [← hM_17]; exact (up_row (by omega)).trans z_19_2
                obtain ⟨g_22, hg_22⟩ : ∃ y9, y9 = uf c (o 11) (u - 1) := ⟨_, rfl⟩
                have r_21 : M_17 (m + 7) = g_22 := by rw [← hM_17, hg_22, up_self, z_19_3]
                have fr_23 : ∀ r, r ≠ m → r ≠ m + 6 → r ≠ m + 7 → M_17 r = M r := fun r q0 q1 q2 => by rw [← hM_17]; exact (up_row q2).trans (fr_19 r q0 q1 q2)
                refine WP.blk 3 ?_
                show (sT S m = 10 ∧ sR S m 0 ≠ 0) ∧ WP 4 144 178 [vR m, vI w, vI x, vI p, vI u, vI b, v6_38, v7_38, v8_38] [vR (sR S m 0), vI p] (M_17, S) Q
                refine ⟨⟨hS.1.1, by rw [hS.1.2.1]; omega⟩, ?_⟩
                rw [hS.1.2.1]
                refine WP.blk 5 ?_
                show ir (u - 1) ∧ (0 ≤ (u - 1) ∧ 0 < 2) ∧ WP 4 144 184 [vR m, vI w, vI x, vI p, vI u, vI b, v6_38, v7_38, v8_38] [vI ((u - 1) / 2), vR (m + 1), vI p] (M_17, S) Q
                refine ⟨(by unfold ir; omega), (by omega), ?_⟩
                refine WP.cl (a := [vI ((u - 1) / 2)]) (rest := [vR (m + 1), vI p]) rfl rfl rfl rfl trivial (by decide) (q_stampAt (by omega) ⟨rfl, ?_⟩)
                show WP 4 144 187 [vR m, vI w, vI x, vI p, vI u, vI b, v6_38, v7_38, v8_38] [vI (7 + 9 * ((u - 1) / 2)), vR (m + 1), vI p] (M_17, S) Q
                refine WP.blk 9 ?_
                show ((sT S (m + 1) = 11 ∨ sT S (m + 1) = 16 ∨ sT S (m + 1) = 17) ∧ 0 ≤ (7 + 9 * ((u - 1) / 2)) ∧ (7 + 9 * ((u - 1) / 2)) < (sN S (m + 1) : Int)) ∧ ir (p + (M_17 (m + 1) (7 + 9 * ((u - 1) / 2)))) ∧ sT S m = 10 ∧ ir ((M_17 m 11) + 1) ∧ sT S m = 10 ∧ WP 4 144 200 [vR m, vI w, vI x, vI (p + (M_17 (m + 1) (7 + 9 * ((u - 1) / 2)))), vI u, vI b, v6_38, v7_38, v8_38] [] (up M_17 m 11 ((M_17 m 11) + 1), S) Q
                rw [r_18]
                rw [r_19]
                refine ⟨⟨Or.inl hS.2.1.1, by omega, by rw [hS.2.2.1]; omega⟩, (by unfold ir; omega), hS.1.1, (by unfold ir; omega), hS.1.1, ?_⟩
                generalize hM_24 : up M_17 m 11 ((o 11) + 1) = M_24
                have r_25 : M_24 (m + 1) = f := by rw [← hM_24]; exact (up_row (by omega)).trans r_18
                obtain ⟨g_27, hg_27⟩ : ∃ y9, y9 = uf o 11 ((o 11) + 1) := ⟨_, rfl⟩
                have r_26 : M_24 m = g_27 := by rw [← hM_24, hg_27, up_self, r_19]
                have r_28 : M_24 (m + 6) = Lx_8 := by rw [← hM_24]; exact (up_row (by omega)).trans r_20
                have r_29 : M_24 (m + 7) = g_22 := by rw [← hM_24]; exact (up_row (by omega)).trans r_21
                have fr_30 : ∀ r, r ≠ m → r ≠ m + 6 → r ≠ m + 7 → M_24 r = M r := fun r q0 q1 q2 => by rw [← hM_24]; exact (up_row q0).trans (fr_23 r q0 q1 q2)
                refine WP.blk 1 ?_
                show WP 4 144 19 [vR m, vI w, vI x, vI (p + (f (7 + 9 * ((u - 1) / 2)))), vI u, vI b, v6_38, v7_38, v8_38] [] (M_24, S) Q
                exact ih_19 (p + (f (7 + 9 * ((u - 1) / 2)))) (vI u) (vI b) (v6_38) (v7_38) (v8_38) M_24 g_27 g_22 (fun k hk => by rw [hg_27, uf_ne hk]; exact h0 k hk) (by rw [hg_27, uf_eq]; exact PlnX_s hA h1 hlow hg_22) r_25 r_26 r_28 r_29 fr_30 (by have := (hA.2 ((u - 1) / 2) (by omega) hlow.1.2.1).2.2.1; omega)
              · have e1 := e1 c_16
                have e9 : u / 2 < f 0 ∧ u / 2 ≤ 9 := by omega
                have e2 := hA.2 (u / 2) (by omega) (by omega)
                have e3 := e2.2.2.1
                have e4 := e2.2.2.2.1
                refine WP.blk 9 ?_
                show (0 ≤ u ∧ 0 < 2) ∧ (0 ≤ u ∧ 0 < 2) ∧ WP 4 144 (if cnd .ne (u % 2) 1 = true then 61 else 57) [vR m, vI w, vI x, vI p, vI u, vI b, vI (u / 2), v7_38, v8_38] [] (M1, S) Q
                refine ⟨(by omega), (by omega), ?_⟩
                refine br_ne (fun c_31 => ?_) (fun c_31 => ?_)
                · refine WP.blk 5 ?_
                  show (sT S m = 10 ∧ sR S m 0 ≠ 0) ∧ WP 4 144 69 [vR m, vI w, vI x, vI p, vI u, vI b, vI (u / 2), vI 0, v8_38] [vR (sR S m 0), vI p] (M1, S) Q
                  refine ⟨⟨hS.1.1, by rw [hS.1.2.1]; omega⟩, ?_⟩
                  rw [hS.1.2.1]
                  refine WP.blk 1 ?_
                  show WP 4 144 71 [vR m, vI w, vI x, vI p, vI u, vI b, vI (u / 2), vI 0, v8_38] [vI (u / 2), vR (m + 1), vI p] (M1, S) Q
                  refine WP.cl (a := [vI (u / 2)]) (rest := [vR (m + 1), vI p]) rfl rfl rfl rfl trivial (by decide) (q_stampAt (by omega) ⟨rfl, ?_⟩)
                  show WP 4 144 74 [vR m, vI w, vI x, vI p, vI u, vI b, vI (u / 2), vI 0, v8_38] [vI (7 + 9 * (u / 2)), vR (m + 1), vI p] (M1, S) Q
                  refine WP.blk 10 ?_
                  show ((sT S (m + 1) = 11 ∨ sT S (m + 1) = 16 ∨ sT S (m + 1) = 17) ∧ 0 ≤ (7 + 9 * (u / 2)) ∧ (7 + 9 * (u / 2)) < (sN S (m + 1) : Int)) ∧ ir (p + (M1 (m + 1) (7 + 9 * (u / 2)))) ∧ WP 4 144 (if cnd .ne (iA (iR x (u / 2)) 1) 1 = true then 151 else 88) [vR m, vI w, vI x, vI p, vI u, vI b, vI (u / 2), vI 0, vI (p + (M1 (m + 1) (7 + 9 * (u / 2))))] [] (M1, S) Q
                  rw [z_19_0]
                  refine ⟨⟨Or.inl hS.2.1.1, by omega, by rw [hS.2.2.1]; omega⟩, (by unfold ir; omega), ?_⟩
                  refine br_ne (fun c_32 => ?_) (fun c_32 => ?_)
                  · refine WP.blk 4 ?_
                    show ir (u + 1) ∧ WP 4 144 38 [vR m, vI w, vI x, vI p, vI (u + 1), vI 0, vI (u / 2), vI 0, vI (p + (f (7 + 9 * (u / 2))))] [] (M1, S) Q
                    refine ⟨(by unfold ir; omega), ?_⟩
                    exact ih_38 (u + 1) 0 (vI (u / 2)) (vI 0) (vI (p + (f (7 + 9 * (u / 2))))) (by omega) (Srch_0 h3 (by omega) (fun hm => by obtain ⟨k1, k2, k3, k4, k5, k6, k7⟩ := hm; have k9 := e1.1 k3; first | omega | exact absurd (k6 (by omega)) (by assumption) | exact absurd k7 (by rw [show u % 2 = 1 by omega]; assumption) | exact absurd k7 (by rw [show u % 2 = 0 by omega]; assumption)))  (by omega)
                  · refine WP.blk 3 ?_
                    show (sT S m = 10 ∧ sR S m 0 ≠ 0) ∧ WP 4 144 94 [vR m, vI w, vI x, vI p, vI u, vI b, vI (u / 2), vI 0, vI (p + (f (7 + 9 * (u / 2))))] [vR (sR S m 0), vI (p + (f (7 + 9 * (u / 2))))] (M1, S) Q
                    refine ⟨⟨hS.1.1, by rw [hS.1.2.1]; omega⟩, ?_⟩
                    rw [hS.1.2.1]
                    refine WP.blk 1 ?_
                    show WP 4 144 95 [vR m, vI w, vI x, vI p, vI u, vI b, vI (u / 2), vI 0, vI (p + (f (7 + 9 * (u / 2))))] [vI w, vR (m + 1), vI (p + (f (7 + 9 * (u / 2))))] (M1, S) Q
                    refine WP.cl (a := [vI w]) (rest := [vR (m + 1), vI (p + (f (7 + 9 * (u / 2))))]) rfl rfl rfl rfl trivial (by decide) (q_wordAt (by omega) ⟨rfl, ?_⟩)
                    show WP 4 144 98 [vR m, vI w, vI x, vI p, vI u, vI b, vI (u / 2), vI 0, vI (p + (f (7 + 9 * (u / 2))))] [vI (97 + 14 * w), vR (m + 1), vI (p + (f (7 + 9 * (u / 2))))] (M1, S) Q
                    refine WP.blk 2 ?_
                    show ((sT S (m + 1) = 11 ∨ sT S (m + 1) = 16 ∨ sT S (m + 1) = 17) ∧ 0 ≤ (97 + 14 * w) ∧ (97 + 14 * w) < (sN S (m + 1) : Int)) ∧ WP 4 144 (if cnd .gt (p + (f (7 + 9 * (u / 2)))) (M1 (m + 1) (97 + 14 * w)) = true then 151 else 102) [vR m, vI w, vI x, vI p, vI u, vI b, vI (u / 2), vI 0, vI (p + (f (7 + 9 * (u / 2))))] [] (M1, S) Q
                    rw [z_19_0]
                    refine ⟨⟨Or.inl hS.2.1.1, by omega, by rw [hS.2.2.1]; omega⟩, ?_⟩
                    refine br_gt (fun c_33 => ?_) (fun c_33 => ?_)
                    · refine WP.blk 4 ?_
                      show ir (u + 1) ∧ WP 4 144 38 [vR m, vI w, vI x, vI p, vI (u + 1), vI 0, vI (u / 2), vI 0, vI (p + (f (7 + 9 * (u / 2))))] [] (M1, S) Q
                      refine ⟨(by unfold ir; omega), ?_⟩
                      exact ih_38 (u + 1) 0 (vI (u / 2)) (vI 0) (vI (p + (f (7 + 9 * (u / 2))))) (by omega) (Srch_0 h3 (by omega) (fun hm => by obtain ⟨k1, k2, k3, k4, k5, k6, k7⟩ := hm; have k9 := e1.1 k3; first | omega | exact absurd (k6 (by omega)) (by assumption) | exact absurd k7 (by rw [show u % 2 = 1 by omega]; assumption) | exact absurd k7 (by rw [show u % 2 = 0 by omega]; assumption)))  (by omega)
                    · refine WP.blk 2 ?_
                      show (sT S m = 10 ∧ sR S m 9 ≠ 0) ∧ WP 4 144 106 [vR m, vI w, vI x, vI p, vI u, vI b, vI (u / 2), vI 0, vI (p + (f (7 + 9 * (u / 2))))] [vR (sR S m 9)] (M1, S) Q
                      refine ⟨⟨hS.1.1, by rw [hS.1.2.2.2.2.2.2.1]; omega⟩, ?_⟩
                      rw [hS.1.2.2.2.2.2.2.1]
                      refine WP.blk 4 ?_
                      show ((sT S (m + 6) = 11 ∨ sT S (m + 6) = 16 ∨ sT S (m + 6) = 17) ∧ 0 ≤ (p + (f (7 + 9 * (u / 2)))) ∧ (p + (f (7 + 9 * (u / 2)))) < (sN S (m + 6) : Int)) ∧ (sT S m = 10 ∧ sR S m 9 ≠ 0) ∧ WP 4 144 113 [vR m, vI w, vI x, vI p, vI u, vI b, vI (u / 2), vI 0, vI (p + (f (7 + 9 * (u / 2))))] [vR (sR S m 9), vI (M1 (m + 6) (p + (f (7 + 9 * (u / 2)))))] (M1, S) Q
                      rw [z_19_2]
                      refine ⟨⟨Or.inl hS.2.1.2.2.2.2.2.1, by omega, by rw [hS.2.2.2.2.2.2.2.1]; omega⟩, ⟨hS.1.1, by rw [hS.1.2.2.2.2.2.2.1]; omega⟩, ?_⟩
                      rw [hS.1.2.2.2.2.2.2.1]
                      refine WP.blk 5 ?_
                      show ((sT S (m + 6) = 11 ∨ sT S (m + 6) = 16 ∨ sT S (m + 6) = 17) ∧ 0 ≤ p ∧ p < (sN S (m + 6) : Int)) ∧ ir ((M1 (m + 6) p) - 1) ∧ WP 4 144 (if cnd .ne (Lx_8 (p + (f (7 + 9 * (u / 2))))) ((M1 (m + 6) p) - 1) = true then 151 else 120) [vR m, vI w, vI x, vI p, vI u, vI b, vI (u / 2), vI 0, vI (p + (f (7 + 9 * (u / 2))))] [] (M1, S) Q
                      rw [z_19_2]
                      refine ⟨⟨Or.inl hS.2.1.2.2.2.2.2.1, by omega, by rw [hS.2.2.2.2.2.2.2.1]; omega⟩, (by unfold ir; omega), ?_⟩
                      refine br_ne (fun c_34 => ?_) (fun c_34 => ?_)
                      · refine WP.blk 4 ?_
                        show ir (u + 1) ∧ WP 4 144 38 [vR m, vI w, vI x, vI p, vI (u + 1), vI 0, vI (u / 2), vI 0, vI (p + (f (7 + 9 * (u / 2))))] [] (M1, S) Q
                        refine ⟨(by unfold ir; omega), ?_⟩
                        exact ih_38 (u + 1) 0 (vI (u / 2)) (vI 0) (vI (p + (f (7 + 9 * (u / 2))))) (by omega) (Srch_0 h3 (by omega) (fun hm => by obtain ⟨k1, k2, k3, k4, k5, k6, k7⟩ := hm; have k9 := e1.1 k3; first | omega | exact absurd (k6 (by omega)) (by assumption) | exact absurd k7 (by rw [show u % 2 = 1 by omega]; assumption) | exact absurd k7 (by rw [show u % 2 = 0 by omega]; assumption)))  (by omega)
                      · refine WP.blk 7 ?_
                        show WP 4 144 141 [vR m, vI w, vI x, vI p, vI u, vI b, vI (u / 2), vI 0, vI (p + (f (7 + 9 * (u / 2))))] [vI 0, vI (u / 2), vI p, vI w, vR m] (M1, S) Q
                        refine WP.cl (a := [vR m, vI w, vI p, vI (u / 2), vI 0]) (rest := []) rfl rfl rfl rfl ⟨hS.1.1, trivial⟩ (by decide) (r_fits hS z_19_0 (hA.2 _ (by omega) (by omega)) hw (by omega) (fun b_35 hb_35 => ⟨rfl, ?_⟩))
                        show WP 4 144 144 [vR m, vI w, vI x, vI p, vI u, vI b, vI (u / 2), vI 0, vI (p + (f (7 + 9 * (u / 2))))] [vI b_35] (M1, S) Q
                        refine WP.blk 1 ?_
                        show WP 4 144 (if cnd .eq b_35 0 = true then 151 else 147) [vR m, vI w, vI x, vI p, vI u, vI b, vI (u / 2), vI 0, vI (p + (f (7 + 9 * (u / 2))))] [] (M1, S) Q
                        refine br_eq (fun c_36 => ?_) (fun c_36 => ?_)
                        · have p_35 := (hb_35.resolve_left (fun h => by omega)).2
                          refine WP.blk 4 ?_
                          show ir (u + 1) ∧ WP 4 144 38 [vR m, vI w, vI x, vI p, vI (u + 1), vI 0, vI (u / 2), vI 0, vI (p + (f (7 + 9 * (u / 2))))] [] (M1, S) Q
                          refine ⟨(by unfold ir; omega), ?_⟩
                          exact ih_38 (u + 1) 0 (vI (u / 2)) (vI 0) (vI (p + (f (7 + 9 * (u / 2))))) (by omega) (Srch_0 h3 (by omega) (fun hm => by obtain ⟨k1, k2, k3, k4, k5, k6, k7⟩ := hm; have k9 := e1.1 k3; first | omega | exact absurd (k6 (by omega)) (by assumption) | exact absurd k7 (by rw [show u % 2 = 1 by omega]; assumption) | exact absurd k7 (by rw [show u % 2 = 0 by omega]; assumption)))  (by omega)
                        · have p_35 := (hb_35.resolve_right (fun h => by omega)).2
                          refine WP.blk 5 ?_
                          show ir (u + 1) ∧ WP 4 144 38 [vR m, vI w, vI x, vI p, vI (u + 1), vI 1, vI (u / 2), vI 0, vI (p + (f (7 + 9 * (u / 2))))] [] (M1, S) Q
                          refine ⟨(by unfold ir; omega), ?_⟩
                          exact ih_38 (u + 1) 1 (vI (u / 2)) (vI 0) (vI (p + (f (7 + 9 * (u / 2))))) (by omega) (Srch_1 h3 (by omega) ⟨by omega, by omega, e1.2.1 (by omega), by omega, by omega, (fun h => by first | assumption | omega), (by first | (rw [show u % 2 = 1 by omega]; assumption) | (rw [show u % 2 = 0 by omega]; assumption))⟩)  (by omega)
                · refine WP.blk 6 ?_
                  show (sT S m = 10 ∧ sR S m 0 ≠ 0) ∧ WP 4 144 69 [vR m, vI w, vI x, vI p, vI u, vI b, vI (u / 2), vI 1, v8_38] [vR (sR S m 0), vI p] (M1, S) Q
                  refine ⟨⟨hS.1.1, by rw [hS.1.2.1]; omega⟩, ?_⟩
                  rw [hS.1.2.1]
                  refine WP.blk 1 ?_
                  show WP 4 144 71 [vR m, vI w, vI x, vI p, vI u, vI b, vI (u / 2), vI 1, v8_38] [vI (u / 2), vR (m + 1), vI p] (M1, S) Q
                  refine WP.cl (a := [vI (u / 2)]) (rest := [vR (m + 1), vI p]) rfl rfl rfl rfl trivial (by decide) (q_stampAt (by omega) ⟨rfl, ?_⟩)
                  show WP 4 144 74 [vR m, vI w, vI x, vI p, vI u, vI b, vI (u / 2), vI 1, v8_38] [vI (7 + 9 * (u / 2)), vR (m + 1), vI p] (M1, S) Q
                  refine WP.blk 10 ?_
                  show ((sT S (m + 1) = 11 ∨ sT S (m + 1) = 16 ∨ sT S (m + 1) = 17) ∧ 0 ≤ (7 + 9 * (u / 2)) ∧ (7 + 9 * (u / 2)) < (sN S (m + 1) : Int)) ∧ ir (p + (M1 (m + 1) (7 + 9 * (u / 2)))) ∧ WP 4 144 (if cnd .ne (iA (iR x (u / 2)) 1) 1 = true then 151 else 88) [vR m, vI w, vI x, vI p, vI u, vI b, vI (u / 2), vI 1, vI (p + (M1 (m + 1) (7 + 9 * (u / 2))))] [] (M1, S) Q
                  rw [z_19_0]
                  refine ⟨⟨Or.inl hS.2.1.1, by omega, by rw [hS.2.2.1]; omega⟩, (by unfold ir; omega), ?_⟩
                  refine br_ne (fun c_37 => ?_) (fun c_37 => ?_)
                  · refine WP.blk 4 ?_
                    show ir (u + 1) ∧ WP 4 144 38 [vR m, vI w, vI x, vI p, vI (u + 1), vI 0, vI (u / 2), vI 1, vI (p + (f (7 + 9 * (u / 2))))] [] (M1, S) Q
                    refine ⟨(by unfold ir; omega), ?_⟩
                    exact ih_38 (u + 1) 0 (vI (u / 2)) (vI 1) (vI (p + (f (7 + 9 * (u / 2))))) (by omega) (Srch_0 h3 (by omega) (fun hm => by obtain ⟨k1, k2, k3, k4, k5, k6, k7⟩ := hm; have k9 := e1.1 k3; first | omega | exact absurd (k6 (by omega)) (by assumption) | exact absurd k7 (by rw [show u % 2 = 1 by omega]; assumption) | exact absurd k7 (by rw [show u % 2 = 0 by omega]; assumption)))  (by omega)
                  · refine WP.blk 3 ?_
                    show (sT S m = 10 ∧ sR S m 0 ≠ 0) ∧ WP 4 144 94 [vR m, vI w, vI x, vI p, vI u, vI b, vI (u / 2), vI 1, vI (p + (f (7 + 9 * (u / 2))))] [vR (sR S m 0), vI (p + (f (7 + 9 * (u / 2))))] (M1, S) Q
                    refine ⟨⟨hS.1.1, by rw [hS.1.2.1]; omega⟩, ?_⟩
                    rw [hS.1.2.1]
                    refine WP.blk 1 ?_
                    show WP 4 144 95 [vR m, vI w, vI x, vI p, vI u, vI b, vI (u / 2), vI 1, vI (p + (f (7 + 9 * (u / 2))))] [vI w, vR (m + 1), vI (p + (f (7 + 9 * (u / 2))))] (M1, S) Q
                    refine WP.cl (a := [vI w]) (rest := [vR (m + 1), vI (p + (f (7 + 9 * (u / 2))))]) rfl rfl rfl rfl trivial (by decide) (q_wordAt (by omega) ⟨rfl, ?_⟩)
                    show WP 4 144 98 [vR m, vI w, vI x, vI p, vI u, vI b, vI (u / 2), vI 1, vI (p + (f (7 + 9 * (u / 2))))] [vI (97 + 14 * w), vR (m + 1), vI (p + (f (7 + 9 * (u / 2))))] (M1, S) Q
                    refine WP.blk 2 ?_
                    show ((sT S (m + 1) = 11 ∨ sT S (m + 1) = 16 ∨ sT S (m + 1) = 17) ∧ 0 ≤ (97 + 14 * w) ∧ (97 + 14 * w) < (sN S (m + 1) : Int)) ∧ WP 4 144 (if cnd .gt (p + (f (7 + 9 * (u / 2)))) (M1 (m + 1) (97 + 14 * w)) = true then 151 else 102) [vR m, vI w, vI x, vI p, vI u, vI b, vI (u / 2), vI 1, vI (p + (f (7 + 9 * (u / 2))))] [] (M1, S) Q
                    rw [z_19_0]
                    refine ⟨⟨Or.inl hS.2.1.1, by omega, by rw [hS.2.2.1]; omega⟩, ?_⟩
                    refine br_gt (fun c_38 => ?_) (fun c_38 => ?_)
                    · refine WP.blk 4 ?_
                      show ir (u + 1) ∧ WP 4 144 38 [vR m, vI w, vI x, vI p, vI (u + 1), vI 0, vI (u / 2), vI 1, vI (p + (f (7 + 9 * (u / 2))))] [] (M1, S) Q
                      refine ⟨(by unfold ir; omega), ?_⟩
                      exact ih_38 (u + 1) 0 (vI (u / 2)) (vI 1) (vI (p + (f (7 + 9 * (u / 2))))) (by omega) (Srch_0 h3 (by omega) (fun hm => by obtain ⟨k1, k2, k3, k4, k5, k6, k7⟩ := hm; have k9 := e1.1 k3; first | omega | exact absurd (k6 (by omega)) (by assumption) | exact absurd k7 (by rw [show u % 2 = 1 by omega]; assumption) | exact absurd k7 (by rw [show u % 2 = 0 by omega]; assumption)))  (by omega)
                    · refine WP.blk 2 ?_
                      show (sT S m = 10 ∧ sR S m 9 ≠ 0) ∧ WP 4 144 106 [vR m, vI w, vI x, vI p, vI u, vI b, vI (u / 2), vI 1, vI (p + (f (7 + 9 * (u / 2))))] [vR (sR S m 9)] (M1, S) Q
                      refine ⟨⟨hS.1.1, by rw [hS.1.2.2.2.2.2.2.1]; omega⟩, ?_⟩
                      rw [hS.1.2.2.2.2.2.2.1]
                      refine WP.blk 4 ?_
                      show ((sT S (m + 6) = 11 ∨ sT S (m + 6) = 16 ∨ sT S (m + 6) = 17) ∧ 0 ≤ (p + (f (7 + 9 * (u / 2)))) ∧ (p + (f (7 + 9 * (u / 2)))) < (sN S (m + 6) : Int)) ∧ (sT S m = 10 ∧ sR S m 9 ≠ 0) ∧ WP 4 144 113 [vR m, vI w, vI x, vI p, vI u, vI b, vI (u / 2), vI 1, vI (p + (f (7 + 9 * (u / 2))))] [vR (sR S m 9), vI (M1 (m + 6) (p + (f (7 + 9 * (u / 2)))))] (M1, S) Q
                      rw [z_19_2]
                      refine ⟨⟨Or.inl hS.2.1.2.2.2.2.2.1, by omega, by rw [hS.2.2.2.2.2.2.2.1]; omega⟩, ⟨hS.1.1, by rw [hS.1.2.2.2.2.2.2.1]; omega⟩, ?_⟩
                      rw [hS.1.2.2.2.2.2.2.1]
                      refine WP.blk 5 ?_
                      show ((sT S (m + 6) = 11 ∨ sT S (m + 6) = 16 ∨ sT S (m + 6) = 17) ∧ 0 ≤ p ∧ p < (sN S (m + 6) : Int)) ∧ ir ((M1 (m + 6) p) - 1) ∧ WP 4 144 (if cnd .ne (Lx_8 (p + (f (7 + 9 * (u / 2))))) ((M1 (m + 6) p) - 1) = true then 151 else 120) [vR m, vI w, vI x, vI p, vI u, vI b, vI (u / 2), vI 1, vI (p + (f (7 + 9 * (u / 2))))] [] (M1, S) Q
                      rw [z_19_2]
                      refine ⟨⟨Or.inl hS.2.1.2.2.2.2.2.1, by omega, by rw [hS.2.2.2.2.2.2.2.1]; omega⟩, (by unfold ir; omega), ?_⟩
                      refine br_ne (fun c_39 => ?_) (fun c_39 => ?_)
                      · refine WP.blk 4 ?_
                        show ir (u + 1) ∧ WP 4 144 38 [vR m, vI w, vI x, vI p, vI (u + 1), vI 0, vI (u / 2), vI 1, vI (p + (f (7 + 9 * (u / 2))))] [] (M1, S) Q
                        refine ⟨(by unfold ir; omega), ?_⟩
                        exact ih_38 (u + 1) 0 (vI (u / 2)) (vI 1) (vI (p + (f (7 + 9 * (u / 2))))) (by omega) (Srch_0 h3 (by omega) (fun hm => by obtain ⟨k1, k2, k3, k4, k5, k6, k7⟩ := hm; have k9 := e1.1 k3; first | omega | exact absurd (k6 (by omega)) (by assumption) | exact absurd k7 (by rw [show u % 2 = 1 by omega]; assumption) | exact absurd k7 (by rw [show u % 2 = 0 by omega]; assumption)))  (by omega)
                      · refine WP.blk 4 ?_
                        show WP 4 144 128 [vR m, vI w, vI x, vI p, vI u, vI b, vI (u / 2), vI 1, vI (p + (f (7 + 9 * (u / 2))))] [vI (u / 2), vR m] (M1, S) Q
                        refine WP.cl (a := [vR m, vI (u / 2)]) (rest := []) rfl rfl rfl rfl ⟨hS.1.1, trivial⟩ (by decide) (r_counts hS z_19_0 (hA.2 _ (by omega) (by omega)) (fun b_40 hb_40 => ⟨rfl, ?_⟩))
                        show WP 4 144 131 [vR m, vI w, vI x, vI p, vI u, vI b, vI (u / 2), vI 1, vI (p + (f (7 + 9 * (u / 2))))] [vI b_40] (M1, S) Q
                        refine WP.blk 1 ?_
                        show WP 4 144 (if cnd .eq b_40 0 = true then 151 else 134) [vR m, vI w, vI x, vI p, vI u, vI b, vI (u / 2), vI 1, vI (p + (f (7 + 9 * (u / 2))))] [] (M1, S) Q
                        refine br_eq (fun c_41 => ?_) (fun c_41 => ?_)
                        · have p_40 := (hb_40.resolve_left (fun h => by omega)).2
                          refine WP.blk 4 ?_
                          show ir (u + 1) ∧ WP 4 144 38 [vR m, vI w, vI x, vI p, vI (u + 1), vI 0, vI (u / 2), vI 1, vI (p + (f (7 + 9 * (u / 2))))] [] (M1, S) Q
                          refine ⟨(by unfold ir; omega), ?_⟩
                          exact ih_38 (u + 1) 0 (vI (u / 2)) (vI 1) (vI (p + (f (7 + 9 * (u / 2))))) (by omega) (Srch_0 h3 (by omega) (fun hm => by obtain ⟨k1, k2, k3, k4, k5, k6, k7⟩ := hm; have k9 := e1.1 k3; first | omega | exact absurd (k6 (by omega)) (by assumption) | exact absurd k7 (by rw [show u % 2 = 1 by omega]; assumption) | exact absurd k7 (by rw [show u % 2 = 0 by omega]; assumption)))  (by omega)
                        · have p_40 := (hb_40.resolve_right (fun h => by omega)).2
                          refine WP.blk 5 ?_
                          show WP 4 144 141 [vR m, vI w, vI x, vI p, vI u, vI b, vI (u / 2), vI 1, vI (p + (f (7 + 9 * (u / 2))))] [vI 1, vI (u / 2), vI p, vI w, vR m] (M1, S) Q
                          refine WP.cl (a := [vR m, vI w, vI p, vI (u / 2), vI 1]) (rest := []) rfl rfl rfl rfl ⟨hS.1.1, trivial⟩ (by decide) (r_fits hS z_19_0 (hA.2 _ (by omega) (by omega)) hw (by omega) (fun b_42 hb_42 => ⟨rfl, ?_⟩))
                          show WP 4 144 144 [vR m, vI w, vI x, vI p, vI u, vI b, vI (u / 2), vI 1, vI (p + (f (7 + 9 * (u / 2))))] [vI b_42] (M1, S) Q
                          refine WP.blk 1 ?_
                          show WP 4 144 (if cnd .eq b_42 0 = true then 151 else 147) [vR m, vI w, vI x, vI p, vI u, vI b, vI (u / 2), vI 1, vI (p + (f (7 + 9 * (u / 2))))] [] (M1, S) Q
                          refine br_eq (fun c_43 => ?_) (fun c_43 => ?_)
                          · have p_42 := (hb_42.resolve_left (fun h => by omega)).2
                            refine WP.blk 4 ?_
                            show ir (u + 1) ∧ WP 4 144 38 [vR m, vI w, vI x, vI p, vI (u + 1), vI 0, vI (u / 2), vI 1, vI (p + (f (7 + 9 * (u / 2))))] [] (M1, S) Q
                            refine ⟨(by unfold ir; omega), ?_⟩
                            exact ih_38 (u + 1) 0 (vI (u / 2)) (vI 1) (vI (p + (f (7 + 9 * (u / 2))))) (by omega) (Srch_0 h3 (by omega) (fun hm => by obtain ⟨k1, k2, k3, k4, k5, k6, k7⟩ := hm; have k9 := e1.1 k3; first | omega | exact absurd (k6 (by omega)) (by assumption) | exact absurd k7 (by rw [show u % 2 = 1 by omega]; assumption) | exact absurd k7 (by rw [show u % 2 = 0 by omega]; assumption)))  (by omega)
                          · have p_42 := (hb_42.resolve_right (fun h => by omega)).2
                            refine WP.blk 5 ?_
                            show ir (u + 1) ∧ WP 4 144 38 [vR m, vI w, vI x, vI p, vI (u + 1), vI 1, vI (u / 2), vI 1, vI (p + (f (7 + 9 * (u / 2))))] [] (M1, S) Q
                            refine ⟨(by unfold ir; omega), ?_⟩
                            exact ih_38 (u + 1) 1 (vI (u / 2)) (vI 1) (vI (p + (f (7 + 9 * (u / 2))))) (by omega) (Srch_1 h3 (by omega) ⟨by omega, by omega, e1.2.1 (by omega), by omega, by omega, (fun h => by first | assumption | omega), (by first | (rw [show u % 2 = 1 by omega]; assumption) | (rw [show u % 2 = 0 by omega]; assumption))⟩)  (by omega)
          exact hl_38 _ 0 0 (v6_19) (v7_19) (v8_19) (by omega) Srch_i  (Nat.lt_succ_self _)
    exact hl_19 _ 0 (none) (none) (none) (none) (none) Mx_8 g_4 c0 (fun k hk => by rw [hg_4]; exact uf_ne hk) (by rw [hg_4, uf_eq]; exact PlnX_0 hw) r_9 r_10 hLx_8 r_12 fr_13 (Nat.lt_succ_self _)
  · refine WP.blk 1 ?_
    show WP 4 144 16 [vR m, vI w, vI x, none, none, none, none, none, none] [vI 0] (Mx_8, S) Q
    exact WP.ret rfl rfl rfl ⟨by omega, trivial⟩ (k _ _ fr_13 _ _ r_10 r_12 (fun k hk => by rw [hg_4, ho0]; exact uf_ne hk) (Or.inr ⟨rfl, ⟨_, hlx_8, by have := lst_rng (by omega) hA hlx_8 0 (by omega) (by omega); omega⟩, by rw [hg_4]; exact uf_eq _ _ _⟩))
