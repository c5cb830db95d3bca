set_option maxHeartbeats 4000000 in
theorem r_canWrite {S : SD} {M : Nat → Int → Int} {m : Nat} {f : Int → Int} {w : Int} (hS : isMod S m) (hf : M (m + 1) = f) (hA : StAll f) (hw : WdOk f w) (hWr : ∀ s, 0 ≤ s → s < f 0 → 0 ≤ f (7 + 9 * s + 8) ∧ f (7 + 9 * s + 8) ≤ 1000000000) {Q : Res → Wd → Prop} (k : ∀ (b : Int) (M2 : Nat → Int → Int), (∀ r, r ≠ m → r ≠ m + 6 → r ≠ m + 7 → M2 r = M r) → ∀ o c, M2 m = o → M2 (m + 7) = c → (∀ k, k ≠ 11 → o k = M m k) → (b = 1 ∧ Wrt f w c (o 11)) ∨ (b = 0 ∧ ∀ c n, ¬ Wrt f w c n) → Q (0, vI b) (M2, S)) : EvQ 6 145 [vR m, vI w] (M, S) Q := by
  refine EvQ.enter (ls := [vR m, vI w, none, none, none, none]) (Nat.le_of_ble_eq_true rfl) rfl ?_
  have hn1 := hw.2.2.1
  have hn2 := hw.2.2.2.1
  have hw1 := hw.1
  have hw2 := hw.2.1
  have hA1 := hA.1
  obtain ⟨g0, hg0⟩ : ∃ g, M (m + 6) = g := ⟨_, rfl⟩
  obtain ⟨o0, ho0⟩ : ∃ g, M m = g := ⟨_, rfl⟩
  obtain ⟨c0, hc0⟩ : ∃ g, M (m + 7) = g := ⟨_, rfl⟩
  refine WP.blk 3 ?_
  show WP 5 145 3 [vR m, vI w, none, none, none, none] [vR m, vI w, vR m] (M, S) Q
  refine WP.cl (a := [vR m]) (rest := [vI w, vR m]) rfl rfl rfl rfl ⟨hS.1.1, trivial⟩ (by decide) (r_fresh hS hf (by omega) (fun x_1 hx_1 => ⟨rfl, ?_⟩))
  show WP 5 145 6 [vR m, vI w, none, none, none, none] [vI x_1, vI w, vR m] (M, S) Q
  refine WP.cl (a := [vR m, vI w, vI x_1]) (rest := []) rfl rfl rfl rfl ⟨hS.1.1, trivial⟩ (by decide) (r_plans hS hf hA hw ⟨hx_1.1, hx_1.2.1⟩ (fun b_2 Mp2 fr2 o2 c2 ho2 hc2 hk2 hb_2 => ⟨rfl, ?_⟩))
  show WP 5 145 9 [vR m, vI w, none, none, none, none] [vI b_2] (Mp2, S) Q
  have r_3 : Mp2 (m + 1) = f := (fr2 _ (by omega) (by omega) (by omega)).trans hf
  obtain ⟨g_6, r_5⟩ : ∃ y9, Mp2 (m + 6) = y9 := ⟨_, rfl⟩
  have fr_8 : ∀ r, r ≠ m → r ≠ m + 6 → r ≠ m + 7 → Mp2 r = M r := fun r q0 q1 q2 => (fr2 r q0 q1 q2).trans ((fun _ _ _ _ => rfl) r q0 q1 q2)
  refine WP.blk 1 ?_
  show WP 5 145 (if cnd .ne b_2 0 = true then 14 else 12) [vR m, vI w, none, none, none, none] [] (Mp2, S) Q
  refine br_ne (fun c_9 => ?_) (fun c_9 => ?_)
  · have p_2 := (hb_2.resolve_right (fun h => by omega)).2
    have hpl := pln_le hA hw p_2
    refine WP.blk 4 ?_
    show WP 5 145 18 [vR m, vI w, vI 1, vI 0, none, none] [] (Mp2, S) Q
    have hl_18 : ∀ (n_18 : Nat) (s : Int) (b : Int) (v4_18 : V) (v5_18 : V), 0 ≤ s ∧ s ≤ f 0 → AllB (fun s => WearOk f c2 (o2 11) s) s b → (f 0 - s).toNat < n_18 → WP 5 145 18 [vR m, vI w, vI b, vI s, v4_18, v5_18] [] (Mp2, S) Q := by
      intro n_18
      induction n_18 with
      | zero => intro s b v4_18 v5_18 h0 h1 hm_18; exact absurd hm_18 (Nat.not_lt_zero _)
      | succ n_18 ih_18 =>
        intro s b v4_18 v5_18 h0 h1 hm_18
        have hb9 := AllB_b h1
        refine WP.blk 3 ?_
        show (sT S m = 10 ∧ sR S m 0 ≠ 0) ∧ WP 5 145 23 [vR m, vI w, vI b, vI s, v4_18, v5_18] [vR (sR S m 0), vI s] (Mp2, S) Q
        refine ⟨⟨hS.1.1, by rw [hS.1.2.1]; omega⟩, ?_⟩
        rw [hS.1.2.1]
        refine WP.blk 3 ?_
        show ((sT S (m + 1) = 11 ∨ sT S (m + 1) = 16 ∨ sT S (m + 1) = 17) ∧ 0 ≤ 0 ∧ 0 < (sN S (m + 1) : Int)) ∧ WP 5 145 (if cnd .ge s (Mp2 (m + 1) 0) = true then 127 else 28) [vR m, vI w, vI b, vI s, v4_18, v5_18] [] (Mp2, S) Q
        rw [r_3]
        refine ⟨⟨Or.inl hS.2.1.1, by omega, by rw [hS.2.2.1]; omega⟩, ?_⟩
        refine br_ge (fun c_10 => ?_) (fun c_10 => ?_)
        · refine WP.blk 1 ?_
          show WP 5 145 128 [vR m, vI w, vI b, vI s, v4_18, v5_18] [vI b] (Mp2, S) Q
          refine WP.ret rfl rfl rfl ⟨by omega, trivial⟩ ?_
          have e9 : s = f 0 := by omega
          subst e9
          exact k _ _ fr_8 _ _ ho2 hc2 hk2 ((AllB_e h1).imp (fun h => ⟨h.1, _, hx_1, p_2, h.2⟩) (fun h => ⟨h.1, wrt_no hA hw hx_1 p_2 h.2⟩))
        · refine WP.blk 2 ?_
          show (sT S m = 10 ∧ sR S m 0 ≠ 0) ∧ WP 5 145 32 [vR m, vI w, vI b, vI s, v4_18, v5_18] [vR (sR S m 0)] (Mp2, S) Q
          refine ⟨⟨hS.1.1, by rw [hS.1.2.1]; omega⟩, ?_⟩
          rw [hS.1.2.1]
          refine WP.blk 1 ?_
          show WP 5 145 33 [vR m, vI w, vI b, vI s, v4_18, v5_18] [vI s, vR (m + 1)] (Mp2, S) Q
          refine WP.cl (a := [vI s]) (rest := [vR (m + 1)]) rfl rfl rfl rfl trivial (by decide) (q_stampAt (by omega) ⟨rfl, ?_⟩)
          show WP 5 145 36 [vR m, vI w, vI b, vI s, v4_18, v5_18] [vI (7 + 9 * s), vR (m + 1)] (Mp2, S) Q
          refine WP.blk 6 ?_
          show ir ((7 + 9 * s) + 8) ∧ ((sT S (m + 1) = 11 ∨ sT S (m + 1) = 16 ∨ sT S (m + 1) = 17) ∧ 0 ≤ ((7 + 9 * s) + 8) ∧ ((7 + 9 * s) + 8) < (sN S (m + 1) : Int)) ∧ WP 5 145 45 [vR m, vI w, vI b, vI s, vI (Mp2 (m + 1) ((7 + 9 * s) + 8)), vI 0] [] (Mp2, S) Q
          rw [r_3]
          refine ⟨(by unfold ir; omega), ⟨Or.inl hS.2.1.1, by omega, by rw [hS.2.2.1]; omega⟩, ?_⟩
          have hl_45 : ∀ (n_45 : Nat) (i : Int) (t : Int), 0 ≤ i ∧ i ≤ o2 11 → t = f (7 + 9 * s + 8) + cnt c2 i s → (o2 11 - i).toNat < n_45 → WP 5 145 45 [vR m, vI w, vI b, vI s, vI t, vI i] [] (Mp2, S) Q := by
            intro n_45
            induction n_45 with
            | zero => intro i t h2 h3 hm_45; exact absurd hm_45 (Nat.not_lt_zero _)
            | succ n_45 ih_45 =>
              intro i t h2 h3 hm_45
              have h9 := cnt_r (c := c2) (s := s) h2.1
              have h8 := hWr s (by omega) (by omega)
              refine WP.blk 4 ?_
              show sT S m = 10 ∧ WP 5 145 (if cnd .ge i (Mp2 m 11) = true then 83 else 54) [vR m, vI w, vI b, vI s, vI t, vI i] [] (Mp2, S) Q
              rw [ho2]
              refine ⟨hS.1.1, ?_⟩
              refine br_ge (fun c_11 => ?_) (fun c_11 => ?_)
              · have h7 : i = o2 11 := by omega
                rw [h7] at h3
                have h6 := cnt_r (c := c2) (s := s) hpl.1.1
                refine WP.blk 2 ?_
                show WP 5 145 (if cnd .eq b 0 = true then 119 else 87) [vR m, vI w, vI b, vI s, vI t, vI i] [] (Mp2, S) Q
                refine br_eq (fun c_12 => ?_) (fun c_12 => ?_)
                · refine WP.blk 4 ?_
                  show ir (s + 1) ∧ WP 5 145 18 [vR m, vI w, vI 0, vI (s + 1), vI t, vI i] [] (Mp2, S) Q
                  refine ⟨(by unfold ir; omega), ?_⟩
                  exact ih_18 (s + 1) 0 (vI t) (vI i) (by omega) (by first | exact AllB_2 h1 (by assumption) | exact AllB_3 (by omega) (by unfold WearOk; omega))  (by omega)
                · refine WP.blk 3 ?_
                  show (sT S m = 10 ∧ sR S m 0 ≠ 0) ∧ WP 5 145 93 [vR m, vI w, vI b, vI s, vI t, vI i] [vR (sR S m 0), vI t] (Mp2, S) Q
                  refine ⟨⟨hS.1.1, by rw [hS.1.2.1]; omega⟩, ?_⟩
                  rw [hS.1.2.1]
                  refine WP.blk 3 ?_
                  show ((sT S (m + 1) = 11 ∨ sT S (m + 1) = 16 ∨ sT S (m + 1) = 17) ∧ 0 ≤ 2 ∧ 2 < (sN S (m + 1) : Int)) ∧ WP 5 145 (if cnd .le t (Mp2 (m + 1) 2) = true then 115 else 98) [vR m, vI w, vI b, vI s, vI t, vI i] [] (Mp2, S) Q
                  rw [r_3]
                  refine ⟨⟨Or.inl hS.2.1.1, by omega, by rw [hS.2.2.1]; omega⟩, ?_⟩
                  refine br_le (fun c_13 => ?_) (fun c_13 => ?_)
                  · refine WP.blk 5 ?_
                    show ir (s + 1) ∧ WP 5 145 18 [vR m, vI w, vI 1, vI (s + 1), vI t, vI i] [] (Mp2, S) Q
                    refine ⟨(by unfold ir; omega), ?_⟩
                    exact ih_18 (s + 1) 1 (vI t) (vI i) (by omega) (AllB_1 h1 (by assumption) (by unfold WearOk; omega))  (by omega)
                  · refine WP.blk 3 ?_
                    show (sT S m = 10 ∧ sR S m 0 ≠ 0) ∧ WP 5 145 104 [vR m, vI w, vI b, vI s, vI t, vI i] [vR (sR S m 0), vI t] (Mp2, S) Q
                    refine ⟨⟨hS.1.1, by rw [hS.1.2.1]; omega⟩, ?_⟩
                    rw [hS.1.2.1]
                    refine WP.blk 1 ?_
                    show WP 5 145 105 [vR m, vI w, vI b, vI s, vI t, vI i] [vI s, vR (m + 1), vI t] (Mp2, S) Q
                    refine WP.cl (a := [vI s]) (rest := [vR (m + 1), vI t]) rfl rfl rfl rfl trivial (by decide) (q_stampAt (by omega) ⟨rfl, ?_⟩)
                    show WP 5 145 108 [vR m, vI w, vI b, vI s, vI t, vI i] [vI (7 + 9 * s), vR (m + 1), vI t] (Mp2, S) Q
                    refine WP.blk 4 ?_
                    show ir ((7 + 9 * s) + 8) ∧ ((sT S (m + 1) = 11 ∨ sT S (m + 1) = 16 ∨ sT S (m + 1) = 17) ∧ 0 ≤ ((7 + 9 * s) + 8) ∧ ((7 + 9 * s) + 8) < (sN S (m + 1) : Int)) ∧ WP 5 145 (if cnd .ne t (Mp2 (m + 1) ((7 + 9 * s) + 8)) = true then 119 else 115) [vR m, vI w, vI b, vI s, vI t, vI i] [] (Mp2, S) Q
                    rw [r_3]
                    refine ⟨(by unfold ir; omega), ⟨Or.inl hS.2.1.1, by omega, by rw [hS.2.2.1]; omega⟩, ?_⟩
                    refine br_ne (fun c_14 => ?_) (fun c_14 => ?_)
                    · refine WP.blk 4 ?_
                      show ir (s + 1) ∧ WP 5 145 18 [vR m, vI w, vI 0, vI (s + 1), vI t, vI i] [] (Mp2, S) Q
                      refine ⟨(by unfold ir; omega), ?_⟩
                      exact ih_18 (s + 1) 0 (vI t) (vI i) (by omega) (by first | exact AllB_2 h1 (by assumption) | exact AllB_3 (by omega) (by unfold WearOk; omega))  (by omega)
                    · refine WP.blk 5 ?_
                      show ir (s + 1) ∧ WP 5 145 18 [vR m, vI w, vI 1, vI (s + 1), vI t, vI i] [] (Mp2, S) Q
                      refine ⟨(by unfold ir; omega), ?_⟩
                      exact ih_18 (s + 1) 1 (vI t) (vI i) (by omega) (AllB_1 h1 (by assumption) (by unfold WearOk; omega))  (by omega)
              · have h7 := hpl.2 i (by omega) (by omega)
                refine WP.blk 3 ?_
                show (sT S m = 10 ∧ sR S m 10 ≠ 0) ∧ WP 5 145 60 [vR m, vI w, vI b, vI s, vI t, vI i] [vR (sR S m 10), vI t] (Mp2, S) Q
                refine ⟨⟨hS.1.1, by rw [hS.1.2.2.2.2.2.2.2.1]; omega⟩, ?_⟩
                rw [hS.1.2.2.2.2.2.2.2.1]
                refine WP.blk 6 ?_
                show ((sT S (m + 7) = 11 ∨ sT S (m + 7) = 16 ∨ sT S (m + 7) = 17) ∧ 0 ≤ i ∧ i < (sN S (m + 7) : Int)) ∧ (0 ≤ (Mp2 (m + 7) i) ∧ 0 < 2) ∧ WP 5 145 (if cnd .ne ((Mp2 (m + 7) i) / 2) s = true then 73 else 69) [vR m, vI w, vI b, vI s, vI t, vI i] [vI t] (Mp2, S) Q
                rw [hc2]
                refine ⟨⟨Or.inl hS.2.1.2.2.2.2.2.2.1, by omega, by rw [hS.2.2.2.2.2.2.2.2.1]; omega⟩, (by omega), ?_⟩
                refine br_ne (fun c_15 => ?_) (fun c_15 => ?_)
                · refine WP.blk 5 ?_
                  show ir (t + 0) ∧ ir (i + 1) ∧ WP 5 145 45 [vR m, vI w, vI b, vI s, vI (t + 0), vI (i + 1)] [] (Mp2, S) Q
                  refine ⟨(by unfold ir; omega), (by unfold ir; omega), ?_⟩
                  exact ih_45 (i + 1) (t + 0) (by omega) (by rw [cnt_s (by omega), if_neg (by assumption)]; omega)  (by omega)
                · refine WP.blk 6 ?_
                  show ir (t + 1) ∧ ir (i + 1) ∧ WP 5 145 45 [vR m, vI w, vI b, vI s, vI (t + 1), vI (i + 1)] [] (Mp2, S) Q
                  refine ⟨(by unfold ir; omega), (by unfold ir; omega), ?_⟩
                  exact ih_45 (i + 1) (t + 1) (by omega) (by rw [cnt_s (by omega), if_pos (by assumption)]; omega)  (by omega)
          exact hl_45 _ 0 (f ((7 + 9 * s) + 8)) (by omega) (by rw [cnt_0]; omega)  (Nat.lt_succ_self _)
    exact hl_18 _ 0 1 (none) (none) (by omega) AllB_0  (Nat.lt_succ_self _)
  · have p_2 := (hb_2.resolve_left (fun h => by omega)).2
    refine WP.blk 1 ?_
    show WP 5 145 13 [vR m, vI w, none, none, none, none] [vI 0] (Mp2, S) Q
    exact WP.ret rfl rfl rfl ⟨by omega, trivial⟩ (k _ _ fr_8 _ _ ho2 hc2 hk2 (Or.inr ⟨rfl, nop_wrt hA hw hx_1 p_2.1⟩))
set_option maxHeartbeats 4000000 in
theorem r_carries {S : SD} {M : Nat → Int → Int} {m : Nat} {f : Int → Int} {o c : Int → Int} {col B : Int} (hS : isMod S m) (hf : M (m + 1) = f) (ho : M m = o) (hc : M (m + 7) = c) (hn : 0 ≤ o 11 ∧ o 11 ≤ 12) (h00 : 0 ≤ f 0 ∧ f 0 ≤ 10) (hp : ∀ i, 0 ≤ i → i < o 11 → 0 ≤ c i ∧ c i / 2 < f 0) (hI : InkOk B f) (hB : 0 ≤ B ∧ B ≤ 1000000000) (hcol : 0 ≤ col ∧ col ≤ 3) {Q : Res → Wd → Prop} (k : ∀ M2 : Nat → Int → Int, (∀ r, r ≠ m + 1 → M2 r = M r) → M2 (m + 1) = car col c f (o 11) → Q (0, none) (M2, S)) : EvQ 2 146 [vR m, vI col] (M, S) Q := by
  refine EvQ.enter (ls := [vR m, vI col, none, none, none]) (Nat.le_of_ble_eq_true rfl) rfl ?_
  refine WP.blk 2 ?_
  show WP 1 146 2 [vR m, vI col, vI 0, none, none] [] (M, S) Q
  have hl_2 : ∀ (n_2 : Nat) (i : Int) (v3_2 : V) (v4_2 : V) (M1 : Nat → Int → Int) (g : Int → Int), 0 ≤ i ∧ i ≤ o 11 → g = car col c f i → M1 (m + 1) = g → M1 m = o → M1 (m + 7) = c → (∀ r, r ≠ m + 1 → M1 r = M r) → (o 11 - i).toNat < n_2 → WP 1 146 2 [vR m, vI col, vI i, v3_2, v4_2] [] (M1, S) Q := by
    intro n_2
    induction n_2 with
    | zero => intro i v3_2 v4_2 M1 g h0 h1 z_2_0 z_2_1 z_2_2 fr_2 hm_2; exact absurd hm_2 (Nat.not_lt_zero _)
    | succ n_2 ih_2 =>
      intro i v3_2 v4_2 M1 g h0 h1 z_2_0 z_2_1 z_2_2 fr_2 hm_2
      refine WP.blk 4 ?_
      show sT S m = 10 ∧ WP 1 146 (if cnd .ge i (M1 m 11) = true then 169 else 10) [vR m, vI col, vI i, v3_2, v4_2] [] (M1, S) Q
      rw [z_2_1]
      refine ⟨hS.1.1, ?_⟩
      refine br_ge (fun c_1 => ?_) (fun c_1 => ?_)
      · exact WP.ret rfl rfl rfl trivial (k _ fr_2 (by rw [z_2_0, h1, show i = o 11 by omega]))
      · have hs := hp i (by omega) (by omega)
        have hI1 : InkOk (B + i) g ∧ g 0 = f 0 := by rw [h1]; exact car_ink (by omega) hcol (by omega) (fun j a b => hp j a (by omega)) hI h0.1
        obtain ⟨hI2, hI3⟩ := hI1
        obtain ⟨hI4, hI5, hI6, hI7, hI8, hI9⟩ := hI2
        have hI0 := hI4 (c i / 2) (by omega) (by omega)
        refine WP.blk 2 ?_
        show (sT S m = 10 ∧ sR S m 10 ≠ 0) ∧ WP 1 146 14 [vR m, vI col, vI i, v3_2, v4_2] [vR (sR S m 10)] (M1, S) Q
        refine ⟨⟨hS.1.1, by rw [hS.1.2.2.2.2.2.2.2.1]; omega⟩, ?_⟩
        rw [hS.1.2.2.2.2.2.2.2.1]
        refine WP.blk 4 ?_
        show ((sT S (m + 7) = 11 ∨ sT S (m + 7) = 16 ∨ sT S (m + 7) = 17) ∧ 0 ≤ i ∧ i < (sN S (m + 7) : Int)) ∧ (0 ≤ (M1 (m + 7) i) ∧ 0 < 2) ∧ WP 1 146 18 [vR m, vI col, vI i, v3_2, v4_2] [vI ((M1 (m + 7) i) / 2)] (M1, S) Q
        rw [z_2_2]
        refine ⟨⟨Or.inl hS.2.1.2.2.2.2.2.2.1, by omega, by rw [hS.2.2.2.2.2.2.2.2.1]; omega⟩, (by omega), ?_⟩
        refine WP.cl (a := [vI ((c i) / 2)]) (rest := []) rfl rfl rfl rfl trivial (by decide) (q_stampAt (by omega) ⟨rfl, ?_⟩)
        show WP 1 146 21 [vR m, vI col, vI i, v3_2, v4_2] [vI (7 + 9 * ((c i) / 2))] (M1, S) Q
        refine WP.blk 3 ?_
        show (sT S m = 10 ∧ sR S m 0 ≠ 0) ∧ WP 1 146 26 [vR m, vI col, vI i, vI (7 + 9 * ((c i) / 2)), v4_2] [vR (sR S m 0)] (M1, S) Q
        refine ⟨⟨hS.1.1, by rw [hS.1.2.1]; omega⟩, ?_⟩
        rw [hS.1.2.1]
        refine WP.blk 6 ?_
        show ir ((7 + 9 * ((c i) / 2)) + 6) ∧ ((sT S (m + 1) = 11 ∨ sT S (m + 1) = 16 ∨ sT S (m + 1) = 17) ∧ 0 ≤ ((7 + 9 * ((c i) / 2)) + 6) ∧ ((7 + 9 * ((c i) / 2)) + 6) < (sN S (m + 1) : Int)) ∧ WP 1 146 (if cnd .eq (M1 (m + 1) ((7 + 9 * ((c i) / 2)) + 6)) col = true then 39 else 35) [vR m, vI col, vI i, vI (7 + 9 * ((c i) / 2)), v4_2] [] (M1, S) Q
        rw [z_2_0]
        refine ⟨(by unfold ir; omega), ⟨Or.inl hS.2.1.1, by omega, by rw [hS.2.2.1]; omega⟩, ?_⟩
        refine br_eq (fun c_2 => ?_) (fun c_2 => ?_)
        · refine WP.blk 6 ?_
          show (sT S m = 10 ∧ sR S m 0 ≠ 0) ∧ WP 1 146 51 [vR m, vI col, vI i, vI (7 + 9 * ((c i) / 2)), vI 0] [vR (sR S m 0)] (M1, S) Q
          refine ⟨⟨hS.1.1, by rw [hS.1.2.1]; omega⟩, ?_⟩
          rw [hS.1.2.1]
          refine WP.blk 5 ?_
          show ir ((7 + 9 * ((c i) / 2)) + 7) ∧ ((sT S (m + 1) = 11 ∨ sT S (m + 1) = 16 ∨ sT S (m + 1) = 17) ∧ 0 ≤ ((7 + 9 * ((c i) / 2)) + 7) ∧ ((7 + 9 * ((c i) / 2)) + 7) < (sN S (m + 1) : Int)) ∧ WP 1 146 (if cnd .ne (M1 (m + 1) ((7 + 9 * ((c i) / 2)) + 7)) 0 = true then 127 else 59) [vR m, vI col, vI i, vI (7 + 9 * ((c i) / 2)), vI 0] [] (M1, S) Q
          rw [z_2_0]
          refine ⟨(by unfold ir; omega), ⟨Or.inl hS.2.1.1, by omega, by rw [hS.2.2.1]; omega⟩, ?_⟩
          refine br_ne (fun c_3 => ?_) (fun c_3 => ?_)
          · refine WP.blk 2 ?_
            show (sT S m = 10 ∧ sR S m 0 ≠ 0) ∧ WP 1 146 131 [vR m, vI col, vI i, vI (7 + 9 * ((c i) / 2)), vI 0] [vR (sR S m 0)] (M1, S) Q
            refine ⟨⟨hS.1.1, by rw [hS.1.2.1]; omega⟩, ?_⟩
            rw [hS.1.2.1]
            refine WP.blk 8 ?_
            show ir ((7 + 9 * ((c i) / 2)) + 7) ∧ ((sT S (m + 1) = 11 ∨ sT S (m + 1) = 16 ∨ sT S (m + 1) = 17) ∧ 0 ≤ ((7 + 9 * ((c i) / 2)) + 7) ∧ ((7 + 9 * ((c i) / 2)) + 7) < (sN S (m + 1) : Int)) ∧ ir ((M1 (m + 1) ((7 + 9 * ((c i) / 2)) + 7)) - 1) ∧ (sT S (m + 1) = 11 ∧ 0 ≤ ((7 + 9 * ((c i) / 2)) + 7) ∧ ((7 + 9 * ((c i) / 2)) + 7) < (sN S (m + 1) : Int)) ∧ WP 1 146 140 [vR m, vI col, vI i, vI (7 + 9 * ((c i) / 2)), vI 0] [] (up M1 (m + 1) ((7 + 9 * ((c i) / 2)) + 7) ((M1 (m + 1) ((7 + 9 * ((c i) / 2)) + 7)) - 1), S) Q
            rw [z_2_0]
            refine ⟨(by unfold ir; omega), ⟨Or.inl hS.2.1.1, by omega, by rw [hS.2.2.1]; omega⟩, (by unfold ir; omega), ⟨hS.2.1.1, by omega, by rw [hS.2.2.1]; omega⟩, ?_⟩
            generalize hM_4 : up M1 (m + 1) ((7 + 9 * ((c i) / 2)) + 7) ((g ((7 + 9 * ((c i) / 2)) + 7)) - 1) = M_4
            obtain ⟨g_6, hg_6⟩ : ∃ y9, y9 = uf g ((7 + 9 * ((c i) / 2)) + 7) ((g ((7 + 9 * ((c i) / 2)) + 7)) - 1) := ⟨_, rfl⟩
            have r_5 : M_4 (m + 1) = g_6 := by rw [← hM_4, hg_6, up_self, z_2_0]
            have t_7 : g_6 3 = g 3 := by rw [hg_6]; exact uf_ne (by omega)
            have t_8 : g_6 4 = g 4 := by rw [hg_6]; exact uf_ne (by omega)
            have t_9 : g_6 5 = g 5 := by rw [hg_6]; exact uf_ne (by omega)
            have t_10 : g_6 6 = g 6 := by rw [hg_6]; exact uf_ne (by omega)
            have t_11 : g_6 (7 + 9 * (c i / 2) + 6) = g (7 + 9 * (c i / 2) + 6) := by rw [hg_6]; exact uf_ne (by omega)
            have t_12 : g_6 (7 + 9 * (c i / 2) + 7) = (g ((7 + 9 * ((c i) / 2)) + 7)) - 1 := by rw [hg_6]; exact uf_at _ _ (by omega)
            have t_13 : g_6 (7 + 9 * (c i / 2) + 8) = g (7 + 9 * (c i / 2) + 8) := by rw [hg_6]; exact uf_ne (by omega)
            have r_14 : M_4 m = o := by rw [← hM_4]; exact (up_row (by omega)).trans z_2_1
            have r_15 : M_4 (m + 7) = c := by rw [← hM_4]; exact (up_row (by omega)).trans z_2_2
            have fr_16 : ∀ r, r ≠ m + 1 → M_4 r = M r := fun r q0 => by rw [← hM_4]; exact (up_row q0).trans (fr_2 r q0)
            refine WP.blk 2 ?_
            show (sT S m = 10 ∧ sR S m 0 ≠ 0) ∧ WP 1 146 144 [vR m, vI col, vI i, vI (7 + 9 * ((c i) / 2)), vI 0] [vR (sR S m 0)] (M_4, S) Q
            refine ⟨⟨hS.1.1, by rw [hS.1.2.1]; omega⟩, ?_⟩
            rw [hS.1.2.1]
            refine WP.blk 8 ?_
            show ir ((7 + 9 * ((c i) / 2)) + 8) ∧ ((sT S (m + 1) = 11 ∨ sT S (m + 1) = 16 ∨ sT S (m + 1) = 17) ∧ 0 ≤ ((7 + 9 * ((c i) / 2)) + 8) ∧ ((7 + 9 * ((c i) / 2)) + 8) < (sN S (m + 1) : Int)) ∧ ir ((M_4 (m + 1) ((7 + 9 * ((c i) / 2)) + 8)) + 1) ∧ (sT S (m + 1) = 11 ∧ 0 ≤ ((7 + 9 * ((c i) / 2)) + 8) ∧ ((7 + 9 * ((c i) / 2)) + 8) < (sN S (m + 1) : Int)) ∧ WP 1 146 153 [vR m, vI col, vI i, vI (7 + 9 * ((c i) / 2)), vI 0] [] (up M_4 (m + 1) ((7 + 9 * ((c i) / 2)) + 8) ((M_4 (m + 1) ((7 + 9 * ((c i) / 2)) + 8)) + 1), S) Q
            rw [r_5]
            refine ⟨(by unfold ir; omega), ⟨Or.inl hS.2.1.1, by omega, by rw [hS.2.2.1]; omega⟩, (by unfold ir; omega), ⟨hS.2.1.1, by omega, by rw [hS.2.2.1]; omega⟩, ?_⟩
            generalize hM_17 : up M_4 (m + 1) ((7 + 9 * ((c i) / 2)) + 8) ((g_6 ((7 + 9 * ((c i) / 2)) + 8)) + 1) = M_17
            obtain ⟨g_19, hg_19⟩ : ∃ y9, y9 = uf g_6 ((7 + 9 * ((c i) / 2)) + 8) ((g_6 ((7 + 9 * ((c i) / 2)) + 8)) + 1) := ⟨_, rfl⟩
            have r_18 : M_17 (m + 1) = g_19 := by rw [← hM_17, hg_19, up_self, r_5]
            have t_20 : g_19 3 = g_6 3 := by rw [hg_19]; exact uf_ne (by omega)
            have t_21 : g_19 4 = g_6 4 := by rw [hg_19]; exact uf_ne (by omega)
            have t_22 : g_19 5 = g_6 5 := by rw [hg_19]; exact uf_ne (by omega)
            have t_23 : g_19 6 = g_6 6 := by rw [hg_19]; exact uf_ne (by omega)
            have t_24 : g_19 (7 + 9 * (c i / 2) + 6) = g_6 (7 + 9 * (c i / 2) + 6) := by rw [hg_19]; exact uf_ne (by omega)
            have t_25 : g_19 (7 + 9 * (c i / 2) + 7) = g_6 (7 + 9 * (c i / 2) + 7) := by rw [hg_19]; exact uf_ne (by omega)
            have t_26 : g_19 (7 + 9 * (c i / 2) + 8) = (g_6 ((7 + 9 * ((c i) / 2)) + 8)) + 1 := by rw [hg_19]; exact uf_at _ _ (by omega)
            have r_27 : M_17 m = o := by rw [← hM_17]; exact (up_row (by omega)).trans r_14
            have r_28 : M_17 (m + 7) = c := by rw [← hM_17]; exact (up_row (by omega)).trans r_15
            have fr_29 : ∀ r, r ≠ m + 1 → M_17 r = M r := fun r q0 => by rw [← hM_17]; exact (up_row q0).trans (fr_16 r q0)
            refine WP.blk 2 ?_
            show (sT S m = 10 ∧ sR S m 0 ≠ 0) ∧ WP 1 146 157 [vR m, vI col, vI i, vI (7 + 9 * ((c i) / 2)), vI 0] [vR (sR S m 0)] (M_17, S) Q
            refine ⟨⟨hS.1.1, by rw [hS.1.2.1]; omega⟩, ?_⟩
            rw [hS.1.2.1]
            refine WP.blk 6 ?_
            show ((sT S (m + 1) = 11 ∨ sT S (m + 1) = 16 ∨ sT S (m + 1) = 17) ∧ 0 ≤ 4 ∧ 4 < (sN S (m + 1) : Int)) ∧ ir ((M_17 (m + 1) 4) + 1) ∧ (sT S (m + 1) = 11 ∧ 0 ≤ 4 ∧ 4 < (sN S (m + 1) : Int)) ∧ WP 1 146 163 [vR m, vI col, vI i, vI (7 + 9 * ((c i) / 2)), vI 0] [] (up M_17 (m + 1) 4 ((M_17 (m + 1) 4) + 1), S) Q
            rw [r_18]
            refine ⟨⟨Or.inl hS.2.1.1, by omega, by rw [hS.2.2.1]; omega⟩, (by unfold ir; omega), ⟨hS.2.1.1, by omega, by rw [hS.2.2.1]; omega⟩, ?_⟩
            generalize hM_30 : up M_17 (m + 1) 4 ((g_19 4) + 1) = M_30
            obtain ⟨g_32, hg_32⟩ : ∃ y9, y9 = uf g_19 4 ((g_19 4) + 1) := ⟨_, rfl⟩
            have r_31 : M_30 (m + 1) = g_32 := by rw [← hM_30, hg_32, up_self, r_18]
            have t_33 : g_32 3 = g_19 3 := by rw [hg_32]; exact uf_ne (by omega)
            have t_34 : g_32 4 = (g_19 4) + 1 := by rw [hg_32]; exact uf_at _ _ (by omega)
            have t_35 : g_32 5 = g_19 5 := by rw [hg_32]; exact uf_ne (by omega)
            have t_36 : g_32 6 = g_19 6 := by rw [hg_32]; exact uf_ne (by omega)
            have t_37 : g_32 (7 + 9 * (c i / 2) + 6) = g_19 (7 + 9 * (c i / 2) + 6) := by rw [hg_32]; exact uf_ne (by omega)
            have t_38 : g_32 (7 + 9 * (c i / 2) + 7) = g_19 (7 + 9 * (c i / 2) + 7) := by rw [hg_32]; exact uf_ne (by omega)
            have t_39 : g_32 (7 + 9 * (c i / 2) + 8) = g_19 (7 + 9 * (c i / 2) + 8) := by rw [hg_32]; exact uf_ne (by omega)
            have r_40 : M_30 m = o := by rw [← hM_30]; exact (up_row (by omega)).trans r_27
            have r_41 : M_30 (m + 7) = c := by rw [← hM_30]; exact (up_row (by omega)).trans r_28
            have fr_42 : ∀ r, r ≠ m + 1 → M_30 r = M r := fun r q0 => by rw [← hM_30]; exact (up_row q0).trans (fr_29 r q0)
            refine WP.blk 2 ?_
            show ir (i + 1) ∧ WP 1 146 2 [vR m, vI col, vI (i + 1), vI (7 + 9 * ((c i) / 2)), vI 0] [] (M_30, S) Q
            refine ⟨(by unfold ir; omega), ?_⟩
            exact ih_2 (i + 1) (vI (7 + 9 * ((c i) / 2))) (vI 0) M_30 g_32 (by omega) (by rw [car_s (by omega), ← h1]; exact prs1_eq (by omega) (by omega) (by split <;> omega) (by omega) (by omega) (by split <;> omega) (by split <;> omega) (fun k q1 q2 q3 q4 q5 q6 => by rw [hg_32, uf_ne (by omega), hg_19, uf_ne (by omega), hg_6, uf_ne (by omega)])) r_31 r_40 r_41 fr_42 (by omega)
          · refine WP.blk 2 ?_
            show (sT S m = 10 ∧ sR S m 0 ≠ 0) ∧ WP 1 146 63 [vR m, vI col, vI i, vI (7 + 9 * ((c i) / 2)), vI 0] [vR (sR S m 0)] (M1, S) Q
            refine ⟨⟨hS.1.1, by rw [hS.1.2.1]; omega⟩, ?_⟩
            rw [hS.1.2.1]
            refine WP.blk 6 ?_
            show ((sT S (m + 1) = 11 ∨ sT S (m + 1) = 16 ∨ sT S (m + 1) = 17) ∧ 0 ≤ 5 ∧ 5 < (sN S (m + 1) : Int)) ∧ ir ((M1 (m + 1) 5) + 1) ∧ (sT S (m + 1) = 11 ∧ 0 ≤ 5 ∧ 5 < (sN S (m + 1) : Int)) ∧ WP 1 146 69 [vR m, vI col, vI i, vI (7 + 9 * ((c i) / 2)), vI 0] [] (up M1 (m + 1) 5 ((M1 (m + 1) 5) + 1), S) Q
            rw [z_2_0]
            refine ⟨⟨Or.inl hS.2.1.1, by omega, by rw [hS.2.2.1]; omega⟩, (by unfold ir; omega), ⟨hS.2.1.1, by omega, by rw [hS.2.2.1]; omega⟩, ?_⟩
            generalize hM_43 : up M1 (m + 1) 5 ((g 5) + 1) = M_43
            obtain ⟨g_45, hg_45⟩ : ∃ y9, y9 = uf g 5 ((g 5) + 1) := ⟨_, rfl⟩
            have r_44 : M_43 (m + 1) = g_45 := by rw [← hM_43, hg_45, up_self, z_2_0]
            have t_46 : g_45 3 = g 3 := by rw [hg_45]; exact uf_ne (by omega)
            have t_47 : g_45 4 = g 4 := by rw [hg_45]; exact uf_ne (by omega)
            have t_48 : g_45 5 = (g 5) + 1 := by rw [hg_45]; exact uf_at _ _ (by omega)
            have t_49 : g_45 6 = g 6 := by rw [hg_45]; exact uf_ne (by omega)
            have t_50 : g_45 (7 + 9 * (c i / 2) + 6) = g (7 + 9 * (c i / 2) + 6) := by rw [hg_45]; exact uf_ne (by omega)
            have t_51 : g_45 (7 + 9 * (c i / 2) + 7) = g (7 + 9 * (c i / 2) + 7) := by rw [hg_45]; exact uf_ne (by omega)
            have t_52 : g_45 (7 + 9 * (c i / 2) + 8) = g (7 + 9 * (c i / 2) + 8) := by rw [hg_45]; exact uf_ne (by omega)
            have r_53 : M_43 m = o := by rw [← hM_43]; exact (up_row (by omega)).trans z_2_1
            have r_54 : M_43 (m + 7) = c := by rw [← hM_43]; exact (up_row (by omega)).trans z_2_2
            have fr_55 : ∀ r, r ≠ m + 1 → M_43 r = M r := fun r q0 => by rw [← hM_43]; exact (up_row q0).trans (fr_2 r q0)
            refine WP.blk 2 ?_
            show (sT S m = 10 ∧ sR S m 0 ≠ 0) ∧ WP 1 146 73 [vR m, vI col, vI i, vI (7 + 9 * ((c i) / 2)), vI 0] [vR (sR S m 0)] (M_43, S) Q
            refine ⟨⟨hS.1.1, by rw [hS.1.2.1]; omega⟩, ?_⟩
            rw [hS.1.2.1]
            refine WP.blk 8 ?_
            show ((sT S (m + 1) = 11 ∨ sT S (m + 1) = 16 ∨ sT S (m + 1) = 17) ∧ 0 ≤ 6 ∧ 6 < (sN S (m + 1) : Int)) ∧ ir ((M_43 (m + 1) 6) + 0) ∧ (sT S (m + 1) = 11 ∧ 0 ≤ 6 ∧ 6 < (sN S (m + 1) : Int)) ∧ WP 1 146 102 [vR m, vI col, vI i, vI (7 + 9 * ((c i) / 2)), vI 0] [] (up M_43 (m + 1) 6 ((M_43 (m + 1) 6) + 0), S) Q
            rw [r_44]
            refine ⟨⟨Or.inl hS.2.1.1, by omega, by rw [hS.2.2.1]; omega⟩, (by unfold ir; omega), ⟨hS.2.1.1, by omega, by rw [hS.2.2.1]; omega⟩, ?_⟩
            generalize hM_56 : up M_43 (m + 1) 6 ((g_45 6) + 0) = M_56
            obtain ⟨g_58, hg_58⟩ : ∃ y9, y9 = uf g_45 6 ((g_45 6) + 0) := ⟨_, rfl⟩
            have r_57 : M_56 (m + 1) = g_58 := by rw [← hM_56, hg_58, up_self, r_44]
            have t_59 : g_58 3 = g_45 3 := by rw [hg_58]; exact uf_ne (by omega)
            have t_60 : g_58 4 = g_45 4 := by rw [hg_58]; exact uf_ne (by omega)
            have t_61 : g_58 5 = g_45 5 := by rw [hg_58]; exact uf_ne (by omega)
            have t_62 : g_58 6 = (g_45 6) + 0 := by rw [hg_58]; exact uf_at _ _ (by omega)
            have t_63 : g_58 (7 + 9 * (c i / 2) + 6) = g_45 (7 + 9 * (c i / 2) + 6) := by rw [hg_58]; exact uf_ne (by omega)
            have t_64 : g_58 (7 + 9 * (c i / 2) + 7) = g_45 (7 + 9 * (c i / 2) + 7) := by rw [hg_58]; exact uf_ne (by omega)
            have t_65 : g_58 (7 + 9 * (c i / 2) + 8) = g_45 (7 + 9 * (c i / 2) + 8) := by rw [hg_58]; exact uf_ne (by omega)
            have r_66 : M_56 m = o := by rw [← hM_56]; exact (up_row (by omega)).trans r_53
            have r_67 : M_56 (m + 7) = c := by rw [← hM_56]; exact (up_row (by omega)).trans r_54
            have fr_68 : ∀ r, r ≠ m + 1 → M_56 r = M r := fun r q0 => by rw [← hM_56]; exact (up_row q0).trans (fr_55 r q0)
            refine WP.blk 2 ?_
            show (sT S m = 10 ∧ sR S m 0 ≠ 0) ∧ WP 1 146 106 [vR m, vI col, vI i, vI (7 + 9 * ((c i) / 2)), vI 0] [vR (sR S m 0)] (M_56, S) Q
            refine ⟨⟨hS.1.1, by rw [hS.1.2.1]; omega⟩, ?_⟩
            rw [hS.1.2.1]
            refine WP.blk 5 ?_
            show ir ((7 + 9 * ((c i) / 2)) + 6) ∧ (sT S (m + 1) = 11 ∧ 0 ≤ ((7 + 9 * ((c i) / 2)) + 6) ∧ ((7 + 9 * ((c i) / 2)) + 6) < (sN S (m + 1) : Int)) ∧ WP 1 146 112 [vR m, vI col, vI i, vI (7 + 9 * ((c i) / 2)), vI 0] [] (up M_56 (m + 1) ((7 + 9 * ((c i) / 2)) + 6) col, S) Q
            refine ⟨(by unfold ir; omega), ⟨hS.2.1.1, by omega, by rw [hS.2.2.1]; omega⟩, ?_⟩
            generalize hM_69 : up M_56 (m + 1) ((7 + 9 * ((c i) / 2)) + 6) col = M_69
            obtain ⟨g_71, hg_71⟩ : ∃ y9, y9 = uf g_58 ((7 + 9 * ((c i) / 2)) + 6) col := ⟨_, rfl⟩
            have r_70 : M_69 (m + 1) = g_71 := by rw [← hM_69, hg_71, up_self, r_57]
            have t_72 : g_71 3 = g_58 3 := by rw [hg_71]; exact uf_ne (by omega)
            have t_73 : g_71 4 = g_58 4 := by rw [hg_71]; exact uf_ne (by omega)
            have t_74 : g_71 5 = g_58 5 := by rw [hg_71]; exact uf_ne (by omega)
            have t_75 : g_71 6 = g_58 6 := by rw [hg_71]; exact uf_ne (by omega)
            have t_76 : g_71 (7 + 9 * (c i / 2) + 6) = col := by rw [hg_71]; exact uf_at _ _ (by omega)
            have t_77 : g_71 (7 + 9 * (c i / 2) + 7) = g_58 (7 + 9 * (c i / 2) + 7) := by rw [hg_71]; exact uf_ne (by omega)
            have t_78 : g_71 (7 + 9 * (c i / 2) + 8) = g_58 (7 + 9 * (c i / 2) + 8) := by rw [hg_71]; exact uf_ne (by omega)
            have r_79 : M_69 m = o := by rw [← hM_69]; exact (up_row (by omega)).trans r_66
            have r_80 : M_69 (m + 7) = c := by rw [← hM_69]; exact (up_row (by omega)).trans r_67
            have fr_81 : ∀ r, r ≠ m + 1 → M_69 r = M r := fun r q0 => by rw [← hM_69]; exact (up_row q0).trans (fr_68 r q0)
            refine WP.blk 2 ?_
            show (sT S m = 10 ∧ sR S m 0 ≠ 0) ∧ WP 1 146 116 [vR m, vI col, vI i, vI (7 + 9 * ((c i) / 2)), vI 0] [vR (sR S m 0)] (M_69, S) Q
            refine ⟨⟨hS.1.1, by rw [hS.1.2.1]; omega⟩, ?_⟩
            rw [hS.1.2.1]
            refine WP.blk 5 ?_
            show ir ((7 + 9 * ((c i) / 2)) + 7) ∧ (sT S m = 10 ∧ sR S m 0 ≠ 0) ∧ WP 1 146 124 [vR m, vI col, vI i, vI (7 + 9 * ((c i) / 2)), vI 0] [vR (sR S m 0), vI ((7 + 9 * ((c i) / 2)) + 7), vR (m + 1)] (M_69, S) Q
            refine ⟨(by unfold ir; omega), ⟨hS.1.1, by rw [hS.1.2.1]; omega⟩, ?_⟩
            rw [hS.1.2.1]
            refine WP.blk 3 ?_
            show ((sT S (m + 1) = 11 ∨ sT S (m + 1) = 16 ∨ sT S (m + 1) = 17) ∧ 0 ≤ 3 ∧ 3 < (sN S (m + 1) : Int)) ∧ (sT S (m + 1) = 11 ∧ 0 ≤ ((7 + 9 * ((c i) / 2)) + 7) ∧ ((7 + 9 * ((c i) / 2)) + 7) < (sN S (m + 1) : Int)) ∧ WP 1 146 127 [vR m, vI col, vI i, vI (7 + 9 * ((c i) / 2)), vI 0] [] (up M_69 (m + 1) ((7 + 9 * ((c i) / 2)) + 7) (M_69 (m + 1) 3), S) Q
            rw [r_70]
            refine ⟨⟨Or.inl hS.2.1.1, by omega, by rw [hS.2.2.1]; omega⟩, ⟨hS.2.1.1, by omega, by rw [hS.2.2.1]; omega⟩, ?_⟩
            generalize hM_82 : up M_69 (m + 1) ((7 + 9 * ((c i) / 2)) + 7) (g_71 3) = M_82
            obtain ⟨g_84, hg_84⟩ : ∃ y9, y9 = uf g_71 ((7 + 9 * ((c i) / 2)) + 7) (g_71 3) := ⟨_, rfl⟩
            have r_83 : M_82 (m + 1) = g_84 := by rw [← hM_82, hg_84, up_self, r_70]
            have t_85 : g_84 3 = g_71 3 := by rw [hg_84]; exact uf_ne (by omega)
            have t_86 : g_84 4 = g_71 4 := by rw [hg_84]; exact uf_ne (by omega)
            have t_87 : g_84 5 = g_71 5 := by rw [hg_84]; exact uf_ne (by omega)
            have t_88 : g_84 6 = g_71 6 := by rw [hg_84]; exact uf_ne (by omega)
            have t_89 : g_84 (7 + 9 * (c i / 2) + 6) = g_71 (7 + 9 * (c i / 2) + 6) := by rw [hg_84]; exact uf_ne (by omega)
            have t_90 : g_84 (7 + 9 * (c i / 2) + 7) = g_71 3 := by rw [hg_84]; exact uf_at _ _ (by omega)
            have t_91 : g_84 (7 + 9 * (c i / 2) + 8) = g_71 (7 + 9 * (c i / 2) + 8) := by rw [hg_84]; exact uf_ne (by omega)
            have r_92 : M_82 m = o := by rw [← hM_82]; exact (up_row (by omega)).trans r_79
            have r_93 : M_82 (m + 7) = c := by rw [← hM_82]; exact (up_row (by omega)).trans r_80
            have fr_94 : ∀ r, r ≠ m + 1 → M_82 r = M r := fun r q0 => by rw [← hM_82]; exact (up_row q0).trans (fr_81 r q0)
            refine WP.blk 2 ?_
            show (sT S m = 10 ∧ sR S m 0 ≠ 0) ∧ WP 1 146 131 [vR m, vI col, vI i, vI (7 + 9 * ((c i) / 2)), vI 0] [vR (sR S m 0)] (M_82, S) Q
            refine ⟨⟨hS.1.1, by rw [hS.1.2.1]; omega⟩, ?_⟩
            rw [hS.1.2.1]
            refine WP.blk 8 ?_
            show ir ((7 + 9 * ((c i) / 2)) + 7) ∧ ((sT S (m + 1) = 11 ∨ sT S (m + 1) = 16 ∨ sT S (m + 1) = 17) ∧ 0 ≤ ((7 + 9 * ((c i) / 2)) + 7) ∧ ((7 + 9 * ((c i) / 2)) + 7) < (sN S (m + 1) : Int)) ∧ ir ((M_82 (m + 1) ((7 + 9 * ((c i) / 2)) + 7)) - 1) ∧ (sT S (m + 1) = 11 ∧ 0 ≤ ((7 + 9 * ((c i) / 2)) + 7) ∧ ((7 + 9 * ((c i) / 2)) + 7) < (sN S (m + 1) : Int)) ∧ WP 1 146 140 [vR m, vI col, vI i, vI (7 + 9 * ((c i) / 2)), vI 0] [] (up M_82 (m + 1) ((7 + 9 * ((c i) / 2)) + 7) ((M_82 (m + 1) ((7 + 9 * ((c i) / 2)) + 7)) - 1), S) Q
            rw [r_83]
            refine ⟨(by unfold ir; omega), ⟨Or.inl hS.2.1.1, by omega, by rw [hS.2.2.1]; omega⟩, (by unfold ir; omega), ⟨hS.2.1.1, by omega, by rw [hS.2.2.1]; omega⟩, ?_⟩
            generalize hM_95 : up M_82 (m + 1) ((7 + 9 * ((c i) / 2)) + 7) ((g_84 ((7 + 9 * ((c i) / 2)) + 7)) - 1) = M_95
            obtain ⟨g_97, hg_97⟩ : ∃ y9, y9 = uf g_84 ((7 + 9 * ((c i) / 2)) + 7) ((g_84 ((7 + 9 * ((c i) / 2)) + 7)) - 1) := ⟨_, rfl⟩
            have r_96 : M_95 (m + 1) = g_97 := by rw [← hM_95, hg_97, up_self, r_83]
            have t_98 : g_97 3 = g_84 3 := by rw [hg_97]; exact uf_ne (by omega)
            have t_99 : g_97 4 = g_84 4 := by rw [hg_97]; exact uf_ne (by omega)
            have t_100 : g_97 5 = g_84 5 := by rw [hg_97]; exact uf_ne (by omega)
            have t_101 : g_97 6 = g_84 6 := by rw [hg_97]; exact uf_ne (by omega)
            have t_102 : g_97 (7 + 9 * (c i / 2) + 6) = g_84 (7 + 9 * (c i / 2) + 6) := by rw [hg_97]; exact uf_ne (by omega)
            have t_103 : g_97 (7 + 9 * (c i / 2) + 7) = (g_84 ((7 + 9 * ((c i) / 2)) + 7)) - 1 := by rw [hg_97]; exact uf_at _ _ (by omega)
            have t_104 : g_97 (7 + 9 * (c i / 2) + 8) = g_84 (7 + 9 * (c i / 2) + 8) := by rw [hg_97]; exact uf_ne (by omega)
            have r_105 : M_95 m = o := by rw [← hM_95]; exact (up_row (by omega)).trans r_92
            have r_106 : M_95 (m + 7) = c := by rw [← hM_95]; exact (up_row (by omega)).trans r_93
            have fr_107 : ∀ r, r ≠ m + 1 → M_95 r = M r := fun r q0 => by rw [← hM_95]; exact (up_row q0).trans (fr_94 r q0)
            refine WP.blk 2 ?_
            show (sT S m = 10 ∧ sR S m 0 ≠ 0) ∧ WP 1 146 144 [vR m, vI col, vI i, vI (7 + 9 * ((c i) / 2)), vI 0] [vR (sR S m 0)] (M_95, S) Q
            refine ⟨⟨hS.1.1, by rw [hS.1.2.1]; omega⟩, ?_⟩
            rw [hS.1.2.1]
            refine WP.blk 8 ?_
            show ir ((7 + 9 * ((c i) / 2)) + 8) ∧ ((sT S (m + 1) = 11 ∨ sT S (m + 1) = 16 ∨ sT S (m + 1) = 17) ∧ 0 ≤ ((7 + 9 * ((c i) / 2)) + 8) ∧ ((7 + 9 * ((c i) / 2)) + 8) < (sN S (m + 1) : Int)) ∧ ir ((M_95 (m + 1) ((7 + 9 * ((c i) / 2)) + 8)) + 1) ∧ (sT S (m + 1) = 11 ∧ 0 ≤ ((7 + 9 * ((c i) / 2)) + 8) ∧ ((7 + 9 * ((c i) / 2)) + 8) < (sN S (m + 1) : Int)) ∧ WP 1 146 153 [vR m, vI col, vI i, vI (7 + 9 * ((c i) / 2)), vI 0] [] (up M_95 (m + 1) ((7 + 9 * ((c i) / 2)) + 8) ((M_95 (m + 1) ((7 + 9 * ((c i) / 2)) + 8)) + 1), S) Q
            rw [r_96]
            refine ⟨(by unfold ir; omega), ⟨Or.inl hS.2.1.1, by omega, by rw [hS.2.2.1]; omega⟩, (by unfold ir; omega), ⟨hS.2.1.1, by omega, by rw [hS.2.2.1]; omega⟩, ?_⟩
            generalize hM_108 : up M_95 (m + 1) ((7 + 9 * ((c i) / 2)) + 8) ((g_97 ((7 + 9 * ((c i) / 2)) + 8)) + 1) = M_108
            obtain ⟨g_110, hg_110⟩ : ∃ y9, y9 = uf g_97 ((7 + 9 * ((c i) / 2)) + 8) ((g_97 ((7 + 9 * ((c i) / 2)) + 8)) + 1) := ⟨_, rfl⟩
            have r_109 : M_108 (m + 1) = g_110 := by rw [← hM_108, hg_110, up_self, r_96]
            have t_111 : g_110 3 = g_97 3 := by rw [hg_110]; exact uf_ne (by omega)
            have t_112 : g_110 4 = g_97 4 := by rw [hg_110]; exact uf_ne (by omega)
            have t_113 : g_110 5 = g_97 5 := by rw [hg_110]; exact uf_ne (by omega)
            have t_114 : g_110 6 = g_97 6 := by rw [hg_110]; exact uf_ne (by omega)
            have t_115 : g_110 (7 + 9 * (c i / 2) + 6) = g_97 (7 + 9 * (c i / 2) + 6) := by rw [hg_110]; exact uf_ne (by omega)
            have t_116 : g_110 (7 + 9 * (c i / 2) + 7) = g_97 (7 + 9 * (c i / 2) + 7) := by rw [hg_110]; exact uf_ne (by omega)
            have t_117 : g_110 (7 + 9 * (c i / 2) + 8) = (g_97 ((7 + 9 * ((c i) / 2)) + 8)) + 1 := by rw [hg_110]; exact uf_at _ _ (by omega)
            have r_118 : M_108 m = o := by rw [← hM_108]; exact (up_row (by omega)).trans r_105
            have r_119 : M_108 (m + 7) = c := by rw [← hM_108]; exact (up_row (by omega)).trans r_106
            have fr_120 : ∀ r, r ≠ m + 1 → M_108 r = M r := fun r q0 => by rw [← hM_108]; exact (up_row q0).trans (fr_107 r q0)
            refine WP.blk 2 ?_
            show (sT S m = 10 ∧ sR S m 0 ≠ 0) ∧ WP 1 146 157 [vR m, vI col, vI i, vI (7 + 9 * ((c i) / 2)), vI 0] [vR (sR S m 0)] (M_108, S) Q
            refine ⟨⟨hS.1.1, by rw [hS.1.2.1]; omega⟩, ?_⟩
            rw [hS.1.2.1]
            refine WP.blk 6 ?_
            show ((sT S (m + 1) = 11 ∨ sT S (m + 1) = 16 ∨ sT S (m + 1) = 17) ∧ 0 ≤ 4 ∧ 4 < (sN S (m + 1) : Int)) ∧ ir ((M_108 (m + 1) 4) + 1) ∧ (sT S (m + 1) = 11 ∧ 0 ≤ 4 ∧ 4 < (sN S (m + 1) : Int)) ∧ WP 1 146 163 [vR m, vI col, vI i, vI (7 + 9 * ((c i) / 2)), vI 0] [] (up M_108 (m + 1) 4 ((M_108 (m + 1) 4) + 1), S) Q
            rw [r_109]
            refine ⟨⟨Or.inl hS.2.1.1, by omega, by rw [hS.2.2.1]; omega⟩, (by unfold ir; omega), ⟨hS.2.1.1, by omega, by rw [hS.2.2.1]; omega⟩, ?_⟩
            generalize hM_121 : up M_108 (m + 1) 4 ((g_110 4) + 1) = M_121
            obtain ⟨g_123, hg_123⟩ : ∃ y9, y9 = uf g_110 4 ((g_110 4) + 1) := ⟨_, rfl⟩
            have r_122 : M_121 (m + 1) = g_123 := by rw [← hM_121, hg_123, up_self, r_109]
            have t_124 : g_123 3 = g_110 3 := by rw [hg_123]; exact uf_ne (by omega)
            have t_125 : g_123 4 = (g_110 4) + 1 := by rw [hg_123]; exact uf_at _ _ (by omega)
            have t_126 : g_123 5 = g_110 5 := by rw [hg_123]; exact uf_ne (by omega)
            have t_127 : g_123 6 = g_110 6 := by rw [hg_123]; exact uf_ne (by omega)
            have t_128 : g_123 (7 + 9 * (c i / 2) + 6) = g_110 (7 + 9 * (c i / 2) + 6) := by rw [hg_123]; exact uf_ne (by omega)
            have t_129 : g_123 (7 + 9 * (c i / 2) + 7) = g_110 (7 + 9 * (c i / 2) + 7) := by rw [hg_123]; exact uf_ne (by omega)
            have t_130 : g_123 (7 + 9 * (c i / 2) + 8) = g_110 (7 + 9 * (c i / 2) + 8) := by rw [hg_123]; exact uf_ne (by omega)
            have r_131 : M_121 m = o := by rw [← hM_121]; exact (up_row (by omega)).trans r_118
            have r_132 : M_121 (m + 7) = c := by rw [← hM_121]; exact (up_row (by omega)).trans r_119
            have fr_133 : ∀ r, r ≠ m + 1 → M_121 r = M r := fun r q0 => by rw [← hM_121]; exact (up_row q0).trans (fr_120 r q0)
            refine WP.blk 2 ?_
            show ir (i + 1) ∧ WP 1 146 2 [vR m, vI col, vI (i + 1), vI (7 + 9 * ((c i) / 2)), vI 0] [] (M_121, S) Q
            refine ⟨(by unfold ir; omega), ?_⟩
            exact ih_2 (i + 1) (vI (7 + 9 * ((c i) / 2))) (vI 0) M_121 g_123 (by omega) (by rw [car_s (by omega), ← h1]; exact prs1_eq (by omega) (by omega) (by split <;> omega) (by omega) (by omega) (by split <;> omega) (by split <;> omega) (fun k q1 q2 q3 q4 q5 q6 => by rw [hg_123, uf_ne (by omega), hg_110, uf_ne (by omega), hg_97, uf_ne (by omega), hg_84, uf_ne (by omega), hg_71, uf_ne (by omega), hg_58, uf_ne (by omega), hg_45, uf_ne (by omega)])) r_122 r_131 r_132 fr_133 (by omega)
        · refine WP.blk 7 ?_
          show (sT S m = 10 ∧ sR S m 0 ≠ 0) ∧ WP 1 146 63 [vR m, vI col, vI i, vI (7 + 9 * ((c i) / 2)), vI 1] [vR (sR S m 0)] (M1, S) Q
          refine ⟨⟨hS.1.1, by rw [hS.1.2.1]; omega⟩, ?_⟩
          rw [hS.1.2.1]
          refine WP.blk 6 ?_
          show ((sT S (m + 1) = 11 ∨ sT S (m + 1) = 16 ∨ sT S (m + 1) = 17) ∧ 0 ≤ 5 ∧ 5 < (sN S (m + 1) : Int)) ∧ ir ((M1 (m + 1) 5) + 1) ∧ (sT S (m + 1) = 11 ∧ 0 ≤ 5 ∧ 5 < (sN S (m + 1) : Int)) ∧ WP 1 146 69 [vR m, vI col, vI i, vI (7 + 9 * ((c i) / 2)), vI 1] [] (up M1 (m + 1) 5 ((M1 (m + 1) 5) + 1), S) Q
          rw [z_2_0]
          refine ⟨⟨Or.inl hS.2.1.1, by omega, by rw [hS.2.2.1]; omega⟩, (by unfold ir; omega), ⟨hS.2.1.1, by omega, by rw [hS.2.2.1]; omega⟩, ?_⟩
          generalize hM_134 : up M1 (m + 1) 5 ((g 5) + 1) = M_134
          obtain ⟨g_136, hg_136⟩ : ∃ y9, y9 = uf g 5 ((g 5) + 1) := ⟨_, rfl⟩
          have r_135 : M_134 (m + 1) = g_136 := by rw [← hM_134, hg_136, up_self, z_2_0]
          have t_137 : g_136 3 = g 3 := by rw [hg_136]; exact uf_ne (by omega)
          have t_138 : g_136 4 = g 4 := by rw [hg_136]; exact uf_ne (by omega)
          have t_139 : g_136 5 = (g 5) + 1 := by rw [hg_136]; exact uf_at _ _ (by omega)
          have t_140 : g_136 6 = g 6 := by rw [hg_136]; exact uf_ne (by omega)
          have t_141 : g_136 (7 + 9 * (c i / 2) + 6) = g (7 + 9 * (c i / 2) + 6) := by rw [hg_136]; exact uf_ne (by omega)
          have t_142 : g_136 (7 + 9 * (c i / 2) + 7) = g (7 + 9 * (c i / 2) + 7) := by rw [hg_136]; exact uf_ne (by omega)
          have t_143 : g_136 (7 + 9 * (c i / 2) + 8) = g (7 + 9 * (c i / 2) + 8) := by rw [hg_136]; exact uf_ne (by omega)
          have r_144 : M_134 m = o := by rw [← hM_134]; exact (up_row (by omega)).trans z_2_1
          have r_145 : M_134 (m + 7) = c := by rw [← hM_134]; exact (up_row (by omega)).trans z_2_2
          have fr_146 : ∀ r, r ≠ m + 1 → M_134 r = M r := fun r q0 => by rw [← hM_134]; exact (up_row q0).trans (fr_2 r q0)
          refine WP.blk 2 ?_
          show (sT S m = 10 ∧ sR S m 0 ≠ 0) ∧ WP 1 146 73 [vR m, vI col, vI i, vI (7 + 9 * ((c i) / 2)), vI 1] [vR (sR S m 0)] (M_134, S) Q
          refine ⟨⟨hS.1.1, by rw [hS.1.2.1]; omega⟩, ?_⟩
          rw [hS.1.2.1]
          refine WP.blk 7 ?_
          show ((sT S (m + 1) = 11 ∨ sT S (m + 1) = 16 ∨ sT S (m + 1) = 17) ∧ 0 ≤ 6 ∧ 6 < (sN S (m + 1) : Int)) ∧ (sT S m = 10 ∧ sR S m 0 ≠ 0) ∧ WP 1 146 86 [vR m, vI col, vI i, vI (7 + 9 * ((c i) / 2)), vI 1] [vR (sR S m 0), vI (M_134 (m + 1) 6), vI 6, vR (m + 1)] (M_134, S) Q
          rw [r_135]
          refine ⟨⟨Or.inl hS.2.1.1, by omega, by rw [hS.2.2.1]; omega⟩, ⟨hS.1.1, by rw [hS.1.2.1]; omega⟩, ?_⟩
          rw [hS.1.2.1]
          refine WP.blk 6 ?_
          show ir ((7 + 9 * ((c i) / 2)) + 6) ∧ ((sT S (m + 1) = 11 ∨ sT S (m + 1) = 16 ∨ sT S (m + 1) = 17) ∧ 0 ≤ ((7 + 9 * ((c i) / 2)) + 6) ∧ ((7 + 9 * ((c i) / 2)) + 6) < (sN S (m + 1) : Int)) ∧ WP 1 146 (if cnd .eq (M_134 (m + 1) ((7 + 9 * ((c i) / 2)) + 6)) (-1) = true then 99 else 95) [vR m, vI col, vI i, vI (7 + 9 * ((c i) / 2)), vI 1] [vI (g_136 6), vI 6, vR (m + 1)] (M_134, S) Q
          rw [r_135]
          refine ⟨(by unfold ir; omega), ⟨Or.inl hS.2.1.1, by omega, by rw [hS.2.2.1]; omega⟩, ?_⟩
          refine br_eq (fun c_147 => ?_) (fun c_147 => ?_)
          · refine WP.blk 3 ?_
            show ir ((g_136 6) + 0) ∧ (sT S (m + 1) = 11 ∧ 0 ≤ 6 ∧ 6 < (sN S (m + 1) : Int)) ∧ WP 1 146 102 [vR m, vI col, vI i, vI (7 + 9 * ((c i) / 2)), vI 1] [] (up M_134 (m + 1) 6 ((g_136 6) + 0), S) Q
            refine ⟨(by unfold ir; omega), ⟨hS.2.1.1, by omega, by rw [hS.2.2.1]; omega⟩, ?_⟩
            generalize hM_148 : up M_134 (m + 1) 6 ((g_136 6) + 0) = M_148
            obtain ⟨g_150, hg_150⟩ : ∃ y9, y9 = uf g_136 6 ((g_136 6) + 0) := ⟨_, rfl⟩
            have r_149 : M_148 (m + 1) = g_150 := by rw [← hM_148, hg_150, up_self, r_135]
            have t_151 : g_150 3 = g_136 3 := by rw [hg_150]; exact uf_ne (by omega)
            have t_152 : g_150 4 = g_136 4 := by rw [hg_150]; exact uf_ne (by omega)
            have t_153 : g_150 5 = g_136 5 := by rw [hg_150]; exact uf_ne (by omega)
            have t_154 : g_150 6 = (g_136 6) + 0 := by rw [hg_150]; exact uf_at _ _ (by omega)
            have t_155 : g_150 (7 + 9 * (c i / 2) + 6) = g_136 (7 + 9 * (c i / 2) + 6) := by rw [hg_150]; exact uf_ne (by omega)
            have t_156 : g_150 (7 + 9 * (c i / 2) + 7) = g_136 (7 + 9 * (c i / 2) + 7) := by rw [hg_150]; exact uf_ne (by omega)
            have t_157 : g_150 (7 + 9 * (c i / 2) + 8) = g_136 (7 + 9 * (c i / 2) + 8) := by rw [hg_150]; exact uf_ne (by omega)
            have r_158 : M_148 m = o := by rw [← hM_148]; exact (up_row (by omega)).trans r_144
            have r_159 : M_148 (m + 7) = c := by rw [← hM_148]; exact (up_row (by omega)).trans r_145
            have fr_160 : ∀ r, r ≠ m + 1 → M_148 r = M r := fun r q0 => by rw [← hM_148]; exact (up_row q0).trans (fr_146 r q0)
            refine WP.blk 2 ?_
            show (sT S m = 10 ∧ sR S m 0 ≠ 0) ∧ WP 1 146 106 [vR m, vI col, vI i, vI (7 + 9 * ((c i) / 2)), vI 1] [vR (sR S m 0)] (M_148, S) Q
            refine ⟨⟨hS.1.1, by rw [hS.1.2.1]; omega⟩, ?_⟩
            rw [hS.1.2.1]
            refine WP.blk 5 ?_
            show ir ((7 + 9 * ((c i) / 2)) + 6) ∧ (sT S (m + 1) = 11 ∧ 0 ≤ ((7 + 9 * ((c i) / 2)) + 6) ∧ ((7 + 9 * ((c i) / 2)) + 6) < (sN S (m + 1) : Int)) ∧ WP 1 146 112 [vR m, vI col, vI i, vI (7 + 9 * ((c i) / 2)), vI 1] [] (up M_148 (m + 1) ((7 + 9 * ((c i) / 2)) + 6) col, S) Q
            refine ⟨(by unfold ir; omega), ⟨hS.2.1.1, by omega, by rw [hS.2.2.1]; omega⟩, ?_⟩
            generalize hM_161 : up M_148 (m + 1) ((7 + 9 * ((c i) / 2)) + 6) col = M_161
            obtain ⟨g_163, hg_163⟩ : ∃ y9, y9 = uf g_150 ((7 + 9 * ((c i) / 2)) + 6) col := ⟨_, rfl⟩
            have r_162 : M_161 (m + 1) = g_163 := by rw [← hM_161, hg_163, up_self, r_149]
            have t_164 : g_163 3 = g_150 3 := by rw [hg_163]; exact uf_ne (by omega)
            have t_165 : g_163 4 = g_150 4 := by rw [hg_163]; exact uf_ne (by omega)
            have t_166 : g_163 5 = g_150 5 := by rw [hg_163]; exact uf_ne (by omega)
            have t_167 : g_163 6 = g_150 6 := by rw [hg_163]; exact uf_ne (by omega)
            have t_168 : g_163 (7 + 9 * (c i / 2) + 6) = col := by rw [hg_163]; exact uf_at _ _ (by omega)
            have t_169 : g_163 (7 + 9 * (c i / 2) + 7) = g_150 (7 + 9 * (c i / 2) + 7) := by rw [hg_163]; exact uf_ne (by omega)
            have t_170 : g_163 (7 + 9 * (c i / 2) + 8) = g_150 (7 + 9 * (c i / 2) + 8) := by rw [hg_163]; exact uf_ne (by omega)
            have r_171 : M_161 m = o := by rw [← hM_161]; exact (up_row (by omega)).trans r_158
            have r_172 : M_161 (m + 7) = c := by rw [← hM_161]; exact (up_row (by omega)).trans r_159
            have fr_173 : ∀ r, r ≠ m + 1 → M_161 r = M r := fun r q0 => by rw [← hM_161]; exact (up_row q0).trans (fr_160 r q0)
            refine WP.blk 2 ?_
            show (sT S m = 10 ∧ sR S m 0 ≠ 0) ∧ WP 1 146 116 [vR m, vI col, vI i, vI (7 + 9 * ((c i) / 2)), vI 1] [vR (sR S m 0)] (M_161, S) Q
            refine ⟨⟨hS.1.1, by rw [hS.1.2.1]; omega⟩, ?_⟩
            rw [hS.1.2.1]
            refine WP.blk 5 ?_
            show ir ((7 + 9 * ((c i) / 2)) + 7) ∧ (sT S m = 10 ∧ sR S m 0 ≠ 0) ∧ WP 1 146 124 [vR m, vI col, vI i, vI (7 + 9 * ((c i) / 2)), vI 1] [vR (sR S m 0), vI ((7 + 9 * ((c i) / 2)) + 7), vR (m + 1)] (M_161, S) Q
            refine ⟨(by unfold ir; omega), ⟨hS.1.1, by rw [hS.1.2.1]; omega⟩, ?_⟩
            rw [hS.1.2.1]
            refine WP.blk 3 ?_
            show ((sT S (m + 1) = 11 ∨ sT S (m + 1) = 16 ∨ sT S (m + 1) = 17) ∧ 0 ≤ 3 ∧ 3 < (sN S (m + 1) : Int)) ∧ (sT S (m + 1) = 11 ∧ 0 ≤ ((7 + 9 * ((c i) / 2)) + 7) ∧ ((7 + 9 * ((c i) / 2)) + 7) < (sN S (m + 1) : Int)) ∧ WP 1 146 127 [vR m, vI col, vI i, vI (7 + 9 * ((c i) / 2)), vI 1] [] (up M_161 (m + 1) ((7 + 9 * ((c i) / 2)) + 7) (M_161 (m + 1) 3), S) Q
            rw [r_162]
            refine ⟨⟨Or.inl hS.2.1.1, by omega, by rw [hS.2.2.1]; omega⟩, ⟨hS.2.1.1, by omega, by rw [hS.2.2.1]; omega⟩, ?_⟩
            generalize hM_174 : up M_161 (m + 1) ((7 + 9 * ((c i) / 2)) + 7) (g_163 3) = M_174
            obtain ⟨g_176, hg_176⟩ : ∃ y9, y9 = uf g_163 ((7 + 9 * ((c i) / 2)) + 7) (g_163 3) := ⟨_, rfl⟩
            have r_175 : M_174 (m + 1) = g_176 := by rw [← hM_174, hg_176, up_self, r_162]
            have t_177 : g_176 3 = g_163 3 := by rw [hg_176]; exact uf_ne (by omega)
            have t_178 : g_176 4 = g_163 4 := by rw [hg_176]; exact uf_ne (by omega)
            have t_179 : g_176 5 = g_163 5 := by rw [hg_176]; exact uf_ne (by omega)
            have t_180 : g_176 6 = g_163 6 := by rw [hg_176]; exact uf_ne (by omega)
            have t_181 : g_176 (7 + 9 * (c i / 2) + 6) = g_163 (7 + 9 * (c i / 2) + 6) := by rw [hg_176]; exact uf_ne (by omega)
            have t_182 : g_176 (7 + 9 * (c i / 2) + 7) = g_163 3 := by rw [hg_176]; exact uf_at _ _ (by omega)
            have t_183 : g_176 (7 + 9 * (c i / 2) + 8) = g_163 (7 + 9 * (c i / 2) + 8) := by rw [hg_176]; exact uf_ne (by omega)
            have r_184 : M_174 m = o := by rw [← hM_174]; exact (up_row (by omega)).trans r_171
            have r_185 : M_174 (m + 7) = c := by rw [← hM_174]; exact (up_row (by omega)).trans r_172
            have fr_186 : ∀ r, r ≠ m + 1 → M_174 r = M r := fun r q0 => by rw [← hM_174]; exact (up_row q0).trans (fr_173 r q0)
            refine WP.blk 2 ?_
            show (sT S m = 10 ∧ sR S m 0 ≠ 0) ∧ WP 1 146 131 [vR m, vI col, vI i, vI (7 + 9 * ((c i) / 2)), vI 1] [vR (sR S m 0)] (M_174, S) Q
            refine ⟨⟨hS.1.1, by rw [hS.1.2.1]; omega⟩, ?_⟩
            rw [hS.1.2.1]
            refine WP.blk 8 ?_
            show ir ((7 + 9 * ((c i) / 2)) + 7) ∧ ((sT S (m + 1) = 11 ∨ sT S (m + 1) = 16 ∨ sT S (m + 1) = 17) ∧ 0 ≤ ((7 + 9 * ((c i) / 2)) + 7) ∧ ((7 + 9 * ((c i) / 2)) + 7) < (sN S (m + 1) : Int)) ∧ ir ((M_174 (m + 1) ((7 + 9 * ((c i) / 2)) + 7)) - 1) ∧ (sT S (m + 1) = 11 ∧ 0 ≤ ((7 + 9 * ((c i) / 2)) + 7) ∧ ((7 + 9 * ((c i) / 2)) + 7) < (sN S (m + 1) : Int)) ∧ WP 1 146 140 [vR m, vI col, vI i, vI (7 + 9 * ((c i) / 2)), vI 1] [] (up M_174 (m + 1) ((7 + 9 * ((c i) / 2)) + 7) ((M_174 (m + 1) ((7 + 9 * ((c i) / 2)) + 7)) - 1), S) Q
            rw [r_175]
            refine ⟨(by unfold ir; omega), ⟨Or.inl hS.2.1.1, by omega, by rw [hS.2.2.1]; omega⟩, (by unfold ir; omega), ⟨hS.2.1.1, by omega, by rw [hS.2.2.1]; omega⟩, ?_⟩
            generalize hM_187 : up M_174 (m + 1) ((7 + 9 * ((c i) / 2)) + 7) ((g_176 ((7 + 9 * ((c i) / 2)) + 7)) - 1) = M_187
            obtain ⟨g_189, hg_189⟩ : ∃ y9, y9 = uf g_176 ((7 + 9 * ((c i) / 2)) + 7) ((g_176 ((7 + 9 * ((c i) / 2)) + 7)) - 1) := ⟨_, rfl⟩
            have r_188 : M_187 (m + 1) = g_189 := by rw [← hM_187, hg_189, up_self, r_175]
            have t_190 : g_189 3 = g_176 3 := by rw [hg_189]; exact uf_ne (by omega)
            have t_191 : g_189 4 = g_176 4 := by rw [hg_189]; exact uf_ne (by omega)
            have t_192 : g_189 5 = g_176 5 := by rw [hg_189]; exact uf_ne (by omega)
            have t_193 : g_189 6 = g_176 6 := by rw [hg_189]; exact uf_ne (by omega)
            have t_194 : g_189 (7 + 9 * (c i / 2) + 6) = g_176 (7 + 9 * (c i / 2) + 6) := by rw [hg_189]; exact uf_ne (by omega)
            have t_195 : g_189 (7 + 9 * (c i / 2) + 7) = (g_176 ((7 + 9 * ((c i) / 2)) + 7)) - 1 := by rw [hg_189]; exact uf_at _ _ (by omega)
            have t_196 : g_189 (7 + 9 * (c i / 2) + 8) = g_176 (7 + 9 * (c i / 2) + 8) := by rw [hg_189]; exact uf_ne (by omega)
            have r_197 : M_187 m = o := by rw [← hM_187]; exact (up_row (by omega)).trans r_184
            have r_198 : M_187 (m + 7) = c := by rw [← hM_187]; exact (up_row (by omega)).trans r_185
            have fr_199 : ∀ r, r ≠ m + 1 → M_187 r = M r := fun r q0 => by rw [← hM_187]; exact (up_row q0).trans (fr_186 r q0)
            refine WP.blk 2 ?_
            show (sT S m = 10 ∧ sR S m 0 ≠ 0) ∧ WP 1 146 144 [vR m, vI col, vI i, vI (7 + 9 * ((c i) / 2)), vI 1] [vR (sR S m 0)] (M_187, S) Q
            refine ⟨⟨hS.1.1, by rw [hS.1.2.1]; omega⟩, ?_⟩
            rw [hS.1.2.1]
            refine WP.blk 8 ?_
            show ir ((7 + 9 * ((c i) / 2)) + 8) ∧ ((sT S (m + 1) = 11 ∨ sT S (m + 1) = 16 ∨ sT S (m + 1) = 17) ∧ 0 ≤ ((7 + 9 * ((c i) / 2)) + 8) ∧ ((7 + 9 * ((c i) / 2)) + 8) < (sN S (m + 1) : Int)) ∧ ir ((M_187 (m + 1) ((7 + 9 * ((c i) / 2)) + 8)) + 1) ∧ (sT S (m + 1) = 11 ∧ 0 ≤ ((7 + 9 * ((c i) / 2)) + 8) ∧ ((7 + 9 * ((c i) / 2)) + 8) < (sN S (m + 1) : Int)) ∧ WP 1 146 153 [vR m, vI col, vI i, vI (7 + 9 * ((c i) / 2)), vI 1] [] (up M_187 (m + 1) ((7 + 9 * ((c i) / 2)) + 8) ((M_187 (m + 1) ((7 + 9 * ((c i) / 2)) + 8)) + 1), S) Q
            rw [r_188]
            refine ⟨(by unfold ir; omega), ⟨Or.inl hS.2.1.1, by omega, by rw [hS.2.2.1]; omega⟩, (by unfold ir; omega), ⟨hS.2.1.1, by omega, by rw [hS.2.2.1]; omega⟩, ?_⟩
            generalize hM_200 : up M_187 (m + 1) ((7 + 9 * ((c i) / 2)) + 8) ((g_189 ((7 + 9 * ((c i) / 2)) + 8)) + 1) = M_200
            obtain ⟨g_202, hg_202⟩ : ∃ y9, y9 = uf g_189 ((7 + 9 * ((c i) / 2)) + 8) ((g_189 ((7 + 9 * ((c i) / 2)) + 8)) + 1) := ⟨_, rfl⟩
            have r_201 : M_200 (m + 1) = g_202 := by rw [← hM_200, hg_202, up_self, r_188]
            have t_203 : g_202 3 = g_189 3 := by rw [hg_202]; exact uf_ne (by omega)
            have t_204 : g_202 4 = g_189 4 := by rw [hg_202]; exact uf_ne (by omega)
            have t_205 : g_202 5 = g_189 5 := by rw [hg_202]; exact uf_ne (by omega)
            have t_206 : g_202 6 = g_189 6 := by rw [hg_202]; exact uf_ne (by omega)
            have t_207 : g_202 (7 + 9 * (c i / 2) + 6) = g_189 (7 + 9 * (c i / 2) + 6) := by rw [hg_202]; exact uf_ne (by omega)
            have t_208 : g_202 (7 + 9 * (c i / 2) + 7) = g_189 (7 + 9 * (c i / 2) + 7) := by rw [hg_202]; exact uf_ne (by omega)
            have t_209 : g_202 (7 + 9 * (c i / 2) + 8) = (g_189 ((7 + 9 * ((c i) / 2)) + 8)) + 1 := by rw [hg_202]; exact uf_at _ _ (by omega)
            have r_210 : M_200 m = o := by rw [← hM_200]; exact (up_row (by omega)).trans r_197
            have r_211 : M_200 (m + 7) = c := by rw [← hM_200]; exact (up_row (by omega)).trans r_198
            have fr_212 : ∀ r, r ≠ m + 1 → M_200 r = M r := fun r q0 => by rw [← hM_200]; exact (up_row q0).trans (fr_199 r q0)
            refine WP.blk 2 ?_
            show (sT S m = 10 ∧ sR S m 0 ≠ 0) ∧ WP 1 146 157 [vR m, vI col, vI i, vI (7 + 9 * ((c i) / 2)), vI 1] [vR (sR S m 0)] (M_200, S) Q
            refine ⟨⟨hS.1.1, by rw [hS.1.2.1]; omega⟩, ?_⟩
            rw [hS.1.2.1]
            refine WP.blk 6 ?_
            show ((sT S (m + 1) = 11 ∨ sT S (m + 1) = 16 ∨ sT S (m + 1) = 17) ∧ 0 ≤ 4 ∧ 4 < (sN S (m + 1) : Int)) ∧ ir ((M_200 (m + 1) 4) + 1) ∧ (sT S (m + 1) = 11 ∧ 0 ≤ 4 ∧ 4 < (sN S (m + 1) : Int)) ∧ WP 1 146 163 [vR m, vI col, vI i, vI (7 + 9 * ((c i) / 2)), vI 1] [] (up M_200 (m + 1) 4 ((M_200 (m + 1) 4) + 1), S) Q
            rw [r_201]
            refine ⟨⟨Or.inl hS.2.1.1, by omega, by rw [hS.2.2.1]; omega⟩, (by unfold ir; omega), ⟨hS.2.1.1, by omega, by rw [hS.2.2.1]; omega⟩, ?_⟩
            generalize hM_213 : up M_200 (m + 1) 4 ((g_202 4) + 1) = M_213
            obtain ⟨g_215, hg_215⟩ : ∃ y9, y9 = uf g_202 4 ((g_202 4) + 1) := ⟨_, rfl⟩
            have r_214 : M_213 (m + 1) = g_215 := by rw [← hM_213, hg_215, up_self, r_201]
            have t_216 : g_215 3 = g_202 3 := by rw [hg_215]; exact uf_ne (by omega)
            have t_217 : g_215 4 = (g_202 4) + 1 := by rw [hg_215]; exact uf_at _ _ (by omega)
            have t_218 : g_215 5 = g_202 5 := by rw [hg_215]; exact uf_ne (by omega)
            have t_219 : g_215 6 = g_202 6 := by rw [hg_215]; exact uf_ne (by omega)
            have t_220 : g_215 (7 + 9 * (c i / 2) + 6) = g_202 (7 + 9 * (c i / 2) + 6) := by rw [hg_215]; exact uf_ne (by omega)
            have t_221 : g_215 (7 + 9 * (c i / 2) + 7) = g_202 (7 + 9 * (c i / 2) + 7) := by rw [hg_215]; exact uf_ne (by omega)
            have t_222 : g_215 (7 + 9 * (c i / 2) + 8) = g_202 (7 + 9 * (c i / 2) + 8) := by rw [hg_215]; exact uf_ne (by omega)
            have r_223 : M_213 m = o := by rw [← hM_213]; exact (up_row (by omega)).trans r_210
            have r_224 : M_213 (m + 7) = c := by rw [← hM_213]; exact (up_row (by omega)).trans r_211
            have fr_225 : ∀ r, r ≠ m + 1 → M_213 r = M r := fun r q0 => by rw [← hM_213]; exact (up_row q0).trans (fr_212 r q0)
            refine WP.blk 2 ?_
            show ir (i + 1) ∧ WP 1 146 2 [vR m, vI col, vI (i + 1), vI (7 + 9 * ((c i) / 2)), vI 1] [] (M_213, S) Q
            refine ⟨(by unfold ir; omega), ?_⟩
            exact ih_2 (i + 1) (vI (7 + 9 * ((c i) / 2))) (vI 1) M_213 g_215 (by omega) (by rw [car_s (by omega), ← h1]; exact prs1_eq (by omega) (by omega) (by split <;> omega) (by omega) (by omega) (by split <;> omega) (by split <;> omega) (fun k q1 q2 q3 q4 q5 q6 => by rw [hg_215, uf_ne (by omega), hg_202, uf_ne (by omega), hg_189, uf_ne (by omega), hg_176, uf_ne (by omega), hg_163, uf_ne (by omega), hg_150, uf_ne (by omega), hg_136, uf_ne (by omega)])) r_214 r_223 r_224 fr_225 (by omega)
          · refine WP.blk 4 ?_
            show ir ((g_136 6) + 1) ∧ (sT S (m + 1) = 11 ∧ 0 ≤ 6 ∧ 6 < (sN S (m + 1) : Int)) ∧ WP 1 146 102 [vR m, vI col, vI i, vI (7 + 9 * ((c i) / 2)), vI 1] [] (up M_134 (m + 1) 6 ((g_136 6) + 1), S) Q
            refine ⟨(by unfold ir; omega), ⟨hS.2.1.1, by omega, by rw [hS.2.2.1]; omega⟩, ?_⟩
            generalize hM_226 : up M_134 (m + 1) 6 ((g_136 6) + 1) = M_226
            obtain ⟨g_228, hg_228⟩ : ∃ y9, y9 = uf g_136 6 ((g_136 6) + 1) := ⟨_, rfl⟩
            have r_227 : M_226 (m + 1) = g_228 := by rw [← hM_226, hg_228, up_self, r_135]
            have t_229 : g_228 3 = g_136 3 := by rw [hg_228]; exact uf_ne (by omega)
            have t_230 : g_228 4 = g_136 4 := by rw [hg_228]; exact uf_ne (by omega)
            have t_231 : g_228 5 = g_136 5 := by rw [hg_228]; exact uf_ne (by omega)
            have t_232 : g_228 6 = (g_136 6) + 1 := by rw [hg_228]; exact uf_at _ _ (by omega)
            have t_233 : g_228 (7 + 9 * (c i / 2) + 6) = g_136 (7 + 9 * (c i / 2) + 6) := by rw [hg_228]; exact uf_ne (by omega)
            have t_234 : g_228 (7 + 9 * (c i / 2) + 7) = g_136 (7 + 9 * (c i / 2) + 7) := by rw [hg_228]; exact uf_ne (by omega)
            have t_235 : g_228 (7 + 9 * (c i / 2) + 8) = g_136 (7 + 9 * (c i / 2) + 8) := by rw [hg_228]; exact uf_ne (by omega)
            have r_236 : M_226 m = o := by rw [← hM_226]; exact (up_row (by omega)).trans r_144
            have r_237 : M_226 (m + 7) = c := by rw [← hM_226]; exact (up_row (by omega)).trans r_145
            have fr_238 : ∀ r, r ≠ m + 1 → M_226 r = M r := fun r q0 => by rw [← hM_226]; exact (up_row q0).trans (fr_146 r q0)
            refine WP.blk 2 ?_
            show (sT S m = 10 ∧ sR S m 0 ≠ 0) ∧ WP 1 146 106 [vR m, vI col, vI i, vI (7 + 9 * ((c i) / 2)), vI 1] [vR (sR S m 0)] (M_226, S) Q
            refine ⟨⟨hS.1.1, by rw [hS.1.2.1]; omega⟩, ?_⟩
            rw [hS.1.2.1]
            refine WP.blk 5 ?_
            show ir ((7 + 9 * ((c i) / 2)) + 6) ∧ (sT S (m + 1) = 11 ∧ 0 ≤ ((7 + 9 * ((c i) / 2)) + 6) ∧ ((7 + 9 * ((c i) / 2)) + 6) < (sN S (m + 1) : Int)) ∧ WP 1 146 112 [vR m, vI col, vI i, vI (7 + 9 * ((c i) / 2)), vI 1] [] (up M_226 (m + 1) ((7 + 9 * ((c i) / 2)) + 6) col, S) Q
            refine ⟨(by unfold ir; omega), ⟨hS.2.1.1, by omega, by rw [hS.2.2.1]; omega⟩, ?_⟩
            generalize hM_239 : up M_226 (m + 1) ((7 + 9 * ((c i) / 2)) + 6) col = M_239
            obtain ⟨g_241, hg_241⟩ : ∃ y9, y9 = uf g_228 ((7 + 9 * ((c i) / 2)) + 6) col := ⟨_, rfl⟩
            have r_240 : M_239 (m + 1) = g_241 := by rw [← hM_239, hg_241, up_self, r_227]
            have t_242 : g_241 3 = g_228 3 := by rw [hg_241]; exact uf_ne (by omega)
            have t_243 : g_241 4 = g_228 4 := by rw [hg_241]; exact uf_ne (by omega)
            have t_244 : g_241 5 = g_228 5 := by rw [hg_241]; exact uf_ne (by omega)
            have t_245 : g_241 6 = g_228 6 := by rw [hg_241]; exact uf_ne (by omega)
            have t_246 : g_241 (7 + 9 * (c i / 2) + 6) = col := by rw [hg_241]; exact uf_at _ _ (by omega)
            have t_247 : g_241 (7 + 9 * (c i / 2) + 7) = g_228 (7 + 9 * (c i / 2) + 7) := by rw [hg_241]; exact uf_ne (by omega)
            have t_248 : g_241 (7 + 9 * (c i / 2) + 8) = g_228 (7 + 9 * (c i / 2) + 8) := by rw [hg_241]; exact uf_ne (by omega)
            have r_249 : M_239 m = o := by rw [← hM_239]; exact (up_row (by omega)).trans r_236
            have r_250 : M_239 (m + 7) = c := by rw [← hM_239]; exact (up_row (by omega)).trans r_237
            have fr_251 : ∀ r, r ≠ m + 1 → M_239 r = M r := fun r q0 => by rw [← hM_239]; exact (up_row q0).trans (fr_238 r q0)
            refine WP.blk 2 ?_
            show (sT S m = 10 ∧ sR S m 0 ≠ 0) ∧ WP 1 146 116 [vR m, vI col, vI i, vI (7 + 9 * ((c i) / 2)), vI 1] [vR (sR S m 0)] (M_239, S) Q
            refine ⟨⟨hS.1.1, by rw [hS.1.2.1]; omega⟩, ?_⟩
            rw [hS.1.2.1]
            refine WP.blk 5 ?_
            show ir ((7 + 9 * ((c i) / 2)) + 7) ∧ (sT S m = 10 ∧ sR S m 0 ≠ 0) ∧ WP 1 146 124 [vR m, vI col, vI i, vI (7 + 9 * ((c i) / 2)), vI 1] [vR (sR S m 0), vI ((7 + 9 * ((c i) / 2)) + 7), vR (m + 1)] (M_239, S) Q
            refine ⟨(by unfold ir; omega), ⟨hS.1.1, by rw [hS.1.2.1]; omega⟩, ?_⟩
            rw [hS.1.2.1]
            refine WP.blk 3 ?_
            show ((sT S (m + 1) = 11 ∨ sT S (m + 1) = 16 ∨ sT S (m + 1) = 17) ∧ 0 ≤ 3 ∧ 3 < (sN S (m + 1) : Int)) ∧ (sT S (m + 1) = 11 ∧ 0 ≤ ((7 + 9 * ((c i) / 2)) + 7) ∧ ((7 + 9 * ((c i) / 2)) + 7) < (sN S (m + 1) : Int)) ∧ WP 1 146 127 [vR m, vI col, vI i, vI (7 + 9 * ((c i) / 2)), vI 1] [] (up M_239 (m + 1) ((7 + 9 * ((c i) / 2)) + 7) (M_239 (m + 1) 3), S) Q
            rw [r_240]
            refine ⟨⟨Or.inl hS.2.1.1, by omega, by rw [hS.2.2.1]; omega⟩, ⟨hS.2.1.1, by omega, by rw [hS.2.2.1]; omega⟩, ?_⟩
            generalize hM_252 : up M_239 (m + 1) ((7 + 9 * ((c i) / 2)) + 7) (g_241 3) = M_252
            obtain ⟨g_254, hg_254⟩ : ∃ y9, y9 = uf g_241 ((7 + 9 * ((c i) / 2)) + 7) (g_241 3) := ⟨_, rfl⟩
            have r_253 : M_252 (m + 1) = g_254 := by rw [← hM_252, hg_254, up_self, r_240]
            have t_255 : g_254 3 = g_241 3 := by rw [hg_254]; exact uf_ne (by omega)
            have t_256 : g_254 4 = g_241 4 := by rw [hg_254]; exact uf_ne (by omega)
            have t_257 : g_254 5 = g_241 5 := by rw [hg_254]; exact uf_ne (by omega)
            have t_258 : g_254 6 = g_241 6 := by rw [hg_254]; exact uf_ne (by omega)
            have t_259 : g_254 (7 + 9 * (c i / 2) + 6) = g_241 (7 + 9 * (c i / 2) + 6) := by rw [hg_254]; exact uf_ne (by omega)
            have t_260 : g_254 (7 + 9 * (c i / 2) + 7) = g_241 3 := by rw [hg_254]; exact uf_at _ _ (by omega)
            have t_261 : g_254 (7 + 9 * (c i / 2) + 8) = g_241 (7 + 9 * (c i / 2) + 8) := by rw [hg_254]; exact uf_ne (by omega)
            have r_262 : M_252 m = o := by rw [← hM_252]; exact (up_row (by omega)).trans r_249
            have r_263 : M_252 (m + 7) = c := by rw [← hM_252]; exact (up_row (by omega)).trans r_250
            have fr_264 : ∀ r, r ≠ m + 1 → M_252 r = M r := fun r q0 => by rw [← hM_252]; exact (up_row q0).trans (fr_251 r q0)
            refine WP.blk 2 ?_
            show (sT S m = 10 ∧ sR S m 0 ≠ 0) ∧ WP 1 146 131 [vR m, vI col, vI i, vI (7 + 9 * ((c i) / 2)), vI 1] [vR (sR S m 0)] (M_252, S) Q
            refine ⟨⟨hS.1.1, by rw [hS.1.2.1]; omega⟩, ?_⟩
            rw [hS.1.2.1]
            refine WP.blk 8 ?_
            show ir ((7 + 9 * ((c i) / 2)) + 7) ∧ ((sT S (m + 1) = 11 ∨ sT S (m + 1) = 16 ∨ sT S (m + 1) = 17) ∧ 0 ≤ ((7 + 9 * ((c i) / 2)) + 7) ∧ ((7 + 9 * ((c i) / 2)) + 7) < (sN S (m + 1) : Int)) ∧ ir ((M_252 (m + 1) ((7 + 9 * ((c i) / 2)) + 7)) - 1) ∧ (sT S (m + 1) = 11 ∧ 0 ≤ ((7 + 9 * ((c i) / 2)) + 7) ∧ ((7 + 9 * ((c i) / 2)) + 7) < (sN S (m + 1) : Int)) ∧ WP 1 146 140 [vR m, vI col, vI i, vI (7 + 9 * ((c i) / 2)), vI 1] [] (up M_252 (m + 1) ((7 + 9 * ((c i) / 2)) + 7) ((M_252 (m + 1) ((7 + 9 * ((c i) / 2)) + 7)) - 1), S) Q
            rw [r_253]
            refine ⟨(by unfold ir; omega), ⟨Or.inl hS.2.1.1, by omega, by rw [hS.2.2.1]; omega⟩, (by unfold ir; omega), ⟨hS.2.1.1, by omega, by rw [hS.2.2.1]; omega⟩, ?_⟩
            generalize hM_265 : up M_252 (m + 1) ((7 + 9 * ((c i) / 2)) + 7) ((g_254 ((7 + 9 * ((c i) / 2)) + 7)) - 1) = M_265
            obtain ⟨g_267, hg_267⟩ : ∃ y9, y9 = uf g_254 ((7 + 9 * ((c i) / 2)) + 7) ((g_254 ((7 + 9 * ((c i) / 2)) + 7)) - 1) := ⟨_, rfl⟩
            have r_266 : M_265 (m + 1) = g_267 := by rw [← hM_265, hg_267, up_self, r_253]
            have t_268 : g_267 3 = g_254 3 := by rw [hg_267]; exact uf_ne (by omega)
            have t_269 : g_267 4 = g_254 4 := by rw [hg_267]; exact uf_ne (by omega)
            have t_270 : g_267 5 = g_254 5 := by rw [hg_267]; exact uf_ne (by omega)
            have t_271 : g_267 6 = g_254 6 := by rw [hg_267]; exact uf_ne (by omega)
            have t_272 : g_267 (7 + 9 * (c i / 2) + 6) = g_254 (7 + 9 * (c i / 2) + 6) := by rw [hg_267]; exact uf_ne (by omega)
            have t_273 : g_267 (7 + 9 * (c i / 2) + 7) = (g_254 ((7 + 9 * ((c i) / 2)) + 7)) - 1 := by rw [hg_267]; exact uf_at _ _ (by omega)
            have t_274 : g_267 (7 + 9 * (c i / 2) + 8) = g_254 (7 + 9 * (c i / 2) + 8) := by rw [hg_267]; exact uf_ne (by omega)
            have r_275 : M_265 m = o := by rw [← hM_265]; exact (up_row (by omega)).trans r_262
            have r_276 : M_265 (m + 7) = c := by rw [← hM_265]; exact (up_row (by omega)).trans r_263
            have fr_277 : ∀ r, r ≠ m + 1 → M_265 r = M r := fun r q0 => by rw [← hM_265]; exact (up_row q0).trans (fr_264 r q0)
            refine WP.blk 2 ?_
            show (sT S m = 10 ∧ sR S m 0 ≠ 0) ∧ WP 1 146 144 [vR m, vI col, vI i, vI (7 + 9 * ((c i) / 2)), vI 1] [vR (sR S m 0)] (M_265, S) Q
            refine ⟨⟨hS.1.1, by rw [hS.1.2.1]; omega⟩, ?_⟩
            rw [hS.1.2.1]
            refine WP.blk 8 ?_
            show ir ((7 + 9 * ((c i) / 2)) + 8) ∧ ((sT S (m + 1) = 11 ∨ sT S (m + 1) = 16 ∨ sT S (m + 1) = 17) ∧ 0 ≤ ((7 + 9 * ((c i) / 2)) + 8) ∧ ((7 + 9 * ((c i) / 2)) + 8) < (sN S (m + 1) : Int)) ∧ ir ((M_265 (m + 1) ((7 + 9 * ((c i) / 2)) + 8)) + 1) ∧ (sT S (m + 1) = 11 ∧ 0 ≤ ((7 + 9 * ((c i) / 2)) + 8) ∧ ((7 + 9 * ((c i) / 2)) + 8) < (sN S (m + 1) : Int)) ∧ WP 1 146 153 [vR m, vI col, vI i, vI (7 + 9 * ((c i) / 2)), vI 1] [] (up M_265 (m + 1) ((7 + 9 * ((c i) / 2)) + 8) ((M_265 (m + 1) ((7 + 9 * ((c i) / 2)) + 8)) + 1), S) Q
            rw [r_266]
            refine ⟨(by unfold ir; omega), ⟨Or.inl hS.2.1.1, by omega, by rw [hS.2.2.1]; omega⟩, (by unfold ir; omega), ⟨hS.2.1.1, by omega, by rw [hS.2.2.1]; omega⟩, ?_⟩
            generalize hM_278 : up M_265 (m + 1) ((7 + 9 * ((c i) / 2)) + 8) ((g_267 ((7 + 9 * ((c i) / 2)) + 8)) + 1) = M_278
            obtain ⟨g_280, hg_280⟩ : ∃ y9, y9 = uf g_267 ((7 + 9 * ((c i) / 2)) + 8) ((g_267 ((7 + 9 * ((c i) / 2)) + 8)) + 1) := ⟨_, rfl⟩
            have r_279 : M_278 (m + 1) = g_280 := by rw [← hM_278, hg_280, up_self, r_266]
            have t_281 : g_280 3 = g_267 3 := by rw [hg_280]; exact uf_ne (by omega)
            have t_282 : g_280 4 = g_267 4 := by rw [hg_280]; exact uf_ne (by omega)
            have t_283 : g_280 5 = g_267 5 := by rw [hg_280]; exact uf_ne (by omega)
            have t_284 : g_280 6 = g_267 6 := by rw [hg_280]; exact uf_ne (by omega)
            have t_285 : g_280 (7 + 9 * (c i / 2) + 6) = g_267 (7 + 9 * (c i / 2) + 6) := by rw [hg_280]; exact uf_ne (by omega)
            have t_286 : g_280 (7 + 9 * (c i / 2) + 7) = g_267 (7 + 9 * (c i / 2) + 7) := by rw [hg_280]; exact uf_ne (by omega)
            have t_287 : g_280 (7 + 9 * (c i / 2) + 8) = (g_267 ((7 + 9 * ((c i) / 2)) + 8)) + 1 := by rw [hg_280]; exact uf_at _ _ (by omega)
            have r_288 : M_278 m = o := by rw [← hM_278]; exact (up_row (by omega)).trans r_275
            have r_289 : M_278 (m + 7) = c := by rw [← hM_278]; exact (up_row (by omega)).trans r_276
            have fr_290 : ∀ r, r ≠ m + 1 → M_278 r = M r := fun r q0 => by rw [← hM_278]; exact (up_row q0).trans (fr_277 r q0)
            refine WP.blk 2 ?_
            show (sT S m = 10 ∧ sR S m 0 ≠ 0) ∧ WP 1 146 157 [vR m, vI col, vI i, vI (7 + 9 * ((c i) / 2)), vI 1] [vR (sR S m 0)] (M_278, S) Q
            refine ⟨⟨hS.1.1, by rw [hS.1.2.1]; omega⟩, ?_⟩
            rw [hS.1.2.1]
            refine WP.blk 6 ?_
            show ((sT S (m + 1) = 11 ∨ sT S (m + 1) = 16 ∨ sT S (m + 1) = 17) ∧ 0 ≤ 4 ∧ 4 < (sN S (m + 1) : Int)) ∧ ir ((M_278 (m + 1) 4) + 1) ∧ (sT S (m + 1) = 11 ∧ 0 ≤ 4 ∧ 4 < (sN S (m + 1) : Int)) ∧ WP 1 146 163 [vR m, vI col, vI i, vI (7 + 9 * ((c i) / 2)), vI 1] [] (up M_278 (m + 1) 4 ((M_278 (m + 1) 4) + 1), S) Q
            rw [r_279]
            refine ⟨⟨Or.inl hS.2.1.1, by omega, by rw [hS.2.2.1]; omega⟩, (by unfold ir; omega), ⟨hS.2.1.1, by omega, by rw [hS.2.2.1]; omega⟩, ?_⟩
            generalize hM_291 : up M_278 (m + 1) 4 ((g_280 4) + 1) = M_291
            obtain ⟨g_293, hg_293⟩ : ∃ y9, y9 = uf g_280 4 ((g_280 4) + 1) := ⟨_, rfl⟩
            have r_292 : M_291 (m + 1) = g_293 := by rw [← hM_291, hg_293, up_self, r_279]
            have t_294 : g_293 3 = g_280 3 := by rw [hg_293]; exact uf_ne (by omega)
            have t_295 : g_293 4 = (g_280 4) + 1 := by rw [hg_293]; exact uf_at _ _ (by omega)
            have t_296 : g_293 5 = g_280 5 := by rw [hg_293]; exact uf_ne (by omega)
            have t_297 : g_293 6 = g_280 6 := by rw [hg_293]; exact uf_ne (by omega)
            have t_298 : g_293 (7 + 9 * (c i / 2) + 6) = g_280 (7 + 9 * (c i / 2) + 6) := by rw [hg_293]; exact uf_ne (by omega)
            have t_299 : g_293 (7 + 9 * (c i / 2) + 7) = g_280 (7 + 9 * (c i / 2) + 7) := by rw [hg_293]; exact uf_ne (by omega)
            have t_300 : g_293 (7 + 9 * (c i / 2) + 8) = g_280 (7 + 9 * (c i / 2) + 8) := by rw [hg_293]; exact uf_ne (by omega)
            have r_301 : M_291 m = o := by rw [← hM_291]; exact (up_row (by omega)).trans r_288
            have r_302 : M_291 (m + 7) = c := by rw [← hM_291]; exact (up_row (by omega)).trans r_289
            have fr_303 : ∀ r, r ≠ m + 1 → M_291 r = M r := fun r q0 => by rw [← hM_291]; exact (up_row q0).trans (fr_290 r q0)
            refine WP.blk 2 ?_
            show ir (i + 1) ∧ WP 1 146 2 [vR m, vI col, vI (i + 1), vI (7 + 9 * ((c i) / 2)), vI 1] [] (M_291, S) Q
            refine ⟨(by unfold ir; omega), ?_⟩
            exact ih_2 (i + 1) (vI (7 + 9 * ((c i) / 2))) (vI 1) M_291 g_293 (by omega) (by rw [car_s (by omega), ← h1]; exact prs1_eq (by omega) (by omega) (by split <;> omega) (by omega) (by omega) (by split <;> omega) (by split <;> omega) (fun k q1 q2 q3 q4 q5 q6 => by rw [hg_293, uf_ne (by omega), hg_280, uf_ne (by omega), hg_267, uf_ne (by omega), hg_254, uf_ne (by omega), hg_241, uf_ne (by omega), hg_228, uf_ne (by omega), hg_136, uf_ne (by omega)])) r_292 r_301 r_302 fr_303 (by omega)
  exact hl_2 _ 0 (none) (none) M f (by omega) car_0.symm hf ho hc (fun _ _ => rfl) (Nat.lt_succ_self _)
