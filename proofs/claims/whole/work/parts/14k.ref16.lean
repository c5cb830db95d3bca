set_option maxHeartbeats 4000000 in
theorem r_needed {S : SD} {M : Nat → Int → Int} {m : Nat} {f : Int → Int} {o : Int → Int} {s B : Int} (hS : isMod S m) (hf : M (m + 1) = f) (ho : M m = o) (hR : RowOk B f) {Q : Res → Wd → Prop} (k : ∀ (v : Int) (M2 : Nat → Int → Int), (∀ r, r ≠ m → r ≠ m + 6 → M2 r = M r) → ∀ o2, M2 m = o2 → o2 4 = o 4 → o2 7 = o 7 → (o2 5 = 1 ∧ ¬ (0 ≤ s ∧ s < f 0)) ∨ (o2 5 = 0 ∧ (0 ≤ s ∧ s < f 0) ∧ v = num (NdW f s) (f 1)) → Q (0, vI v) (M2, S)) : EvQ 5 165 [vR m, vI s] (M, S) Q := by
  refine EvQ.enter (ls := [vR m, vI s, none, none]) (Nat.le_of_ble_eq_true rfl) rfl ?_
  have hA := hR.1
  have hA1 := hA.1
  have hWA := hR.2.1
  have hW1 := hWA.1
  have hI := hR.2.2
  have hI2 := hI.2.1
  have hI3 := hI.2.2.1
  obtain ⟨g0, hg0⟩ : ∃ g, M (m + 6) = g := ⟨_, rfl⟩
  refine WP.blk 3 ?_
  show WP 4 165 3 [vR m, vI s, none, none] [vI s, vR m, vR m] (M, S) Q
  refine WP.cl (a := [vR m, vI s]) (rest := [vR m]) rfl rfl rfl rfl ⟨hS.1.1, trivial⟩ (by decide) (r_isStamp hS hf (by omega) (fun b_1 hb_1 => ⟨rfl, ?_⟩))
  show WP 4 165 6 [vR m, vI s, none, none] [vI b_1, vR m] (M, S) Q
  refine WP.blk 1 ?_
  show WP 4 165 (if cnd .eq b_1 0 = true then 13 else 9) [vR m, vI s, none, none] [vR m] (M, S) Q
  refine br_eq (fun c_2 => ?_) (fun c_2 => ?_)
  · have p_1 := (hb_1.resolve_left (fun h => by omega)).2
    refine WP.blk 1 ?_
    show WP 4 165 14 [vR m, vI s, none, none] [vI 1, vR m] (M, S) Q
    refine WP.cl (a := [vR m, vI 1]) (rest := []) rfl rfl rfl rfl ⟨hS.1.1, trivial⟩ (by decide) (r_refused hS hf ho (fun b_3 Mr3 fr3 o3 ho3 h53 hk3 hb_3 => ⟨rfl, ?_⟩))
    show WP 4 165 17 [vR m, vI s, none, none] [vI b_3] (Mr3, S) Q
    have r_4 : Mr3 (m + 1) = f := (fr3 _ (by omega)).trans hf
    have r_6 : Mr3 (m + 6) = g0 := (fr3 _ (by omega)).trans hg0
    have fr_7 : ∀ r, r ≠ m → r ≠ m + 6 → Mr3 r = M r := fun r q0 q1 => (fr3 r q0).trans ((fun _ _ _ => rfl) r q0 q1)
    have t43 := hk3 4 (by omega)
    have t73 := hk3 7 (by omega)
    have t113 := hk3 11 (by omega)
    refine WP.blk 1 ?_
    show WP 4 165 (if cnd .eq b_3 0 = true then 22 else 20) [vR m, vI s, none, none] [] (Mr3, S) Q
    refine br_eq (fun c_8 => ?_) (fun c_8 => ?_)
    · exfalso; omega
    · have p_3 := (hb_3.resolve_right (fun h => by omega)).2
      refine WP.blk 1 ?_
      show WP 4 165 21 [vR m, vI s, none, none] [vI 0] (Mr3, S) Q
      exact WP.ret rfl rfl rfl trivial (k _ _ fr_7 _ ho3 (by omega) (by omega) (Or.inl ⟨by omega, by omega⟩))
  · have p_1 := (hb_1.resolve_right (fun h => by omega)).2
    refine WP.blk 2 ?_
    show WP 4 165 14 [vR m, vI s, none, none] [vI 0, vR m] (M, S) Q
    refine WP.cl (a := [vR m, vI 0]) (rest := []) rfl rfl rfl rfl ⟨hS.1.1, trivial⟩ (by decide) (r_refused hS hf ho (fun b_9 Mr9 fr9 o9 ho9 h59 hk9 hb_9 => ⟨rfl, ?_⟩))
    show WP 4 165 17 [vR m, vI s, none, none] [vI b_9] (Mr9, S) Q
    have r_10 : Mr9 (m + 1) = f := (fr9 _ (by omega)).trans hf
    have r_12 : Mr9 (m + 6) = g0 := (fr9 _ (by omega)).trans hg0
    have fr_13 : ∀ r, r ≠ m → r ≠ m + 6 → Mr9 r = M r := fun r q0 q1 => (fr9 r q0).trans ((fun _ _ _ => rfl) r q0 q1)
    have t49 := hk9 4 (by omega)
    have t79 := hk9 7 (by omega)
    have t119 := hk9 11 (by omega)
    refine WP.blk 1 ?_
    show WP 4 165 (if cnd .eq b_9 0 = true then 22 else 20) [vR m, vI s, none, none] [] (Mr9, S) Q
    refine br_eq (fun c_14 => ?_) (fun c_14 => ?_)
    · have p_9 := (hb_9.resolve_left (fun h => by omega)).2
      refine WP.blk 4 ?_
      show WP 4 165 26 [vR m, vI s, vI 0, vI 0] [] (Mr9, S) Q
      have hl_26 : ∀ (n_26 : Nat) (i : Int) (x : Int) (M1 : Nat → Int → Int) (g : Int → Int), 0 ≤ i ∧ i ≤ f 1 → x = num (NdW f s) i → M1 (m + 1) = f → M1 m = o9 → M1 (m + 6) = g → (∀ r, r ≠ m → r ≠ m + 6 → M1 r = M r) → (f 1 - i).toNat < n_26 → WP 4 165 26 [vR m, vI s, vI x, vI i] [] (M1, S) Q := by
        intro n_26
        induction n_26 with
        | zero => intro i x M1 g h0 h1 z_26_0 z_26_1 z_26_2 fr_26 hm_26; exact absurd hm_26 (Nat.not_lt_zero _)
        | succ n_26 ih_26 =>
          intro i x M1 g h0 h1 z_26_0 z_26_1 z_26_2 fr_26 hm_26
          have h9 := num_r (P := (NdW f s)) h0.1
          have hs1 := bs_1 (s := s) (by omega)
          refine WP.blk 3 ?_
          show (sT S m = 10 ∧ sR S m 0 ≠ 0) ∧ WP 4 165 31 [vR m, vI s, vI x, vI i] [vR (sR S m 0), vI i] (M1, S) Q
          refine ⟨⟨hS.1.1, by rw [hS.1.2.1]; omega⟩, ?_⟩
          rw [hS.1.2.1]
          refine WP.blk 3 ?_
          show ((sT S (m + 1) = 11 ∨ sT S (m + 1) = 16 ∨ sT S (m + 1) = 17) ∧ 0 ≤ 1 ∧ 1 < (sN S (m + 1) : Int)) ∧ WP 4 165 (if cnd .ge i (M1 (m + 1) 1) = true then 82 else 36) [vR m, vI s, vI x, vI i] [] (M1, S) Q
          rw [z_26_0]
          refine ⟨⟨Or.inl hS.2.1.1, by omega, by rw [hS.2.2.1]; omega⟩, ?_⟩
          refine br_ge (fun c_15 => ?_) (fun c_15 => ?_)
          · refine WP.blk 1 ?_
            show WP 4 165 83 [vR m, vI s, vI x, vI i] [vI x] (M1, S) Q
            exact WP.ret rfl rfl rfl trivial (k _ _ fr_26 _ z_26_1 (by omega) (by omega) (Or.inr ⟨by omega, by omega, by rw [h1, show i = f 1 by omega]⟩))
          · refine WP.blk 4 ?_
            show WP 4 165 40 [vR m, vI s, vI x, vI i] [vR m, vI i, vR m, vI x] (M1, S) Q
            refine WP.cl (a := [vR m]) (rest := [vI i, vR m, vI x]) rfl rfl rfl rfl ⟨hS.1.1, trivial⟩ (by decide) (r_fresh hS z_26_0 (by omega) (fun x_16 hx_16 => ⟨rfl, ?_⟩))
            show WP 4 165 43 [vR m, vI s, vI x, vI i] [vI x_16, vI i, vR m, vI x] (M1, S) Q
            refine WP.cl (a := [vR m, vI i, vI x_16]) (rest := [vI x]) rfl rfl rfl rfl ⟨hS.1.1, trivial⟩ (by decide) (r_presses hS z_26_0 hA (hWA.2 i (by omega) (by omega)).1 ⟨hx_16.1, hx_16.2.1⟩ (fun vx_17 Mx_17 frx_17 Lx_17 hLx_17 hlx_17 hvx_17 => ⟨rfl, ?_⟩))
            show WP 4 165 46 [vR m, vI s, vI x, vI i] [vI vx_17, vI x] (Mx_17, S) Q
            have r_18 : Mx_17 (m + 1) = f := (frx_17 _ (by omega)).trans z_26_0
            have r_19 : Mx_17 m = o9 := (frx_17 _ (by omega)).trans z_26_1
            have fr_21 : ∀ r, r ≠ m → r ≠ m + 6 → Mx_17 r = M r := fun r q0 q1 => (frx_17 r q1).trans (fr_26 r q0 q1)
            have hrx_17 := lst_rng (by omega) hA hlx_17 0 (by omega) (by have := (hWA.2 i (by omega) (by omega)).1.2.2.1; omega)
            refine WP.blk 2 ?_
            show WP 4 165 (if cnd .eq vx_17 (-1) = true then 73 else 50) [vR m, vI s, vI x, vI i] [vI x] (Mx_17, S) Q
            refine br_eq (fun c_22 => ?_) (fun c_22 => ?_)
            · refine WP.blk 5 ?_
              show ir (x + 0) ∧ ir (i + 1) ∧ WP 4 165 26 [vR m, vI s, vI (x + 0), vI (i + 1)] [] (Mx_17, S) Q
              refine ⟨(by unfold ir; omega), (by unfold ir; omega), ?_⟩
              exact ih_26 (i + 1) (x + 0) Mx_17 Lx_17 (by omega) (by rw [num_f h0.1 (nd_f1 hx_16 (hasX_no hA (hWA.2 i (by omega) (by omega)).1 hlx_17 (by omega)))]; omega) r_18 r_19 hLx_17 fr_21 (by omega)
            · refine WP.blk 3 ?_
              show WP 4 165 53 [vR m, vI s, vI x, vI i] [vR m, vI i, vR m, vI x] (Mx_17, S) Q
              refine WP.cl (a := [vR m]) (rest := [vI i, vR m, vI x]) rfl rfl rfl rfl ⟨hS.1.1, trivial⟩ (by decide) (r_fresh hS r_18 (by omega) (fun x_23 hx_23 => ⟨rfl, ?_⟩))
              show WP 4 165 56 [vR m, vI s, vI x, vI i] [vI x_23, vI i, vR m, vI x] (Mx_17, S) Q
              refine WP.blk 6 ?_
              show WP 4 165 62 [vR m, vI s, vI x, vI i] [vI (iA x_23 (iX (iL 1 s) (-1))), vI i, vR m, vI x] (Mx_17, S) Q
              refine WP.cl (a := [vR m, vI i, vI (iA x_23 (iX (iL 1 s) (-1)))]) (rest := [vI x]) rfl rfl rfl rfl ⟨hS.1.1, trivial⟩ (by decide) (r_presses hS r_18 hA (hWA.2 i (by omega) (by omega)).1 (by have e := bs_sub ⟨hx_23.1, hx_23.2.1⟩ ⟨hs1.1, hs1.2.1⟩; exact ⟨e.1, e.2.1⟩) (fun vx_24 Mx_24 frx_24 Lx_24 hLx_24 hlx_24 hvx_24 => ⟨rfl, ?_⟩))
              show WP 4 165 65 [vR m, vI s, vI x, vI i] [vI vx_24, vI x] (Mx_24, S) Q
              have r_25 : Mx_24 (m + 1) = f := (frx_24 _ (by omega)).trans r_18
              have r_26 : Mx_24 m = o9 := (frx_24 _ (by omega)).trans r_19
              have fr_28 : ∀ r, r ≠ m → r ≠ m + 6 → Mx_24 r = M r := fun r q0 q1 => (frx_24 r q1).trans (fr_21 r q0 q1)
              have hrx_24 := lst_rng (by omega) hA hlx_24 0 (by omega) (by have := (hWA.2 i (by omega) (by omega)).1.2.2.1; omega)
              refine WP.blk 2 ?_
              show WP 4 165 (if cnd .ne vx_24 (-1) = true then 73 else 69) [vR m, vI s, vI x, vI i] [vI x] (Mx_24, S) Q
              refine br_ne (fun c_29 => ?_) (fun c_29 => ?_)
              · refine WP.blk 5 ?_
                show ir (x + 0) ∧ ir (i + 1) ∧ WP 4 165 26 [vR m, vI s, vI (x + 0), vI (i + 1)] [] (Mx_24, S) Q
                refine ⟨(by unfold ir; omega), (by unfold ir; omega), ?_⟩
                exact ih_26 (i + 1) (x + 0) Mx_24 Lx_24 (by omega) (by rw [num_f h0.1 (nd_f2 hx_23 ⟨_, hlx_24, by omega⟩)]; omega) r_25 r_26 hLx_24 fr_28 (by omega)
              · refine WP.blk 6 ?_
                show ir (x + 1) ∧ ir (i + 1) ∧ WP 4 165 26 [vR m, vI s, vI (x + 1), vI (i + 1)] [] (Mx_24, S) Q
                refine ⟨(by unfold ir; omega), (by unfold ir; omega), ?_⟩
                exact ih_26 (i + 1) (x + 1) Mx_24 Lx_24 (by omega) (by rw [num_t h0.1 (nd_t hx_16 hx_23 ⟨_, hlx_17, by omega⟩ (hasX_no hA (hWA.2 i (by omega) (by omega)).1 hlx_24 (by omega)))]; omega) r_25 r_26 hLx_24 fr_28 (by omega)
      exact hl_26 _ 0 0 Mr9 g0 (by omega) num_0.symm r_10 ho9 r_12 fr_13 (Nat.lt_succ_self _)
    · exfalso; omega
set_option maxHeartbeats 4000000 in
theorem r_allPresses {S : SD} {M : Nat → Int → Int} {m : Nat} {f : Int → Int} {B : Int} (hS : isMod S m) (hf : M (m + 1) = f) (hR : RowOk B f) {Q : Res → Wd → Prop} (k : ∀ (v : Int) (M2 : Nat → Int → Int), (∀ r, r ≠ m + 6 → M2 r = M r) → v = allP f → 0 ≤ v ∧ v ≤ 700 → Q (0, vI v) (M2, S)) : EvQ 5 172 [vR m] (M, S) Q := by
  refine EvQ.enter (ls := [vR m, none, none, none]) (Nat.le_of_ble_eq_true rfl) rfl ?_
  have hA := hR.1
  have hA1 := hA.1
  have hWA := hR.2.1
  have hW1 := hWA.1
  have hI := hR.2.2
  have hI2 := hI.2.1
  have hI3 := hI.2.2.1
  obtain ⟨g0, hg0⟩ : ∃ g, M (m + 6) = g := ⟨_, rfl⟩
  refine WP.blk 4 ?_
  show WP 4 172 4 [vR m, vI 0, vI 0, none] [] (M, S) Q
  have hl_4 : ∀ (n_4 : Nat) (i : Int) (x : Int) (v3_4 : V) (M1 : Nat → Int → Int) (g : Int → Int), 0 ≤ i ∧ i ≤ f 1 → x = sm (p1 f) i → 0 ≤ x ∧ x ≤ 100 * i → M1 (m + 1) = f → M1 (m + 6) = g → (∀ r, r ≠ m + 6 → M1 r = M r) → (f 1 - i).toNat < n_4 → WP 4 172 4 [vR m, vI x, vI i, v3_4] [] (M1, S) Q := by
    intro n_4
    induction n_4 with
    | zero => intro i x v3_4 M1 g h0 h1 h2 z_4_0 z_4_1 fr_4 hm_4; exact absurd hm_4 (Nat.not_lt_zero _)
    | succ n_4 ih_4 =>
      intro i x v3_4 M1 g h0 h1 h2 z_4_0 z_4_1 fr_4 hm_4
      refine WP.blk 3 ?_
      show (sT S m = 10 ∧ sR S m 0 ≠ 0) ∧ WP 4 172 9 [vR m, vI x, vI i, v3_4] [vR (sR S m 0), vI i] (M1, S) Q
      refine ⟨⟨hS.1.1, by rw [hS.1.2.1]; omega⟩, ?_⟩
      rw [hS.1.2.1]
      refine WP.blk 3 ?_
      show ((sT S (m + 1) = 11 ∨ sT S (m + 1) = 16 ∨ sT S (m + 1) = 17) ∧ 0 ≤ 1 ∧ 1 < (sN S (m + 1) : Int)) ∧ WP 4 172 (if cnd .ge i (M1 (m + 1) 1) = true then 44 else 14) [vR m, vI x, vI i, v3_4] [] (M1, S) Q
      rw [z_4_0]
      refine ⟨⟨Or.inl hS.2.1.1, by omega, by rw [hS.2.2.1]; omega⟩, ?_⟩
      refine br_ge (fun c_1 => ?_) (fun c_1 => ?_)
      · refine WP.blk 1 ?_
        show WP 4 172 45 [vR m, vI x, vI i, v3_4] [vI x] (M1, S) Q
        exact WP.ret rfl rfl rfl trivial (k _ _ fr_4 (by rw [h1, show i = f 1 by omega]; rfl) (by omega))
      · refine WP.blk 3 ?_
        show WP 4 172 17 [vR m, vI x, vI i, v3_4] [vR m, vI i, vR m] (M1, S) Q
        refine WP.cl (a := [vR m]) (rest := [vI i, vR m]) rfl rfl rfl rfl ⟨hS.1.1, trivial⟩ (by decide) (r_fresh hS z_4_0 (by omega) (fun x_2 hx_2 => ⟨rfl, ?_⟩))
        show WP 4 172 20 [vR m, vI x, vI i, v3_4] [vI x_2, vI i, vR m] (M1, S) Q
        refine WP.cl (a := [vR m, vI i, vI x_2]) (rest := []) rfl rfl rfl rfl ⟨hS.1.1, trivial⟩ (by decide) (r_presses hS z_4_0 hA (hWA.2 i (by omega) (by omega)).1 ⟨hx_2.1, hx_2.2.1⟩ (fun vx_3 Mx_3 frx_3 Lx_3 hLx_3 hlx_3 hvx_3 => ⟨rfl, ?_⟩))
        show WP 4 172 23 [vR m, vI x, vI i, v3_4] [vI vx_3] (Mx_3, S) Q
        have r_4 : Mx_3 (m + 1) = f := (frx_3 _ (by omega)).trans z_4_0
        have fr_6 : ∀ r, r ≠ m + 6 → Mx_3 r = M r := fun r q0 => (frx_3 r q0).trans (fr_4 r q0)
        have hrx_3 := lst_rng (by omega) hA hlx_3 0 (by omega) (by have := (hWA.2 i (by omega) (by omega)).1.2.2.1; omega)
        refine WP.blk 5 ?_
        show WP 4 172 (if cnd .ne vx_3 (-1) = true then 35 else 30) [vR m, vI x, vI i, vI vx_3] [vI x] (Mx_3, S) Q
        refine br_ne (fun c_7 => ?_) (fun c_7 => ?_)
        · refine WP.blk 5 ?_
          show ir (x + vx_3) ∧ ir (i + 1) ∧ WP 4 172 4 [vR m, vI (x + vx_3), vI (i + 1), vI vx_3] [] (Mx_3, S) Q
          refine ⟨(by unfold ir; omega), (by unfold ir; omega), ?_⟩
          exact ih_4 (i + 1) (x + vx_3) (vI vx_3) Mx_3 Lx_3 (by omega) (by have e := pv_eq hA (hWA.2 i (by omega) (by omega)).1 hx_2 hlx_3 hvx_3; have e2 : p1 f i = vx_3 := (by unfold p1; rw [e, if_neg (by assumption)]); rw [sm_s h0.1]; omega) (by omega) r_4 hLx_3 fr_6 (by omega)
        · refine WP.blk 6 ?_
          show ir (x + 100) ∧ ir (i + 1) ∧ WP 4 172 4 [vR m, vI (x + 100), vI (i + 1), vI vx_3] [] (Mx_3, S) Q
          refine ⟨(by unfold ir; omega), (by unfold ir; omega), ?_⟩
          exact ih_4 (i + 1) (x + 100) (vI vx_3) Mx_3 Lx_3 (by omega) (by have e := pv_eq hA (hWA.2 i (by omega) (by omega)).1 hx_2 hlx_3 hvx_3; have e2 : p1 f i = 100 := (by unfold p1; rw [e, if_pos (by assumption)]); rw [sm_s h0.1]; omega) (by omega) r_4 hLx_3 fr_6 (by omega)
  exact hl_4 _ 0 0 (none) M g0 (by omega) sm_0.symm (by omega) hf hg0 (fun _ _ => rfl) (Nat.lt_succ_self _)
