/-- letters per press -/
noncomputable def lpp (f : Int → Int) : UInt64 := if sm (ps1 f) (f 1) = 0 then 0 else FP.ddiv (FP.i2d (Int32.ofInt (sm (lt1 f) (f 1)))) (FP.i2d (Int32.ofInt (sm (ps1 f) (f 1))))
set_option maxHeartbeats 4000000 in
theorem r_lettersPerPress {S : SD} {M : Nat → Int → Int} {m : Nat} {f : Int → Int} {o : Int → Int} {B : Int} (hS : isMod S m) (hf : M (m + 1) = f) (ho : M m = o) (hR : RowOk B f) {Q : Res → Wd → Prop} (k : ∀ (v : UInt64) (M2 : Nat → Int → Int), (∀ r, r ≠ m → r ≠ m + 6 → M2 r = M r) → ∀ o2, M2 m = o2 → o2 4 = o 4 → o2 7 = o 7 → o2 5 = 0 → v = lpp f → Q (0, vD v) (M2, S)) : EvQ 5 175 [vR m] (M, S) Q := by
  refine EvQ.enter (ls := [vR m, none, none, none, none]) (Nat.le_of_ble_eq_true rfl) rfl ?_
  have hA := hR.1
  have hA1 := hA.1
  have hWA := hR.2.1
  have hW1 := hWA.1
  have hI := hR.2.2
  have hI2 := hI.2.1
  have hI3 := hI.2.2.1
  obtain ⟨g0, hg0⟩ : ∃ g, M (m + 6) = g := ⟨_, rfl⟩
  refine WP.blk 3 ?_
  show sT S m = 10 ∧ WP 4 175 5 [vR m, none, none, none, none] [] (up M m 5 0, S) Q
  refine ⟨hS.1.1, ?_⟩
  generalize hM_1 : up M m 5 0 = M_1
  have r_2 : M_1 (m + 1) = f := by rw [← hM_1]; exact (up_row (by omega)).trans hf
  obtain ⟨g_4, hg_4⟩ : ∃ y9, y9 = uf o 5 0 := ⟨_, rfl⟩
  have r_3 : M_1 m = g_4 := by rw [← hM_1, hg_4, up_self, ho]
  have t_5 : g_4 4 = o 4 := by rw [hg_4]; exact uf_ne (by omega)
  have t_6 : g_4 5 = 0 := by rw [hg_4]; exact uf_at _ _ (by omega)
  have t_7 : g_4 7 = o 7 := by rw [hg_4]; exact uf_ne (by omega)
  have r_8 : M_1 (m + 6) = g0 := by rw [← hM_1]; exact (up_row (by omega)).trans hg0
  have fr_9 : ∀ r, r ≠ m → r ≠ m + 6 → M_1 r = M r := fun r q0 q1 => by rw [← hM_1]; exact (up_row q0).trans ((fun _ _ _ => rfl) r q0 q1)
  refine WP.blk 6 ?_
  show WP 4 175 11 [vR m, vI 0, vI 0, vI 0, none] [] (M_1, S) Q
  have hl_11 : ∀ (n_11 : Nat) (i : Int) (x : Int) (y : Int) (v4_11 : V) (M1 : Nat → Int → Int) (g : Int → Int), 0 ≤ i ∧ i ≤ f 1 → x = sm (lt1 f) i → y = sm (ps1 f) i → 0 ≤ x ∧ x ≤ 12 * i ∧ 0 ≤ y ∧ y ≤ 12 * i → M1 (m + 1) = f → M1 m = g_4 → M1 (m + 6) = g → (∀ r, r ≠ m → r ≠ m + 6 → M1 r = M r) → (f 1 - i).toNat < n_11 → WP 4 175 11 [vR m, vI x, vI y, vI i, v4_11] [] (M1, S) Q := by
    intro n_11
    induction n_11 with
    | zero => intro i x y v4_11 M1 g h0 h1 h2 h3 z_11_0 z_11_1 z_11_2 fr_11 hm_11; exact absurd hm_11 (Nat.not_lt_zero _)
    | succ n_11 ih_11 =>
      intro i x y v4_11 M1 g h0 h1 h2 h3 z_11_0 z_11_1 z_11_2 fr_11 hm_11
      have hw8 : i < f 1 → 1 ≤ f (97 + 14 * i) ∧ f (97 + 14 * i) ≤ 12 := fun h => ⟨(hWA.2 i h0.1 h).1.2.2.1, (hWA.2 i h0.1 h).1.2.2.2.1⟩
      refine WP.blk 3 ?_
      show (sT S m = 10 ∧ sR S m 0 ≠ 0) ∧ WP 4 175 16 [vR m, vI x, vI y, vI i, v4_11] [vR (sR S m 0), vI i] (M1, S) Q
      refine ⟨⟨hS.1.1, by rw [hS.1.2.1]; omega⟩, ?_⟩
      rw [hS.1.2.1]
      refine WP.blk 3 ?_
      show ((sT S (m + 1) = 11 ∨ sT S (m + 1) = 16 ∨ sT S (m + 1) = 17) ∧ 0 ≤ 1 ∧ 1 < (sN S (m + 1) : Int)) ∧ WP 4 175 (if cnd .ge i (M1 (m + 1) 1) = true then 75 else 21) [vR m, vI x, vI y, vI i, v4_11] [] (M1, S) Q
      rw [z_11_0]
      refine ⟨⟨Or.inl hS.2.1.1, by omega, by rw [hS.2.2.1]; omega⟩, ?_⟩
      refine br_ge (fun c_10 => ?_) (fun c_10 => ?_)
      · refine WP.blk 2 ?_
        show WP 4 175 (if cnd .ne y 0 = true then 83 else 79) [vR m, vI x, vI y, vI i, v4_11] [] (M1, S) Q
        refine br_ne (fun c_11 => ?_) (fun c_11 => ?_)
        · refine WP.blk 5 ?_
          show vf_n64 (FP.ddiv (FP.i2d (Int32.ofInt x)) (FP.i2d (Int32.ofInt y))) ∧ WP 4 175 88 [vR m, vI x, vI y, vI i, v4_11] [vD (FP.ddiv (FP.i2d (Int32.ofInt x)) (FP.i2d (Int32.ofInt y)))] (M1, S) Q
          refine ⟨(dd_ok (by omega) (by omega)), ?_⟩
          exact WP.ret rfl rfl rfl trivial (k _ _ fr_11 _ z_11_1 (by omega) (by omega) (by omega) (by have e9 : i = f 1 := (by omega); subst e9; unfold lpp; rw [← h1, ← h2]; rw [if_neg (by omega)]))
        · refine WP.blk 2 ?_
          show WP 4 175 88 [vR m, vI x, vI y, vI i, v4_11] [vD 0] (M1, S) Q
          exact WP.ret rfl rfl rfl trivial (k _ _ fr_11 _ z_11_1 (by omega) (by omega) (by omega) (by have e9 : i = f 1 := (by omega); subst e9; unfold lpp; rw [← h1, ← h2]; rw [if_pos (by omega)]))
      · refine WP.blk 3 ?_
        show WP 4 175 24 [vR m, vI x, vI y, vI i, v4_11] [vR m, vI i, vR m] (M1, S) Q
        refine WP.cl (a := [vR m]) (rest := [vI i, vR m]) rfl rfl rfl rfl ⟨hS.1.1, trivial⟩ (by decide) (r_fresh hS z_11_0 (by omega) (fun x_12 hx_12 => ⟨rfl, ?_⟩))
        show WP 4 175 27 [vR m, vI x, vI y, vI i, v4_11] [vI x_12, vI i, vR m] (M1, S) Q
        refine WP.cl (a := [vR m, vI i, vI x_12]) (rest := []) rfl rfl rfl rfl ⟨hS.1.1, trivial⟩ (by decide) (r_presses hS z_11_0 hA (hWA.2 i (by omega) (by omega)).1 ⟨hx_12.1, hx_12.2.1⟩ (fun vx_13 Mx_13 frx_13 Lx_13 hLx_13 hlx_13 hvx_13 => ⟨rfl, ?_⟩))
        show WP 4 175 30 [vR m, vI x, vI y, vI i, v4_11] [vI vx_13] (Mx_13, S) Q
        have r_14 : Mx_13 (m + 1) = f := (frx_13 _ (by omega)).trans z_11_0
        have r_15 : Mx_13 m = g_4 := (frx_13 _ (by omega)).trans z_11_1
        have fr_17 : ∀ r, r ≠ m → r ≠ m + 6 → Mx_13 r = M r := fun r q0 q1 => (frx_13 r q1).trans (fr_11 r q0 q1)
        have hrx_13 := lst_rng (by omega) hA hlx_13 0 (by omega) (by have := (hWA.2 i (by omega) (by omega)).1.2.2.1; omega)
        have hqx_13 : Lx_13 0 ≠ 100 → 0 ≤ Lx_13 0 ∧ Lx_13 0 ≤ f (97 + 14 * i) - 0 := fun h => lst_fin hA (hWA.2 i (by omega) (by omega)).1 hlx_13 (by omega) (by omega) h
        refine WP.blk 5 ?_
        show WP 4 175 (if cnd .ne vx_13 (-1) = true then 43 else 39) [vR m, vI x, vI y, vI i, vI vx_13] [vI x] (Mx_13, S) Q
        refine br_ne (fun c_18 => ?_) (fun c_18 => ?_)
        · refine WP.blk 2 ?_
          show (sT S m = 10 ∧ sR S m 0 ≠ 0) ∧ WP 4 175 47 [vR m, vI x, vI y, vI i, vI vx_13] [vR (sR S m 0), vI x] (Mx_13, S) Q
          refine ⟨⟨hS.1.1, by rw [hS.1.2.1]; omega⟩, ?_⟩
          rw [hS.1.2.1]
          refine WP.blk 1 ?_
          show WP 4 175 48 [vR m, vI x, vI y, vI i, vI vx_13] [vI i, vR (m + 1), vI x] (Mx_13, S) Q
          refine WP.cl (a := [vI i]) (rest := [vR (m + 1), vI x]) rfl rfl rfl rfl trivial (by decide) (q_wordAt (by omega) ⟨rfl, ?_⟩)
          show WP 4 175 51 [vR m, vI x, vI y, vI i, vI vx_13] [vI (97 + 14 * i), vR (m + 1), vI x] (Mx_13, S) Q
          refine WP.blk 7 ?_
          show ((sT S (m + 1) = 11 ∨ sT S (m + 1) = 16 ∨ sT S (m + 1) = 17) ∧ 0 ≤ (97 + 14 * i) ∧ (97 + 14 * i) < (sN S (m + 1) : Int)) ∧ ir (x + (Mx_13 (m + 1) (97 + 14 * i))) ∧ WP 4 175 (if cnd .ne vx_13 (-1) = true then 65 else 61) [vR m, vI (x + (Mx_13 (m + 1) (97 + 14 * i))), vI y, vI i, vI vx_13] [vI y] (Mx_13, S) Q
          rw [r_14]
          refine ⟨⟨Or.inl hS.2.1.1, by omega, by rw [hS.2.2.1]; omega⟩, (by unfold ir; omega), ?_⟩
          refine br_ne (fun c_19 => ?_) (fun c_19 => ?_)
          · refine WP.blk 5 ?_
            show ir (y + vx_13) ∧ ir (i + 1) ∧ WP 4 175 11 [vR m, vI (x + (f (97 + 14 * i))), vI (y + vx_13), vI (i + 1), vI vx_13] [] (Mx_13, S) Q
            refine ⟨(by unfold ir; omega), (by unfold ir; omega), ?_⟩
            exact ih_11 (i + 1) (x + (f (97 + 14 * i))) (y + vx_13) (vI vx_13) Mx_13 Lx_13 (by omega) (by have e := pv_eq hA (hWA.2 i (by omega) (by omega)).1 hx_12 hlx_13 hvx_13; have e2 : lt1 f i = f (97 + 14 * i) := (by unfold lt1; rw [e, if_neg (by omega)]); rw [sm_s h0.1]; omega) (by have e := pv_eq hA (hWA.2 i (by omega) (by omega)).1 hx_12 hlx_13 hvx_13; have e2 : ps1 f i = vx_13 := (by unfold ps1; rw [e, if_neg (by omega)]); rw [sm_s h0.1]; omega) (by omega) r_14 r_15 hLx_13 fr_17 (by omega)
          · refine WP.blk 6 ?_
            show ir (y + 0) ∧ ir (i + 1) ∧ WP 4 175 11 [vR m, vI (x + (f (97 + 14 * i))), vI (y + 0), vI (i + 1), vI vx_13] [] (Mx_13, S) Q
            refine ⟨(by unfold ir; omega), (by unfold ir; omega), ?_⟩
            exact ih_11 (i + 1) (x + (f (97 + 14 * i))) (y + 0) (vI vx_13) Mx_13 Lx_13 (by omega) (by omega) (by omega) (by omega) r_14 r_15 hLx_13 fr_17 (by omega)
        · refine WP.blk 8 ?_
          show ir (x + 0) ∧ WP 4 175 (if cnd .ne vx_13 (-1) = true then 65 else 61) [vR m, vI (x + 0), vI y, vI i, vI vx_13] [vI y] (Mx_13, S) Q
          refine ⟨(by unfold ir; omega), ?_⟩
          refine br_ne (fun c_20 => ?_) (fun c_20 => ?_)
          · refine WP.blk 5 ?_
            show ir (y + vx_13) ∧ ir (i + 1) ∧ WP 4 175 11 [vR m, vI (x + 0), vI (y + vx_13), vI (i + 1), vI vx_13] [] (Mx_13, S) Q
            refine ⟨(by unfold ir; omega), (by unfold ir; omega), ?_⟩
            exact ih_11 (i + 1) (x + 0) (y + vx_13) (vI vx_13) Mx_13 Lx_13 (by omega) (by omega) (by omega) (by omega) r_14 r_15 hLx_13 fr_17 (by omega)
          · refine WP.blk 6 ?_
            show ir (y + 0) ∧ ir (i + 1) ∧ WP 4 175 11 [vR m, vI (x + 0), vI (y + 0), vI (i + 1), vI vx_13] [] (Mx_13, S) Q
            refine ⟨(by unfold ir; omega), (by unfold ir; omega), ?_⟩
            exact ih_11 (i + 1) (x + 0) (y + 0) (vI vx_13) Mx_13 Lx_13 (by omega) (by have e := pv_eq hA (hWA.2 i (by omega) (by omega)).1 hx_12 hlx_13 hvx_13; have e2 : lt1 f i = 0 := (by unfold lt1; rw [e, if_pos (by omega)]); rw [sm_s h0.1]; omega) (by have e := pv_eq hA (hWA.2 i (by omega) (by omega)).1 hx_12 hlx_13 hvx_13; have e2 : ps1 f i = 0 := (by unfold ps1; rw [e, if_pos (by omega)]); rw [sm_s h0.1]; omega) (by omega) r_14 r_15 hLx_13 fr_17 (by omega)
  exact hl_11 _ 0 0 0 (none) M_1 g0 (by omega) sm_0.symm sm_0.symm (by omega) r_2 r_3 r_8 fr_9 (Nat.lt_succ_self _)
