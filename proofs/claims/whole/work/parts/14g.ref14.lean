set_option maxHeartbeats 4000000 in
theorem r_bits {S : SD} {M : Nat → Int → Int} {u : Int} (h : 0 ≤ u ∧ u < 1024) {Q : Res → Wd → Prop} (k : Q (0, vI (pop u)) (M, S)) : EvQ 1 161 [vI u] (M, S) Q := by
  refine EvQ.enter (ls := [vI u, none, none]) (Nat.le_of_ble_eq_true rfl) rfl ?_
  refine WP.blk 4 ?_
  show WP 0 161 4 [vI u, vI 0, vI u] [] (M, S) Q
  have hl_4 : ∀ (n_4 : Nat) (l : Int) (n : Int), 0 ≤ l ∧ l < 1024 → n + pop l = pop u → l.toNat < n_4 → WP 0 161 4 [vI u, vI n, vI l] [] (M, S) Q := by
    intro n_4
    induction n_4 with
    | zero => intro l n h0 h1 hm_4; exact absurd hm_4 (Nat.not_lt_zero _)
    | succ n_4 ih_4 =>
      intro l n h0 h1 hm_4
      have e1 := iA1 h0
      have e2 := pop_s h0
      have e3 := pop_s h
      refine WP.blk 2 ?_
      show WP 0 161 (if cnd .le l 0 = true then 21 else 8) [vI u, vI n, vI l] [] (M, S) Q
      refine br_le (fun c_1 => ?_) (fun c_1 => ?_)
      · refine WP.blk 1 ?_
        show WP 0 161 22 [vI u, vI n, vI l] [vI n] (M, S) Q
        exact WP.ret rfl rfl rfl trivial (by have e : l = 0 := (by omega); rw [e, pop_0] at h1; rw [show n = pop u by omega]; exact k)
      · refine WP.blk 11 ?_
        show ir (n + (iA l 1)) ∧ WP 0 161 4 [vI u, vI (n + (iA l 1)), vI (iR l 1)] [] (M, S) Q
        refine ⟨(by unfold ir; omega), ?_⟩
        exact ih_4 (iR l 1) (n + (iA l 1)) (by omega) (by rw [e1.1, e1.2]; omega)  (by omega)
  exact hl_4 _ u 0 h (by omega)  (Nat.lt_succ_self _)
set_option maxHeartbeats 4000000 in
theorem r_allWith {S : SD} {M : Nat → Int → Int} {m : Nat} {f : Int → Int} {x B : Int} (hS : isMod S m) (hf : M (m + 1) = f) (hR : RowOk B f) (hx : 0 ≤ x ∧ x < 1024) {Q : Res → Wd → Prop} (k : ∀ (b : Int) (M2 : Nat → Int → Int), (∀ r, r ≠ m + 6 → M2 r = M r) → (b = 1 ∧ AllW f x) ∨ (b = 0 ∧ ¬ AllW f x) → Q (0, vI b) (M2, S)) : EvQ 5 162 [vR m, vI x] (M, S) Q := by
  refine EvQ.enter (ls := [vR m, vI x, none, none]) (Nat.le_of_ble_eq_true rfl) rfl ?_
  have hA := hR.1
  have hA1 := hA.1
  have hWA := hR.2.1
  have hW1 := hWA.1
  have hI := hR.2.2
  have hI2 := hI.2.1
  have hI3 := hI.2.2.1
  obtain ⟨g0, hg0⟩ : ∃ g, M (m + 6) = g := ⟨_, rfl⟩
  refine WP.blk 4 ?_
  show WP 4 162 4 [vR m, vI x, vI 1, vI 0] [] (M, S) Q
  have hl_4 : ∀ (n_4 : Nat) (i : Int) (b : Int) (M1 : Nat → Int → Int) (g : Int → Int), 0 ≤ i ∧ i ≤ f 1 → AllB (fun w => HasX f w x) i b → M1 (m + 1) = f → M1 (m + 6) = g → (∀ r, r ≠ m + 6 → M1 r = M r) → (f 1 - i).toNat < n_4 → WP 4 162 4 [vR m, vI x, vI b, vI i] [] (M1, S) Q := by
    intro n_4
    induction n_4 with
    | zero => intro i b M1 g h0 h1 z_4_0 z_4_1 fr_4 hm_4; exact absurd hm_4 (Nat.not_lt_zero _)
    | succ n_4 ih_4 =>
      intro i b M1 g h0 h1 z_4_0 z_4_1 fr_4 hm_4
      refine WP.blk 3 ?_
      show (sT S m = 10 ∧ sR S m 0 ≠ 0) ∧ WP 4 162 9 [vR m, vI x, vI b, vI i] [vR (sR S m 0), vI i] (M1, S) Q
      refine ⟨⟨hS.1.1, by rw [hS.1.2.1]; omega⟩, ?_⟩
      rw [hS.1.2.1]
      refine WP.blk 3 ?_
      show ((sT S (m + 1) = 11 ∨ sT S (m + 1) = 16 ∨ sT S (m + 1) = 17) ∧ 0 ≤ 1 ∧ 1 < (sN S (m + 1) : Int)) ∧ WP 4 162 (if cnd .ge i (M1 (m + 1) 1) = true then 40 else 14) [vR m, vI x, vI b, vI i] [] (M1, S) Q
      rw [z_4_0]
      refine ⟨⟨Or.inl hS.2.1.1, by first | omega | exact AllB_b h1, by rw [hS.2.2.1]; first | omega | exact AllB_b h1⟩, ?_⟩
      refine br_ge (fun c_1 => ?_) (fun c_1 => ?_)
      · refine WP.blk 1 ?_
        show WP 4 162 41 [vR m, vI x, vI b, vI i] [vI b] (M1, S) Q
        refine WP.ret rfl rfl rfl ⟨by first | omega | exact AllB_b h1, trivial⟩ ?_
        refine k _ _ fr_4 ?_
        rcases h1 with ⟨g1, g2⟩ | ⟨g1, j, g2, g3, g4⟩
        · exact Or.inl ⟨g1, fun w a b => g2 w a (by omega)⟩
        · exact Or.inr ⟨g1, fun h => g4 (h j g2 (by omega))⟩
      · refine WP.blk 2 ?_
        show WP 4 162 (if cnd .eq b 0 = true then 40 else 18) [vR m, vI x, vI b, vI i] [] (M1, S) Q
        refine br_eq (fun c_2 => ?_) (fun c_2 => ?_)
        · refine WP.blk 1 ?_
          show WP 4 162 41 [vR m, vI x, vI b, vI i] [vI b] (M1, S) Q
          refine WP.ret rfl rfl rfl ⟨by first | omega | exact AllB_b h1, trivial⟩ ?_
          refine k _ _ fr_4 ?_
          rcases h1 with ⟨g1, g2⟩ | ⟨g1, j, g2, g3, g4⟩
          · exact Or.inl ⟨g1, fun w a b => g2 w a (by omega)⟩
          · exact Or.inr ⟨g1, fun h => g4 (h j g2 (by omega))⟩
        · refine WP.blk 3 ?_
          show WP 4 162 21 [vR m, vI x, vI b, vI i] [vI x, vI i, vR m] (M1, S) Q
          refine WP.cl (a := [vR m, vI i, vI x]) (rest := []) rfl rfl rfl rfl ⟨hS.1.1, trivial⟩ (by decide) (r_presses hS z_4_0 hA (hWA.2 i (by omega) (by omega)).1 hx (fun vx_3 Mx_3 frx_3 Lx_3 hLx_3 hlx_3 hvx_3 => ⟨rfl, ?_⟩))
          show WP 4 162 24 [vR m, vI x, vI b, vI i] [vI vx_3] (Mx_3, S) Q
          have r_4 : Mx_3 (m + 1) = f := (frx_3 _ (by omega)).trans z_4_0
          have fr_6 : ∀ r, r ≠ m + 6 → Mx_3 r = M r := fun r q0 => (frx_3 r q0).trans (fr_4 r q0)
          have hrx_3 := lst_rng (by omega) hA hlx_3 0 (by omega) (by have := (hWA.2 i (by omega) (by omega)).1.2.2.1; omega)
          refine WP.blk 2 ?_
          show WP 4 162 (if cnd .eq vx_3 (-1) = true then 32 else 28) [vR m, vI x, vI b, vI i] [] (Mx_3, S) Q
          refine br_eq (fun c_7 => ?_) (fun c_7 => ?_)
          · refine WP.blk 4 ?_
            show ir (i + 1) ∧ WP 4 162 4 [vR m, vI x, vI 0, vI (i + 1)] [] (Mx_3, S) Q
            refine ⟨(by unfold ir; first | omega | exact AllB_b h1), ?_⟩
            exact ih_4 (i + 1) 0 Mx_3 Lx_3 (by omega) (AllB_3 (by omega) (hasX_no hA (hWA.2 i (by omega) (by omega)).1 hlx_3 (by omega))) r_4 hLx_3 fr_6 (by omega)
          · refine WP.blk 5 ?_
            show ir (i + 1) ∧ WP 4 162 4 [vR m, vI x, vI 1, vI (i + 1)] [] (Mx_3, S) Q
            refine ⟨(by unfold ir; first | omega | exact AllB_b h1), ?_⟩
            exact ih_4 (i + 1) 1 Mx_3 Lx_3 (by omega) (AllB_1 h1 (by omega) ⟨_, hlx_3, by omega⟩) r_4 hLx_3 fr_6 (by omega)
  exact hl_4 _ 0 1 M g0 (by omega) AllB_0 hf hg0 (fun _ _ => rfl) (Nat.lt_succ_self _)
