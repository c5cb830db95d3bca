set_option maxHeartbeats 4000000 in
theorem r_wornOut {S : SD} {M : Nat → Int → Int} {m : Nat} {f : Int → Int} {B : Int} (hS : isMod S m) (hf : M (m + 1) = f) (hR : RowOk B f) {Q : Res → Wd → Prop} (k : Q (0, vI (num (Worn f) (f 0))) (M, S)) : EvQ 3 147 [vR m] (M, S) Q := by
  refine EvQ.enter (ls := [vR m, none, none]) (Nat.le_of_ble_eq_true rfl) rfl ?_
  have hA := hR.1
  have hA1 := hA.1
  have hWA := hR.2.1
  have hW1 := hWA.1
  have hI := hR.2.2
  have hI2 := hI.2.1
  have hI3 := hI.2.2.1
  refine WP.blk 4 ?_
  show WP 2 147 4 [vR m, vI 0, vI 0] [] (M, S) Q
  have hl_4 : ∀ (n_4 : Nat) (i : Int) (x : Int), 0 ≤ i ∧ i ≤ f 0 → x = num (Worn f) i → (f 0 - i).toNat < n_4 → WP 2 147 4 [vR m, vI x, vI i] [] (M, S) Q := by
    intro n_4
    induction n_4 with
    | zero => intro i x h0 h1 hm_4; exact absurd hm_4 (Nat.not_lt_zero _)
    | succ n_4 ih_4 =>
      intro i x h0 h1 hm_4
      have h9 := num_r (P := Worn f) h0.1
      refine WP.blk 3 ?_
      show (sT S m = 10 ∧ sR S m 0 ≠ 0) ∧ WP 2 147 9 [vR m, vI x, vI i] [vR (sR S m 0), vI i] (M, S) Q
      refine ⟨⟨hS.1.1, by rw [hS.1.2.1]; omega⟩, ?_⟩
      rw [hS.1.2.1]
      refine WP.blk 3 ?_
      show ((sT S (m + 1) = 11 ∨ sT S (m + 1) = 16 ∨ sT S (m + 1) = 17) ∧ 0 ≤ 0 ∧ 0 < (sN S (m + 1) : Int)) ∧ WP 2 147 (if cnd .ge i (M (m + 1) 0) = true then 36 else 14) [vR m, vI x, vI i] [] (M, S) Q
      rw [hf]
      refine ⟨⟨Or.inl hS.2.1.1, by omega, by rw [hS.2.2.1]; omega⟩, ?_⟩
      refine br_ge (fun c_1 => ?_) (fun c_1 => ?_)
      · refine WP.blk 1 ?_
        show WP 2 147 37 [vR m, vI x, vI i] [vI x] (M, S) Q
        exact WP.ret rfl rfl rfl trivial (by rw [show i = f 0 by omega] at h1; rw [h1]; exact k)
      · refine WP.blk 3 ?_
        show WP 2 147 17 [vR m, vI x, vI i] [vI i, vR m, vI x] (M, S) Q
        refine WP.cl (a := [vR m, vI i]) (rest := [vI x]) rfl rfl rfl rfl ⟨hS.1.1, trivial⟩ (by decide) (r_isWorn hS hf (by omega) (fun b_2 hb_2 => ⟨rfl, ?_⟩))
        show WP 2 147 20 [vR m, vI x, vI i] [vI b_2, vI x] (M, S) Q
        refine WP.blk 1 ?_
        show WP 2 147 (if cnd .eq b_2 0 = true then 27 else 23) [vR m, vI x, vI i] [vI x] (M, S) Q
        refine br_eq (fun c_3 => ?_) (fun c_3 => ?_)
        · have p_2 := (hb_2.resolve_left (fun h => by omega)).2
          refine WP.blk 5 ?_
          show ir (x + 0) ∧ ir (i + 1) ∧ WP 2 147 4 [vR m, vI (x + 0), vI (i + 1)] [] (M, S) Q
          refine ⟨(by unfold ir; omega), (by unfold ir; omega), ?_⟩
          exact ih_4 (i + 1) (x + 0) (by omega) (by rw [num_f h0.1 (by unfold Worn; omega)]; omega)  (by omega)
        · have p_2 := (hb_2.resolve_right (fun h => by omega)).2
          refine WP.blk 6 ?_
          show ir (x + 1) ∧ ir (i + 1) ∧ WP 2 147 4 [vR m, vI (x + 1), vI (i + 1)] [] (M, S) Q
          refine ⟨(by unfold ir; omega), (by unfold ir; omega), ?_⟩
          exact ih_4 (i + 1) (x + 1) (by omega) (by rw [num_t h0.1 (by unfold Worn; omega)]; omega)  (by omega)
  exact hl_4 _ 0 0 (by omega) num_0.symm  (Nat.lt_succ_self _)
set_option maxHeartbeats 4000000 in
theorem r_withPlan {S : SD} {M : Nat → Int → Int} {m : Nat} {f : Int → Int} {B : Int} (hS : isMod S m) (hf : M (m + 1) = f) (hR : RowOk B f) {Q : Res → Wd → Prop} (k : ∀ M2 : Nat → Int → Int, (∀ r, r ≠ m + 6 → M2 r = M r) → Q (0, vI (num (HasP f) (f 1))) (M2, S)) : EvQ 5 148 [vR m] (M, S) Q := by
  refine EvQ.enter (ls := [vR m, none, none]) (Nat.le_of_ble_eq_true rfl) rfl ?_
  have hA := hR.1
  have hA1 := hA.1
  have hWA := hR.2.1
  have hW1 := hWA.1
  have hI := hR.2.2
  have hI2 := hI.2.1
  have hI3 := hI.2.2.1
  obtain ⟨g0, hg0⟩ : ∃ g, M (m + 6) = g := ⟨_, rfl⟩
  refine WP.blk 4 ?_
  show WP 4 148 4 [vR m, vI 0, vI 0] [] (M, S) Q
  have hl_4 : ∀ (n_4 : Nat) (i : Int) (x : Int) (M1 : Nat → Int → Int) (g : Int → Int), 0 ≤ i ∧ i ≤ f 1 → x = num (HasP f) i → M1 (m + 1) = f → M1 (m + 6) = g → (∀ r, r ≠ m + 6 → M1 r = M r) → (f 1 - i).toNat < n_4 → WP 4 148 4 [vR m, vI x, vI i] [] (M1, S) Q := by
    intro n_4
    induction n_4 with
    | zero => intro i x M1 g h0 h1 z_4_0 z_4_1 fr_4 hm_4; exact absurd hm_4 (Nat.not_lt_zero _)
    | succ n_4 ih_4 =>
      intro i x M1 g h0 h1 z_4_0 z_4_1 fr_4 hm_4
      have h9 := num_r (P := HasP f) h0.1
      refine WP.blk 3 ?_
      show (sT S m = 10 ∧ sR S m 0 ≠ 0) ∧ WP 4 148 9 [vR m, vI x, vI i] [vR (sR S m 0), vI i] (M1, S) Q
      refine ⟨⟨hS.1.1, by rw [hS.1.2.1]; omega⟩, ?_⟩
      rw [hS.1.2.1]
      refine WP.blk 3 ?_
      show ((sT S (m + 1) = 11 ∨ sT S (m + 1) = 16 ∨ sT S (m + 1) = 17) ∧ 0 ≤ 1 ∧ 1 < (sN S (m + 1) : Int)) ∧ WP 4 148 (if cnd .ge i (M1 (m + 1) 1) = true then 41 else 14) [vR m, vI x, vI i] [] (M1, S) Q
      rw [z_4_0]
      refine ⟨⟨Or.inl hS.2.1.1, by omega, by rw [hS.2.2.1]; omega⟩, ?_⟩
      refine br_ge (fun c_1 => ?_) (fun c_1 => ?_)
      · refine WP.blk 1 ?_
        show WP 4 148 42 [vR m, vI x, vI i] [vI x] (M1, S) Q
        exact WP.ret rfl rfl rfl trivial (by rw [show i = f 1 by omega] at h1; rw [h1]; exact k _ fr_4)
      · refine WP.blk 4 ?_
        show WP 4 148 18 [vR m, vI x, vI i] [vR m, vI i, vR m, vI x] (M1, S) Q
        refine WP.cl (a := [vR m]) (rest := [vI i, vR m, vI x]) rfl rfl rfl rfl ⟨hS.1.1, trivial⟩ (by decide) (r_fresh hS z_4_0 (by omega) (fun x_2 hx_2 => ⟨rfl, ?_⟩))
        show WP 4 148 21 [vR m, vI x, vI i] [vI x_2, vI i, vR m, vI x] (M1, S) Q
        refine WP.cl (a := [vR m, vI i, vI x_2]) (rest := [vI x]) rfl rfl rfl rfl ⟨hS.1.1, trivial⟩ (by decide) (r_presses hS z_4_0 hA (hWA.2 i (by omega) (by omega)).1 ⟨hx_2.1, hx_2.2.1⟩ (fun vx_3 Mx_3 frx_3 Lx_3 hLx_3 hlx_3 hvx_3 => ⟨rfl, ?_⟩))
        show WP 4 148 24 [vR m, vI x, vI i] [vI vx_3, vI x] (Mx_3, S) Q
        have r_4 : Mx_3 (m + 1) = f := (frx_3 _ (by omega)).trans z_4_0
        have fr_6 : ∀ r, r ≠ m + 6 → Mx_3 r = M r := fun r q0 => (frx_3 r q0).trans (fr_4 r q0)
        have hrx_3 := lst_rng (by omega) hA hlx_3 0 (by omega) (by have := (hWA.2 i (by omega) (by omega)).1.2.2.1; omega)
        refine WP.blk 2 ?_
        show WP 4 148 (if cnd .ne vx_3 (-1) = true then 32 else 28) [vR m, vI x, vI i] [vI x] (Mx_3, S) Q
        refine br_ne (fun c_7 => ?_) (fun c_7 => ?_)
        · refine WP.blk 5 ?_
          show ir (x + 1) ∧ ir (i + 1) ∧ WP 4 148 4 [vR m, vI (x + 1), vI (i + 1)] [] (Mx_3, S) Q
          refine ⟨(by unfold ir; omega), (by unfold ir; omega), ?_⟩
          exact ih_4 (i + 1) (x + 1) Mx_3 Lx_3 (by omega) (by rw [num_t h0.1 ⟨_, hx_2, _, hlx_3, by omega⟩]; omega) r_4 hLx_3 fr_6 (by omega)
        · refine WP.blk 6 ?_
          show ir (x + 0) ∧ ir (i + 1) ∧ WP 4 148 4 [vR m, vI (x + 0), vI (i + 1)] [] (Mx_3, S) Q
          refine ⟨(by unfold ir; omega), (by unfold ir; omega), ?_⟩
          exact ih_4 (i + 1) (x + 0) Mx_3 Lx_3 (by omega) (by rw [num_f h0.1 (hasP_no hA (hWA.2 i (by omega) (by omega)).1 hx_2 hlx_3 (by omega))]; omega) r_4 hLx_3 fr_6 (by omega)
  exact hl_4 _ 0 0 M g0 (by omega) num_0.symm hf hg0 (fun _ _ => rfl) (Nat.lt_succ_self _)
set_option maxHeartbeats 4000000 in
theorem r_tellValue {S : SD} {M : Nat → Int → Int} {m : Nat} {f : Int → Int} {a B : Int} (hS : isMod S m) (hf : M (m + 1) = f) (hR : RowOk B f) (ha : 0 ≤ a ∧ a ≤ 8) {Q : Res → Wd → Prop} (k : ∀ (v : Int) (M2 : Nat → Int → Int), (∀ r, r ≠ m + 6 → M2 r = M r) → TellV f a v → Q (0, vI v) (M2, S)) : EvQ 6 149 [vR m, vI a] (M, S) Q := by
  refine EvQ.enter (ls := [vR m, vI a]) (Nat.le_of_ble_eq_true rfl) rfl ?_
  obtain ⟨g0, hg0⟩ : ∃ g, M (m + 6) = g := ⟨_, rfl⟩
  refine WP.blk 3 ?_
  show WP 5 149 (if cnd .ge a 7 = true then 15 else 6) [vR m, vI a] [] (M, S) Q
  refine br_ge (fun c_1 => ?_) (fun c_1 => ?_)
  · refine WP.blk 3 ?_
    show WP 5 149 (if cnd .ne a 7 = true then 28 else 21) [vR m, vI a] [] (M, S) Q
    refine br_ne (fun c_2 => ?_) (fun c_2 => ?_)
    · refine WP.blk 1 ?_
      show WP 5 149 29 [vR m, vI a] [vR m] (M, S) Q
      refine WP.cl (a := [vR m]) (rest := []) rfl rfl rfl rfl ⟨hS.1.1, trivial⟩ (by decide) (r_withPlan hS hf hR (fun My_3 fry_3 => ⟨rfl, ?_⟩))
      show WP 5 149 32 [vR m, vI a] [vI (num (HasP f) (f 1))] (My_3, S) Q
      have r_4 : My_3 (m + 1) = f := (fry_3 _ (by omega)).trans hf
      obtain ⟨g_6, r_5⟩ : ∃ y9, My_3 (m + 6) = y9 := ⟨_, rfl⟩
      have fr_7 : ∀ r, r ≠ m + 6 → My_3 r = M r := fun r q0 => (fry_3 r q0).trans ((fun _ _ => rfl) r q0)
      exact WP.ret rfl rfl rfl trivial (k _ _ fr_7 (by unfold TellV; omega))
    · refine WP.blk 1 ?_
      show WP 5 149 22 [vR m, vI a] [vR m] (M, S) Q
      refine WP.cl (a := [vR m]) (rest := []) rfl rfl rfl rfl ⟨hS.1.1, trivial⟩ (by decide) (r_wornOut hS hf hR ⟨rfl, ?_⟩)
      show WP 5 149 25 [vR m, vI a] [vI (num (Worn f) (f 0))] (M, S) Q
      refine WP.blk 1 ?_
      show WP 5 149 32 [vR m, vI a] [vI (num (Worn f) (f 0))] (M, S) Q
      exact WP.ret rfl rfl rfl trivial (k _ _ (fun _ _ => rfl) (by unfold TellV; omega))
  · refine WP.blk 2 ?_
    show (sT S m = 10 ∧ sR S m 0 ≠ 0) ∧ WP 5 149 10 [vR m, vI a] [vR (sR S m 0)] (M, S) Q
    refine ⟨⟨hS.1.1, by rw [hS.1.2.1]; omega⟩, ?_⟩
    rw [hS.1.2.1]
    refine WP.blk 3 ?_
    show ((sT S (m + 1) = 11 ∨ sT S (m + 1) = 16 ∨ sT S (m + 1) = 17) ∧ 0 ≤ a ∧ a < (sN S (m + 1) : Int)) ∧ WP 5 149 32 [vR m, vI a] [vI (M (m + 1) a)] (M, S) Q
    rw [hf]
    refine ⟨⟨Or.inl hS.2.1.1, by omega, by rw [hS.2.2.1]; omega⟩, ?_⟩
    exact WP.ret rfl rfl rfl trivial (k _ _ (fun _ _ => rfl) (by unfold TellV; omega))
set_option maxHeartbeats 4000000 in
theorem r_tellStamp {S : SD} {M : Nat → Int → Int} {m : Nat} {f : Int → Int} {s a : Int} (hS : isMod S m) (hf : M (m + 1) = f) (hs : StOk f s) {Q : Res → Wd → Prop} (k : ∀ v : Int, TellS f s a v → Q (0, vI v) (M, S)) : EvQ 3 151 [vR m, vI s, vI a] (M, S) Q := by
  refine EvQ.enter (ls := [vR m, vI s, vI a, none]) (Nat.le_of_ble_eq_true rfl) rfl ?_
  have hs1 := hs.1
  have hs2 := hs.2.1
  have hs3 := hs.2.2.1
  have hs4 := hs.2.2.2.1
  refine WP.blk 1 ?_
  show WP 2 151 1 [vR m, vI s, vI a, none] [vI s] (M, S) Q
  refine WP.cl (a := [vI s]) (rest := []) rfl rfl rfl rfl trivial (by decide) (q_stampAt (by omega) ⟨rfl, ?_⟩)
  show WP 2 151 4 [vR m, vI s, vI a, none] [vI (7 + 9 * s)] (M, S) Q
  refine WP.blk 3 ?_
  show WP 2 151 (if a < 0 ∨ 4 < a then 91 else ((#[40, 47, 57, 67, 77] : Array Int).getD (a - 0).toNat 0).toNat) [vR m, vI s, vI a, vI (7 + 9 * s)] [] (M, S) Q
  rcases (show a = 0 ∨ a = 1 ∨ a = 2 ∨ a = 3 ∨ a = 4 ∨ (a < 0 ∨ 4 < a) by omega) with c_1 | c_1 | c_1 | c_1 | c_1 | c_1
  · refine sw_in (t := 40) 0 c_1 rfl ?_
    refine WP.blk 2 ?_
    show (sT S m = 10 ∧ sR S m 0 ≠ 0) ∧ WP 2 151 44 [vR m, vI s, vI a, vI (7 + 9 * s)] [vR (sR S m 0)] (M, S) Q
    refine ⟨⟨hS.1.1, by rw [hS.1.2.1]; omega⟩, ?_⟩
    rw [hS.1.2.1]
    refine WP.blk 2 ?_
    show ((sT S (m + 1) = 11 ∨ sT S (m + 1) = 16 ∨ sT S (m + 1) = 17) ∧ 0 ≤ (7 + 9 * s) ∧ (7 + 9 * s) < (sN S (m + 1) : Int)) ∧ WP 2 151 46 [vR m, vI s, vI a, vI (7 + 9 * s)] [vI (M (m + 1) (7 + 9 * s))] (M, S) Q
    rw [hf]
    refine ⟨⟨Or.inl hS.2.1.1, by omega, by rw [hS.2.2.1]; omega⟩, ?_⟩
    exact WP.ret rfl rfl rfl trivial (k _ (by unfold TellS; first | omega | (unfold Worn; omega) | (exact Or.inr (Or.inr (Or.inr (Or.inr (Or.inl ⟨by omega, Or.inl ⟨rfl, by assumption⟩⟩))))) | (exact Or.inr (Or.inr (Or.inr (Or.inr (Or.inl ⟨by omega, Or.inr ⟨rfl, by assumption⟩⟩)))))))
  · refine sw_in (t := 47) 1 c_1 rfl ?_
    refine WP.blk 2 ?_
    show (sT S m = 10 ∧ sR S m 0 ≠ 0) ∧ WP 2 151 51 [vR m, vI s, vI a, vI (7 + 9 * s)] [vR (sR S m 0)] (M, S) Q
    refine ⟨⟨hS.1.1, by rw [hS.1.2.1]; omega⟩, ?_⟩
    rw [hS.1.2.1]
    refine WP.blk 4 ?_
    show ir ((7 + 9 * s) + 6) ∧ ((sT S (m + 1) = 11 ∨ sT S (m + 1) = 16 ∨ sT S (m + 1) = 17) ∧ 0 ≤ ((7 + 9 * s) + 6) ∧ ((7 + 9 * s) + 6) < (sN S (m + 1) : Int)) ∧ WP 2 151 56 [vR m, vI s, vI a, vI (7 + 9 * s)] [vI (M (m + 1) ((7 + 9 * s) + 6))] (M, S) Q
    rw [hf]
    refine ⟨(by unfold ir; omega), ⟨Or.inl hS.2.1.1, by omega, by rw [hS.2.2.1]; omega⟩, ?_⟩
    exact WP.ret rfl rfl rfl trivial (k _ (by unfold TellS; first | omega | (unfold Worn; omega) | (exact Or.inr (Or.inr (Or.inr (Or.inr (Or.inl ⟨by omega, Or.inl ⟨rfl, by assumption⟩⟩))))) | (exact Or.inr (Or.inr (Or.inr (Or.inr (Or.inl ⟨by omega, Or.inr ⟨rfl, by assumption⟩⟩)))))))
  · refine sw_in (t := 57) 2 c_1 rfl ?_
    refine WP.blk 2 ?_
    show (sT S m = 10 ∧ sR S m 0 ≠ 0) ∧ WP 2 151 61 [vR m, vI s, vI a, vI (7 + 9 * s)] [vR (sR S m 0)] (M, S) Q
    refine ⟨⟨hS.1.1, by rw [hS.1.2.1]; omega⟩, ?_⟩
    rw [hS.1.2.1]
    refine WP.blk 4 ?_
    show ir ((7 + 9 * s) + 7) ∧ ((sT S (m + 1) = 11 ∨ sT S (m + 1) = 16 ∨ sT S (m + 1) = 17) ∧ 0 ≤ ((7 + 9 * s) + 7) ∧ ((7 + 9 * s) + 7) < (sN S (m + 1) : Int)) ∧ WP 2 151 66 [vR m, vI s, vI a, vI (7 + 9 * s)] [vI (M (m + 1) ((7 + 9 * s) + 7))] (M, S) Q
    rw [hf]
    refine ⟨(by unfold ir; omega), ⟨Or.inl hS.2.1.1, by omega, by rw [hS.2.2.1]; omega⟩, ?_⟩
    exact WP.ret rfl rfl rfl trivial (k _ (by unfold TellS; first | omega | (unfold Worn; omega) | (exact Or.inr (Or.inr (Or.inr (Or.inr (Or.inl ⟨by omega, Or.inl ⟨rfl, by assumption⟩⟩))))) | (exact Or.inr (Or.inr (Or.inr (Or.inr (Or.inl ⟨by omega, Or.inr ⟨rfl, by assumption⟩⟩)))))))
  · refine sw_in (t := 67) 3 c_1 rfl ?_
    refine WP.blk 2 ?_
    show (sT S m = 10 ∧ sR S m 0 ≠ 0) ∧ WP 2 151 71 [vR m, vI s, vI a, vI (7 + 9 * s)] [vR (sR S m 0)] (M, S) Q
    refine ⟨⟨hS.1.1, by rw [hS.1.2.1]; omega⟩, ?_⟩
    rw [hS.1.2.1]
    refine WP.blk 4 ?_
    show ir ((7 + 9 * s) + 8) ∧ ((sT S (m + 1) = 11 ∨ sT S (m + 1) = 16 ∨ sT S (m + 1) = 17) ∧ 0 ≤ ((7 + 9 * s) + 8) ∧ ((7 + 9 * s) + 8) < (sN S (m + 1) : Int)) ∧ WP 2 151 76 [vR m, vI s, vI a, vI (7 + 9 * s)] [vI (M (m + 1) ((7 + 9 * s) + 8))] (M, S) Q
    rw [hf]
    refine ⟨(by unfold ir; omega), ⟨Or.inl hS.2.1.1, by omega, by rw [hS.2.2.1]; omega⟩, ?_⟩
    exact WP.ret rfl rfl rfl trivial (k _ (by unfold TellS; first | omega | (unfold Worn; omega) | (exact Or.inr (Or.inr (Or.inr (Or.inr (Or.inl ⟨by omega, Or.inl ⟨rfl, by assumption⟩⟩))))) | (exact Or.inr (Or.inr (Or.inr (Or.inr (Or.inl ⟨by omega, Or.inr ⟨rfl, by assumption⟩⟩)))))))
  · refine sw_in (t := 77) 4 c_1 rfl ?_
    refine WP.blk 2 ?_
    show WP 2 151 79 [vR m, vI s, vI a, vI (7 + 9 * s)] [vI s, vR m] (M, S) Q
    refine WP.cl (a := [vR m, vI s]) (rest := []) rfl rfl rfl rfl ⟨hS.1.1, trivial⟩ (by decide) (r_canTurn hS hf hs (fun b_2 hb_2 => ⟨rfl, ?_⟩))
    show WP 2 151 82 [vR m, vI s, vI a, vI (7 + 9 * s)] [vI b_2] (M, S) Q
    refine WP.blk 1 ?_
    show WP 2 151 (if cnd .eq b_2 0 = true then 89 else 85) [vR m, vI s, vI a, vI (7 + 9 * s)] [] (M, S) Q
    refine br_eq (fun c_3 => ?_) (fun c_3 => ?_)
    · have p_2 := (hb_2.resolve_left (fun h => by omega)).2
      refine WP.blk 1 ?_
      show WP 2 151 90 [vR m, vI s, vI a, vI (7 + 9 * s)] [vI 0] (M, S) Q
      exact WP.ret rfl rfl rfl trivial (k _ (by unfold TellS; first | omega | (unfold Worn; omega) | (exact Or.inr (Or.inr (Or.inr (Or.inr (Or.inl ⟨by omega, Or.inl ⟨rfl, by assumption⟩⟩))))) | (exact Or.inr (Or.inr (Or.inr (Or.inr (Or.inl ⟨by omega, Or.inr ⟨rfl, by assumption⟩⟩)))))))
    · have p_2 := (hb_2.resolve_right (fun h => by omega)).2
      refine WP.blk 2 ?_
      show WP 2 151 90 [vR m, vI s, vI a, vI (7 + 9 * s)] [vI 1] (M, S) Q
      exact WP.ret rfl rfl rfl trivial (k _ (by unfold TellS; first | omega | (unfold Worn; omega) | (exact Or.inr (Or.inr (Or.inr (Or.inr (Or.inl ⟨by omega, Or.inl ⟨rfl, by assumption⟩⟩))))) | (exact Or.inr (Or.inr (Or.inr (Or.inr (Or.inl ⟨by omega, Or.inr ⟨rfl, by assumption⟩⟩)))))))
  · refine sw_out c_1 ?_
    refine WP.blk 2 ?_
    show WP 2 151 93 [vR m, vI s, vI a, vI (7 + 9 * s)] [vI s, vR m] (M, S) Q
    refine WP.cl (a := [vR m, vI s]) (rest := []) rfl rfl rfl rfl ⟨hS.1.1, trivial⟩ (by decide) (r_isWorn hS hf (by omega) (fun b_4 hb_4 => ⟨rfl, ?_⟩))
    show WP 2 151 96 [vR m, vI s, vI a, vI (7 + 9 * s)] [vI b_4] (M, S) Q
    refine WP.blk 1 ?_
    show WP 2 151 (if cnd .eq b_4 0 = true then 103 else 99) [vR m, vI s, vI a, vI (7 + 9 * s)] [] (M, S) Q
    refine br_eq (fun c_5 => ?_) (fun c_5 => ?_)
    · have p_4 := (hb_4.resolve_left (fun h => by omega)).2
      refine WP.blk 1 ?_
      show WP 2 151 104 [vR m, vI s, vI a, vI (7 + 9 * s)] [vI 0] (M, S) Q
      exact WP.ret rfl rfl rfl trivial (k _ (by unfold TellS; first | omega | (unfold Worn; omega) | (exact Or.inr (Or.inr (Or.inr (Or.inr (Or.inl ⟨by omega, Or.inl ⟨rfl, by assumption⟩⟩))))) | (exact Or.inr (Or.inr (Or.inr (Or.inr (Or.inl ⟨by omega, Or.inr ⟨rfl, by assumption⟩⟩)))))))
    · have p_4 := (hb_4.resolve_right (fun h => by omega)).2
      refine WP.blk 2 ?_
      show WP 2 151 104 [vR m, vI s, vI a, vI (7 + 9 * s)] [vI 1] (M, S) Q
      exact WP.ret rfl rfl rfl trivial (k _ (by unfold TellS; first | omega | (unfold Worn; omega) | (exact Or.inr (Or.inr (Or.inr (Or.inr (Or.inl ⟨by omega, Or.inl ⟨rfl, by assumption⟩⟩))))) | (exact Or.inr (Or.inr (Or.inr (Or.inr (Or.inl ⟨by omega, Or.inr ⟨rfl, by assumption⟩⟩)))))))
