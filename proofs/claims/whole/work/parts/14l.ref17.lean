set_option maxHeartbeats 4000000 in
theorem r_lays {S : SD} {M : Nat → Int → Int} {m : Nat} {f : Int → Int} {t h : Int → Int} {p : Int} (hS : isMod S m) (hf : M (m + 1) = f) (ht : M (m + 8) = t) (hh : M (m + 9) = h) (hp : 0 ≤ p ∧ p ≤ 6) {Q : Res → Wd → Prop} (k : ∀ M2 : Nat → Int → Int, (∀ r, r ≠ m + 8 → r ≠ m + 9 → M2 r = M r) → M2 (m + 8) = uf t p (-1) → M2 (m + 9) = rcp f 0 h (195 * p) 195 → Q (0, none) (M2, S)) : EvQ 1 166 [vR m, vI p] (M, S) Q := by
  refine EvQ.enter (ls := [vR m, vI p, none]) (Nat.le_of_ble_eq_true rfl) rfl ?_
  refine WP.blk 2 ?_
  show WP 0 166 2 [vR m, vI p, vI 0] [] (M, S) Q
  have hl_2 : ∀ (n_2 : Nat) (i : Int) (M1 : Nat → Int → Int) (g : Int → Int), 0 ≤ i ∧ i ≤ 195 → g = rcp f 0 h (195 * p) i → M1 (m + 1) = f → M1 (m + 8) = t → M1 (m + 9) = g → (∀ r, r ≠ m + 8 → r ≠ m + 9 → M1 r = M r) → (195 - i).toNat < n_2 → WP 0 166 2 [vR m, vI p, vI i] [] (M1, S) Q := by
    intro n_2
    induction n_2 with
    | zero => intro i M1 g h0 h1 z_2_0 z_2_1 z_2_2 fr_2 hm_2; exact absurd hm_2 (Nat.not_lt_zero _)
    | succ n_2 ih_2 =>
      intro i M1 g h0 h1 z_2_0 z_2_1 z_2_2 fr_2 hm_2
      refine WP.blk 3 ?_
      show WP 0 166 (if cnd .ge i 195 = true then 33 else 9) [vR m, vI p, vI i] [] (M1, S) Q
      refine br_ge (fun c_1 => ?_) (fun c_1 => ?_)
      · refine WP.blk 2 ?_
        show (sT S m = 10 ∧ sR S m 12 ≠ 0) ∧ WP 0 166 37 [vR m, vI p, vI i] [vR (sR S m 12)] (M1, S) Q
        refine ⟨⟨hS.1.1, by rw [hS.1.2.2.2.2.2.2.2.2.1]; omega⟩, ?_⟩
        rw [hS.1.2.2.2.2.2.2.2.2.1]
        refine WP.blk 3 ?_
        show (sT S (m + 8) = 11 ∧ 0 ≤ p ∧ p < (sN S (m + 8) : Int)) ∧ WP 0 166 40 [vR m, vI p, vI i] [] (up M1 (m + 8) p (-1), S) Q
        refine ⟨⟨hS.2.1.2.2.2.2.2.2.2.1, by omega, by rw [hS.2.2.2.2.2.2.2.2.2.1]; omega⟩, ?_⟩
        generalize hM_2 : up M1 (m + 8) p (-1) = M_2
        have r_3 : M_2 (m + 1) = f := by rw [← hM_2]; exact (up_row (by omega)).trans z_2_0
        obtain ⟨g_5, hg_5⟩ : ∃ y9, y9 = uf t p (-1) := ⟨_, rfl⟩
        have r_4 : M_2 (m + 8) = g_5 := by rw [← hM_2, hg_5, up_self, z_2_1]
        have r_6 : M_2 (m + 9) = g := by rw [← hM_2]; exact (up_row (by omega)).trans z_2_2
        have fr_7 : ∀ r, r ≠ m + 8 → r ≠ m + 9 → M_2 r = M r := fun r q0 q1 => by rw [← hM_2]; exact (up_row q0).trans (fr_2 r q0 q1)
        exact WP.ret rfl rfl rfl trivial (k _ fr_7 (by rw [r_4, hg_5]) (by rw [r_6, h1, show i = 195 by omega]))
      · refine WP.blk 2 ?_
        show (sT S m = 10 ∧ sR S m 13 ≠ 0) ∧ WP 0 166 13 [vR m, vI p, vI i] [vR (sR S m 13)] (M1, S) Q
        refine ⟨⟨hS.1.1, by rw [hS.1.2.2.2.2.2.2.2.2.2.1]; omega⟩, ?_⟩
        rw [hS.1.2.2.2.2.2.2.2.2.2.1]
        refine WP.blk 7 ?_
        show ir (195 * p) ∧ ir ((195 * p) + i) ∧ (sT S m = 10 ∧ sR S m 0 ≠ 0) ∧ WP 0 166 24 [vR m, vI p, vI i] [vR (sR S m 0), vI ((195 * p) + i), vR (m + 9)] (M1, S) Q
        refine ⟨(by unfold ir; omega), (by unfold ir; omega), ⟨hS.1.1, by rw [hS.1.2.1]; omega⟩, ?_⟩
        rw [hS.1.2.1]
        refine WP.blk 3 ?_
        show ((sT S (m + 1) = 11 ∨ sT S (m + 1) = 16 ∨ sT S (m + 1) = 17) ∧ 0 ≤ i ∧ i < (sN S (m + 1) : Int)) ∧ (sT S (m + 9) = 11 ∧ 0 ≤ ((195 * p) + i) ∧ ((195 * p) + i) < (sN S (m + 9) : Int)) ∧ WP 0 166 27 [vR m, vI p, vI i] [] (up M1 (m + 9) ((195 * p) + i) (M1 (m + 1) i), S) Q
        rw [z_2_0]
        refine ⟨⟨Or.inl hS.2.1.1, by omega, by rw [hS.2.2.1]; omega⟩, ⟨hS.2.1.2.2.2.2.2.2.2.2.1, by omega, by rw [hS.2.2.2.2.2.2.2.2.2.2.1]; omega⟩, ?_⟩
        generalize hM_8 : up M1 (m + 9) ((195 * p) + i) (f i) = M_8
        have r_9 : M_8 (m + 1) = f := by rw [← hM_8]; exact (up_row (by omega)).trans z_2_0
        have r_10 : M_8 (m + 8) = t := by rw [← hM_8]; exact (up_row (by omega)).trans z_2_1
        obtain ⟨g_12, hg_12⟩ : ∃ y9, y9 = uf g ((195 * p) + i) (f i) := ⟨_, rfl⟩
        have r_11 : M_8 (m + 9) = g_12 := by rw [← hM_8, hg_12, up_self, z_2_2]
        have fr_13 : ∀ r, r ≠ m + 8 → r ≠ m + 9 → M_8 r = M r := fun r q0 q1 => by rw [← hM_8]; exact (up_row q1).trans (fr_2 r q0 q1)
        refine WP.blk 2 ?_
        show ir (i + 1) ∧ WP 0 166 2 [vR m, vI p, vI (i + 1)] [] (M_8, S) Q
        refine ⟨(by unfold ir; omega), ?_⟩
        exact ih_2 (i + 1) M_8 g_12 (by omega) (by rw [hg_12, h1]; exact rcp_s h0.1 (by omega) (by congr 1; omega)) r_9 r_10 r_11 fr_13 (by omega)
  exact hl_2 _ 0 M h (by omega) rcp_0.symm hf ht hh (fun _ _ _ => rfl) (Nat.lt_succ_self _)
set_option maxHeartbeats 4000000 in
theorem r_picks {S : SD} {M : Nat → Int → Int} {m : Nat} {f : Int → Int} {t h : Int → Int} {p : Int} (hS : isMod S m) (hf : M (m + 1) = f) (ht : M (m + 8) = t) (hh : M (m + 9) = h) (hp : 0 ≤ p ∧ p ≤ 6) {Q : Res → Wd → Prop} (k : ∀ M2 : Nat → Int → Int, (∀ r, r ≠ m + 1 → M2 r = M r) → M2 (m + 1) = rcp h (195 * p) f 0 195 → Q (0, none) (M2, S)) : EvQ 1 167 [vR m, vI p] (M, S) Q := by
  refine EvQ.enter (ls := [vR m, vI p, none]) (Nat.le_of_ble_eq_true rfl) rfl ?_
  refine WP.blk 2 ?_
  show WP 0 167 2 [vR m, vI p, vI 0] [] (M, S) Q
  have hl_2 : ∀ (n_2 : Nat) (i : Int) (M1 : Nat → Int → Int) (g : Int → Int), 0 ≤ i ∧ i ≤ 195 → g = rcp h (195 * p) f 0 i → M1 (m + 1) = g → M1 (m + 8) = t → M1 (m + 9) = h → (∀ r, r ≠ m + 1 → M1 r = M r) → (195 - i).toNat < n_2 → WP 0 167 2 [vR m, vI p, vI i] [] (M1, S) Q := by
    intro n_2
    induction n_2 with
    | zero => intro i M1 g h0 h1 z_2_0 z_2_1 z_2_2 fr_2 hm_2; exact absurd hm_2 (Nat.not_lt_zero _)
    | succ n_2 ih_2 =>
      intro i M1 g h0 h1 z_2_0 z_2_1 z_2_2 fr_2 hm_2
      refine WP.blk 3 ?_
      show WP 0 167 (if cnd .ge i 195 = true then 33 else 9) [vR m, vI p, vI i] [] (M1, S) Q
      refine br_ge (fun c_1 => ?_) (fun c_1 => ?_)
      · exact WP.ret rfl rfl rfl trivial (k _ fr_2 (by rw [z_2_0, h1, show i = 195 by omega]))
      · refine WP.blk 2 ?_
        show (sT S m = 10 ∧ sR S m 0 ≠ 0) ∧ WP 0 167 13 [vR m, vI p, vI i] [vR (sR S m 0)] (M1, S) Q
        refine ⟨⟨hS.1.1, by rw [hS.1.2.1]; omega⟩, ?_⟩
        rw [hS.1.2.1]
        refine WP.blk 3 ?_
        show (sT S m = 10 ∧ sR S m 13 ≠ 0) ∧ WP 0 167 18 [vR m, vI p, vI i] [vR (sR S m 13), vI i, vR (m + 1)] (M1, S) Q
        refine ⟨⟨hS.1.1, by rw [hS.1.2.2.2.2.2.2.2.2.2.1]; omega⟩, ?_⟩
        rw [hS.1.2.2.2.2.2.2.2.2.2.1]
        refine WP.blk 7 ?_
        show ir (195 * p) ∧ ir ((195 * p) + i) ∧ ((sT S (m + 9) = 11 ∨ sT S (m + 9) = 16 ∨ sT S (m + 9) = 17) ∧ 0 ≤ ((195 * p) + i) ∧ ((195 * p) + i) < (sN S (m + 9) : Int)) ∧ (sT S (m + 1) = 11 ∧ 0 ≤ i ∧ i < (sN S (m + 1) : Int)) ∧ WP 0 167 27 [vR m, vI p, vI i] [] (up M1 (m + 1) i (M1 (m + 9) ((195 * p) + i)), S) Q
        rw [z_2_2]
        refine ⟨(by unfold ir; omega), (by unfold ir; omega), ⟨Or.inl hS.2.1.2.2.2.2.2.2.2.2.1, by omega, by rw [hS.2.2.2.2.2.2.2.2.2.2.1]; omega⟩, ⟨hS.2.1.1, by omega, by rw [hS.2.2.1]; omega⟩, ?_⟩
        generalize hM_2 : up M1 (m + 1) i (h ((195 * p) + i)) = M_2
        obtain ⟨g_4, hg_4⟩ : ∃ y9, y9 = uf g i (h ((195 * p) + i)) := ⟨_, rfl⟩
        have r_3 : M_2 (m + 1) = g_4 := by rw [← hM_2, hg_4, up_self, z_2_0]
        have r_5 : M_2 (m + 8) = t := by rw [← hM_2]; exact (up_row (by omega)).trans z_2_1
        have r_6 : M_2 (m + 9) = h := by rw [← hM_2]; exact (up_row (by omega)).trans z_2_2
        have fr_7 : ∀ r, r ≠ m + 1 → M_2 r = M r := fun r q0 => by rw [← hM_2]; exact (up_row q0).trans (fr_2 r q0)
        refine WP.blk 2 ?_
        show ir (i + 1) ∧ WP 0 167 2 [vR m, vI p, vI (i + 1)] [] (M_2, S) Q
        refine ⟨(by unfold ir; omega), ?_⟩
        exact ih_2 (i + 1) M_2 g_4 (by omega) (by rw [hg_4, h1]; exact rcp_s h0.1 (by omega) (by congr 1)) r_3 r_5 r_6 fr_7 (by omega)
  exact hl_2 _ 0 M f (by omega) rcp_0.symm hf ht hh (fun _ _ => rfl) (Nat.lt_succ_self _)
set_option maxHeartbeats 4000000 in
theorem r_isUsed {S : SD} {M : Nat → Int → Int} {m : Nat} {f : Int → Int} {t h : Int → Int} {p : Int} (hS : isMod S m) (hf : M (m + 1) = f) (ht : M (m + 8) = t) (hh : M (m + 9) = h) (hp : 0 ≤ p ∧ p ≤ 6) {Q : Res → Wd → Prop} (k : ∀ b : Int, (b = 0 ∧ ∀ j, 0 ≤ j → j < p → ¬ t j = t p) ∨ (b = 1 ∧ ¬ ∀ j, 0 ≤ j → j < p → ¬ t j = t p) → Q (0, vI b) (M, S)) : EvQ 1 168 [vR m, vI p] (M, S) Q := by
  refine EvQ.enter (ls := [vR m, vI p, none, none]) (Nat.le_of_ble_eq_true rfl) rfl ?_
  refine WP.blk 4 ?_
  show WP 0 168 4 [vR m, vI p, vI 0, vI 0] [] (M, S) Q
  have hl_4 : ∀ (n_4 : Nat) (i : Int) (b : Int), 0 ≤ i ∧ i ≤ p → AllB (fun j => ¬ t j = t p) i (1 - b) → (p - i).toNat < n_4 → WP 0 168 4 [vR m, vI p, vI b, vI i] [] (M, S) Q := by
    intro n_4
    induction n_4 with
    | zero => intro i b h0 h1 hm_4; exact absurd hm_4 (Nat.not_lt_zero _)
    | succ n_4 ih_4 =>
      intro i b h0 h1 hm_4
      have h8 := AllB_b h1
      refine WP.blk 3 ?_
      show WP 0 168 (if cnd .ge i p = true then 40 else 9) [vR m, vI p, vI b, vI i] [] (M, S) Q
      refine br_ge (fun c_1 => ?_) (fun c_1 => ?_)
      · refine WP.blk 1 ?_
        show WP 0 168 41 [vR m, vI p, vI b, vI i] [vI b] (M, S) Q
        refine WP.ret rfl rfl rfl ⟨by first | omega | (rcases AllB_b h1 with h9 | h9 <;> omega), trivial⟩ ?_
        refine k _ ?_
        rcases h1 with ⟨g1, g2⟩ | ⟨g1, j, g2, g3, g4⟩
        · exact Or.inl ⟨by omega, fun j a c => g2 j a (by omega)⟩
        · exact Or.inr ⟨by omega, fun h9 => g4 (h9 j g2 (by omega))⟩
      · refine WP.blk 2 ?_
        show WP 0 168 (if cnd .ne b 0 = true then 28 else 13) [vR m, vI p, vI b, vI i] [] (M, S) Q
        refine br_ne (fun c_2 => ?_) (fun c_2 => ?_)
        · refine WP.blk 5 ?_
          show ir (i + 1) ∧ WP 0 168 4 [vR m, vI p, vI 1, vI (i + 1)] [] (M, S) Q
          refine ⟨(by unfold ir; first | omega | (rcases AllB_b h1 with h9 | h9 <;> omega)), ?_⟩
          exact ih_4 (i + 1) 1 (by omega) (by first | exact AllB_2 h1 (by omega) | exact AllB_3 (by omega) (fun h9 => h9 (by assumption)))  (by omega)
        · refine WP.blk 2 ?_
          show (sT S m = 10 ∧ sR S m 12 ≠ 0) ∧ WP 0 168 17 [vR m, vI p, vI b, vI i] [vR (sR S m 12)] (M, S) Q
          refine ⟨⟨hS.1.1, by rw [hS.1.2.2.2.2.2.2.2.2.1]; omega⟩, ?_⟩
          rw [hS.1.2.2.2.2.2.2.2.2.1]
          refine WP.blk 4 ?_
          show ((sT S (m + 8) = 11 ∨ sT S (m + 8) = 16 ∨ sT S (m + 8) = 17) ∧ 0 ≤ i ∧ i < (sN S (m + 8) : Int)) ∧ (sT S m = 10 ∧ sR S m 12 ≠ 0) ∧ WP 0 168 23 [vR m, vI p, vI b, vI i] [vR (sR S m 12), vI (M (m + 8) i)] (M, S) Q
          rw [ht]
          refine ⟨⟨Or.inl hS.2.1.2.2.2.2.2.2.2.1, by first | omega | (rcases AllB_b h1 with h9 | h9 <;> omega), by rw [hS.2.2.2.2.2.2.2.2.2.1]; first | omega | (rcases AllB_b h1 with h9 | h9 <;> omega)⟩, ⟨hS.1.1, by rw [hS.1.2.2.2.2.2.2.2.2.1]; omega⟩, ?_⟩
          rw [hS.1.2.2.2.2.2.2.2.2.1]
          refine WP.blk 3 ?_
          show ((sT S (m + 8) = 11 ∨ sT S (m + 8) = 16 ∨ sT S (m + 8) = 17) ∧ 0 ≤ p ∧ p < (sN S (m + 8) : Int)) ∧ WP 0 168 (if cnd .ne (t i) (M (m + 8) p) = true then 32 else 28) [vR m, vI p, vI b, vI i] [] (M, S) Q
          rw [ht]
          refine ⟨⟨Or.inl hS.2.1.2.2.2.2.2.2.2.1, by first | omega | (rcases AllB_b h1 with h9 | h9 <;> omega), by rw [hS.2.2.2.2.2.2.2.2.2.1]; first | omega | (rcases AllB_b h1 with h9 | h9 <;> omega)⟩, ?_⟩
          refine br_ne (fun c_3 => ?_) (fun c_3 => ?_)
          · refine WP.blk 4 ?_
            show ir (i + 1) ∧ WP 0 168 4 [vR m, vI p, vI 0, vI (i + 1)] [] (M, S) Q
            refine ⟨(by unfold ir; first | omega | (rcases AllB_b h1 with h9 | h9 <;> omega)), ?_⟩
            exact ih_4 (i + 1) 0 (by omega) (AllB_1 h1 (by omega) (by assumption))  (by omega)
          · refine WP.blk 5 ?_
            show ir (i + 1) ∧ WP 0 168 4 [vR m, vI p, vI 1, vI (i + 1)] [] (M, S) Q
            refine ⟨(by unfold ir; first | omega | (rcases AllB_b h1 with h9 | h9 <;> omega)), ?_⟩
            exact ih_4 (i + 1) 1 (by omega) (by first | exact AllB_2 h1 (by omega) | exact AllB_3 (by omega) (fun h9 => h9 (by assumption)))  (by omega)
  exact hl_4 _ 0 0 (by omega) AllB_0  (Nat.lt_succ_self _)
