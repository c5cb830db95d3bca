/-! the law: cells, numbers, the state as a number, letters that turn, presses in all -/
theorem z_cell {L : Nat} {w : Wd} {k9 : Int} {Q : Res → Wd → Prop} (hL : ty w 1 = 16 ∧ ln w 1 = L) (hk : 0 ≤ k9 ∧ k9 ≤ 1000) (k : ∀ v, Q (0, vI v) w) : EvQ 1 107 [vR 1, vI k9] w Q := by
  refine EvQ.enter (ls := [vR 1, vI k9, none]) (Nat.le_of_ble_eq_true rfl) rfl ?_
  refine WP.blk 2 ?_
  show WP 0 107 2 [vR 1, vI k9, none] [vR 1, vI k9] w Q
  refine WP.blk 1 ?_
  show (ty w 1 = 11 ∨ ty w 1 = 16 ∨ ty w 1 = 17) ∧ WP 0 107 3 [vR 1, vI k9, none] [vI (ln w 1 : Int), vI k9] w Q
  refine ⟨Or.inr (Or.inl hL.1), ?_⟩
  rw [hL.2]
  refine WP.blk 1 ?_
  show WP 0 107 (if cnd .ge k9 (L : Int) = true then 12 else 6) [vR 1, vI k9, none] [] w Q
  refine br_ge (fun c1 => ?_) (fun c1 => ?_)
  · refine WP.blk 11 ?_
    show ir (k9 + 3) ∧ WP 0 107 25 [vR 1, vI k9, vI (iM 916318735 (k9 + 3))] [vI (iX (iM 916318735 (k9 + 3)) (iU (iM 916318735 (k9 + 3)) 15))] w Q
    refine ⟨(by unfold ir; omega), ?_⟩
    exact WP.ret rfl rfl rfl trivial (k _)
  · refine WP.blk 2 ?_
    show WP 0 107 8 [vR 1, vI k9, none] [vI k9, vR 1] w Q
    refine WP.blk 1 ?_
    show ((ty w 1 = 11 ∨ ty w 1 = 16 ∨ ty w 1 = 17) ∧ 0 ≤ k9 ∧ k9 < (ln w 1 : Int)) ∧ WP 0 107 9 [vR 1, vI k9, none] [vI (gi w 1 k9)] w Q
    refine ⟨⟨Or.inr (Or.inl hL.1), by omega, by rw [hL.2]; omega⟩, ?_⟩
    refine WP.blk 7 ?_
    show WP 0 107 25 [vR 1, vI k9, vI (gi w 1 k9)] [vI (iX (gi w 1 k9) (iU (gi w 1 k9) 15))] w Q
    exact WP.ret rfl rfl rfl trivial (k _)
def lw9 (v n : Int) : Int := iA v 2147483647 % n
theorem ia_pos (v : Int) : 0 ≤ iA v 2147483647 ∧ iA v 2147483647 ≤ 2147483647 := by
  unfold iA
  have h : Int32.ofInt v = nI (Int32.ofInt v).toBitVec.toNat := by
    rw [← Int32.toBitVec_inj, nI_bv]
    apply BitVec.eq_of_toNat_eq
    rw [BitVec.toNat_ofNat]
    exact (Nat.mod_eq_of_lt (Int32.ofInt v).toBitVec.isLt).symm
  have h9 : Int32.ofInt 2147483647 = nI 2147483647 := ofi_n 2147483647
  rw [h, h9]
  generalize (Int32.ofInt v).toBitVec.toNat = n
  have h2 : nI n &&& nI 2147483647 = nI (n &&& 2147483647) := by
    rw [← Int32.toBitVec_inj, Int32.toBitVec_and, nI_bv, nI_bv, nI_bv]
    exact (BitVec.ofNat_and).symm
  have h3 : n &&& 2147483647 ≤ 2147483647 := Nat.and_le_right
  rw [h2, nI_toInt (by omega)]
  omega
theorem lw9_r {v n : Int} (hn : 0 < n) : 0 ≤ lw9 v n ∧ lw9 v n < n := ⟨Int.emod_nonneg _ (by omega), Int.emod_lt_of_pos _ hn⟩
theorem z_low {w : Wd} {v n : Int} {Q : Res → Wd → Prop} (hn : 0 < n) (k : Q (0, vI (lw9 v n)) w) : EvQ 1 108 [vI v, vI n] w Q := by
  refine EvQ.enter (ls := [vI v, vI n]) (Nat.le_of_ble_eq_true rfl) rfl ?_
  have hp := ia_pos v
  refine WP.blk 5 ?_
  show (0 ≤ (iA v 2147483647) ∧ 0 < n) ∧ WP 0 108 6 [vI v, vI n] [vI ((iA v 2147483647) % n)] w Q
  refine ⟨(by omega), ?_⟩
  exact WP.ret rfl rfl rfl trivial (k)
/-- the state as a number -/
noncomputable def sO (f : Int → Int) : Int := fld (fun i h => mx (lV f i) 12 (mx (wV f i) 4 h)) 7 (fld (fun i h => mx (fun k => pV f i k 0) 5 (mx (sV f i) 6 h)) 10 (mx (vV f) 9 107))
set_option maxHeartbeats 4000000 in
theorem z_state {N B : Int} {x L : Nat} {w : Wd} {f : Int → Int} {fs : List (Int → Int)} {sv : Int} {Q : Res → Wd → Prop} (h : LwS N B x L w f fs sv) (k : ∀ w', LwS (N + 240) B x L w' f fs sv → Q (0, vL (sO f)) w') : EvQ 9 109 [vR x] w Q := by
  refine EvQ.enter (ls := [vR x, none, none, none, none]) (Nat.le_of_ble_eq_true rfl) rfl ?_
  refine WP.blk 4 ?_
  show WP 8 109 6 [vR x, vL 107, none, vI 0, none] [] w Q
  have hl_6 : ∀ (n_6 : Nat) (i : Int) (v : Int) (w_6 : Wd), 0 ≤ i ∧ i ≤ 9 → v = mx (vV f) i 107 → LwS (N + i) (B) x L w_6 f fs sv → (9 - i).toNat < n_6 → WP 8 109 6 [vR x, vL v, none, vI i, none] [] w_6 Q := by
    intro n_6
    induction n_6 with
    | zero => intro i v w_6 q0 q1 h_6 hm_6; exact absurd hm_6 (Nat.not_lt_zero _)
    | succ n_6 ih_6 =>
      intro i v w_6 q0 q1 h_6 hm_6
      refine WP.blk 3 ?_
      show WP 8 109 (if cnd .ge i 9 = true then 31 else 12) [vR x, vL v, none, vI i, none] [] w_6 Q
      refine br_ge (fun c1 => ?_) (fun c1 => ?_)
      · refine WP.blk 2 ?_
        show WP 8 109 33 [vR x, vL v, none, vI 0, none] [] w_6 Q
        have hl_33 : ∀ (n_33 : Nat) (i : Int) (v : Int) (a4_33 : V) (w_33 : Wd), 0 ≤ i ∧ i ≤ 10 → v = fld (fun i h => mx (fun k => pV f i k 0) 5 (mx (sV f i) 6 h)) i (mx (vV f) 9 107) → LwS (N + 9 + 11 * i) (B) x L w_33 f fs sv → (10 - i).toNat < n_33 → WP 8 109 33 [vR x, vL v, none, vI i, a4_33] [] w_33 Q := by
          intro n_33
          induction n_33 with
          | zero => intro i v a4_33 w_33 r0 r1 h_33 hm_33; exact absurd hm_33 (Nat.not_lt_zero _)
          | succ n_33 ih_33 =>
            intro i v a4_33 w_33 r0 r1 h_33 hm_33
            refine WP.blk 3 ?_
            show WP 8 109 (if cnd .ge i 10 = true then 107 else 39) [vR x, vL v, none, vI i, a4_33] [] w_33 Q
            refine br_ge (fun c2 => ?_) (fun c2 => ?_)
            · refine WP.blk 2 ?_
              show WP 8 109 109 [vR x, vL v, none, vI 0, a4_33] [] w_33 Q
              have hl_109 : ∀ (n_109 : Nat) (i : Int) (v : Int) (a4_109 : V) (w_109 : Wd), 0 ≤ i ∧ i ≤ 7 → v = fld (fun i h => mx (lV f i) 12 (mx (wV f i) 4 h)) i (fld (fun i h => mx (fun k => pV f i k 0) 5 (mx (sV f i) 6 h)) 10 (mx (vV f) 9 107)) → LwS (N + 119 + 16 * i) (B) x L w_109 f fs sv → (7 - i).toNat < n_109 → WP 8 109 109 [vR x, vL v, none, vI i, a4_109] [] w_109 Q := by
                intro n_109
                induction n_109 with
                | zero => intro i v a4_109 w_109 u0 u1 h_109 hm_109; exact absurd hm_109 (Nat.not_lt_zero _)
                | succ n_109 ih_109 =>
                  intro i v a4_109 w_109 u0 u1 h_109 hm_109
                  refine WP.blk 3 ?_
                  show WP 8 109 (if cnd .ge i 7 = true then 182 else 115) [vR x, vL v, none, vI i, a4_109] [] w_109 Q
                  refine br_ge (fun c3 => ?_) (fun c3 => ?_)
                  · refine WP.blk 1 ?_
                    show WP 8 109 183 [vR x, vL v, none, vI i, a4_109] [vL v] w_109 Q
                    exact WP.ret rfl rfl rfl trivial (by rw [show v = sO f by rw [u1, show i = 7 by omega]; rfl]; exact k _ (ls_le h_109 (by omega)))
                  · refine WP.blk 2 ?_
                    show WP 8 109 118 [vR x, vL v, none, vI i, vI 0] [] w_109 Q
                    have hl_118 : ∀ (n_118 : Nat) (j : Int) (v9 : Int) (w_118 : Wd), 0 ≤ j ∧ j ≤ 4 → v9 = mx (wV f i) j v → LwS (N + 119 + 16 * i + j) (B) x L w_118 f fs sv → (4 - j).toNat < n_118 → WP 8 109 118 [vR x, vL v9, none, vI i, vI j] [] w_118 Q := by
                      intro n_118
                      induction n_118 with
                      | zero => intro j v9 w_118 x0 x1 h_118 hm_118; exact absurd hm_118 (Nat.not_lt_zero _)
                      | succ n_118 ih_118 =>
                        intro j v9 w_118 x0 x1 h_118 hm_118
                        refine WP.blk 3 ?_
                        show WP 8 109 (if cnd .ge j 4 = true then 145 else 124) [vR x, vL v9, none, vI i, vI j] [] w_118 Q
                        refine br_ge (fun c4 => ?_) (fun c4 => ?_)
                        · refine WP.blk 2 ?_
                          show WP 8 109 148 [vR x, vL v9, none, vI i, vI 0] [] w_118 Q
                          have hl_148 : ∀ (n_148 : Nat) (k : Int) (v8 : Int) (w_148 : Wd), 0 ≤ k ∧ k ≤ 12 → v8 = mx (lV f i) k (mx (wV f i) 4 v) → LwS (N + 119 + 16 * i + 4 + k) (B) x L w_148 f fs sv → (12 - k).toNat < n_148 → WP 8 109 148 [vR x, vL v8, none, vI i, vI k] [] w_148 Q := by
                            intro n_148
                            induction n_148 with
                            | zero => intro k v8 w_148 y0 y1 h_148 hm_148; exact absurd hm_148 (Nat.not_lt_zero _)
                            | succ n_148 ih_148 =>
                              intro k v8 w_148 y0 y1 h_148 hm_148
                              refine WP.blk 3 ?_
                              show WP 8 109 (if cnd .ge k 12 = true then 176 else 155) [vR x, vL v8, none, vI i, vI k] [] w_148 Q
                              refine br_ge (fun c5 => ?_) (fun c5 => ?_)
                              · refine WP.blk 2 ?_
                                show ir (i + 1) ∧ WP 8 109 109 [vR x, vL v8, none, vI (i + 1), vI k] [] w_148 Q
                                refine ⟨(by unfold ir; omega), ?_⟩
                                exact ih_109 (i + 1) v8 (vI k) w_148 (by omega) (by rw [fld_s u0.1, ← u1, y1, show k = 12 by omega]) (ls_le h_148 (by omega)) (by omega)
                              · refine WP.blk 6 ?_
                                show WP 8 109 164 [vR x, vL v8, none, vI i, vI k] [vI k, vI i, vR x, vL (31 * v8)] w_148 Q
                                refine WP.cl (a := [vR x, vI i, vI k]) (rest := [vL (31 * v8)]) rfl rfl rfl rfl trivial (by decide) (v_letter h_148 (Int.le_refl _) rfl (fun wd6 hh6 => ⟨rfl, ?_⟩))
                                show WP 8 109 167 [vR x, vL v8, none, vI i, vI k] [vI (lV f i k), vL (31 * v8)] wd6 Q
                                refine WP.blk 5 ?_
                                show ir (k + 1) ∧ WP 8 109 148 [vR x, vL ((31 * v8) + (lV f i k)), none, vI i, vI (k + 1)] [] wd6 Q
                                refine ⟨(by unfold ir; omega), ?_⟩
                                exact ih_148 (k + 1) ((31 * v8) + (lV f i k)) wd6 (by omega) (by rw [mx_s y0.1, ← y1]) (ls_le hh6 (by omega)) (by omega)
                          exact hl_148 _ 0 v9 w_118 (by omega) (by rw [x1, show j = 4 by omega]; rfl) (ls_le h_118 (by omega)) (Nat.lt_succ_self _)
                        · refine WP.blk 6 ?_
                          show WP 8 109 133 [vR x, vL v9, none, vI i, vI j] [vI j, vI i, vR x, vL (31 * v9)] w_118 Q
                          refine WP.cl (a := [vR x, vI i, vI j]) (rest := [vL (31 * v9)]) rfl rfl rfl rfl trivial (by decide) (v_word h_118 (Int.le_refl _) rfl (fun wd7 hh7 => ⟨rfl, ?_⟩))
                          show WP 8 109 136 [vR x, vL v9, none, vI i, vI j] [vI (wV f i j), vL (31 * v9)] wd7 Q
                          refine WP.blk 5 ?_
                          show ir (j + 1) ∧ WP 8 109 118 [vR x, vL ((31 * v9) + (wV f i j)), none, vI i, vI (j + 1)] [] wd7 Q
                          refine ⟨(by unfold ir; omega), ?_⟩
                          exact ih_118 (j + 1) ((31 * v9) + (wV f i j)) wd7 (by omega) (by rw [mx_s x0.1, ← x1]) (ls_le hh7 (by omega)) (by omega)
                    exact hl_118 _ 0 v w_109 (by omega) rfl (ls_le h_109 (by omega)) (Nat.lt_succ_self _)
              exact hl_109 _ 0 v (a4_33) w_33 (by omega) (by rw [fld_0, r1, show i = 10 by omega]) (ls_le h_33 (by omega)) (Nat.lt_succ_self _)
            · refine WP.blk 2 ?_
              show WP 8 109 42 [vR x, vL v, none, vI i, vI 0] [] w_33 Q
              have hl_42 : ∀ (n_42 : Nat) (j : Int) (v9 : Int) (w_42 : Wd), 0 ≤ j ∧ j ≤ 6 → v9 = mx (sV f i) j v → LwS (N + 9 + 11 * i + j) (B) x L w_42 f fs sv → (6 - j).toNat < n_42 → WP 8 109 42 [vR x, vL v9, none, vI i, vI j] [] w_42 Q := by
                intro n_42
                induction n_42 with
                | zero => intro j v9 w_42 s0 s1 h_42 hm_42; exact absurd hm_42 (Nat.not_lt_zero _)
                | succ n_42 ih_42 =>
                  intro j v9 w_42 s0 s1 h_42 hm_42
                  refine WP.blk 3 ?_
                  show WP 8 109 (if cnd .ge j 6 = true then 70 else 49) [vR x, vL v9, none, vI i, vI j] [] w_42 Q
                  refine br_ge (fun c8 => ?_) (fun c8 => ?_)
                  · refine WP.blk 2 ?_
                    show WP 8 109 73 [vR x, vL v9, none, vI i, vI 0] [] w_42 Q
                    have hl_73 : ∀ (n_73 : Nat) (k : Int) (v8 : Int) (w_73 : Wd), 0 ≤ k ∧ k ≤ 5 → v8 = mx (fun k => pV f i k 0) k (mx (sV f i) 6 v) → LwS (N + 9 + 11 * i + 6 + k) (B) x L w_73 f fs sv → (5 - k).toNat < n_73 → WP 8 109 73 [vR x, vL v8, none, vI i, vI k] [] w_73 Q := by
                      intro n_73
                      induction n_73 with
                      | zero => intro k v8 w_73 t0 t1 h_73 hm_73; exact absurd hm_73 (Nat.not_lt_zero _)
                      | succ n_73 ih_73 =>
                        intro k v8 w_73 t0 t1 h_73 hm_73
                        refine WP.blk 3 ?_
                        show WP 8 109 (if cnd .ge k 5 = true then 101 else 79) [vR x, vL v8, none, vI i, vI k] [] w_73 Q
                        refine br_ge (fun c9 => ?_) (fun c9 => ?_)
                        · refine WP.blk 2 ?_
                          show ir (i + 1) ∧ WP 8 109 33 [vR x, vL v8, none, vI (i + 1), vI k] [] w_73 Q
                          refine ⟨(by unfold ir; omega), ?_⟩
                          exact ih_33 (i + 1) v8 (vI k) w_73 (by omega) (by rw [fld_s r0.1, ← r1, t1, show k = 5 by omega]) (ls_le h_73 (by omega)) (by omega)
                        · refine WP.blk 7 ?_
                          show WP 8 109 89 [vR x, vL v8, none, vI i, vI k] [vI 0, vI k, vI i, vR x, vL (31 * v8)] w_73 Q
                          refine WP.cl (a := [vR x, vI i, vI k, vI 0]) (rest := [vL (31 * v8)]) rfl rfl rfl rfl trivial (by decide) (v_print h_73 (Int.le_refl _) rfl (fun wd10 hh10 => ⟨rfl, ?_⟩))
                          show WP 8 109 92 [vR x, vL v8, none, vI i, vI k] [vI (pV f i k 0), vL (31 * v8)] wd10 Q
                          refine WP.blk 5 ?_
                          show ir (k + 1) ∧ WP 8 109 73 [vR x, vL ((31 * v8) + (pV f i k 0)), none, vI i, vI (k + 1)] [] wd10 Q
                          refine ⟨(by unfold ir; omega), ?_⟩
                          exact ih_73 (k + 1) ((31 * v8) + (pV f i k 0)) wd10 (by omega) (by rw [mx_s t0.1, ← t1]) (ls_le hh10 (by omega)) (by omega)
                    exact hl_73 _ 0 v9 w_42 (by omega) (by rw [s1, show j = 6 by omega]; rfl) (ls_le h_42 (by omega)) (Nat.lt_succ_self _)
                  · refine WP.blk 6 ?_
                    show WP 8 109 58 [vR x, vL v9, none, vI i, vI j] [vI j, vI i, vR x, vL (31 * v9)] w_42 Q
                    refine WP.cl (a := [vR x, vI i, vI j]) (rest := [vL (31 * v9)]) rfl rfl rfl rfl trivial (by decide) (v_stamp h_42 (Int.le_refl _) rfl (fun wd11 hh11 => ⟨rfl, ?_⟩))
                    show WP 8 109 61 [vR x, vL v9, none, vI i, vI j] [vI (sV f i j), vL (31 * v9)] wd11 Q
                    refine WP.blk 5 ?_
                    show ir (j + 1) ∧ WP 8 109 42 [vR x, vL ((31 * v9) + (sV f i j)), none, vI i, vI (j + 1)] [] wd11 Q
                    refine ⟨(by unfold ir; omega), ?_⟩
                    exact ih_42 (j + 1) ((31 * v9) + (sV f i j)) wd11 (by omega) (by rw [mx_s s0.1, ← s1]) (ls_le hh11 (by omega)) (by omega)
              exact hl_42 _ 0 v w_33 (by omega) rfl (ls_le h_33 (by omega)) (Nat.lt_succ_self _)
        exact hl_33 _ 0 v none w_6 (by omega) (by rw [fld_0, q1, show i = 9 by omega]) (ls_le h_6 (by omega)) (Nat.lt_succ_self _)
      · refine WP.blk 5 ?_
        show WP 8 109 19 [vR x, vL v, none, vI i, none] [vI i, vR x, vL (31 * v)] w_6 Q
        refine WP.cl (a := [vR x, vI i]) (rest := [vL (31 * v)]) rfl rfl rfl rfl trivial (by decide) (v_value h_6 (Int.le_refl _) rfl (fun wd12 hh12 => ⟨rfl, ?_⟩))
        show WP 8 109 22 [vR x, vL v, none, vI i, none] [vI (vV f i), vL (31 * v)] wd12 Q
        refine WP.blk 5 ?_
        show ir (i + 1) ∧ WP 8 109 6 [vR x, vL ((31 * v) + (vV f i)), none, vI (i + 1), none] [] wd12 Q
        refine ⟨(by unfold ir; omega), ?_⟩
        exact ih_6 (i + 1) ((31 * v) + (vV f i)) wd12 (by omega) (by rw [mx_s q0.1, ← q1]) (ls_le hh12 (by omega)) (by omega)
  exact hl_6 _ 0 107 w (by omega) rfl (ls_le h (by omega)) (Nat.lt_succ_self _)
def Tu (a b : Int) : Prop := (a = 1 ∧ b = 16) ∨ (a = 16 ∧ b = 1) ∨ (a = 3 ∧ b = 15) ∨ (a = 15 ∧ b = 3) ∨ (a = 12 ∧ b = 22) ∨ (a = 22 ∧ b = 12) ∨ (a = 13 ∧ b = 20) ∨ (a = 20 ∧ b = 13) ∨ (a = 11 ∧ b = 11) ∨ (a = 14 ∧ b = 14) ∨ (a = 18 ∧ b = 18) ∨ (a = 23 ∧ b = 23) ∨ (a = 25 ∧ b = 25)
theorem tur_tu {a : Int} (h : tur a ≠ -1) : Tu a (tur a) := by
  unfold Tu
  unfold tur at h ⊢
  by_cases h1 : a = 1; · subst h1; decide
  by_cases h2 : a = 16; · subst h2; decide
  by_cases h3 : a = 3; · subst h3; decide
  by_cases h4 : a = 15; · subst h4; decide
  by_cases h5 : a = 12; · subst h5; decide
  by_cases h6 : a = 22; · subst h6; decide
  by_cases h7 : a = 13; · subst h7; decide
  by_cases h8 : a = 20; · subst h8; decide
  by_cases h9 : a = 11; · subst h9; decide
  by_cases h10 : a = 14; · subst h10; decide
  by_cases h11 : a = 18; · subst h11; decide
  by_cases h12 : a = 23; · subst h12; decide
  by_cases h13 : a = 25; · subst h13; decide
  rw [if_neg h1, if_neg h2, if_neg h3, if_neg h4, if_neg h5, if_neg h6, if_neg h7, if_neg h8, if_neg h9, if_neg h10, if_neg h11, if_neg h12, if_neg h13] at h
  exact absurd rfl h
theorem z_isTurn {w : Wd} {a b : Int} {Q : Res → Wd → Prop} (hT : Tu a b) (k : Q (0, vI 1) w) : EvQ 1 111 [vI a, vI b] w Q := by
  refine EvQ.enter (ls := [vI a, vI b, none, none]) (Nat.le_of_ble_eq_true rfl) rfl ?_
  unfold Tu at hT
  refine WP.blk 9 ?_
  show ir (a + b) ∧ ir ((a + b) + 194) ∧ WP 0 111 (if cnd .ne ((a + b) + 194) 211 = true then 26 else 15) [vI a, vI b, vI ((a + b) + 194), none] [] w Q
  refine ⟨(by unfold ir; omega), (by unfold ir; omega), ?_⟩
  refine br_ne (fun c1 => ?_) (fun c1 => ?_)
  · refine WP.blk 3 ?_
    show WP 0 111 (if cnd .ne ((a + b) + 194) 212 = true then 44 else 33) [vI a, vI b, vI ((a + b) + 194), none] [] w Q
    refine br_ne (fun c2 => ?_) (fun c2 => ?_)
    · refine WP.blk 3 ?_
      show WP 0 111 (if cnd .ne ((a + b) + 194) 228 = true then 63 else 51) [vI a, vI b, vI ((a + b) + 194), none] [] w Q
      refine br_ne (fun c3 => ?_) (fun c3 => ?_)
      · refine WP.blk 3 ?_
        show WP 0 111 (if cnd .ne ((a + b) + 194) 227 = true then 86 else 70) [vI a, vI b, vI ((a + b) + 194), none] [] w Q
        refine br_ne (fun c4 => ?_) (fun c4 => ?_)
        · refine WP.blk 7 ?_
          show WP 0 111 (if cnd .ne a b = true then 131 else 97) [vI a, vI b, vI ((a + b) + 194), vI 0] [] w Q
          refine br_ne (fun c5 => ?_) (fun c5 => ?_)
          · refine WP.blk 1 ?_
            show WP 0 111 132 [vI a, vI b, vI ((a + b) + 194), vI 0] [vI 0] w Q
            exact WP.ret rfl rfl rfl ⟨by omega, trivial⟩ (by exfalso; omega)
          · refine WP.blk 3 ?_
            show WP 0 111 (if cnd .eq a 11 = true then 127 else 103) [vI a, vI b, vI ((a + b) + 194), vI 0] [] w Q
            refine br_eq (fun c6 => ?_) (fun c6 => ?_)
            · refine WP.blk 2 ?_
              show WP 0 111 132 [vI a, vI b, vI ((a + b) + 194), vI 0] [vI 1] w Q
              exact WP.ret rfl rfl rfl ⟨by omega, trivial⟩ (k)
            · refine WP.blk 3 ?_
              show WP 0 111 (if cnd .eq a 14 = true then 127 else 109) [vI a, vI b, vI ((a + b) + 194), vI 0] [] w Q
              refine br_eq (fun c7 => ?_) (fun c7 => ?_)
              · refine WP.blk 2 ?_
                show WP 0 111 132 [vI a, vI b, vI ((a + b) + 194), vI 0] [vI 1] w Q
                exact WP.ret rfl rfl rfl ⟨by omega, trivial⟩ (k)
              · refine WP.blk 3 ?_
                show WP 0 111 (if cnd .eq a 18 = true then 127 else 115) [vI a, vI b, vI ((a + b) + 194), vI 0] [] w Q
                refine br_eq (fun c8 => ?_) (fun c8 => ?_)
                · refine WP.blk 2 ?_
                  show WP 0 111 132 [vI a, vI b, vI ((a + b) + 194), vI 0] [vI 1] w Q
                  exact WP.ret rfl rfl rfl ⟨by omega, trivial⟩ (k)
                · refine WP.blk 3 ?_
                  show WP 0 111 (if cnd .eq a 23 = true then 127 else 121) [vI a, vI b, vI ((a + b) + 194), vI 0] [] w Q
                  refine br_eq (fun c9 => ?_) (fun c9 => ?_)
                  · refine WP.blk 2 ?_
                    show WP 0 111 132 [vI a, vI b, vI ((a + b) + 194), vI 0] [vI 1] w Q
                    exact WP.ret rfl rfl rfl ⟨by omega, trivial⟩ (k)
                  · refine WP.blk 3 ?_
                    show WP 0 111 (if cnd .ne a 25 = true then 131 else 127) [vI a, vI b, vI ((a + b) + 194), vI 0] [] w Q
                    refine br_ne (fun c10 => ?_) (fun c10 => ?_)
                    · refine WP.blk 1 ?_
                      show WP 0 111 132 [vI a, vI b, vI ((a + b) + 194), vI 0] [vI 0] w Q
                      exact WP.ret rfl rfl rfl ⟨by omega, trivial⟩ (by exfalso; omega)
                    · refine WP.blk 2 ?_
                      show WP 0 111 132 [vI a, vI b, vI ((a + b) + 194), vI 0] [vI 1] w Q
                      exact WP.ret rfl rfl rfl ⟨by omega, trivial⟩ (k)
        · refine WP.blk 3 ?_
          show WP 0 111 (if cnd .eq a 13 = true then 82 else 76) [vI a, vI b, vI ((a + b) + 194), none] [] w Q
          refine br_eq (fun c11 => ?_) (fun c11 => ?_)
          · refine WP.blk 7 ?_
            show WP 0 111 132 [vI a, vI b, vI ((a + b) + 194), vI 1] [vI 1] w Q
            exact WP.ret rfl rfl rfl ⟨by omega, trivial⟩ (k)
          · refine WP.blk 3 ?_
            show WP 0 111 (if cnd .ne a 20 = true then 86 else 82) [vI a, vI b, vI ((a + b) + 194), none] [] w Q
            refine br_ne (fun c12 => ?_) (fun c12 => ?_)
            · refine WP.blk 7 ?_
              show WP 0 111 (if cnd .ne a b = true then 131 else 97) [vI a, vI b, vI ((a + b) + 194), vI 0] [] w Q
              refine br_ne (fun c13 => ?_) (fun c13 => ?_)
              · refine WP.blk 1 ?_
                show WP 0 111 132 [vI a, vI b, vI ((a + b) + 194), vI 0] [vI 0] w Q
                exact WP.ret rfl rfl rfl ⟨by omega, trivial⟩ (by exfalso; omega)
              · refine WP.blk 3 ?_
                show WP 0 111 (if cnd .eq a 11 = true then 127 else 103) [vI a, vI b, vI ((a + b) + 194), vI 0] [] w Q
                refine br_eq (fun c14 => ?_) (fun c14 => ?_)
                · refine WP.blk 2 ?_
                  show WP 0 111 132 [vI a, vI b, vI ((a + b) + 194), vI 0] [vI 1] w Q
                  exact WP.ret rfl rfl rfl ⟨by omega, trivial⟩ (k)
                · refine WP.blk 3 ?_
                  show WP 0 111 (if cnd .eq a 14 = true then 127 else 109) [vI a, vI b, vI ((a + b) + 194), vI 0] [] w Q
                  refine br_eq (fun c15 => ?_) (fun c15 => ?_)
                  · refine WP.blk 2 ?_
                    show WP 0 111 132 [vI a, vI b, vI ((a + b) + 194), vI 0] [vI 1] w Q
                    exact WP.ret rfl rfl rfl ⟨by omega, trivial⟩ (k)
                  · refine WP.blk 3 ?_
                    show WP 0 111 (if cnd .eq a 18 = true then 127 else 115) [vI a, vI b, vI ((a + b) + 194), vI 0] [] w Q
                    refine br_eq (fun c16 => ?_) (fun c16 => ?_)
                    · refine WP.blk 2 ?_
                      show WP 0 111 132 [vI a, vI b, vI ((a + b) + 194), vI 0] [vI 1] w Q
                      exact WP.ret rfl rfl rfl ⟨by omega, trivial⟩ (k)
                    · refine WP.blk 3 ?_
                      show WP 0 111 (if cnd .eq a 23 = true then 127 else 121) [vI a, vI b, vI ((a + b) + 194), vI 0] [] w Q
                      refine br_eq (fun c17 => ?_) (fun c17 => ?_)
                      · refine WP.blk 2 ?_
                        show WP 0 111 132 [vI a, vI b, vI ((a + b) + 194), vI 0] [vI 1] w Q
                        exact WP.ret rfl rfl rfl ⟨by omega, trivial⟩ (k)
                      · refine WP.blk 3 ?_
                        show WP 0 111 (if cnd .ne a 25 = true then 131 else 127) [vI a, vI b, vI ((a + b) + 194), vI 0] [] w Q
                        refine br_ne (fun c18 => ?_) (fun c18 => ?_)
                        · refine WP.blk 1 ?_
                          show WP 0 111 132 [vI a, vI b, vI ((a + b) + 194), vI 0] [vI 0] w Q
                          exact WP.ret rfl rfl rfl ⟨by omega, trivial⟩ (by exfalso; omega)
                        · refine WP.blk 2 ?_
                          show WP 0 111 132 [vI a, vI b, vI ((a + b) + 194), vI 0] [vI 1] w Q
                          exact WP.ret rfl rfl rfl ⟨by omega, trivial⟩ (k)
            · refine WP.blk 7 ?_
              show WP 0 111 132 [vI a, vI b, vI ((a + b) + 194), vI 1] [vI 1] w Q
              exact WP.ret rfl rfl rfl ⟨by omega, trivial⟩ (k)
      · refine WP.blk 3 ?_
        show WP 0 111 (if cnd .eq a 12 = true then 82 else 57) [vI a, vI b, vI ((a + b) + 194), none] [] w Q
        refine br_eq (fun c19 => ?_) (fun c19 => ?_)
        · refine WP.blk 7 ?_
          show WP 0 111 132 [vI a, vI b, vI ((a + b) + 194), vI 1] [vI 1] w Q
          exact WP.ret rfl rfl rfl ⟨by omega, trivial⟩ (k)
        · refine WP.blk 3 ?_
          show WP 0 111 (if cnd .eq a 22 = true then 82 else 63) [vI a, vI b, vI ((a + b) + 194), none] [] w Q
          refine br_eq (fun c20 => ?_) (fun c20 => ?_)
          · refine WP.blk 7 ?_
            show WP 0 111 132 [vI a, vI b, vI ((a + b) + 194), vI 1] [vI 1] w Q
            exact WP.ret rfl rfl rfl ⟨by omega, trivial⟩ (k)
          · refine WP.blk 3 ?_
            show WP 0 111 (if cnd .ne ((a + b) + 194) 227 = true then 86 else 70) [vI a, vI b, vI ((a + b) + 194), none] [] w Q
            refine br_ne (fun c21 => ?_) (fun c21 => ?_)
            · refine WP.blk 7 ?_
              show WP 0 111 (if cnd .ne a b = true then 131 else 97) [vI a, vI b, vI ((a + b) + 194), vI 0] [] w Q
              refine br_ne (fun c22 => ?_) (fun c22 => ?_)
              · refine WP.blk 1 ?_
                show WP 0 111 132 [vI a, vI b, vI ((a + b) + 194), vI 0] [vI 0] w Q
                exact WP.ret rfl rfl rfl ⟨by omega, trivial⟩ (by exfalso; omega)
              · refine WP.blk 3 ?_
                show WP 0 111 (if cnd .eq a 11 = true then 127 else 103) [vI a, vI b, vI ((a + b) + 194), vI 0] [] w Q
                refine br_eq (fun c23 => ?_) (fun c23 => ?_)
                · refine WP.blk 2 ?_
                  show WP 0 111 132 [vI a, vI b, vI ((a + b) + 194), vI 0] [vI 1] w Q
                  exact WP.ret rfl rfl rfl ⟨by omega, trivial⟩ (k)
                · refine WP.blk 3 ?_
                  show WP 0 111 (if cnd .eq a 14 = true then 127 else 109) [vI a, vI b, vI ((a + b) + 194), vI 0] [] w Q
                  refine br_eq (fun c24 => ?_) (fun c24 => ?_)
                  · refine WP.blk 2 ?_
                    show WP 0 111 132 [vI a, vI b, vI ((a + b) + 194), vI 0] [vI 1] w Q
                    exact WP.ret rfl rfl rfl ⟨by omega, trivial⟩ (k)
                  · refine WP.blk 3 ?_
                    show WP 0 111 (if cnd .eq a 18 = true then 127 else 115) [vI a, vI b, vI ((a + b) + 194), vI 0] [] w Q
                    refine br_eq (fun c25 => ?_) (fun c25 => ?_)
                    · refine WP.blk 2 ?_
                      show WP 0 111 132 [vI a, vI b, vI ((a + b) + 194), vI 0] [vI 1] w Q
                      exact WP.ret rfl rfl rfl ⟨by omega, trivial⟩ (k)
                    · refine WP.blk 3 ?_
                      show WP 0 111 (if cnd .eq a 23 = true then 127 else 121) [vI a, vI b, vI ((a + b) + 194), vI 0] [] w Q
                      refine br_eq (fun c26 => ?_) (fun c26 => ?_)
                      · refine WP.blk 2 ?_
                        show WP 0 111 132 [vI a, vI b, vI ((a + b) + 194), vI 0] [vI 1] w Q
                        exact WP.ret rfl rfl rfl ⟨by omega, trivial⟩ (k)
                      · refine WP.blk 3 ?_
                        show WP 0 111 (if cnd .ne a 25 = true then 131 else 127) [vI a, vI b, vI ((a + b) + 194), vI 0] [] w Q
                        refine br_ne (fun c27 => ?_) (fun c27 => ?_)
                        · refine WP.blk 1 ?_
                          show WP 0 111 132 [vI a, vI b, vI ((a + b) + 194), vI 0] [vI 0] w Q
                          exact WP.ret rfl rfl rfl ⟨by omega, trivial⟩ (by exfalso; omega)
                        · refine WP.blk 2 ?_
                          show WP 0 111 132 [vI a, vI b, vI ((a + b) + 194), vI 0] [vI 1] w Q
                          exact WP.ret rfl rfl rfl ⟨by omega, trivial⟩ (k)
            · refine WP.blk 3 ?_
              show WP 0 111 (if cnd .eq a 13 = true then 82 else 76) [vI a, vI b, vI ((a + b) + 194), none] [] w Q
              refine br_eq (fun c28 => ?_) (fun c28 => ?_)
              · refine WP.blk 7 ?_
                show WP 0 111 132 [vI a, vI b, vI ((a + b) + 194), vI 1] [vI 1] w Q
                exact WP.ret rfl rfl rfl ⟨by omega, trivial⟩ (k)
              · refine WP.blk 3 ?_
                show WP 0 111 (if cnd .ne a 20 = true then 86 else 82) [vI a, vI b, vI ((a + b) + 194), none] [] w Q
                refine br_ne (fun c29 => ?_) (fun c29 => ?_)
                · refine WP.blk 7 ?_
                  show WP 0 111 (if cnd .ne a b = true then 131 else 97) [vI a, vI b, vI ((a + b) + 194), vI 0] [] w Q
                  refine br_ne (fun c30 => ?_) (fun c30 => ?_)
                  · refine WP.blk 1 ?_
                    show WP 0 111 132 [vI a, vI b, vI ((a + b) + 194), vI 0] [vI 0] w Q
                    exact WP.ret rfl rfl rfl ⟨by omega, trivial⟩ (by exfalso; omega)
                  · refine WP.blk 3 ?_
                    show WP 0 111 (if cnd .eq a 11 = true then 127 else 103) [vI a, vI b, vI ((a + b) + 194), vI 0] [] w Q
                    refine br_eq (fun c31 => ?_) (fun c31 => ?_)
                    · refine WP.blk 2 ?_
                      show WP 0 111 132 [vI a, vI b, vI ((a + b) + 194), vI 0] [vI 1] w Q
                      exact WP.ret rfl rfl rfl ⟨by omega, trivial⟩ (k)
                    · refine WP.blk 3 ?_
                      show WP 0 111 (if cnd .eq a 14 = true then 127 else 109) [vI a, vI b, vI ((a + b) + 194), vI 0] [] w Q
                      refine br_eq (fun c32 => ?_) (fun c32 => ?_)
                      · refine WP.blk 2 ?_
                        show WP 0 111 132 [vI a, vI b, vI ((a + b) + 194), vI 0] [vI 1] w Q
                        exact WP.ret rfl rfl rfl ⟨by omega, trivial⟩ (k)
                      · refine WP.blk 3 ?_
                        show WP 0 111 (if cnd .eq a 18 = true then 127 else 115) [vI a, vI b, vI ((a + b) + 194), vI 0] [] w Q
                        refine br_eq (fun c33 => ?_) (fun c33 => ?_)
                        · refine WP.blk 2 ?_
                          show WP 0 111 132 [vI a, vI b, vI ((a + b) + 194), vI 0] [vI 1] w Q
                          exact WP.ret rfl rfl rfl ⟨by omega, trivial⟩ (k)
                        · refine WP.blk 3 ?_
                          show WP 0 111 (if cnd .eq a 23 = true then 127 else 121) [vI a, vI b, vI ((a + b) + 194), vI 0] [] w Q
                          refine br_eq (fun c34 => ?_) (fun c34 => ?_)
                          · refine WP.blk 2 ?_
                            show WP 0 111 132 [vI a, vI b, vI ((a + b) + 194), vI 0] [vI 1] w Q
                            exact WP.ret rfl rfl rfl ⟨by omega, trivial⟩ (k)
                          · refine WP.blk 3 ?_
                            show WP 0 111 (if cnd .ne a 25 = true then 131 else 127) [vI a, vI b, vI ((a + b) + 194), vI 0] [] w Q
                            refine br_ne (fun c35 => ?_) (fun c35 => ?_)
                            · refine WP.blk 1 ?_
                              show WP 0 111 132 [vI a, vI b, vI ((a + b) + 194), vI 0] [vI 0] w Q
                              exact WP.ret rfl rfl rfl ⟨by omega, trivial⟩ (by exfalso; omega)
                            · refine WP.blk 2 ?_
                              show WP 0 111 132 [vI a, vI b, vI ((a + b) + 194), vI 0] [vI 1] w Q
                              exact WP.ret rfl rfl rfl ⟨by omega, trivial⟩ (k)
                · refine WP.blk 7 ?_
                  show WP 0 111 132 [vI a, vI b, vI ((a + b) + 194), vI 1] [vI 1] w Q
                  exact WP.ret rfl rfl rfl ⟨by omega, trivial⟩ (k)
    · refine WP.blk 3 ?_
      show WP 0 111 (if cnd .eq a 3 = true then 82 else 38) [vI a, vI b, vI ((a + b) + 194), none] [] w Q
      refine br_eq (fun c36 => ?_) (fun c36 => ?_)
      · refine WP.blk 7 ?_
        show WP 0 111 132 [vI a, vI b, vI ((a + b) + 194), vI 1] [vI 1] w Q
        exact WP.ret rfl rfl rfl ⟨by omega, trivial⟩ (k)
      · refine WP.blk 3 ?_
        show WP 0 111 (if cnd .eq a 15 = true then 82 else 44) [vI a, vI b, vI ((a + b) + 194), none] [] w Q
        refine br_eq (fun c37 => ?_) (fun c37 => ?_)
        · refine WP.blk 7 ?_
          show WP 0 111 132 [vI a, vI b, vI ((a + b) + 194), vI 1] [vI 1] w Q
          exact WP.ret rfl rfl rfl ⟨by omega, trivial⟩ (k)
        · refine WP.blk 3 ?_
          show WP 0 111 (if cnd .ne ((a + b) + 194) 228 = true then 63 else 51) [vI a, vI b, vI ((a + b) + 194), none] [] w Q
          refine br_ne (fun c38 => ?_) (fun c38 => ?_)
          · refine WP.blk 3 ?_
            show WP 0 111 (if cnd .ne ((a + b) + 194) 227 = true then 86 else 70) [vI a, vI b, vI ((a + b) + 194), none] [] w Q
            refine br_ne (fun c39 => ?_) (fun c39 => ?_)
            · refine WP.blk 7 ?_
              show WP 0 111 (if cnd .ne a b = true then 131 else 97) [vI a, vI b, vI ((a + b) + 194), vI 0] [] w Q
              refine br_ne (fun c40 => ?_) (fun c40 => ?_)
              · refine WP.blk 1 ?_
                show WP 0 111 132 [vI a, vI b, vI ((a + b) + 194), vI 0] [vI 0] w Q
                exact WP.ret rfl rfl rfl ⟨by omega, trivial⟩ (by exfalso; omega)
              · refine WP.blk 3 ?_
                show WP 0 111 (if cnd .eq a 11 = true then 127 else 103) [vI a, vI b, vI ((a + b) + 194), vI 0] [] w Q
                refine br_eq (fun c41 => ?_) (fun c41 => ?_)
                · refine WP.blk 2 ?_
                  show WP 0 111 132 [vI a, vI b, vI ((a + b) + 194), vI 0] [vI 1] w Q
                  exact WP.ret rfl rfl rfl ⟨by omega, trivial⟩ (k)
                · refine WP.blk 3 ?_
                  show WP 0 111 (if cnd .eq a 14 = true then 127 else 109) [vI a, vI b, vI ((a + b) + 194), vI 0] [] w Q
                  refine br_eq (fun c42 => ?_) (fun c42 => ?_)
                  · refine WP.blk 2 ?_
                    show WP 0 111 132 [vI a, vI b, vI ((a + b) + 194), vI 0] [vI 1] w Q
                    exact WP.ret rfl rfl rfl ⟨by omega, trivial⟩ (k)
                  · refine WP.blk 3 ?_
                    show WP 0 111 (if cnd .eq a 18 = true then 127 else 115) [vI a, vI b, vI ((a + b) + 194), vI 0] [] w Q
                    refine br_eq (fun c43 => ?_) (fun c43 => ?_)
                    · refine WP.blk 2 ?_
                      show WP 0 111 132 [vI a, vI b, vI ((a + b) + 194), vI 0] [vI 1] w Q
                      exact WP.ret rfl rfl rfl ⟨by omega, trivial⟩ (k)
                    · refine WP.blk 3 ?_
                      show WP 0 111 (if cnd .eq a 23 = true then 127 else 121) [vI a, vI b, vI ((a + b) + 194), vI 0] [] w Q
                      refine br_eq (fun c44 => ?_) (fun c44 => ?_)
                      · refine WP.blk 2 ?_
                        show WP 0 111 132 [vI a, vI b, vI ((a + b) + 194), vI 0] [vI 1] w Q
                        exact WP.ret rfl rfl rfl ⟨by omega, trivial⟩ (k)
                      · refine WP.blk 3 ?_
                        show WP 0 111 (if cnd .ne a 25 = true then 131 else 127) [vI a, vI b, vI ((a + b) + 194), vI 0] [] w Q
                        refine br_ne (fun c45 => ?_) (fun c45 => ?_)
                        · refine WP.blk 1 ?_
                          show WP 0 111 132 [vI a, vI b, vI ((a + b) + 194), vI 0] [vI 0] w Q
                          exact WP.ret rfl rfl rfl ⟨by omega, trivial⟩ (by exfalso; omega)
                        · refine WP.blk 2 ?_
                          show WP 0 111 132 [vI a, vI b, vI ((a + b) + 194), vI 0] [vI 1] w Q
                          exact WP.ret rfl rfl rfl ⟨by omega, trivial⟩ (k)
            · refine WP.blk 3 ?_
              show WP 0 111 (if cnd .eq a 13 = true then 82 else 76) [vI a, vI b, vI ((a + b) + 194), none] [] w Q
              refine br_eq (fun c46 => ?_) (fun c46 => ?_)
              · refine WP.blk 7 ?_
                show WP 0 111 132 [vI a, vI b, vI ((a + b) + 194), vI 1] [vI 1] w Q
                exact WP.ret rfl rfl rfl ⟨by omega, trivial⟩ (k)
              · refine WP.blk 3 ?_
                show WP 0 111 (if cnd .ne a 20 = true then 86 else 82) [vI a, vI b, vI ((a + b) + 194), none] [] w Q
                refine br_ne (fun c47 => ?_) (fun c47 => ?_)
                · refine WP.blk 7 ?_
                  show WP 0 111 (if cnd .ne a b = true then 131 else 97) [vI a, vI b, vI ((a + b) + 194), vI 0] [] w Q
                  refine br_ne (fun c48 => ?_) (fun c48 => ?_)
                  · refine WP.blk 1 ?_
                    show WP 0 111 132 [vI a, vI b, vI ((a + b) + 194), vI 0] [vI 0] w Q
                    exact WP.ret rfl rfl rfl ⟨by omega, trivial⟩ (by exfalso; omega)
                  · refine WP.blk 3 ?_
                    show WP 0 111 (if cnd .eq a 11 = true then 127 else 103) [vI a, vI b, vI ((a + b) + 194), vI 0] [] w Q
                    refine br_eq (fun c49 => ?_) (fun c49 => ?_)
                    · refine WP.blk 2 ?_
                      show WP 0 111 132 [vI a, vI b, vI ((a + b) + 194), vI 0] [vI 1] w Q
                      exact WP.ret rfl rfl rfl ⟨by omega, trivial⟩ (k)
                    · refine WP.blk 3 ?_
                      show WP 0 111 (if cnd .eq a 14 = true then 127 else 109) [vI a, vI b, vI ((a + b) + 194), vI 0] [] w Q
                      refine br_eq (fun c50 => ?_) (fun c50 => ?_)
                      · refine WP.blk 2 ?_
                        show WP 0 111 132 [vI a, vI b, vI ((a + b) + 194), vI 0] [vI 1] w Q
                        exact WP.ret rfl rfl rfl ⟨by omega, trivial⟩ (k)
                      · refine WP.blk 3 ?_
                        show WP 0 111 (if cnd .eq a 18 = true then 127 else 115) [vI a, vI b, vI ((a + b) + 194), vI 0] [] w Q
                        refine br_eq (fun c51 => ?_) (fun c51 => ?_)
                        · refine WP.blk 2 ?_
                          show WP 0 111 132 [vI a, vI b, vI ((a + b) + 194), vI 0] [vI 1] w Q
                          exact WP.ret rfl rfl rfl ⟨by omega, trivial⟩ (k)
                        · refine WP.blk 3 ?_
                          show WP 0 111 (if cnd .eq a 23 = true then 127 else 121) [vI a, vI b, vI ((a + b) + 194), vI 0] [] w Q
                          refine br_eq (fun c52 => ?_) (fun c52 => ?_)
                          · refine WP.blk 2 ?_
                            show WP 0 111 132 [vI a, vI b, vI ((a + b) + 194), vI 0] [vI 1] w Q
                            exact WP.ret rfl rfl rfl ⟨by omega, trivial⟩ (k)
                          · refine WP.blk 3 ?_
                            show WP 0 111 (if cnd .ne a 25 = true then 131 else 127) [vI a, vI b, vI ((a + b) + 194), vI 0] [] w Q
                            refine br_ne (fun c53 => ?_) (fun c53 => ?_)
                            · refine WP.blk 1 ?_
                              show WP 0 111 132 [vI a, vI b, vI ((a + b) + 194), vI 0] [vI 0] w Q
                              exact WP.ret rfl rfl rfl ⟨by omega, trivial⟩ (by exfalso; omega)
                            · refine WP.blk 2 ?_
                              show WP 0 111 132 [vI a, vI b, vI ((a + b) + 194), vI 0] [vI 1] w Q
                              exact WP.ret rfl rfl rfl ⟨by omega, trivial⟩ (k)
                · refine WP.blk 7 ?_
                  show WP 0 111 132 [vI a, vI b, vI ((a + b) + 194), vI 1] [vI 1] w Q
                  exact WP.ret rfl rfl rfl ⟨by omega, trivial⟩ (k)
          · refine WP.blk 3 ?_
            show WP 0 111 (if cnd .eq a 12 = true then 82 else 57) [vI a, vI b, vI ((a + b) + 194), none] [] w Q
            refine br_eq (fun c54 => ?_) (fun c54 => ?_)
            · refine WP.blk 7 ?_
              show WP 0 111 132 [vI a, vI b, vI ((a + b) + 194), vI 1] [vI 1] w Q
              exact WP.ret rfl rfl rfl ⟨by omega, trivial⟩ (k)
            · refine WP.blk 3 ?_
              show WP 0 111 (if cnd .eq a 22 = true then 82 else 63) [vI a, vI b, vI ((a + b) + 194), none] [] w Q
              refine br_eq (fun c55 => ?_) (fun c55 => ?_)
              · refine WP.blk 7 ?_
                show WP 0 111 132 [vI a, vI b, vI ((a + b) + 194), vI 1] [vI 1] w Q
                exact WP.ret rfl rfl rfl ⟨by omega, trivial⟩ (k)
              · refine WP.blk 3 ?_
                show WP 0 111 (if cnd .ne ((a + b) + 194) 227 = true then 86 else 70) [vI a, vI b, vI ((a + b) + 194), none] [] w Q
                refine br_ne (fun c56 => ?_) (fun c56 => ?_)
                · refine WP.blk 7 ?_
                  show WP 0 111 (if cnd .ne a b = true then 131 else 97) [vI a, vI b, vI ((a + b) + 194), vI 0] [] w Q
                  refine br_ne (fun c57 => ?_) (fun c57 => ?_)
                  · refine WP.blk 1 ?_
                    show WP 0 111 132 [vI a, vI b, vI ((a + b) + 194), vI 0] [vI 0] w Q
                    exact WP.ret rfl rfl rfl ⟨by omega, trivial⟩ (by exfalso; omega)
                  · refine WP.blk 3 ?_
                    show WP 0 111 (if cnd .eq a 11 = true then 127 else 103) [vI a, vI b, vI ((a + b) + 194), vI 0] [] w Q
                    refine br_eq (fun c58 => ?_) (fun c58 => ?_)
                    · refine WP.blk 2 ?_
                      show WP 0 111 132 [vI a, vI b, vI ((a + b) + 194), vI 0] [vI 1] w Q
                      exact WP.ret rfl rfl rfl ⟨by omega, trivial⟩ (k)
                    · refine WP.blk 3 ?_
                      show WP 0 111 (if cnd .eq a 14 = true then 127 else 109) [vI a, vI b, vI ((a + b) + 194), vI 0] [] w Q
                      refine br_eq (fun c59 => ?_) (fun c59 => ?_)
                      · refine WP.blk 2 ?_
                        show WP 0 111 132 [vI a, vI b, vI ((a + b) + 194), vI 0] [vI 1] w Q
                        exact WP.ret rfl rfl rfl ⟨by omega, trivial⟩ (k)
                      · refine WP.blk 3 ?_
                        show WP 0 111 (if cnd .eq a 18 = true then 127 else 115) [vI a, vI b, vI ((a + b) + 194), vI 0] [] w Q
                        refine br_eq (fun c60 => ?_) (fun c60 => ?_)
                        · refine WP.blk 2 ?_
                          show WP 0 111 132 [vI a, vI b, vI ((a + b) + 194), vI 0] [vI 1] w Q
                          exact WP.ret rfl rfl rfl ⟨by omega, trivial⟩ (k)
                        · refine WP.blk 3 ?_
                          show WP 0 111 (if cnd .eq a 23 = true then 127 else 121) [vI a, vI b, vI ((a + b) + 194), vI 0] [] w Q
                          refine br_eq (fun c61 => ?_) (fun c61 => ?_)
                          · refine WP.blk 2 ?_
                            show WP 0 111 132 [vI a, vI b, vI ((a + b) + 194), vI 0] [vI 1] w Q
                            exact WP.ret rfl rfl rfl ⟨by omega, trivial⟩ (k)
                          · refine WP.blk 3 ?_
                            show WP 0 111 (if cnd .ne a 25 = true then 131 else 127) [vI a, vI b, vI ((a + b) + 194), vI 0] [] w Q
                            refine br_ne (fun c62 => ?_) (fun c62 => ?_)
                            · refine WP.blk 1 ?_
                              show WP 0 111 132 [vI a, vI b, vI ((a + b) + 194), vI 0] [vI 0] w Q
                              exact WP.ret rfl rfl rfl ⟨by omega, trivial⟩ (by exfalso; omega)
                            · refine WP.blk 2 ?_
                              show WP 0 111 132 [vI a, vI b, vI ((a + b) + 194), vI 0] [vI 1] w Q
                              exact WP.ret rfl rfl rfl ⟨by omega, trivial⟩ (k)
                · refine WP.blk 3 ?_
                  show WP 0 111 (if cnd .eq a 13 = true then 82 else 76) [vI a, vI b, vI ((a + b) + 194), none] [] w Q
                  refine br_eq (fun c63 => ?_) (fun c63 => ?_)
                  · refine WP.blk 7 ?_
                    show WP 0 111 132 [vI a, vI b, vI ((a + b) + 194), vI 1] [vI 1] w Q
                    exact WP.ret rfl rfl rfl ⟨by omega, trivial⟩ (k)
                  · refine WP.blk 3 ?_
                    show WP 0 111 (if cnd .ne a 20 = true then 86 else 82) [vI a, vI b, vI ((a + b) + 194), none] [] w Q
                    refine br_ne (fun c64 => ?_) (fun c64 => ?_)
                    · refine WP.blk 7 ?_
                      show WP 0 111 (if cnd .ne a b = true then 131 else 97) [vI a, vI b, vI ((a + b) + 194), vI 0] [] w Q
                      refine br_ne (fun c65 => ?_) (fun c65 => ?_)
                      · refine WP.blk 1 ?_
                        show WP 0 111 132 [vI a, vI b, vI ((a + b) + 194), vI 0] [vI 0] w Q
                        exact WP.ret rfl rfl rfl ⟨by omega, trivial⟩ (by exfalso; omega)
                      · refine WP.blk 3 ?_
                        show WP 0 111 (if cnd .eq a 11 = true then 127 else 103) [vI a, vI b, vI ((a + b) + 194), vI 0] [] w Q
                        refine br_eq (fun c66 => ?_) (fun c66 => ?_)
                        · refine WP.blk 2 ?_
                          show WP 0 111 132 [vI a, vI b, vI ((a + b) + 194), vI 0] [vI 1] w Q
                          exact WP.ret rfl rfl rfl ⟨by omega, trivial⟩ (k)
                        · refine WP.blk 3 ?_
                          show WP 0 111 (if cnd .eq a 14 = true then 127 else 109) [vI a, vI b, vI ((a + b) + 194), vI 0] [] w Q
                          refine br_eq (fun c67 => ?_) (fun c67 => ?_)
                          · refine WP.blk 2 ?_
                            show WP 0 111 132 [vI a, vI b, vI ((a + b) + 194), vI 0] [vI 1] w Q
                            exact WP.ret rfl rfl rfl ⟨by omega, trivial⟩ (k)
                          · refine WP.blk 3 ?_
                            show WP 0 111 (if cnd .eq a 18 = true then 127 else 115) [vI a, vI b, vI ((a + b) + 194), vI 0] [] w Q
                            refine br_eq (fun c68 => ?_) (fun c68 => ?_)
                            · refine WP.blk 2 ?_
                              show WP 0 111 132 [vI a, vI b, vI ((a + b) + 194), vI 0] [vI 1] w Q
                              exact WP.ret rfl rfl rfl ⟨by omega, trivial⟩ (k)
                            · refine WP.blk 3 ?_
                              show WP 0 111 (if cnd .eq a 23 = true then 127 else 121) [vI a, vI b, vI ((a + b) + 194), vI 0] [] w Q
                              refine br_eq (fun c69 => ?_) (fun c69 => ?_)
                              · refine WP.blk 2 ?_
                                show WP 0 111 132 [vI a, vI b, vI ((a + b) + 194), vI 0] [vI 1] w Q
                                exact WP.ret rfl rfl rfl ⟨by omega, trivial⟩ (k)
                              · refine WP.blk 3 ?_
                                show WP 0 111 (if cnd .ne a 25 = true then 131 else 127) [vI a, vI b, vI ((a + b) + 194), vI 0] [] w Q
                                refine br_ne (fun c70 => ?_) (fun c70 => ?_)
                                · refine WP.blk 1 ?_
                                  show WP 0 111 132 [vI a, vI b, vI ((a + b) + 194), vI 0] [vI 0] w Q
                                  exact WP.ret rfl rfl rfl ⟨by omega, trivial⟩ (by exfalso; omega)
                                · refine WP.blk 2 ?_
                                  show WP 0 111 132 [vI a, vI b, vI ((a + b) + 194), vI 0] [vI 1] w Q
                                  exact WP.ret rfl rfl rfl ⟨by omega, trivial⟩ (k)
                    · refine WP.blk 7 ?_
                      show WP 0 111 132 [vI a, vI b, vI ((a + b) + 194), vI 1] [vI 1] w Q
                      exact WP.ret rfl rfl rfl ⟨by omega, trivial⟩ (k)
  · refine WP.blk 3 ?_
    show WP 0 111 (if cnd .eq a 1 = true then 82 else 20) [vI a, vI b, vI ((a + b) + 194), none] [] w Q
    refine br_eq (fun c71 => ?_) (fun c71 => ?_)
    · refine WP.blk 7 ?_
      show WP 0 111 132 [vI a, vI b, vI ((a + b) + 194), vI 1] [vI 1] w Q
      exact WP.ret rfl rfl rfl ⟨by omega, trivial⟩ (k)
    · refine WP.blk 3 ?_
      show WP 0 111 (if cnd .eq a 16 = true then 82 else 26) [vI a, vI b, vI ((a + b) + 194), none] [] w Q
      refine br_eq (fun c72 => ?_) (fun c72 => ?_)
      · refine WP.blk 7 ?_
        show WP 0 111 132 [vI a, vI b, vI ((a + b) + 194), vI 1] [vI 1] w Q
        exact WP.ret rfl rfl rfl ⟨by omega, trivial⟩ (k)
      · refine WP.blk 3 ?_
        show WP 0 111 (if cnd .ne ((a + b) + 194) 212 = true then 44 else 33) [vI a, vI b, vI ((a + b) + 194), none] [] w Q
        refine br_ne (fun c73 => ?_) (fun c73 => ?_)
        · refine WP.blk 3 ?_
          show WP 0 111 (if cnd .ne ((a + b) + 194) 228 = true then 63 else 51) [vI a, vI b, vI ((a + b) + 194), none] [] w Q
          refine br_ne (fun c74 => ?_) (fun c74 => ?_)
          · refine WP.blk 3 ?_
            show WP 0 111 (if cnd .ne ((a + b) + 194) 227 = true then 86 else 70) [vI a, vI b, vI ((a + b) + 194), none] [] w Q
            refine br_ne (fun c75 => ?_) (fun c75 => ?_)
            · refine WP.blk 7 ?_
              show WP 0 111 (if cnd .ne a b = true then 131 else 97) [vI a, vI b, vI ((a + b) + 194), vI 0] [] w Q
              refine br_ne (fun c76 => ?_) (fun c76 => ?_)
              · refine WP.blk 1 ?_
                show WP 0 111 132 [vI a, vI b, vI ((a + b) + 194), vI 0] [vI 0] w Q
                exact WP.ret rfl rfl rfl ⟨by omega, trivial⟩ (by exfalso; omega)
              · refine WP.blk 3 ?_
                show WP 0 111 (if cnd .eq a 11 = true then 127 else 103) [vI a, vI b, vI ((a + b) + 194), vI 0] [] w Q
                refine br_eq (fun c77 => ?_) (fun c77 => ?_)
                · refine WP.blk 2 ?_
                  show WP 0 111 132 [vI a, vI b, vI ((a + b) + 194), vI 0] [vI 1] w Q
                  exact WP.ret rfl rfl rfl ⟨by omega, trivial⟩ (k)
                · refine WP.blk 3 ?_
                  show WP 0 111 (if cnd .eq a 14 = true then 127 else 109) [vI a, vI b, vI ((a + b) + 194), vI 0] [] w Q
                  refine br_eq (fun c78 => ?_) (fun c78 => ?_)
                  · refine WP.blk 2 ?_
                    show WP 0 111 132 [vI a, vI b, vI ((a + b) + 194), vI 0] [vI 1] w Q
                    exact WP.ret rfl rfl rfl ⟨by omega, trivial⟩ (k)
                  · refine WP.blk 3 ?_
                    show WP 0 111 (if cnd .eq a 18 = true then 127 else 115) [vI a, vI b, vI ((a + b) + 194), vI 0] [] w Q
                    refine br_eq (fun c79 => ?_) (fun c79 => ?_)
                    · refine WP.blk 2 ?_
                      show WP 0 111 132 [vI a, vI b, vI ((a + b) + 194), vI 0] [vI 1] w Q
                      exact WP.ret rfl rfl rfl ⟨by omega, trivial⟩ (k)
                    · refine WP.blk 3 ?_
                      show WP 0 111 (if cnd .eq a 23 = true then 127 else 121) [vI a, vI b, vI ((a + b) + 194), vI 0] [] w Q
                      refine br_eq (fun c80 => ?_) (fun c80 => ?_)
                      · refine WP.blk 2 ?_
                        show WP 0 111 132 [vI a, vI b, vI ((a + b) + 194), vI 0] [vI 1] w Q
                        exact WP.ret rfl rfl rfl ⟨by omega, trivial⟩ (k)
                      · refine WP.blk 3 ?_
                        show WP 0 111 (if cnd .ne a 25 = true then 131 else 127) [vI a, vI b, vI ((a + b) + 194), vI 0] [] w Q
                        refine br_ne (fun c81 => ?_) (fun c81 => ?_)
                        · refine WP.blk 1 ?_
                          show WP 0 111 132 [vI a, vI b, vI ((a + b) + 194), vI 0] [vI 0] w Q
                          exact WP.ret rfl rfl rfl ⟨by omega, trivial⟩ (by exfalso; omega)
                        · refine WP.blk 2 ?_
                          show WP 0 111 132 [vI a, vI b, vI ((a + b) + 194), vI 0] [vI 1] w Q
                          exact WP.ret rfl rfl rfl ⟨by omega, trivial⟩ (k)
            · refine WP.blk 3 ?_
              show WP 0 111 (if cnd .eq a 13 = true then 82 else 76) [vI a, vI b, vI ((a + b) + 194), none] [] w Q
              refine br_eq (fun c82 => ?_) (fun c82 => ?_)
              · refine WP.blk 7 ?_
                show WP 0 111 132 [vI a, vI b, vI ((a + b) + 194), vI 1] [vI 1] w Q
                exact WP.ret rfl rfl rfl ⟨by omega, trivial⟩ (k)
              · refine WP.blk 3 ?_
                show WP 0 111 (if cnd .ne a 20 = true then 86 else 82) [vI a, vI b, vI ((a + b) + 194), none] [] w Q
                refine br_ne (fun c83 => ?_) (fun c83 => ?_)
                · refine WP.blk 7 ?_
                  show WP 0 111 (if cnd .ne a b = true then 131 else 97) [vI a, vI b, vI ((a + b) + 194), vI 0] [] w Q
                  refine br_ne (fun c84 => ?_) (fun c84 => ?_)
                  · refine WP.blk 1 ?_
                    show WP 0 111 132 [vI a, vI b, vI ((a + b) + 194), vI 0] [vI 0] w Q
                    exact WP.ret rfl rfl rfl ⟨by omega, trivial⟩ (by exfalso; omega)
                  · refine WP.blk 3 ?_
                    show WP 0 111 (if cnd .eq a 11 = true then 127 else 103) [vI a, vI b, vI ((a + b) + 194), vI 0] [] w Q
                    refine br_eq (fun c85 => ?_) (fun c85 => ?_)
                    · refine WP.blk 2 ?_
                      show WP 0 111 132 [vI a, vI b, vI ((a + b) + 194), vI 0] [vI 1] w Q
                      exact WP.ret rfl rfl rfl ⟨by omega, trivial⟩ (k)
                    · refine WP.blk 3 ?_
                      show WP 0 111 (if cnd .eq a 14 = true then 127 else 109) [vI a, vI b, vI ((a + b) + 194), vI 0] [] w Q
                      refine br_eq (fun c86 => ?_) (fun c86 => ?_)
                      · refine WP.blk 2 ?_
                        show WP 0 111 132 [vI a, vI b, vI ((a + b) + 194), vI 0] [vI 1] w Q
                        exact WP.ret rfl rfl rfl ⟨by omega, trivial⟩ (k)
                      · refine WP.blk 3 ?_
                        show WP 0 111 (if cnd .eq a 18 = true then 127 else 115) [vI a, vI b, vI ((a + b) + 194), vI 0] [] w Q
                        refine br_eq (fun c87 => ?_) (fun c87 => ?_)
                        · refine WP.blk 2 ?_
                          show WP 0 111 132 [vI a, vI b, vI ((a + b) + 194), vI 0] [vI 1] w Q
                          exact WP.ret rfl rfl rfl ⟨by omega, trivial⟩ (k)
                        · refine WP.blk 3 ?_
                          show WP 0 111 (if cnd .eq a 23 = true then 127 else 121) [vI a, vI b, vI ((a + b) + 194), vI 0] [] w Q
                          refine br_eq (fun c88 => ?_) (fun c88 => ?_)
                          · refine WP.blk 2 ?_
                            show WP 0 111 132 [vI a, vI b, vI ((a + b) + 194), vI 0] [vI 1] w Q
                            exact WP.ret rfl rfl rfl ⟨by omega, trivial⟩ (k)
                          · refine WP.blk 3 ?_
                            show WP 0 111 (if cnd .ne a 25 = true then 131 else 127) [vI a, vI b, vI ((a + b) + 194), vI 0] [] w Q
                            refine br_ne (fun c89 => ?_) (fun c89 => ?_)
                            · refine WP.blk 1 ?_
                              show WP 0 111 132 [vI a, vI b, vI ((a + b) + 194), vI 0] [vI 0] w Q
                              exact WP.ret rfl rfl rfl ⟨by omega, trivial⟩ (by exfalso; omega)
                            · refine WP.blk 2 ?_
                              show WP 0 111 132 [vI a, vI b, vI ((a + b) + 194), vI 0] [vI 1] w Q
                              exact WP.ret rfl rfl rfl ⟨by omega, trivial⟩ (k)
                · refine WP.blk 7 ?_
                  show WP 0 111 132 [vI a, vI b, vI ((a + b) + 194), vI 1] [vI 1] w Q
                  exact WP.ret rfl rfl rfl ⟨by omega, trivial⟩ (k)
          · refine WP.blk 3 ?_
            show WP 0 111 (if cnd .eq a 12 = true then 82 else 57) [vI a, vI b, vI ((a + b) + 194), none] [] w Q
            refine br_eq (fun c90 => ?_) (fun c90 => ?_)
            · refine WP.blk 7 ?_
              show WP 0 111 132 [vI a, vI b, vI ((a + b) + 194), vI 1] [vI 1] w Q
              exact WP.ret rfl rfl rfl ⟨by omega, trivial⟩ (k)
            · refine WP.blk 3 ?_
              show WP 0 111 (if cnd .eq a 22 = true then 82 else 63) [vI a, vI b, vI ((a + b) + 194), none] [] w Q
              refine br_eq (fun c91 => ?_) (fun c91 => ?_)
              · refine WP.blk 7 ?_
                show WP 0 111 132 [vI a, vI b, vI ((a + b) + 194), vI 1] [vI 1] w Q
                exact WP.ret rfl rfl rfl ⟨by omega, trivial⟩ (k)
              · refine WP.blk 3 ?_
                show WP 0 111 (if cnd .ne ((a + b) + 194) 227 = true then 86 else 70) [vI a, vI b, vI ((a + b) + 194), none] [] w Q
                refine br_ne (fun c92 => ?_) (fun c92 => ?_)
                · refine WP.blk 7 ?_
                  show WP 0 111 (if cnd .ne a b = true then 131 else 97) [vI a, vI b, vI ((a + b) + 194), vI 0] [] w Q
                  refine br_ne (fun c93 => ?_) (fun c93 => ?_)
                  · refine WP.blk 1 ?_
                    show WP 0 111 132 [vI a, vI b, vI ((a + b) + 194), vI 0] [vI 0] w Q
                    exact WP.ret rfl rfl rfl ⟨by omega, trivial⟩ (by exfalso; omega)
                  · refine WP.blk 3 ?_
                    show WP 0 111 (if cnd .eq a 11 = true then 127 else 103) [vI a, vI b, vI ((a + b) + 194), vI 0] [] w Q
                    refine br_eq (fun c94 => ?_) (fun c94 => ?_)
                    · refine WP.blk 2 ?_
                      show WP 0 111 132 [vI a, vI b, vI ((a + b) + 194), vI 0] [vI 1] w Q
                      exact WP.ret rfl rfl rfl ⟨by omega, trivial⟩ (k)
                    · refine WP.blk 3 ?_
                      show WP 0 111 (if cnd .eq a 14 = true then 127 else 109) [vI a, vI b, vI ((a + b) + 194), vI 0] [] w Q
                      refine br_eq (fun c95 => ?_) (fun c95 => ?_)
                      · refine WP.blk 2 ?_
                        show WP 0 111 132 [vI a, vI b, vI ((a + b) + 194), vI 0] [vI 1] w Q
                        exact WP.ret rfl rfl rfl ⟨by omega, trivial⟩ (k)
                      · refine WP.blk 3 ?_
                        show WP 0 111 (if cnd .eq a 18 = true then 127 else 115) [vI a, vI b, vI ((a + b) + 194), vI 0] [] w Q
                        refine br_eq (fun c96 => ?_) (fun c96 => ?_)
                        · refine WP.blk 2 ?_
                          show WP 0 111 132 [vI a, vI b, vI ((a + b) + 194), vI 0] [vI 1] w Q
                          exact WP.ret rfl rfl rfl ⟨by omega, trivial⟩ (k)
                        · refine WP.blk 3 ?_
                          show WP 0 111 (if cnd .eq a 23 = true then 127 else 121) [vI a, vI b, vI ((a + b) + 194), vI 0] [] w Q
                          refine br_eq (fun c97 => ?_) (fun c97 => ?_)
                          · refine WP.blk 2 ?_
                            show WP 0 111 132 [vI a, vI b, vI ((a + b) + 194), vI 0] [vI 1] w Q
                            exact WP.ret rfl rfl rfl ⟨by omega, trivial⟩ (k)
                          · refine WP.blk 3 ?_
                            show WP 0 111 (if cnd .ne a 25 = true then 131 else 127) [vI a, vI b, vI ((a + b) + 194), vI 0] [] w Q
                            refine br_ne (fun c98 => ?_) (fun c98 => ?_)
                            · refine WP.blk 1 ?_
                              show WP 0 111 132 [vI a, vI b, vI ((a + b) + 194), vI 0] [vI 0] w Q
                              exact WP.ret rfl rfl rfl ⟨by omega, trivial⟩ (by exfalso; omega)
                            · refine WP.blk 2 ?_
                              show WP 0 111 132 [vI a, vI b, vI ((a + b) + 194), vI 0] [vI 1] w Q
                              exact WP.ret rfl rfl rfl ⟨by omega, trivial⟩ (k)
                · refine WP.blk 3 ?_
                  show WP 0 111 (if cnd .eq a 13 = true then 82 else 76) [vI a, vI b, vI ((a + b) + 194), none] [] w Q
                  refine br_eq (fun c99 => ?_) (fun c99 => ?_)
                  · refine WP.blk 7 ?_
                    show WP 0 111 132 [vI a, vI b, vI ((a + b) + 194), vI 1] [vI 1] w Q
                    exact WP.ret rfl rfl rfl ⟨by omega, trivial⟩ (k)
                  · refine WP.blk 3 ?_
                    show WP 0 111 (if cnd .ne a 20 = true then 86 else 82) [vI a, vI b, vI ((a + b) + 194), none] [] w Q
                    refine br_ne (fun c100 => ?_) (fun c100 => ?_)
                    · refine WP.blk 7 ?_
                      show WP 0 111 (if cnd .ne a b = true then 131 else 97) [vI a, vI b, vI ((a + b) + 194), vI 0] [] w Q
                      refine br_ne (fun c101 => ?_) (fun c101 => ?_)
                      · refine WP.blk 1 ?_
                        show WP 0 111 132 [vI a, vI b, vI ((a + b) + 194), vI 0] [vI 0] w Q
                        exact WP.ret rfl rfl rfl ⟨by omega, trivial⟩ (by exfalso; omega)
                      · refine WP.blk 3 ?_
                        show WP 0 111 (if cnd .eq a 11 = true then 127 else 103) [vI a, vI b, vI ((a + b) + 194), vI 0] [] w Q
                        refine br_eq (fun c102 => ?_) (fun c102 => ?_)
                        · refine WP.blk 2 ?_
                          show WP 0 111 132 [vI a, vI b, vI ((a + b) + 194), vI 0] [vI 1] w Q
                          exact WP.ret rfl rfl rfl ⟨by omega, trivial⟩ (k)
                        · refine WP.blk 3 ?_
                          show WP 0 111 (if cnd .eq a 14 = true then 127 else 109) [vI a, vI b, vI ((a + b) + 194), vI 0] [] w Q
                          refine br_eq (fun c103 => ?_) (fun c103 => ?_)
                          · refine WP.blk 2 ?_
                            show WP 0 111 132 [vI a, vI b, vI ((a + b) + 194), vI 0] [vI 1] w Q
                            exact WP.ret rfl rfl rfl ⟨by omega, trivial⟩ (k)
                          · refine WP.blk 3 ?_
                            show WP 0 111 (if cnd .eq a 18 = true then 127 else 115) [vI a, vI b, vI ((a + b) + 194), vI 0] [] w Q
                            refine br_eq (fun c104 => ?_) (fun c104 => ?_)
                            · refine WP.blk 2 ?_
                              show WP 0 111 132 [vI a, vI b, vI ((a + b) + 194), vI 0] [vI 1] w Q
                              exact WP.ret rfl rfl rfl ⟨by omega, trivial⟩ (k)
                            · refine WP.blk 3 ?_
                              show WP 0 111 (if cnd .eq a 23 = true then 127 else 121) [vI a, vI b, vI ((a + b) + 194), vI 0] [] w Q
                              refine br_eq (fun c105 => ?_) (fun c105 => ?_)
                              · refine WP.blk 2 ?_
                                show WP 0 111 132 [vI a, vI b, vI ((a + b) + 194), vI 0] [vI 1] w Q
                                exact WP.ret rfl rfl rfl ⟨by omega, trivial⟩ (k)
                              · refine WP.blk 3 ?_
                                show WP 0 111 (if cnd .ne a 25 = true then 131 else 127) [vI a, vI b, vI ((a + b) + 194), vI 0] [] w Q
                                refine br_ne (fun c106 => ?_) (fun c106 => ?_)
                                · refine WP.blk 1 ?_
                                  show WP 0 111 132 [vI a, vI b, vI ((a + b) + 194), vI 0] [vI 0] w Q
                                  exact WP.ret rfl rfl rfl ⟨by omega, trivial⟩ (by exfalso; omega)
                                · refine WP.blk 2 ?_
                                  show WP 0 111 132 [vI a, vI b, vI ((a + b) + 194), vI 0] [vI 1] w Q
                                  exact WP.ret rfl rfl rfl ⟨by omega, trivial⟩ (k)
                    · refine WP.blk 7 ?_
                      show WP 0 111 132 [vI a, vI b, vI ((a + b) + 194), vI 1] [vI 1] w Q
                      exact WP.ret rfl rfl rfl ⟨by omega, trivial⟩ (k)
        · refine WP.blk 3 ?_
          show WP 0 111 (if cnd .eq a 3 = true then 82 else 38) [vI a, vI b, vI ((a + b) + 194), none] [] w Q
          refine br_eq (fun c107 => ?_) (fun c107 => ?_)
          · refine WP.blk 7 ?_
            show WP 0 111 132 [vI a, vI b, vI ((a + b) + 194), vI 1] [vI 1] w Q
            exact WP.ret rfl rfl rfl ⟨by omega, trivial⟩ (k)
          · refine WP.blk 3 ?_
            show WP 0 111 (if cnd .eq a 15 = true then 82 else 44) [vI a, vI b, vI ((a + b) + 194), none] [] w Q
            refine br_eq (fun c108 => ?_) (fun c108 => ?_)
            · refine WP.blk 7 ?_
              show WP 0 111 132 [vI a, vI b, vI ((a + b) + 194), vI 1] [vI 1] w Q
              exact WP.ret rfl rfl rfl ⟨by omega, trivial⟩ (k)
            · refine WP.blk 3 ?_
              show WP 0 111 (if cnd .ne ((a + b) + 194) 228 = true then 63 else 51) [vI a, vI b, vI ((a + b) + 194), none] [] w Q
              refine br_ne (fun c109 => ?_) (fun c109 => ?_)
              · refine WP.blk 3 ?_
                show WP 0 111 (if cnd .ne ((a + b) + 194) 227 = true then 86 else 70) [vI a, vI b, vI ((a + b) + 194), none] [] w Q
                refine br_ne (fun c110 => ?_) (fun c110 => ?_)
                · refine WP.blk 7 ?_
                  show WP 0 111 (if cnd .ne a b = true then 131 else 97) [vI a, vI b, vI ((a + b) + 194), vI 0] [] w Q
                  refine br_ne (fun c111 => ?_) (fun c111 => ?_)
                  · refine WP.blk 1 ?_
                    show WP 0 111 132 [vI a, vI b, vI ((a + b) + 194), vI 0] [vI 0] w Q
                    exact WP.ret rfl rfl rfl ⟨by omega, trivial⟩ (by exfalso; omega)
                  · refine WP.blk 3 ?_
                    show WP 0 111 (if cnd .eq a 11 = true then 127 else 103) [vI a, vI b, vI ((a + b) + 194), vI 0] [] w Q
                    refine br_eq (fun c112 => ?_) (fun c112 => ?_)
                    · refine WP.blk 2 ?_
                      show WP 0 111 132 [vI a, vI b, vI ((a + b) + 194), vI 0] [vI 1] w Q
                      exact WP.ret rfl rfl rfl ⟨by omega, trivial⟩ (k)
                    · refine WP.blk 3 ?_
                      show WP 0 111 (if cnd .eq a 14 = true then 127 else 109) [vI a, vI b, vI ((a + b) + 194), vI 0] [] w Q
                      refine br_eq (fun c113 => ?_) (fun c113 => ?_)
                      · refine WP.blk 2 ?_
                        show WP 0 111 132 [vI a, vI b, vI ((a + b) + 194), vI 0] [vI 1] w Q
                        exact WP.ret rfl rfl rfl ⟨by omega, trivial⟩ (k)
                      · refine WP.blk 3 ?_
                        show WP 0 111 (if cnd .eq a 18 = true then 127 else 115) [vI a, vI b, vI ((a + b) + 194), vI 0] [] w Q
                        refine br_eq (fun c114 => ?_) (fun c114 => ?_)
                        · refine WP.blk 2 ?_
                          show WP 0 111 132 [vI a, vI b, vI ((a + b) + 194), vI 0] [vI 1] w Q
                          exact WP.ret rfl rfl rfl ⟨by omega, trivial⟩ (k)
                        · refine WP.blk 3 ?_
                          show WP 0 111 (if cnd .eq a 23 = true then 127 else 121) [vI a, vI b, vI ((a + b) + 194), vI 0] [] w Q
                          refine br_eq (fun c115 => ?_) (fun c115 => ?_)
                          · refine WP.blk 2 ?_
                            show WP 0 111 132 [vI a, vI b, vI ((a + b) + 194), vI 0] [vI 1] w Q
                            exact WP.ret rfl rfl rfl ⟨by omega, trivial⟩ (k)
                          · refine WP.blk 3 ?_
                            show WP 0 111 (if cnd .ne a 25 = true then 131 else 127) [vI a, vI b, vI ((a + b) + 194), vI 0] [] w Q
                            refine br_ne (fun c116 => ?_) (fun c116 => ?_)
                            · refine WP.blk 1 ?_
                              show WP 0 111 132 [vI a, vI b, vI ((a + b) + 194), vI 0] [vI 0] w Q
                              exact WP.ret rfl rfl rfl ⟨by omega, trivial⟩ (by exfalso; omega)
                            · refine WP.blk 2 ?_
                              show WP 0 111 132 [vI a, vI b, vI ((a + b) + 194), vI 0] [vI 1] w Q
                              exact WP.ret rfl rfl rfl ⟨by omega, trivial⟩ (k)
                · refine WP.blk 3 ?_
                  show WP 0 111 (if cnd .eq a 13 = true then 82 else 76) [vI a, vI b, vI ((a + b) + 194), none] [] w Q
                  refine br_eq (fun c117 => ?_) (fun c117 => ?_)
                  · refine WP.blk 7 ?_
                    show WP 0 111 132 [vI a, vI b, vI ((a + b) + 194), vI 1] [vI 1] w Q
                    exact WP.ret rfl rfl rfl ⟨by omega, trivial⟩ (k)
                  · refine WP.blk 3 ?_
                    show WP 0 111 (if cnd .ne a 20 = true then 86 else 82) [vI a, vI b, vI ((a + b) + 194), none] [] w Q
                    refine br_ne (fun c118 => ?_) (fun c118 => ?_)
                    · refine WP.blk 7 ?_
                      show WP 0 111 (if cnd .ne a b = true then 131 else 97) [vI a, vI b, vI ((a + b) + 194), vI 0] [] w Q
                      refine br_ne (fun c119 => ?_) (fun c119 => ?_)
                      · refine WP.blk 1 ?_
                        show WP 0 111 132 [vI a, vI b, vI ((a + b) + 194), vI 0] [vI 0] w Q
                        exact WP.ret rfl rfl rfl ⟨by omega, trivial⟩ (by exfalso; omega)
                      · refine WP.blk 3 ?_
                        show WP 0 111 (if cnd .eq a 11 = true then 127 else 103) [vI a, vI b, vI ((a + b) + 194), vI 0] [] w Q
                        refine br_eq (fun c120 => ?_) (fun c120 => ?_)
                        · refine WP.blk 2 ?_
                          show WP 0 111 132 [vI a, vI b, vI ((a + b) + 194), vI 0] [vI 1] w Q
                          exact WP.ret rfl rfl rfl ⟨by omega, trivial⟩ (k)
                        · refine WP.blk 3 ?_
                          show WP 0 111 (if cnd .eq a 14 = true then 127 else 109) [vI a, vI b, vI ((a + b) + 194), vI 0] [] w Q
                          refine br_eq (fun c121 => ?_) (fun c121 => ?_)
                          · refine WP.blk 2 ?_
                            show WP 0 111 132 [vI a, vI b, vI ((a + b) + 194), vI 0] [vI 1] w Q
                            exact WP.ret rfl rfl rfl ⟨by omega, trivial⟩ (k)
                          · refine WP.blk 3 ?_
                            show WP 0 111 (if cnd .eq a 18 = true then 127 else 115) [vI a, vI b, vI ((a + b) + 194), vI 0] [] w Q
                            refine br_eq (fun c122 => ?_) (fun c122 => ?_)
                            · refine WP.blk 2 ?_
                              show WP 0 111 132 [vI a, vI b, vI ((a + b) + 194), vI 0] [vI 1] w Q
                              exact WP.ret rfl rfl rfl ⟨by omega, trivial⟩ (k)
                            · refine WP.blk 3 ?_
                              show WP 0 111 (if cnd .eq a 23 = true then 127 else 121) [vI a, vI b, vI ((a + b) + 194), vI 0] [] w Q
                              refine br_eq (fun c123 => ?_) (fun c123 => ?_)
                              · refine WP.blk 2 ?_
                                show WP 0 111 132 [vI a, vI b, vI ((a + b) + 194), vI 0] [vI 1] w Q
                                exact WP.ret rfl rfl rfl ⟨by omega, trivial⟩ (k)
                              · refine WP.blk 3 ?_
                                show WP 0 111 (if cnd .ne a 25 = true then 131 else 127) [vI a, vI b, vI ((a + b) + 194), vI 0] [] w Q
                                refine br_ne (fun c124 => ?_) (fun c124 => ?_)
                                · refine WP.blk 1 ?_
                                  show WP 0 111 132 [vI a, vI b, vI ((a + b) + 194), vI 0] [vI 0] w Q
                                  exact WP.ret rfl rfl rfl ⟨by omega, trivial⟩ (by exfalso; omega)
                                · refine WP.blk 2 ?_
                                  show WP 0 111 132 [vI a, vI b, vI ((a + b) + 194), vI 0] [vI 1] w Q
                                  exact WP.ret rfl rfl rfl ⟨by omega, trivial⟩ (k)
                    · refine WP.blk 7 ?_
                      show WP 0 111 132 [vI a, vI b, vI ((a + b) + 194), vI 1] [vI 1] w Q
                      exact WP.ret rfl rfl rfl ⟨by omega, trivial⟩ (k)
              · refine WP.blk 3 ?_
                show WP 0 111 (if cnd .eq a 12 = true then 82 else 57) [vI a, vI b, vI ((a + b) + 194), none] [] w Q
                refine br_eq (fun c125 => ?_) (fun c125 => ?_)
                · refine WP.blk 7 ?_
                  show WP 0 111 132 [vI a, vI b, vI ((a + b) + 194), vI 1] [vI 1] w Q
                  exact WP.ret rfl rfl rfl ⟨by omega, trivial⟩ (k)
                · refine WP.blk 3 ?_
                  show WP 0 111 (if cnd .eq a 22 = true then 82 else 63) [vI a, vI b, vI ((a + b) + 194), none] [] w Q
                  refine br_eq (fun c126 => ?_) (fun c126 => ?_)
                  · refine WP.blk 7 ?_
                    show WP 0 111 132 [vI a, vI b, vI ((a + b) + 194), vI 1] [vI 1] w Q
                    exact WP.ret rfl rfl rfl ⟨by omega, trivial⟩ (k)
                  · refine WP.blk 3 ?_
                    show WP 0 111 (if cnd .ne ((a + b) + 194) 227 = true then 86 else 70) [vI a, vI b, vI ((a + b) + 194), none] [] w Q
                    refine br_ne (fun c127 => ?_) (fun c127 => ?_)
                    · refine WP.blk 7 ?_
                      show WP 0 111 (if cnd .ne a b = true then 131 else 97) [vI a, vI b, vI ((a + b) + 194), vI 0] [] w Q
                      refine br_ne (fun c128 => ?_) (fun c128 => ?_)
                      · refine WP.blk 1 ?_
                        show WP 0 111 132 [vI a, vI b, vI ((a + b) + 194), vI 0] [vI 0] w Q
                        exact WP.ret rfl rfl rfl ⟨by omega, trivial⟩ (by exfalso; omega)
                      · refine WP.blk 3 ?_
                        show WP 0 111 (if cnd .eq a 11 = true then 127 else 103) [vI a, vI b, vI ((a + b) + 194), vI 0] [] w Q
                        refine br_eq (fun c129 => ?_) (fun c129 => ?_)
                        · refine WP.blk 2 ?_
                          show WP 0 111 132 [vI a, vI b, vI ((a + b) + 194), vI 0] [vI 1] w Q
                          exact WP.ret rfl rfl rfl ⟨by omega, trivial⟩ (k)
                        · refine WP.blk 3 ?_
                          show WP 0 111 (if cnd .eq a 14 = true then 127 else 109) [vI a, vI b, vI ((a + b) + 194), vI 0] [] w Q
                          refine br_eq (fun c130 => ?_) (fun c130 => ?_)
                          · refine WP.blk 2 ?_
                            show WP 0 111 132 [vI a, vI b, vI ((a + b) + 194), vI 0] [vI 1] w Q
                            exact WP.ret rfl rfl rfl ⟨by omega, trivial⟩ (k)
                          · refine WP.blk 3 ?_
                            show WP 0 111 (if cnd .eq a 18 = true then 127 else 115) [vI a, vI b, vI ((a + b) + 194), vI 0] [] w Q
                            refine br_eq (fun c131 => ?_) (fun c131 => ?_)
                            · refine WP.blk 2 ?_
                              show WP 0 111 132 [vI a, vI b, vI ((a + b) + 194), vI 0] [vI 1] w Q
                              exact WP.ret rfl rfl rfl ⟨by omega, trivial⟩ (k)
                            · refine WP.blk 3 ?_
                              show WP 0 111 (if cnd .eq a 23 = true then 127 else 121) [vI a, vI b, vI ((a + b) + 194), vI 0] [] w Q
                              refine br_eq (fun c132 => ?_) (fun c132 => ?_)
                              · refine WP.blk 2 ?_
                                show WP 0 111 132 [vI a, vI b, vI ((a + b) + 194), vI 0] [vI 1] w Q
                                exact WP.ret rfl rfl rfl ⟨by omega, trivial⟩ (k)
                              · refine WP.blk 3 ?_
                                show WP 0 111 (if cnd .ne a 25 = true then 131 else 127) [vI a, vI b, vI ((a + b) + 194), vI 0] [] w Q
                                refine br_ne (fun c133 => ?_) (fun c133 => ?_)
                                · refine WP.blk 1 ?_
                                  show WP 0 111 132 [vI a, vI b, vI ((a + b) + 194), vI 0] [vI 0] w Q
                                  exact WP.ret rfl rfl rfl ⟨by omega, trivial⟩ (by exfalso; omega)
                                · refine WP.blk 2 ?_
                                  show WP 0 111 132 [vI a, vI b, vI ((a + b) + 194), vI 0] [vI 1] w Q
                                  exact WP.ret rfl rfl rfl ⟨by omega, trivial⟩ (k)
                    · refine WP.blk 3 ?_
                      show WP 0 111 (if cnd .eq a 13 = true then 82 else 76) [vI a, vI b, vI ((a + b) + 194), none] [] w Q
                      refine br_eq (fun c134 => ?_) (fun c134 => ?_)
                      · refine WP.blk 7 ?_
                        show WP 0 111 132 [vI a, vI b, vI ((a + b) + 194), vI 1] [vI 1] w Q
                        exact WP.ret rfl rfl rfl ⟨by omega, trivial⟩ (k)
                      · refine WP.blk 3 ?_
                        show WP 0 111 (if cnd .ne a 20 = true then 86 else 82) [vI a, vI b, vI ((a + b) + 194), none] [] w Q
                        refine br_ne (fun c135 => ?_) (fun c135 => ?_)
                        · refine WP.blk 7 ?_
                          show WP 0 111 (if cnd .ne a b = true then 131 else 97) [vI a, vI b, vI ((a + b) + 194), vI 0] [] w Q
                          refine br_ne (fun c136 => ?_) (fun c136 => ?_)
                          · refine WP.blk 1 ?_
                            show WP 0 111 132 [vI a, vI b, vI ((a + b) + 194), vI 0] [vI 0] w Q
                            exact WP.ret rfl rfl rfl ⟨by omega, trivial⟩ (by exfalso; omega)
                          · refine WP.blk 3 ?_
                            show WP 0 111 (if cnd .eq a 11 = true then 127 else 103) [vI a, vI b, vI ((a + b) + 194), vI 0] [] w Q
                            refine br_eq (fun c137 => ?_) (fun c137 => ?_)
                            · refine WP.blk 2 ?_
                              show WP 0 111 132 [vI a, vI b, vI ((a + b) + 194), vI 0] [vI 1] w Q
                              exact WP.ret rfl rfl rfl ⟨by omega, trivial⟩ (k)
                            · refine WP.blk 3 ?_
                              show WP 0 111 (if cnd .eq a 14 = true then 127 else 109) [vI a, vI b, vI ((a + b) + 194), vI 0] [] w Q
                              refine br_eq (fun c138 => ?_) (fun c138 => ?_)
                              · refine WP.blk 2 ?_
                                show WP 0 111 132 [vI a, vI b, vI ((a + b) + 194), vI 0] [vI 1] w Q
                                exact WP.ret rfl rfl rfl ⟨by omega, trivial⟩ (k)
                              · refine WP.blk 3 ?_
                                show WP 0 111 (if cnd .eq a 18 = true then 127 else 115) [vI a, vI b, vI ((a + b) + 194), vI 0] [] w Q
                                refine br_eq (fun c139 => ?_) (fun c139 => ?_)
                                · refine WP.blk 2 ?_
                                  show WP 0 111 132 [vI a, vI b, vI ((a + b) + 194), vI 0] [vI 1] w Q
                                  exact WP.ret rfl rfl rfl ⟨by omega, trivial⟩ (k)
                                · refine WP.blk 3 ?_
                                  show WP 0 111 (if cnd .eq a 23 = true then 127 else 121) [vI a, vI b, vI ((a + b) + 194), vI 0] [] w Q
                                  refine br_eq (fun c140 => ?_) (fun c140 => ?_)
                                  · refine WP.blk 2 ?_
                                    show WP 0 111 132 [vI a, vI b, vI ((a + b) + 194), vI 0] [vI 1] w Q
                                    exact WP.ret rfl rfl rfl ⟨by omega, trivial⟩ (k)
                                  · refine WP.blk 3 ?_
                                    show WP 0 111 (if cnd .ne a 25 = true then 131 else 127) [vI a, vI b, vI ((a + b) + 194), vI 0] [] w Q
                                    refine br_ne (fun c141 => ?_) (fun c141 => ?_)
                                    · refine WP.blk 1 ?_
                                      show WP 0 111 132 [vI a, vI b, vI ((a + b) + 194), vI 0] [vI 0] w Q
                                      exact WP.ret rfl rfl rfl ⟨by omega, trivial⟩ (by exfalso; omega)
                                    · refine WP.blk 2 ?_
                                      show WP 0 111 132 [vI a, vI b, vI ((a + b) + 194), vI 0] [vI 1] w Q
                                      exact WP.ret rfl rfl rfl ⟨by omega, trivial⟩ (k)
                        · refine WP.blk 7 ?_
                          show WP 0 111 132 [vI a, vI b, vI ((a + b) + 194), vI 1] [vI 1] w Q
                          exact WP.ret rfl rfl rfl ⟨by omega, trivial⟩ (k)
theorem pv_r {f : Int → Int} {w : Int} (hA : StAll f) (hw : WdOk f w) : pv f w = -1 ∨ (1 ≤ pv f w ∧ pv f w ≤ f (97 + 14 * w) ∧ f (97 + 14 * w) ≤ 12) := by
  by_cases e : pv f w = -1
  · exact Or.inl e
  · obtain ⟨-, c, hc⟩ := pv_t hA hw e
    have := (best_q hA hw hc).1
    exact Or.inr ⟨this.1, this.2, hw.2.2.2.1⟩
theorem z_presses {N B : Int} {x L : Nat} {w : Wd} {f : Int → Int} {fs : List (Int → Int)} {sv : Int} {Q : Res → Wd → Prop} (h : LwS N B x L w f fs sv) (k : ∀ w', LwS (N + 40) B x L w' f fs sv → Q (0, vI (allP f)) w') : EvQ 9 117 [vR x] w Q := by
  refine EvQ.enter (ls := [vR x, none, none]) (Nat.le_of_ble_eq_true rfl) rfl ?_
  have hR := (ls_row h).1
  have hA := hR.1
  have hW := hR.2.1
  have hI := hR.2.2
  have hA1 := hA.1
  have hW1 := hW.1
  have hI2 := hI.2
  refine WP.blk 4 ?_
  show WP 8 117 4 [vR x, vI 0, vI 0] [] w Q
  have hl_4 : ∀ (n_4 : Nat) (i : Int) (s : Int) (w_4 : Wd), 0 ≤ i ∧ i ≤ f 1 → s = sm (p1 f) i → 0 ≤ s ∧ s ≤ 100 * i → LwS (N + 3 * i) (B) x L w_4 f fs sv → (f 1 - i).toNat < n_4 → WP 8 117 4 [vR x, vI s, vI i] [] w_4 Q := by
    intro n_4
    induction n_4 with
    | zero => intro i s w_4 p0 p1_ p2 h_4 hm_4; exact absurd hm_4 (Nat.not_lt_zero _)
    | succ n_4 ih_4 =>
      intro i s w_4 p0 p1_ p2 h_4 hm_4
      have hp := fun (q : i < f 1) => pv_r hA (hW.2 i p0.1 q).1
      refine WP.blk 3 ?_
      show WP 8 117 7 [vR x, vI s, vI i] [vI 1, vR x, vI i] w_4 Q
      refine WP.cl (a := [vR x, vI 1]) (rest := [vI i]) rfl rfl rfl rfl trivial (by decide) (v_value h_4 (Int.le_refl _) (vV_lo (by omega)) (fun wd1 hh1 => ⟨rfl, ?_⟩))
      show WP 8 117 10 [vR x, vI s, vI i] [vI (f 1), vI i] wd1 Q
      refine WP.blk 1 ?_
      show WP 8 117 (if cnd .ge i (f 1) = true then 43 else 13) [vR x, vI s, vI i] [] wd1 Q
      refine br_ge (fun c2 => ?_) (fun c2 => ?_)
      · refine WP.blk 1 ?_
        show WP 8 117 44 [vR x, vI s, vI i] [vI s] wd1 Q
        exact WP.ret rfl rfl rfl trivial (by rw [show s = allP f by unfold allP; rw [p1_, show i = f 1 by omega]]; exact k _ (ls_le hh1 (by omega)))
      · refine WP.blk 4 ?_
        show WP 8 117 17 [vR x, vI s, vI i] [vI 2, vI i, vR x, vI s] wd1 Q
        refine WP.cl (a := [vR x, vI i, vI 2]) (rest := [vI s]) rfl rfl rfl rfl trivial (by decide) (v_word hh1 (Int.le_refl _) (wV_2 hA hW (by omega)) (fun wd3 hh3 => ⟨rfl, ?_⟩))
        show WP 8 117 20 [vR x, vI s, vI i] [vI (pv f i), vI s] wd3 Q
        refine WP.blk 2 ?_
        show WP 8 117 (if cnd .ne (pv f i) (-1) = true then 29 else 24) [vR x, vI s, vI i] [vI s] wd3 Q
        refine br_ne (fun c4 => ?_) (fun c4 => ?_)
        · refine WP.blk 3 ?_
          show WP 8 117 32 [vR x, vI s, vI i] [vI 2, vI i, vR x, vI s] wd3 Q
          refine WP.cl (a := [vR x, vI i, vI 2]) (rest := [vI s]) rfl rfl rfl rfl trivial (by decide) (v_word hh3 (Int.le_refl _) (wV_2 hA hW (by omega)) (fun wd5 hh5 => ⟨rfl, ?_⟩))
          show WP 8 117 35 [vR x, vI s, vI i] [vI (pv f i), vI s] wd5 Q
          refine WP.blk 4 ?_
          show ir (s + (pv f i)) ∧ ir (i + 1) ∧ WP 8 117 4 [vR x, vI (s + (pv f i)), vI (i + 1)] [] wd5 Q
          refine ⟨(by unfold ir; have hq := hp (by omega); omega), (by unfold ir; have hq := hp (by omega); omega), ?_⟩
          exact ih_4 (i + 1) (s + (pv f i)) wd5 (by omega) (by rw [sm_s p0.1, ← p1_]; unfold p1; rw [if_neg (by omega)]) (by have hq := hp (by omega); omega) (ls_le hh5 (by omega)) (by omega)
        · refine WP.blk 6 ?_
          show ir (s + 100) ∧ ir (i + 1) ∧ WP 8 117 4 [vR x, vI (s + 100), vI (i + 1)] [] wd3 Q
          refine ⟨(by unfold ir; have hq := hp (by omega); omega), (by unfold ir; have hq := hp (by omega); omega), ?_⟩
          exact ih_4 (i + 1) (s + 100) wd3 (by omega) (by rw [sm_s p0.1, ← p1_]; unfold p1; rw [if_pos (by omega)]) (by have hq := hp (by omega); omega) (ls_le hh3 (by omega)) (by omega)
  exact hl_4 _ 0 0 w (by omega) rfl (by omega) (ls_le h (by omega)) (Nat.lt_succ_self _)
