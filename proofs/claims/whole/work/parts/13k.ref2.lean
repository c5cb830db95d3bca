set_option maxHeartbeats 4000000 in
theorem r_presses {S : SD} {M : Nat → Int → Int} {m : Nat} {f : Int → Int} {w x : Int} (hS : isMod S m) (hf : M (m + 1) = f) (hA : StAll f) (hw : WdOk f w) (hx : 0 ≤ x ∧ x < 1024) {Q : Res → Wd → Prop} (k : ∀ (v : Int) (M2 : Nat → Int → Int), (∀ r, r ≠ m + 6 → M2 r = M r) → ∀ L, M2 (m + 6) = L → Lst 100 f w x 0 L → (v = -1 ∧ L 0 = 100) ∨ (v = L 0 ∧ L 0 ≠ 100) → Q (0, vI v) (M2, S)) : EvQ 4 143 [vR m, vI w, vI x] (M, S) Q := by
  refine EvQ.enter (ls := [vR m, vI w, vI x, none, none, none, none, none]) (Nat.le_of_ble_eq_true rfl) rfl ?_
  have hn1 := hw.2.2.1
  have hn2 := hw.2.2.2.1
  have hw1 := hw.1
  have hw2 := hw.2.1
  have hA1 := hA.1
  obtain ⟨g0, hg0⟩ : ∃ g, M (m + 6) = g := ⟨_, rfl⟩
  refine WP.blk 2 ?_
  show (sT S m = 10 ∧ sR S m 0 ≠ 0) ∧ WP 3 143 4 [vR m, vI w, vI x, none, none, none, none, none] [vR (sR S m 0)] (M, S) Q
  refine ⟨⟨hS.1.1, by rw [hS.1.2.1]; omega⟩, ?_⟩
  rw [hS.1.2.1]
  refine WP.blk 1 ?_
  show WP 3 143 5 [vR m, vI w, vI x, none, none, none, none, none] [vI w, vR (m + 1)] (M, S) Q
  refine WP.cl (a := [vI w]) (rest := [vR (m + 1)]) rfl rfl rfl rfl trivial (by decide) (q_wordAt (by omega) ⟨rfl, ?_⟩)
  show WP 3 143 8 [vR m, vI w, vI x, none, none, none, none, none] [vI (97 + 14 * w), vR (m + 1)] (M, S) Q
  refine WP.blk 4 ?_
  show ((sT S (m + 1) = 11 ∨ sT S (m + 1) = 16 ∨ sT S (m + 1) = 17) ∧ 0 ≤ (97 + 14 * w) ∧ (97 + 14 * w) < (sN S (m + 1) : Int)) ∧ (sT S m = 10 ∧ sR S m 9 ≠ 0) ∧ WP 3 143 14 [vR m, vI w, vI x, vI (M (m + 1) (97 + 14 * w)), none, none, none, none] [vR (sR S m 9)] (M, S) Q
  rw [hf]
  refine ⟨⟨Or.inl hS.2.1.1, by omega, by rw [hS.2.2.1]; omega⟩, ⟨hS.1.1, by rw [hS.1.2.2.2.2.2.2.1]; omega⟩, ?_⟩
  rw [hS.1.2.2.2.2.2.2.1]
  refine WP.blk 3 ?_
  show (sT S (m + 6) = 11 ∧ 0 ≤ (f (97 + 14 * w)) ∧ (f (97 + 14 * w)) < (sN S (m + 6) : Int)) ∧ WP 3 143 17 [vR m, vI w, vI x, vI (f (97 + 14 * w)), none, none, none, none] [] (up M (m + 6) (f (97 + 14 * w)) 0, S) Q
  refine ⟨⟨hS.2.1.2.2.2.2.2.1, by omega, by rw [hS.2.2.2.2.2.2.2.1]; omega⟩, ?_⟩
  generalize hM_1 : up M (m + 6) (f (97 + 14 * w)) 0 = M_1
  have r_2 : M_1 (m + 1) = f := by rw [← hM_1]; exact (up_row (by omega)).trans hf
  obtain ⟨g_4, hg_4⟩ : ∃ y9, y9 = uf g0 (f (97 + 14 * w)) 0 := ⟨_, rfl⟩
  have r_3 : M_1 (m + 6) = g_4 := by rw [← hM_1, hg_4, up_self, hg0]
  have fr_5 : ∀ r, r ≠ m + 6 → M_1 r = M r := fun r q0 => by rw [← hM_1]; exact (up_row q0).trans ((fun _ _ => rfl) r q0)
  refine WP.blk 4 ?_
  show ir ((f (97 + 14 * w)) - 1) ∧ WP 3 143 22 [vR m, vI w, vI x, vI (f (97 + 14 * w)), vI ((f (97 + 14 * w)) - 1), none, none, none] [] (M_1, S) Q
  refine ⟨(by unfold ir; omega), ?_⟩
  have hl_22 : ∀ (n_22 : Nat) (p : Int) (v5_22 : V) (v6_22 : V) (v7_22 : V) (M1 : Nat → Int → Int) (g : Int → Int), -1 ≤ p ∧ p ≤ f (97 + 14 * w) - 1 → Lst 100 f w x (p + 1) g → M1 (m + 1) = f → M1 (m + 6) = g → (∀ r, r ≠ m + 6 → M1 r = M r) → (p + 1).toNat < n_22 → WP 3 143 22 [vR m, vI w, vI x, vI (f (97 + 14 * w)), vI p, v5_22, v6_22, v7_22] [] (M1, S) Q := by
    intro n_22
    induction n_22 with
    | zero => intro p v5_22 v6_22 v7_22 M1 g h0 h1 z_22_0 z_22_1 fr_22 hm_22; exact absurd hm_22 (Nat.not_lt_zero _)
    | succ n_22 ih_22 =>
      intro p v5_22 v6_22 v7_22 M1 g h0 h1 z_22_0 z_22_1 fr_22 hm_22
      refine WP.blk 2 ?_
      show WP 3 143 (if cnd .lt p 0 = true then 175 else 27) [vR m, vI w, vI x, vI (f (97 + 14 * w)), vI p, v5_22, v6_22, v7_22] [] (M1, S) Q
      refine br_lt (fun c_6 => ?_) (fun c_6 => ?_)
      · refine WP.blk 2 ?_
        show (sT S m = 10 ∧ sR S m 9 ≠ 0) ∧ WP 3 143 179 [vR m, vI w, vI x, vI (f (97 + 14 * w)), vI p, v5_22, v6_22, v7_22] [vR (sR S m 9)] (M1, S) Q
        refine ⟨⟨hS.1.1, by rw [hS.1.2.2.2.2.2.2.1]; omega⟩, ?_⟩
        rw [hS.1.2.2.2.2.2.2.1]
        refine WP.blk 4 ?_
        show ((sT S (m + 6) = 11 ∨ sT S (m + 6) = 16 ∨ sT S (m + 6) = 17) ∧ 0 ≤ 0 ∧ 0 < (sN S (m + 6) : Int)) ∧ WP 3 143 (if cnd .ne (M1 (m + 6) 0) 100 = true then 190 else 186) [vR m, vI w, vI x, vI (f (97 + 14 * w)), vI p, v5_22, v6_22, v7_22] [] (M1, S) Q
        rw [z_22_1]
        refine ⟨⟨Or.inl hS.2.1.2.2.2.2.2.1, by omega, by rw [hS.2.2.2.2.2.2.2.1]; omega⟩, ?_⟩
        refine br_ne (fun c_7 => ?_) (fun c_7 => ?_)
        · refine WP.blk 2 ?_
          show (sT S m = 10 ∧ sR S m 9 ≠ 0) ∧ WP 3 143 194 [vR m, vI w, vI x, vI (f (97 + 14 * w)), vI p, v5_22, v6_22, v7_22] [vR (sR S m 9)] (M1, S) Q
          refine ⟨⟨hS.1.1, by rw [hS.1.2.2.2.2.2.2.1]; omega⟩, ?_⟩
          rw [hS.1.2.2.2.2.2.2.1]
          refine WP.blk 2 ?_
          show ((sT S (m + 6) = 11 ∨ sT S (m + 6) = 16 ∨ sT S (m + 6) = 17) ∧ 0 ≤ 0 ∧ 0 < (sN S (m + 6) : Int)) ∧ WP 3 143 196 [vR m, vI w, vI x, vI (f (97 + 14 * w)), vI p, v5_22, v6_22, v7_22] [vI (M1 (m + 6) 0)] (M1, S) Q
          rw [z_22_1]
          refine ⟨⟨Or.inl hS.2.1.2.2.2.2.2.1, by omega, by rw [hS.2.2.2.2.2.2.2.1]; omega⟩, ?_⟩
          exact WP.ret rfl rfl rfl trivial (k _ _ fr_22 _ z_22_1 (by rw [show (0 : Int) = p + 1 by omega]; exact h1) (by omega))
        · refine WP.blk 2 ?_
          show WP 3 143 196 [vR m, vI w, vI x, vI (f (97 + 14 * w)), vI p, v5_22, v6_22, v7_22] [vI (-1)] (M1, S) Q
          exact WP.ret rfl rfl rfl trivial (k _ _ fr_22 _ z_22_1 (by rw [show (0 : Int) = p + 1 by omega]; exact h1) (by omega))
      · refine WP.blk 2 ?_
        show (sT S m = 10 ∧ sR S m 9 ≠ 0) ∧ WP 3 143 31 [vR m, vI w, vI x, vI (f (97 + 14 * w)), vI p, v5_22, v6_22, v7_22] [vR (sR S m 9)] (M1, S) Q
        refine ⟨⟨hS.1.1, by rw [hS.1.2.2.2.2.2.2.1]; omega⟩, ?_⟩
        rw [hS.1.2.2.2.2.2.2.1]
        refine WP.blk 3 ?_
        show (sT S (m + 6) = 11 ∧ 0 ≤ p ∧ p < (sN S (m + 6) : Int)) ∧ WP 3 143 36 [vR m, vI w, vI x, vI (f (97 + 14 * w)), vI p, v5_22, v6_22, v7_22] [] (up M1 (m + 6) p 100, S) Q
        refine ⟨⟨hS.2.1.2.2.2.2.2.1, by omega, by rw [hS.2.2.2.2.2.2.2.1]; omega⟩, ?_⟩
        generalize hM_8 : up M1 (m + 6) p 100 = M_8
        have r_9 : M_8 (m + 1) = f := by rw [← hM_8]; exact (up_row (by omega)).trans z_22_0
        obtain ⟨g_11, hg_11⟩ : ∃ y9, y9 = uf g p 100 := ⟨_, rfl⟩
        have r_10 : M_8 (m + 6) = g_11 := by rw [← hM_8, hg_11, up_self, z_22_1]
        have fr_12 : ∀ r, r ≠ m + 6 → M_8 r = M r := fun r q0 => by rw [← hM_8]; exact (up_row q0).trans (fr_22 r q0)
        refine WP.blk 2 ?_
        show WP 3 143 39 [vR m, vI w, vI x, vI (f (97 + 14 * w)), vI p, vI 0, v6_22, v7_22] [] (M_8, S) Q
        have hl_39 : ∀ (n_39 : Nat) (s : Int) (v6_39 : V) (v7_39 : V) (M2 : Nat → Int → Int) (g1 : Int → Int), 0 ≤ s ∧ s ≤ f 0 → LstB f w x p s g1 → M2 (m + 1) = f → M2 (m + 6) = g1 → (∀ r, r ≠ m + 6 → M2 r = M r) → (f 0 - s).toNat < n_39 → WP 3 143 39 [vR m, vI w, vI x, vI (f (97 + 14 * w)), vI p, vI s, v6_39, v7_39] [] (M2, S) Q := by
          intro n_39
          induction n_39 with
          | zero => intro s v6_39 v7_39 M2 g1 h2 h3 z_39_0 z_39_1 fr_39 hm_39; exact absurd hm_39 (Nat.not_lt_zero _)
          | succ n_39 ih_39 =>
            intro s v6_39 v7_39 M2 g1 h2 h3 z_39_0 z_39_1 fr_39 hm_39
            have hs9 : s < f 0 → 1 ≤ f (7 + 9 * s) ∧ f (7 + 9 * s) ≤ 5 := fun h => ⟨(hA.2 s h2.1 h).2.2.1, (hA.2 s h2.1 h).2.2.2.1⟩
            have e1 := bs_bit (x := x) (s := s) (by omega) (by omega)
            have e2 := lst_rng (by omega) hA h3.1 (p + f (7 + 9 * s))
            refine WP.blk 3 ?_
            show (sT S m = 10 ∧ sR S m 0 ≠ 0) ∧ WP 3 143 45 [vR m, vI w, vI x, vI (f (97 + 14 * w)), vI p, vI s, v6_39, v7_39] [vR (sR S m 0), vI s] (M2, S) Q
            refine ⟨⟨hS.1.1, by rw [hS.1.2.1]; omega⟩, ?_⟩
            rw [hS.1.2.1]
            refine WP.blk 3 ?_
            show ((sT S (m + 1) = 11 ∨ sT S (m + 1) = 16 ∨ sT S (m + 1) = 17) ∧ 0 ≤ 0 ∧ 0 < (sN S (m + 1) : Int)) ∧ WP 3 143 (if cnd .ge s (M2 (m + 1) 0) = true then 169 else 50) [vR m, vI w, vI x, vI (f (97 + 14 * w)), vI p, vI s, v6_39, v7_39] [] (M2, S) Q
            rw [z_39_0]
            refine ⟨⟨Or.inl hS.2.1.1, by omega, by rw [hS.2.2.1]; omega⟩, ?_⟩
            refine br_ge (fun c_13 => ?_) (fun c_13 => ?_)
            · refine WP.blk 2 ?_
              show ir (p + (-1)) ∧ WP 3 143 22 [vR m, vI w, vI x, vI (f (97 + 14 * w)), vI (p + (-1)), vI s, v6_39, v7_39] [] (M2, S) Q
              refine ⟨(by unfold ir; omega), ?_⟩
              exact ih_22 (p + (-1)) (vI s) (v6_39) (v7_39) M2 g1 (by omega) (by rw [show p + -1 + 1 = p by omega]; rw [show s = f 0 by omega] at h3; exact LstB_e h3) z_39_0 z_39_1 fr_39 (by omega)
            · refine WP.blk 3 ?_
              show (sT S m = 10 ∧ sR S m 0 ≠ 0) ∧ WP 3 143 56 [vR m, vI w, vI x, vI (f (97 + 14 * w)), vI p, vI s, v6_39, v7_39] [vR (sR S m 0), vI p] (M2, S) Q
              refine ⟨⟨hS.1.1, by rw [hS.1.2.1]; omega⟩, ?_⟩
              rw [hS.1.2.1]
              refine WP.blk 1 ?_
              show WP 3 143 58 [vR m, vI w, vI x, vI (f (97 + 14 * w)), vI p, vI s, v6_39, v7_39] [vI s, vR (m + 1), vI p] (M2, S) Q
              refine WP.cl (a := [vI s]) (rest := [vR (m + 1), vI p]) rfl rfl rfl rfl trivial (by decide) (q_stampAt (by omega) ⟨rfl, ?_⟩)
              show WP 3 143 61 [vR m, vI w, vI x, vI (f (97 + 14 * w)), vI p, vI s, v6_39, v7_39] [vI (7 + 9 * s), vR (m + 1), vI p] (M2, S) Q
              refine WP.blk 10 ?_
              show ((sT S (m + 1) = 11 ∨ sT S (m + 1) = 16 ∨ sT S (m + 1) = 17) ∧ 0 ≤ (7 + 9 * s) ∧ (7 + 9 * s) < (sN S (m + 1) : Int)) ∧ ir (p + (M2 (m + 1) (7 + 9 * s))) ∧ WP 3 143 (if cnd .ne (iA (iR x s) 1) 1 = true then 104 else 75) [vR m, vI w, vI x, vI (f (97 + 14 * w)), vI p, vI s, vI (p + (M2 (m + 1) (7 + 9 * s))), v7_39] [] (M2, S) Q
              rw [z_39_0]
              refine ⟨⟨Or.inl hS.2.1.1, by omega, by rw [hS.2.2.1]; omega⟩, (by unfold ir; omega), ?_⟩
              refine br_ne (fun c_14 => ?_) (fun c_14 => ?_)
              · refine WP.blk 6 ?_
                show ir (s + 1) ∧ WP 3 143 39 [vR m, vI w, vI x, vI (f (97 + 14 * w)), vI p, vI (s + 1), vI (p + (f (7 + 9 * s))), vI 0] [] (M2, S) Q
                refine ⟨(by unfold ir; omega), ?_⟩
                exact ih_39 (s + 1) (vI (p + (f (7 + 9 * s)))) (vI 0) M2 g1 (by omega) (LstB_skip h3 (fun hm => by have k1 := e1.1 hm.2.2.1; have k4 := hm.2.2.2.1; first | omega | exact absurd hm.2.2.2.2 (fun k => k.elim (fun k => absurd k (by assumption)) (fun k => by first | exact absurd k.1 (by assumption) | exact absurd k.2 (by assumption))))) z_39_0 z_39_1 fr_39 (by omega)
              · refine WP.blk 3 ?_
                show WP 3 143 (if cnd .gt (p + (f (7 + 9 * s))) (f (97 + 14 * w)) = true then 104 else 81) [vR m, vI w, vI x, vI (f (97 + 14 * w)), vI p, vI s, vI (p + (f (7 + 9 * s))), v7_39] [] (M2, S) Q
                refine br_gt (fun c_15 => ?_) (fun c_15 => ?_)
                · refine WP.blk 6 ?_
                  show ir (s + 1) ∧ WP 3 143 39 [vR m, vI w, vI x, vI (f (97 + 14 * w)), vI p, vI (s + 1), vI (p + (f (7 + 9 * s))), vI 0] [] (M2, S) Q
                  refine ⟨(by unfold ir; omega), ?_⟩
                  exact ih_39 (s + 1) (vI (p + (f (7 + 9 * s)))) (vI 0) M2 g1 (by omega) (LstB_skip h3 (fun hm => by have k1 := e1.1 hm.2.2.1; have k4 := hm.2.2.2.1; first | omega | exact absurd hm.2.2.2.2 (fun k => k.elim (fun k => absurd k (by assumption)) (fun k => by first | exact absurd k.1 (by assumption) | exact absurd k.2 (by assumption))))) z_39_0 z_39_1 fr_39 (by omega)
                · refine WP.blk 2 ?_
                  show (sT S m = 10 ∧ sR S m 9 ≠ 0) ∧ WP 3 143 85 [vR m, vI w, vI x, vI (f (97 + 14 * w)), vI p, vI s, vI (p + (f (7 + 9 * s))), v7_39] [vR (sR S m 9)] (M2, S) Q
                  refine ⟨⟨hS.1.1, by rw [hS.1.2.2.2.2.2.2.1]; omega⟩, ?_⟩
                  rw [hS.1.2.2.2.2.2.2.1]
                  refine WP.blk 6 ?_
                  show ((sT S (m + 6) = 11 ∨ sT S (m + 6) = 16 ∨ sT S (m + 6) = 17) ∧ 0 ≤ (p + (f (7 + 9 * s))) ∧ (p + (f (7 + 9 * s))) < (sN S (m + 6) : Int)) ∧ ir ((M2 (m + 6) (p + (f (7 + 9 * s)))) + 1) ∧ (sT S m = 10 ∧ sR S m 9 ≠ 0) ∧ WP 3 143 94 [vR m, vI w, vI x, vI (f (97 + 14 * w)), vI p, vI s, vI (p + (f (7 + 9 * s))), v7_39] [vR (sR S m 9), vI ((M2 (m + 6) (p + (f (7 + 9 * s)))) + 1)] (M2, S) Q
                  rw [z_39_1]
                  refine ⟨⟨Or.inl hS.2.1.2.2.2.2.2.1, by omega, by rw [hS.2.2.2.2.2.2.2.1]; omega⟩, (by unfold ir; omega), ⟨hS.1.1, by rw [hS.1.2.2.2.2.2.2.1]; omega⟩, ?_⟩
                  rw [hS.1.2.2.2.2.2.2.1]
                  refine WP.blk 3 ?_
                  show ((sT S (m + 6) = 11 ∨ sT S (m + 6) = 16 ∨ sT S (m + 6) = 17) ∧ 0 ≤ p ∧ p < (sN S (m + 6) : Int)) ∧ WP 3 143 (if cnd .ge ((g1 (p + (f (7 + 9 * s)))) + 1) (M2 (m + 6) p) = true then 104 else 100) [vR m, vI w, vI x, vI (f (97 + 14 * w)), vI p, vI s, vI (p + (f (7 + 9 * s))), v7_39] [] (M2, S) Q
                  rw [z_39_1]
                  refine ⟨⟨Or.inl hS.2.1.2.2.2.2.2.1, by omega, by rw [hS.2.2.2.2.2.2.2.1]; omega⟩, ?_⟩
                  refine br_ge (fun c_16 => ?_) (fun c_16 => ?_)
                  · refine WP.blk 6 ?_
                    show ir (s + 1) ∧ WP 3 143 39 [vR m, vI w, vI x, vI (f (97 + 14 * w)), vI p, vI (s + 1), vI (p + (f (7 + 9 * s))), vI 0] [] (M2, S) Q
                    refine ⟨(by unfold ir; omega), ?_⟩
                    exact ih_39 (s + 1) (vI (p + (f (7 + 9 * s)))) (vI 0) M2 g1 (by omega) (LstB_skip h3 (fun hm => by have k1 := e1.1 hm.2.2.1; have k4 := hm.2.2.2.1; first | omega | exact absurd hm.2.2.2.2 (fun k => k.elim (fun k => absurd k (by assumption)) (fun k => by first | exact absurd k.1 (by assumption) | exact absurd k.2 (by assumption))))) z_39_0 z_39_1 fr_39 (by omega)
                  · refine WP.blk 10 ?_
                    show WP 3 143 119 [vR m, vI w, vI x, vI (f (97 + 14 * w)), vI p, vI s, vI (p + (f (7 + 9 * s))), vI 1] [vI 0, vI s, vI p, vI w, vR m] (M2, S) Q
                    refine WP.cl (a := [vR m, vI w, vI p, vI s, vI 0]) (rest := []) rfl rfl rfl rfl ⟨hS.1.1, trivial⟩ (by decide) (r_fits hS z_39_0 (hA.2 _ (by omega) (by omega)) hw (by omega) (fun b_17 hb_17 => ⟨rfl, ?_⟩))
                    show WP 3 143 122 [vR m, vI w, vI x, vI (f (97 + 14 * w)), vI p, vI s, vI (p + (f (7 + 9 * s))), vI 1] [vI b_17] (M2, S) Q
                    refine WP.blk 1 ?_
                    show WP 3 143 (if cnd .ne b_17 0 = true then 147 else 125) [vR m, vI w, vI x, vI (f (97 + 14 * w)), vI p, vI s, vI (p + (f (7 + 9 * s))), vI 1] [] (M2, S) Q
                    refine br_ne (fun c_18 => ?_) (fun c_18 => ?_)
                    · have p_17 := (hb_17.resolve_right (fun h => by omega)).2
                      refine WP.blk 2 ?_
                      show (sT S m = 10 ∧ sR S m 9 ≠ 0) ∧ WP 3 143 151 [vR m, vI w, vI x, vI (f (97 + 14 * w)), vI p, vI s, vI (p + (f (7 + 9 * s))), vI 1] [vR (sR S m 9)] (M2, S) Q
                      refine ⟨⟨hS.1.1, by rw [hS.1.2.2.2.2.2.2.1]; omega⟩, ?_⟩
                      rw [hS.1.2.2.2.2.2.2.1]
                      refine WP.blk 3 ?_
                      show (sT S m = 10 ∧ sR S m 9 ≠ 0) ∧ WP 3 143 157 [vR m, vI w, vI x, vI (f (97 + 14 * w)), vI p, vI s, vI (p + (f (7 + 9 * s))), vI 1] [vR (sR S m 9), vI p, vR (m + 6)] (M2, S) Q
                      refine ⟨⟨hS.1.1, by rw [hS.1.2.2.2.2.2.2.1]; omega⟩, ?_⟩
                      rw [hS.1.2.2.2.2.2.2.1]
                      refine WP.blk 5 ?_
                      show ((sT S (m + 6) = 11 ∨ sT S (m + 6) = 16 ∨ sT S (m + 6) = 17) ∧ 0 ≤ (p + (f (7 + 9 * s))) ∧ (p + (f (7 + 9 * s))) < (sN S (m + 6) : Int)) ∧ ir ((M2 (m + 6) (p + (f (7 + 9 * s)))) + 1) ∧ (sT S (m + 6) = 11 ∧ 0 ≤ p ∧ p < (sN S (m + 6) : Int)) ∧ WP 3 143 163 [vR m, vI w, vI x, vI (f (97 + 14 * w)), vI p, vI s, vI (p + (f (7 + 9 * s))), vI 1] [] (up M2 (m + 6) p ((M2 (m + 6) (p + (f (7 + 9 * s)))) + 1), S) Q
                      rw [z_39_1]
                      refine ⟨⟨Or.inl hS.2.1.2.2.2.2.2.1, by omega, by rw [hS.2.2.2.2.2.2.2.1]; omega⟩, (by unfold ir; omega), ⟨hS.2.1.2.2.2.2.2.1, by omega, by rw [hS.2.2.2.2.2.2.2.1]; omega⟩, ?_⟩
                      generalize hM_19 : up M2 (m + 6) p ((g1 (p + (f (7 + 9 * s)))) + 1) = M_19
                      have r_20 : M_19 (m + 1) = f := by rw [← hM_19]; exact (up_row (by omega)).trans z_39_0
                      obtain ⟨g_22, hg_22⟩ : ∃ y9, y9 = uf g1 p ((g1 (p + (f (7 + 9 * s)))) + 1) := ⟨_, rfl⟩
                      have r_21 : M_19 (m + 6) = g_22 := by rw [← hM_19, hg_22, up_self, z_39_1]
                      have fr_23 : ∀ r, r ≠ m + 6 → M_19 r = M r := fun r q0 => by rw [← hM_19]; exact (up_row q0).trans (fr_39 r q0)
                      refine WP.blk 2 ?_
                      show ir (s + 1) ∧ WP 3 143 39 [vR m, vI w, vI x, vI (f (97 + 14 * w)), vI p, vI (s + 1), vI (p + (f (7 + 9 * s))), vI 1] [] (M_19, S) Q
                      refine ⟨(by unfold ir; omega), ?_⟩
                      exact ih_39 (s + 1) (vI (p + (f (7 + 9 * s)))) (vI 1) M_19 g_22 (by omega) (LstB_set hA (by omega) h3 ⟨by omega, by omega, e1.2.1 (by omega), by omega, by first | exact Or.inl (by assumption) | exact Or.inr ⟨by assumption, by assumption⟩⟩ (by omega) (by rw [hg_22])) r_20 r_21 fr_23 (by omega)
                    · have p_17 := (hb_17.resolve_left (fun h => by omega)).2
                      refine WP.blk 2 ?_
                      show WP 3 143 128 [vR m, vI w, vI x, vI (f (97 + 14 * w)), vI p, vI s, vI (p + (f (7 + 9 * s))), vI 1] [vI s, vR m] (M2, S) Q
                      refine WP.cl (a := [vR m, vI s]) (rest := []) rfl rfl rfl rfl ⟨hS.1.1, trivial⟩ (by decide) (r_counts hS z_39_0 (hA.2 _ (by omega) (by omega)) (fun b_24 hb_24 => ⟨rfl, ?_⟩))
                      show WP 3 143 131 [vR m, vI w, vI x, vI (f (97 + 14 * w)), vI p, vI s, vI (p + (f (7 + 9 * s))), vI 1] [vI b_24] (M2, S) Q
                      refine WP.blk 1 ?_
                      show WP 3 143 (if cnd .eq b_24 0 = true then 163 else 134) [vR m, vI w, vI x, vI (f (97 + 14 * w)), vI p, vI s, vI (p + (f (7 + 9 * s))), vI 1] [] (M2, S) Q
                      refine br_eq (fun c_25 => ?_) (fun c_25 => ?_)
                      · have p_24 := (hb_24.resolve_left (fun h => by omega)).2
                        refine WP.blk 2 ?_
                        show ir (s + 1) ∧ WP 3 143 39 [vR m, vI w, vI x, vI (f (97 + 14 * w)), vI p, vI (s + 1), vI (p + (f (7 + 9 * s))), vI 1] [] (M2, S) Q
                        refine ⟨(by unfold ir; omega), ?_⟩
                        exact ih_39 (s + 1) (vI (p + (f (7 + 9 * s)))) (vI 1) M2 g1 (by omega) (LstB_skip h3 (fun hm => by have k1 := e1.1 hm.2.2.1; have k4 := hm.2.2.2.1; first | omega | exact absurd hm.2.2.2.2 (fun k => k.elim (fun k => absurd k (by assumption)) (fun k => by first | exact absurd k.1 (by assumption) | exact absurd k.2 (by assumption))))) z_39_0 z_39_1 fr_39 (by omega)
                      · have p_24 := (hb_24.resolve_right (fun h => by omega)).2
                        refine WP.blk 5 ?_
                        show WP 3 143 141 [vR m, vI w, vI x, vI (f (97 + 14 * w)), vI p, vI s, vI (p + (f (7 + 9 * s))), vI 1] [vI 1, vI s, vI p, vI w, vR m] (M2, S) Q
                        refine WP.cl (a := [vR m, vI w, vI p, vI s, vI 1]) (rest := []) rfl rfl rfl rfl ⟨hS.1.1, trivial⟩ (by decide) (r_fits hS z_39_0 (hA.2 _ (by omega) (by omega)) hw (by omega) (fun b_26 hb_26 => ⟨rfl, ?_⟩))
                        show WP 3 143 144 [vR m, vI w, vI x, vI (f (97 + 14 * w)), vI p, vI s, vI (p + (f (7 + 9 * s))), vI 1] [vI b_26] (M2, S) Q
                        refine WP.blk 1 ?_
                        show WP 3 143 (if cnd .eq b_26 0 = true then 163 else 147) [vR m, vI w, vI x, vI (f (97 + 14 * w)), vI p, vI s, vI (p + (f (7 + 9 * s))), vI 1] [] (M2, S) Q
                        refine br_eq (fun c_27 => ?_) (fun c_27 => ?_)
                        · have p_26 := (hb_26.resolve_left (fun h => by omega)).2
                          refine WP.blk 2 ?_
                          show ir (s + 1) ∧ WP 3 143 39 [vR m, vI w, vI x, vI (f (97 + 14 * w)), vI p, vI (s + 1), vI (p + (f (7 + 9 * s))), vI 1] [] (M2, S) Q
                          refine ⟨(by unfold ir; omega), ?_⟩
                          exact ih_39 (s + 1) (vI (p + (f (7 + 9 * s)))) (vI 1) M2 g1 (by omega) (LstB_skip h3 (fun hm => by have k1 := e1.1 hm.2.2.1; have k4 := hm.2.2.2.1; first | omega | exact absurd hm.2.2.2.2 (fun k => k.elim (fun k => absurd k (by assumption)) (fun k => by first | exact absurd k.1 (by assumption) | exact absurd k.2 (by assumption))))) z_39_0 z_39_1 fr_39 (by omega)
                        · have p_26 := (hb_26.resolve_right (fun h => by omega)).2
                          refine WP.blk 2 ?_
                          show (sT S m = 10 ∧ sR S m 9 ≠ 0) ∧ WP 3 143 151 [vR m, vI w, vI x, vI (f (97 + 14 * w)), vI p, vI s, vI (p + (f (7 + 9 * s))), vI 1] [vR (sR S m 9)] (M2, S) Q
                          refine ⟨⟨hS.1.1, by rw [hS.1.2.2.2.2.2.2.1]; omega⟩, ?_⟩
                          rw [hS.1.2.2.2.2.2.2.1]
                          refine WP.blk 3 ?_
                          show (sT S m = 10 ∧ sR S m 9 ≠ 0) ∧ WP 3 143 157 [vR m, vI w, vI x, vI (f (97 + 14 * w)), vI p, vI s, vI (p + (f (7 + 9 * s))), vI 1] [vR (sR S m 9), vI p, vR (m + 6)] (M2, S) Q
                          refine ⟨⟨hS.1.1, by rw [hS.1.2.2.2.2.2.2.1]; omega⟩, ?_⟩
                          rw [hS.1.2.2.2.2.2.2.1]
                          refine WP.blk 5 ?_
                          show ((sT S (m + 6) = 11 ∨ sT S (m + 6) = 16 ∨ sT S (m + 6) = 17) ∧ 0 ≤ (p + (f (7 + 9 * s))) ∧ (p + (f (7 + 9 * s))) < (sN S (m + 6) : Int)) ∧ ir ((M2 (m + 6) (p + (f (7 + 9 * s)))) + 1) ∧ (sT S (m + 6) = 11 ∧ 0 ≤ p ∧ p < (sN S (m + 6) : Int)) ∧ WP 3 143 163 [vR m, vI w, vI x, vI (f (97 + 14 * w)), vI p, vI s, vI (p + (f (7 + 9 * s))), vI 1] [] (up M2 (m + 6) p ((M2 (m + 6) (p + (f (7 + 9 * s)))) + 1), S) Q
                          rw [z_39_1]
                          refine ⟨⟨Or.inl hS.2.1.2.2.2.2.2.1, by omega, by rw [hS.2.2.2.2.2.2.2.1]; omega⟩, (by unfold ir; omega), ⟨hS.2.1.2.2.2.2.2.1, by omega, by rw [hS.2.2.2.2.2.2.2.1]; omega⟩, ?_⟩
                          generalize hM_28 : up M2 (m + 6) p ((g1 (p + (f (7 + 9 * s)))) + 1) = M_28
                          have r_29 : M_28 (m + 1) = f := by rw [← hM_28]; exact (up_row (by omega)).trans z_39_0
                          obtain ⟨g_31, hg_31⟩ : ∃ y9, y9 = uf g1 p ((g1 (p + (f (7 + 9 * s)))) + 1) := ⟨_, rfl⟩
                          have r_30 : M_28 (m + 6) = g_31 := by rw [← hM_28, hg_31, up_self, z_39_1]
                          have fr_32 : ∀ r, r ≠ m + 6 → M_28 r = M r := fun r q0 => by rw [← hM_28]; exact (up_row q0).trans (fr_39 r q0)
                          refine WP.blk 2 ?_
                          show ir (s + 1) ∧ WP 3 143 39 [vR m, vI w, vI x, vI (f (97 + 14 * w)), vI p, vI (s + 1), vI (p + (f (7 + 9 * s))), vI 1] [] (M_28, S) Q
                          refine ⟨(by unfold ir; omega), ?_⟩
                          exact ih_39 (s + 1) (vI (p + (f (7 + 9 * s)))) (vI 1) M_28 g_31 (by omega) (LstB_set hA (by omega) h3 ⟨by omega, by omega, e1.2.1 (by omega), by omega, by first | exact Or.inl (by assumption) | exact Or.inr ⟨by assumption, by assumption⟩⟩ (by omega) (by rw [hg_31])) r_29 r_30 fr_32 (by omega)
        exact hl_39 _ 0 (v6_22) (v7_22) M_8 g_11 (by omega) (LstB_0 hA (by omega) h1 hg_11) r_9 r_10 fr_12 (Nat.lt_succ_self _)
  exact hl_22 _ ((f (97 + 14 * w)) - 1) (none) (none) (none) M_1 g_4 (by omega) (by rw [show f (97 + 14 * w) - 1 + 1 = f (97 + 14 * w) by omega]; exact Lst_n hg_4) r_2 r_3 fr_5 (Nat.lt_succ_self _)
