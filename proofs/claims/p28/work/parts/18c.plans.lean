/-! the law: prints and plans -/
set_option maxHeartbeats 4000000 in
theorem z_prints {N B : Int} {x L : Nat} {w : Wd} {f : Int → Int} {fs : List (Int → Int)} {sv : Int} {Q : Res → Wd → Prop} (h : LwS N B x L w f fs sv) (k : ∀ w', LwS (N + 420) B x L w' f fs sv → Q (0, vI 1) w') : EvQ 9 112 [vR x] w Q := by
  refine EvQ.enter (ls := [vR x, none, none, none, none, none, none]) (Nat.le_of_ble_eq_true rfl) rfl ?_
  have hR := (ls_row h).1
  have hA := hR.1
  have hW := hR.2.1
  have hI := hR.2.2
  have hA1 := hA.1
  have hW1 := hW.1
  have hI2 := hI.2
  have hNk := (ls_row h).2
  refine WP.blk 6 ?_
  show WP 8 112 6 [vR x, vI 0, vI 1, vI 0, none, none, none] [] w Q
  have hl_6 : ∀ (n_6 : Nat) (i : Int) (wn : Int) (a4_6 : V) (a5_6 : V) (a6_6 : V) (w_6 : Wd), 0 ≤ i ∧ i ≤ f 0 → wn = num (Worn f) i → LwS (N + 40 * i) (B) x L w_6 f fs sv → (f 0 - i).toNat < n_6 → WP 8 112 6 [vR x, vI wn, vI 1, vI i, a4_6, a5_6, a6_6] [] w_6 Q := by
    intro n_6
    induction n_6 with
    | zero => intro i wn a4_6 a5_6 a6_6 w_6 p0 p1_ h_6 hm_6; exact absurd hm_6 (Nat.not_lt_zero _)
    | succ n_6 ih_6 =>
      intro i wn a4_6 a5_6 a6_6 w_6 p0 p1_ h_6 hm_6
      have hnr := num_r (P := Worn f) p0.1
      refine WP.blk 3 ?_
      show WP 8 112 9 [vR x, vI wn, vI 1, vI i, a4_6, a5_6, a6_6] [vI 0, vR x, vI i] w_6 Q
      refine WP.cl (a := [vR x, vI 0]) (rest := [vI i]) rfl rfl rfl rfl trivial (by decide) (v_value h_6 (Int.le_refl _) (vV_lo (by omega)) (fun w1 h1 => ⟨rfl, ?_⟩))
      show WP 8 112 12 [vR x, vI wn, vI 1, vI i, a4_6, a5_6, a6_6] [vI (f 0), vI i] w1 Q
      refine WP.blk 1 ?_
      show WP 8 112 (if cnd .ge i (f 0) = true then 230 else 15) [vR x, vI wn, vI 1, vI i, a4_6, a5_6, a6_6] [] w1 Q
      refine br_ge (fun c2 => ?_) (fun c2 => ?_)
      · have e9 : i = f 0 := by omega
        rw [e9] at p1_
        refine WP.blk 5 ?_
        show WP 8 112 238 [vR x, vI wn, vI 1, vI i, a4_6, a5_6, a6_6] [vI 7, vR x, vI wn] w1 Q
        refine WP.cl (a := [vR x, vI 7]) (rest := [vI wn]) rfl rfl rfl rfl trivial (by decide) (v_value h1 (Int.le_refl _) vV_7 (fun w3 h3 => ⟨rfl, ?_⟩))
        show WP 8 112 241 [vR x, vI wn, vI 1, vI i, a4_6, a5_6, a6_6] [vI (num (Worn f) (f 0)), vI wn] w3 Q
        refine WP.blk 1 ?_
        show WP 8 112 (if cnd .ne wn (num (Worn f) (f 0)) = true then 248 else 244) [vR x, vI wn, vI 1, vI i, a4_6, a5_6, a6_6] [] w3 Q
        refine br_ne (fun c4 => ?_) (fun c4 => ?_)
        · exfalso; omega
        · refine WP.blk 2 ?_
          show WP 8 112 249 [vR x, vI wn, vI 1, vI i, a4_6, a5_6, a6_6] [vI 1] w3 Q
          exact WP.ret rfl rfl rfl ⟨by omega, trivial⟩ (k _ (ls_le h3 (by omega)))
      · obtain ⟨-, s2, s3, s4, -⟩ := hA.2 i p0.1 c2
        obtain ⟨⟨k1, k2⟩, ⟨k3, k4⟩, k5, k6⟩ := hI.1 i p0.1 c2
        refine WP.blk 5 ?_
        show WP 8 112 22 [vR x, vI wn, vI 1, vI i, a4_6, a5_6, a6_6] [vI 0, vI i, vR x] w1 Q
        refine WP.cl (a := [vR x, vI i, vI 0]) (rest := []) rfl rfl rfl rfl trivial (by decide) (v_stamp h1 (Int.le_refl _) (sV_0 (by omega)) (fun w5 h5 => ⟨rfl, ?_⟩))
        show WP 8 112 25 [vR x, vI wn, vI 1, vI i, a4_6, a5_6, a6_6] [vI (f (7 + 9 * i))] w5 Q
        refine WP.blk 3 ?_
        show WP 8 112 (if cnd .le (f (7 + 9 * i)) 0 = true then 140 else 32) [vR x, vI wn, vI 1, vI i, vI (f (7 + 9 * i)), a5_6, a6_6] [] w5 Q
        refine br_le (fun c6 => ?_) (fun c6 => ?_)
        · exfalso; omega
        · refine WP.blk 3 ?_
          show WP 8 112 (if cnd .ge (f (7 + 9 * i)) 6 = true then 140 else 39) [vR x, vI wn, vI 1, vI i, vI (f (7 + 9 * i)), a5_6, a6_6] [] w5 Q
          refine br_ge (fun c7 => ?_) (fun c7 => ?_)
          · exfalso; omega
          · refine WP.blk 3 ?_
            show WP 8 112 42 [vR x, vI wn, vI 1, vI i, vI (f (7 + 9 * i)), a5_6, a6_6] [vI 1, vI i, vR x] w5 Q
            refine WP.cl (a := [vR x, vI i, vI 1]) (rest := []) rfl rfl rfl rfl trivial (by decide) (v_stamp h5 (Int.le_refl _) (sV_1 (by omega)) (fun w8 h8 => ⟨rfl, ?_⟩))
            show WP 8 112 45 [vR x, vI wn, vI 1, vI i, vI (f (7 + 9 * i)), a5_6, a6_6] [vI (f (7 + 9 * i + 6))] w8 Q
            refine WP.blk 2 ?_
            show WP 8 112 (if cnd .lt (f (7 + 9 * i + 6)) (-1) = true then 140 else 49) [vR x, vI wn, vI 1, vI i, vI (f (7 + 9 * i)), a5_6, a6_6] [] w8 Q
            refine br_lt (fun c9 => ?_) (fun c9 => ?_)
            · exfalso; omega
            · refine WP.blk 3 ?_
              show WP 8 112 52 [vR x, vI wn, vI 1, vI i, vI (f (7 + 9 * i)), a5_6, a6_6] [vI 1, vI i, vR x] w8 Q
              refine WP.cl (a := [vR x, vI i, vI 1]) (rest := []) rfl rfl rfl rfl trivial (by decide) (v_stamp h8 (Int.le_refl _) (sV_1 (by omega)) (fun w10 h10 => ⟨rfl, ?_⟩))
              show WP 8 112 55 [vR x, vI wn, vI 1, vI i, vI (f (7 + 9 * i)), a5_6, a6_6] [vI (f (7 + 9 * i + 6))] w10 Q
              refine WP.blk 2 ?_
              show WP 8 112 (if cnd .ge (f (7 + 9 * i + 6)) 4 = true then 140 else 59) [vR x, vI wn, vI 1, vI i, vI (f (7 + 9 * i)), a5_6, a6_6] [] w10 Q
              refine br_ge (fun c11 => ?_) (fun c11 => ?_)
              · exfalso; omega
              · refine WP.blk 3 ?_
                show WP 8 112 62 [vR x, vI wn, vI 1, vI i, vI (f (7 + 9 * i)), a5_6, a6_6] [vI 2, vI i, vR x] w10 Q
                refine WP.cl (a := [vR x, vI i, vI 2]) (rest := []) rfl rfl rfl rfl trivial (by decide) (v_stamp h10 (Int.le_refl _) (sV_2 (by omega)) (fun w12 h12 => ⟨rfl, ?_⟩))
                show WP 8 112 65 [vR x, vI wn, vI 1, vI i, vI (f (7 + 9 * i)), a5_6, a6_6] [vI (f (7 + 9 * i + 7))] w12 Q
                refine WP.blk 1 ?_
                show WP 8 112 (if cnd .lt (f (7 + 9 * i + 7)) 0 = true then 140 else 68) [vR x, vI wn, vI 1, vI i, vI (f (7 + 9 * i)), a5_6, a6_6] [] w12 Q
                refine br_lt (fun c13 => ?_) (fun c13 => ?_)
                · exfalso; omega
                · refine WP.blk 3 ?_
                  show WP 8 112 71 [vR x, vI wn, vI 1, vI i, vI (f (7 + 9 * i)), a5_6, a6_6] [vI 3, vI i, vR x] w12 Q
                  refine WP.cl (a := [vR x, vI i, vI 3]) (rest := []) rfl rfl rfl rfl trivial (by decide) (v_stamp h12 (Int.le_refl _) (sV_3 (by omega)) (fun w14 h14 => ⟨rfl, ?_⟩))
                  show WP 8 112 74 [vR x, vI wn, vI 1, vI i, vI (f (7 + 9 * i)), a5_6, a6_6] [vI (f (7 + 9 * i + 8))] w14 Q
                  refine WP.blk 1 ?_
                  show WP 8 112 (if cnd .lt (f (7 + 9 * i + 8)) 0 = true then 140 else 77) [vR x, vI wn, vI 1, vI i, vI (f (7 + 9 * i)), a5_6, a6_6] [] w14 Q
                  refine br_lt (fun c15 => ?_) (fun c15 => ?_)
                  · exfalso; omega
                  · refine WP.blk 3 ?_
                    show WP 8 112 80 [vR x, vI wn, vI 1, vI i, vI (f (7 + 9 * i)), a5_6, a6_6] [vI 5, vI i, vR x] w14 Q
                    obtain ⟨v17, ev17, ov17⟩ := sV_5x (f := f) (s := i) (by omega)
                    refine WP.cl (a := [vR x, vI i, vI 5]) (rest := []) rfl rfl rfl rfl trivial (by decide) (v_stamp h14 (Int.le_refl _) ev17 (fun w16 h16 => ⟨rfl, ?_⟩))
                    show WP 8 112 83 [vR x, vI wn, vI 1, vI i, vI (f (7 + 9 * i)), a5_6, a6_6] [vI v17] w16 Q
                    refine WP.blk 3 ?_
                    show WP 8 112 86 [vR x, vI wn, vI 1, vI i, vI (f (7 + 9 * i)), a5_6, a6_6] [vI 3, vI i, vR x, vI v17] w16 Q
                    refine WP.cl (a := [vR x, vI i, vI 3]) (rest := [vI v17]) rfl rfl rfl rfl trivial (by decide) (v_stamp h16 (Int.le_refl _) (sV_3 (by omega)) (fun w18 h18 => ⟨rfl, ?_⟩))
                    show WP 8 112 89 [vR x, vI wn, vI 1, vI i, vI (f (7 + 9 * i)), a5_6, a6_6] [vI (f (7 + 9 * i + 8)), vI v17] w18 Q
                    refine WP.blk 2 ?_
                    show WP 8 112 91 [vR x, vI wn, vI 1, vI i, vI (f (7 + 9 * i)), a5_6, a6_6] [vI 2, vR x, vI (f (7 + 9 * i + 8)), vI v17] w18 Q
                    refine WP.cl (a := [vR x, vI 2]) (rest := [vI (f (7 + 9 * i + 8)), vI v17]) rfl rfl rfl rfl trivial (by decide) (v_value h18 (Int.le_refl _) (vV_lo (by omega)) (fun w19 h19 => ⟨rfl, ?_⟩))
                    show WP 8 112 94 [vR x, vI wn, vI 1, vI i, vI (f (7 + 9 * i)), a5_6, a6_6] [vI (f 2), vI (f (7 + 9 * i + 8)), vI v17] w19 Q
                    refine WP.blk 1 ?_
                    show WP 8 112 (if cnd .lt (f (7 + 9 * i + 8)) (f 2) = true then 101 else 97) [vR x, vI wn, vI 1, vI i, vI (f (7 + 9 * i)), a5_6, a6_6] [vI v17] w19 Q
                    refine br_lt (fun c20 => ?_) (fun c20 => ?_)
                    · refine WP.blk 2 ?_
                      show WP 8 112 (if cnd .ne v17 0 = true then 140 else 105) [vR x, vI wn, vI 1, vI i, vI (f (7 + 9 * i)), a5_6, a6_6] [] w19 Q
                      refine br_ne (fun c21 => ?_) (fun c21 => ?_)
                      · exfalso; omega
                      · refine WP.blk 3 ?_
                        show WP 8 112 108 [vR x, vI wn, vI 1, vI i, vI (f (7 + 9 * i)), a5_6, a6_6] [vI 1, vI i, vR x] w19 Q
                        refine WP.cl (a := [vR x, vI i, vI 1]) (rest := []) rfl rfl rfl rfl trivial (by decide) (v_stamp h19 (Int.le_refl _) (sV_1 (by omega)) (fun w22 h22 => ⟨rfl, ?_⟩))
                        show WP 8 112 111 [vR x, vI wn, vI 1, vI i, vI (f (7 + 9 * i)), a5_6, a6_6] [vI (f (7 + 9 * i + 6))] w22 Q
                        refine WP.blk 1 ?_
                        show WP 8 112 (if cnd .ge (f (7 + 9 * i + 6)) 0 = true then 123 else 114) [vR x, vI wn, vI 1, vI i, vI (f (7 + 9 * i)), a5_6, a6_6] [] w22 Q
                        refine br_ge (fun c23 => ?_) (fun c23 => ?_)
                        · refine WP.blk 4 ?_
                          show WP 8 112 128 [vR x, vI wn, vI 1, vI i, vI (f (7 + 9 * i)), a5_6, a6_6] [vI 0, vI (f (7 + 9 * i)), vI i, vR x] w22 Q
                          refine WP.cl (a := [vR x, vI i, vI (f (7 + 9 * i)), vI 0]) (rest := []) rfl rfl rfl rfl trivial (by decide) (v_print h22 (Int.le_refl _) (pV_out (by omega)) (fun w24 h24 => ⟨rfl, ?_⟩))
                          show WP 8 112 131 [vR x, vI wn, vI 1, vI i, vI (f (7 + 9 * i)), a5_6, a6_6] [vI (-5000003)] w24 Q
                          refine WP.blk 9 ?_
                          show WP 8 112 146 [vR x, vI wn, vI 1, vI i, vI (f (7 + 9 * i)), a5_6, a6_6] [vI 5, vI i, vR x, vI wn] w24 Q
                          refine WP.cl (a := [vR x, vI i, vI 5]) (rest := [vI wn]) rfl rfl rfl rfl trivial (by decide) (v_stamp h24 (Int.le_refl _) ev17 (fun w25 h25 => ⟨rfl, ?_⟩))
                          show WP 8 112 149 [vR x, vI wn, vI 1, vI i, vI (f (7 + 9 * i)), a5_6, a6_6] [vI v17, vI wn] w25 Q
                          refine WP.blk 4 ?_
                          show ir (wn + v17) ∧ WP 8 112 154 [vR x, vI (wn + v17), vI 1, vI i, vI (f (7 + 9 * i)), vI 0, a6_6] [] w25 Q
                          refine ⟨(by unfold ir; omega), ?_⟩
                          have hl_154 : ∀ (n_154 : Nat) (k : Int) (a6_154 : V) (w_154 : Wd), 0 ≤ k ∧ k ≤ f (7 + 9 * i) → LwS (N + 40 * i + 16 + 3 * k) (B) x L w_154 f fs sv → (f (7 + 9 * i) - k).toNat < n_154 → WP 8 112 154 [vR x, vI (wn + v17), vI 1, vI i, vI (f (7 + 9 * i)), vI k, a6_154] [] w_154 Q := by
                            intro n_154
                            induction n_154 with
                            | zero => intro k a6_154 w_154 k0 h_154 hm_154; exact absurd hm_154 (Nat.not_lt_zero _)
                            | succ n_154 ih_154 =>
                              intro k a6_154 w_154 k0 h_154 hm_154
                              refine WP.blk 3 ?_
                              show WP 8 112 (if cnd .ge k (f (7 + 9 * i)) = true then 224 else 161) [vR x, vI (wn + v17), vI 1, vI i, vI (f (7 + 9 * i)), vI k, a6_154] [] w_154 Q
                              refine br_ge (fun c26 => ?_) (fun c26 => ?_)
                              · refine WP.blk 2 ?_
                                show ir (i + 1) ∧ WP 8 112 6 [vR x, vI (wn + v17), vI 1, vI (i + 1), vI (f (7 + 9 * i)), vI k, a6_154] [] w_154 Q
                                refine ⟨(by unfold ir; omega), ?_⟩
                                exact ih_6 (i + 1) (wn + v17) (vI (f (7 + 9 * i))) (vI k) (a6_154) w_154 (by omega) (num_w p0.1 p1_ ov17) (ls_le h_154 (by omega)) (by omega)
                              · refine WP.blk 2 ?_
                                show WP 8 112 165 [vR x, vI (wn + v17), vI 1, vI i, vI (f (7 + 9 * i)), vI k, a6_154] [] w_154 Q
                                obtain ⟨bu27, tu27, xu27, yu27, zu27⟩ := pb_x (f := f) (s := i) (k := k) (by omega) (by omega)
                                refine WP.blk 8 ?_
                                show ir ((f (7 + 9 * i)) - 1) ∧ ir (((f (7 + 9 * i)) - 1) - k) ∧ WP 8 112 175 [vR x, vI (wn + v17), vI 1, vI i, vI (f (7 + 9 * i)), vI k, a6_154] [vI 1, vI (((f (7 + 9 * i)) - 1) - k), vI i, vR x] w_154 Q
                                refine ⟨(by unfold ir; omega), (by unfold ir; omega), ?_⟩
                                refine WP.cl (a := [vR x, vI i, vI (((f (7 + 9 * i)) - 1) - k), vI 1]) (rest := []) rfl rfl rfl rfl trivial (by decide) (v_print h_154 (Int.le_refl _) yu27 (fun w28 h28 => ⟨rfl, ?_⟩))
                                show WP 8 112 178 [vR x, vI (wn + v17), vI 1, vI i, vI (f (7 + 9 * i)), vI k, a6_154] [vI tu27] w28 Q
                                refine WP.blk 4 ?_
                                show WP 8 112 183 [vR x, vI (wn + v17), vI 1, vI i, vI (f (7 + 9 * i)), vI k, vI tu27] [vI 4, vI i, vR x] w28 Q
                                refine WP.cl (a := [vR x, vI i, vI 4]) (rest := []) rfl rfl rfl rfl trivial (by decide) (v_stamp h28 (Int.le_refl _) xu27 (fun w29 h29 => ⟨rfl, ?_⟩))
                                show WP 8 112 186 [vR x, vI (wn + v17), vI 1, vI i, vI (f (7 + 9 * i)), vI k, vI tu27] [vI bu27] w29 Q
                                refine WP.blk 2 ?_
                                show WP 8 112 (if cnd .ne bu27 1 = true then 206 else 190) [vR x, vI (wn + v17), vI 1, vI i, vI (f (7 + 9 * i)), vI k, vI tu27] [] w29 Q
                                refine br_ne (fun c30 => ?_) (fun c30 => ?_)
                                · have e6 := pb_f zu27 c30
                                  refine WP.blk 3 ?_
                                  show WP 8 112 (if cnd .ne tu27 (-1) = true then 216 else 212) [vR x, vI (wn + v17), vI 1, vI i, vI (f (7 + 9 * i)), vI k, vI tu27] [] w29 Q
                                  refine br_ne (fun c31 => ?_) (fun c31 => ?_)
                                  · exfalso; omega
                                  · refine WP.blk 5 ?_
                                    show ir (k + 1) ∧ WP 8 112 154 [vR x, vI (wn + v17), vI 1, vI i, vI (f (7 + 9 * i)), vI (k + 1), vI tu27] [] w29 Q
                                    refine ⟨(by unfold ir; omega), ?_⟩
                                    exact ih_154 (k + 1) (vI tu27) w29 (by omega) (ls_le h29 (by omega)) (by omega)
                                · refine WP.blk 4 ?_
                                  show WP 8 112 195 [vR x, vI (wn + v17), vI 1, vI i, vI (f (7 + 9 * i)), vI k, vI tu27] [vI 0, vI k, vI i, vR x] w29 Q
                                  refine WP.cl (a := [vR x, vI i, vI k, vI 0]) (rest := []) rfl rfl rfl rfl trivial (by decide) (v_print h29 (Int.le_refl _) (pV_s (by omega)) (fun w32 h32 => ⟨rfl, ?_⟩))
                                  show WP 8 112 198 [vR x, vI (wn + v17), vI 1, vI i, vI (f (7 + 9 * i)), vI k, vI tu27] [vI (f (7 + 9 * i + 1 + k))] w32 Q
                                  refine WP.blk 1 ?_
                                  show WP 8 112 200 [vR x, vI (wn + v17), vI 1, vI i, vI (f (7 + 9 * i)), vI k, vI tu27] [vI tu27, vI (f (7 + 9 * i + 1 + k))] w32 Q
                                  refine WP.cl (a := [vI (f (7 + 9 * i + 1 + k)), vI tu27]) (rest := []) rfl rfl rfl rfl trivial (by decide) (z_isTurn (pb_t zu27 c30) ⟨rfl, ?_⟩)
                                  show WP 8 112 203 [vR x, vI (wn + v17), vI 1, vI i, vI (f (7 + 9 * i)), vI k, vI tu27] [vI 1] w32 Q
                                  refine WP.blk 4 ?_
                                  show ir (k + 1) ∧ WP 8 112 154 [vR x, vI (wn + v17), vI 1, vI i, vI (f (7 + 9 * i)), vI (k + 1), vI tu27] [] w32 Q
                                  refine ⟨(by unfold ir; omega), ?_⟩
                                  exact ih_154 (k + 1) (vI tu27) w32 (by omega) (ls_le h32 (by omega)) (by omega)
                          exact hl_154 _ 0 (a6_6) w25 (by omega) (ls_le h25 (by omega)) (Nat.lt_succ_self _)
                        · have hz := hNk i p0.1 (by omega) (by omega)
                          refine WP.blk 3 ?_
                          show WP 8 112 117 [vR x, vI wn, vI 1, vI i, vI (f (7 + 9 * i)), a5_6, a6_6] [vI 2, vI i, vR x] w22 Q
                          refine WP.cl (a := [vR x, vI i, vI 2]) (rest := []) rfl rfl rfl rfl trivial (by decide) (v_stamp h22 (Int.le_refl _) (sV_2 (by omega)) (fun w33 h33 => ⟨rfl, ?_⟩))
                          show WP 8 112 120 [vR x, vI wn, vI 1, vI i, vI (f (7 + 9 * i)), a5_6, a6_6] [vI (f (7 + 9 * i + 7))] w33 Q
                          refine WP.blk 1 ?_
                          show WP 8 112 (if cnd .ne (f (7 + 9 * i + 7)) 0 = true then 140 else 123) [vR x, vI wn, vI 1, vI i, vI (f (7 + 9 * i)), a5_6, a6_6] [] w33 Q
                          refine br_ne (fun c34 => ?_) (fun c34 => ?_)
                          · exfalso; omega
                          · refine WP.blk 4 ?_
                            show WP 8 112 128 [vR x, vI wn, vI 1, vI i, vI (f (7 + 9 * i)), a5_6, a6_6] [vI 0, vI (f (7 + 9 * i)), vI i, vR x] w33 Q
                            refine WP.cl (a := [vR x, vI i, vI (f (7 + 9 * i)), vI 0]) (rest := []) rfl rfl rfl rfl trivial (by decide) (v_print h33 (Int.le_refl _) (pV_out (by omega)) (fun w35 h35 => ⟨rfl, ?_⟩))
                            show WP 8 112 131 [vR x, vI wn, vI 1, vI i, vI (f (7 + 9 * i)), a5_6, a6_6] [vI (-5000003)] w35 Q
                            refine WP.blk 9 ?_
                            show WP 8 112 146 [vR x, vI wn, vI 1, vI i, vI (f (7 + 9 * i)), a5_6, a6_6] [vI 5, vI i, vR x, vI wn] w35 Q
                            refine WP.cl (a := [vR x, vI i, vI 5]) (rest := [vI wn]) rfl rfl rfl rfl trivial (by decide) (v_stamp h35 (Int.le_refl _) ev17 (fun w36 h36 => ⟨rfl, ?_⟩))
                            show WP 8 112 149 [vR x, vI wn, vI 1, vI i, vI (f (7 + 9 * i)), a5_6, a6_6] [vI v17, vI wn] w36 Q
                            refine WP.blk 4 ?_
                            show ir (wn + v17) ∧ WP 8 112 154 [vR x, vI (wn + v17), vI 1, vI i, vI (f (7 + 9 * i)), vI 0, a6_6] [] w36 Q
                            refine ⟨(by unfold ir; omega), ?_⟩
                            have hl_154 : ∀ (n_154 : Nat) (k : Int) (a6_154 : V) (w_154 : Wd), 0 ≤ k ∧ k ≤ f (7 + 9 * i) → LwS (N + 40 * i + 16 + 3 * k) (B) x L w_154 f fs sv → (f (7 + 9 * i) - k).toNat < n_154 → WP 8 112 154 [vR x, vI (wn + v17), vI 1, vI i, vI (f (7 + 9 * i)), vI k, a6_154] [] w_154 Q := by
                              intro n_154
                              induction n_154 with
                              | zero => intro k a6_154 w_154 k0 h_154 hm_154; exact absurd hm_154 (Nat.not_lt_zero _)
                              | succ n_154 ih_154 =>
                                intro k a6_154 w_154 k0 h_154 hm_154
                                refine WP.blk 3 ?_
                                show WP 8 112 (if cnd .ge k (f (7 + 9 * i)) = true then 224 else 161) [vR x, vI (wn + v17), vI 1, vI i, vI (f (7 + 9 * i)), vI k, a6_154] [] w_154 Q
                                refine br_ge (fun c37 => ?_) (fun c37 => ?_)
                                · refine WP.blk 2 ?_
                                  show ir (i + 1) ∧ WP 8 112 6 [vR x, vI (wn + v17), vI 1, vI (i + 1), vI (f (7 + 9 * i)), vI k, a6_154] [] w_154 Q
                                  refine ⟨(by unfold ir; omega), ?_⟩
                                  exact ih_6 (i + 1) (wn + v17) (vI (f (7 + 9 * i))) (vI k) (a6_154) w_154 (by omega) (num_w p0.1 p1_ ov17) (ls_le h_154 (by omega)) (by omega)
                                · refine WP.blk 2 ?_
                                  show WP 8 112 165 [vR x, vI (wn + v17), vI 1, vI i, vI (f (7 + 9 * i)), vI k, a6_154] [] w_154 Q
                                  obtain ⟨bu38, tu38, xu38, yu38, zu38⟩ := pb_x (f := f) (s := i) (k := k) (by omega) (by omega)
                                  refine WP.blk 8 ?_
                                  show ir ((f (7 + 9 * i)) - 1) ∧ ir (((f (7 + 9 * i)) - 1) - k) ∧ WP 8 112 175 [vR x, vI (wn + v17), vI 1, vI i, vI (f (7 + 9 * i)), vI k, a6_154] [vI 1, vI (((f (7 + 9 * i)) - 1) - k), vI i, vR x] w_154 Q
                                  refine ⟨(by unfold ir; omega), (by unfold ir; omega), ?_⟩
                                  refine WP.cl (a := [vR x, vI i, vI (((f (7 + 9 * i)) - 1) - k), vI 1]) (rest := []) rfl rfl rfl rfl trivial (by decide) (v_print h_154 (Int.le_refl _) yu38 (fun w39 h39 => ⟨rfl, ?_⟩))
                                  show WP 8 112 178 [vR x, vI (wn + v17), vI 1, vI i, vI (f (7 + 9 * i)), vI k, a6_154] [vI tu38] w39 Q
                                  refine WP.blk 4 ?_
                                  show WP 8 112 183 [vR x, vI (wn + v17), vI 1, vI i, vI (f (7 + 9 * i)), vI k, vI tu38] [vI 4, vI i, vR x] w39 Q
                                  refine WP.cl (a := [vR x, vI i, vI 4]) (rest := []) rfl rfl rfl rfl trivial (by decide) (v_stamp h39 (Int.le_refl _) xu38 (fun w40 h40 => ⟨rfl, ?_⟩))
                                  show WP 8 112 186 [vR x, vI (wn + v17), vI 1, vI i, vI (f (7 + 9 * i)), vI k, vI tu38] [vI bu38] w40 Q
                                  refine WP.blk 2 ?_
                                  show WP 8 112 (if cnd .ne bu38 1 = true then 206 else 190) [vR x, vI (wn + v17), vI 1, vI i, vI (f (7 + 9 * i)), vI k, vI tu38] [] w40 Q
                                  refine br_ne (fun c41 => ?_) (fun c41 => ?_)
                                  · have e6 := pb_f zu38 c41
                                    refine WP.blk 3 ?_
                                    show WP 8 112 (if cnd .ne tu38 (-1) = true then 216 else 212) [vR x, vI (wn + v17), vI 1, vI i, vI (f (7 + 9 * i)), vI k, vI tu38] [] w40 Q
                                    refine br_ne (fun c42 => ?_) (fun c42 => ?_)
                                    · exfalso; omega
                                    · refine WP.blk 5 ?_
                                      show ir (k + 1) ∧ WP 8 112 154 [vR x, vI (wn + v17), vI 1, vI i, vI (f (7 + 9 * i)), vI (k + 1), vI tu38] [] w40 Q
                                      refine ⟨(by unfold ir; omega), ?_⟩
                                      exact ih_154 (k + 1) (vI tu38) w40 (by omega) (ls_le h40 (by omega)) (by omega)
                                  · refine WP.blk 4 ?_
                                    show WP 8 112 195 [vR x, vI (wn + v17), vI 1, vI i, vI (f (7 + 9 * i)), vI k, vI tu38] [vI 0, vI k, vI i, vR x] w40 Q
                                    refine WP.cl (a := [vR x, vI i, vI k, vI 0]) (rest := []) rfl rfl rfl rfl trivial (by decide) (v_print h40 (Int.le_refl _) (pV_s (by omega)) (fun w43 h43 => ⟨rfl, ?_⟩))
                                    show WP 8 112 198 [vR x, vI (wn + v17), vI 1, vI i, vI (f (7 + 9 * i)), vI k, vI tu38] [vI (f (7 + 9 * i + 1 + k))] w43 Q
                                    refine WP.blk 1 ?_
                                    show WP 8 112 200 [vR x, vI (wn + v17), vI 1, vI i, vI (f (7 + 9 * i)), vI k, vI tu38] [vI tu38, vI (f (7 + 9 * i + 1 + k))] w43 Q
                                    refine WP.cl (a := [vI (f (7 + 9 * i + 1 + k)), vI tu38]) (rest := []) rfl rfl rfl rfl trivial (by decide) (z_isTurn (pb_t zu38 c41) ⟨rfl, ?_⟩)
                                    show WP 8 112 203 [vR x, vI (wn + v17), vI 1, vI i, vI (f (7 + 9 * i)), vI k, vI tu38] [vI 1] w43 Q
                                    refine WP.blk 4 ?_
                                    show ir (k + 1) ∧ WP 8 112 154 [vR x, vI (wn + v17), vI 1, vI i, vI (f (7 + 9 * i)), vI (k + 1), vI tu38] [] w43 Q
                                    refine ⟨(by unfold ir; omega), ?_⟩
                                    exact ih_154 (k + 1) (vI tu38) w43 (by omega) (ls_le h43 (by omega)) (by omega)
                            exact hl_154 _ 0 (a6_6) w36 (by omega) (ls_le h36 (by omega)) (Nat.lt_succ_self _)
                    · refine WP.blk 3 ?_
                      show WP 8 112 (if cnd .ne v17 1 = true then 140 else 105) [vR x, vI wn, vI 1, vI i, vI (f (7 + 9 * i)), a5_6, a6_6] [] w19 Q
                      refine br_ne (fun c44 => ?_) (fun c44 => ?_)
                      · exfalso; omega
                      · refine WP.blk 3 ?_
                        show WP 8 112 108 [vR x, vI wn, vI 1, vI i, vI (f (7 + 9 * i)), a5_6, a6_6] [vI 1, vI i, vR x] w19 Q
                        refine WP.cl (a := [vR x, vI i, vI 1]) (rest := []) rfl rfl rfl rfl trivial (by decide) (v_stamp h19 (Int.le_refl _) (sV_1 (by omega)) (fun w45 h45 => ⟨rfl, ?_⟩))
                        show WP 8 112 111 [vR x, vI wn, vI 1, vI i, vI (f (7 + 9 * i)), a5_6, a6_6] [vI (f (7 + 9 * i + 6))] w45 Q
                        refine WP.blk 1 ?_
                        show WP 8 112 (if cnd .ge (f (7 + 9 * i + 6)) 0 = true then 123 else 114) [vR x, vI wn, vI 1, vI i, vI (f (7 + 9 * i)), a5_6, a6_6] [] w45 Q
                        refine br_ge (fun c46 => ?_) (fun c46 => ?_)
                        · refine WP.blk 4 ?_
                          show WP 8 112 128 [vR x, vI wn, vI 1, vI i, vI (f (7 + 9 * i)), a5_6, a6_6] [vI 0, vI (f (7 + 9 * i)), vI i, vR x] w45 Q
                          refine WP.cl (a := [vR x, vI i, vI (f (7 + 9 * i)), vI 0]) (rest := []) rfl rfl rfl rfl trivial (by decide) (v_print h45 (Int.le_refl _) (pV_out (by omega)) (fun w47 h47 => ⟨rfl, ?_⟩))
                          show WP 8 112 131 [vR x, vI wn, vI 1, vI i, vI (f (7 + 9 * i)), a5_6, a6_6] [vI (-5000003)] w47 Q
                          refine WP.blk 9 ?_
                          show WP 8 112 146 [vR x, vI wn, vI 1, vI i, vI (f (7 + 9 * i)), a5_6, a6_6] [vI 5, vI i, vR x, vI wn] w47 Q
                          refine WP.cl (a := [vR x, vI i, vI 5]) (rest := [vI wn]) rfl rfl rfl rfl trivial (by decide) (v_stamp h47 (Int.le_refl _) ev17 (fun w48 h48 => ⟨rfl, ?_⟩))
                          show WP 8 112 149 [vR x, vI wn, vI 1, vI i, vI (f (7 + 9 * i)), a5_6, a6_6] [vI v17, vI wn] w48 Q
                          refine WP.blk 4 ?_
                          show ir (wn + v17) ∧ WP 8 112 154 [vR x, vI (wn + v17), vI 1, vI i, vI (f (7 + 9 * i)), vI 0, a6_6] [] w48 Q
                          refine ⟨(by unfold ir; omega), ?_⟩
                          have hl_154 : ∀ (n_154 : Nat) (k : Int) (a6_154 : V) (w_154 : Wd), 0 ≤ k ∧ k ≤ f (7 + 9 * i) → LwS (N + 40 * i + 16 + 3 * k) (B) x L w_154 f fs sv → (f (7 + 9 * i) - k).toNat < n_154 → WP 8 112 154 [vR x, vI (wn + v17), vI 1, vI i, vI (f (7 + 9 * i)), vI k, a6_154] [] w_154 Q := by
                            intro n_154
                            induction n_154 with
                            | zero => intro k a6_154 w_154 k0 h_154 hm_154; exact absurd hm_154 (Nat.not_lt_zero _)
                            | succ n_154 ih_154 =>
                              intro k a6_154 w_154 k0 h_154 hm_154
                              refine WP.blk 3 ?_
                              show WP 8 112 (if cnd .ge k (f (7 + 9 * i)) = true then 224 else 161) [vR x, vI (wn + v17), vI 1, vI i, vI (f (7 + 9 * i)), vI k, a6_154] [] w_154 Q
                              refine br_ge (fun c49 => ?_) (fun c49 => ?_)
                              · refine WP.blk 2 ?_
                                show ir (i + 1) ∧ WP 8 112 6 [vR x, vI (wn + v17), vI 1, vI (i + 1), vI (f (7 + 9 * i)), vI k, a6_154] [] w_154 Q
                                refine ⟨(by unfold ir; omega), ?_⟩
                                exact ih_6 (i + 1) (wn + v17) (vI (f (7 + 9 * i))) (vI k) (a6_154) w_154 (by omega) (num_w p0.1 p1_ ov17) (ls_le h_154 (by omega)) (by omega)
                              · refine WP.blk 2 ?_
                                show WP 8 112 165 [vR x, vI (wn + v17), vI 1, vI i, vI (f (7 + 9 * i)), vI k, a6_154] [] w_154 Q
                                obtain ⟨bu50, tu50, xu50, yu50, zu50⟩ := pb_x (f := f) (s := i) (k := k) (by omega) (by omega)
                                refine WP.blk 8 ?_
                                show ir ((f (7 + 9 * i)) - 1) ∧ ir (((f (7 + 9 * i)) - 1) - k) ∧ WP 8 112 175 [vR x, vI (wn + v17), vI 1, vI i, vI (f (7 + 9 * i)), vI k, a6_154] [vI 1, vI (((f (7 + 9 * i)) - 1) - k), vI i, vR x] w_154 Q
                                refine ⟨(by unfold ir; omega), (by unfold ir; omega), ?_⟩
                                refine WP.cl (a := [vR x, vI i, vI (((f (7 + 9 * i)) - 1) - k), vI 1]) (rest := []) rfl rfl rfl rfl trivial (by decide) (v_print h_154 (Int.le_refl _) yu50 (fun w51 h51 => ⟨rfl, ?_⟩))
                                show WP 8 112 178 [vR x, vI (wn + v17), vI 1, vI i, vI (f (7 + 9 * i)), vI k, a6_154] [vI tu50] w51 Q
                                refine WP.blk 4 ?_
                                show WP 8 112 183 [vR x, vI (wn + v17), vI 1, vI i, vI (f (7 + 9 * i)), vI k, vI tu50] [vI 4, vI i, vR x] w51 Q
                                refine WP.cl (a := [vR x, vI i, vI 4]) (rest := []) rfl rfl rfl rfl trivial (by decide) (v_stamp h51 (Int.le_refl _) xu50 (fun w52 h52 => ⟨rfl, ?_⟩))
                                show WP 8 112 186 [vR x, vI (wn + v17), vI 1, vI i, vI (f (7 + 9 * i)), vI k, vI tu50] [vI bu50] w52 Q
                                refine WP.blk 2 ?_
                                show WP 8 112 (if cnd .ne bu50 1 = true then 206 else 190) [vR x, vI (wn + v17), vI 1, vI i, vI (f (7 + 9 * i)), vI k, vI tu50] [] w52 Q
                                refine br_ne (fun c53 => ?_) (fun c53 => ?_)
                                · have e6 := pb_f zu50 c53
                                  refine WP.blk 3 ?_
                                  show WP 8 112 (if cnd .ne tu50 (-1) = true then 216 else 212) [vR x, vI (wn + v17), vI 1, vI i, vI (f (7 + 9 * i)), vI k, vI tu50] [] w52 Q
                                  refine br_ne (fun c54 => ?_) (fun c54 => ?_)
                                  · exfalso; omega
                                  · refine WP.blk 5 ?_
                                    show ir (k + 1) ∧ WP 8 112 154 [vR x, vI (wn + v17), vI 1, vI i, vI (f (7 + 9 * i)), vI (k + 1), vI tu50] [] w52 Q
                                    refine ⟨(by unfold ir; omega), ?_⟩
                                    exact ih_154 (k + 1) (vI tu50) w52 (by omega) (ls_le h52 (by omega)) (by omega)
                                · refine WP.blk 4 ?_
                                  show WP 8 112 195 [vR x, vI (wn + v17), vI 1, vI i, vI (f (7 + 9 * i)), vI k, vI tu50] [vI 0, vI k, vI i, vR x] w52 Q
                                  refine WP.cl (a := [vR x, vI i, vI k, vI 0]) (rest := []) rfl rfl rfl rfl trivial (by decide) (v_print h52 (Int.le_refl _) (pV_s (by omega)) (fun w55 h55 => ⟨rfl, ?_⟩))
                                  show WP 8 112 198 [vR x, vI (wn + v17), vI 1, vI i, vI (f (7 + 9 * i)), vI k, vI tu50] [vI (f (7 + 9 * i + 1 + k))] w55 Q
                                  refine WP.blk 1 ?_
                                  show WP 8 112 200 [vR x, vI (wn + v17), vI 1, vI i, vI (f (7 + 9 * i)), vI k, vI tu50] [vI tu50, vI (f (7 + 9 * i + 1 + k))] w55 Q
                                  refine WP.cl (a := [vI (f (7 + 9 * i + 1 + k)), vI tu50]) (rest := []) rfl rfl rfl rfl trivial (by decide) (z_isTurn (pb_t zu50 c53) ⟨rfl, ?_⟩)
                                  show WP 8 112 203 [vR x, vI (wn + v17), vI 1, vI i, vI (f (7 + 9 * i)), vI k, vI tu50] [vI 1] w55 Q
                                  refine WP.blk 4 ?_
                                  show ir (k + 1) ∧ WP 8 112 154 [vR x, vI (wn + v17), vI 1, vI i, vI (f (7 + 9 * i)), vI (k + 1), vI tu50] [] w55 Q
                                  refine ⟨(by unfold ir; omega), ?_⟩
                                  exact ih_154 (k + 1) (vI tu50) w55 (by omega) (ls_le h55 (by omega)) (by omega)
                          exact hl_154 _ 0 (a6_6) w48 (by omega) (ls_le h48 (by omega)) (Nat.lt_succ_self _)
                        · have hz := hNk i p0.1 (by omega) (by omega)
                          refine WP.blk 3 ?_
                          show WP 8 112 117 [vR x, vI wn, vI 1, vI i, vI (f (7 + 9 * i)), a5_6, a6_6] [vI 2, vI i, vR x] w45 Q
                          refine WP.cl (a := [vR x, vI i, vI 2]) (rest := []) rfl rfl rfl rfl trivial (by decide) (v_stamp h45 (Int.le_refl _) (sV_2 (by omega)) (fun w56 h56 => ⟨rfl, ?_⟩))
                          show WP 8 112 120 [vR x, vI wn, vI 1, vI i, vI (f (7 + 9 * i)), a5_6, a6_6] [vI (f (7 + 9 * i + 7))] w56 Q
                          refine WP.blk 1 ?_
                          show WP 8 112 (if cnd .ne (f (7 + 9 * i + 7)) 0 = true then 140 else 123) [vR x, vI wn, vI 1, vI i, vI (f (7 + 9 * i)), a5_6, a6_6] [] w56 Q
                          refine br_ne (fun c57 => ?_) (fun c57 => ?_)
                          · exfalso; omega
                          · refine WP.blk 4 ?_
                            show WP 8 112 128 [vR x, vI wn, vI 1, vI i, vI (f (7 + 9 * i)), a5_6, a6_6] [vI 0, vI (f (7 + 9 * i)), vI i, vR x] w56 Q
                            refine WP.cl (a := [vR x, vI i, vI (f (7 + 9 * i)), vI 0]) (rest := []) rfl rfl rfl rfl trivial (by decide) (v_print h56 (Int.le_refl _) (pV_out (by omega)) (fun w58 h58 => ⟨rfl, ?_⟩))
                            show WP 8 112 131 [vR x, vI wn, vI 1, vI i, vI (f (7 + 9 * i)), a5_6, a6_6] [vI (-5000003)] w58 Q
                            refine WP.blk 9 ?_
                            show WP 8 112 146 [vR x, vI wn, vI 1, vI i, vI (f (7 + 9 * i)), a5_6, a6_6] [vI 5, vI i, vR x, vI wn] w58 Q
                            refine WP.cl (a := [vR x, vI i, vI 5]) (rest := [vI wn]) rfl rfl rfl rfl trivial (by decide) (v_stamp h58 (Int.le_refl _) ev17 (fun w59 h59 => ⟨rfl, ?_⟩))
                            show WP 8 112 149 [vR x, vI wn, vI 1, vI i, vI (f (7 + 9 * i)), a5_6, a6_6] [vI v17, vI wn] w59 Q
                            refine WP.blk 4 ?_
                            show ir (wn + v17) ∧ WP 8 112 154 [vR x, vI (wn + v17), vI 1, vI i, vI (f (7 + 9 * i)), vI 0, a6_6] [] w59 Q
                            refine ⟨(by unfold ir; omega), ?_⟩
                            have hl_154 : ∀ (n_154 : Nat) (k : Int) (a6_154 : V) (w_154 : Wd), 0 ≤ k ∧ k ≤ f (7 + 9 * i) → LwS (N + 40 * i + 16 + 3 * k) (B) x L w_154 f fs sv → (f (7 + 9 * i) - k).toNat < n_154 → WP 8 112 154 [vR x, vI (wn + v17), vI 1, vI i, vI (f (7 + 9 * i)), vI k, a6_154] [] w_154 Q := by
                              intro n_154
                              induction n_154 with
                              | zero => intro k a6_154 w_154 k0 h_154 hm_154; exact absurd hm_154 (Nat.not_lt_zero _)
                              | succ n_154 ih_154 =>
                                intro k a6_154 w_154 k0 h_154 hm_154
                                refine WP.blk 3 ?_
                                show WP 8 112 (if cnd .ge k (f (7 + 9 * i)) = true then 224 else 161) [vR x, vI (wn + v17), vI 1, vI i, vI (f (7 + 9 * i)), vI k, a6_154] [] w_154 Q
                                refine br_ge (fun c60 => ?_) (fun c60 => ?_)
                                · refine WP.blk 2 ?_
                                  show ir (i + 1) ∧ WP 8 112 6 [vR x, vI (wn + v17), vI 1, vI (i + 1), vI (f (7 + 9 * i)), vI k, a6_154] [] w_154 Q
                                  refine ⟨(by unfold ir; omega), ?_⟩
                                  exact ih_6 (i + 1) (wn + v17) (vI (f (7 + 9 * i))) (vI k) (a6_154) w_154 (by omega) (num_w p0.1 p1_ ov17) (ls_le h_154 (by omega)) (by omega)
                                · refine WP.blk 2 ?_
                                  show WP 8 112 165 [vR x, vI (wn + v17), vI 1, vI i, vI (f (7 + 9 * i)), vI k, a6_154] [] w_154 Q
                                  obtain ⟨bu61, tu61, xu61, yu61, zu61⟩ := pb_x (f := f) (s := i) (k := k) (by omega) (by omega)
                                  refine WP.blk 8 ?_
                                  show ir ((f (7 + 9 * i)) - 1) ∧ ir (((f (7 + 9 * i)) - 1) - k) ∧ WP 8 112 175 [vR x, vI (wn + v17), vI 1, vI i, vI (f (7 + 9 * i)), vI k, a6_154] [vI 1, vI (((f (7 + 9 * i)) - 1) - k), vI i, vR x] w_154 Q
                                  refine ⟨(by unfold ir; omega), (by unfold ir; omega), ?_⟩
                                  refine WP.cl (a := [vR x, vI i, vI (((f (7 + 9 * i)) - 1) - k), vI 1]) (rest := []) rfl rfl rfl rfl trivial (by decide) (v_print h_154 (Int.le_refl _) yu61 (fun w62 h62 => ⟨rfl, ?_⟩))
                                  show WP 8 112 178 [vR x, vI (wn + v17), vI 1, vI i, vI (f (7 + 9 * i)), vI k, a6_154] [vI tu61] w62 Q
                                  refine WP.blk 4 ?_
                                  show WP 8 112 183 [vR x, vI (wn + v17), vI 1, vI i, vI (f (7 + 9 * i)), vI k, vI tu61] [vI 4, vI i, vR x] w62 Q
                                  refine WP.cl (a := [vR x, vI i, vI 4]) (rest := []) rfl rfl rfl rfl trivial (by decide) (v_stamp h62 (Int.le_refl _) xu61 (fun w63 h63 => ⟨rfl, ?_⟩))
                                  show WP 8 112 186 [vR x, vI (wn + v17), vI 1, vI i, vI (f (7 + 9 * i)), vI k, vI tu61] [vI bu61] w63 Q
                                  refine WP.blk 2 ?_
                                  show WP 8 112 (if cnd .ne bu61 1 = true then 206 else 190) [vR x, vI (wn + v17), vI 1, vI i, vI (f (7 + 9 * i)), vI k, vI tu61] [] w63 Q
                                  refine br_ne (fun c64 => ?_) (fun c64 => ?_)
                                  · have e6 := pb_f zu61 c64
                                    refine WP.blk 3 ?_
                                    show WP 8 112 (if cnd .ne tu61 (-1) = true then 216 else 212) [vR x, vI (wn + v17), vI 1, vI i, vI (f (7 + 9 * i)), vI k, vI tu61] [] w63 Q
                                    refine br_ne (fun c65 => ?_) (fun c65 => ?_)
                                    · exfalso; omega
                                    · refine WP.blk 5 ?_
                                      show ir (k + 1) ∧ WP 8 112 154 [vR x, vI (wn + v17), vI 1, vI i, vI (f (7 + 9 * i)), vI (k + 1), vI tu61] [] w63 Q
                                      refine ⟨(by unfold ir; omega), ?_⟩
                                      exact ih_154 (k + 1) (vI tu61) w63 (by omega) (ls_le h63 (by omega)) (by omega)
                                  · refine WP.blk 4 ?_
                                    show WP 8 112 195 [vR x, vI (wn + v17), vI 1, vI i, vI (f (7 + 9 * i)), vI k, vI tu61] [vI 0, vI k, vI i, vR x] w63 Q
                                    refine WP.cl (a := [vR x, vI i, vI k, vI 0]) (rest := []) rfl rfl rfl rfl trivial (by decide) (v_print h63 (Int.le_refl _) (pV_s (by omega)) (fun w66 h66 => ⟨rfl, ?_⟩))
                                    show WP 8 112 198 [vR x, vI (wn + v17), vI 1, vI i, vI (f (7 + 9 * i)), vI k, vI tu61] [vI (f (7 + 9 * i + 1 + k))] w66 Q
                                    refine WP.blk 1 ?_
                                    show WP 8 112 200 [vR x, vI (wn + v17), vI 1, vI i, vI (f (7 + 9 * i)), vI k, vI tu61] [vI tu61, vI (f (7 + 9 * i + 1 + k))] w66 Q
                                    refine WP.cl (a := [vI (f (7 + 9 * i + 1 + k)), vI tu61]) (rest := []) rfl rfl rfl rfl trivial (by decide) (z_isTurn (pb_t zu61 c64) ⟨rfl, ?_⟩)
                                    show WP 8 112 203 [vR x, vI (wn + v17), vI 1, vI i, vI (f (7 + 9 * i)), vI k, vI tu61] [vI 1] w66 Q
                                    refine WP.blk 4 ?_
                                    show ir (k + 1) ∧ WP 8 112 154 [vR x, vI (wn + v17), vI 1, vI i, vI (f (7 + 9 * i)), vI (k + 1), vI tu61] [] w66 Q
                                    refine ⟨(by unfold ir; omega), ?_⟩
                                    exact ih_154 (k + 1) (vI tu61) w66 (by omega) (ls_le h66 (by omega)) (by omega)
                            exact hl_154 _ 0 (a6_6) w59 (by omega) (ls_le h59 (by omega)) (Nat.lt_succ_self _)
  exact hl_6 _ 0 0 none none none w (by omega) rfl (ls_le h (by omega)) (Nat.lt_succ_self _)
set_option maxHeartbeats 8000000 in
theorem z_plans {N B : Int} {x L : Nat} {w : Wd} {f : Int → Int} {fs : List (Int → Int)} {sv : Int} {Q : Res → Wd → Prop} (h : LwS N B x L w f fs sv) (k : ∀ w', LwS (N + 1420) B x L w' f fs sv → Q (0, vI 1) w') : EvQ 9 113 [vR x] w Q := by
  refine EvQ.enter (ls := [vR x, none, none, none, none, none, none, none, none, none, none, none, none]) (Nat.le_of_ble_eq_true rfl) rfl ?_
  have hR := (ls_row h).1
  have hA := hR.1
  have hW := hR.2.1
  have hI := hR.2.2
  have hA1 := hA.1
  have hW1 := hW.1
  have hI2 := hI.2
  refine WP.blk 10 ?_
  show WP 8 113 12 [vR x, vI 0, vI 0, vI 0, vI 1, vI 0, none, none, none, none, none, none, none] [] w Q
  have hl_12 : ∀ (n_12 : Nat) (w9 : Int) (pl : Int) (le : Int) (pr : Int) (a6_12 : V) (a7_12 : V) (a8_12 : V) (a9_12 : V) (a10_12 : V) (a11_12 : V) (a12_12 : V) (w_12 : Wd), 0 ≤ w9 ∧ w9 ≤ f 1 → pl = num (HasP f) w9 → le = sm (lt1 f) w9 → pr = sm (ps1 f) w9 → 0 ≤ le ∧ le ≤ 12 * w9 → 0 ≤ pr ∧ pr ≤ 12 * w9 → LwS (N + 200 * w9) (B) x L w_12 f fs sv → (f 1 - w9).toNat < n_12 → WP 8 113 12 [vR x, vI pl, vI le, vI pr, vI 1, vI w9, a6_12, a7_12, a8_12, a9_12, a10_12, a11_12, a12_12] [] w_12 Q := by
    intro n_12
    induction n_12 with
    | zero => intro w9 pl le pr a6_12 a7_12 a8_12 a9_12 a10_12 a11_12 a12_12 w_12 q0 q1 q2 q3 q4 q5 h_12 hm_12; exact absurd hm_12 (Nat.not_lt_zero _)
    | succ n_12 ih_12 =>
      intro w9 pl le pr a6_12 a7_12 a8_12 a9_12 a10_12 a11_12 a12_12 w_12 q0 q1 q2 q3 q4 q5 h_12 hm_12
      have hnr := num_r (P := HasP f) q0.1
      refine WP.blk 3 ?_
      show WP 8 113 16 [vR x, vI pl, vI le, vI pr, vI 1, vI w9, a6_12, a7_12, a8_12, a9_12, a10_12, a11_12, a12_12] [vI 1, vR x, vI w9] w_12 Q
      refine WP.cl (a := [vR x, vI 1]) (rest := [vI w9]) rfl rfl rfl rfl trivial (by decide) (v_value h_12 (Int.le_refl _) (vV_lo (by omega)) (fun w1 h1 => ⟨rfl, ?_⟩))
      show WP 8 113 19 [vR x, vI pl, vI le, vI pr, vI 1, vI w9, a6_12, a7_12, a8_12, a9_12, a10_12, a11_12, a12_12] [vI (f 1), vI w9] w1 Q
      refine WP.blk 1 ?_
      show WP 8 113 (if cnd .ge w9 (f 1) = true then 403 else 22) [vR x, vI pl, vI le, vI pr, vI 1, vI w9, a6_12, a7_12, a8_12, a9_12, a10_12, a11_12, a12_12] [] w1 Q
      refine br_ge (fun c2 => ?_) (fun c2 => ?_)
      · have e9 : w9 = f 1 := by omega
        rw [e9] at q1 q2 q3
        refine WP.blk 5 ?_
        show WP 8 113 412 [vR x, vI pl, vI le, vI pr, vI 1, vI w9, a6_12, a7_12, a8_12, a9_12, a10_12, a11_12, a12_12] [vI 8, vR x, vI pl] w1 Q
        refine WP.cl (a := [vR x, vI 8]) (rest := [vI pl]) rfl rfl rfl rfl trivial (by decide) (v_value h1 (Int.le_refl _) vV_8 (fun w3 h3 => ⟨rfl, ?_⟩))
        show WP 8 113 415 [vR x, vI pl, vI le, vI pr, vI 1, vI w9, a6_12, a7_12, a8_12, a9_12, a10_12, a11_12, a12_12] [vI (num (HasP f) (f 1)), vI pl] w3 Q
        refine WP.blk 1 ?_
        show WP 8 113 (if cnd .ne pl (num (HasP f) (f 1)) = true then 460 else 418) [vR x, vI pl, vI le, vI pr, vI 1, vI w9, a6_12, a7_12, a8_12, a9_12, a10_12, a11_12, a12_12] [] w3 Q
        refine br_ne (fun c4 => ?_) (fun c4 => ?_)
        · exfalso; omega
        · refine WP.blk 1 ?_
          show WP 8 113 419 [vR x, vI pl, vI le, vI pr, vI 1, vI w9, a6_12, a7_12, a8_12, a9_12, a10_12, a11_12, a12_12] [vR x] w3 Q
          refine WP.cl (a := [vR x]) (rest := []) rfl rfl rfl rfl ⟨ls_ty h3, trivial⟩ (by decide) (v_mean h3 (Int.le_refl _) (fun w5 h5 => ⟨rfl, ?_⟩))
          show WP 8 113 422 [vR x, vI pl, vI le, vI pr, vI 1, vI w9, a6_12, a7_12, a8_12, a9_12, a10_12, a11_12, a12_12] [vD (lpp f)] w5 Q
          refine WP.blk 2 ?_
          show WP 8 113 (if cnd .ne pr 0 = true then 430 else 426) [vR x, vI pl, vI le, vI pr, vI 1, vI w9, a6_12, a7_12, a8_12, a9_12, a10_12, a11_12, a12_12] [vD (lpp f)] w5 Q
          refine br_ne (fun c6 => ?_) (fun c6 => ?_)
          · refine WP.blk 7 ?_
            show vf_n64 (FP.ddiv (FP.i2d (Int32.ofInt le)) (FP.i2d (Int32.ofInt pr))) ∧ WP 8 113 (if cnd .ne (dC (lpp f) (FP.ddiv (FP.i2d (Int32.ofInt le)) (FP.i2d (Int32.ofInt pr))) .l) 0 = true then 460 else 439) [vR x, vI pl, vI le, vI pr, vI 1, vI w9, a6_12, a7_12, a8_12, a9_12, a10_12, a11_12, a12_12] [] w5 Q
            refine ⟨(dd_ok (by omega) (by omega)), ?_⟩
            refine br_ne (fun c7 => ?_) (fun c7 => ?_)
            · exact absurd (by rw [lpp_n (by omega), ← q2, ← q3]; exact dc_ok (by omega) (by omega)) c7
            · refine WP.blk 2 ?_
              show WP 8 113 442 [vR x, vI pl, vI le, vI pr, vI 1, vI w9, a6_12, a7_12, a8_12, a9_12, a10_12, a11_12, a12_12] [vI 6, vR x] w5 Q
              refine WP.cl (a := [vR x, vI 6]) (rest := []) rfl rfl rfl rfl trivial (by decide) (v_value h5 (Int.le_refl _) (vV_lo (by omega)) (fun w8 h8 => ⟨rfl, ?_⟩))
              show WP 8 113 445 [vR x, vI pl, vI le, vI pr, vI 1, vI w9, a6_12, a7_12, a8_12, a9_12, a10_12, a11_12, a12_12] [vI (f 6)] w8 Q
              refine WP.blk 1 ?_
              show WP 8 113 (if cnd .lt (f 6) 0 = true then 460 else 448) [vR x, vI pl, vI le, vI pr, vI 1, vI w9, a6_12, a7_12, a8_12, a9_12, a10_12, a11_12, a12_12] [] w8 Q
              refine br_lt (fun c9 => ?_) (fun c9 => ?_)
              · exfalso; omega
              · refine WP.blk 2 ?_
                show WP 8 113 450 [vR x, vI pl, vI le, vI pr, vI 1, vI w9, a6_12, a7_12, a8_12, a9_12, a10_12, a11_12, a12_12] [vI 5, vR x] w8 Q
                refine WP.cl (a := [vR x, vI 5]) (rest := []) rfl rfl rfl rfl trivial (by decide) (v_value h8 (Int.le_refl _) (vV_lo (by omega)) (fun w10 h10 => ⟨rfl, ?_⟩))
                show WP 8 113 453 [vR x, vI pl, vI le, vI pr, vI 1, vI w9, a6_12, a7_12, a8_12, a9_12, a10_12, a11_12, a12_12] [vI (f 5)] w10 Q
                refine WP.blk 1 ?_
                show WP 8 113 (if cnd .lt (f 5) 0 = true then 460 else 456) [vR x, vI pl, vI le, vI pr, vI 1, vI w9, a6_12, a7_12, a8_12, a9_12, a10_12, a11_12, a12_12] [] w10 Q
                refine br_lt (fun c11 => ?_) (fun c11 => ?_)
                · exfalso; omega
                · refine WP.blk 2 ?_
                  show WP 8 113 461 [vR x, vI pl, vI le, vI pr, vI 1, vI w9, a6_12, a7_12, a8_12, a9_12, a10_12, a11_12, a12_12] [vI 1] w10 Q
                  exact WP.ret rfl rfl rfl ⟨by omega, trivial⟩ (k _ (ls_le h10 (by omega)))
          · refine WP.blk 4 ?_
            show WP 8 113 (if cnd .ne (dC (lpp f) 0 .l) 0 = true then 460 else 439) [vR x, vI pl, vI le, vI pr, vI 1, vI w9, a6_12, a7_12, a8_12, a9_12, a10_12, a11_12, a12_12] [] w5 Q
            refine br_ne (fun c12 => ?_) (fun c12 => ?_)
            · exact absurd (by rw [lpp_0 (by omega)]; exact dc_0) c12
            · refine WP.blk 2 ?_
              show WP 8 113 442 [vR x, vI pl, vI le, vI pr, vI 1, vI w9, a6_12, a7_12, a8_12, a9_12, a10_12, a11_12, a12_12] [vI 6, vR x] w5 Q
              refine WP.cl (a := [vR x, vI 6]) (rest := []) rfl rfl rfl rfl trivial (by decide) (v_value h5 (Int.le_refl _) (vV_lo (by omega)) (fun w13 h13 => ⟨rfl, ?_⟩))
              show WP 8 113 445 [vR x, vI pl, vI le, vI pr, vI 1, vI w9, a6_12, a7_12, a8_12, a9_12, a10_12, a11_12, a12_12] [vI (f 6)] w13 Q
              refine WP.blk 1 ?_
              show WP 8 113 (if cnd .lt (f 6) 0 = true then 460 else 448) [vR x, vI pl, vI le, vI pr, vI 1, vI w9, a6_12, a7_12, a8_12, a9_12, a10_12, a11_12, a12_12] [] w13 Q
              refine br_lt (fun c14 => ?_) (fun c14 => ?_)
              · exfalso; omega
              · refine WP.blk 2 ?_
                show WP 8 113 450 [vR x, vI pl, vI le, vI pr, vI 1, vI w9, a6_12, a7_12, a8_12, a9_12, a10_12, a11_12, a12_12] [vI 5, vR x] w13 Q
                refine WP.cl (a := [vR x, vI 5]) (rest := []) rfl rfl rfl rfl trivial (by decide) (v_value h13 (Int.le_refl _) (vV_lo (by omega)) (fun w15 h15 => ⟨rfl, ?_⟩))
                show WP 8 113 453 [vR x, vI pl, vI le, vI pr, vI 1, vI w9, a6_12, a7_12, a8_12, a9_12, a10_12, a11_12, a12_12] [vI (f 5)] w15 Q
                refine WP.blk 1 ?_
                show WP 8 113 (if cnd .lt (f 5) 0 = true then 460 else 456) [vR x, vI pl, vI le, vI pr, vI 1, vI w9, a6_12, a7_12, a8_12, a9_12, a10_12, a11_12, a12_12] [] w15 Q
                refine br_lt (fun c16 => ?_) (fun c16 => ?_)
                · exfalso; omega
                · refine WP.blk 2 ?_
                  show WP 8 113 461 [vR x, vI pl, vI le, vI pr, vI 1, vI w9, a6_12, a7_12, a8_12, a9_12, a10_12, a11_12, a12_12] [vI 1] w15 Q
                  exact WP.ret rfl rfl rfl ⟨by omega, trivial⟩ (k _ (ls_le h15 (by omega)))
      · have hk := (hW.2 w9 q0.1 c2).1
        have hpv := pv_r hA hk
        have hk3 := hk.2.2.1
        have hk4 := hk.2.2.2.1
        refine WP.blk 5 ?_
        show WP 8 113 31 [vR x, vI pl, vI le, vI pr, vI 1, vI w9, a6_12, a7_12, a8_12, a9_12, a10_12, a11_12, a12_12] [vI 2, vI w9, vR x] w1 Q
        refine WP.cl (a := [vR x, vI w9, vI 2]) (rest := []) rfl rfl rfl rfl trivial (by decide) (v_word h1 (Int.le_refl _) (wV_2 hA hW (by omega)) (fun w17 h17 => ⟨rfl, ?_⟩))
        show WP 8 113 34 [vR x, vI pl, vI le, vI pr, vI 1, vI w9, a6_12, a7_12, a8_12, a9_12, a10_12, a11_12, a12_12] [vI (pv f w9)] w17 Q
        refine WP.blk 4 ?_
        show WP 8 113 40 [vR x, vI pl, vI le, vI pr, vI 1, vI w9, vI (pv f w9), a7_12, a8_12, a9_12, a10_12, a11_12, a12_12] [vI 0, vI w9, vR x] w17 Q
        refine WP.cl (a := [vR x, vI w9, vI 0]) (rest := []) rfl rfl rfl rfl trivial (by decide) (v_word h17 (Int.le_refl _) (wV_0 hA hW (by omega)) (fun w18 h18 => ⟨rfl, ?_⟩))
        show WP 8 113 43 [vR x, vI pl, vI le, vI pr, vI 1, vI w9, vI (pv f w9), a7_12, a8_12, a9_12, a10_12, a11_12, a12_12] [vI (f (97 + 14 * w9))] w18 Q
        refine WP.blk 5 ?_
        show WP 8 113 (if cnd .ne (pv f w9) (-1) = true then 56 else 52) [vR x, vI pl, vI le, vI pr, vI 1, vI w9, vI (pv f w9), vI (f (97 + 14 * w9)), a8_12, a9_12, a10_12, a11_12, a12_12] [vI pl] w18 Q
        refine br_ne (fun c19 => ?_) (fun c19 => ?_)
        · have nn : pv f w9 ≠ -1 := c19
          obtain ⟨hHas, c, hc⟩ := pv_t hA hk nn
          obtain ⟨hn, q, hq0, hqn, hq⟩ := best_q hA hk hc
          refine WP.blk 7 ?_
          show ir (pl + 1) ∧ WP 8 113 (if cnd .ne (pv f w9) (-1) = true then 70 else 66) [vR x, vI (pl + 1), vI le, vI pr, vI 1, vI w9, vI (pv f w9), vI (f (97 + 14 * w9)), a8_12, a9_12, a10_12, a11_12, a12_12] [vI le] w18 Q
          refine ⟨(by unfold ir; omega), ?_⟩
          refine br_ne (fun c20 => ?_) (fun c20 => ?_)
          · refine WP.blk 7 ?_
            show ir (le + (f (97 + 14 * w9))) ∧ WP 8 113 (if cnd .ne (pv f w9) (-1) = true then 85 else 81) [vR x, vI (pl + 1), vI (le + (f (97 + 14 * w9))), vI pr, vI 1, vI w9, vI (pv f w9), vI (f (97 + 14 * w9)), a8_12, a9_12, a10_12, a11_12, a12_12] [vI pr] w18 Q
            refine ⟨(by unfold ir; omega), ?_⟩
            refine br_ne (fun c21 => ?_) (fun c21 => ?_)
            · refine WP.blk 7 ?_
              show ir (pr + (pv f w9)) ∧ WP 8 113 95 [vR x, vI (pl + 1), vI (le + (f (97 + 14 * w9))), vI (pr + (pv f w9)), vI 1, vI w9, vI (pv f w9), vI (f (97 + 14 * w9)), vI 0, vI 0, a10_12, a11_12, a12_12] [] w18 Q
              refine ⟨(by unfold ir; omega), ?_⟩
              have hl_95 : ∀ (n_95 : Nat) (k : Int) (at9 : Int) (a10_95 : V) (a11_95 : V) (a12_95 : V) (w_95 : Wd), 0 ≤ k ∧ k ≤ pv f w9 → at9 = q k → LwS (N + 200 * w9 + 4 + 15 * k) (B) x L w_95 f fs sv → (pv f w9 - k).toNat < n_95 → WP 8 113 95 [vR x, vI (pl + 1), vI (le + (f (97 + 14 * w9))), vI (pr + (pv f w9)), vI 1, vI w9, vI (pv f w9), vI (f (97 + 14 * w9)), vI at9, vI k, a10_95, a11_95, a12_95] [] w_95 Q := by
                intro n_95
                induction n_95 with
                | zero => intro k at9 a10_95 a11_95 a12_95 w_95 r0 r1 h_95 hm_95; exact absurd hm_95 (Nat.not_lt_zero _)
                | succ n_95 ih_95 =>
                  intro k at9 a10_95 a11_95 a12_95 w_95 r0 r1 h_95 hm_95
                  have hqk := fun (z : k < pv f w9) => hq k r0.1 z
                  refine WP.blk 3 ?_
                  show WP 8 113 (if cnd .ge k (pv f w9) = true then 250 else 102) [vR x, vI (pl + 1), vI (le + (f (97 + 14 * w9))), vI (pr + (pv f w9)), vI 1, vI w9, vI (pv f w9), vI (f (97 + 14 * w9)), vI at9, vI k, a10_95, a11_95, a12_95] [] w_95 Q
                  refine br_ge (fun c22 => ?_) (fun c22 => ?_)
                  · have ek : k = pv f w9 := by omega
                    rw [ek, hqn] at r1
                    refine WP.blk 5 ?_
                    show WP 8 113 (if cnd .ne (pv f w9) (-1) = true then 286 else 261) [vR x, vI (pl + 1), vI (le + (f (97 + 14 * w9))), vI (pr + (pv f w9)), vI 1, vI w9, vI (pv f w9), vI (f (97 + 14 * w9)), vI at9, vI k, a10_95, a11_95, a12_95] [] w_95 Q
                    refine br_ne (fun c23 => ?_) (fun c23 => ?_)
                    · refine WP.blk 3 ?_
                      show WP 8 113 (if cnd .ne at9 (f (97 + 14 * w9)) = true then 394 else 293) [vR x, vI (pl + 1), vI (le + (f (97 + 14 * w9))), vI (pr + (pv f w9)), vI 1, vI w9, vI (pv f w9), vI (f (97 + 14 * w9)), vI at9, vI k, a10_95, a11_95, a12_95] [] w_95 Q
                      refine br_ne (fun c24 => ?_) (fun c24 => ?_)
                      · exfalso; omega
                      · refine WP.blk 2 ?_
                        show WP 8 113 (if cnd .le (pv f w9) 0 = true then 394 else 298) [vR x, vI (pl + 1), vI (le + (f (97 + 14 * w9))), vI (pr + (pv f w9)), vI 1, vI w9, vI (pv f w9), vI (f (97 + 14 * w9)), vI at9, vI k, a10_95, a11_95, a12_95] [] w_95 Q
                        refine br_le (fun c25 => ?_) (fun c25 => ?_)
                        · exfalso; omega
                        · refine WP.blk 3 ?_
                          show WP 8 113 (if cnd .gt (pv f w9) (f (97 + 14 * w9)) = true then 394 else 305) [vR x, vI (pl + 1), vI (le + (f (97 + 14 * w9))), vI (pr + (pv f w9)), vI 1, vI w9, vI (pv f w9), vI (f (97 + 14 * w9)), vI at9, vI k, a10_95, a11_95, a12_95] [] w_95 Q
                          refine br_gt (fun c26 => ?_) (fun c26 => ?_)
                          · exfalso; omega
                          · refine WP.blk 3 ?_
                            show WP 8 113 310 [vR x, vI (pl + 1), vI (le + (f (97 + 14 * w9))), vI (pr + (pv f w9)), vI 1, vI w9, vI (pv f w9), vI (f (97 + 14 * w9)), vI at9, vI k, a10_95, a11_95, a12_95] [vI (pv f w9), vI w9, vR x] w_95 Q
                            refine WP.cl (a := [vR x, vI w9, vI (pv f w9)]) (rest := []) rfl rfl rfl rfl trivial (by decide) (v_press h_95 (Int.le_refl _) (fun _ c9 n9 _ hj9 b9 hi9 => by exfalso; have := (bestp_u hA hk hc b9).1; omega) (fun w27 h27 _ => ⟨rfl, ?_⟩))
                            show WP 8 113 313 [vR x, vI (pl + 1), vI (le + (f (97 + 14 * w9))), vI (pr + (pv f w9)), vI 1, vI w9, vI (pv f w9), vI (f (97 + 14 * w9)), vI at9, vI k, a10_95, a11_95, a12_95] [vI (-5000003)] w27 Q
                            refine WP.blk 5 ?_
                            show WP 8 113 322 [vR x, vI (pl + 1), vI (le + (f (97 + 14 * w9))), vI (pr + (pv f w9)), vI 1, vI w9, vI (pv f w9), vI (f (97 + 14 * w9)), vI at9, vI k, a10_95, a11_95, a12_95] [vI 3, vI w9, vR x] w27 Q
                            obtain ⟨g29, eg29, og29⟩ := pc_x hA hW (show 0 ≤ w9 ∧ w9 < f 1 by omega)
                            refine WP.cl (a := [vR x, vI w9, vI 3]) (rest := []) rfl rfl rfl rfl trivial (by decide) (v_word h27 (Int.le_refl _) eg29 (fun w28 h28 => ⟨rfl, ?_⟩))
                            show WP 8 113 325 [vR x, vI (pl + 1), vI (le + (f (97 + 14 * w9))), vI (pr + (pv f w9)), vI 1, vI w9, vI (pv f w9), vI (f (97 + 14 * w9)), vI at9, vI k, a10_95, a11_95, a12_95] [vI g29] w28 Q
                            refine WP.blk 2 ?_
                            show WP 8 113 (if cnd .eq g29 1 = true then 351 else 329) [vR x, vI (pl + 1), vI (le + (f (97 + 14 * w9))), vI (pr + (pv f w9)), vI 1, vI w9, vI (pv f w9), vI (f (97 + 14 * w9)), vI at9, vI k, a10_95, a11_95, a12_95] [] w28 Q
                            refine br_eq (fun c30 => ?_) (fun c30 => ?_)
                            · have hle := wV_le hA hW (show 0 ≤ w9 ∧ w9 < f 1 by omega) (pc_t og29 (by omega))
                              refine WP.blk 3 ?_
                              show WP 8 113 355 [vR x, vI (pl + 1), vI (le + (f (97 + 14 * w9))), vI (pr + (pv f w9)), vI 1, vI w9, vI (pv f w9), vI (f (97 + 14 * w9)), vI at9, vI k, a10_95, a11_95, a12_95] [vI 3, vI w9, vR x] w28 Q
                              refine WP.cl (a := [vR x, vI w9, vI 3]) (rest := []) rfl rfl rfl rfl trivial (by decide) (v_word h28 (Int.le_refl _) eg29 (fun w31 h31 => ⟨rfl, ?_⟩))
                              show WP 8 113 358 [vR x, vI (pl + 1), vI (le + (f (97 + 14 * w9))), vI (pr + (pv f w9)), vI 1, vI w9, vI (pv f w9), vI (f (97 + 14 * w9)), vI at9, vI k, a10_95, a11_95, a12_95] [vI g29] w31 Q
                              refine WP.blk 1 ?_
                              show WP 8 113 (if cnd .eq g29 0 = true then 390 else 361) [vR x, vI (pl + 1), vI (le + (f (97 + 14 * w9))), vI (pr + (pv f w9)), vI 1, vI w9, vI (pv f w9), vI (f (97 + 14 * w9)), vI at9, vI k, a10_95, a11_95, a12_95] [] w31 Q
                              refine br_eq (fun c32 => ?_) (fun c32 => ?_)
                              · exfalso; omega
                              · refine WP.blk 3 ?_
                                show WP 8 113 365 [vR x, vI (pl + 1), vI (le + (f (97 + 14 * w9))), vI (pr + (pv f w9)), vI 1, vI w9, vI (pv f w9), vI (f (97 + 14 * w9)), vI at9, vI k, a10_95, a11_95, a12_95] [vI 5, vI w9, vR x] w31 Q
                                refine WP.cl (a := [vR x, vI w9, vI 5]) (rest := []) rfl rfl rfl rfl trivial (by decide) (v_word h31 (Int.le_refl _) rfl (fun w33 h33 => ⟨rfl, ?_⟩))
                                show WP 8 113 368 [vR x, vI (pl + 1), vI (le + (f (97 + 14 * w9))), vI (pr + (pv f w9)), vI 1, vI w9, vI (pv f w9), vI (f (97 + 14 * w9)), vI at9, vI k, a10_95, a11_95, a12_95] [vI (wV f w9 5)] w33 Q
                                refine WP.blk 3 ?_
                                show WP 8 113 372 [vR x, vI (pl + 1), vI (le + (f (97 + 14 * w9))), vI (pr + (pv f w9)), vI 1, vI w9, vI (pv f w9), vI (f (97 + 14 * w9)), vI at9, vI k, a10_95, a11_95, a12_95] [vI 4, vI w9, vR x, vI (wV f w9 5)] w33 Q
                                refine WP.cl (a := [vR x, vI w9, vI 4]) (rest := [vI (wV f w9 5)]) rfl rfl rfl rfl trivial (by decide) (v_word h33 (Int.le_refl _) rfl (fun w34 h34 => ⟨rfl, ?_⟩))
                                show WP 8 113 375 [vR x, vI (pl + 1), vI (le + (f (97 + 14 * w9))), vI (pr + (pv f w9)), vI 1, vI w9, vI (pv f w9), vI (f (97 + 14 * w9)), vI at9, vI k, a10_95, a11_95, a12_95] [vI (wV f w9 4), vI (wV f w9 5)] w34 Q
                                refine WP.blk 1 ?_
                                show WP 8 113 (if cnd .gt (wV f w9 5) (wV f w9 4) = true then 394 else 378) [vR x, vI (pl + 1), vI (le + (f (97 + 14 * w9))), vI (pr + (pv f w9)), vI 1, vI w9, vI (pv f w9), vI (f (97 + 14 * w9)), vI at9, vI k, a10_95, a11_95, a12_95] [] w34 Q
                                refine br_gt (fun c35 => ?_) (fun c35 => ?_)
                                · exfalso; omega
                                · refine WP.blk 3 ?_
                                  show WP 8 113 382 [vR x, vI (pl + 1), vI (le + (f (97 + 14 * w9))), vI (pr + (pv f w9)), vI 1, vI w9, vI (pv f w9), vI (f (97 + 14 * w9)), vI at9, vI k, a10_95, a11_95, a12_95] [vI 4, vI w9, vR x] w34 Q
                                  refine WP.cl (a := [vR x, vI w9, vI 4]) (rest := []) rfl rfl rfl rfl trivial (by decide) (v_word h34 (Int.le_refl _) rfl (fun w36 h36 => ⟨rfl, ?_⟩))
                                  show WP 8 113 385 [vR x, vI (pl + 1), vI (le + (f (97 + 14 * w9))), vI (pr + (pv f w9)), vI 1, vI w9, vI (pv f w9), vI (f (97 + 14 * w9)), vI at9, vI k, a10_95, a11_95, a12_95] [vI (wV f w9 4)] w36 Q
                                  refine WP.blk 2 ?_
                                  show WP 8 113 (if cnd .gt (wV f w9 4) (pv f w9) = true then 394 else 390) [vR x, vI (pl + 1), vI (le + (f (97 + 14 * w9))), vI (pr + (pv f w9)), vI 1, vI w9, vI (pv f w9), vI (f (97 + 14 * w9)), vI at9, vI k, a10_95, a11_95, a12_95] [] w36 Q
                                  refine br_gt (fun c37 => ?_) (fun c37 => ?_)
                                  · exfalso; omega
                                  · refine WP.blk 5 ?_
                                    show ir (w9 + 1) ∧ WP 8 113 12 [vR x, vI (pl + 1), vI (le + (f (97 + 14 * w9))), vI (pr + (pv f w9)), vI 1, vI (w9 + 1), vI (pv f w9), vI (f (97 + 14 * w9)), vI at9, vI k, a10_95, a11_95, a12_95] [] w36 Q
                                    refine ⟨(by unfold ir; omega), ?_⟩
                                    exact ih_12 (w9 + 1) (pl + 1) (le + (f (97 + 14 * w9))) (pr + (pv f w9)) (vI (pv f w9)) (vI (f (97 + 14 * w9))) (vI at9) (vI k) (a10_95) (a11_95) (a12_95) w36 (by omega) (by rw [num_t q0.1 (pv_t hA hk nn).1, q1]) (by rw [sm_s q0.1, (lt1_t nn).1, q2]) (by rw [sm_s q0.1, (lt1_t nn).2, q3]) (by omega) (by omega) (ls_le h36 (by omega)) (by omega)
                            · have hnc2 := pc_f og29 c30
                              have hb3 := pc_b og29
                              refine WP.blk 3 ?_
                              show WP 8 113 333 [vR x, vI (pl + 1), vI (le + (f (97 + 14 * w9))), vI (pr + (pv f w9)), vI 1, vI w9, vI (pv f w9), vI (f (97 + 14 * w9)), vI at9, vI k, a10_95, a11_95, a12_95] [vI 4, vI w9, vR x] w28 Q
                              refine WP.cl (a := [vR x, vI w9, vI 4]) (rest := []) rfl rfl rfl rfl trivial (by decide) (v_word h28 (Int.le_refl _) (wV_45f hA hW (by omega) hnc2).1 (fun w38 h38 => ⟨rfl, ?_⟩))
                              show WP 8 113 336 [vR x, vI (pl + 1), vI (le + (f (97 + 14 * w9))), vI (pr + (pv f w9)), vI 1, vI w9, vI (pv f w9), vI (f (97 + 14 * w9)), vI at9, vI k, a10_95, a11_95, a12_95] [vI (-1)] w38 Q
                              refine WP.blk 5 ?_
                              show WP 8 113 344 [vR x, vI (pl + 1), vI (le + (f (97 + 14 * w9))), vI (pr + (pv f w9)), vI 1, vI w9, vI (pv f w9), vI (f (97 + 14 * w9)), vI at9, vI k, a10_95, a11_95, a12_95] [vI 5, vI w9, vR x] w38 Q
                              refine WP.cl (a := [vR x, vI w9, vI 5]) (rest := []) rfl rfl rfl rfl trivial (by decide) (v_word h38 (Int.le_refl _) (wV_45f hA hW (by omega) hnc2).2 (fun w39 h39 => ⟨rfl, ?_⟩))
                              show WP 8 113 347 [vR x, vI (pl + 1), vI (le + (f (97 + 14 * w9))), vI (pr + (pv f w9)), vI 1, vI w9, vI (pv f w9), vI (f (97 + 14 * w9)), vI at9, vI k, a10_95, a11_95, a12_95] [vI (-1)] w39 Q
                              refine WP.blk 5 ?_
                              show WP 8 113 355 [vR x, vI (pl + 1), vI (le + (f (97 + 14 * w9))), vI (pr + (pv f w9)), vI 1, vI w9, vI (pv f w9), vI (f (97 + 14 * w9)), vI at9, vI k, a10_95, a11_95, a12_95] [vI 3, vI w9, vR x] w39 Q
                              refine WP.cl (a := [vR x, vI w9, vI 3]) (rest := []) rfl rfl rfl rfl trivial (by decide) (v_word h39 (Int.le_refl _) eg29 (fun w40 h40 => ⟨rfl, ?_⟩))
                              show WP 8 113 358 [vR x, vI (pl + 1), vI (le + (f (97 + 14 * w9))), vI (pr + (pv f w9)), vI 1, vI w9, vI (pv f w9), vI (f (97 + 14 * w9)), vI at9, vI k, a10_95, a11_95, a12_95] [vI g29] w40 Q
                              refine WP.blk 1 ?_
                              show WP 8 113 (if cnd .eq g29 0 = true then 390 else 361) [vR x, vI (pl + 1), vI (le + (f (97 + 14 * w9))), vI (pr + (pv f w9)), vI 1, vI w9, vI (pv f w9), vI (f (97 + 14 * w9)), vI at9, vI k, a10_95, a11_95, a12_95] [] w40 Q
                              refine br_eq (fun c41 => ?_) (fun c41 => ?_)
                              · refine WP.blk 5 ?_
                                show ir (w9 + 1) ∧ WP 8 113 12 [vR x, vI (pl + 1), vI (le + (f (97 + 14 * w9))), vI (pr + (pv f w9)), vI 1, vI (w9 + 1), vI (pv f w9), vI (f (97 + 14 * w9)), vI at9, vI k, a10_95, a11_95, a12_95] [] w40 Q
                                refine ⟨(by unfold ir; omega), ?_⟩
                                exact ih_12 (w9 + 1) (pl + 1) (le + (f (97 + 14 * w9))) (pr + (pv f w9)) (vI (pv f w9)) (vI (f (97 + 14 * w9))) (vI at9) (vI k) (a10_95) (a11_95) (a12_95) w40 (by omega) (by rw [num_t q0.1 (pv_t hA hk nn).1, q1]) (by rw [sm_s q0.1, (lt1_t nn).1, q2]) (by rw [sm_s q0.1, (lt1_t nn).2, q3]) (by omega) (by omega) (ls_le h40 (by omega)) (by omega)
                              · exfalso; omega
                    · exfalso; omega
                  · obtain ⟨⟨g1, g2, g3, g4⟩, ⟨g5, g6⟩, g7, g8⟩ := hq k r0.1 c22
                    obtain ⟨-, s2, s3, s4, -⟩ := hA.2 (c k / 2) (by omega) g2
                    refine WP.blk 5 ?_
                    show WP 8 113 112 [vR x, vI (pl + 1), vI (le + (f (97 + 14 * w9))), vI (pr + (pv f w9)), vI 1, vI w9, vI (pv f w9), vI (f (97 + 14 * w9)), vI at9, vI k, a10_95, a11_95, a12_95] [vI k, vI w9, vR x] w_95 Q
                    refine WP.cl (a := [vR x, vI w9, vI k]) (rest := []) rfl rfl rfl rfl trivial (by decide) (v_press h_95 (Int.le_refl _) (fun w42 c9 n9 h42 hj9 b9 hi9 => ⟨rfl, ?_⟩) (fun _ _ hn => (hn.elim (fun z => z (by omega)) (fun z => z c _ hc (by omega))).elim))
                    show WP 8 113 115 [vR x, vI (pl + 1), vI (le + (f (97 + 14 * w9))), vI (pr + (pv f w9)), vI 1, vI w9, vI (pv f w9), vI (f (97 + 14 * w9)), vI at9, vI k, a10_95, a11_95, a12_95] [vI (c9 k)] w42 Q
                    rw [← (bestp_u hA hk hc b9).2 k (by omega) (by omega)]
                    refine WP.blk 6 ?_
                    show (0 ≤ (c k) ∧ 0 < 2) ∧ WP 8 113 123 [vR x, vI (pl + 1), vI (le + (f (97 + 14 * w9))), vI (pr + (pv f w9)), vI 1, vI w9, vI (pv f w9), vI (f (97 + 14 * w9)), vI at9, vI k, vI (c k), a11_95, a12_95] [vI 0, vI ((c k) / 2), vR x] w42 Q
                    refine ⟨(by omega), ?_⟩
                    refine WP.cl (a := [vR x, vI ((c k) / 2), vI 0]) (rest := []) rfl rfl rfl rfl trivial (by decide) (v_stamp h42 (Int.le_refl _) (sV_0 (by omega)) (fun w43 h43 => ⟨rfl, ?_⟩))
                    show WP 8 113 126 [vR x, vI (pl + 1), vI (le + (f (97 + 14 * w9))), vI (pr + (pv f w9)), vI 1, vI w9, vI (pv f w9), vI (f (97 + 14 * w9)), vI at9, vI k, vI (c k), a11_95, a12_95] [vI (f (7 + 9 * ((c k) / 2)))] w43 Q
                    refine WP.blk 3 ?_
                    show WP 8 113 (if cnd .lt (c k) 0 = true then 169 else 133) [vR x, vI (pl + 1), vI (le + (f (97 + 14 * w9))), vI (pr + (pv f w9)), vI 1, vI w9, vI (pv f w9), vI (f (97 + 14 * w9)), vI at9, vI k, vI (c k), vI (f (7 + 9 * ((c k) / 2))), a12_95] [] w43 Q
                    refine br_lt (fun c44 => ?_) (fun c44 => ?_)
                    · exfalso; omega
                    · refine WP.blk 5 ?_
                      show (0 ≤ (c k) ∧ 0 < 2) ∧ WP 8 113 139 [vR x, vI (pl + 1), vI (le + (f (97 + 14 * w9))), vI (pr + (pv f w9)), vI 1, vI w9, vI (pv f w9), vI (f (97 + 14 * w9)), vI at9, vI k, vI (c k), vI (f (7 + 9 * ((c k) / 2))), a12_95] [vI 5, vI ((c k) / 2), vR x] w43 Q
                      refine ⟨(by omega), ?_⟩
                      refine WP.cl (a := [vR x, vI ((c k) / 2), vI 5]) (rest := []) rfl rfl rfl rfl trivial (by decide) (v_stamp h43 (Int.le_refl _) (sV_5f (by omega) g3) (fun w45 h45 => ⟨rfl, ?_⟩))
                      show WP 8 113 142 [vR x, vI (pl + 1), vI (le + (f (97 + 14 * w9))), vI (pr + (pv f w9)), vI 1, vI w9, vI (pv f w9), vI (f (97 + 14 * w9)), vI at9, vI k, vI (c k), vI (f (7 + 9 * ((c k) / 2))), a12_95] [vI 0] w45 Q
                      refine WP.blk 5 ?_
                      show (0 ≤ (c k) ∧ 0 < 2) ∧ WP 8 113 (if cnd .eq ((c k) % 2) 0 = true then 165 else 152) [vR x, vI (pl + 1), vI (le + (f (97 + 14 * w9))), vI (pr + (pv f w9)), vI 1, vI w9, vI (pv f w9), vI (f (97 + 14 * w9)), vI at9, vI k, vI (c k), vI (f (7 + 9 * ((c k) / 2))), a12_95] [] w45 Q
                      refine ⟨(by omega), ?_⟩
                      refine br_eq (fun c46 => ?_) (fun c46 => ?_)
                      · have ep : c k % 2 = 0 := c46
                        rw [ep] at g6
                        refine WP.blk 5 ?_
                        show WP 8 113 175 [vR x, vI (pl + 1), vI (le + (f (97 + 14 * w9))), vI (pr + (pv f w9)), vI 1, vI w9, vI (pv f w9), vI (f (97 + 14 * w9)), vI at9, vI k, vI (c k), vI (f (7 + 9 * ((c k) / 2))), vI 0] [] w45 Q
                        have hl_175 : ∀ (n_175 : Nat) (j : Int) (w_175 : Wd), 0 ≤ j ∧ j ≤ f (7 + 9 * (c k / 2)) → LwS (N + 200 * w9 + 4 + 15 * k + 5 + 2 * j) (B) x L w_175 f fs sv → (f (7 + 9 * (c k / 2)) - j).toNat < n_175 → WP 8 113 175 [vR x, vI (pl + 1), vI (le + (f (97 + 14 * w9))), vI (pr + (pv f w9)), vI 1, vI w9, vI (pv f w9), vI (f (97 + 14 * w9)), vI at9, vI k, vI (c k), vI (f (7 + 9 * ((c k) / 2))), vI j] [] w_175 Q := by
                          intro n_175
                          induction n_175 with
                          | zero => intro j w_175 j0 h_175 hm_175; exact absurd hm_175 (Nat.not_lt_zero _)
                          | succ n_175 ih_175 =>
                            intro j w_175 j0 h_175 hm_175
                            refine WP.blk 3 ?_
                            show WP 8 113 (if cnd .ge j (f (7 + 9 * ((c k) / 2))) = true then 237 else 182) [vR x, vI (pl + 1), vI (le + (f (97 + 14 * w9))), vI (pr + (pv f w9)), vI 1, vI w9, vI (pv f w9), vI (f (97 + 14 * w9)), vI at9, vI k, vI (c k), vI (f (7 + 9 * ((c k) / 2))), vI j] [] w_175 Q
                            refine br_ge (fun c47 => ?_) (fun c47 => ?_)
                            · refine WP.blk 6 ?_
                              show ir (at9 + (f (7 + 9 * ((c k) / 2)))) ∧ ir (k + 1) ∧ WP 8 113 95 [vR x, vI (pl + 1), vI (le + (f (97 + 14 * w9))), vI (pr + (pv f w9)), vI 1, vI w9, vI (pv f w9), vI (f (97 + 14 * w9)), vI (at9 + (f (7 + 9 * ((c k) / 2)))), vI (k + 1), vI (c k), vI (f (7 + 9 * ((c k) / 2))), vI j] [] w_175 Q
                              refine ⟨(by unfold ir; omega), (by unfold ir; omega), ?_⟩
                              exact ih_95 (k + 1) (at9 + (f (7 + 9 * ((c k) / 2)))) (vI (c k)) (vI (f (7 + 9 * ((c k) / 2)))) (vI j) w_175 (by omega) (by rw [g7, r1]) (ls_le h_175 (by omega)) (by omega)
                            · refine WP.blk 12 ?_
                              show (0 ≤ (c k) ∧ 0 < 2) ∧ (0 ≤ (c k) ∧ 0 < 2) ∧ WP 8 113 (if cnd .ne ((c k) % 2) 1 = true then 206 else 202) [vR x, vI (pl + 1), vI (le + (f (97 + 14 * w9))), vI (pr + (pv f w9)), vI 1, vI w9, vI (pv f w9), vI (f (97 + 14 * w9)), vI at9, vI k, vI (c k), vI (f (7 + 9 * ((c k) / 2))), vI j] [vI j, vI ((c k) / 2), vR x] w_175 Q
                              refine ⟨(by omega), (by omega), ?_⟩
                              refine br_ne (fun c48 => ?_) (fun c48 => ?_)
                              · refine WP.blk 1 ?_
                                show WP 8 113 207 [vR x, vI (pl + 1), vI (le + (f (97 + 14 * w9))), vI (pr + (pv f w9)), vI 1, vI w9, vI (pv f w9), vI (f (97 + 14 * w9)), vI at9, vI k, vI (c k), vI (f (7 + 9 * ((c k) / 2))), vI j] [vI 0, vI j, vI ((c k) / 2), vR x] w_175 Q
                                refine WP.cl (a := [vR x, vI ((c k) / 2), vI j, vI 0]) (rest := []) rfl rfl rfl rfl trivial (by decide) (v_print h_175 (Int.le_refl _) ((pV_in (by omega) (fun _ => absurd rfl (by assumption))).trans (g6 j (by omega) (by omega))) (fun w49 h49 => ⟨rfl, ?_⟩))
                                show WP 8 113 210 [vR x, vI (pl + 1), vI (le + (f (97 + 14 * w9))), vI (pr + (pv f w9)), vI 1, vI w9, vI (pv f w9), vI (f (97 + 14 * w9)), vI at9, vI k, vI (c k), vI (f (7 + 9 * ((c k) / 2))), vI j] [vI (f (97 + 14 * w9 + 2 + q k + j))] w49 Q
                                refine WP.blk 5 ?_
                                show ir (at9 + j) ∧ WP 8 113 218 [vR x, vI (pl + 1), vI (le + (f (97 + 14 * w9))), vI (pr + (pv f w9)), vI 1, vI w9, vI (pv f w9), vI (f (97 + 14 * w9)), vI at9, vI k, vI (c k), vI (f (7 + 9 * ((c k) / 2))), vI j] [vI (at9 + j), vI w9, vR x, vI (f (97 + 14 * w9 + 2 + q k + j))] w49 Q
                                refine ⟨(by unfold ir; omega), ?_⟩
                                refine WP.cl (a := [vR x, vI w9, vI (at9 + j)]) (rest := [vI (f (97 + 14 * w9 + 2 + q k + j))]) rfl rfl rfl rfl trivial (by decide) (v_letter h49 (Int.le_refl _) ((lV_in (by omega)).trans (congrArg f (show 97 + 14 * w9 + 2 + (at9 + j) = 97 + 14 * w9 + 2 + q k + j by omega))) (fun w50 h50 => ⟨rfl, ?_⟩))
                                show WP 8 113 221 [vR x, vI (pl + 1), vI (le + (f (97 + 14 * w9))), vI (pr + (pv f w9)), vI 1, vI w9, vI (pv f w9), vI (f (97 + 14 * w9)), vI at9, vI k, vI (c k), vI (f (7 + 9 * ((c k) / 2))), vI j] [vI (f (97 + 14 * w9 + 2 + q k + j)), vI (f (97 + 14 * w9 + 2 + q k + j))] w50 Q
                                refine WP.blk 1 ?_
                                show WP 8 113 (if cnd .ne (f (97 + 14 * w9 + 2 + q k + j)) (f (97 + 14 * w9 + 2 + q k + j)) = true then 228 else 224) [vR x, vI (pl + 1), vI (le + (f (97 + 14 * w9))), vI (pr + (pv f w9)), vI 1, vI w9, vI (pv f w9), vI (f (97 + 14 * w9)), vI at9, vI k, vI (c k), vI (f (7 + 9 * ((c k) / 2))), vI j] [] w50 Q
                                refine br_ne (fun c51 => ?_) (fun c51 => ?_)
                                · exact absurd rfl c51
                                · refine WP.blk 5 ?_
                                  show ir (j + 1) ∧ WP 8 113 175 [vR x, vI (pl + 1), vI (le + (f (97 + 14 * w9))), vI (pr + (pv f w9)), vI 1, vI w9, vI (pv f w9), vI (f (97 + 14 * w9)), vI at9, vI k, vI (c k), vI (f (7 + 9 * ((c k) / 2))), vI (j + 1)] [] w50 Q
                                  refine ⟨(by unfold ir; omega), ?_⟩
                                  exact ih_175 (j + 1) w50 (by omega) (ls_le h50 (by omega)) (by omega)
                              · exfalso; omega
                        exact hl_175 _ 0 w45 (by omega) (ls_le h45 (by omega)) (Nat.lt_succ_self _)
                      · have ep : c k % 2 = 1 := by omega
                        rw [ep] at g6
                        refine WP.blk 5 ?_
                        show (0 ≤ (c k) ∧ 0 < 2) ∧ WP 8 113 158 [vR x, vI (pl + 1), vI (le + (f (97 + 14 * w9))), vI (pr + (pv f w9)), vI 1, vI w9, vI (pv f w9), vI (f (97 + 14 * w9)), vI at9, vI k, vI (c k), vI (f (7 + 9 * ((c k) / 2))), a12_95] [vI 4, vI ((c k) / 2), vR x] w45 Q
                        refine ⟨(by omega), ?_⟩
                        refine WP.cl (a := [vR x, vI ((c k) / 2), vI 4]) (rest := []) rfl rfl rfl rfl trivial (by decide) (v_stamp h45 (Int.le_refl _) (sV_4t (by omega) (g4 (by omega))) (fun w52 h52 => ⟨rfl, ?_⟩))
                        show WP 8 113 161 [vR x, vI (pl + 1), vI (le + (f (97 + 14 * w9))), vI (pr + (pv f w9)), vI 1, vI w9, vI (pv f w9), vI (f (97 + 14 * w9)), vI at9, vI k, vI (c k), vI (f (7 + 9 * ((c k) / 2))), a12_95] [vI 1] w52 Q
                        refine WP.blk 7 ?_
                        show WP 8 113 175 [vR x, vI (pl + 1), vI (le + (f (97 + 14 * w9))), vI (pr + (pv f w9)), vI 1, vI w9, vI (pv f w9), vI (f (97 + 14 * w9)), vI at9, vI k, vI (c k), vI (f (7 + 9 * ((c k) / 2))), vI 0] [] w52 Q
                        have hl_175 : ∀ (n_175 : Nat) (j : Int) (w_175 : Wd), 0 ≤ j ∧ j ≤ f (7 + 9 * (c k / 2)) → LwS (N + 200 * w9 + 4 + 15 * k + 5 + 2 * j) (B) x L w_175 f fs sv → (f (7 + 9 * (c k / 2)) - j).toNat < n_175 → WP 8 113 175 [vR x, vI (pl + 1), vI (le + (f (97 + 14 * w9))), vI (pr + (pv f w9)), vI 1, vI w9, vI (pv f w9), vI (f (97 + 14 * w9)), vI at9, vI k, vI (c k), vI (f (7 + 9 * ((c k) / 2))), vI j] [] w_175 Q := by
                          intro n_175
                          induction n_175 with
                          | zero => intro j w_175 j0 h_175 hm_175; exact absurd hm_175 (Nat.not_lt_zero _)
                          | succ n_175 ih_175 =>
                            intro j w_175 j0 h_175 hm_175
                            refine WP.blk 3 ?_
                            show WP 8 113 (if cnd .ge j (f (7 + 9 * ((c k) / 2))) = true then 237 else 182) [vR x, vI (pl + 1), vI (le + (f (97 + 14 * w9))), vI (pr + (pv f w9)), vI 1, vI w9, vI (pv f w9), vI (f (97 + 14 * w9)), vI at9, vI k, vI (c k), vI (f (7 + 9 * ((c k) / 2))), vI j] [] w_175 Q
                            refine br_ge (fun c53 => ?_) (fun c53 => ?_)
                            · refine WP.blk 6 ?_
                              show ir (at9 + (f (7 + 9 * ((c k) / 2)))) ∧ ir (k + 1) ∧ WP 8 113 95 [vR x, vI (pl + 1), vI (le + (f (97 + 14 * w9))), vI (pr + (pv f w9)), vI 1, vI w9, vI (pv f w9), vI (f (97 + 14 * w9)), vI (at9 + (f (7 + 9 * ((c k) / 2)))), vI (k + 1), vI (c k), vI (f (7 + 9 * ((c k) / 2))), vI j] [] w_175 Q
                              refine ⟨(by unfold ir; omega), (by unfold ir; omega), ?_⟩
                              exact ih_95 (k + 1) (at9 + (f (7 + 9 * ((c k) / 2)))) (vI (c k)) (vI (f (7 + 9 * ((c k) / 2)))) (vI j) w_175 (by omega) (by rw [g7, r1]) (ls_le h_175 (by omega)) (by omega)
                            · refine WP.blk 12 ?_
                              show (0 ≤ (c k) ∧ 0 < 2) ∧ (0 ≤ (c k) ∧ 0 < 2) ∧ WP 8 113 (if cnd .ne ((c k) % 2) 1 = true then 206 else 202) [vR x, vI (pl + 1), vI (le + (f (97 + 14 * w9))), vI (pr + (pv f w9)), vI 1, vI w9, vI (pv f w9), vI (f (97 + 14 * w9)), vI at9, vI k, vI (c k), vI (f (7 + 9 * ((c k) / 2))), vI j] [vI j, vI ((c k) / 2), vR x] w_175 Q
                              refine ⟨(by omega), (by omega), ?_⟩
                              refine br_ne (fun c54 => ?_) (fun c54 => ?_)
                              · exfalso; omega
                              · refine WP.blk 2 ?_
                                show WP 8 113 207 [vR x, vI (pl + 1), vI (le + (f (97 + 14 * w9))), vI (pr + (pv f w9)), vI 1, vI w9, vI (pv f w9), vI (f (97 + 14 * w9)), vI at9, vI k, vI (c k), vI (f (7 + 9 * ((c k) / 2))), vI j] [vI 1, vI j, vI ((c k) / 2), vR x] w_175 Q
                                refine WP.cl (a := [vR x, vI ((c k) / 2), vI j, vI 1]) (rest := []) rfl rfl rfl rfl trivial (by decide) (v_print h_175 (Int.le_refl _) ((pV_in (by omega) (fun _ => g4 (by omega))).trans (g6 j (by omega) (by omega))) (fun w55 h55 => ⟨rfl, ?_⟩))
                                show WP 8 113 210 [vR x, vI (pl + 1), vI (le + (f (97 + 14 * w9))), vI (pr + (pv f w9)), vI 1, vI w9, vI (pv f w9), vI (f (97 + 14 * w9)), vI at9, vI k, vI (c k), vI (f (7 + 9 * ((c k) / 2))), vI j] [vI (f (97 + 14 * w9 + 2 + q k + j))] w55 Q
                                refine WP.blk 5 ?_
                                show ir (at9 + j) ∧ WP 8 113 218 [vR x, vI (pl + 1), vI (le + (f (97 + 14 * w9))), vI (pr + (pv f w9)), vI 1, vI w9, vI (pv f w9), vI (f (97 + 14 * w9)), vI at9, vI k, vI (c k), vI (f (7 + 9 * ((c k) / 2))), vI j] [vI (at9 + j), vI w9, vR x, vI (f (97 + 14 * w9 + 2 + q k + j))] w55 Q
                                refine ⟨(by unfold ir; omega), ?_⟩
                                refine WP.cl (a := [vR x, vI w9, vI (at9 + j)]) (rest := [vI (f (97 + 14 * w9 + 2 + q k + j))]) rfl rfl rfl rfl trivial (by decide) (v_letter h55 (Int.le_refl _) ((lV_in (by omega)).trans (congrArg f (show 97 + 14 * w9 + 2 + (at9 + j) = 97 + 14 * w9 + 2 + q k + j by omega))) (fun w56 h56 => ⟨rfl, ?_⟩))
                                show WP 8 113 221 [vR x, vI (pl + 1), vI (le + (f (97 + 14 * w9))), vI (pr + (pv f w9)), vI 1, vI w9, vI (pv f w9), vI (f (97 + 14 * w9)), vI at9, vI k, vI (c k), vI (f (7 + 9 * ((c k) / 2))), vI j] [vI (f (97 + 14 * w9 + 2 + q k + j)), vI (f (97 + 14 * w9 + 2 + q k + j))] w56 Q
                                refine WP.blk 1 ?_
                                show WP 8 113 (if cnd .ne (f (97 + 14 * w9 + 2 + q k + j)) (f (97 + 14 * w9 + 2 + q k + j)) = true then 228 else 224) [vR x, vI (pl + 1), vI (le + (f (97 + 14 * w9))), vI (pr + (pv f w9)), vI 1, vI w9, vI (pv f w9), vI (f (97 + 14 * w9)), vI at9, vI k, vI (c k), vI (f (7 + 9 * ((c k) / 2))), vI j] [] w56 Q
                                refine br_ne (fun c57 => ?_) (fun c57 => ?_)
                                · exact absurd rfl c57
                                · refine WP.blk 5 ?_
                                  show ir (j + 1) ∧ WP 8 113 175 [vR x, vI (pl + 1), vI (le + (f (97 + 14 * w9))), vI (pr + (pv f w9)), vI 1, vI w9, vI (pv f w9), vI (f (97 + 14 * w9)), vI at9, vI k, vI (c k), vI (f (7 + 9 * ((c k) / 2))), vI (j + 1)] [] w56 Q
                                  refine ⟨(by unfold ir; omega), ?_⟩
                                  exact ih_175 (j + 1) w56 (by omega) (ls_le h56 (by omega)) (by omega)
                        exact hl_175 _ 0 w52 (by omega) (ls_le h52 (by omega)) (Nat.lt_succ_self _)
              exact hl_95 _ 0 0 (a10_12) (a11_12) (a12_12) w18 (by omega) (by rw [hq0]) (ls_le h18 (by omega)) (Nat.lt_succ_self _)
            · exfalso; omega
          · exfalso; omega
        · have nn : pv f w9 = -1 := c19
          have hnc : ¬ Can f w9 := fun ⟨z, hz⟩ => (pv_f hA hk nn).2 _ _ (wrt_best hz)
          refine WP.blk 8 ?_
          show ir (pl + 0) ∧ WP 8 113 (if cnd .ne (pv f w9) (-1) = true then 70 else 66) [vR x, vI (pl + 0), vI le, vI pr, vI 1, vI w9, vI (pv f w9), vI (f (97 + 14 * w9)), a8_12, a9_12, a10_12, a11_12, a12_12] [vI le] w18 Q
          refine ⟨(by unfold ir; omega), ?_⟩
          refine br_ne (fun c58 => ?_) (fun c58 => ?_)
          · exfalso; omega
          · refine WP.blk 8 ?_
            show ir (le + 0) ∧ WP 8 113 (if cnd .ne (pv f w9) (-1) = true then 85 else 81) [vR x, vI (pl + 0), vI (le + 0), vI pr, vI 1, vI w9, vI (pv f w9), vI (f (97 + 14 * w9)), a8_12, a9_12, a10_12, a11_12, a12_12] [vI pr] w18 Q
            refine ⟨(by unfold ir; omega), ?_⟩
            refine br_ne (fun c59 => ?_) (fun c59 => ?_)
            · exfalso; omega
            · refine WP.blk 11 ?_
              show ir (pr + 0) ∧ WP 8 113 (if cnd .ge 0 (pv f w9) = true then 250 else 102) [vR x, vI (pl + 0), vI (le + 0), vI (pr + 0), vI 1, vI w9, vI (pv f w9), vI (f (97 + 14 * w9)), vI 0, vI 0, a10_12, a11_12, a12_12] [] w18 Q
              refine ⟨(by unfold ir; omega), ?_⟩
              refine br_ge (fun c60 => ?_) (fun c60 => ?_)
              · refine WP.blk 5 ?_
                show WP 8 113 (if cnd .ne (pv f w9) (-1) = true then 286 else 261) [vR x, vI (pl + 0), vI (le + 0), vI (pr + 0), vI 1, vI w9, vI (pv f w9), vI (f (97 + 14 * w9)), vI 0, vI 0, a10_12, a11_12, a12_12] [] w18 Q
                refine br_ne (fun c61 => ?_) (fun c61 => ?_)
                · exfalso; omega
                · refine WP.blk 3 ?_
                  show WP 8 113 265 [vR x, vI (pl + 0), vI (le + 0), vI (pr + 0), vI 1, vI w9, vI (pv f w9), vI (f (97 + 14 * w9)), vI 0, vI 0, a10_12, a11_12, a12_12] [vI 0, vI w9, vR x] w18 Q
                  refine WP.cl (a := [vR x, vI w9, vI 0]) (rest := []) rfl rfl rfl rfl trivial (by decide) (v_press h18 (Int.le_refl _) (fun _ c9 n9 _ hj9 b9 hi9 => absurd b9 ((pv_f hA hk nn).2 _ _)) (fun w62 h62 _ => ⟨rfl, ?_⟩))
                  show WP 8 113 268 [vR x, vI (pl + 0), vI (le + 0), vI (pr + 0), vI 1, vI w9, vI (pv f w9), vI (f (97 + 14 * w9)), vI 0, vI 0, a10_12, a11_12, a12_12] [vI (-5000003)] w62 Q
                  refine WP.blk 5 ?_
                  show WP 8 113 277 [vR x, vI (pl + 0), vI (le + 0), vI (pr + 0), vI 1, vI w9, vI (pv f w9), vI (f (97 + 14 * w9)), vI 0, vI 0, a10_12, a11_12, a12_12] [vI 3, vI w9, vR x] w62 Q
                  refine WP.cl (a := [vR x, vI w9, vI 3]) (rest := []) rfl rfl rfl rfl trivial (by decide) (v_word h62 (Int.le_refl _) (wV_3f hA hW (by omega) hnc) (fun w63 h63 => ⟨rfl, ?_⟩))
                  show WP 8 113 280 [vR x, vI (pl + 0), vI (le + 0), vI (pr + 0), vI 1, vI w9, vI (pv f w9), vI (f (97 + 14 * w9)), vI 0, vI 0, a10_12, a11_12, a12_12] [vI 0] w63 Q
                  refine WP.blk 5 ?_
                  show WP 8 113 322 [vR x, vI (pl + 0), vI (le + 0), vI (pr + 0), vI 1, vI w9, vI (pv f w9), vI (f (97 + 14 * w9)), vI 0, vI 0, a10_12, a11_12, a12_12] [vI 3, vI w9, vR x] w63 Q
                  refine WP.cl (a := [vR x, vI w9, vI 3]) (rest := []) rfl rfl rfl rfl trivial (by decide) (v_word h63 (Int.le_refl _) (wV_3f hA hW (by omega) hnc) (fun w64 h64 => ⟨rfl, ?_⟩))
                  show WP 8 113 325 [vR x, vI (pl + 0), vI (le + 0), vI (pr + 0), vI 1, vI w9, vI (pv f w9), vI (f (97 + 14 * w9)), vI 0, vI 0, a10_12, a11_12, a12_12] [vI 0] w64 Q
                  refine WP.blk 5 ?_
                  show WP 8 113 333 [vR x, vI (pl + 0), vI (le + 0), vI (pr + 0), vI 1, vI w9, vI (pv f w9), vI (f (97 + 14 * w9)), vI 0, vI 0, a10_12, a11_12, a12_12] [vI 4, vI w9, vR x] w64 Q
                  refine WP.cl (a := [vR x, vI w9, vI 4]) (rest := []) rfl rfl rfl rfl trivial (by decide) (v_word h64 (Int.le_refl _) (wV_45f hA hW (by omega) hnc).1 (fun w65 h65 => ⟨rfl, ?_⟩))
                  show WP 8 113 336 [vR x, vI (pl + 0), vI (le + 0), vI (pr + 0), vI 1, vI w9, vI (pv f w9), vI (f (97 + 14 * w9)), vI 0, vI 0, a10_12, a11_12, a12_12] [vI (-1)] w65 Q
                  refine WP.blk 5 ?_
                  show WP 8 113 344 [vR x, vI (pl + 0), vI (le + 0), vI (pr + 0), vI 1, vI w9, vI (pv f w9), vI (f (97 + 14 * w9)), vI 0, vI 0, a10_12, a11_12, a12_12] [vI 5, vI w9, vR x] w65 Q
                  refine WP.cl (a := [vR x, vI w9, vI 5]) (rest := []) rfl rfl rfl rfl trivial (by decide) (v_word h65 (Int.le_refl _) (wV_45f hA hW (by omega) hnc).2 (fun w66 h66 => ⟨rfl, ?_⟩))
                  show WP 8 113 347 [vR x, vI (pl + 0), vI (le + 0), vI (pr + 0), vI 1, vI w9, vI (pv f w9), vI (f (97 + 14 * w9)), vI 0, vI 0, a10_12, a11_12, a12_12] [vI (-1)] w66 Q
                  refine WP.blk 5 ?_
                  show WP 8 113 355 [vR x, vI (pl + 0), vI (le + 0), vI (pr + 0), vI 1, vI w9, vI (pv f w9), vI (f (97 + 14 * w9)), vI 0, vI 0, a10_12, a11_12, a12_12] [vI 3, vI w9, vR x] w66 Q
                  refine WP.cl (a := [vR x, vI w9, vI 3]) (rest := []) rfl rfl rfl rfl trivial (by decide) (v_word h66 (Int.le_refl _) (wV_3f hA hW (by omega) hnc) (fun w67 h67 => ⟨rfl, ?_⟩))
                  show WP 8 113 358 [vR x, vI (pl + 0), vI (le + 0), vI (pr + 0), vI 1, vI w9, vI (pv f w9), vI (f (97 + 14 * w9)), vI 0, vI 0, a10_12, a11_12, a12_12] [vI 0] w67 Q
                  refine WP.blk 6 ?_
                  show ir (w9 + 1) ∧ WP 8 113 12 [vR x, vI (pl + 0), vI (le + 0), vI (pr + 0), vI 1, vI (w9 + 1), vI (pv f w9), vI (f (97 + 14 * w9)), vI 0, vI 0, a10_12, a11_12, a12_12] [] w67 Q
                  refine ⟨(by unfold ir; omega), ?_⟩
                  exact ih_12 (w9 + 1) (pl + 0) (le + 0) (pr + 0) (vI (pv f w9)) (vI (f (97 + 14 * w9))) (vI 0) (vI 0) (a10_12) (a11_12) (a12_12) w67 (by omega) (by rw [num_f q0.1 (pv_f hA hk nn).1, q1, Int.add_zero]) (by rw [sm_s q0.1, (lt1_f nn).1, q2]) (by rw [sm_s q0.1, (lt1_f nn).2, q3]) (by omega) (by omega) (ls_le h67 (by omega)) (by omega)
              · exfalso; omega
  exact hl_12 _ 0 0 0 0 none none none none none none none w (by omega) rfl rfl rfl (by omega) (by omega) (ls_le h (by omega)) (Nat.lt_succ_self _)
