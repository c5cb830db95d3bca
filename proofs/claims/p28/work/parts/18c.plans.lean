/-! the law: prints and plans -/
set_option maxHeartbeats 4000000 in
theorem z_prints {N B : Int} {x L : Nat} {w : Wd} {f : Int → Int} {fs : List (Int → Int)} {sv : Int} {Q : Res → Wd → Prop} (h : LwS N B x L w f fs sv) (k : ∀ w', LwS (N + 420) B x L w' f fs sv → Q (0, vI 1) w') : EvQ 9 112 [vR x] w Q := by
  refine EvQ.enter (ls := [vR x, none, none, none, none, none, none]) (Nat.le_of_ble_eq_true rfl) rfl ?_
  have hR := (ls_row h).1
  have hA := hR.1
  have hW := hR.2.1
  have hI := hR.2.2
  have hA1 := hA.1
  have hW1 := hW.1
  have hI2 := hI.2
  have hNk := (ls_row h).2
  refine WP.blk 6 ?_
  show WP 8 112 6 [vR x, vI 0, vI 1, vI 0, none, none, none] [] w Q
  have hl_6 : ∀ (n_6 : Nat) (i : Int) (wn : Int) (a4_6 : V) (a5_6 : V) (a6_6 : V) (w_6 : Wd), 0 ≤ i ∧ i ≤ f 0 → wn = num (Worn f) i → LwS (N + 40 * i) (B) x L w_6 f fs sv → (f 0 - i).toNat < n_6 → WP 8 112 6 [vR x, vI wn, vI 1, vI i, a4_6, a5_6, a6_6] [] w_6 Q := by
    intro n_6
    induction n_6 with
    | zero => intro i wn a4_6 a5_6 a6_6 w_6 p0 p1_ h_6 hm_6; exact absurd hm_6 (Nat.not_lt_zero _)
    | succ n_6 ih_6 =>
      intro i wn a4_6 a5_6 a6_6 w_6 p0 p1_ h_6 hm_6
      have hnr := num_r (P := Worn f) p0.1
      refine WP.blk 3 ?_
      show WP 8 112 9 [vR x, vI wn, vI 1, vI i, a4_6, a5_6, a6_6] [vI 0, vR x, vI i] w_6 Q
      refine WP.cl (a := [vR x, vI 0]) (rest := [vI i]) rfl rfl rfl rfl trivial (by decide) (v_value h_6 (Int.le_refl _) (vV_lo (by omega)) (fun wd1 hh1 => ⟨rfl, ?_⟩))
      show WP 8 112 12 [vR x, vI wn, vI 1, vI i, a4_6, a5_6, a6_6] [vI (f 0), vI i] wd1 Q
      refine WP.blk 1 ?_
      show WP 8 112 (if cnd .ge i (f 0) = true then 230 else 15) [vR x, vI wn, vI 1, vI i, a4_6, a5_6, a6_6] [] wd1 Q
      refine br_ge (fun c2 => ?_) (fun c2 => ?_)
      · have e9 : i = f 0 := by omega
        rw [e9] at p1_
        refine WP.blk 5 ?_
        show WP 8 112 238 [vR x, vI wn, vI 1, vI i, a4_6, a5_6, a6_6] [vI 7, vR x, vI wn] wd1 Q
        refine WP.cl (a := [vR x, vI 7]) (rest := [vI wn]) rfl rfl rfl rfl trivial (by decide) (v_value hh1 (Int.le_refl _) vV_7 (fun wd3 hh3 => ⟨rfl, ?_⟩))
        show WP 8 112 241 [vR x, vI wn, vI 1, vI i, a4_6, a5_6, a6_6] [vI (num (Worn f) (f 0)), vI wn] wd3 Q
        refine WP.blk 1 ?_
        show WP 8 112 (if cnd .ne wn (num (Worn f) (f 0)) = true then 248 else 244) [vR x, vI wn, vI 1, vI i, a4_6, a5_6, a6_6] [] wd3 Q
        refine br_ne (fun c4 => ?_) (fun c4 => ?_)
        · exfalso; omega
        · refine WP.blk 2 ?_
          show WP 8 112 249 [vR x, vI wn, vI 1, vI i, a4_6, a5_6, a6_6] [vI 1] wd3 Q
          exact WP.ret rfl rfl rfl ⟨by omega, trivial⟩ (k _ (ls_le hh3 (by omega)))
      · obtain ⟨-, s2, s3, s4, -⟩ := hA.2 i p0.1 c2
        obtain ⟨⟨k1, k2⟩, ⟨k3, k4⟩, k5, k6⟩ := hI.1 i p0.1 c2
        refine WP.blk 5 ?_
        show WP 8 112 22 [vR x, vI wn, vI 1, vI i, a4_6, a5_6, a6_6] [vI 0, vI i, vR x] wd1 Q
        refine WP.cl (a := [vR x, vI i, vI 0]) (rest := []) rfl rfl rfl rfl trivial (by decide) (v_stamp hh1 (Int.le_refl _) (sV_0 (by omega)) (fun wd5 hh5 => ⟨rfl, ?_⟩))
        show WP 8 112 25 [vR x, vI wn, vI 1, vI i, a4_6, a5_6, a6_6] [vI (f (7 + 9 * i))] wd5 Q
        refine WP.blk 3 ?_
        show WP 8 112 (if cnd .le (f (7 + 9 * i)) 0 = true then 140 else 32) [vR x, vI wn, vI 1, vI i, vI (f (7 + 9 * i)), a5_6, a6_6] [] wd5 Q
        refine br_le (fun c6 => ?_) (fun c6 => ?_)
        · exfalso; omega
        · refine WP.blk 3 ?_
          show WP 8 112 (if cnd .ge (f (7 + 9 * i)) 6 = true then 140 else 39) [vR x, vI wn, vI 1, vI i, vI (f (7 + 9 * i)), a5_6, a6_6] [] wd5 Q
          refine br_ge (fun c7 => ?_) (fun c7 => ?_)
          · exfalso; omega
          · refine WP.blk 3 ?_
            show WP 8 112 42 [vR x, vI wn, vI 1, vI i, vI (f (7 + 9 * i)), a5_6, a6_6] [vI 1, vI i, vR x] wd5 Q
            refine WP.cl (a := [vR x, vI i, vI 1]) (rest := []) rfl rfl rfl rfl trivial (by decide) (v_stamp hh5 (Int.le_refl _) (sV_1 (by omega)) (fun wd8 hh8 => ⟨rfl, ?_⟩))
            show WP 8 112 45 [vR x, vI wn, vI 1, vI i, vI (f (7 + 9 * i)), a5_6, a6_6] [vI (f (7 + 9 * i + 6))] wd8 Q
            refine WP.blk 2 ?_
            show WP 8 112 (if cnd .lt (f (7 + 9 * i + 6)) (-1) = true then 140 else 49) [vR x, vI wn, vI 1, vI i, vI (f (7 + 9 * i)), a5_6, a6_6] [] wd8 Q
            refine br_lt (fun c9 => ?_) (fun c9 => ?_)
            · exfalso; omega
            · refine WP.blk 3 ?_
              show WP 8 112 52 [vR x, vI wn, vI 1, vI i, vI (f (7 + 9 * i)), a5_6, a6_6] [vI 1, vI i, vR x] wd8 Q
              refine WP.cl (a := [vR x, vI i, vI 1]) (rest := []) rfl rfl rfl rfl trivial (by decide) (v_stamp hh8 (Int.le_refl _) (sV_1 (by omega)) (fun wd10 hh10 => ⟨rfl, ?_⟩))
              show WP 8 112 55 [vR x, vI wn, vI 1, vI i, vI (f (7 + 9 * i)), a5_6, a6_6] [vI (f (7 + 9 * i + 6))] wd10 Q
              refine WP.blk 2 ?_
              show WP 8 112 (if cnd .ge (f (7 + 9 * i + 6)) 4 = true then 140 else 59) [vR x, vI wn, vI 1, vI i, vI (f (7 + 9 * i)), a5_6, a6_6] [] wd10 Q
              refine br_ge (fun c11 => ?_) (fun c11 => ?_)
              · exfalso; omega
              · refine WP.blk 3 ?_
                show WP 8 112 62 [vR x, vI wn, vI 1, vI i, vI (f (7 + 9 * i)), a5_6, a6_6] [vI 2, vI i, vR x] wd10 Q
                refine WP.cl (a := [vR x, vI i, vI 2]) (rest := []) rfl rfl rfl rfl trivial (by decide) (v_stamp hh10 (Int.le_refl _) (sV_2 (by omega)) (fun wd12 hh12 => ⟨rfl, ?_⟩))
                show WP 8 112 65 [vR x, vI wn, vI 1, vI i, vI (f (7 + 9 * i)), a5_6, a6_6] [vI (f (7 + 9 * i + 7))] wd12 Q
                refine WP.blk 1 ?_
                show WP 8 112 (if cnd .lt (f (7 + 9 * i + 7)) 0 = true then 140 else 68) [vR x, vI wn, vI 1, vI i, vI (f (7 + 9 * i)), a5_6, a6_6] [] wd12 Q
                refine br_lt (fun c13 => ?_) (fun c13 => ?_)
                · exfalso; omega
                · refine WP.blk 3 ?_
                  show WP 8 112 71 [vR x, vI wn, vI 1, vI i, vI (f (7 + 9 * i)), a5_6, a6_6] [vI 3, vI i, vR x] wd12 Q
                  refine WP.cl (a := [vR x, vI i, vI 3]) (rest := []) rfl rfl rfl rfl trivial (by decide) (v_stamp hh12 (Int.le_refl _) (sV_3 (by omega)) (fun wd14 hh14 => ⟨rfl, ?_⟩))
                  show WP 8 112 74 [vR x, vI wn, vI 1, vI i, vI (f (7 + 9 * i)), a5_6, a6_6] [vI (f (7 + 9 * i + 8))] wd14 Q
                  refine WP.blk 1 ?_
                  show WP 8 112 (if cnd .lt (f (7 + 9 * i + 8)) 0 = true then 140 else 77) [vR x, vI wn, vI 1, vI i, vI (f (7 + 9 * i)), a5_6, a6_6] [] wd14 Q
                  refine br_lt (fun c15 => ?_) (fun c15 => ?_)
                  · exfalso; omega
                  · refine WP.blk 3 ?_
                    show WP 8 112 80 [vR x, vI wn, vI 1, vI i, vI (f (7 + 9 * i)), a5_6, a6_6] [vI 5, vI i, vR x] wd14 Q
                    obtain ⟨v17, ev17, ov17⟩ := sV_5x (f := f) (s := i) (by omega)
                    refine WP.cl (a := [vR x, vI i, vI 5]) (rest := []) rfl rfl rfl rfl trivial (by decide) (v_stamp hh14 (Int.le_refl _) ev17 (fun wd16 hh16 => ⟨rfl, ?_⟩))
                    show WP 8 112 83 [vR x, vI wn, vI 1, vI i, vI (f (7 + 9 * i)), a5_6, a6_6] [vI v17] wd16 Q
                    refine WP.blk 3 ?_
                    show WP 8 112 86 [vR x, vI wn, vI 1, vI i, vI (f (7 + 9 * i)), a5_6, a6_6] [vI 3, vI i, vR x, vI v17] wd16 Q
                    refine WP.cl (a := [vR x, vI i, vI 3]) (rest := [vI v17]) rfl rfl rfl rfl trivial (by decide) (v_stamp hh16 (Int.le_refl _) (sV_3 (by omega)) (fun wd18 hh18 => ⟨rfl, ?_⟩))
                    show WP 8 112 89 [vR x, vI wn, vI 1, vI i, vI (f (7 + 9 * i)), a5_6, a6_6] [vI (f (7 + 9 * i + 8)), vI v17] wd18 Q
                    refine WP.blk 2 ?_
                    show WP 8 112 91 [vR x, vI wn, vI 1, vI i, vI (f (7 + 9 * i)), a5_6, a6_6] [vI 2, vR x, vI (f (7 + 9 * i + 8)), vI v17] wd18 Q
                    refine WP.cl (a := [vR x, vI 2]) (rest := [vI (f (7 + 9 * i + 8)), vI v17]) rfl rfl rfl rfl trivial (by decide) (v_value hh18 (Int.le_refl _) (vV_lo (by omega)) (fun wd19 hh19 => ⟨rfl, ?_⟩))
                    show WP 8 112 94 [vR x, vI wn, vI 1, vI i, vI (f (7 + 9 * i)), a5_6, a6_6] [vI (f 2), vI (f (7 + 9 * i + 8)), vI v17] wd19 Q
                    refine WP.blk 1 ?_
                    show WP 8 112 (if cnd .lt (f (7 + 9 * i + 8)) (f 2) = true then 101 else 97) [vR x, vI wn, vI 1, vI i, vI (f (7 + 9 * i)), a5_6, a6_6] [vI v17] wd19 Q
                    refine br_lt (fun c20 => ?_) (fun c20 => ?_)
                    · refine WP.blk 2 ?_
                      show WP 8 112 (if cnd .ne v17 0 = true then 140 else 105) [vR x, vI wn, vI 1, vI i, vI (f (7 + 9 * i)), a5_6, a6_6] [] wd19 Q
                      refine br_ne (fun c21 => ?_) (fun c21 => ?_)
                      · exfalso; omega
                      · refine WP.blk 3 ?_
                        show WP 8 112 108 [vR x, vI wn, vI 1, vI i, vI (f (7 + 9 * i)), a5_6, a6_6] [vI 1, vI i, vR x] wd19 Q
                        refine WP.cl (a := [vR x, vI i, vI 1]) (rest := []) rfl rfl rfl rfl trivial (by decide) (v_stamp hh19 (Int.le_refl _) (sV_1 (by omega)) (fun wd22 hh22 => ⟨rfl, ?_⟩))
                        show WP 8 112 111 [vR x, vI wn, vI 1, vI i, vI (f (7 + 9 * i)), a5_6, a6_6] [vI (f (7 + 9 * i + 6))] wd22 Q
                        refine WP.blk 1 ?_
                        show WP 8 112 (if cnd .ge (f (7 + 9 * i + 6)) 0 = true then 123 else 114) [vR x, vI wn, vI 1, vI i, vI (f (7 + 9 * i)), a5_6, a6_6] [] wd22 Q
                        refine br_ge (fun c23 => ?_) (fun c23 => ?_)
                        · refine WP.blk 4 ?_
                          show WP 8 112 128 [vR x, vI wn, vI 1, vI i, vI (f (7 + 9 * i)), a5_6, a6_6] [vI 0, vI (f (7 + 9 * i)), vI i, vR x] wd22 Q
                          refine WP.cl (a := [vR x, vI i, vI (f (7 + 9 * i)), vI 0]) (rest := []) rfl rfl rfl rfl trivial (by decide) (v_print hh22 (Int.le_refl _) (pV_out (by omega)) (fun wd24 hh24 => ⟨rfl, ?_⟩))
                          show WP 8 112 131 [vR x, vI wn, vI 1, vI i, vI (f (7 + 9 * i)), a5_6, a6_6] [vI (-5000003)] wd24 Q
                          refine WP.blk 9 ?_
                          show WP 8 112 146 [vR x, vI wn, vI 1, vI i, vI (f (7 + 9 * i)), a5_6, a6_6] [vI 5, vI i, vR x, vI wn] wd24 Q
                          refine WP.cl (a := [vR x, vI i, vI 5]) (rest := [vI wn]) rfl rfl rfl rfl trivial (by decide) (v_stamp hh24 (Int.le_refl _) ev17 (fun wd25 hh25 => ⟨rfl, ?_⟩))
                          show WP 8 112 149 [vR x, vI wn, vI 1, vI i, vI (f (7 + 9 * i)), a5_6, a6_6] [vI v17, vI wn] wd25 Q
                          refine WP.blk 4 ?_
                          show ir (wn + v17) ∧ WP 8 112 154 [vR x, vI (wn + v17), vI 1, vI i, vI (f (7 + 9 * i)), vI 0, a6_6] [] wd25 Q
                          refine ⟨(by unfold ir; omega), ?_⟩
                          have hl_154 : ∀ (n_154 : Nat) (k : Int) (a6_154 : V) (w_154 : Wd), 0 ≤ k ∧ k ≤ f (7 + 9 * i) → LwS (N + 40 * i + 16 + 3 * k) (B) x L w_154 f fs sv → (f (7 + 9 * i) - k).toNat < n_154 → WP 8 112 154 [vR x, vI (wn + v17), vI 1, vI i, vI (f (7 + 9 * i)), vI k, a6_154] [] w_154 Q := by
                            intro n_154
                            induction n_154 with
                            | zero => intro k a6_154 w_154 k0 h_154 hm_154; exact absurd hm_154 (Nat.not_lt_zero _)
                            | succ n_154 ih_154 =>
                              intro k a6_154 w_154 k0 h_154 hm_154
                              refine WP.blk 3 ?_
                              show WP 8 112 (if cnd .ge k (f (7 + 9 * i)) = true then 224 else 161) [vR x, vI (wn + v17), vI 1, vI i, vI (f (7 + 9 * i)), vI k, a6_154] [] w_154 Q
                              refine br_ge (fun c26 => ?_) (fun c26 => ?_)
                              · refine WP.blk 2 ?_
                                show ir (i + 1) ∧ WP 8 112 6 [vR x, vI (wn + v17), vI 1, vI (i + 1), vI (f (7 + 9 * i)), vI k, a6_154] [] w_154 Q
                                refine ⟨(by unfold ir; omega), ?_⟩
                                exact ih_6 (i + 1) (wn + v17) (vI (f (7 + 9 * i))) (vI k) (a6_154) w_154 (by omega) (num_w p0.1 p1_ ov17) (ls_le h_154 (by omega)) (by omega)
                              · refine WP.blk 2 ?_
                                show WP 8 112 165 [vR x, vI (wn + v17), vI 1, vI i, vI (f (7 + 9 * i)), vI k, a6_154] [] w_154 Q
                                obtain ⟨bu27, tu27, xu27, yu27, zu27⟩ := pb_x (f := f) (s := i) (k := k) (by omega) (by omega)
                                refine WP.blk 8 ?_
                                show ir ((f (7 + 9 * i)) - 1) ∧ ir (((f (7 + 9 * i)) - 1) - k) ∧ WP 8 112 175 [vR x, vI (wn + v17), vI 1, vI i, vI (f (7 + 9 * i)), vI k, a6_154] [vI 1, vI (((f (7 + 9 * i)) - 1) - k), vI i, vR x] w_154 Q
                                refine ⟨(by unfold ir; omega), (by unfold ir; omega), ?_⟩
                                refine WP.cl (a := [vR x, vI i, vI (((f (7 + 9 * i)) - 1) - k), vI 1]) (rest := []) rfl rfl rfl rfl trivial (by decide) (v_print h_154 (Int.le_refl _) yu27 (fun wd28 hh28 => ⟨rfl, ?_⟩))
                                show WP 8 112 178 [vR x, vI (wn + v17), vI 1, vI i, vI (f (7 + 9 * i)), vI k, a6_154] [vI tu27] wd28 Q
                                refine WP.blk 4 ?_
                                show WP 8 112 183 [vR x, vI (wn + v17), vI 1, vI i, vI (f (7 + 9 * i)), vI k, vI tu27] [vI 4, vI i, vR x] wd28 Q
                                refine WP.cl (a := [vR x, vI i, vI 4]) (rest := []) rfl rfl rfl rfl trivial (by decide) (v_stamp hh28 (Int.le_refl _) xu27 (fun wd29 hh29 => ⟨rfl, ?_⟩))
                                show WP 8 112 186 [vR x, vI (wn + v17), vI 1, vI i, vI (f (7 + 9 * i)), vI k, vI tu27] [vI bu27] wd29 Q
                                refine WP.blk 2 ?_
                                show WP 8 112 (if cnd .ne bu27 1 = true then 206 else 190) [vR x, vI (wn + v17), vI 1, vI i, vI (f (7 + 9 * i)), vI k, vI tu27] [] wd29 Q
                                refine br_ne (fun c30 => ?_) (fun c30 => ?_)
                                · have e6 := pb_f zu27 c30
                                  refine WP.blk 3 ?_
                                  show WP 8 112 (if cnd .ne tu27 (-1) = true then 216 else 212) [vR x, vI (wn + v17), vI 1, vI i, vI (f (7 + 9 * i)), vI k, vI tu27] [] wd29 Q
                                  refine br_ne (fun c31 => ?_) (fun c31 => ?_)
                                  · exfalso; omega
                                  · refine WP.blk 5 ?_
                                    show ir (k + 1) ∧ WP 8 112 154 [vR x, vI (wn + v17), vI 1, vI i, vI (f (7 + 9 * i)), vI (k + 1), vI tu27] [] wd29 Q
                                    refine ⟨(by unfold ir; omega), ?_⟩
                                    exact ih_154 (k + 1) (vI tu27) wd29 (by omega) (ls_le hh29 (by omega)) (by omega)
                                · refine WP.blk 4 ?_
                                  show WP 8 112 195 [vR x, vI (wn + v17), vI 1, vI i, vI (f (7 + 9 * i)), vI k, vI tu27] [vI 0, vI k, vI i, vR x] wd29 Q
                                  refine WP.cl (a := [vR x, vI i, vI k, vI 0]) (rest := []) rfl rfl rfl rfl trivial (by decide) (v_print hh29 (Int.le_refl _) (pV_s (by omega)) (fun wd32 hh32 => ⟨rfl, ?_⟩))
                                  show WP 8 112 198 [vR x, vI (wn + v17), vI 1, vI i, vI (f (7 + 9 * i)), vI k, vI tu27] [vI (f (7 + 9 * i + 1 + k))] wd32 Q
                                  refine WP.blk 1 ?_
                                  show WP 8 112 200 [vR x, vI (wn + v17), vI 1, vI i, vI (f (7 + 9 * i)), vI k, vI tu27] [vI tu27, vI (f (7 + 9 * i + 1 + k))] wd32 Q
                                  refine WP.cl (a := [vI (f (7 + 9 * i + 1 + k)), vI tu27]) (rest := []) rfl rfl rfl rfl trivial (by decide) (z_isTurn (pb_t zu27 c30) ⟨rfl, ?_⟩)
                                  show WP 8 112 203 [vR x, vI (wn + v17), vI 1, vI i, vI (f (7 + 9 * i)), vI k, vI tu27] [vI 1] wd32 Q
                                  refine WP.blk 4 ?_
                                  show ir (k + 1) ∧ WP 8 112 154 [vR x, vI (wn + v17), vI 1, vI i, vI (f (7 + 9 * i)), vI (k + 1), vI tu27] [] wd32 Q
                                  refine ⟨(by unfold ir; omega), ?_⟩
                                  exact ih_154 (k + 1) (vI tu27) wd32 (by omega) (ls_le hh32 (by omega)) (by omega)
                          exact hl_154 _ 0 (a6_6) wd25 (by omega) (ls_le hh25 (by omega)) (Nat.lt_succ_self _)
                        · have hz := hNk i p0.1 (by omega) (by omega)
                          refine WP.blk 3 ?_
                          show WP 8 112 117 [vR x, vI wn, vI 1, vI i, vI (f (7 + 9 * i)), a5_6, a6_6] [vI 2, vI i, vR x] wd22 Q
                          refine WP.cl (a := [vR x, vI i, vI 2]) (rest := []) rfl rfl rfl rfl trivial (by decide) (v_stamp hh22 (Int.le_refl _) (sV_2 (by omega)) (fun wd33 hh33 => ⟨rfl, ?_⟩))
                          show WP 8 112 120 [vR x, vI wn, vI 1, vI i, vI (f (7 + 9 * i)), a5_6, a6_6] [vI (f (7 + 9 * i + 7))] wd33 Q
                          refine WP.blk 1 ?_
                          show WP 8 112 (if cnd .ne (f (7 + 9 * i + 7)) 0 = true then 140 else 123) [vR x, vI wn, vI 1, vI i, vI (f (7 + 9 * i)), a5_6, a6_6] [] wd33 Q
                          refine br_ne (fun c34 => ?_) (fun c34 => ?_)
                          · exfalso; omega
                          · refine WP.blk 4 ?_
                            show WP 8 112 128 [vR x, vI wn, vI 1, vI i, vI (f (7 + 9 * i)), a5_6, a6_6] [vI 0, vI (f (7 + 9 * i)), vI i, vR x] wd33 Q
                            refine WP.cl (a := [vR x, vI i, vI (f (7 + 9 * i)), vI 0]) (rest := []) rfl rfl rfl rfl trivial (by decide) (v_print hh33 (Int.le_refl _) (pV_out (by omega)) (fun wd35 hh35 => ⟨rfl, ?_⟩))
                            show WP 8 112 131 [vR x, vI wn, vI 1, vI i, vI (f (7 + 9 * i)), a5_6, a6_6] [vI (-5000003)] wd35 Q
                            refine WP.blk 9 ?_
                            show WP 8 112 146 [vR x, vI wn, vI 1, vI i, vI (f (7 + 9 * i)), a5_6, a6_6] [vI 5, vI i, vR x, vI wn] wd35 Q
                            refine WP.cl (a := [vR x, vI i, vI 5]) (rest := [vI wn]) rfl rfl rfl rfl trivial (by decide) (v_stamp hh35 (Int.le_refl _) ev17 (fun wd36 hh36 => ⟨rfl, ?_⟩))
                            show WP 8 112 149 [vR x, vI wn, vI 1, vI i, vI (f (7 + 9 * i)), a5_6, a6_6] [vI v17, vI wn] wd36 Q
                            refine WP.blk 4 ?_
                            show ir (wn + v17) ∧ WP 8 112 154 [vR x, vI (wn + v17), vI 1, vI i, vI (f (7 + 9 * i)), vI 0, a6_6] [] wd36 Q
                            refine ⟨(by unfold ir; omega), ?_⟩
                            have hl_154 : ∀ (n_154 : Nat) (k : Int) (a6_154 : V) (w_154 : Wd), 0 ≤ k ∧ k ≤ f (7 + 9 * i) → LwS (N + 40 * i + 16 + 3 * k) (B) x L w_154 f fs sv → (f (7 + 9 * i) - k).toNat < n_154 → WP 8 112 154 [vR x, vI (wn + v17), vI 1, vI i, vI (f (7 + 9 * i)), vI k, a6_154] [] w_154 Q := by
                              intro n_154
                              induction n_154 with
                              | zero => intro k a6_154 w_154 k0 h_154 hm_154; exact absurd hm_154 (Nat.not_lt_zero _)
                              | succ n_154 ih_154 =>
                                intro k a6_154 w_154 k0 h_154 hm_154
                                refine WP.blk 3 ?_
                                show WP 8 112 (if cnd .ge k (f (7 + 9 * i)) = true then 224 else 161) [vR x, vI (wn + v17), vI 1, vI i, vI (f (7 + 9 * i)), vI k, a6_154] [] w_154 Q
                                refine br_ge (fun c37 => ?_) (fun c37 => ?_)
                                · refine WP.blk 2 ?_
                                  show ir (i + 1) ∧ WP 8 112 6 [vR x, vI (wn + v17), vI 1, vI (i + 1), vI (f (7 + 9 * i)), vI k, a6_154] [] w_154 Q
                                  refine ⟨(by unfold ir; omega), ?_⟩
                                  exact ih_6 (i + 1) (wn + v17) (vI (f (7 + 9 * i))) (vI k) (a6_154) w_154 (by omega) (num_w p0.1 p1_ ov17) (ls_le h_154 (by omega)) (by omega)
                                · refine WP.blk 2 ?_
                                  show WP 8 112 165 [vR x, vI (wn + v17), vI 1, vI i, vI (f (7 + 9 * i)), vI k, a6_154] [] w_154 Q
                                  obtain ⟨bu38, tu38, xu38, yu38, zu38⟩ := pb_x (f := f) (s := i) (k := k) (by omega) (by omega)
                                  refine WP.blk 8 ?_
                                  show ir ((f (7 + 9 * i)) - 1) ∧ ir (((f (7 + 9 * i)) - 1) - k) ∧ WP 8 112 175 [vR x, vI (wn + v17), vI 1, vI i, vI (f (7 + 9 * i)), vI k, a6_154] [vI 1, vI (((f (7 + 9 * i)) - 1) - k), vI i, vR x] w_154 Q
                                  refine ⟨(by unfold ir; omega), (by unfold ir; omega), ?_⟩
                                  refine WP.cl (a := [vR x, vI i, vI (((f (7 + 9 * i)) - 1) - k), vI 1]) (rest := []) rfl rfl rfl rfl trivial (by decide) (v_print h_154 (Int.le_refl _) yu38 (fun wd39 hh39 => ⟨rfl, ?_⟩))
                                  show WP 8 112 178 [vR x, vI (wn + v17), vI 1, vI i, vI (f (7 + 9 * i)), vI k, a6_154] [vI tu38] wd39 Q
                                  refine WP.blk 4 ?_
                                  show WP 8 112 183 [vR x, vI (wn + v17), vI 1, vI i, vI (f (7 + 9 * i)), vI k, vI tu38] [vI 4, vI i, vR x] wd39 Q
                                  refine WP.cl (a := [vR x, vI i, vI 4]) (rest := []) rfl rfl rfl rfl trivial (by decide) (v_stamp hh39 (Int.le_refl _) xu38 (fun wd40 hh40 => ⟨rfl, ?_⟩))
                                  show WP 8 112 186 [vR x, vI (wn + v17), vI 1, vI i, vI (f (7 + 9 * i)), vI k, vI tu38] [vI bu38] wd40 Q
                                  refine WP.blk 2 ?_
                                  show WP 8 112 (if cnd .ne bu38 1 = true then 206 else 190) [vR x, vI (wn + v17), vI 1, vI i, vI (f (7 + 9 * i)), vI k, vI tu38] [] wd40 Q
                                  refine br_ne (fun c41 => ?_) (fun c41 => ?_)
                                  · have e6 := pb_f zu38 c41
                                    refine WP.blk 3 ?_
                                    show WP 8 112 (if cnd .ne tu38 (-1) = true then 216 else 212) [vR x, vI (wn + v17), vI 1, vI i, vI (f (7 + 9 * i)), vI k, vI tu38] [] wd40 Q
                                    refine br_ne (fun c42 => ?_) (fun c42 => ?_)
                                    · exfalso; omega
                                    · refine WP.blk 5 ?_
                                      show ir (k + 1) ∧ WP 8 112 154 [vR x, vI (wn + v17), vI 1, vI i, vI (f (7 + 9 * i)), vI (k + 1), vI tu38] [] wd40 Q
                                      refine ⟨(by unfold ir; omega), ?_⟩
                                      exact ih_154 (k + 1) (vI tu38) wd40 (by omega) (ls_le hh40 (by omega)) (by omega)
                                  · refine WP.blk 4 ?_
                                    show WP 8 112 195 [vR x, vI (wn + v17), vI 1, vI i, vI (f (7 + 9 * i)), vI k, vI tu38] [vI 0, vI k, vI i, vR x] wd40 Q
                                    refine WP.cl (a := [vR x, vI i, vI k, vI 0]) (rest := []) rfl rfl rfl rfl trivial (by decide) (v_print hh40 (Int.le_refl _) (pV_s (by omega)) (fun wd43 hh43 => ⟨rfl, ?_⟩))
                                    show WP 8 112 198 [vR x, vI (wn + v17), vI 1, vI i, vI (f (7 + 9 * i)), vI k, vI tu38] [vI (f (7 + 9 * i + 1 + k))] wd43 Q
                                    refine WP.blk 1 ?_
                                    show WP 8 112 200 [vR x, vI (wn + v17), vI 1, vI i, vI (f (7 + 9 * i)), vI k, vI tu38] [vI tu38, vI (f (7 + 9 * i + 1 + k))] wd43 Q
                                    refine WP.cl (a := [vI (f (7 + 9 * i + 1 + k)), vI tu38]) (rest := []) rfl rfl rfl rfl trivial (by decide) (z_isTurn (pb_t zu38 c41) ⟨rfl, ?_⟩)
                                    show WP 8 112 203 [vR x, vI (wn + v17), vI 1, vI i, vI (f (7 + 9 * i)), vI k, vI tu38] [vI 1] wd43 Q
                                    refine WP.blk 4 ?_
                                    show ir (k + 1) ∧ WP 8 112 154 [vR x, vI (wn + v17), vI 1, vI i, vI (f (7 + 9 * i)), vI (k + 1), vI tu38] [] wd43 Q
                                    refine ⟨(by unfold ir; omega), ?_⟩
                                    exact ih_154 (k + 1) (vI tu38) wd43 (by omega) (ls_le hh43 (by omega)) (by omega)
                            exact hl_154 _ 0 (a6_6) wd36 (by omega) (ls_le hh36 (by omega)) (Nat.lt_succ_self _)
                    · refine WP.blk 3 ?_
                      show WP 8 112 (if cnd .ne v17 1 = true then 140 else 105) [vR x, vI wn, vI 1, vI i, vI (f (7 + 9 * i)), a5_6, a6_6] [] wd19 Q
                      refine br_ne (fun c44 => ?_) (fun c44 => ?_)
                      · exfalso; omega
                      · refine WP.blk 3 ?_
                        show WP 8 112 108 [vR x, vI wn, vI 1, vI i, vI (f (7 + 9 * i)), a5_6, a6_6] [vI 1, vI i, vR x] wd19 Q
                        refine WP.cl (a := [vR x, vI i, vI 1]) (rest := []) rfl rfl rfl rfl trivial (by decide) (v_stamp hh19 (Int.le_refl _) (sV_1 (by omega)) (fun wd45 hh45 => ⟨rfl, ?_⟩))
                        show WP 8 112 111 [vR x, vI wn, vI 1, vI i, vI (f (7 + 9 * i)), a5_6, a6_6] [vI (f (7 + 9 * i + 6))] wd45 Q
                        refine WP.blk 1 ?_
                        show WP 8 112 (if cnd .ge (f (7 + 9 * i + 6)) 0 = true then 123 else 114) [vR x, vI wn, vI 1, vI i, vI (f (7 + 9 * i)), a5_6, a6_6] [] wd45 Q
                        refine br_ge (fun c46 => ?_) (fun c46 => ?_)
                        · refine WP.blk 4 ?_
                          show WP 8 112 128 [vR x, vI wn, vI 1, vI i, vI (f (7 + 9 * i)), a5_6, a6_6] [vI 0, vI (f (7 + 9 * i)), vI i, vR x] wd45 Q
                          refine WP.cl (a := [vR x, vI i, vI (f (7 + 9 * i)), vI 0]) (rest := []) rfl rfl rfl rfl trivial (by decide) (v_print hh45 (Int.le_refl _) (pV_out (by omega)) (fun wd47 hh47 => ⟨rfl, ?_⟩))
                          show WP 8 112 131 [vR x, vI wn, vI 1, vI i, vI (f (7 + 9 * i)), a5_6, a6_6] [vI (-5000003)] wd47 Q
                          refine WP.blk 9 ?_
                          show WP 8 112 146 [vR x, vI wn, vI 1, vI i, vI (f (7 + 9 * i)), a5_6, a6_6] [vI 5, vI i, vR x, vI wn] wd47 Q
                          refine WP.cl (a := [vR x, vI i, vI 5]) (rest := [vI wn]) rfl rfl rfl rfl trivial (by decide) (v_stamp hh47 (Int.le_refl _) ev17 (fun wd48 hh48 => ⟨rfl, ?_⟩))
                          show WP 8 112 149 [vR x, vI wn, vI 1, vI i, vI (f (7 + 9 * i)), a5_6, a6_6] [vI v17, vI wn] wd48 Q
                          refine WP.blk 4 ?_
                          show ir (wn + v17) ∧ WP 8 112 154 [vR x, vI (wn + v17), vI 1, vI i, vI (f (7 + 9 * i)), vI 0, a6_6] [] wd48 Q
                          refine ⟨(by unfold ir; omega), ?_⟩
                          have hl_154 : ∀ (n_154 : Nat) (k : Int) (a6_154 : V) (w_154 : Wd), 0 ≤ k ∧ k ≤ f (7 + 9 * i) → LwS (N + 40 * i + 16 + 3 * k) (B) x L w_154 f fs sv → (f (7 + 9 * i) - k).toNat < n_154 → WP 8 112 154 [vR x, vI (wn + v17), vI 1, vI i, vI (f (7 + 9 * i)), vI k, a6_154] [] w_154 Q := by
                            intro n_154
                            induction n_154 with
                            | zero => intro k a6_154 w_154 k0 h_154 hm_154; exact absurd hm_154 (Nat.not_lt_zero _)
                            | succ n_154 ih_154 =>
                              intro k a6_154 w_154 k0 h_154 hm_154
                              refine WP.blk 3 ?_
                              show WP 8 112 (if cnd .ge k (f (7 + 9 * i)) = true then 224 else 161) [vR x, vI (wn + v17), vI 1, vI i, vI (f (7 + 9 * i)), vI k, a6_154] [] w_154 Q
                              refine br_ge (fun c49 => ?_) (fun c49 => ?_)
                              · refine WP.blk 2 ?_
                                show ir (i + 1) ∧ WP 8 112 6 [vR x, vI (wn + v17), vI 1, vI (i + 1), vI (f (7 + 9 * i)), vI k, a6_154] [] w_154 Q
                                refine ⟨(by unfold ir; omega), ?_⟩
                                exact ih_6 (i + 1) (wn + v17) (vI (f (7 + 9 * i))) (vI k) (a6_154) w_154 (by omega) (num_w p0.1 p1_ ov17) (ls_le h_154 (by omega)) (by omega)
                              · refine WP.blk 2 ?_
                                show WP 8 112 165 [vR x, vI (wn + v17), vI 1, vI i, vI (f (7 + 9 * i)), vI k, a6_154] [] w_154 Q
                                obtain ⟨bu50, tu50, xu50, yu50, zu50⟩ := pb_x (f := f) (s := i) (k := k) (by omega) (by omega)
                                refine WP.blk 8 ?_
                                show ir ((f (7 + 9 * i)) - 1) ∧ ir (((f (7 + 9 * i)) - 1) - k) ∧ WP 8 112 175 [vR x, vI (wn + v17), vI 1, vI i, vI (f (7 + 9 * i)), vI k, a6_154] [vI 1, vI (((f (7 + 9 * i)) - 1) - k), vI i, vR x] w_154 Q
                                refine ⟨(by unfold ir; omega), (by unfold ir; omega), ?_⟩
                                refine WP.cl (a := [vR x, vI i, vI (((f (7 + 9 * i)) - 1) - k), vI 1]) (rest := []) rfl rfl rfl rfl trivial (by decide) (v_print h_154 (Int.le_refl _) yu50 (fun wd51 hh51 => ⟨rfl, ?_⟩))
                                show WP 8 112 178 [vR x, vI (wn + v17), vI 1, vI i, vI (f (7 + 9 * i)), vI k, a6_154] [vI tu50] wd51 Q
                                refine WP.blk 4 ?_
                                show WP 8 112 183 [vR x, vI (wn + v17), vI 1, vI i, vI (f (7 + 9 * i)), vI k, vI tu50] [vI 4, vI i, vR x] wd51 Q
                                refine WP.cl (a := [vR x, vI i, vI 4]) (rest := []) rfl rfl rfl rfl trivial (by decide) (v_stamp hh51 (Int.le_refl _) xu50 (fun wd52 hh52 => ⟨rfl, ?_⟩))
                                show WP 8 112 186 [vR x, vI (wn + v17), vI 1, vI i, vI (f (7 + 9 * i)), vI k, vI tu50] [vI bu50] wd52 Q
                                refine WP.blk 2 ?_
                                show WP 8 112 (if cnd .ne bu50 1 = true then 206 else 190) [vR x, vI (wn + v17), vI 1, vI i, vI (f (7 + 9 * i)), vI k, vI tu50] [] wd52 Q
                                refine br_ne (fun c53 => ?_) (fun c53 => ?_)
                                · have e6 := pb_f zu50 c53
                                  refine WP.blk 3 ?_
                                  show WP 8 112 (if cnd .ne tu50 (-1) = true then 216 else 212) [vR x, vI (wn + v17), vI 1, vI i, vI (f (7 + 9 * i)), vI k, vI tu50] [] wd52 Q
                                  refine br_ne (fun c54 => ?_) (fun c54 => ?_)
                                  · exfalso; omega
                                  · refine WP.blk 5 ?_
                                    show ir (k + 1) ∧ WP 8 112 154 [vR x, vI (wn + v17), vI 1, vI i, vI (f (7 + 9 * i)), vI (k + 1), vI tu50] [] wd52 Q
                                    refine ⟨(by unfold ir; omega), ?_⟩
                                    exact ih_154 (k + 1) (vI tu50) wd52 (by omega) (ls_le hh52 (by omega)) (by omega)
                                · refine WP.blk 4 ?_
                                  show WP 8 112 195 [vR x, vI (wn + v17), vI 1, vI i, vI (f (7 + 9 * i)), vI k, vI tu50] [vI 0, vI k, vI i, vR x] wd52 Q
                                  refine WP.cl (a := [vR x, vI i, vI k, vI 0]) (rest := []) rfl rfl rfl rfl trivial (by decide) (v_print hh52 (Int.le_refl _) (pV_s (by omega)) (fun wd55 hh55 => ⟨rfl, ?_⟩))
                                  show WP 8 112 198 [vR x, vI (wn + v17), vI 1, vI i, vI (f (7 + 9 * i)), vI k, vI tu50] [vI (f (7 + 9 * i + 1 + k))] wd55 Q
                                  refine WP.blk 1 ?_
                                  show WP 8 112 200 [vR x, vI (wn + v17), vI 1, vI i, vI (f (7 + 9 * i)), vI k, vI tu50] [vI tu50, vI (f (7 + 9 * i + 1 + k))] wd55 Q
                                  refine WP.cl (a := [vI (f (7 + 9 * i + 1 + k)), vI tu50]) (rest := []) rfl rfl rfl rfl trivial (by decide) (z_isTurn (pb_t zu50 c53) ⟨rfl, ?_⟩)
                                  show WP 8 112 203 [vR x, vI (wn + v17), vI 1, vI i, vI (f (7 + 9 * i)), vI k, vI tu50] [vI 1] wd55 Q
                                  refine WP.blk 4 ?_
                                  show ir (k + 1) ∧ WP 8 112 154 [vR x, vI (wn + v17), vI 1, vI i, vI (f (7 + 9 * i)), vI (k + 1), vI tu50] [] wd55 Q
                                  refine ⟨(by unfold ir; omega), ?_⟩
                                  exact ih_154 (k + 1) (vI tu50) wd55 (by omega) (ls_le hh55 (by omega)) (by omega)
                          exact hl_154 _ 0 (a6_6) wd48 (by omega) (ls_le hh48 (by omega)) (Nat.lt_succ_self _)
                        · have hz := hNk i p0.1 (by omega) (by omega)
                          refine WP.blk 3 ?_
                          show WP 8 112 117 [vR x, vI wn, vI 1, vI i, vI (f (7 + 9 * i)), a5_6, a6_6] [vI 2, vI i, vR x] wd45 Q
                          refine WP.cl (a := [vR x, vI i, vI 2]) (rest := []) rfl rfl rfl rfl trivial (by decide) (v_stamp hh45 (Int.le_refl _) (sV_2 (by omega)) (fun wd56 hh56 => ⟨rfl, ?_⟩))
                          show WP 8 112 120 [vR x, vI wn, vI 1, vI i, vI (f (7 + 9 * i)), a5_6, a6_6] [vI (f (7 + 9 * i + 7))] wd56 Q
                          refine WP.blk 1 ?_
                          show WP 8 112 (if cnd .ne (f (7 + 9 * i + 7)) 0 = true then 140 else 123) [vR x, vI wn, vI 1, vI i, vI (f (7 + 9 * i)), a5_6, a6_6] [] wd56 Q
                          refine br_ne (fun c57 => ?_) (fun c57 => ?_)
                          · exfalso; omega
                          · refine WP.blk 4 ?_
                            show WP 8 112 128 [vR x, vI wn, vI 1, vI i, vI (f (7 + 9 * i)), a5_6, a6_6] [vI 0, vI (f (7 + 9 * i)), vI i, vR x] wd56 Q
                            refine WP.cl (a := [vR x, vI i, vI (f (7 + 9 * i)), vI 0]) (rest := []) rfl rfl rfl rfl trivial (by decide) (v_print hh56 (Int.le_refl _) (pV_out (by omega)) (fun wd58 hh58 => ⟨rfl, ?_⟩))
                            show WP 8 112 131 [vR x, vI wn, vI 1, vI i, vI (f (7 + 9 * i)), a5_6, a6_6] [vI (-5000003)] wd58 Q
                            refine WP.blk 9 ?_
                            show WP 8 112 146 [vR x, vI wn, vI 1, vI i, vI (f (7 + 9 * i)), a5_6, a6_6] [vI 5, vI i, vR x, vI wn] wd58 Q
                            refine WP.cl (a := [vR x, vI i, vI 5]) (rest := [vI wn]) rfl rfl rfl rfl trivial (by decide) (v_stamp hh58 (Int.le_refl _) ev17 (fun wd59 hh59 => ⟨rfl, ?_⟩))
                            show WP 8 112 149 [vR x, vI wn, vI 1, vI i, vI (f (7 + 9 * i)), a5_6, a6_6] [vI v17, vI wn] wd59 Q
                            refine WP.blk 4 ?_
                            show ir (wn + v17) ∧ WP 8 112 154 [vR x, vI (wn + v17), vI 1, vI i, vI (f (7 + 9 * i)), vI 0, a6_6] [] wd59 Q
                            refine ⟨(by unfold ir; omega), ?_⟩
                            have hl_154 : ∀ (n_154 : Nat) (k : Int) (a6_154 : V) (w_154 : Wd), 0 ≤ k ∧ k ≤ f (7 + 9 * i) → LwS (N + 40 * i + 16 + 3 * k) (B) x L w_154 f fs sv → (f (7 + 9 * i) - k).toNat < n_154 → WP 8 112 154 [vR x, vI (wn + v17), vI 1, vI i, vI (f (7 + 9 * i)), vI k, a6_154] [] w_154 Q := by
                              intro n_154
                              induction n_154 with
                              | zero => intro k a6_154 w_154 k0 h_154 hm_154; exact absurd hm_154 (Nat.not_lt_zero _)
                              | succ n_154 ih_154 =>
                                intro k a6_154 w_154 k0 h_154 hm_154
                                refine WP.blk 3 ?_
                                show WP 8 112 (if cnd .ge k (f (7 + 9 * i)) = true then 224 else 161) [vR x, vI (wn + v17), vI 1, vI i, vI (f (7 + 9 * i)), vI k, a6_154] [] w_154 Q
                                refine br_ge (fun c60 => ?_) (fun c60 => ?_)
                                · refine WP.blk 2 ?_
                                  show ir (i + 1) ∧ WP 8 112 6 [vR x, vI (wn + v17), vI 1, vI (i + 1), vI (f (7 + 9 * i)), vI k, a6_154] [] w_154 Q
                                  refine ⟨(by unfold ir; omega), ?_⟩
                                  exact ih_6 (i + 1) (wn + v17) (vI (f (7 + 9 * i))) (vI k) (a6_154) w_154 (by omega) (num_w p0.1 p1_ ov17) (ls_le h_154 (by omega)) (by omega)
                                · refine WP.blk 2 ?_
                                  show WP 8 112 165 [vR x, vI (wn + v17), vI 1, vI i, vI (f (7 + 9 * i)), vI k, a6_154] [] w_154 Q
                                  obtain ⟨bu61, tu61, xu61, yu61, zu61⟩ := pb_x (f := f) (s := i) (k := k) (by omega) (by omega)
                                  refine WP.blk 8 ?_
                                  show ir ((f (7 + 9 * i)) - 1) ∧ ir (((f (7 + 9 * i)) - 1) - k) ∧ WP 8 112 175 [vR x, vI (wn + v17), vI 1, vI i, vI (f (7 + 9 * i)), vI k, a6_154] [vI 1, vI (((f (7 + 9 * i)) - 1) - k), vI i, vR x] w_154 Q
                                  refine ⟨(by unfold ir; omega), (by unfold ir; omega), ?_⟩
                                  refine WP.cl (a := [vR x, vI i, vI (((f (7 + 9 * i)) - 1) - k), vI 1]) (rest := []) rfl rfl rfl rfl trivial (by decide) (v_print h_154 (Int.le_refl _) yu61 (fun wd62 hh62 => ⟨rfl, ?_⟩))
                                  show WP 8 112 178 [vR x, vI (wn + v17), vI 1, vI i, vI (f (7 + 9 * i)), vI k, a6_154] [vI tu61] wd62 Q
                                  refine WP.blk 4 ?_
                                  show WP 8 112 183 [vR x, vI (wn + v17), vI 1, vI i, vI (f (7 + 9 * i)), vI k, vI tu61] [vI 4, vI i, vR x] wd62 Q
                                  refine WP.cl (a := [vR x, vI i, vI 4]) (rest := []) rfl rfl rfl rfl trivial (by decide) (v_stamp hh62 (Int.le_refl _) xu61 (fun wd63 hh63 => ⟨rfl, ?_⟩))
                                  show WP 8 112 186 [vR x, vI (wn + v17), vI 1, vI i, vI (f (7 + 9 * i)), vI k, vI tu61] [vI bu61] wd63 Q
                                  refine WP.blk 2 ?_
                                  show WP 8 112 (if cnd .ne bu61 1 = true then 206 else 190) [vR x, vI (wn + v17), vI 1, vI i, vI (f (7 + 9 * i)), vI k, vI tu61] [] wd63 Q
                                  refine br_ne (fun c64 => ?_) (fun c64 => ?_)
                                  · have e6 := pb_f zu61 c64
                                    refine WP.blk 3 ?_
                                    show WP 8 112 (if cnd .ne tu61 (-1) = true then 216 else 212) [vR x, vI (wn + v17), vI 1, vI i, vI (f (7 + 9 * i)), vI k, vI tu61] [] wd63 Q
                                    refine br_ne (fun c65 => ?_) (fun c65 => ?_)
                                    · exfalso; omega
                                    · refine WP.blk 5 ?_
                                      show ir (k + 1) ∧ WP 8 112 154 [vR x, vI (wn + v17), vI 1, vI i, vI (f (7 + 9 * i)), vI (k + 1), vI tu61] [] wd63 Q
                                      refine ⟨(by unfold ir; omega), ?_⟩
                                      exact ih_154 (k + 1) (vI tu61) wd63 (by omega) (ls_le hh63 (by omega)) (by omega)
                                  · refine WP.blk 4 ?_
                                    show WP 8 112 195 [vR x, vI (wn + v17), vI 1, vI i, vI (f (7 + 9 * i)), vI k, vI tu61] [vI 0, vI k, vI i, vR x] wd63 Q
                                    refine WP.cl (a := [vR x, vI i, vI k, vI 0]) (rest := []) rfl rfl rfl rfl trivial (by decide) (v_print hh63 (Int.le_refl _) (pV_s (by omega)) (fun wd66 hh66 => ⟨rfl, ?_⟩))
                                    show WP 8 112 198 [vR x, vI (wn + v17), vI 1, vI i, vI (f (7 + 9 * i)), vI k, vI tu61] [vI (f (7 + 9 * i + 1 + k))] wd66 Q
                                    refine WP.blk 1 ?_
                                    show WP 8 112 200 [vR x, vI (wn + v17), vI 1, vI i, vI (f (7 + 9 * i)), vI k, vI tu61] [vI tu61, vI (f (7 + 9 * i + 1 + k))] wd66 Q
                                    refine WP.cl (a := [vI (f (7 + 9 * i + 1 + k)), vI tu61]) (rest := []) rfl rfl rfl rfl trivial (by decide) (z_isTurn (pb_t zu61 c64) ⟨rfl, ?_⟩)
                                    show WP 8 112 203 [vR x, vI (wn + v17), vI 1, vI i, vI (f (7 + 9 * i)), vI k, vI tu61] [vI 1] wd66 Q
                                    refine WP.blk 4 ?_
                                    show ir (k + 1) ∧ WP 8 112 154 [vR x, vI (wn + v17), vI 1, vI i, vI (f (7 + 9 * i)), vI (k + 1), vI tu61] [] wd66 Q
                                    refine ⟨(by unfold ir; omega), ?_⟩
                                    exact ih_154 (k + 1) (vI tu61) wd66 (by omega) (ls_le hh66 (by omega)) (by omega)
                            exact hl_154 _ 0 (a6_6) wd59 (by omega) (ls_le hh59 (by omega)) (Nat.lt_succ_self _)
  exact hl_6 _ 0 0 none none none w (by omega) rfl (ls_le h (by omega)) (Nat.lt_succ_self _)
set_option maxHeartbeats 8000000 in
theorem z_plans {N B : Int} {x L : Nat} {w : Wd} {f : Int → Int} {fs : List (Int → Int)} {sv : Int} {Q : Res → Wd → Prop} (h : LwS N B x L w f fs sv) (k : ∀ w', LwS (N + 1420) B x L w' f fs sv → Q (0, vI 1) w') : EvQ 9 113 [vR x] w Q := by
  refine EvQ.enter (ls := [vR x, none, none, none, none, none, none, none, none, none, none, none, none]) (Nat.le_of_ble_eq_true rfl) rfl ?_
  have hR := (ls_row h).1
  have hA := hR.1
  have hW := hR.2.1
  have hI := hR.2.2
  have hA1 := hA.1
  have hW1 := hW.1
  have hI2 := hI.2
  refine WP.blk 10 ?_
  show WP 8 113 12 [vR x, vI 0, vI 0, vI 0, vI 1, vI 0, none, none, none, none, none, none, none] [] w Q
  have hl_12 : ∀ (n_12 : Nat) (w9 : Int) (pl : Int) (le : Int) (pr : Int) (a6_12 : V) (a7_12 : V) (a8_12 : V) (a9_12 : V) (a10_12 : V) (a11_12 : V) (a12_12 : V) (w_12 : Wd), 0 ≤ w9 ∧ w9 ≤ f 1 → pl = num (HasP f) w9 → le = sm (lt1 f) w9 → pr = sm (ps1 f) w9 → 0 ≤ le ∧ le ≤ 12 * w9 → 0 ≤ pr ∧ pr ≤ 12 * w9 → LwS (N + 200 * w9) (B) x L w_12 f fs sv → (f 1 - w9).toNat < n_12 → WP 8 113 12 [vR x, vI pl, vI le, vI pr, vI 1, vI w9, a6_12, a7_12, a8_12, a9_12, a10_12, a11_12, a12_12] [] w_12 Q := by
    intro n_12
    induction n_12 with
    | zero => intro w9 pl le pr a6_12 a7_12 a8_12 a9_12 a10_12 a11_12 a12_12 w_12 q0 q1 q2 q3 q4 q5 h_12 hm_12; exact absurd hm_12 (Nat.not_lt_zero _)
    | succ n_12 ih_12 =>
      intro w9 pl le pr a6_12 a7_12 a8_12 a9_12 a10_12 a11_12 a12_12 w_12 q0 q1 q2 q3 q4 q5 h_12 hm_12
      have hnr := num_r (P := HasP f) q0.1
      refine WP.blk 3 ?_
      show WP 8 113 16 [vR x, vI pl, vI le, vI pr, vI 1, vI w9, a6_12, a7_12, a8_12, a9_12, a10_12, a11_12, a12_12] [vI 1, vR x, vI w9] w_12 Q
      refine WP.cl (a := [vR x, vI 1]) (rest := [vI w9]) rfl rfl rfl rfl trivial (by decide) (v_value h_12 (Int.le_refl _) (vV_lo (by omega)) (fun wd1 hh1 => ⟨rfl, ?_⟩))
      show WP 8 113 19 [vR x, vI pl, vI le, vI pr, vI 1, vI w9, a6_12, a7_12, a8_12, a9_12, a10_12, a11_12, a12_12] [vI (f 1), vI w9] wd1 Q
      refine WP.blk 1 ?_
      show WP 8 113 (if cnd .ge w9 (f 1) = true then 403 else 22) [vR x, vI pl, vI le, vI pr, vI 1, vI w9, a6_12, a7_12, a8_12, a9_12, a10_12, a11_12, a12_12] [] wd1 Q
      refine br_ge (fun c2 => ?_) (fun c2 => ?_)
      · have e9 : w9 = f 1 := by omega
        rw [e9] at q1 q2 q3
        refine WP.blk 5 ?_
        show WP 8 113 412 [vR x, vI pl, vI le, vI pr, vI 1, vI w9, a6_12, a7_12, a8_12, a9_12, a10_12, a11_12, a12_12] [vI 8, vR x, vI pl] wd1 Q
        refine WP.cl (a := [vR x, vI 8]) (rest := [vI pl]) rfl rfl rfl rfl trivial (by decide) (v_value hh1 (Int.le_refl _) vV_8 (fun wd3 hh3 => ⟨rfl, ?_⟩))
        show WP 8 113 415 [vR x, vI pl, vI le, vI pr, vI 1, vI w9, a6_12, a7_12, a8_12, a9_12, a10_12, a11_12, a12_12] [vI (num (HasP f) (f 1)), vI pl] wd3 Q
        refine WP.blk 1 ?_
        show WP 8 113 (if cnd .ne pl (num (HasP f) (f 1)) = true then 460 else 418) [vR x, vI pl, vI le, vI pr, vI 1, vI w9, a6_12, a7_12, a8_12, a9_12, a10_12, a11_12, a12_12] [] wd3 Q
        refine br_ne (fun c4 => ?_) (fun c4 => ?_)
        · exfalso; omega
        · refine WP.blk 1 ?_
          show WP 8 113 419 [vR x, vI pl, vI le, vI pr, vI 1, vI w9, a6_12, a7_12, a8_12, a9_12, a10_12, a11_12, a12_12] [vR x] wd3 Q
          refine WP.cl (a := [vR x]) (rest := []) rfl rfl rfl rfl ⟨ls_ty hh3, trivial⟩ (by decide) (v_mean hh3 (Int.le_refl _) (fun wd5 hh5 => ⟨rfl, ?_⟩))
          show WP 8 113 422 [vR x, vI pl, vI le, vI pr, vI 1, vI w9, a6_12, a7_12, a8_12, a9_12, a10_12, a11_12, a12_12] [vD (lpp f)] wd5 Q
          refine WP.blk 2 ?_
          show WP 8 113 (if cnd .ne pr 0 = true then 430 else 426) [vR x, vI pl, vI le, vI pr, vI 1, vI w9, a6_12, a7_12, a8_12, a9_12, a10_12, a11_12, a12_12] [vD (lpp f)] wd5 Q
          refine br_ne (fun c6 => ?_) (fun c6 => ?_)
          · refine WP.blk 7 ?_
            show vf_n64 (FP.ddiv (FP.i2d (Int32.ofInt le)) (FP.i2d (Int32.ofInt pr))) ∧ WP 8 113 (if cnd .ne (dC (lpp f) (FP.ddiv (FP.i2d (Int32.ofInt le)) (FP.i2d (Int32.ofInt pr))) .l) 0 = true then 460 else 439) [vR x, vI pl, vI le, vI pr, vI 1, vI w9, a6_12, a7_12, a8_12, a9_12, a10_12, a11_12, a12_12] [] wd5 Q
            refine ⟨(dd_ok (by omega) (by omega)), ?_⟩
            refine br_ne (fun c7 => ?_) (fun c7 => ?_)
            · exact absurd (by rw [lpp_n (by omega), ← q2, ← q3]; exact dc_ok (by omega) (by omega)) c7
            · refine WP.blk 2 ?_
              show WP 8 113 442 [vR x, vI pl, vI le, vI pr, vI 1, vI w9, a6_12, a7_12, a8_12, a9_12, a10_12, a11_12, a12_12] [vI 6, vR x] wd5 Q
              refine WP.cl (a := [vR x, vI 6]) (rest := []) rfl rfl rfl rfl trivial (by decide) (v_value hh5 (Int.le_refl _) (vV_lo (by omega)) (fun wd8 hh8 => ⟨rfl, ?_⟩))
              show WP 8 113 445 [vR x, vI pl, vI le, vI pr, vI 1, vI w9, a6_12, a7_12, a8_12, a9_12, a10_12, a11_12, a12_12] [vI (f 6)] wd8 Q
              refine WP.blk 1 ?_
              show WP 8 113 (if cnd .lt (f 6) 0 = true then 460 else 448) [vR x, vI pl, vI le, vI pr, vI 1, vI w9, a6_12, a7_12, a8_12, a9_12, a10_12, a11_12, a12_12] [] wd8 Q
              refine br_lt (fun c9 => ?_) (fun c9 => ?_)
              · exfalso; omega
              · refine WP.blk 2 ?_
                show WP 8 113 450 [vR x, vI pl, vI le, vI pr, vI 1, vI w9, a6_12, a7_12, a8_12, a9_12, a10_12, a11_12, a12_12] [vI 5, vR x] wd8 Q
                refine WP.cl (a := [vR x, vI 5]) (rest := []) rfl rfl rfl rfl trivial (by decide) (v_value hh8 (Int.le_refl _) (vV_lo (by omega)) (fun wd10 hh10 => ⟨rfl, ?_⟩))
                show WP 8 113 453 [vR x, vI pl, vI le, vI pr, vI 1, vI w9, a6_12, a7_12, a8_12, a9_12, a10_12, a11_12, a12_12] [vI (f 5)] wd10 Q
                refine WP.blk 1 ?_
                show WP 8 113 (if cnd .lt (f 5) 0 = true then 460 else 456) [vR x, vI pl, vI le, vI pr, vI 1, vI w9, a6_12, a7_12, a8_12, a9_12, a10_12, a11_12, a12_12] [] wd10 Q
                refine br_lt (fun c11 => ?_) (fun c11 => ?_)
                · exfalso; omega
                · refine WP.blk 2 ?_
                  show WP 8 113 461 [vR x, vI pl, vI le, vI pr, vI 1, vI w9, a6_12, a7_12, a8_12, a9_12, a10_12, a11_12, a12_12] [vI 1] wd10 Q
                  exact WP.ret rfl rfl rfl ⟨by omega, trivial⟩ (k _ (ls_le hh10 (by omega)))
          · refine WP.blk 4 ?_
            show WP 8 113 (if cnd .ne (dC (lpp f) 0 .l) 0 = true then 460 else 439) [vR x, vI pl, vI le, vI pr, vI 1, vI w9, a6_12, a7_12, a8_12, a9_12, a10_12, a11_12, a12_12] [] wd5 Q
            refine br_ne (fun c12 => ?_) (fun c12 => ?_)
            · exact absurd (by rw [lpp_0 (by omega)]; exact dc_0) c12
            · refine WP.blk 2 ?_
              show WP 8 113 442 [vR x, vI pl, vI le, vI pr, vI 1, vI w9, a6_12, a7_12, a8_12, a9_12, a10_12, a11_12, a12_12] [vI 6, vR x] wd5 Q
              refine WP.cl (a := [vR x, vI 6]) (rest := []) rfl rfl rfl rfl trivial (by decide) (v_value hh5 (Int.le_refl _) (vV_lo (by omega)) (fun wd13 hh13 => ⟨rfl, ?_⟩))
              show WP 8 113 445 [vR x, vI pl, vI le, vI pr, vI 1, vI w9, a6_12, a7_12, a8_12, a9_12, a10_12, a11_12, a12_12] [vI (f 6)] wd13 Q
              refine WP.blk 1 ?_
              show WP 8 113 (if cnd .lt (f 6) 0 = true then 460 else 448) [vR x, vI pl, vI le, vI pr, vI 1, vI w9, a6_12, a7_12, a8_12, a9_12, a10_12, a11_12, a12_12] [] wd13 Q
              refine br_lt (fun c14 => ?_) (fun c14 => ?_)
              · exfalso; omega
              · refine WP.blk 2 ?_
                show WP 8 113 450 [vR x, vI pl, vI le, vI pr, vI 1, vI w9, a6_12, a7_12, a8_12, a9_12, a10_12, a11_12, a12_12] [vI 5, vR x] wd13 Q
                refine WP.cl (a := [vR x, vI 5]) (rest := []) rfl rfl rfl rfl trivial (by decide) (v_value hh13 (Int.le_refl _) (vV_lo (by omega)) (fun wd15 hh15 => ⟨rfl, ?_⟩))
                show WP 8 113 453 [vR x, vI pl, vI le, vI pr, vI 1, vI w9, a6_12, a7_12, a8_12, a9_12, a10_12, a11_12, a12_12] [vI (f 5)] wd15 Q
                refine WP.blk 1 ?_
                show WP 8 113 (if cnd .lt (f 5) 0 = true then 460 else 456) [vR x, vI pl, vI le, vI pr, vI 1, vI w9, a6_12, a7_12, a8_12, a9_12, a10_12, a11_12, a12_12] [] wd15 Q
                refine br_lt (fun c16 => ?_) (fun c16 => ?_)
                · exfalso; omega
                · refine WP.blk 2 ?_
                  show WP 8 113 461 [vR x, vI pl, vI le, vI pr, vI 1, vI w9, a6_12, a7_12, a8_12, a9_12, a10_12, a11_12, a12_12] [vI 1] wd15 Q
                  exact WP.ret rfl rfl rfl ⟨by omega, trivial⟩ (k _ (ls_le hh15 (by omega)))
      · have hk := (hW.2 w9 q0.1 c2).1
        have hpv := pv_r hA hk
        have hk3 := hk.2.2.1
        have hk4 := hk.2.2.2.1
        refine WP.blk 5 ?_
        show WP 8 113 31 [vR x, vI pl, vI le, vI pr, vI 1, vI w9, a6_12, a7_12, a8_12, a9_12, a10_12, a11_12, a12_12] [vI 2, vI w9, vR x] wd1 Q
        refine WP.cl (a := [vR x, vI w9, vI 2]) (rest := []) rfl rfl rfl rfl trivial (by decide) (v_word hh1 (Int.le_refl _) (wV_2 hA hW (by omega)) (fun wd17 hh17 => ⟨rfl, ?_⟩))
        show WP 8 113 34 [vR x, vI pl, vI le, vI pr, vI 1, vI w9, a6_12, a7_12, a8_12, a9_12, a10_12, a11_12, a12_12] [vI (pv f w9)] wd17 Q
        refine WP.blk 4 ?_
        show WP 8 113 40 [vR x, vI pl, vI le, vI pr, vI 1, vI w9, vI (pv f w9), a7_12, a8_12, a9_12, a10_12, a11_12, a12_12] [vI 0, vI w9, vR x] wd17 Q
        refine WP.cl (a := [vR x, vI w9, vI 0]) (rest := []) rfl rfl rfl rfl trivial (by decide) (v_word hh17 (Int.le_refl _) (wV_0 hA hW (by omega)) (fun wd18 hh18 => ⟨rfl, ?_⟩))
        show WP 8 113 43 [vR x, vI pl, vI le, vI pr, vI 1, vI w9, vI (pv f w9), a7_12, a8_12, a9_12, a10_12, a11_12, a12_12] [vI (f (97 + 14 * w9))] wd18 Q
        refine WP.blk 5 ?_
        show WP 8 113 (if cnd .ne (pv f w9) (-1) = true then 56 else 52) [vR x, vI pl, vI le, vI pr, vI 1, vI w9, vI (pv f w9), vI (f (97 + 14 * w9)), a8_12, a9_12, a10_12, a11_12, a12_12] [vI pl] wd18 Q
        refine br_ne (fun c19 => ?_) (fun c19 => ?_)
        · have nn : pv f w9 ≠ -1 := c19
          obtain ⟨hHas, c, hc⟩ := pv_t hA hk nn
          obtain ⟨hn, q, hq0, hqn, hq⟩ := best_q hA hk hc
          refine WP.blk 7 ?_
          show ir (pl + 1) ∧ WP 8 113 (if cnd .ne (pv f w9) (-1) = true then 70 else 66) [vR x, vI (pl + 1), vI le, vI pr, vI 1, vI w9, vI (pv f w9), vI (f (97 + 14 * w9)), a8_12, a9_12, a10_12, a11_12, a12_12] [vI le] wd18 Q
          refine ⟨(by unfold ir; omega), ?_⟩
          refine br_ne (fun c20 => ?_) (fun c20 => ?_)
          · refine WP.blk 7 ?_
            show ir (le + (f (97 + 14 * w9))) ∧ WP 8 113 (if cnd .ne (pv f w9) (-1) = true then 85 else 81) [vR x, vI (pl + 1), vI (le + (f (97 + 14 * w9))), vI pr, vI 1, vI w9, vI (pv f w9), vI (f (97 + 14 * w9)), a8_12, a9_12, a10_12, a11_12, a12_12] [vI pr] wd18 Q
            refine ⟨(by unfold ir; omega), ?_⟩
            refine br_ne (fun c21 => ?_) (fun c21 => ?_)
            · refine WP.blk 7 ?_
              show ir (pr + (pv f w9)) ∧ WP 8 113 95 [vR x, vI (pl + 1), vI (le + (f (97 + 14 * w9))), vI (pr + (pv f w9)), vI 1, vI w9, vI (pv f w9), vI (f (97 + 14 * w9)), vI 0, vI 0, a10_12, a11_12, a12_12] [] wd18 Q
              refine ⟨(by unfold ir; omega), ?_⟩
              have hl_95 : ∀ (n_95 : Nat) (k : Int) (at9 : Int) (a10_95 : V) (a11_95 : V) (a12_95 : V) (w_95 : Wd), 0 ≤ k ∧ k ≤ pv f w9 → at9 = q k → LwS (N + 200 * w9 + 4 + 15 * k) (B) x L w_95 f fs sv → (pv f w9 - k).toNat < n_95 → WP 8 113 95 [vR x, vI (pl + 1), vI (le + (f (97 + 14 * w9))), vI (pr + (pv f w9)), vI 1, vI w9, vI (pv f w9), vI (f (97 + 14 * w9)), vI at9, vI k, a10_95, a11_95, a12_95] [] w_95 Q := by
                intro n_95
                induction n_95 with
                | zero => intro k at9 a10_95 a11_95 a12_95 w_95 r0 r1 h_95 hm_95; exact absurd hm_95 (Nat.not_lt_zero _)
                | succ n_95 ih_95 =>
                  intro k at9 a10_95 a11_95 a12_95 w_95 r0 r1 h_95 hm_95
                  have hqk := fun (z : k < pv f w9) => hq k r0.1 z
                  refine WP.blk 3 ?_
                  show WP 8 113 (if cnd .ge k (pv f w9) = true then 250 else 102) [vR x, vI (pl + 1), vI (le + (f (97 + 14 * w9))), vI (pr + (pv f w9)), vI 1, vI w9, vI (pv f w9), vI (f (97 + 14 * w9)), vI at9, vI k, a10_95, a11_95, a12_95] [] w_95 Q
                  refine br_ge (fun c22 => ?_) (fun c22 => ?_)
                  · have ek : k = pv f w9 := by omega
                    rw [ek, hqn] at r1
                    refine WP.blk 5 ?_
                    show WP 8 113 (if cnd .ne (pv f w9) (-1) = true then 286 else 261) [vR x, vI (pl + 1), vI (le + (f (97 + 14 * w9))), vI (pr + (pv f w9)), vI 1, vI w9, vI (pv f w9), vI (f (97 + 14 * w9)), vI at9, vI k, a10_95, a11_95, a12_95] [] w_95 Q
                    refine br_ne (fun c23 => ?_) (fun c23 => ?_)
                    · refine WP.blk 3 ?_
                      show WP 8 113 (if cnd .ne at9 (f (97 + 14 * w9)) = true then 394 else 293) [vR x, vI (pl + 1), vI (le + (f (97 + 14 * w9))), vI (pr + (pv f w9)), vI 1, vI w9, vI (pv f w9), vI (f (97 + 14 * w9)), vI at9, vI k, a10_95, a11_95, a12_95] [] w_95 Q
                      refine br_ne (fun c24 => ?_) (fun c24 => ?_)
                      · exfalso; omega
                      · refine WP.blk 2 ?_
                        show WP 8 113 (if cnd .le (pv f w9) 0 = true then 394 else 298) [vR x, vI (pl + 1), vI (le + (f (97 + 14 * w9))), vI (pr + (pv f w9)), vI 1, vI w9, vI (pv f w9), vI (f (97 + 14 * w9)), vI at9, vI k, a10_95, a11_95, a12_95] [] w_95 Q
                        refine br_le (fun c25 => ?_) (fun c25 => ?_)
                        · exfalso; omega
                        · refine WP.blk 3 ?_
                          show WP 8 113 (if cnd .gt (pv f w9) (f (97 + 14 * w9)) = true then 394 else 305) [vR x, vI (pl + 1), vI (le + (f (97 + 14 * w9))), vI (pr + (pv f w9)), vI 1, vI w9, vI (pv f w9), vI (f (97 + 14 * w9)), vI at9, vI k, a10_95, a11_95, a12_95] [] w_95 Q
                          refine br_gt (fun c26 => ?_) (fun c26 => ?_)
                          · exfalso; omega
                          · refine WP.blk 3 ?_
                            show WP 8 113 310 [vR x, vI (pl + 1), vI (le + (f (97 + 14 * w9))), vI (pr + (pv f w9)), vI 1, vI w9, vI (pv f w9), vI (f (97 + 14 * w9)), vI at9, vI k, a10_95, a11_95, a12_95] [vI (pv f w9), vI w9, vR x] w_95 Q
                            refine WP.cl (a := [vR x, vI w9, vI (pv f w9)]) (rest := []) rfl rfl rfl rfl trivial (by decide) (v_press h_95 (Int.le_refl _) (fun _ c9 n9 _ hj9 b9 hi9 => by exfalso; have := (bestp_u hA hk hc b9).1; omega) (fun wd27 hh27 _ => ⟨rfl, ?_⟩))
                            show WP 8 113 313 [vR x, vI (pl + 1), vI (le + (f (97 + 14 * w9))), vI (pr + (pv f w9)), vI 1, vI w9, vI (pv f w9), vI (f (97 + 14 * w9)), vI at9, vI k, a10_95, a11_95, a12_95] [vI (-5000003)] wd27 Q
                            refine WP.blk 5 ?_
                            show WP 8 113 322 [vR x, vI (pl + 1), vI (le + (f (97 + 14 * w9))), vI (pr + (pv f w9)), vI 1, vI w9, vI (pv f w9), vI (f (97 + 14 * w9)), vI at9, vI k, a10_95, a11_95, a12_95] [vI 3, vI w9, vR x] wd27 Q
                            obtain ⟨g29, eg29, og29⟩ := pc_x hA hW (show 0 ≤ w9 ∧ w9 < f 1 by omega)
                            refine WP.cl (a := [vR x, vI w9, vI 3]) (rest := []) rfl rfl rfl rfl trivial (by decide) (v_word hh27 (Int.le_refl _) eg29 (fun wd28 hh28 => ⟨rfl, ?_⟩))
                            show WP 8 113 325 [vR x, vI (pl + 1), vI (le + (f (97 + 14 * w9))), vI (pr + (pv f w9)), vI 1, vI w9, vI (pv f w9), vI (f (97 + 14 * w9)), vI at9, vI k, a10_95, a11_95, a12_95] [vI g29] wd28 Q
                            refine WP.blk 2 ?_
                            show WP 8 113 (if cnd .eq g29 1 = true then 351 else 329) [vR x, vI (pl + 1), vI (le + (f (97 + 14 * w9))), vI (pr + (pv f w9)), vI 1, vI w9, vI (pv f w9), vI (f (97 + 14 * w9)), vI at9, vI k, a10_95, a11_95, a12_95] [] wd28 Q
                            refine br_eq (fun c30 => ?_) (fun c30 => ?_)
                            · have hle := wV_le hA hW (show 0 ≤ w9 ∧ w9 < f 1 by omega) (pc_t og29 (by omega))
                              refine WP.blk 3 ?_
                              show WP 8 113 355 [vR x, vI (pl + 1), vI (le + (f (97 + 14 * w9))), vI (pr + (pv f w9)), vI 1, vI w9, vI (pv f w9), vI (f (97 + 14 * w9)), vI at9, vI k, a10_95, a11_95, a12_95] [vI 3, vI w9, vR x] wd28 Q
                              refine WP.cl (a := [vR x, vI w9, vI 3]) (rest := []) rfl rfl rfl rfl trivial (by decide) (v_word hh28 (Int.le_refl _) eg29 (fun wd31 hh31 => ⟨rfl, ?_⟩))
                              show WP 8 113 358 [vR x, vI (pl + 1), vI (le + (f (97 + 14 * w9))), vI (pr + (pv f w9)), vI 1, vI w9, vI (pv f w9), vI (f (97 + 14 * w9)), vI at9, vI k, a10_95, a11_95, a12_95] [vI g29] wd31 Q
                              refine WP.blk 1 ?_
                              show WP 8 113 (if cnd .eq g29 0 = true then 390 else 361) [vR x, vI (pl + 1), vI (le + (f (97 + 14 * w9))), vI (pr + (pv f w9)), vI 1, vI w9, vI (pv f w9), vI (f (97 + 14 * w9)), vI at9, vI k, a10_95, a11_95, a12_95] [] wd31 Q
                              refine br_eq (fun c32 => ?_) (fun c32 => ?_)
                              · exfalso; omega
                              · refine WP.blk 3 ?_
                                show WP 8 113 365 [vR x, vI (pl + 1), vI (le + (f (97 + 14 * w9))), vI (pr + (pv f w9)), vI 1, vI w9, vI (pv f w9), vI (f (97 + 14 * w9)), vI at9, vI k, a10_95, a11_95, a12_95] [vI 5, vI w9, vR x] wd31 Q
                                refine WP.cl (a := [vR x, vI w9, vI 5]) (rest := []) rfl rfl rfl rfl trivial (by decide) (v_word hh31 (Int.le_refl _) rfl (fun wd33 hh33 => ⟨rfl, ?_⟩))
                                show WP 8 113 368 [vR x, vI (pl + 1), vI (le + (f (97 + 14 * w9))), vI (pr + (pv f w9)), vI 1, vI w9, vI (pv f w9), vI (f (97 + 14 * w9)), vI at9, vI k, a10_95, a11_95, a12_95] [vI (wV f w9 5)] wd33 Q
                                refine WP.blk 3 ?_
                                show WP 8 113 372 [vR x, vI (pl + 1), vI (le + (f (97 + 14 * w9))), vI (pr + (pv f w9)), vI 1, vI w9, vI (pv f w9), vI (f (97 + 14 * w9)), vI at9, vI k, a10_95, a11_95, a12_95] [vI 4, vI w9, vR x, vI (wV f w9 5)] wd33 Q
                                refine WP.cl (a := [vR x, vI w9, vI 4]) (rest := [vI (wV f w9 5)]) rfl rfl rfl rfl trivial (by decide) (v_word hh33 (Int.le_refl _) rfl (fun wd34 hh34 => ⟨rfl, ?_⟩))
                                show WP 8 113 375 [vR x, vI (pl + 1), vI (le + (f (97 + 14 * w9))), vI (pr + (pv f w9)), vI 1, vI w9, vI (pv f w9), vI (f (97 + 14 * w9)), vI at9, vI k, a10_95, a11_95, a12_95] [vI (wV f w9 4), vI (wV f w9 5)] wd34 Q
                                refine WP.blk 1 ?_
                                show WP 8 113 (if cnd .gt (wV f w9 5) (wV f w9 4) = true then 394 else 378) [vR x, vI (pl + 1), vI (le + (f (97 + 14 * w9))), vI (pr + (pv f w9)), vI 1, vI w9, vI (pv f w9), vI (f (97 + 14 * w9)), vI at9, vI k, a10_95, a11_95, a12_95] [] wd34 Q
                                refine br_gt (fun c35 => ?_) (fun c35 => ?_)
                                · exfalso; omega
                                · refine WP.blk 3 ?_
                                  show WP 8 113 382 [vR x, vI (pl + 1), vI (le + (f (97 + 14 * w9))), vI (pr + (pv f w9)), vI 1, vI w9, vI (pv f w9), vI (f (97 + 14 * w9)), vI at9, vI k, a10_95, a11_95, a12_95] [vI 4, vI w9, vR x] wd34 Q
                                  refine WP.cl (a := [vR x, vI w9, vI 4]) (rest := []) rfl rfl rfl rfl trivial (by decide) (v_word hh34 (Int.le_refl _) rfl (fun wd36 hh36 => ⟨rfl, ?_⟩))
                                  show WP 8 113 385 [vR x, vI (pl + 1), vI (le + (f (97 + 14 * w9))), vI (pr + (pv f w9)), vI 1, vI w9, vI (pv f w9), vI (f (97 + 14 * w9)), vI at9, vI k, a10_95, a11_95, a12_95] [vI (wV f w9 4)] wd36 Q
                                  refine WP.blk 2 ?_
                                  show WP 8 113 (if cnd .gt (wV f w9 4) (pv f w9) = true then 394 else 390) [vR x, vI (pl + 1), vI (le + (f (97 + 14 * w9))), vI (pr + (pv f w9)), vI 1, vI w9, vI (pv f w9), vI (f (97 + 14 * w9)), vI at9, vI k, a10_95, a11_95, a12_95] [] wd36 Q
                                  refine br_gt (fun c37 => ?_) (fun c37 => ?_)
                                  · exfalso; omega
                                  · refine WP.blk 5 ?_
                                    show ir (w9 + 1) ∧ WP 8 113 12 [vR x, vI (pl + 1), vI (le + (f (97 + 14 * w9))), vI (pr + (pv f w9)), vI 1, vI (w9 + 1), vI (pv f w9), vI (f (97 + 14 * w9)), vI at9, vI k, a10_95, a11_95, a12_95] [] wd36 Q
                                    refine ⟨(by unfold ir; omega), ?_⟩
                                    exact ih_12 (w9 + 1) (pl + 1) (le + (f (97 + 14 * w9))) (pr + (pv f w9)) (vI (pv f w9)) (vI (f (97 + 14 * w9))) (vI at9) (vI k) (a10_95) (a11_95) (a12_95) wd36 (by omega) (by rw [num_t q0.1 (pv_t hA hk nn).1, q1]) (by rw [sm_s q0.1, (lt1_t nn).1, q2]) (by rw [sm_s q0.1, (lt1_t nn).2, q3]) (by omega) (by omega) (ls_le hh36 (by omega)) (by omega)
                            · have hnc2 := pc_f og29 c30
                              have hb3 := pc_b og29
                              refine WP.blk 3 ?_
                              show WP 8 113 333 [vR x, vI (pl + 1), vI (le + (f (97 + 14 * w9))), vI (pr + (pv f w9)), vI 1, vI w9, vI (pv f w9), vI (f (97 + 14 * w9)), vI at9, vI k, a10_95, a11_95, a12_95] [vI 4, vI w9, vR x] wd28 Q
                              refine WP.cl (a := [vR x, vI w9, vI 4]) (rest := []) rfl rfl rfl rfl trivial (by decide) (v_word hh28 (Int.le_refl _) (wV_45f hA hW (by omega) hnc2).1 (fun wd38 hh38 => ⟨rfl, ?_⟩))
                              show WP 8 113 336 [vR x, vI (pl + 1), vI (le + (f (97 + 14 * w9))), vI (pr + (pv f w9)), vI 1, vI w9, vI (pv f w9), vI (f (97 + 14 * w9)), vI at9, vI k, a10_95, a11_95, a12_95] [vI (-1)] wd38 Q
                              refine WP.blk 5 ?_
                              show WP 8 113 344 [vR x, vI (pl + 1), vI (le + (f (97 + 14 * w9))), vI (pr + (pv f w9)), vI 1, vI w9, vI (pv f w9), vI (f (97 + 14 * w9)), vI at9, vI k, a10_95, a11_95, a12_95] [vI 5, vI w9, vR x] wd38 Q
                              refine WP.cl (a := [vR x, vI w9, vI 5]) (rest := []) rfl rfl rfl rfl trivial (by decide) (v_word hh38 (Int.le_refl _) (wV_45f hA hW (by omega) hnc2).2 (fun wd39 hh39 => ⟨rfl, ?_⟩))
                              show WP 8 113 347 [vR x, vI (pl + 1), vI (le + (f (97 + 14 * w9))), vI (pr + (pv f w9)), vI 1, vI w9, vI (pv f w9), vI (f (97 + 14 * w9)), vI at9, vI k, a10_95, a11_95, a12_95] [vI (-1)] wd39 Q
                              refine WP.blk 5 ?_
                              show WP 8 113 355 [vR x, vI (pl + 1), vI (le + (f (97 + 14 * w9))), vI (pr + (pv f w9)), vI 1, vI w9, vI (pv f w9), vI (f (97 + 14 * w9)), vI at9, vI k, a10_95, a11_95, a12_95] [vI 3, vI w9, vR x] wd39 Q
                              refine WP.cl (a := [vR x, vI w9, vI 3]) (rest := []) rfl rfl rfl rfl trivial (by decide) (v_word hh39 (Int.le_refl _) eg29 (fun wd40 hh40 => ⟨rfl, ?_⟩))
                              show WP 8 113 358 [vR x, vI (pl + 1), vI (le + (f (97 + 14 * w9))), vI (pr + (pv f w9)), vI 1, vI w9, vI (pv f w9), vI (f (97 + 14 * w9)), vI at9, vI k, a10_95, a11_95, a12_95] [vI g29] wd40 Q
                              refine WP.blk 1 ?_
                              show WP 8 113 (if cnd .eq g29 0 = true then 390 else 361) [vR x, vI (pl + 1), vI (le + (f (97 + 14 * w9))), vI (pr + (pv f w9)), vI 1, vI w9, vI (pv f w9), vI (f (97 + 14 * w9)), vI at9, vI k, a10_95, a11_95, a12_95] [] wd40 Q
                              refine br_eq (fun c41 => ?_) (fun c41 => ?_)
                              · refine WP.blk 5 ?_
                                show ir (w9 + 1) ∧ WP 8 113 12 [vR x, vI (pl + 1), vI (le + (f (97 + 14 * w9))), vI (pr + (pv f w9)), vI 1, vI (w9 + 1), vI (pv f w9), vI (f (97 + 14 * w9)), vI at9, vI k, a10_95, a11_95, a12_95] [] wd40 Q
                                refine ⟨(by unfold ir; omega), ?_⟩
                                exact ih_12 (w9 + 1) (pl + 1) (le + (f (97 + 14 * w9))) (pr + (pv f w9)) (vI (pv f w9)) (vI (f (97 + 14 * w9))) (vI at9) (vI k) (a10_95) (a11_95) (a12_95) wd40 (by omega) (by rw [num_t q0.1 (pv_t hA hk nn).1, q1]) (by rw [sm_s q0.1, (lt1_t nn).1, q2]) (by rw [sm_s q0.1, (lt1_t nn).2, q3]) (by omega) (by omega) (ls_le hh40 (by omega)) (by omega)
                              · exfalso; omega
                    · exfalso; omega
                  · obtain ⟨⟨g1, g2, g3, g4⟩, ⟨g5, g6⟩, g7, g8⟩ := hq k r0.1 c22
                    obtain ⟨-, s2, s3, s4, -⟩ := hA.2 (c k / 2) (by omega) g2
                    refine WP.blk 5 ?_
                    show WP 8 113 112 [vR x, vI (pl + 1), vI (le + (f (97 + 14 * w9))), vI (pr + (pv f w9)), vI 1, vI w9, vI (pv f w9), vI (f (97 + 14 * w9)), vI at9, vI k, a10_95, a11_95, a12_95] [vI k, vI w9, vR x] w_95 Q
                    refine WP.cl (a := [vR x, vI w9, vI k]) (rest := []) rfl rfl rfl rfl trivial (by decide) (v_press h_95 (Int.le_refl _) (fun wd42 c9 n9 hh42 hj9 b9 hi9 => ⟨rfl, ?_⟩) (fun _ _ hn => (hn.elim (fun z => z (by omega)) (fun z => z c _ hc (by omega))).elim))
                    show WP 8 113 115 [vR x, vI (pl + 1), vI (le + (f (97 + 14 * w9))), vI (pr + (pv f w9)), vI 1, vI w9, vI (pv f w9), vI (f (97 + 14 * w9)), vI at9, vI k, a10_95, a11_95, a12_95] [vI (c9 k)] wd42 Q
                    rw [← (bestp_u hA hk hc b9).2 k (by omega) (by omega)]
                    refine WP.blk 6 ?_
                    show (0 ≤ (c k) ∧ 0 < 2) ∧ WP 8 113 123 [vR x, vI (pl + 1), vI (le + (f (97 + 14 * w9))), vI (pr + (pv f w9)), vI 1, vI w9, vI (pv f w9), vI (f (97 + 14 * w9)), vI at9, vI k, vI (c k), a11_95, a12_95] [vI 0, vI ((c k) / 2), vR x] wd42 Q
                    refine ⟨(by omega), ?_⟩
                    refine WP.cl (a := [vR x, vI ((c k) / 2), vI 0]) (rest := []) rfl rfl rfl rfl trivial (by decide) (v_stamp hh42 (Int.le_refl _) (sV_0 (by omega)) (fun wd43 hh43 => ⟨rfl, ?_⟩))
                    show WP 8 113 126 [vR x, vI (pl + 1), vI (le + (f (97 + 14 * w9))), vI (pr + (pv f w9)), vI 1, vI w9, vI (pv f w9), vI (f (97 + 14 * w9)), vI at9, vI k, vI (c k), a11_95, a12_95] [vI (f (7 + 9 * ((c k) / 2)))] wd43 Q
                    refine WP.blk 3 ?_
                    show WP 8 113 (if cnd .lt (c k) 0 = true then 169 else 133) [vR x, vI (pl + 1), vI (le + (f (97 + 14 * w9))), vI (pr + (pv f w9)), vI 1, vI w9, vI (pv f w9), vI (f (97 + 14 * w9)), vI at9, vI k, vI (c k), vI (f (7 + 9 * ((c k) / 2))), a12_95] [] wd43 Q
                    refine br_lt (fun c44 => ?_) (fun c44 => ?_)
                    · exfalso; omega
                    · refine WP.blk 5 ?_
                      show (0 ≤ (c k) ∧ 0 < 2) ∧ WP 8 113 139 [vR x, vI (pl + 1), vI (le + (f (97 + 14 * w9))), vI (pr + (pv f w9)), vI 1, vI w9, vI (pv f w9), vI (f (97 + 14 * w9)), vI at9, vI k, vI (c k), vI (f (7 + 9 * ((c k) / 2))), a12_95] [vI 5, vI ((c k) / 2), vR x] wd43 Q
                      refine ⟨(by omega), ?_⟩
                      refine WP.cl (a := [vR x, vI ((c k) / 2), vI 5]) (rest := []) rfl rfl rfl rfl trivial (by decide) (v_stamp hh43 (Int.le_refl _) (sV_5f (by omega) g3) (fun wd45 hh45 => ⟨rfl, ?_⟩))
                      show WP 8 113 142 [vR x, vI (pl + 1), vI (le + (f (97 + 14 * w9))), vI (pr + (pv f w9)), vI 1, vI w9, vI (pv f w9), vI (f (97 + 14 * w9)), vI at9, vI k, vI (c k), vI (f (7 + 9 * ((c k) / 2))), a12_95] [vI 0] wd45 Q
                      refine WP.blk 5 ?_
                      show (0 ≤ (c k) ∧ 0 < 2) ∧ WP 8 113 (if cnd .eq ((c k) % 2) 0 = true then 165 else 152) [vR x, vI (pl + 1), vI (le + (f (97 + 14 * w9))), vI (pr + (pv f w9)), vI 1, vI w9, vI (pv f w9), vI (f (97 + 14 * w9)), vI at9, vI k, vI (c k), vI (f (7 + 9 * ((c k) / 2))), a12_95] [] wd45 Q
                      refine ⟨(by omega), ?_⟩
                      refine br_eq (fun c46 => ?_) (fun c46 => ?_)
                      · have ep : c k % 2 = 0 := c46
                        rw [ep] at g6
                        refine WP.blk 5 ?_
                        show WP 8 113 175 [vR x, vI (pl + 1), vI (le + (f (97 + 14 * w9))), vI (pr + (pv f w9)), vI 1, vI w9, vI (pv f w9), vI (f (97 + 14 * w9)), vI at9, vI k, vI (c k), vI (f (7 + 9 * ((c k) / 2))), vI 0] [] wd45 Q
                        have hl_175 : ∀ (n_175 : Nat) (j : Int) (w_175 : Wd), 0 ≤ j ∧ j ≤ f (7 + 9 * (c k / 2)) → LwS (N + 200 * w9 + 4 + 15 * k + 5 + 2 * j) (B) x L w_175 f fs sv → (f (7 + 9 * (c k / 2)) - j).toNat < n_175 → WP 8 113 175 [vR x, vI (pl + 1), vI (le + (f (97 + 14 * w9))), vI (pr + (pv f w9)), vI 1, vI w9, vI (pv f w9), vI (f (97 + 14 * w9)), vI at9, vI k, vI (c k), vI (f (7 + 9 * ((c k) / 2))), vI j] [] w_175 Q := by
                          intro n_175
                          induction n_175 with
                          | zero => intro j w_175 j0 h_175 hm_175; exact absurd hm_175 (Nat.not_lt_zero _)
                          | succ n_175 ih_175 =>
                            intro j w_175 j0 h_175 hm_175
                            refine WP.blk 3 ?_
                            show WP 8 113 (if cnd .ge j (f (7 + 9 * ((c k) / 2))) = true then 237 else 182) [vR x, vI (pl + 1), vI (le + (f (97 + 14 * w9))), vI (pr + (pv f w9)), vI 1, vI w9, vI (pv f w9), vI (f (97 + 14 * w9)), vI at9, vI k, vI (c k), vI (f (7 + 9 * ((c k) / 2))), vI j] [] w_175 Q
                            refine br_ge (fun c47 => ?_) (fun c47 => ?_)
                            · refine WP.blk 6 ?_
                              show ir (at9 + (f (7 + 9 * ((c k) / 2)))) ∧ ir (k + 1) ∧ WP 8 113 95 [vR x, vI (pl + 1), vI (le + (f (97 + 14 * w9))), vI (pr + (pv f w9)), vI 1, vI w9, vI (pv f w9), vI (f (97 + 14 * w9)), vI (at9 + (f (7 + 9 * ((c k) / 2)))), vI (k + 1), vI (c k), vI (f (7 + 9 * ((c k) / 2))), vI j] [] w_175 Q
                              refine ⟨(by unfold ir; omega), (by unfold ir; omega), ?_⟩
                              exact ih_95 (k + 1) (at9 + (f (7 + 9 * ((c k) / 2)))) (vI (c k)) (vI (f (7 + 9 * ((c k) / 2)))) (vI j) w_175 (by omega) (by rw [g7, r1]) (ls_le h_175 (by omega)) (by omega)
                            · refine WP.blk 12 ?_
                              show (0 ≤ (c k) ∧ 0 < 2) ∧ (0 ≤ (c k) ∧ 0 < 2) ∧ WP 8 113 (if cnd .ne ((c k) % 2) 1 = true then 206 else 202) [vR x, vI (pl + 1), vI (le + (f (97 + 14 * w9))), vI (pr + (pv f w9)), vI 1, vI w9, vI (pv f w9), vI (f (97 + 14 * w9)), vI at9, vI k, vI (c k), vI (f (7 + 9 * ((c k) / 2))), vI j] [vI j, vI ((c k) / 2), vR x] w_175 Q
                              refine ⟨(by omega), (by omega), ?_⟩
                              refine br_ne (fun c48 => ?_) (fun c48 => ?_)
                              · refine WP.blk 1 ?_
                                show WP 8 113 207 [vR x, vI (pl + 1), vI (le + (f (97 + 14 * w9))), vI (pr + (pv f w9)), vI 1, vI w9, vI (pv f w9), vI (f (97 + 14 * w9)), vI at9, vI k, vI (c k), vI (f (7 + 9 * ((c k) / 2))), vI j] [vI 0, vI j, vI ((c k) / 2), vR x] w_175 Q
                                refine WP.cl (a := [vR x, vI ((c k) / 2), vI j, vI 0]) (rest := []) rfl rfl rfl rfl trivial (by decide) (v_print h_175 (Int.le_refl _) ((pV_in (by omega) (fun _ => absurd rfl (by assumption))).trans (g6 j (by omega) (by omega))) (fun wd49 hh49 => ⟨rfl, ?_⟩))
                                show WP 8 113 210 [vR x, vI (pl + 1), vI (le + (f (97 + 14 * w9))), vI (pr + (pv f w9)), vI 1, vI w9, vI (pv f w9), vI (f (97 + 14 * w9)), vI at9, vI k, vI (c k), vI (f (7 + 9 * ((c k) / 2))), vI j] [vI (f (97 + 14 * w9 + 2 + q k + j))] wd49 Q
                                refine WP.blk 5 ?_
                                show ir (at9 + j) ∧ WP 8 113 218 [vR x, vI (pl + 1), vI (le + (f (97 + 14 * w9))), vI (pr + (pv f w9)), vI 1, vI w9, vI (pv f w9), vI (f (97 + 14 * w9)), vI at9, vI k, vI (c k), vI (f (7 + 9 * ((c k) / 2))), vI j] [vI (at9 + j), vI w9, vR x, vI (f (97 + 14 * w9 + 2 + q k + j))] wd49 Q
                                refine ⟨(by unfold ir; omega), ?_⟩
                                refine WP.cl (a := [vR x, vI w9, vI (at9 + j)]) (rest := [vI (f (97 + 14 * w9 + 2 + q k + j))]) rfl rfl rfl rfl trivial (by decide) (v_letter hh49 (Int.le_refl _) ((lV_in (by omega)).trans (congrArg f (show 97 + 14 * w9 + 2 + (at9 + j) = 97 + 14 * w9 + 2 + q k + j by omega))) (fun wd50 hh50 => ⟨rfl, ?_⟩))
                                show WP 8 113 221 [vR x, vI (pl + 1), vI (le + (f (97 + 14 * w9))), vI (pr + (pv f w9)), vI 1, vI w9, vI (pv f w9), vI (f (97 + 14 * w9)), vI at9, vI k, vI (c k), vI (f (7 + 9 * ((c k) / 2))), vI j] [vI (f (97 + 14 * w9 + 2 + q k + j)), vI (f (97 + 14 * w9 + 2 + q k + j))] wd50 Q
                                refine WP.blk 1 ?_
                                show WP 8 113 (if cnd .ne (f (97 + 14 * w9 + 2 + q k + j)) (f (97 + 14 * w9 + 2 + q k + j)) = true then 228 else 224) [vR x, vI (pl + 1), vI (le + (f (97 + 14 * w9))), vI (pr + (pv f w9)), vI 1, vI w9, vI (pv f w9), vI (f (97 + 14 * w9)), vI at9, vI k, vI (c k), vI (f (7 + 9 * ((c k) / 2))), vI j] [] wd50 Q
                                refine br_ne (fun c51 => ?_) (fun c51 => ?_)
                                · exact absurd rfl c51
                                · refine WP.blk 5 ?_
                                  show ir (j + 1) ∧ WP 8 113 175 [vR x, vI (pl + 1), vI (le + (f (97 + 14 * w9))), vI (pr + (pv f w9)), vI 1, vI w9, vI (pv f w9), vI (f (97 + 14 * w9)), vI at9, vI k, vI (c k), vI (f (7 + 9 * ((c k) / 2))), vI (j + 1)] [] wd50 Q
                                  refine ⟨(by unfold ir; omega), ?_⟩
                                  exact ih_175 (j + 1) wd50 (by omega) (ls_le hh50 (by omega)) (by omega)
                              · exfalso; omega
                        exact hl_175 _ 0 wd45 (by omega) (ls_le hh45 (by omega)) (Nat.lt_succ_self _)
                      · have ep : c k % 2 = 1 := by omega
                        rw [ep] at g6
                        refine WP.blk 5 ?_
                        show (0 ≤ (c k) ∧ 0 < 2) ∧ WP 8 113 158 [vR x, vI (pl + 1), vI (le + (f (97 + 14 * w9))), vI (pr + (pv f w9)), vI 1, vI w9, vI (pv f w9), vI (f (97 + 14 * w9)), vI at9, vI k, vI (c k), vI (f (7 + 9 * ((c k) / 2))), a12_95] [vI 4, vI ((c k) / 2), vR x] wd45 Q
                        refine ⟨(by omega), ?_⟩
                        refine WP.cl (a := [vR x, vI ((c k) / 2), vI 4]) (rest := []) rfl rfl rfl rfl trivial (by decide) (v_stamp hh45 (Int.le_refl _) (sV_4t (by omega) (g4 (by omega))) (fun wd52 hh52 => ⟨rfl, ?_⟩))
                        show WP 8 113 161 [vR x, vI (pl + 1), vI (le + (f (97 + 14 * w9))), vI (pr + (pv f w9)), vI 1, vI w9, vI (pv f w9), vI (f (97 + 14 * w9)), vI at9, vI k, vI (c k), vI (f (7 + 9 * ((c k) / 2))), a12_95] [vI 1] wd52 Q
                        refine WP.blk 7 ?_
                        show WP 8 113 175 [vR x, vI (pl + 1), vI (le + (f (97 + 14 * w9))), vI (pr + (pv f w9)), vI 1, vI w9, vI (pv f w9), vI (f (97 + 14 * w9)), vI at9, vI k, vI (c k), vI (f (7 + 9 * ((c k) / 2))), vI 0] [] wd52 Q
                        have hl_175 : ∀ (n_175 : Nat) (j : Int) (w_175 : Wd), 0 ≤ j ∧ j ≤ f (7 + 9 * (c k / 2)) → LwS (N + 200 * w9 + 4 + 15 * k + 5 + 2 * j) (B) x L w_175 f fs sv → (f (7 + 9 * (c k / 2)) - j).toNat < n_175 → WP 8 113 175 [vR x, vI (pl + 1), vI (le + (f (97 + 14 * w9))), vI (pr + (pv f w9)), vI 1, vI w9, vI (pv f w9), vI (f (97 + 14 * w9)), vI at9, vI k, vI (c k), vI (f (7 + 9 * ((c k) / 2))), vI j] [] w_175 Q := by
                          intro n_175
                          induction n_175 with
                          | zero => intro j w_175 j0 h_175 hm_175; exact absurd hm_175 (Nat.not_lt_zero _)
                          | succ n_175 ih_175 =>
                            intro j w_175 j0 h_175 hm_175
                            refine WP.blk 3 ?_
                            show WP 8 113 (if cnd .ge j (f (7 + 9 * ((c k) / 2))) = true then 237 else 182) [vR x, vI (pl + 1), vI (le + (f (97 + 14 * w9))), vI (pr + (pv f w9)), vI 1, vI w9, vI (pv f w9), vI (f (97 + 14 * w9)), vI at9, vI k, vI (c k), vI (f (7 + 9 * ((c k) / 2))), vI j] [] w_175 Q
                            refine br_ge (fun c53 => ?_) (fun c53 => ?_)
                            · refine WP.blk 6 ?_
                              show ir (at9 + (f (7 + 9 * ((c k) / 2)))) ∧ ir (k + 1) ∧ WP 8 113 95 [vR x, vI (pl + 1), vI (le + (f (97 + 14 * w9))), vI (pr + (pv f w9)), vI 1, vI w9, vI (pv f w9), vI (f (97 + 14 * w9)), vI (at9 + (f (7 + 9 * ((c k) / 2)))), vI (k + 1), vI (c k), vI (f (7 + 9 * ((c k) / 2))), vI j] [] w_175 Q
                              refine ⟨(by unfold ir; omega), (by unfold ir; omega), ?_⟩
                              exact ih_95 (k + 1) (at9 + (f (7 + 9 * ((c k) / 2)))) (vI (c k)) (vI (f (7 + 9 * ((c k) / 2)))) (vI j) w_175 (by omega) (by rw [g7, r1]) (ls_le h_175 (by omega)) (by omega)
                            · refine WP.blk 12 ?_
                              show (0 ≤ (c k) ∧ 0 < 2) ∧ (0 ≤ (c k) ∧ 0 < 2) ∧ WP 8 113 (if cnd .ne ((c k) % 2) 1 = true then 206 else 202) [vR x, vI (pl + 1), vI (le + (f (97 + 14 * w9))), vI (pr + (pv f w9)), vI 1, vI w9, vI (pv f w9), vI (f (97 + 14 * w9)), vI at9, vI k, vI (c k), vI (f (7 + 9 * ((c k) / 2))), vI j] [vI j, vI ((c k) / 2), vR x] w_175 Q
                              refine ⟨(by omega), (by omega), ?_⟩
                              refine br_ne (fun c54 => ?_) (fun c54 => ?_)
                              · exfalso; omega
                              · refine WP.blk 2 ?_
                                show WP 8 113 207 [vR x, vI (pl + 1), vI (le + (f (97 + 14 * w9))), vI (pr + (pv f w9)), vI 1, vI w9, vI (pv f w9), vI (f (97 + 14 * w9)), vI at9, vI k, vI (c k), vI (f (7 + 9 * ((c k) / 2))), vI j] [vI 1, vI j, vI ((c k) / 2), vR x] w_175 Q
                                refine WP.cl (a := [vR x, vI ((c k) / 2), vI j, vI 1]) (rest := []) rfl rfl rfl rfl trivial (by decide) (v_print h_175 (Int.le_refl _) ((pV_in (by omega) (fun _ => g4 (by omega))).trans (g6 j (by omega) (by omega))) (fun wd55 hh55 => ⟨rfl, ?_⟩))
                                show WP 8 113 210 [vR x, vI (pl + 1), vI (le + (f (97 + 14 * w9))), vI (pr + (pv f w9)), vI 1, vI w9, vI (pv f w9), vI (f (97 + 14 * w9)), vI at9, vI k, vI (c k), vI (f (7 + 9 * ((c k) / 2))), vI j] [vI (f (97 + 14 * w9 + 2 + q k + j))] wd55 Q
                                refine WP.blk 5 ?_
                                show ir (at9 + j) ∧ WP 8 113 218 [vR x, vI (pl + 1), vI (le + (f (97 + 14 * w9))), vI (pr + (pv f w9)), vI 1, vI w9, vI (pv f w9), vI (f (97 + 14 * w9)), vI at9, vI k, vI (c k), vI (f (7 + 9 * ((c k) / 2))), vI j] [vI (at9 + j), vI w9, vR x, vI (f (97 + 14 * w9 + 2 + q k + j))] wd55 Q
                                refine ⟨(by unfold ir; omega), ?_⟩
                                refine WP.cl (a := [vR x, vI w9, vI (at9 + j)]) (rest := [vI (f (97 + 14 * w9 + 2 + q k + j))]) rfl rfl rfl rfl trivial (by decide) (v_letter hh55 (Int.le_refl _) ((lV_in (by omega)).trans (congrArg f (show 97 + 14 * w9 + 2 + (at9 + j) = 97 + 14 * w9 + 2 + q k + j by omega))) (fun wd56 hh56 => ⟨rfl, ?_⟩))
                                show WP 8 113 221 [vR x, vI (pl + 1), vI (le + (f (97 + 14 * w9))), vI (pr + (pv f w9)), vI 1, vI w9, vI (pv f w9), vI (f (97 + 14 * w9)), vI at9, vI k, vI (c k), vI (f (7 + 9 * ((c k) / 2))), vI j] [vI (f (97 + 14 * w9 + 2 + q k + j)), vI (f (97 + 14 * w9 + 2 + q k + j))] wd56 Q
                                refine WP.blk 1 ?_
                                show WP 8 113 (if cnd .ne (f (97 + 14 * w9 + 2 + q k + j)) (f (97 + 14 * w9 + 2 + q k + j)) = true then 228 else 224) [vR x, vI (pl + 1), vI (le + (f (97 + 14 * w9))), vI (pr + (pv f w9)), vI 1, vI w9, vI (pv f w9), vI (f (97 + 14 * w9)), vI at9, vI k, vI (c k), vI (f (7 + 9 * ((c k) / 2))), vI j] [] wd56 Q
                                refine br_ne (fun c57 => ?_) (fun c57 => ?_)
                                · exact absurd rfl c57
                                · refine WP.blk 5 ?_
                                  show ir (j + 1) ∧ WP 8 113 175 [vR x, vI (pl + 1), vI (le + (f (97 + 14 * w9))), vI (pr + (pv f w9)), vI 1, vI w9, vI (pv f w9), vI (f (97 + 14 * w9)), vI at9, vI k, vI (c k), vI (f (7 + 9 * ((c k) / 2))), vI (j + 1)] [] wd56 Q
                                  refine ⟨(by unfold ir; omega), ?_⟩
                                  exact ih_175 (j + 1) wd56 (by omega) (ls_le hh56 (by omega)) (by omega)
                        exact hl_175 _ 0 wd52 (by omega) (ls_le hh52 (by omega)) (Nat.lt_succ_self _)
              exact hl_95 _ 0 0 (a10_12) (a11_12) (a12_12) wd18 (by omega) (by rw [hq0]) (ls_le hh18 (by omega)) (Nat.lt_succ_self _)
            · exfalso; omega
          · exfalso; omega
        · have nn : pv f w9 = -1 := c19
          have hnc : ¬ Can f w9 := fun ⟨z, hz⟩ => (pv_f hA hk nn).2 _ _ (wrt_best hz)
          refine WP.blk 8 ?_
          show ir (pl + 0) ∧ WP 8 113 (if cnd .ne (pv f w9) (-1) = true then 70 else 66) [vR x, vI (pl + 0), vI le, vI pr, vI 1, vI w9, vI (pv f w9), vI (f (97 + 14 * w9)), a8_12, a9_12, a10_12, a11_12, a12_12] [vI le] wd18 Q
          refine ⟨(by unfold ir; omega), ?_⟩
          refine br_ne (fun c58 => ?_) (fun c58 => ?_)
          · exfalso; omega
          · refine WP.blk 8 ?_
            show ir (le + 0) ∧ WP 8 113 (if cnd .ne (pv f w9) (-1) = true then 85 else 81) [vR x, vI (pl + 0), vI (le + 0), vI pr, vI 1, vI w9, vI (pv f w9), vI (f (97 + 14 * w9)), a8_12, a9_12, a10_12, a11_12, a12_12] [vI pr] wd18 Q
            refine ⟨(by unfold ir; omega), ?_⟩
            refine br_ne (fun c59 => ?_) (fun c59 => ?_)
            · exfalso; omega
            · refine WP.blk 11 ?_
              show ir (pr + 0) ∧ WP 8 113 (if cnd .ge 0 (pv f w9) = true then 250 else 102) [vR x, vI (pl + 0), vI (le + 0), vI (pr + 0), vI 1, vI w9, vI (pv f w9), vI (f (97 + 14 * w9)), vI 0, vI 0, a10_12, a11_12, a12_12] [] wd18 Q
              refine ⟨(by unfold ir; omega), ?_⟩
              refine br_ge (fun c60 => ?_) (fun c60 => ?_)
              · refine WP.blk 5 ?_
                show WP 8 113 (if cnd .ne (pv f w9) (-1) = true then 286 else 261) [vR x, vI (pl + 0), vI (le + 0), vI (pr + 0), vI 1, vI w9, vI (pv f w9), vI (f (97 + 14 * w9)), vI 0, vI 0, a10_12, a11_12, a12_12] [] wd18 Q
                refine br_ne (fun c61 => ?_) (fun c61 => ?_)
                · exfalso; omega
                · refine WP.blk 3 ?_
                  show WP 8 113 265 [vR x, vI (pl + 0), vI (le + 0), vI (pr + 0), vI 1, vI w9, vI (pv f w9), vI (f (97 + 14 * w9)), vI 0, vI 0, a10_12, a11_12, a12_12] [vI 0, vI w9, vR x] wd18 Q
                  refine WP.cl (a := [vR x, vI w9, vI 0]) (rest := []) rfl rfl rfl rfl trivial (by decide) (v_press hh18 (Int.le_refl _) (fun _ c9 n9 _ hj9 b9 hi9 => absurd b9 ((pv_f hA hk nn).2 _ _)) (fun wd62 hh62 _ => ⟨rfl, ?_⟩))
                  show WP 8 113 268 [vR x, vI (pl + 0), vI (le + 0), vI (pr + 0), vI 1, vI w9, vI (pv f w9), vI (f (97 + 14 * w9)), vI 0, vI 0, a10_12, a11_12, a12_12] [vI (-5000003)] wd62 Q
                  refine WP.blk 5 ?_
                  show WP 8 113 277 [vR x, vI (pl + 0), vI (le + 0), vI (pr + 0), vI 1, vI w9, vI (pv f w9), vI (f (97 + 14 * w9)), vI 0, vI 0, a10_12, a11_12, a12_12] [vI 3, vI w9, vR x] wd62 Q
                  refine WP.cl (a := [vR x, vI w9, vI 3]) (rest := []) rfl rfl rfl rfl trivial (by decide) (v_word hh62 (Int.le_refl _) (wV_3f hA hW (by omega) hnc) (fun wd63 hh63 => ⟨rfl, ?_⟩))
                  show WP 8 113 280 [vR x, vI (pl + 0), vI (le + 0), vI (pr + 0), vI 1, vI w9, vI (pv f w9), vI (f (97 + 14 * w9)), vI 0, vI 0, a10_12, a11_12, a12_12] [vI 0] wd63 Q
                  refine WP.blk 5 ?_
                  show WP 8 113 322 [vR x, vI (pl + 0), vI (le + 0), vI (pr + 0), vI 1, vI w9, vI (pv f w9), vI (f (97 + 14 * w9)), vI 0, vI 0, a10_12, a11_12, a12_12] [vI 3, vI w9, vR x] wd63 Q
                  refine WP.cl (a := [vR x, vI w9, vI 3]) (rest := []) rfl rfl rfl rfl trivial (by decide) (v_word hh63 (Int.le_refl _) (wV_3f hA hW (by omega) hnc) (fun wd64 hh64 => ⟨rfl, ?_⟩))
                  show WP 8 113 325 [vR x, vI (pl + 0), vI (le + 0), vI (pr + 0), vI 1, vI w9, vI (pv f w9), vI (f (97 + 14 * w9)), vI 0, vI 0, a10_12, a11_12, a12_12] [vI 0] wd64 Q
                  refine WP.blk 5 ?_
                  show WP 8 113 333 [vR x, vI (pl + 0), vI (le + 0), vI (pr + 0), vI 1, vI w9, vI (pv f w9), vI (f (97 + 14 * w9)), vI 0, vI 0, a10_12, a11_12, a12_12] [vI 4, vI w9, vR x] wd64 Q
                  refine WP.cl (a := [vR x, vI w9, vI 4]) (rest := []) rfl rfl rfl rfl trivial (by decide) (v_word hh64 (Int.le_refl _) (wV_45f hA hW (by omega) hnc).1 (fun wd65 hh65 => ⟨rfl, ?_⟩))
                  show WP 8 113 336 [vR x, vI (pl + 0), vI (le + 0), vI (pr + 0), vI 1, vI w9, vI (pv f w9), vI (f (97 + 14 * w9)), vI 0, vI 0, a10_12, a11_12, a12_12] [vI (-1)] wd65 Q
                  refine WP.blk 5 ?_
                  show WP 8 113 344 [vR x, vI (pl + 0), vI (le + 0), vI (pr + 0), vI 1, vI w9, vI (pv f w9), vI (f (97 + 14 * w9)), vI 0, vI 0, a10_12, a11_12, a12_12] [vI 5, vI w9, vR x] wd65 Q
                  refine WP.cl (a := [vR x, vI w9, vI 5]) (rest := []) rfl rfl rfl rfl trivial (by decide) (v_word hh65 (Int.le_refl _) (wV_45f hA hW (by omega) hnc).2 (fun wd66 hh66 => ⟨rfl, ?_⟩))
                  show WP 8 113 347 [vR x, vI (pl + 0), vI (le + 0), vI (pr + 0), vI 1, vI w9, vI (pv f w9), vI (f (97 + 14 * w9)), vI 0, vI 0, a10_12, a11_12, a12_12] [vI (-1)] wd66 Q
                  refine WP.blk 5 ?_
                  show WP 8 113 355 [vR x, vI (pl + 0), vI (le + 0), vI (pr + 0), vI 1, vI w9, vI (pv f w9), vI (f (97 + 14 * w9)), vI 0, vI 0, a10_12, a11_12, a12_12] [vI 3, vI w9, vR x] wd66 Q
                  refine WP.cl (a := [vR x, vI w9, vI 3]) (rest := []) rfl rfl rfl rfl trivial (by decide) (v_word hh66 (Int.le_refl _) (wV_3f hA hW (by omega) hnc) (fun wd67 hh67 => ⟨rfl, ?_⟩))
                  show WP 8 113 358 [vR x, vI (pl + 0), vI (le + 0), vI (pr + 0), vI 1, vI w9, vI (pv f w9), vI (f (97 + 14 * w9)), vI 0, vI 0, a10_12, a11_12, a12_12] [vI 0] wd67 Q
                  refine WP.blk 6 ?_
                  show ir (w9 + 1) ∧ WP 8 113 12 [vR x, vI (pl + 0), vI (le + 0), vI (pr + 0), vI 1, vI (w9 + 1), vI (pv f w9), vI (f (97 + 14 * w9)), vI 0, vI 0, a10_12, a11_12, a12_12] [] wd67 Q
                  refine ⟨(by unfold ir; omega), ?_⟩
                  exact ih_12 (w9 + 1) (pl + 0) (le + 0) (pr + 0) (vI (pv f w9)) (vI (f (97 + 14 * w9))) (vI 0) (vI 0) (a10_12) (a11_12) (a12_12) wd67 (by omega) (by rw [num_f q0.1 (pv_f hA hk nn).1, q1, Int.add_zero]) (by rw [sm_s q0.1, (lt1_f nn).1, q2]) (by rw [sm_s q0.1, (lt1_f nn).2, q3]) (by omega) (by omega) (ls_le hh67 (by omega)) (by omega)
              · exfalso; omega
  exact hl_12 _ 0 0 0 0 none none none none none none none w (by omega) rfl rfl rfl (by omega) (by omega) (ls_le h (by omega)) (Nat.lt_succ_self _)
