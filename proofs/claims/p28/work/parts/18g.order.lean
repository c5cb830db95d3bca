/-! the law: orders -/
set_option maxHeartbeats 8000000 in
theorem z_order {N B : Int} {x L : Nat} {w : Wd} {f : Int → Int} {sv : Int} {Q : Res → Wd → Prop} (h : LwS N B x L w f [] sv) (hB : B + 84 * 5 ≤ 1000000000 - 400) (k : ∀ w' sv', LwS (N + 1500) (B + 84 * 5) x L w' f [] sv' → sv' ≤ sv → Q (0, vI 1) w') : EvQ 18 116 [vR x] w Q := by
  refine EvQ.enter (ls := [vR x, none, none, none, none, none, none, none, none, none]) (Nat.le_of_ble_eq_true rfl) rfl ?_
  have hR := (ls_row h).1
  have hA := hR.1
  have hW := hR.2.1
  have hI := hR.2.2
  have hA1 := hA.1
  have hW1 := hW.1
  have hI2 := hI.2
  have hsv := ls_sv h
  have hb0 := (ls_b h).1
  refine WP.blk 1 ?_
  show WP 17 116 1 [vR x, none, none, none, none, none, none, none, none, none] [vR x] w Q
  refine WP.cl (a := [vR x]) (rest := []) rfl rfl rfl rfl trivial (by decide) (z_state h (fun wd1 hh1 => ⟨rfl, ?_⟩))
  show WP 17 116 4 [vR x, none, none, none, none, none, none, none, none, none] [vL (sO f)] wd1 Q
  refine WP.blk 2 ?_
  show WP 17 116 6 [vR x, vL (sO f), none, none, none, none, none, none, none, none] [vR x] wd1 Q
  refine WP.cl (a := [vR x]) (rest := []) rfl rfl rfl rfl ⟨ls_ty hh1, trivial⟩ (by decide) (v_least hh1 (Int.le_refl _) (fun wd3 b y9 hh3 hb => ⟨rfl, ?_⟩))
  show WP 17 116 9 [vR x, vL (sO f), none, none, none, none, none, none, none, none] [vI y9] wd3 Q
  refine WP.blk 3 ?_
  show WP 17 116 12 [vR x, vL (sO f), none, vI y9, none, none, none, none, none, none] [vI 1, vR x] wd3 Q
  refine WP.cl (a := [vR x, vI 1]) (rest := []) rfl rfl rfl rfl trivial (by decide) (v_value hh3 (Int.le_refl _) (vV_lo (by omega)) (fun wd4 hh4 => ⟨rfl, ?_⟩))
  show WP 17 116 15 [vR x, vL (sO f), none, vI y9, none, none, none, none, none, none] [vI (f 1)] wd4 Q
  refine WP.blk 2 ?_
  show WP 17 116 18 [vR x, vL (sO f), none, vI y9, vI (f 1), none, none, none, none, none] [vR x] wd4 Q
  refine WP.cl (a := [vR x]) (rest := []) rfl rfl rfl rfl trivial (by decide) (z_state hh4 (fun wd5 hh5 => ⟨rfl, ?_⟩))
  show WP 17 116 21 [vR x, vL (sO f), none, vI y9, vI (f 1), none, none, none, none, none] [vL (sO f)] wd5 Q
  refine WP.blk 3 ?_
  show WP 17 116 (if cnd .ne (lC (sO f) (sO f)) 0 = true then 30 else 26) [vR x, vL (sO f), none, vI y9, vI (f 1), none, none, none, none, none] [] wd5 Q
  refine br_ne (fun c7 => ?_) (fun c7 => ?_)
  · exact absurd (lC_s _) c7
  · refine WP.blk 6 ?_
    show WP 17 116 (if cnd .eq y9 (-1) = true then 43 else 38) [vR x, vL (sO f), none, vI y9, vI (f 1), vI 1, none, none, none, none] [] wd5 Q
    refine br_eq (fun c8 => ?_) (fun c8 => ?_)
    · have hy : y9 = -1 := c8
      refine WP.blk 4 ?_
      show WP 17 116 (if cnd .ne (f 1) 0 = true then 60 else 53) [vR x, vL (sO f), none, vI y9, vI (f 1), vI 1, none, none, none, none] [] wd5 Q
      refine br_ne (fun c9 => ?_) (fun c9 => ?_)
      · refine WP.blk 2 ?_
        show WP 17 116 62 [vR x, vL (sO f), none, vI y9, vI (f 1), vI 1, none, none, none, none] [vI 0, vR x] wd5 Q
        refine WP.cl (a := [vR x, vI 0]) (rest := []) rfl rfl rfl rfl trivial (by decide) (v_order hh5 (Int.le_refl _) (fun _ b2 c2 _ _ hb2 hc2 => absurd ((bestO_u hb2 hb).1.trans hy) hc2) (fun _ _ z => absurd (show 0 ≤ (0 : Int) ∧ 0 < f 1 by omega) z) (fun wd10 _ hh10 _ _ => ⟨rfl, ?_⟩))
        show WP 17 116 65 [vR x, vL (sO f), none, vI y9, vI (f 1), vI 1, none, none, none, none] [vI (-5000002)] wd10 Q
        refine WP.blk 4 ?_
        show WP 17 116 75 [vR x, vL (sO f), none, vI y9, vI (f 1), vI 1, none, none, none, none] [vI 1] wd10 Q
        exact WP.ret rfl rfl rfl ⟨by omega, trivial⟩ (k _ _ (ls_B (ls_le hh10 (by omega)) (by omega) hB) (Int.le_refl _))
      · have hz0 := best_0 (by omega) hb
        refine WP.blk 2 ?_
        show WP 17 116 (if cnd .ne y9 0 = true then 74 else 57) [vR x, vL (sO f), none, vI y9, vI (f 1), vI 1, none, none, none, none] [] wd5 Q
        refine br_ne (fun c11 => ?_) (fun c11 => ?_)
        · exfalso; omega
        · refine WP.blk 3 ?_
          show WP 17 116 75 [vR x, vL (sO f), none, vI y9, vI (f 1), vI 1, none, none, none, none] [vI 1] wd5 Q
          exact WP.ret rfl rfl rfl ⟨by omega, trivial⟩ (k _ _ (ls_B (ls_le hh5 (by omega)) (by omega) hB) (Int.le_refl _))
    · refine WP.blk 2 ?_
      show WP 17 116 (if cnd .ne (f 1) 0 = true then 76 else 43) [vR x, vL (sO f), none, vI y9, vI (f 1), vI 1, none, none, none, none] [] wd5 Q
      refine br_ne (fun c12 => ?_) (fun c12 => ?_)
      · have hy : ¬ y9 = -1 := by omega
        have hord : OrdP f b (f 1) := hb.elim (fun z => absurd z.1 hy) (fun z => z.2.1)
        have hy0 : 0 ≤ y9 := hb.elim (fun z => absurd z.1 hy) (fun z => z.1)
        have hq6 := (sq_io hR hb0 hord hW1.1 (Int.le_refl _)).1.2.2.2
        have hcst : y9 = sq f b (f 1) 6 - f 6 := hb.elim (fun z => absurd z.1 hy) (fun z => z.2.2.1)
        refine WP.blk 2 ?_
        show WP 17 116 79 [vR x, vL (sO f), none, vI y9, vI (f 1), vI 1, none, none, none, none] [vI 6, vR x] wd5 Q
        refine WP.cl (a := [vR x, vI 6]) (rest := []) rfl rfl rfl rfl trivial (by decide) (v_value hh5 (Int.le_refl _) (vV_lo (by omega)) (fun wd13 hh13 => ⟨rfl, ?_⟩))
        show WP 17 116 82 [vR x, vL (sO f), none, vI y9, vI (f 1), vI 1, none, none, none, none] [vI (f 6)] wd13 Q
        refine WP.blk 4 ?_
        show WP 17 116 89 [vR x, vL (sO f), none, vI y9, vI (f 1), vI 1, vI (f 6), vI 0, none, none] [vI 7] wd13 Q
        refine WP.blk 1 ?_
        show ((0 : Int) ≤ 7 ∧ (7 : Int) ≤ 100000) ∧ WP 17 116 91 [vR x, vL (sO f), none, vI y9, vI (f 1), vI 1, vI (f 6), vI 0, none, none] [vR (nx wd13)] (mk wd13 11 7) Q
        refine ⟨⟨by decide, by decide⟩, ?_⟩
        obtain ⟨hh14, tahh14⟩ := ls_mk hh13 (Int.le_refl _)
        have tahh14 := tahh14 b
        obtain ⟨T9, hT9⟩ : ∃ t, t = nx wd13 := ⟨_, rfl⟩
        obtain ⟨wd14, hwwd14⟩ : ∃ y, y = mk wd13 11 7 := ⟨_, rfl⟩
        rw [← hT9, ← hwwd14] at tahh14 ⊢
        rw [← hwwd14] at hh14
        refine WP.blk 3 ?_
        show WP 17 116 96 [vR x, vL (sO f), none, vI y9, vI (f 1), vI 1, vI (f 6), vI 0, vR T9, vI 0] [] wd14 Q
        have hl_96 : ∀ (n_96 : Nat) (kk : Int) (se : Int) (w_96 : Wd), 0 ≤ kk ∧ kk ≤ f 1 → SeenB b kk se → TA x w_96 T9 b kk → LwS (N + 520 + 3 * kk) (B) x L w_96 f ([]) sv → (f 1 - kk).toNat < n_96 → WP 17 116 96 [vR x, vL (sO f), none, vI y9, vI (f 1), vI 1, vI (f 6), vI se, vR T9, vI kk] [] w_96 Q := by
          intro n_96
          induction n_96 with
          | zero => intro kk se w_96 q0 q1 qt h_96 hm_96; exact absurd hm_96 (Nat.not_lt_zero _)
          | succ n_96 ih_96 =>
            intro kk se w_96 q0 q1 qt h_96 hm_96
            have hse := q1.1
            refine WP.blk 3 ?_
            show WP 17 116 (if cnd .ge kk (f 1) = true then 132 else 103) [vR x, vL (sO f), none, vI y9, vI (f 1), vI 1, vI (f 6), vI se, vR T9, vI kk] [] w_96 Q
            refine br_ge (fun c15 => ?_) (fun c15 => ?_)
            · have ek : kk = f 1 := by omega
              have hful := full_n (show 0 ≤ f 1 ∧ f 1 ≤ 7 by omega)
              refine WP.blk 9 ?_
              show ir ((iL 1 (f 1)) - 1) ∧ WP 17 116 (if cnd .ne se ((iL 1 (f 1)) - 1) = true then 152 else 148) [vR x, vL (sO f), none, vI y9, vI (f 1), vI 1, vI (f 6), vI se, vR T9, vI kk] [] w_96 Q
              refine ⟨(by unfold ir; omega), ?_⟩
              refine br_ne (fun c16 => ?_) (fun c16 => ?_)
              · exact absurd (seen_e hW1 hord (by rw [ek] at q1; exact q1)) c16
              · refine WP.blk 8 ?_
                show WP 17 116 (if cnd .gt (f 1) 4 = true then 266 else 166) [vR x, vL (sO f), none, vI y9, vI (f 1), vI 1, vI (f 6), vI se, vR T9, vI kk] [] w_96 Q
                refine br_gt (fun c17 => ?_) (fun c17 => ?_)
                · have hwl := h_96
                  refine WP.blk 1 ?_
                  show WP 17 116 267 [vR x, vL (sO f), none, vI y9, vI (f 1), vI 1, vI (f 6), vI se, vR T9, vI kk] [vR x] w_96 Q
                  refine WP.cl (a := [vR x]) (rest := []) rfl rfl rfl rfl ⟨ls_ty h_96, trivial⟩ (by decide) (u_writeAll h_96 (Int.le_refl _) (Nat.le_of_ble_eq_true rfl) (by omega) (fun wd18 hh18 => ⟨rfl, ?_⟩))
                  show WP 17 116 270 [vR x, vL (sO f), none, vI y9, vI (f 1), vI 1, vI (f 6), vI se, vR T9, vI kk] [vI (num (fun w => Can (wall f w) w) (f 1))] wd18 Q
                  have hwn := num_r (P := fun w => Can (wall f w) w) hW1.1
                  obtain ⟨n8, hn8⟩ : ∃ n, n = num (fun w => Can (wall f w) w) (f 1) := ⟨_, rfl⟩
                  rw [← hn8] at hwn ⊢
                  refine WP.blk 5 ?_
                  show WP 17 116 (if cnd .lt n8 0 = true then 320 else 282) [vR x, vL (sO f), none, vI y9, vI (f 1), vI 1, vI (f 6), vI se, vR T9, vI n8] [] wd18 Q
                  refine br_lt (fun c19 => ?_) (fun c19 => ?_)
                  · exfalso; omega
                  · refine WP.blk 3 ?_
                    show WP 17 116 (if cnd .gt n8 (f 1) = true then 320 else 289) [vR x, vL (sO f), none, vI y9, vI (f 1), vI 1, vI (f 6), vI se, vR T9, vI n8] [] wd18 Q
                    refine br_gt (fun c20 => ?_) (fun c20 => ?_)
                    · exfalso; omega
                    · refine WP.blk 3 ?_
                      show WP 17 116 (if cnd .lt n8 (f 1) = true then 309 else 296) [vR x, vL (sO f), none, vI y9, vI (f 1), vI 1, vI (f 6), vI se, vR T9, vI n8] [] wd18 Q
                      refine br_lt (fun c21 => ?_) (fun c21 => ?_)
                      · refine WP.blk 1 ?_
                        show WP 17 116 310 [vR x, vL (sO f), none, vI y9, vI (f 1), vI 1, vI (f 6), vI se, vR T9, vI n8] [vR x] wd18 Q
                        refine WP.cl (a := [vR x]) (rest := []) rfl rfl rfl rfl trivial (by decide) (u_undo hh18 (Int.le_refl _) (fun wd22 hh22 sphh22 => ⟨rfl, ?_⟩))
                        show WP 17 116 313 [vR x, vL (sO f), none, vI y9, vI (f 1), vI 1, vI (f 6), vI se, vR T9, vI n8] [vI ((nsv sv) - 1)] wd22 Q
                        refine WP.blk 1 ?_
                        show WP 17 116 (if cnd .lt ((nsv sv) - 1) 0 = true then 320 else 316) [vR x, vL (sO f), none, vI y9, vI (f 1), vI 1, vI (f 6), vI se, vR T9, vI n8] [] wd22 Q
                        refine br_lt (fun c23 => ?_) (fun c23 => ?_)
                        · exfalso; have hq := nsv_r (ls_sv hwl); omega
                        · refine WP.blk 6 ?_
                          show WP 17 116 329 [vR x, vL (sO f), none, vI y9, vI (f 1), vI 1, vI (f 6), vI se, vR T9, vI n8] [vR x] wd22 Q
                          refine WP.cl (a := [vR x]) (rest := []) rfl rfl rfl rfl trivial (by decide) (z_state hh22 (fun wd24 hh24 => ⟨rfl, ?_⟩))
                          show WP 17 116 332 [vR x, vL (sO f), none, vI y9, vI (f 1), vI 1, vI (f 6), vI se, vR T9, vI n8] [vL (sO f)] wd24 Q
                          refine WP.blk 3 ?_
                          show WP 17 116 (if cnd .ne (lC (sO f) (sO f)) 0 = true then 341 else 337) [vR x, vL (sO f), none, vI y9, vI (f 1), vI 1, vI (f 6), vI se, vR T9, vI n8] [] wd24 Q
                          refine br_ne (fun c26 => ?_) (fun c26 => ?_)
                          · exact absurd (lC_s _) c26
                          · refine WP.blk 2 ?_
                            show WP 17 116 342 [vR x, vL (sO f), none, vI y9, vI (f 1), vI 1, vI (f 6), vI se, vR T9, vI n8] [vI 1] wd24 Q
                            exact WP.ret rfl rfl rfl ⟨by omega, trivial⟩ (k _ _ (ls_B (ls_le hh24 (by omega)) (by omega) hB) (by have hq := nsv_r (ls_sv hwl); omega))
                      · refine WP.blk 2 ?_
                        show WP 17 116 299 [vR x, vL (sO f), none, vI y9, vI (f 1), vI 1, vI (f 6), vI se, vR T9, vI n8] [vI 6, vR x] wd18 Q
                        refine WP.cl (a := [vR x, vI 6]) (rest := []) rfl rfl rfl rfl trivial (by decide) (v_value hh18 (Int.le_refl _) (vV_lo (by omega)) (fun wd27 hh27 => ⟨rfl, ?_⟩))
                        show WP 17 116 302 [vR x, vL (sO f), none, vI y9, vI (f 1), vI 1, vI (f 6), vI se, vR T9, vI n8] [vI ((wall f (f 1)) 6)] wd27 Q
                        refine WP.blk 4 ?_
                        show ir ((f 6) + y9) ∧ WP 17 116 (if cnd .lt ((wall f (f 1)) 6) ((f 6) + y9) = true then 320 else 309) [vR x, vL (sO f), none, vI y9, vI (f 1), vI 1, vI (f 6), vI se, vR T9, vI n8] [] wd27 Q
                        refine ⟨(by unfold ir; omega), ?_⟩
                        refine br_lt (fun c28 => ?_) (fun c28 => ?_)
                        · exfalso; have hz := wall_least hW1.1 hb (by omega); omega
                        · refine WP.blk 1 ?_
                          show WP 17 116 310 [vR x, vL (sO f), none, vI y9, vI (f 1), vI 1, vI (f 6), vI se, vR T9, vI n8] [vR x] wd27 Q
                          refine WP.cl (a := [vR x]) (rest := []) rfl rfl rfl rfl trivial (by decide) (u_undo hh27 (Int.le_refl _) (fun wd29 hh29 sphh29 => ⟨rfl, ?_⟩))
                          show WP 17 116 313 [vR x, vL (sO f), none, vI y9, vI (f 1), vI 1, vI (f 6), vI se, vR T9, vI n8] [vI ((nsv sv) - 1)] wd29 Q
                          refine WP.blk 1 ?_
                          show WP 17 116 (if cnd .lt ((nsv sv) - 1) 0 = true then 320 else 316) [vR x, vL (sO f), none, vI y9, vI (f 1), vI 1, vI (f 6), vI se, vR T9, vI n8] [] wd29 Q
                          refine br_lt (fun c30 => ?_) (fun c30 => ?_)
                          · exfalso; have hq := nsv_r (ls_sv hwl); omega
                          · refine WP.blk 6 ?_
                            show WP 17 116 329 [vR x, vL (sO f), none, vI y9, vI (f 1), vI 1, vI (f 6), vI se, vR T9, vI n8] [vR x] wd29 Q
                            refine WP.cl (a := [vR x]) (rest := []) rfl rfl rfl rfl trivial (by decide) (z_state hh29 (fun wd31 hh31 => ⟨rfl, ?_⟩))
                            show WP 17 116 332 [vR x, vL (sO f), none, vI y9, vI (f 1), vI 1, vI (f 6), vI se, vR T9, vI n8] [vL (sO f)] wd31 Q
                            refine WP.blk 3 ?_
                            show WP 17 116 (if cnd .ne (lC (sO f) (sO f)) 0 = true then 341 else 337) [vR x, vL (sO f), none, vI y9, vI (f 1), vI 1, vI (f 6), vI se, vR T9, vI n8] [] wd31 Q
                            refine br_ne (fun c33 => ?_) (fun c33 => ?_)
                            · exact absurd (lC_s _) c33
                            · refine WP.blk 2 ?_
                              show WP 17 116 342 [vR x, vL (sO f), none, vI y9, vI (f 1), vI 1, vI (f 6), vI se, vR T9, vI n8] [vI 1] wd31 Q
                              exact WP.ret rfl rfl rfl ⟨by omega, trivial⟩ (k _ _ (ls_B (ls_le hh31 (by omega)) (by omega) hB) (by have hq := nsv_r (ls_sv hwl); omega))
                · refine WP.blk 2 ?_
                  show WP 17 116 169 [vR x, vL (sO f), none, vI y9, vI (f 1), vI 1, vI (f 6), vI se, vR T9, vI 0] [] w_96 Q
                  have hl_169 : ∀ (n_169 : Nat) (kk : Int) (sv8 : Int) (g : Int → Int) (ls9 : List (Int → Int)) (w_169 : Wd), 0 ≤ kk ∧ kk ≤ f 1 → g = sq f b kk → (ls9.length : Int) = kk → Bot f ls9 g → sv8 - kk ≤ sv → TA x w_169 T9 b (f 1) → LwS (N + 560 + 3 * kk) (B + 84 * kk) x L w_169 g ls9 sv8 → (f 1 - kk).toNat < n_169 → WP 17 116 169 [vR x, vL (sO f), none, vI y9, vI (f 1), vI 1, vI (f 6), vI se, vR T9, vI kk] [] w_169 Q := by
                    intro n_169
                    induction n_169 with
                    | zero => intro kk sv8 g ls9 w_169 r0 rg rl rb rs rt h_169 hm_169; exact absurd hm_169 (Nat.not_lt_zero _)
                    | succ n_169 ih_169 =>
                      intro kk sv8 g ls9 w_169 r0 rg rl rb rs rt h_169 hm_169
                      refine WP.blk 3 ?_
                      show WP 17 116 (if cnd .ge kk (f 1) = true then 206 else 176) [vR x, vL (sO f), none, vI y9, vI (f 1), vI 1, vI (f 6), vI se, vR T9, vI kk] [] w_169 Q
                      refine br_ge (fun c34 => ?_) (fun c34 => ?_)
                      · have ek2 : kk = f 1 := by omega
                        have hg6 : g 6 = sq f b (f 1) 6 := by rw [rg, ek2]
                        refine WP.blk 4 ?_
                        show WP 17 116 214 [vR x, vL (sO f), none, vI y9, vI (f 1), vI 1, vI (f 6), vI se, vR T9, vI kk] [vI 6, vR x] w_169 Q
                        refine WP.cl (a := [vR x, vI 6]) (rest := []) rfl rfl rfl rfl trivial (by decide) (v_value h_169 (Int.le_refl _) (vV_lo (by omega)) (fun wd35 hh35 => ⟨rfl, ?_⟩))
                        show WP 17 116 217 [vR x, vL (sO f), none, vI y9, vI (f 1), vI 1, vI (f 6), vI se, vR T9, vI kk] [vI (g 6)] wd35 Q
                        refine WP.blk 4 ?_
                        show ir ((f 6) + y9) ∧ WP 17 116 (if cnd .ne (g 6) ((f 6) + y9) = true then 228 else 224) [vR x, vL (sO f), none, vI y9, vI (f 1), vI 1, vI (f 6), vI se, vR T9, vI kk] [] wd35 Q
                        refine ⟨(by unfold ir; omega), ?_⟩
                        refine br_ne (fun c36 => ?_) (fun c36 => ?_)
                        · exfalso; omega
                        · refine WP.blk 5 ?_
                          show WP 17 116 234 [vR x, vL (sO f), none, vI y9, vI (f 1), vI 1, vI (f 6), vI se, vR T9, vI 0] [] wd35 Q
                          have hl_234 : ∀ (n_234 : Nat) (j : Int) (sv8 : Int) (g : Int → Int) (ls9 : List (Int → Int)) (w_234 : Wd), 0 ≤ j ∧ j ≤ f 1 → (ls9.length : Int) = f 1 - j → Bot f ls9 g → sv8 - (f 1 - j) ≤ sv → LwS (N + 620 + 3 * j) (B + 84 * 4) x L w_234 g ls9 sv8 → (f 1 - j).toNat < n_234 → WP 17 116 234 [vR x, vL (sO f), none, vI y9, vI (f 1), vI 1, vI (f 6), vI se, vR T9, vI j] [] w_234 Q := by
                            intro n_234
                            induction n_234 with
                            | zero => intro j sv8 g ls9 w_234 s0 sl sb ss h_234 hm_234; exact absurd hm_234 (Nat.not_lt_zero _)
                            | succ n_234 ih_234 =>
                              intro j sv8 g ls9 w_234 s0 sl sb ss h_234 hm_234
                              refine WP.blk 3 ?_
                              show WP 17 116 (if cnd .ge j (f 1) = true then 266 else 241) [vR x, vL (sO f), none, vI y9, vI (f 1), vI 1, vI (f 6), vI se, vR T9, vI j] [] w_234 Q
                              refine br_ge (fun c37 => ?_) (fun c37 => ?_)
                              · obtain ⟨e1, e2⟩ := bot_e sb (by omega)
                                rw [e1, e2] at h_234
                                have hwl := h_234
                                refine WP.blk 1 ?_
                                show WP 17 116 267 [vR x, vL (sO f), none, vI y9, vI (f 1), vI 1, vI (f 6), vI se, vR T9, vI j] [vR x] w_234 Q
                                refine WP.cl (a := [vR x]) (rest := []) rfl rfl rfl rfl ⟨ls_ty h_234, trivial⟩ (by decide) (u_writeAll h_234 (Int.le_refl _) (Nat.le_of_ble_eq_true rfl) (by omega) (fun wd38 hh38 => ⟨rfl, ?_⟩))
                                show WP 17 116 270 [vR x, vL (sO f), none, vI y9, vI (f 1), vI 1, vI (f 6), vI se, vR T9, vI j] [vI (num (fun w => Can (wall f w) w) (f 1))] wd38 Q
                                have hwn := num_r (P := fun w => Can (wall f w) w) hW1.1
                                obtain ⟨n8, hn8⟩ : ∃ n, n = num (fun w => Can (wall f w) w) (f 1) := ⟨_, rfl⟩
                                rw [← hn8] at hwn ⊢
                                refine WP.blk 5 ?_
                                show WP 17 116 (if cnd .lt n8 0 = true then 320 else 282) [vR x, vL (sO f), none, vI y9, vI (f 1), vI 1, vI (f 6), vI se, vR T9, vI n8] [] wd38 Q
                                refine br_lt (fun c39 => ?_) (fun c39 => ?_)
                                · exfalso; omega
                                · refine WP.blk 3 ?_
                                  show WP 17 116 (if cnd .gt n8 (f 1) = true then 320 else 289) [vR x, vL (sO f), none, vI y9, vI (f 1), vI 1, vI (f 6), vI se, vR T9, vI n8] [] wd38 Q
                                  refine br_gt (fun c40 => ?_) (fun c40 => ?_)
                                  · exfalso; omega
                                  · refine WP.blk 3 ?_
                                    show WP 17 116 (if cnd .lt n8 (f 1) = true then 309 else 296) [vR x, vL (sO f), none, vI y9, vI (f 1), vI 1, vI (f 6), vI se, vR T9, vI n8] [] wd38 Q
                                    refine br_lt (fun c41 => ?_) (fun c41 => ?_)
                                    · refine WP.blk 1 ?_
                                      show WP 17 116 310 [vR x, vL (sO f), none, vI y9, vI (f 1), vI 1, vI (f 6), vI se, vR T9, vI n8] [vR x] wd38 Q
                                      refine WP.cl (a := [vR x]) (rest := []) rfl rfl rfl rfl trivial (by decide) (u_undo hh38 (Int.le_refl _) (fun wd42 hh42 sphh42 => ⟨rfl, ?_⟩))
                                      show WP 17 116 313 [vR x, vL (sO f), none, vI y9, vI (f 1), vI 1, vI (f 6), vI se, vR T9, vI n8] [vI ((nsv sv8) - 1)] wd42 Q
                                      refine WP.blk 1 ?_
                                      show WP 17 116 (if cnd .lt ((nsv sv8) - 1) 0 = true then 320 else 316) [vR x, vL (sO f), none, vI y9, vI (f 1), vI 1, vI (f 6), vI se, vR T9, vI n8] [] wd42 Q
                                      refine br_lt (fun c43 => ?_) (fun c43 => ?_)
                                      · exfalso; have hq := nsv_r (ls_sv hwl); omega
                                      · refine WP.blk 6 ?_
                                        show WP 17 116 329 [vR x, vL (sO f), none, vI y9, vI (f 1), vI 1, vI (f 6), vI se, vR T9, vI n8] [vR x] wd42 Q
                                        refine WP.cl (a := [vR x]) (rest := []) rfl rfl rfl rfl trivial (by decide) (z_state hh42 (fun wd44 hh44 => ⟨rfl, ?_⟩))
                                        show WP 17 116 332 [vR x, vL (sO f), none, vI y9, vI (f 1), vI 1, vI (f 6), vI se, vR T9, vI n8] [vL (sO f)] wd44 Q
                                        refine WP.blk 3 ?_
                                        show WP 17 116 (if cnd .ne (lC (sO f) (sO f)) 0 = true then 341 else 337) [vR x, vL (sO f), none, vI y9, vI (f 1), vI 1, vI (f 6), vI se, vR T9, vI n8] [] wd44 Q
                                        refine br_ne (fun c46 => ?_) (fun c46 => ?_)
                                        · exact absurd (lC_s _) c46
                                        · refine WP.blk 2 ?_
                                          show WP 17 116 342 [vR x, vL (sO f), none, vI y9, vI (f 1), vI 1, vI (f 6), vI se, vR T9, vI n8] [vI 1] wd44 Q
                                          exact WP.ret rfl rfl rfl ⟨by omega, trivial⟩ (k _ _ (ls_B (ls_le hh44 (by omega)) (by omega) hB) (by have hq := nsv_r (ls_sv hwl); omega))
                                    · refine WP.blk 2 ?_
                                      show WP 17 116 299 [vR x, vL (sO f), none, vI y9, vI (f 1), vI 1, vI (f 6), vI se, vR T9, vI n8] [vI 6, vR x] wd38 Q
                                      refine WP.cl (a := [vR x, vI 6]) (rest := []) rfl rfl rfl rfl trivial (by decide) (v_value hh38 (Int.le_refl _) (vV_lo (by omega)) (fun wd47 hh47 => ⟨rfl, ?_⟩))
                                      show WP 17 116 302 [vR x, vL (sO f), none, vI y9, vI (f 1), vI 1, vI (f 6), vI se, vR T9, vI n8] [vI ((wall f (f 1)) 6)] wd47 Q
                                      refine WP.blk 4 ?_
                                      show ir ((f 6) + y9) ∧ WP 17 116 (if cnd .lt ((wall f (f 1)) 6) ((f 6) + y9) = true then 320 else 309) [vR x, vL (sO f), none, vI y9, vI (f 1), vI 1, vI (f 6), vI se, vR T9, vI n8] [] wd47 Q
                                      refine ⟨(by unfold ir; omega), ?_⟩
                                      refine br_lt (fun c48 => ?_) (fun c48 => ?_)
                                      · exfalso; have hz := wall_least hW1.1 hb (by omega); omega
                                      · refine WP.blk 1 ?_
                                        show WP 17 116 310 [vR x, vL (sO f), none, vI y9, vI (f 1), vI 1, vI (f 6), vI se, vR T9, vI n8] [vR x] wd47 Q
                                        refine WP.cl (a := [vR x]) (rest := []) rfl rfl rfl rfl trivial (by decide) (u_undo hh47 (Int.le_refl _) (fun wd49 hh49 sphh49 => ⟨rfl, ?_⟩))
                                        show WP 17 116 313 [vR x, vL (sO f), none, vI y9, vI (f 1), vI 1, vI (f 6), vI se, vR T9, vI n8] [vI ((nsv sv8) - 1)] wd49 Q
                                        refine WP.blk 1 ?_
                                        show WP 17 116 (if cnd .lt ((nsv sv8) - 1) 0 = true then 320 else 316) [vR x, vL (sO f), none, vI y9, vI (f 1), vI 1, vI (f 6), vI se, vR T9, vI n8] [] wd49 Q
                                        refine br_lt (fun c50 => ?_) (fun c50 => ?_)
                                        · exfalso; have hq := nsv_r (ls_sv hwl); omega
                                        · refine WP.blk 6 ?_
                                          show WP 17 116 329 [vR x, vL (sO f), none, vI y9, vI (f 1), vI 1, vI (f 6), vI se, vR T9, vI n8] [vR x] wd49 Q
                                          refine WP.cl (a := [vR x]) (rest := []) rfl rfl rfl rfl trivial (by decide) (z_state hh49 (fun wd51 hh51 => ⟨rfl, ?_⟩))
                                          show WP 17 116 332 [vR x, vL (sO f), none, vI y9, vI (f 1), vI 1, vI (f 6), vI se, vR T9, vI n8] [vL (sO f)] wd51 Q
                                          refine WP.blk 3 ?_
                                          show WP 17 116 (if cnd .ne (lC (sO f) (sO f)) 0 = true then 341 else 337) [vR x, vL (sO f), none, vI y9, vI (f 1), vI 1, vI (f 6), vI se, vR T9, vI n8] [] wd51 Q
                                          refine br_ne (fun c53 => ?_) (fun c53 => ?_)
                                          · exact absurd (lC_s _) c53
                                          · refine WP.blk 2 ?_
                                            show WP 17 116 342 [vR x, vL (sO f), none, vI y9, vI (f 1), vI 1, vI (f 6), vI se, vR T9, vI n8] [vI 1] wd51 Q
                                            exact WP.ret rfl rfl rfl ⟨by omega, trivial⟩ (k _ _ (ls_B (ls_le hh51 (by omega)) (by omega) hB) (by have hq := nsv_r (ls_sv hwl); omega))
                              · refine WP.blk 3 ?_
                                show WP 17 116 247 [vR x, vL (sO f), none, vI y9, vI (f 1), vI 1, vI (f 6), vI se, vR T9, vI j] [vR x] w_234 Q
                                obtain ⟨g2, t2, el⟩ := bot_c (show 0 < (ls9.length : Int) by omega)
                                subst el
                                refine WP.cl (a := [vR x]) (rest := []) rfl rfl rfl rfl trivial (by decide) (u_undo h_234 (Int.le_refl _) (fun wd54 hh54 sphh54 => ⟨rfl, ?_⟩))
                                show WP 17 116 250 [vR x, vL (sO f), none, vI y9, vI (f 1), vI 1, vI (f 6), vI se, vR T9, vI j] [vI (sv8 - 1)] wd54 Q
                                refine WP.blk 1 ?_
                                show WP 17 116 (if cnd .lt (sv8 - 1) 0 = true then 257 else 253) [vR x, vL (sO f), none, vI y9, vI (f 1), vI 1, vI (f 6), vI se, vR T9, vI j] [] wd54 Q
                                refine br_lt (fun c55 => ?_) (fun c55 => ?_)
                                · exfalso; omega
                                · refine WP.blk 5 ?_
                                  show ir (j + 1) ∧ WP 17 116 234 [vR x, vL (sO f), none, vI y9, vI (f 1), vI 1, vI (f 6), vI se, vR T9, vI (j + 1)] [] wd54 Q
                                  refine ⟨(by unfold ir; omega), ?_⟩
                                  exact ih_234 (j + 1) (sv8 - 1) g2 t2 wd54 (by omega) (by have z := len_p sl; omega) (bot_dn sb) (by omega) (ls_B (ls_le hh54 (by omega)) (by omega) (by omega)) (by omega)
                          exact hl_234 _ 0 sv8 g ls9 wd35 (by omega) (by omega) rb (by omega) (ls_B (ls_le hh35 (by omega)) (by omega) (by omega)) (Nat.lt_succ_self _)
                      · refine WP.blk 5 ?_
                        show WP 17 116 186 [vR x, vL (sO f), none, vI y9, vI (f 1), vI 1, vI (f 6), vI se, vR T9, vI kk] [vI kk, vR T9, vR x] w_169 Q
                        refine WP.blk 1 ?_
                        show ((ty w_169 T9 = 11 ∨ ty w_169 T9 = 16 ∨ ty w_169 T9 = 17) ∧ 0 ≤ kk ∧ kk < (ln w_169 T9 : Int)) ∧ WP 17 116 187 [vR x, vL (sO f), none, vI y9, vI (f 1), vI 1, vI (f 6), vI se, vR T9, vI kk] [vI (gi w_169 T9 kk), vR x] w_169 Q
                        refine ⟨⟨Or.inl rt.1.2.1, by omega, by rw [rt.1.2.2]; omega⟩, ?_⟩
                        rw [rt.2 kk (by omega) (by omega)]
                        have hgr := sq_io hR hb0 hord r0.1 (by omega)
                        rw [← rg] at hgr
                        have hcan := (hord kk r0.1 (by omega)).2.2
                        rw [← rg] at hcan
                        have hgl : ls9.length ≤ 3 := by omega
                        have hg1 : g 1 = f 1 := hgr.2.2.1
                        have hbk := (hord kk r0.1 (by omega)).1
                        refine WP.cl (a := [vR x, vI (b kk)]) (rest := []) rfl rfl rfl rfl trivial (by decide) (u_write2 h_169 (Int.le_refl _) hgl (by omega) (by rw [hg1]; exact hbk) hcan (fun wd56 cz nz frhh56 hh56 hz => ⟨rfl, ?_⟩))
                        show WP 17 116 190 [vR x, vL (sO f), none, vI y9, vI (f 1), vI 1, vI (f 6), vI se, vR T9, vI kk] [vI nz] wd56 Q
                        have tahh56 := ta_fr frhh56 rt
                        rw [rg] at hz
                        have hsq := sq_wrt hR hb0 hord r0.1 (by omega) hz
                        rw [← rg] at hz hsq
                        rw [hsq.1] at hh56
                        have hn1 := hsq.2
                        refine WP.blk 1 ?_
                        show WP 17 116 (if cnd .le nz 0 = true then 197 else 193) [vR x, vL (sO f), none, vI y9, vI (f 1), vI 1, vI (f 6), vI se, vR T9, vI kk] [] wd56 Q
                        refine br_le (fun c57 => ?_) (fun c57 => ?_)
                        · exfalso; omega
                        · refine WP.blk 5 ?_
                          show ir (kk + 1) ∧ WP 17 116 169 [vR x, vL (sO f), none, vI y9, vI (f 1), vI 1, vI (f 6), vI se, vR T9, vI (kk + 1)] [] wd56 Q
                          refine ⟨(by unfold ir; omega), ?_⟩
                          exact ih_169 (kk + 1) (nsv sv8) (sq f b (kk + 1)) (g :: ls9) wd56 (by omega) rfl (len_s rl) (bot_up rb) (by have hq := nsv_r (ls_sv h_169); omega) tahh56 (ls_B (ls_le hh56 (by omega)) (by omega) (by omega)) (by omega)
                  exact hl_169 _ 0 sv f ([]) w_96 (by omega) rfl rfl rfl (by omega) (by have z := qt; rwa [ek] at z) (ls_B (ls_le h_96 (by omega)) (by omega) (by omega)) (Nat.lt_succ_self _)
            · refine WP.blk 4 ?_
              show WP 17 116 110 [vR x, vL (sO f), none, vI y9, vI (f 1), vI 1, vI (f 6), vI se, vR T9, vI kk] [vI kk, vR x, vI kk, vR T9] w_96 Q
              refine WP.cl (a := [vR x, vI kk]) (rest := [vI kk, vR T9]) rfl rfl rfl rfl trivial (by decide) (v_order2 h_96 (Int.le_refl _) (by omega) hb hy (fun wd58 frhh58 hh58 => ⟨rfl, ?_⟩))
              show WP 17 116 113 [vR x, vL (sO f), none, vI y9, vI (f 1), vI 1, vI (f 6), vI se, vR T9, vI kk] [vI (b kk), vI kk, vR T9] wd58 Q
              have tahh58 := ta_fr frhh58 qt
              refine WP.blk 1 ?_
              show (ty wd58 T9 = 11 ∧ 0 ≤ kk ∧ kk < (ln wd58 T9 : Int)) ∧ WP 17 116 114 [vR x, vL (sO f), none, vI y9, vI (f 1), vI 1, vI (f 6), vI se, vR T9, vI kk] [] (si wd58 T9 kk (b kk)) Q
              refine ⟨⟨tahh58.1.2.1, by omega, by rw [tahh58.1.2.2]; omega⟩, ?_⟩
              have hh59 := ls_si (k := kk) (v := b kk) hh58 tahh58.1.1
              have tahh59 := ta_si (v := b kk) rfl tahh58
              obtain ⟨wd59, hwwd59⟩ : ∃ y, y = si wd58 T9 kk (b kk) := ⟨_, rfl⟩
              rw [← hwwd59] at hh59 tahh59 ⊢
              refine WP.blk 4 ?_
              show WP 17 116 121 [vR x, vL (sO f), none, vI y9, vI (f 1), vI 1, vI (f 6), vI se, vR T9, vI kk] [vI kk, vR T9, vI 1, vI se] wd59 Q
              refine WP.blk 1 ?_
              show ((ty wd59 T9 = 11 ∨ ty wd59 T9 = 16 ∨ ty wd59 T9 = 17) ∧ 0 ≤ kk ∧ kk < (ln wd59 T9 : Int)) ∧ WP 17 116 122 [vR x, vL (sO f), none, vI y9, vI (f 1), vI 1, vI (f 6), vI se, vR T9, vI kk] [vI (gi wd59 T9 kk), vI 1, vI se] wd59 Q
              refine ⟨⟨Or.inl tahh59.1.2.1, by omega, by rw [tahh59.1.2.2]; omega⟩, ?_⟩
              rw [tahh59.2 kk (by omega) (by omega)]
              refine WP.blk 5 ?_
              show ir (kk + 1) ∧ WP 17 116 96 [vR x, vL (sO f), none, vI y9, vI (f 1), vI 1, vI (f 6), vI (iO se (iL 1 (b kk))), vR T9, vI (kk + 1)] [] wd59 Q
              refine ⟨(by unfold ir; omega), ?_⟩
              exact ih_96 (kk + 1) (iO se (iL 1 (b kk))) wd59 (by omega) (seen_s q1 q0.1 (by have := (hord kk q0.1 (by omega)).1; omega)) tahh59 (ls_le hh59 (by omega)) (by omega)
        exact hl_96 _ 0 0 wd14 (by omega) seen_0 tahh14 (ls_le hh14 (by omega)) (Nat.lt_succ_self _)
      · refine WP.blk 4 ?_
        show WP 17 116 (if cnd .ne (f 1) 0 = true then 60 else 53) [vR x, vL (sO f), none, vI y9, vI (f 1), vI 1, none, none, none, none] [] wd5 Q
        refine br_ne (fun c60 => ?_) (fun c60 => ?_)
        · exfalso; omega
        · have hz0 := best_0 (by omega) hb
          refine WP.blk 2 ?_
          show WP 17 116 (if cnd .ne y9 0 = true then 74 else 57) [vR x, vL (sO f), none, vI y9, vI (f 1), vI 1, none, none, none, none] [] wd5 Q
          refine br_ne (fun c61 => ?_) (fun c61 => ?_)
          · exfalso; omega
          · refine WP.blk 3 ?_
            show WP 17 116 75 [vR x, vL (sO f), none, vI y9, vI (f 1), vI 1, none, none, none, none] [vI 1] wd5 Q
            exact WP.ret rfl rfl rfl ⟨by omega, trivial⟩ (k _ _ (ls_B (ls_le hh5 (by omega)) (by omega) hB) (Int.le_refl _))
