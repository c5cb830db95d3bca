/-! the law: its walk, from the made object on -/
set_option maxHeartbeats 16000000 in
theorem law_walk9 {x L : Nat} {w : Wd} {f : Int → Int} {Q : Res → Wd → Prop} (h : LwS 200 0 x L w f [] 0) (hQ : ∀ w', (uc w' : Int) ≤ 975894 → (us w' : Int) ≤ 6173787 → Q (0, vI 1) w') : WP 19 139 8 [vR 1, vR x, none, none, none, none, none, none, none, none] [] w Q := by
  refine WP.blk 1 ?_
  show WP 19 139 9 [vR 1, vR x, none, none, none, none, none, none, none, none] [vR x] w Q
  refine WP.cl (a := [vR x]) (rest := []) rfl rfl rfl rfl trivial (by decide) (u_undo0 h (Int.le_refl _) (fun wd1 hh1 => ⟨rfl, ?_⟩))
  show WP 19 139 12 [vR 1, vR x, none, none, none, none, none, none, none, none] [vI (-5000002)] wd1 Q
  refine WP.blk 3 ?_
  show WP 19 139 18 [vR 1, vR x, none, none, none, none, none, none, none, none] [vR x] wd1 Q
  refine WP.cl (a := [vR x]) (rest := []) rfl rfl rfl rfl trivial (by decide) (z_refused hh1 (by omega) (fun wd2 hh2 => ⟨rfl, ?_⟩))
  show WP 19 139 21 [vR 1, vR x, none, none, none, none, none, none, none, none] [vI 1] wd2 Q
  refine WP.blk 2 ?_
  show WP 19 139 25 [vR 1, vR x, none, none, none, none, none, none, none, none] [vR x] wd2 Q
  refine WP.cl (a := [vR x]) (rest := []) rfl rfl rfl rfl trivial (by decide) (z_fewest hh2 (fun wd3 svhh3 hh3 hshh3 => ⟨rfl, ?_⟩))
  show WP 19 139 28 [vR 1, vR x, none, none, none, none, none, none, none, none] [vI 1] wd3 Q
  have eshh3 : svhh3 = 0 := by have q := ls_sv hh3; omega
  rw [eshh3] at hh3
  refine WP.blk 2 ?_
  show WP 19 139 32 [vR 1, vR x, none, none, none, none, none, none, none, none] [vR x] wd3 Q
  refine WP.cl (a := [vR x]) (rest := []) rfl rfl rfl rfl trivial (by decide) (z_order hh3 (by omega) (fun wd4 svhh4 hh4 hshh4 => ⟨rfl, ?_⟩))
  show WP 19 139 35 [vR 1, vR x, none, none, none, none, none, none, none, none] [vI 1] wd4 Q
  have eshh4 : svhh4 = 0 := by have q := ls_sv hh4; omega
  rw [eshh4] at hh4
  refine WP.blk 4 ?_
  show WP 19 139 41 [vR 1, vR x, none, none, none, none, none, none, none, none] [vI 0, vR 1, vR x] wd4 Q
  refine WP.cl (a := [vR 1, vI 0]) (rest := [vR x]) rfl rfl rfl rfl trivial (by decide) (z_cell (ls_scr hh4) (by omega) (fun ce5 => ⟨rfl, ?_⟩))
  show WP 19 139 44 [vR 1, vR x, none, none, none, none, none, none, none, none] [vI ce5, vR x] wd4 Q
  refine WP.blk 2 ?_
  show WP 19 139 46 [vR 1, vR x, none, none, none, none, none, none, none, none] [vI 1, vR 1, vI ce5, vR x] wd4 Q
  refine WP.cl (a := [vR 1, vI 1]) (rest := [vI ce5, vR x]) rfl rfl rfl rfl trivial (by decide) (z_cell (ls_scr hh4) (by omega) (fun ce6 => ⟨rfl, ?_⟩))
  show WP 19 139 49 [vR 1, vR x, none, none, none, none, none, none, none, none] [vI ce6, vI ce5, vR x] wd4 Q
  refine WP.cl (a := [vR x, vI ce5, vI ce6]) (rest := []) rfl rfl rfl rfl trivial (by decide) (z_parses hh4 (fun wd7 g tx l hh7 hpt => ⟨rfl, ?_⟩))
  show WP 19 139 52 [vR 1, vR x, none, none, none, none, none, none, none, none] [vI 8] wd7 Q
  have hn0 : nsv 0 = 1 := by decide
  refine WP.blk 3 ?_
  show WP 19 139 58 [vR 1, vR x, none, none, none, none, none, none, none, none] [vR x] wd7 Q
  refine WP.cl (a := [vR x]) (rest := []) rfl rfl rfl rfl trivial (by decide) (u_undoT hh7 (Int.le_refl _) (fun wd8 hh8 sphh8 => ⟨rfl, ?_⟩))
  show WP 19 139 61 [vR 1, vR x, none, none, none, none, none, none, none, none] [vI ((nsv 0) - 1)] wd8 Q
  refine WP.blk 1 ?_
  show WP 19 139 (if cnd .ne ((nsv 0) - 1) 0 = true then 77 else 64) [vR 1, vR x, none, none, none, none, none, none, none, none] [] wd8 Q
  refine br_ne (fun c9 => ?_) (fun c9 => ?_)
  · exfalso; rw [hn0] at c9; omega
  · refine WP.blk 1 ?_
    show WP 19 139 65 [vR 1, vR x, none, none, none, none, none, none, none, none] [vR x] wd8 Q
    refine WP.cl (a := [vR x]) (rest := []) rfl rfl rfl rfl ⟨ls_ty (t_s hh8), trivial⟩ (by decide) (u_parse hh8 (Int.le_refl _) (Nat.le_of_ble_eq_true rfl) hpt (fun wd10 g2 hh10 _ => ⟨rfl, ?_⟩))
    show WP 19 139 68 [vR 1, vR x, none, none, none, none, none, none, none, none] [vI 8] wd10 Q
    have hh10 := t_s hh10
    refine WP.blk 7 ?_
    show WP 19 139 81 [vR 1, vR x, vI 1, vI 1, none, none, none, none, none, none] [] wd10 Q
    have hl_81 : ∀ (n_81 : Nat) (t : Int) (f9 : Int → Int) (sv9 : Int) (a4_81 : V) (a5_81 : V) (a6_81 : V) (a8_81 : V) (a9_81 : V) (w_81 : Wd), 1 ≤ t ∧ t ≤ 32 → LwS (4200 + 14000 * t) (1000 * t) x L w_81 f9 ([]) sv9 → (32 - t).toNat < n_81 → WP 19 139 81 [vR 1, vR x, vI 1, vI t, a4_81, a5_81, a6_81, none, a8_81, a9_81] [] w_81 Q := by
      intro n_81
      induction n_81 with
      | zero => intro t f9 sv9 a4_81 a5_81 a6_81 a8_81 a9_81 w_81 t0 h_81 hm_81; exact absurd hm_81 (Nat.not_lt_zero _)
      | succ n_81 ih_81 =>
        intro t f9 sv9 a4_81 a5_81 a6_81 a8_81 a9_81 w_81 t0 h_81 hm_81
        have hj_344 : ∀ (a4 : V) (y9 : Int) (a6 : V) (i8 : Int) (w_344 : Wd) (f : Int → Int) (sv : Int), 0 ≤ y9 ∧ y9 ≤ 1000000 → t < 32 → LwS (4200 + 14000 * t + 13000) (1000 * t + 588) x L w_344 f [] sv → WP 19 139 344 [vR 1, vR x, vI 1, vI t, a4, vI y9, a6, none, vI i8, vI (f 1)] [] w_344 Q := by
          intro a4 y9 a6 i8 w_344 f sv hy9 ht9 hh_344
          have hW1 := (ls_row hh_344).1.2.1.1
          refine WP.blk 5 ?_
          show ir (t + 1) ∧ WP 19 139 81 [vR 1, vR x, vI 1, vI (t + 1), a4, vI y9, a6, none, vI i8, vI (f 1)] [] w_344 Q
          refine ⟨(by unfold ir; omega), ?_⟩
          exact ih_81 (t + 1) f sv (a4) (vI y9) (a6) (vI i8) (vI (f 1)) w_344 (by omega) (ls_0 (ls_B (ls_le hh_344 (by omega)) (by omega) (by omega))) (by omega)
        have hj_329 : ∀ (a4 : V) (y9 : Int) (a6 : V) (i8 : Int) (w_329 : Wd) (f : Int → Int) (sv : Int), 0 ≤ y9 ∧ y9 ≤ 1000000 → t < 32 → LwS (4200 + 14000 * t + 12300) (1000 * t + 588) x L w_329 f [] sv → WP 19 139 329 [vR 1, vR x, vI 1, vI t, a4, vI y9, a6, none, vI i8, vI (f 1)] [] w_329 Q := by
          intro a4 y9 a6 i8 w_329 f sv hy9 ht9 hh_329
          have hW1 := (ls_row hh_329).1.2.1.1
          refine WP.blk 5 ?_
          show (0 ≤ t ∧ 0 < 9) ∧ WP 19 139 (if cnd .ne (t % 9) 5 = true then 344 else 337) [vR 1, vR x, vI 1, vI t, a4, vI y9, a6, none, vI i8, vI (f 1)] [] w_329 Q
          refine ⟨(by omega), ?_⟩
          refine br_ne (fun c11 => ?_) (fun c11 => ?_)
          · exact hj_344 (a4) y9 (a6) i8 w_329 f sv (by omega) (by omega) (ls_0 (ls_B (ls_le hh_329 (by omega)) (by omega) (by omega)))
          · refine WP.blk 1 ?_
            show WP 19 139 338 [vR 1, vR x, vI 1, vI t, a4, vI y9, a6, none, vI i8, vI (f 1)] [vR x] w_329 Q
            refine WP.cl (a := [vR x]) (rest := []) rfl rfl rfl rfl trivial (by decide) (z_refused hh_329 (by omega) (fun wd12 hh12 => ⟨rfl, ?_⟩))
            show WP 19 139 341 [vR 1, vR x, vI 1, vI t, a4, vI y9, a6, none, vI i8, vI (f 1)] [vI 1] wd12 Q
            refine WP.blk 1 ?_
            show WP 19 139 344 [vR 1, vR x, vI 1, vI t, a4, vI y9, a6, none, vI i8, vI (f 1)] [] wd12 Q
            exact hj_344 (a4) y9 (a6) i8 wd12 f sv (by omega) (by omega) (ls_0 (ls_B (ls_le hh12 (by omega)) (by omega) (by omega)))
        have hj_304 : ∀ (a4 : V) (y9 : Int) (a6 : V) (i8 : Int) (w_304 : Wd) (f : Int → Int) (sv : Int), 0 ≤ y9 ∧ y9 ≤ 1000000 → t < 32 → LwS (4200 + 14000 * t + 10200) (1000 * t + 588) x L w_304 f [] sv → WP 19 139 304 [vR 1, vR x, vI 1, vI t, a4, vI y9, a6, none, vI i8, vI (f 1)] [] w_304 Q := by
          intro a4 y9 a6 i8 w_304 f sv hy9 ht9 hh_304
          have hW1 := (ls_row hh_304).1.2.1.1
          refine WP.blk 5 ?_
          show (0 ≤ t ∧ 0 < 7) ∧ WP 19 139 (if cnd .ne (t % 7) 3 = true then 329 else 312) [vR 1, vR x, vI 1, vI t, a4, vI y9, a6, none, vI i8, vI (f 1)] [] w_304 Q
          refine ⟨(by omega), ?_⟩
          refine br_ne (fun c13 => ?_) (fun c13 => ?_)
          · exact hj_329 (a4) y9 (a6) i8 w_304 f sv (by omega) (by omega) (ls_0 (ls_B (ls_le hh_304 (by omega)) (by omega) (by omega)))
          · refine WP.blk 9 ?_
            show (0 ≤ y9 ∧ 0 < 5) ∧ ir (1 + (y9 % 5)) ∧ (0 ≤ y9 ∧ 0 < 5) ∧ WP 19 139 323 [vR 1, vR x, vI 1, vI t, a4, vI y9, a6, none, vI i8, vI (f 1)] [vI (y9 / 5), vI (1 + (y9 % 5)), vR x] w_304 Q
            refine ⟨(by omega), (by unfold ir; omega), (by omega), ?_⟩
            refine WP.cl (a := [vR x, vI (1 + (y9 % 5)), vI (y9 / 5)]) (rest := []) rfl rfl rfl rfl trivial (by decide) (z_bestCut hh_304 (by omega) (by omega) (fun wd14 svhh14 hh14 _ => ⟨rfl, ?_⟩))
            show WP 19 139 326 [vR 1, vR x, vI 1, vI t, a4, vI y9, a6, none, vI i8, vI (f 1)] [vI 1] wd14 Q
            refine WP.blk 1 ?_
            show WP 19 139 329 [vR 1, vR x, vI 1, vI t, a4, vI y9, a6, none, vI i8, vI (f 1)] [] wd14 Q
            exact hj_329 (a4) y9 (a6) i8 wd14 f svhh14 (by omega) (by omega) (ls_0 (ls_B (ls_le hh14 (by omega)) (by omega) (by omega)))
        have hj_289 : ∀ (a4 : V) (y9 : Int) (a6 : V) (i8 : Int) (w_289 : Wd) (f : Int → Int) (sv : Int), 0 ≤ y9 ∧ y9 ≤ 1000000 → t < 32 → LwS (4200 + 14000 * t + 8600) (1000 * t + 168) x L w_289 f [] sv → WP 19 139 289 [vR 1, vR x, vI 1, vI t, a4, vI y9, a6, none, vI i8, vI (f 1)] [] w_289 Q := by
          intro a4 y9 a6 i8 w_289 f sv hy9 ht9 hh_289
          have hW1 := (ls_row hh_289).1.2.1.1
          refine WP.blk 5 ?_
          show (0 ≤ t ∧ 0 < 6) ∧ WP 19 139 (if cnd .ne (t % 6) 2 = true then 304 else 297) [vR 1, vR x, vI 1, vI t, a4, vI y9, a6, none, vI i8, vI (f 1)] [] w_289 Q
          refine ⟨(by omega), ?_⟩
          refine br_ne (fun c15 => ?_) (fun c15 => ?_)
          · exact hj_304 (a4) y9 (a6) i8 w_289 f sv (by omega) (by omega) (ls_0 (ls_B (ls_le hh_289 (by omega)) (by omega) (by omega)))
          · refine WP.blk 1 ?_
            show WP 19 139 298 [vR 1, vR x, vI 1, vI t, a4, vI y9, a6, none, vI i8, vI (f 1)] [vR x] w_289 Q
            refine WP.cl (a := [vR x]) (rest := []) rfl rfl rfl rfl trivial (by decide) (z_order hh_289 (by omega) (fun wd16 svhh16 hh16 hshh16 => ⟨rfl, ?_⟩))
            show WP 19 139 301 [vR 1, vR x, vI 1, vI t, a4, vI y9, a6, none, vI i8, vI (f 1)] [vI 1] wd16 Q
            refine WP.blk 1 ?_
            show WP 19 139 304 [vR 1, vR x, vI 1, vI t, a4, vI y9, a6, none, vI i8, vI (f 1)] [] wd16 Q
            exact hj_304 (a4) y9 (a6) i8 wd16 f svhh16 (by omega) (by omega) (ls_0 (ls_B (ls_le hh16 (by omega)) (by omega) (by omega)))
        have hj_275 : ∀ (a4 : V) (y9 : Int) (a6 : V) (i8 : Int) (w_275 : Wd) (f : Int → Int) (sv : Int), 0 ≤ y9 ∧ y9 ≤ 1000000 → t < 32 → LwS (4200 + 14000 * t + 7000) (1000 * t + 168) x L w_275 f [] sv → WP 19 139 275 [vR 1, vR x, vI 1, vI t, a4, vI y9, a6, none, vI i8, vI (f 1)] [] w_275 Q := by
          intro a4 y9 a6 i8 w_275 f sv hy9 ht9 hh_275
          have hW1 := (ls_row hh_275).1.2.1.1
          refine WP.blk 5 ?_
          show (0 ≤ t ∧ 0 < 5) ∧ WP 19 139 (if cnd .ne (t % 5) 4 = true then 289 else 282) [vR 1, vR x, vI 1, vI t, a4, vI y9, a6, none, vI i8, vI (f 1)] [] w_275 Q
          refine ⟨(by omega), ?_⟩
          refine br_ne (fun c17 => ?_) (fun c17 => ?_)
          · exact hj_289 (a4) y9 (a6) i8 w_275 f sv (by omega) (by omega) (ls_0 (ls_B (ls_le hh_275 (by omega)) (by omega) (by omega)))
          · refine WP.blk 1 ?_
            show WP 19 139 283 [vR 1, vR x, vI 1, vI t, a4, vI y9, a6, none, vI i8, vI (f 1)] [vR x] w_275 Q
            refine WP.cl (a := [vR x]) (rest := []) rfl rfl rfl rfl trivial (by decide) (z_fewest hh_275 (fun wd18 svhh18 hh18 hshh18 => ⟨rfl, ?_⟩))
            show WP 19 139 286 [vR 1, vR x, vI 1, vI t, a4, vI y9, a6, none, vI i8, vI (f 1)] [vI 1] wd18 Q
            refine WP.blk 1 ?_
            show WP 19 139 289 [vR 1, vR x, vI 1, vI t, a4, vI y9, a6, none, vI i8, vI (f 1)] [] wd18 Q
            exact hj_289 (a4) y9 (a6) i8 wd18 f svhh18 (by omega) (by omega) (ls_0 (ls_B (ls_le hh18 (by omega)) (by omega) (by omega)))
        have hj_226 : ∀ (a4 : V) (y9 : Int) (a6 : V) (i8 : Int) (a9 : V) (w_226 : Wd) (f : Int → Int) (sv : Int), 0 ≤ y9 ∧ y9 ≤ 1000000 → t < 32 → LwS (4200 + 14000 * t + 3000) (1000 * t + 84) x L w_226 f [] sv → WP 19 139 226 [vR 1, vR x, vI 1, vI t, a4, vI y9, a6, none, vI i8, a9] [] w_226 Q := by
          intro a4 y9 a6 i8 a9 w_226 f sv hy9 ht9 hh_226
          have hW1 := (ls_row hh_226).1.2.1.1
          refine WP.blk 2 ?_
          show WP 19 139 228 [vR 1, vR x, vI 1, vI t, a4, vI y9, a6, none, vI i8, a9] [vI 1, vR x] w_226 Q
          refine WP.cl (a := [vR x, vI 1]) (rest := []) rfl rfl rfl rfl trivial (by decide) (v_value hh_226 (Int.le_refl _) (vV_lo (by omega)) (fun wd19 hh19 => ⟨rfl, ?_⟩))
          show WP 19 139 231 [vR 1, vR x, vI 1, vI t, a4, vI y9, a6, none, vI i8, a9] [vI (f 1)] wd19 Q
          refine WP.blk 4 ?_
          show WP 19 139 238 [vR 1, vR x, vI 1, vI t, a4, vI y9, a6, none, vI i8, vI (f 1)] [vR x] wd19 Q
          refine WP.cl (a := [vR x]) (rest := []) rfl rfl rfl rfl trivial (by decide) (z_prints hh19 (fun wd20 hh20 => ⟨rfl, ?_⟩))
          show WP 19 139 241 [vR 1, vR x, vI 1, vI t, a4, vI y9, a6, none, vI i8, vI (f 1)] [vI 1] wd20 Q
          refine WP.blk 2 ?_
          show WP 19 139 245 [vR 1, vR x, vI 1, vI t, a4, vI y9, a6, none, vI i8, vI (f 1)] [vR x] wd20 Q
          refine WP.cl (a := [vR x]) (rest := []) rfl rfl rfl rfl trivial (by decide) (z_plans hh20 (fun wd21 hh21 => ⟨rfl, ?_⟩))
          show WP 19 139 248 [vR 1, vR x, vI 1, vI t, a4, vI y9, a6, none, vI i8, vI (f 1)] [vI 1] wd21 Q
          refine WP.blk 6 ?_
          show (0 ≤ t ∧ 0 < 3) ∧ WP 19 139 (if cnd .ne (t % 3) 1 = true then 275 else 258) [vR 1, vR x, vI 1, vI t, a4, vI y9, a6, none, vI i8, vI (f 1)] [] wd21 Q
          refine ⟨(by omega), ?_⟩
          refine br_ne (fun c22 => ?_) (fun c22 => ?_)
          · exact hj_275 (a4) y9 (a6) i8 wd21 f sv (by omega) (by omega) (ls_0 (ls_B (ls_le hh21 (by omega)) (by omega) (by omega)))
          · refine WP.blk 2 ?_
            show WP 19 139 (if cnd .eq (f 1) 0 = true then 275 else 263) [vR 1, vR x, vI 1, vI t, a4, vI y9, a6, none, vI i8, vI (f 1)] [] wd21 Q
            refine br_eq (fun c23 => ?_) (fun c23 => ?_)
            · exact hj_275 (a4) y9 (a6) i8 wd21 f sv (by omega) (by omega) (ls_0 (ls_B (ls_le hh21 (by omega)) (by omega) (by omega)))
            · refine WP.blk 4 ?_
              show (0 ≤ y9 ∧ 0 < (f 1)) ∧ WP 19 139 269 [vR 1, vR x, vI 1, vI t, a4, vI y9, a6, none, vI i8, vI (f 1)] [vI (y9 % (f 1)), vR x] wd21 Q
              refine ⟨(by omega), ?_⟩
              refine WP.cl (a := [vR x, vI (y9 % (f 1))]) (rest := []) rfl rfl rfl rfl trivial (by decide) (z_written hh21 ⟨Int.emod_nonneg _ (by omega), Int.emod_lt_of_pos _ (by omega)⟩ (by omega) (fun wd24 svhh24 hh24 _ => ⟨rfl, ?_⟩))
              show WP 19 139 272 [vR 1, vR x, vI 1, vI t, a4, vI y9, a6, none, vI i8, vI (f 1)] [vI 1] wd24 Q
              refine WP.blk 1 ?_
              show WP 19 139 275 [vR 1, vR x, vI 1, vI t, a4, vI y9, a6, none, vI i8, vI (f 1)] [] wd24 Q
              exact hj_275 (a4) y9 (a6) i8 wd24 f svhh24 (by omega) (by omega) (ls_0 (ls_B (ls_le hh24 (by omega)) (by omega) (by omega)))
        have hs81 := nsv_r (ls_sv h_81)
        refine WP.blk 3 ?_
        show WP 19 139 (if cnd .ge t 32 = true then 356 else 87) [vR 1, vR x, vI 1, vI t, a4_81, a5_81, a6_81, none, a8_81, a9_81] [] w_81 Q
        refine br_ge (fun c25 => ?_) (fun c25 => ?_)
        · refine WP.blk 3 ?_
          show WP 19 139 361 [vR 1, vR x, vI 1, vI t, a4_81, a5_81, a6_81, none, a8_81, a9_81] [vR x] w_81 Q
          refine WP.cl (a := [vR x]) (rest := []) rfl rfl rfl rfl trivial (by decide) (z_refused h_81 (by omega) (fun wd26 hh26 => ⟨rfl, ?_⟩))
          show WP 19 139 364 [vR 1, vR x, vI 1, vI t, a4_81, a5_81, a6_81, none, a8_81, a9_81] [vI 1] wd26 Q
          refine WP.blk 2 ?_
          show WP 19 139 368 [vR 1, vR x, vI 1, vI t, a4_81, a5_81, a6_81, none, a8_81, a9_81] [vR x] wd26 Q
          refine WP.cl (a := [vR x]) (rest := []) rfl rfl rfl rfl trivial (by decide) (z_plans hh26 (fun wd27 hh27 => ⟨rfl, ?_⟩))
          show WP 19 139 371 [vR 1, vR x, vI 1, vI t, a4_81, a5_81, a6_81, none, a8_81, a9_81] [vI 1] wd27 Q
          refine WP.blk 3 ?_
          show WP 19 139 379 [vR 1, vR x, vI 1, vI t, a4_81, a5_81, a6_81, none, a8_81, a9_81] [vI 1] wd27 Q
          exact WP.ret rfl rfl rfl ⟨by omega, trivial⟩ (hQ _ (by have q := ls_cnt hh27; omega) (by have q := ls_cnt hh27; omega))
        · refine WP.blk 6 ?_
          show ir (2 * t) ∧ WP 19 139 95 [vR 1, vR x, vI 1, vI t, a4_81, a5_81, a6_81, none, a8_81, a9_81] [vI (2 * t), vR 1] w_81 Q
          refine ⟨(by unfold ir; omega), ?_⟩
          refine WP.cl (a := [vR 1, vI (2 * t)]) (rest := []) rfl rfl rfl rfl trivial (by decide) (z_cell (ls_scr h_81) (by omega) (fun ce28 => ⟨rfl, ?_⟩))
          show WP 19 139 98 [vR 1, vR x, vI 1, vI t, a4_81, a5_81, a6_81, none, a8_81, a9_81] [vI ce28] w_81 Q
          refine WP.blk 7 ?_
          show ir (2 * t) ∧ ir ((2 * t) + 1) ∧ WP 19 139 106 [vR 1, vR x, vI 1, vI t, vI ce28, a5_81, a6_81, none, a8_81, a9_81] [vI ((2 * t) + 1), vR 1] w_81 Q
          refine ⟨(by unfold ir; omega), (by unfold ir; omega), ?_⟩
          refine WP.cl (a := [vR 1, vI ((2 * t) + 1)]) (rest := []) rfl rfl rfl rfl trivial (by decide) (z_cell (ls_scr h_81) (by omega) (fun ce29 => ⟨rfl, ?_⟩))
          show WP 19 139 109 [vR 1, vR x, vI 1, vI t, vI ce28, a5_81, a6_81, none, a8_81, a9_81] [vI ce29] w_81 Q
          refine WP.blk 1 ?_
          show WP 19 139 111 [vR 1, vR x, vI 1, vI t, vI ce28, a5_81, a6_81, none, a8_81, a9_81] [vI 1000000, vI ce29] w_81 Q
          refine WP.cl (a := [vI ce29, vI 1000000]) (rest := []) rfl rfl rfl rfl trivial (by decide) (z_low (by omega) ⟨rfl, ?_⟩)
          show WP 19 139 114 [vR 1, vR x, vI 1, vI t, vI ce28, a5_81, a6_81, none, a8_81, a9_81] [vI (lw9 ce29 1000000)] w_81 Q
          obtain ⟨lo30, hlo30⟩ : ∃ t, t = lw9 ce29 1000000 := ⟨_, rfl⟩
          have rlo30 := lw9_r (v := ce29) (n := 1000000) (by omega)
          rw [← hlo30] at rlo30 ⊢
          refine WP.blk 2 ?_
          show WP 19 139 117 [vR 1, vR x, vI 1, vI t, vI ce28, vI lo30, a6_81, none, a8_81, a9_81] [vR x] w_81 Q
          refine WP.cl (a := [vR x]) (rest := []) rfl rfl rfl rfl trivial (by decide) (z_state h_81 (fun wd31 hh31 => ⟨rfl, ?_⟩))
          show WP 19 139 120 [vR 1, vR x, vI 1, vI t, vI ce28, vI lo30, a6_81, none, a8_81, a9_81] [vL (sO f9)] wd31 Q
          refine WP.blk 6 ?_
          show (0 ≤ t ∧ 0 < 13) ∧ WP 19 139 (if cnd .ne (t % 13) 12 = true then 142 else 131) [vR 1, vR x, vI 1, vI t, vI ce28, vI lo30, vL (sO f9), none, a8_81, a9_81] [] wd31 Q
          refine ⟨(by omega), ?_⟩
          refine br_ne (fun c33 => ?_) (fun c33 => ?_)
          · refine WP.blk 3 ?_
            show WP 19 139 147 [vR 1, vR x, vI 1, vI t, vI ce28, vI lo30, vL (sO f9), none, a8_81, a9_81] [vI lo30, vI ce28, vR x] wd31 Q
            refine WP.cl (a := [vR x, vI ce28, vI lo30]) (rest := []) rfl rfl rfl rfl trivial (by decide) (z_acts hh31 (by omega) (by omega) (fun wd34 g v hh34 hv => ⟨rfl, ?_⟩) (fun wd35 v hh35 hv => ⟨rfl, ?_⟩))
            · show WP 19 139 150 [vR 1, vR x, vI 1, vI t, vI ce28, vI lo30, vL (sO f9), none, a8_81, a9_81] [vI v] wd34 Q
              refine WP.blk 3 ?_
              show WP 19 139 (if cnd .ge v 0 = true then 178 else 157) [vR 1, vR x, vI 1, vI t, vI ce28, vI lo30, vL (sO f9), none, vI v, a9_81] [] wd34 Q
              refine br_ge (fun c36 => ?_) (fun c36 => ?_)
              · refine WP.blk 7 ?_
                show WP 19 139 (if cnd .lt v 0 = true then 226 else 193) [vR 1, vR x, vI 1, vI t, vI ce28, vI lo30, vL (sO f9), none, vI v, a9_81] [] wd34 Q
                refine br_lt (fun c37 => ?_) (fun c37 => ?_)
                · exfalso; omega
                · refine WP.blk 6 ?_
                  show WP 19 139 (if cnd .ne (iA (iR ce28 25) 3) 0 = true then 226 else 203) [vR 1, vR x, vI 1, vI t, vI ce28, vI lo30, vL (sO f9), none, vI v, a9_81] [] wd34 Q
                  refine br_ne (fun c38 => ?_) (fun c38 => ?_)
                  · exact hj_226 (vI ce28) lo30 (vL (sO f9)) v (a9_81) wd34 g (nsv sv9) (by omega) (by omega) (ls_0 (ls_B (ls_le hh34 (by omega)) (by omega) (by omega)))
                  · refine WP.blk 1 ?_
                    show WP 19 139 204 [vR 1, vR x, vI 1, vI t, vI ce28, vI lo30, vL (sO f9), none, vI v, a9_81] [vR x] wd34 Q
                    refine WP.cl (a := [vR x]) (rest := []) rfl rfl rfl rfl trivial (by decide) (u_undo hh34 (Int.le_refl _) (fun wd39 hh39 sphh39 => ⟨rfl, ?_⟩))
                    show WP 19 139 207 [vR 1, vR x, vI 1, vI t, vI ce28, vI lo30, vL (sO f9), none, vI v, a9_81] [vI ((nsv sv9) - 1)] wd39 Q
                    refine WP.blk 1 ?_
                    show WP 19 139 (if cnd .lt ((nsv sv9) - 1) 0 = true then 224 else 210) [vR 1, vR x, vI 1, vI t, vI ce28, vI lo30, vL (sO f9), none, vI v, a9_81] [] wd39 Q
                    refine br_lt (fun c40 => ?_) (fun c40 => ?_)
                    · exfalso; omega
                    · refine WP.blk 1 ?_
                      show WP 19 139 211 [vR 1, vR x, vI 1, vI t, vI ce28, vI lo30, vL (sO f9), none, vI v, a9_81] [vR x] wd39 Q
                      refine WP.cl (a := [vR x]) (rest := []) rfl rfl rfl rfl trivial (by decide) (z_state hh39 (fun wd41 hh41 => ⟨rfl, ?_⟩))
                      show WP 19 139 214 [vR 1, vR x, vI 1, vI t, vI ce28, vI lo30, vL (sO f9), none, vI v, a9_81] [vL (sO f9)] wd41 Q
                      refine WP.blk 3 ?_
                      show WP 19 139 (if cnd .ne (lC (sO f9) (sO f9)) 0 = true then 224 else 220) [vR 1, vR x, vI 1, vI t, vI ce28, vI lo30, vL (sO f9), none, vI v, a9_81] [] wd41 Q
                      refine br_ne (fun c43 => ?_) (fun c43 => ?_)
                      · exact absurd (lC_s _) c43
                      · refine WP.blk 3 ?_
                        show WP 19 139 226 [vR 1, vR x, vI 1, vI t, vI ce28, vI lo30, vL (sO f9), none, vI v, a9_81] [] wd41 Q
                        exact hj_226 (vI ce28) lo30 (vL (sO f9)) v (a9_81) wd41 f9 ((nsv sv9) - 1) (by omega) (by omega) (ls_0 (ls_B (ls_le hh41 (by omega)) (by omega) (by omega)))
              · exfalso; omega
            · show WP 19 139 150 [vR 1, vR x, vI 1, vI t, vI ce28, vI lo30, vL (sO f9), none, a8_81, a9_81] [vI v] wd35 Q
              refine WP.blk 3 ?_
              show WP 19 139 (if cnd .ge v 0 = true then 178 else 157) [vR 1, vR x, vI 1, vI t, vI ce28, vI lo30, vL (sO f9), none, vI v, a9_81] [] wd35 Q
              refine br_ge (fun c44 => ?_) (fun c44 => ?_)
              · exfalso; omega
              · refine WP.blk 3 ?_
                show WP 19 139 (if cnd .eq v (-5000002) = true then 178 else 164) [vR 1, vR x, vI 1, vI t, vI ce28, vI lo30, vL (sO f9), none, vI v, a9_81] [] wd35 Q
                refine br_eq (fun c45 => ?_) (fun c45 => ?_)
                · refine WP.blk 7 ?_
                  show WP 19 139 (if cnd .lt v 0 = true then 226 else 193) [vR 1, vR x, vI 1, vI t, vI ce28, vI lo30, vL (sO f9), none, vI v, a9_81] [] wd35 Q
                  refine br_lt (fun c46 => ?_) (fun c46 => ?_)
                  · exact hj_226 (vI ce28) lo30 (vL (sO f9)) v (a9_81) wd35 f9 sv9 (by omega) (by omega) (ls_0 (ls_B (ls_le hh35 (by omega)) (by omega) (by omega)))
                  · exfalso; omega
                · refine WP.blk 3 ?_
                  show WP 19 139 (if cnd .eq v (-5000001) = true then 178 else 171) [vR 1, vR x, vI 1, vI t, vI ce28, vI lo30, vL (sO f9), none, vI v, a9_81] [] wd35 Q
                  refine br_eq (fun c47 => ?_) (fun c47 => ?_)
                  · refine WP.blk 7 ?_
                    show WP 19 139 (if cnd .lt v 0 = true then 226 else 193) [vR 1, vR x, vI 1, vI t, vI ce28, vI lo30, vL (sO f9), none, vI v, a9_81] [] wd35 Q
                    refine br_lt (fun c48 => ?_) (fun c48 => ?_)
                    · exact hj_226 (vI ce28) lo30 (vL (sO f9)) v (a9_81) wd35 f9 sv9 (by omega) (by omega) (ls_0 (ls_B (ls_le hh35 (by omega)) (by omega) (by omega)))
                    · exfalso; omega
                  · refine WP.blk 3 ?_
                    show WP 19 139 (if cnd .ne v (-5000003) = true then 182 else 178) [vR 1, vR x, vI 1, vI t, vI ce28, vI lo30, vL (sO f9), none, vI v, a9_81] [] wd35 Q
                    refine br_ne (fun c49 => ?_) (fun c49 => ?_)
                    · exfalso; omega
                    · refine WP.blk 7 ?_
                      show WP 19 139 (if cnd .lt v 0 = true then 226 else 193) [vR 1, vR x, vI 1, vI t, vI ce28, vI lo30, vL (sO f9), none, vI v, a9_81] [] wd35 Q
                      refine br_lt (fun c50 => ?_) (fun c50 => ?_)
                      · exact hj_226 (vI ce28) lo30 (vL (sO f9)) v (a9_81) wd35 f9 sv9 (by omega) (by omega) (ls_0 (ls_B (ls_le hh35 (by omega)) (by omega) (by omega)))
                      · exfalso; omega
          · refine WP.blk 3 ?_
            show WP 19 139 136 [vR 1, vR x, vI 1, vI t, vI ce28, vI lo30, vL (sO f9), none, a8_81, a9_81] [vI lo30, vI ce28, vR x] wd31 Q
            refine WP.cl (a := [vR x, vI ce28, vI lo30]) (rest := []) rfl rfl rfl rfl trivial (by decide) (z_parses hh31 (fun wd51 g tx l hh51 _ => ⟨rfl, ?_⟩))
            show WP 19 139 139 [vR 1, vR x, vI 1, vI t, vI ce28, vI lo30, vL (sO f9), none, a8_81, a9_81] [vI 8] wd51 Q
            have hh51 := t_s hh51
            refine WP.blk 17 ?_
            show WP 19 139 (if cnd .ne (iA (iR ce28 25) 3) 0 = true then 226 else 203) [vR 1, vR x, vI 1, vI t, vI ce28, vI lo30, vL (sO f9), none, vI 8, a9_81] [] wd51 Q
            refine br_ne (fun c52 => ?_) (fun c52 => ?_)
            · exact hj_226 (vI ce28) lo30 (vL (sO f9)) 8 (a9_81) wd51 g (nsv sv9) (by omega) (by omega) (ls_0 (ls_B (ls_le hh51 (by omega)) (by omega) (by omega)))
            · refine WP.blk 1 ?_
              show WP 19 139 204 [vR 1, vR x, vI 1, vI t, vI ce28, vI lo30, vL (sO f9), none, vI 8, a9_81] [vR x] wd51 Q
              refine WP.cl (a := [vR x]) (rest := []) rfl rfl rfl rfl trivial (by decide) (u_undo hh51 (Int.le_refl _) (fun wd53 hh53 sphh53 => ⟨rfl, ?_⟩))
              show WP 19 139 207 [vR 1, vR x, vI 1, vI t, vI ce28, vI lo30, vL (sO f9), none, vI 8, a9_81] [vI ((nsv sv9) - 1)] wd53 Q
              refine WP.blk 1 ?_
              show WP 19 139 (if cnd .lt ((nsv sv9) - 1) 0 = true then 224 else 210) [vR 1, vR x, vI 1, vI t, vI ce28, vI lo30, vL (sO f9), none, vI 8, a9_81] [] wd53 Q
              refine br_lt (fun c54 => ?_) (fun c54 => ?_)
              · exfalso; omega
              · refine WP.blk 1 ?_
                show WP 19 139 211 [vR 1, vR x, vI 1, vI t, vI ce28, vI lo30, vL (sO f9), none, vI 8, a9_81] [vR x] wd53 Q
                refine WP.cl (a := [vR x]) (rest := []) rfl rfl rfl rfl trivial (by decide) (z_state hh53 (fun wd55 hh55 => ⟨rfl, ?_⟩))
                show WP 19 139 214 [vR 1, vR x, vI 1, vI t, vI ce28, vI lo30, vL (sO f9), none, vI 8, a9_81] [vL (sO f9)] wd55 Q
                refine WP.blk 3 ?_
                show WP 19 139 (if cnd .ne (lC (sO f9) (sO f9)) 0 = true then 224 else 220) [vR 1, vR x, vI 1, vI t, vI ce28, vI lo30, vL (sO f9), none, vI 8, a9_81] [] wd55 Q
                refine br_ne (fun c57 => ?_) (fun c57 => ?_)
                · exact absurd (lC_s _) c57
                · refine WP.blk 3 ?_
                  show WP 19 139 226 [vR 1, vR x, vI 1, vI t, vI ce28, vI lo30, vL (sO f9), none, vI 8, a9_81] [] wd55 Q
                  exact hj_226 (vI ce28) lo30 (vL (sO f9)) 8 (a9_81) wd55 f9 ((nsv sv9) - 1) (by omega) (by omega) (ls_0 (ls_B (ls_le hh55 (by omega)) (by omega) (by omega)))
    exact hl_81 _ 1 g2 (nsv ((nsv 0) - 1)) none none none none none wd10 (by omega) (ls_0 (ls_B (ls_le hh10 (by omega)) (by omega) (by omega))) (Nat.lt_succ_self _)
