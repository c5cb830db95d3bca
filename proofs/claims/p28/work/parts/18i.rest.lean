/-! the law: the best part, what is refused -/
set_option maxHeartbeats 8000000 in
theorem z_bestCut {most y : Int} {N B : Int} {x L : Nat} {w : Wd} {f : Int → Int} {sv : Int} {Q : Res → Wd → Prop} (h : LwS N B x L w f [] sv) (hm : 1 ≤ most ∧ most ≤ 5) (hy : 0 ≤ y ∧ y ≤ 1000000) (k : ∀ w' sv', LwS (N + 2000) B x L w' f [] sv' → sv' ≤ sv → Q (0, vI 1) w') : EvQ 10 118 [vR x, vI most, vI y] w Q := by
  refine EvQ.enter (ls := [vR x, vI most, vI y, none, none, none, none, none, none, none, none, none, none, none, none]) (Nat.le_of_ble_eq_true rfl) rfl ?_
  have hR := (ls_row h).1
  have hA := hR.1
  have hW := hR.2.1
  have hI := hR.2.2
  have hA1 := hA.1
  have hW1 := hW.1
  have hI2 := hI.2
  have hsv := ls_sv h
  have hb0 := (ls_b h).1
  refine WP.blk 1 ?_
  show WP 9 118 1 [vR x, vI most, vI y, none, none, none, none, none, none, none, none, none, none, none, none] [vR x] w Q
  refine WP.cl (a := [vR x]) (rest := []) rfl rfl rfl rfl trivial (by decide) (z_state h (fun wd1 hh1 => ⟨rfl, ?_⟩))
  show WP 9 118 4 [vR x, vI most, vI y, none, none, none, none, none, none, none, none, none, none, none, none] [vL (sO f)] wd1 Q
  refine WP.blk 4 ?_
  show WP 9 118 8 [vR x, vI most, vI y, vL (sO f), none, none, none, none, none, none, none, none, none, none, none] [vI most, vI 0, vR x] wd1 Q
  refine WP.cl (a := [vR x, vI 0, vI most]) (rest := []) rfl rfl rfl rfl trivial (by decide) (v_bestCut hh1 (Int.le_refl _) (fun wd3 y0 hh3 _ hp0 => ⟨rfl, ?_⟩) (fun _ _ z => by exfalso; omega))
  show WP 9 118 11 [vR x, vI most, vI y, vL (sO f), none, none, none, none, none, none, none, none, none, none, none] [vI y0] wd3 Q
  refine WP.blk 4 ?_
  show WP 9 118 16 [vR x, vI most, vI y, vL (sO f), none, vI y0, none, none, none, none, none, none, none, none, none] [vI most, vI 1, vR x] wd3 Q
  refine WP.cl (a := [vR x, vI 1, vI most]) (rest := []) rfl rfl rfl rfl trivial (by decide) (v_bestCut hh3 (Int.le_refl _) (fun wd4 y1 hh4 _ hp1 => ⟨rfl, ?_⟩) (fun _ _ z => by exfalso; omega))
  show WP 9 118 19 [vR x, vI most, vI y, vL (sO f), none, vI y0, none, none, none, none, none, none, none, none, none] [vI y1] wd4 Q
  refine WP.blk 4 ?_
  show WP 9 118 24 [vR x, vI most, vI y, vL (sO f), none, vI y0, vI y1, none, none, none, none, none, none, none, none] [vI most, vI 2, vR x] wd4 Q
  refine WP.cl (a := [vR x, vI 2, vI most]) (rest := []) rfl rfl rfl rfl trivial (by decide) (v_bestCut hh4 (Int.le_refl _) (fun wd5 y2 hh5 _ hp2 => ⟨rfl, ?_⟩) (fun _ _ z => by exfalso; omega))
  show WP 9 118 27 [vR x, vI most, vI y, vL (sO f), none, vI y0, vI y1, none, none, none, none, none, none, none, none] [vI y2] wd5 Q
  refine WP.blk 4 ?_
  show WP 9 118 32 [vR x, vI most, vI y, vL (sO f), none, vI y0, vI y1, vI y2, none, none, none, none, none, none, none] [vI most, vI 3, vR x] wd5 Q
  refine WP.cl (a := [vR x, vI 3, vI most]) (rest := []) rfl rfl rfl rfl trivial (by decide) (v_bestCut hh5 (Int.le_refl _) (fun wd6 y3 hh6 _ hp3 => (part_4 hR hb0 hm hp0 hp1 hp2 hp3).elim (fun hx => ⟨rfl, ?_⟩) (fun hx => ⟨rfl, ?_⟩)) (fun _ _ z => by exfalso; omega))
  · show WP 9 118 35 [vR x, vI most, vI y, vL (sO f), none, vI y0, vI y1, vI y2, none, none, none, none, none, none, none] [vI y3] wd6 Q
    obtain ⟨ha, e0, e1, e2, e3⟩ := hx
    refine WP.blk 4 ?_
    show WP 9 118 (if cnd .ne y0 (-1) = true then 94 else 43) [vR x, vI most, vI y, vL (sO f), none, vI y0, vI y1, vI y2, vI y3, none, none, none, none, none, none] [] wd6 Q
    refine br_ne (fun c7 => ?_) (fun c7 => ?_)
    · exfalso; omega
    · refine WP.blk 3 ?_
      show WP 9 118 (if cnd .ne y1 (-1) = true then 92 else 49) [vR x, vI most, vI y, vL (sO f), none, vI y0, vI y1, vI y2, vI y3, none, none, none, none, none, none] [] wd6 Q
      refine br_ne (fun c8 => ?_) (fun c8 => ?_)
      · exfalso; omega
      · refine WP.blk 3 ?_
        show WP 9 118 (if cnd .ne y2 (-1) = true then 92 else 55) [vR x, vI most, vI y, vL (sO f), none, vI y0, vI y1, vI y2, vI y3, none, none, none, none, none, none] [] wd6 Q
        refine br_ne (fun c9 => ?_) (fun c9 => ?_)
        · exfalso; omega
        · refine WP.blk 3 ?_
          show WP 9 118 (if cnd .ne y3 (-1) = true then 92 else 61) [vR x, vI most, vI y, vL (sO f), none, vI y0, vI y1, vI y2, vI y3, none, none, none, none, none, none] [] wd6 Q
          refine br_ne (fun c10 => ?_) (fun c10 => ?_)
          · exfalso; omega
          · refine WP.blk 2 ?_
            show WP 9 118 63 [vR x, vI most, vI y, vL (sO f), none, vI y0, vI y1, vI y2, vI y3, none, none, none, none, none, none] [vI 1, vR x] wd6 Q
            refine WP.cl (a := [vR x, vI 1]) (rest := []) rfl rfl rfl rfl trivial (by decide) (v_value hh6 (Int.le_refl _) (vV_lo (by omega)) (fun wd11 hh11 => ⟨rfl, ?_⟩))
            show WP 9 118 66 [vR x, vI most, vI y, vL (sO f), none, vI y0, vI y1, vI y2, vI y3, none, none, none, none, none, none] [vI (f 1)] wd11 Q
            refine WP.blk 1 ?_
            show WP 9 118 (if cnd .eq (f 1) 0 = true then 79 else 69) [vR x, vI most, vI y, vL (sO f), none, vI y0, vI y1, vI y2, vI y3, none, none, none, none, none, none] [] wd11 Q
            refine br_eq (fun c12 => ?_) (fun c12 => ?_)
            · refine WP.blk 1 ?_
              show WP 9 118 80 [vR x, vI most, vI y, vL (sO f), none, vI y0, vI y1, vI y2, vI y3, none, none, none, none, none, none] [vR x] wd11 Q
              refine WP.cl (a := [vR x]) (rest := []) rfl rfl rfl rfl trivial (by decide) (z_state hh11 (fun wd13 hh13 => ⟨rfl, ?_⟩))
              show WP 9 118 83 [vR x, vI most, vI y, vL (sO f), none, vI y0, vI y1, vI y2, vI y3, none, none, none, none, none, none] [vL (sO f)] wd13 Q
              refine WP.blk 3 ?_
              show WP 9 118 (if cnd .ne (lC (sO f) (sO f)) 0 = true then 92 else 88) [vR x, vI most, vI y, vL (sO f), none, vI y0, vI y1, vI y2, vI y3, none, none, none, none, none, none] [] wd13 Q
              refine br_ne (fun c15 => ?_) (fun c15 => ?_)
              · exact absurd (lC_s _) c15
              · refine WP.blk 2 ?_
                show WP 9 118 93 [vR x, vI most, vI y, vL (sO f), none, vI y0, vI y1, vI y2, vI y3, none, none, none, none, none, none] [vI 1] wd13 Q
                exact WP.ret rfl rfl rfl ⟨by omega, trivial⟩ (k _ _ (ls_le hh13 (by omega)) (Int.le_refl _))
            · refine WP.blk 2 ?_
              show WP 9 118 71 [vR x, vI most, vI y, vL (sO f), none, vI y0, vI y1, vI y2, vI y3, none, none, none, none, none, none] [vI 0, vR x] wd11 Q
              refine WP.cl (a := [vR x, vI 0]) (rest := []) rfl rfl rfl rfl trivial (by decide) (v_value hh11 (Int.le_refl _) (vV_lo (by omega)) (fun wd16 hh16 => ⟨rfl, ?_⟩))
              show WP 9 118 74 [vR x, vI most, vI y, vL (sO f), none, vI y0, vI y1, vI y2, vI y3, none, none, none, none, none, none] [vI (f 0)] wd16 Q
              refine WP.blk 2 ?_
              show WP 9 118 (if cnd .ne (f 0) 10 = true then 92 else 79) [vR x, vI most, vI y, vL (sO f), none, vI y0, vI y1, vI y2, vI y3, none, none, none, none, none, none] [] wd16 Q
              refine br_ne (fun c17 => ?_) (fun c17 => ?_)
              · exfalso; omega
              · refine WP.blk 1 ?_
                show WP 9 118 80 [vR x, vI most, vI y, vL (sO f), none, vI y0, vI y1, vI y2, vI y3, none, none, none, none, none, none] [vR x] wd16 Q
                refine WP.cl (a := [vR x]) (rest := []) rfl rfl rfl rfl trivial (by decide) (z_state hh16 (fun wd18 hh18 => ⟨rfl, ?_⟩))
                show WP 9 118 83 [vR x, vI most, vI y, vL (sO f), none, vI y0, vI y1, vI y2, vI y3, none, none, none, none, none, none] [vL (sO f)] wd18 Q
                refine WP.blk 3 ?_
                show WP 9 118 (if cnd .ne (lC (sO f) (sO f)) 0 = true then 92 else 88) [vR x, vI most, vI y, vL (sO f), none, vI y0, vI y1, vI y2, vI y3, none, none, none, none, none, none] [] wd18 Q
                refine br_ne (fun c20 => ?_) (fun c20 => ?_)
                · exact absurd (lC_s _) c20
                · refine WP.blk 2 ?_
                  show WP 9 118 93 [vR x, vI most, vI y, vL (sO f), none, vI y0, vI y1, vI y2, vI y3, none, none, none, none, none, none] [vI 1] wd18 Q
                  exact WP.ret rfl rfl rfl ⟨by omega, trivial⟩ (k _ _ (ls_le hh18 (by omega)) (Int.le_refl _))
  · show WP 9 118 35 [vR x, vI most, vI y, vL (sO f), none, vI y0, vI y1, vI y2, none, none, none, none, none, none, none] [vI y3] wd6 Q
    obtain ⟨⟨z1, z2⟩, hcd, e3, z3, hall⟩ := hx
    obtain ⟨⟨d1, d2⟩, ⟨d3, d4⟩, ⟨d5, d6⟩, d7⟩ := hcd
    have hAr := allP_r hR
    refine WP.blk 4 ?_
    show WP 9 118 (if cnd .ne y0 (-1) = true then 94 else 43) [vR x, vI most, vI y, vL (sO f), none, vI y0, vI y1, vI y2, vI y3, none, none, none, none, none, none] [] wd6 Q
    refine br_ne (fun c21 => ?_) (fun c21 => ?_)
    · refine WP.blk 1 ?_
      show WP 9 118 95 [vR x, vI most, vI y, vL (sO f), none, vI y0, vI y1, vI y2, vI y3, none, none, none, none, none, none] [vR x] wd6 Q
      refine WP.cl (a := [vR x]) (rest := []) rfl rfl rfl rfl trivial (by decide) (z_presses hh6 (fun wd22 hh22 => ⟨rfl, ?_⟩))
      show WP 9 118 98 [vR x, vI most, vI y, vL (sO f), none, vI y0, vI y1, vI y2, vI y3, none, none, none, none, none, none] [vI (allP f)] wd22 Q
      refine WP.blk 3 ?_
      show WP 9 118 102 [vR x, vI most, vI y, vL (sO f), none, vI y0, vI y1, vI y2, vI y3, vI (allP f), none, none, none, none, none] [vI 0, vR x] wd22 Q
      refine WP.cl (a := [vR x, vI 0]) (rest := []) rfl rfl rfl rfl trivial (by decide) (v_value hh22 (Int.le_refl _) (vV_lo (by omega)) (fun wd23 hh23 => ⟨rfl, ?_⟩))
      show WP 9 118 105 [vR x, vI most, vI y, vL (sO f), none, vI y0, vI y1, vI y2, vI y3, vI (allP f), none, none, none, none, none] [vI (f 0)] wd23 Q
      refine WP.blk 4 ?_
      show WP 9 118 (if cnd .lt y2 1 = true then 162 else 113) [vR x, vI most, vI y, vL (sO f), none, vI y0, vI y1, vI y2, vI y3, vI (allP f), vI (f 0), none, none, none, none] [] wd23 Q
      refine br_lt (fun c24 => ?_) (fun c24 => ?_)
      · exfalso; omega
      · refine WP.blk 3 ?_
        show WP 9 118 (if cnd .gt y2 most = true then 162 else 119) [vR x, vI most, vI y, vL (sO f), none, vI y0, vI y1, vI y2, vI y3, vI (allP f), vI (f 0), none, none, none, none] [] wd23 Q
        refine br_gt (fun c25 => ?_) (fun c25 => ?_)
        · exfalso; omega
        · refine WP.blk 2 ?_
          show WP 9 118 (if cnd .lt y3 0 = true then 162 else 124) [vR x, vI most, vI y, vL (sO f), none, vI y0, vI y1, vI y2, vI y3, vI (allP f), vI (f 0), none, none, none, none] [] wd23 Q
          refine br_lt (fun c26 => ?_) (fun c26 => ?_)
          · exfalso; omega
          · refine WP.blk 4 ?_
            show WP 9 118 131 [vR x, vI most, vI y, vL (sO f), none, vI y0, vI y1, vI y2, vI y3, vI (allP f), vI (f 0), none, none, none, none] [vI y2, vI y1, vI y0, vR x] wd23 Q
            refine WP.cl (a := [vR x, vI y0, vI y1, vI y2]) (rest := []) rfl rfl rfl rfl trivial (by decide) (u_cut hh23 (Int.le_refl _) (Nat.le_of_ble_eq_true rfl) (fun wd27 hh27 _ => ⟨rfl, ?_⟩) (fun _ _ z => by exfalso; omega) (fun _ _ z => by exfalso; omega) (fun _ _ z => by exfalso; omega))
            show WP 9 118 134 [vR x, vI most, vI y, vL (sO f), none, vI y0, vI y1, vI y2, vI y3, vI (allP f), vI (f 0), none, none, none, none] [vI (f 0)] wd27 Q
            have hse := sav_e (f := f) (w := y0) (p := y1) (n := y2)
            rw [← e3] at hse
            obtain ⟨g1, hgg1⟩ : ∃ g, g = cutR f y0 y1 y2 := ⟨_, rfl⟩
            rw [← hgg1] at hh27 hse
            have hgr := allP_r (ls_row hh27).1
            refine WP.blk 2 ?_
            show WP 9 118 (if cnd .ne (f 0) (f 0) = true then 162 else 139) [vR x, vI most, vI y, vL (sO f), none, vI y0, vI y1, vI y2, vI y3, vI (allP f), vI (f 0), none, none, none, none] [] wd27 Q
            refine br_ne (fun c28 => ?_) (fun c28 => ?_)
            · exact absurd rfl c28
            · refine WP.blk 1 ?_
              show WP 9 118 140 [vR x, vI most, vI y, vL (sO f), none, vI y0, vI y1, vI y2, vI y3, vI (allP f), vI (f 0), none, none, none, none] [vR x] wd27 Q
              refine WP.cl (a := [vR x]) (rest := []) rfl rfl rfl rfl trivial (by decide) (z_presses hh27 (fun wd29 hh29 => ⟨rfl, ?_⟩))
              show WP 9 118 143 [vR x, vI most, vI y, vL (sO f), none, vI y0, vI y1, vI y2, vI y3, vI (allP f), vI (f 0), none, none, none, none] [vI (allP g1)] wd29 Q
              refine WP.blk 4 ?_
              show ir ((allP f) - y3) ∧ WP 9 118 (if cnd .ne (allP g1) ((allP f) - y3) = true then 162 else 151) [vR x, vI most, vI y, vL (sO f), none, vI y0, vI y1, vI y2, vI y3, vI (allP f), vI (f 0), none, none, none, none] [] wd29 Q
              refine ⟨(by unfold ir; omega), ?_⟩
              refine br_ne (fun c30 => ?_) (fun c30 => ?_)
              · exfalso; omega
              · refine WP.blk 1 ?_
                show WP 9 118 152 [vR x, vI most, vI y, vL (sO f), none, vI y0, vI y1, vI y2, vI y3, vI (allP f), vI (f 0), none, none, none, none] [vR x] wd29 Q
                refine WP.cl (a := [vR x]) (rest := []) rfl rfl rfl rfl trivial (by decide) (u_undo hh29 (Int.le_refl _) (fun wd31 hh31 sphh31 => ⟨rfl, ?_⟩))
                show WP 9 118 155 [vR x, vI most, vI y, vL (sO f), none, vI y0, vI y1, vI y2, vI y3, vI (allP f), vI (f 0), none, none, none, none] [vI ((nsv sv) - 1)] wd31 Q
                refine WP.blk 1 ?_
                show WP 9 118 (if cnd .lt ((nsv sv) - 1) 0 = true then 162 else 158) [vR x, vI most, vI y, vL (sO f), none, vI y0, vI y1, vI y2, vI y3, vI (allP f), vI (f 0), none, none, none, none] [] wd31 Q
                refine br_lt (fun c32 => ?_) (fun c32 => ?_)
                · exfalso; have q1 := nsv_r hsv; have q2 := nsv_r (show 0 ≤ nsv sv - 1 ∧ nsv sv - 1 ≤ 4 by omega); omega
                · refine WP.blk 6 ?_
                  show WP 9 118 168 [vR x, vI most, vI y, vL (sO f), none, vI y0, vI y1, vI y2, vI y3, vI (allP f), vI (f 0), vI 1, none, none, none] [vI 1, vR x, vI y] wd31 Q
                  refine WP.cl (a := [vR x, vI 1]) (rest := [vI y]) rfl rfl rfl rfl trivial (by decide) (v_value hh31 (Int.le_refl _) (vV_lo (by omega)) (fun wd33 hh33 => ⟨rfl, ?_⟩))
                  show WP 9 118 171 [vR x, vI most, vI y, vL (sO f), none, vI y0, vI y1, vI y2, vI y3, vI (allP f), vI (f 0), vI 1, none, none, none] [vI (f 1), vI y] wd33 Q
                  refine WP.blk 1 ?_
                  show (0 ≤ y ∧ 0 < (f 1)) ∧ WP 9 118 172 [vR x, vI most, vI y, vL (sO f), none, vI y0, vI y1, vI y2, vI y3, vI (allP f), vI (f 0), vI 1, none, none, none] [vI (y % (f 1))] wd33 Q
                  refine ⟨(by omega), ?_⟩
                  obtain ⟨ot, hot⟩ : ∃ t, t = y % f 1 := ⟨_, rfl⟩
                  rw [← hot]
                  have ho1 : 0 ≤ ot := by rw [hot]; exact Int.emod_nonneg _ (by omega)
                  have ho2 : ot < f 1 := by rw [hot]; exact Int.emod_lt_of_pos _ (by omega)
                  have hko := (hW.2 ot ho1 ho2).1
                  have hk3 := hko.2.2.1
                  have hk4 := hko.2.2.2.1
                  refine WP.blk 7 ?_
                  show (0 ≤ y ∧ 0 < 7) ∧ WP 9 118 182 [vR x, vI most, vI y, vL (sO f), none, vI y0, vI y1, vI y2, vI y3, vI (allP f), vI (f 0), vI 1, vI ot, none, none] [vI 0, vI ot, vR x, vI (y / 7)] wd33 Q
                  refine ⟨(by omega), ?_⟩
                  refine WP.cl (a := [vR x, vI ot, vI 0]) (rest := [vI (y / 7)]) rfl rfl rfl rfl trivial (by decide) (v_word hh33 (Int.le_refl _) (wV_0 hA hW (by omega)) (fun wd34 hh34 => ⟨rfl, ?_⟩))
                  show WP 9 118 185 [vR x, vI most, vI y, vL (sO f), none, vI y0, vI y1, vI y2, vI y3, vI (allP f), vI (f 0), vI 1, vI ot, none, none] [vI (f (97 + 14 * ot)), vI (y / 7)] wd34 Q
                  refine WP.blk 1 ?_
                  show (0 ≤ (y / 7) ∧ 0 < (f (97 + 14 * ot))) ∧ WP 9 118 186 [vR x, vI most, vI y, vL (sO f), none, vI y0, vI y1, vI y2, vI y3, vI (allP f), vI (f 0), vI 1, vI ot, none, none] [vI ((y / 7) % (f (97 + 14 * ot)))] wd34 Q
                  refine ⟨(by omega), ?_⟩
                  obtain ⟨at9, hat⟩ : ∃ t, t = y / 7 % f (97 + 14 * ot) := ⟨_, rfl⟩
                  rw [← hat]
                  have hp1 : 0 ≤ at9 := by rw [hat]; exact Int.emod_nonneg _ (by omega)
                  have hp2 : at9 < f (97 + 14 * ot) := by rw [hat]; exact Int.emod_lt_of_pos _ (by omega)
                  refine WP.blk 7 ?_
                  show (0 ≤ y ∧ 0 < 84) ∧ (0 ≤ (y / 84) ∧ 0 < most) ∧ WP 9 118 195 [vR x, vI most, vI y, vL (sO f), none, vI y0, vI y1, vI y2, vI y3, vI (allP f), vI (f 0), vI 1, vI ot, vI at9, none] [vI ((y / 84) % most), vI 1] wd34 Q
                  refine ⟨(by omega), (by omega), ?_⟩
                  obtain ⟨mn, hmn⟩ : ∃ t, t = y / 84 % most := ⟨_, rfl⟩
                  rw [← hmn]
                  have hm1 : 0 ≤ mn := by rw [hmn]; exact Int.emod_nonneg _ (by omega)
                  have hm2 : mn < most := by rw [hmn]; exact Int.emod_lt_of_pos _ (by omega)
                  refine WP.blk 10 ?_
                  show ir (1 + mn) ∧ ir (at9 + (1 + mn)) ∧ WP 9 118 212 [vR x, vI most, vI y, vL (sO f), none, vI y0, vI y1, vI y2, vI y3, vI (allP f), vI (f 0), vI 1, vI ot, vI at9, vI (1 + mn)] [vI 0, vI ot, vR x, vI (at9 + (1 + mn))] wd34 Q
                  refine ⟨(by unfold ir; omega), (by unfold ir; omega), ?_⟩
                  refine WP.cl (a := [vR x, vI ot, vI 0]) (rest := [vI (at9 + (1 + mn))]) rfl rfl rfl rfl trivial (by decide) (v_word hh34 (Int.le_refl _) (wV_0 hA hW (by omega)) (fun wd35 hh35 => ⟨rfl, ?_⟩))
                  show WP 9 118 215 [vR x, vI most, vI y, vL (sO f), none, vI y0, vI y1, vI y2, vI y3, vI (allP f), vI (f 0), vI 1, vI ot, vI at9, vI (1 + mn)] [vI (f (97 + 14 * ot)), vI (at9 + (1 + mn))] wd35 Q
                  refine WP.blk 1 ?_
                  show WP 9 118 (if cnd .gt (at9 + (1 + mn)) (f (97 + 14 * ot)) = true then 259 else 218) [vR x, vI most, vI y, vL (sO f), none, vI y0, vI y1, vI y2, vI y3, vI (allP f), vI (f 0), vI 1, vI ot, vI at9, vI (1 + mn)] [] wd35 Q
                  refine br_gt (fun c36 => ?_) (fun c36 => ?_)
                  · refine WP.blk 3 ?_
                    show WP 9 118 265 [vR x, vI most, vI y, vL (sO f), none, vI y0, vI y1, vI y2, vI y3, vI (allP f), vI (f 0), vI 1, vI ot, vI at9, vI (1 + mn)] [vR x] wd35 Q
                    refine WP.cl (a := [vR x]) (rest := []) rfl rfl rfl rfl trivial (by decide) (z_state hh35 (fun wd37 hh37 => ⟨rfl, ?_⟩))
                    show WP 9 118 268 [vR x, vI most, vI y, vL (sO f), none, vI y0, vI y1, vI y2, vI y3, vI (allP f), vI (f 0), vI 1, vI ot, vI at9, vI (1 + mn)] [vL (sO f)] wd37 Q
                    refine WP.blk 3 ?_
                    show WP 9 118 (if cnd .ne (lC (sO f) (sO f)) 0 = true then 277 else 273) [vR x, vI most, vI y, vL (sO f), none, vI y0, vI y1, vI y2, vI y3, vI (allP f), vI (f 0), vI 1, vI ot, vI at9, vI (1 + mn)] [] wd37 Q
                    refine br_ne (fun c39 => ?_) (fun c39 => ?_)
                    · exact absurd (lC_s _) c39
                    · refine WP.blk 2 ?_
                      show WP 9 118 278 [vR x, vI most, vI y, vL (sO f), none, vI y0, vI y1, vI y2, vI y3, vI (allP f), vI (f 0), vI 1, vI ot, vI at9, vI (1 + mn)] [vI 1] wd37 Q
                      exact WP.ret rfl rfl rfl ⟨by omega, trivial⟩ (k _ _ (ls_le hh37 (by omega)) (by have q1 := nsv_r hsv; omega))
                  · refine WP.blk 4 ?_
                    show WP 9 118 225 [vR x, vI most, vI y, vL (sO f), none, vI y0, vI y1, vI y2, vI y3, vI (allP f), vI (f 0), vI 1, vI ot, vI at9, vI (1 + mn)] [vI (1 + mn), vI at9, vI ot, vR x] wd35 Q
                    refine WP.cl (a := [vR x, vI ot, vI at9, vI (1 + mn)]) (rest := []) rfl rfl rfl rfl trivial (by decide) (u_cut hh35 (Int.le_refl _) (Nat.le_of_ble_eq_true rfl) (fun wd40 hh40 _ => ⟨rfl, ?_⟩) (fun _ _ z => by exfalso; omega) (fun _ _ z => by exfalso; omega) (fun _ _ z => by exfalso; omega))
                    show WP 9 118 228 [vR x, vI most, vI y, vL (sO f), none, vI y0, vI y1, vI y2, vI y3, vI (allP f), vI (f 0), vI 1, vI ot, vI at9, vI (1 + mn)] [vI (f 0)] wd40 Q
                    have hse := sav_e (f := f) (w := ot) (p := at9) (n := (1 + mn))
                    have hsl := hall ot at9 (1 + mn) ⟨by omega, by omega, by omega, by omega⟩
                    obtain ⟨g2, hgg2⟩ : ∃ g, g = cutR f ot at9 (1 + mn) := ⟨_, rfl⟩
                    rw [← hgg2] at hh40 hse
                    have hgr := allP_r (ls_row hh40).1
                    refine WP.blk 2 ?_
                    show WP 9 118 (if cnd .ne (f 0) (f 0) = true then 256 else 233) [vR x, vI most, vI y, vL (sO f), none, vI y0, vI y1, vI y2, vI y3, vI (allP f), vI (f 0), vI 1, vI ot, vI at9, vI (1 + mn)] [] wd40 Q
                    refine br_ne (fun c41 => ?_) (fun c41 => ?_)
                    · exact absurd rfl c41
                    · refine WP.blk 1 ?_
                      show WP 9 118 234 [vR x, vI most, vI y, vL (sO f), none, vI y0, vI y1, vI y2, vI y3, vI (allP f), vI (f 0), vI 1, vI ot, vI at9, vI (1 + mn)] [vR x] wd40 Q
                      refine WP.cl (a := [vR x]) (rest := []) rfl rfl rfl rfl trivial (by decide) (z_presses hh40 (fun wd42 hh42 => ⟨rfl, ?_⟩))
                      show WP 9 118 237 [vR x, vI most, vI y, vL (sO f), none, vI y0, vI y1, vI y2, vI y3, vI (allP f), vI (f 0), vI 1, vI ot, vI at9, vI (1 + mn)] [vI (allP g2)] wd42 Q
                      refine WP.blk 4 ?_
                      show ir ((allP f) - y3) ∧ WP 9 118 (if cnd .lt (allP g2) ((allP f) - y3) = true then 256 else 245) [vR x, vI most, vI y, vL (sO f), none, vI y0, vI y1, vI y2, vI y3, vI (allP f), vI (f 0), vI 1, vI ot, vI at9, vI (1 + mn)] [] wd42 Q
                      refine ⟨(by unfold ir; omega), ?_⟩
                      refine br_lt (fun c43 => ?_) (fun c43 => ?_)
                      · exfalso; omega
                      · refine WP.blk 1 ?_
                        show WP 9 118 246 [vR x, vI most, vI y, vL (sO f), none, vI y0, vI y1, vI y2, vI y3, vI (allP f), vI (f 0), vI 1, vI ot, vI at9, vI (1 + mn)] [vR x] wd42 Q
                        refine WP.cl (a := [vR x]) (rest := []) rfl rfl rfl rfl trivial (by decide) (u_undo hh42 (Int.le_refl _) (fun wd44 hh44 sphh44 => ⟨rfl, ?_⟩))
                        show WP 9 118 249 [vR x, vI most, vI y, vL (sO f), none, vI y0, vI y1, vI y2, vI y3, vI (allP f), vI (f 0), vI 1, vI ot, vI at9, vI (1 + mn)] [vI ((nsv ((nsv sv) - 1)) - 1)] wd44 Q
                        refine WP.blk 1 ?_
                        show WP 9 118 (if cnd .lt ((nsv ((nsv sv) - 1)) - 1) 0 = true then 256 else 252) [vR x, vI most, vI y, vL (sO f), none, vI y0, vI y1, vI y2, vI y3, vI (allP f), vI (f 0), vI 1, vI ot, vI at9, vI (1 + mn)] [] wd44 Q
                        refine br_lt (fun c45 => ?_) (fun c45 => ?_)
                        · exfalso; have q1 := nsv_r hsv; have q2 := nsv_r (show 0 ≤ nsv sv - 1 ∧ nsv sv - 1 ≤ 4 by omega); omega
                        · refine WP.blk 6 ?_
                          show WP 9 118 265 [vR x, vI most, vI y, vL (sO f), none, vI y0, vI y1, vI y2, vI y3, vI (allP f), vI (f 0), vI 1, vI ot, vI at9, vI (1 + mn)] [vR x] wd44 Q
                          refine WP.cl (a := [vR x]) (rest := []) rfl rfl rfl rfl trivial (by decide) (z_state hh44 (fun wd46 hh46 => ⟨rfl, ?_⟩))
                          show WP 9 118 268 [vR x, vI most, vI y, vL (sO f), none, vI y0, vI y1, vI y2, vI y3, vI (allP f), vI (f 0), vI 1, vI ot, vI at9, vI (1 + mn)] [vL (sO f)] wd46 Q
                          refine WP.blk 3 ?_
                          show WP 9 118 (if cnd .ne (lC (sO f) (sO f)) 0 = true then 277 else 273) [vR x, vI most, vI y, vL (sO f), none, vI y0, vI y1, vI y2, vI y3, vI (allP f), vI (f 0), vI 1, vI ot, vI at9, vI (1 + mn)] [] wd46 Q
                          refine br_ne (fun c48 => ?_) (fun c48 => ?_)
                          · exact absurd (lC_s _) c48
                          · refine WP.blk 2 ?_
                            show WP 9 118 278 [vR x, vI most, vI y, vL (sO f), none, vI y0, vI y1, vI y2, vI y3, vI (allP f), vI (f 0), vI 1, vI ot, vI at9, vI (1 + mn)] [vI 1] wd46 Q
                            exact WP.ret rfl rfl rfl ⟨by omega, trivial⟩ (k _ _ (ls_le hh46 (by omega)) (by have q1 := nsv_r hsv; have q2 := nsv_r (show 0 ≤ nsv sv - 1 ∧ nsv sv - 1 ≤ 4 by omega); omega))
    · exfalso; omega
set_option maxHeartbeats 8000000 in
theorem z_refused {N B : Int} {x L : Nat} {w : Wd} {f : Int → Int} {sv : Int} {Q : Res → Wd → Prop} (h : LwS N B x L w f [] sv) (hB : B + 84 ≤ 1000000000 - 400) (k : ∀ w', LwS (N + 600) B x L w' f [] sv → Q (0, vI 1) w') : EvQ 18 110 [vR x] w Q := by
  refine EvQ.enter (ls := [vR x, none, none, none, none, none]) (Nat.le_of_ble_eq_true rfl) rfl ?_
  have hR := (ls_row h).1
  have hA := hR.1
  have hW := hR.2.1
  have hI := hR.2.2
  have hA1 := hA.1
  have hW1 := hW.1
  have hI2 := hI.2
  have hsv := ls_sv h
  have hk0 := fun (q : 0 < f 1) => (hW.2 0 (Int.le_refl _) q).1.2.2.1
  refine WP.blk 1 ?_
  show WP 17 110 1 [vR x, none, none, none, none, none] [vR x] w Q
  refine WP.cl (a := [vR x]) (rest := []) rfl rfl rfl rfl trivial (by decide) (z_state h (fun wd1 hh1 => ⟨rfl, ?_⟩))
  show WP 17 110 4 [vR x, none, none, none, none, none] [vL (sO f)] wd1 Q
  refine WP.blk 3 ?_
  show WP 17 110 7 [vR x, vL (sO f), none, none, none, none] [vI 0, vR x] wd1 Q
  refine WP.cl (a := [vR x, vI 0]) (rest := []) rfl rfl rfl rfl trivial (by decide) (v_value hh1 (Int.le_refl _) (vV_lo (by omega)) (fun wd3 hh3 => ⟨rfl, ?_⟩))
  show WP 17 110 10 [vR x, vL (sO f), none, none, none, none] [vI (f 0)] wd3 Q
  refine WP.blk 3 ?_
  show WP 17 110 13 [vR x, vL (sO f), none, vI (f 0), none, none] [vI 1, vR x] wd3 Q
  refine WP.cl (a := [vR x, vI 1]) (rest := []) rfl rfl rfl rfl trivial (by decide) (v_value hh3 (Int.le_refl _) (vV_lo (by omega)) (fun wd4 hh4 => ⟨rfl, ?_⟩))
  show WP 17 110 16 [vR x, vL (sO f), none, vI (f 0), none, none] [vI (f 1)] wd4 Q
  refine WP.blk 3 ?_
  show WP 17 110 22 [vR x, vL (sO f), none, vI (f 0), vI (f 1), none] [vI 128, vR x] wd4 Q
  refine WP.cl (a := [vR x, vI 128]) (rest := []) rfl rfl rfl rfl trivial (by decide) (u_append_no hh4 (Int.le_refl _) (by omega) (fun wd5 hh5 => ⟨rfl, ?_⟩))
  show WP 17 110 25 [vR x, vL (sO f), none, vI (f 0), vI (f 1), none] [vI (-5000001)] wd5 Q
  refine WP.blk 6 ?_
  show WP 17 110 35 [vR x, vL (sO f), none, vI (f 0), vI (f 1), none] [vI 1, vI 0, vI (f 1), vR x] wd5 Q
  refine WP.cl (a := [vR x, vI (f 1), vI 0, vI 1]) (rest := []) rfl rfl rfl rfl trivial (by decide) (u_cut hh5 (Int.le_refl _) (Nat.le_of_ble_eq_true rfl) (fun _ _ z => by exfalso; omega) (fun wd6 hh6 z => ⟨rfl, ?_⟩) (fun _ _ z => by exfalso; omega) (fun _ _ z => by exfalso; omega))
  show WP 17 110 38 [vR x, vL (sO f), none, vI (f 0), vI (f 1), none] [vI (-5000003)] wd6 Q
  refine WP.blk 4 ?_
  show WP 17 110 45 [vR x, vL (sO f), none, vI (f 0), vI (f 1), none] [vI (f 0), vR x] wd6 Q
  refine WP.cl (a := [vR x, vI (f 0)]) (rest := []) rfl rfl rfl rfl trivial (by decide) (u_remove hh6 (Int.le_refl _) (Nat.le_of_ble_eq_true rfl) (fun _ _ z => by exfalso; omega) (fun wd7 hh7 z => ⟨rfl, ?_⟩))
  show WP 17 110 48 [vR x, vL (sO f), none, vI (f 0), vI (f 1), none] [vI (-5000003)] wd7 Q
  refine WP.blk 4 ?_
  show WP 17 110 56 [vR x, vL (sO f), none, vI (f 0), vI (f 1), none] [vI (f 1), vR x] wd7 Q
  refine WP.cl (a := [vR x, vI (f 1)]) (rest := []) rfl rfl rfl rfl trivial (by decide) (u_drop hh7 (Int.le_refl _) (Nat.le_of_ble_eq_true rfl) (fun _ _ z => by exfalso; omega) (fun wd8 hh8 z => ⟨rfl, ?_⟩))
  show WP 17 110 59 [vR x, vL (sO f), none, vI (f 0), vI (f 1), none] [vI (-5000003)] wd8 Q
  refine WP.blk 5 ?_
  show WP 17 110 67 [vR x, vL (sO f), none, vI (f 0), vI (f 1), none] [vI 0, vI (-1), vR x] wd8 Q
  refine WP.cl (a := [vR x, vI (-1), vI 0]) (rest := []) rfl rfl rfl rfl trivial (by decide) (u_setColor hh8 (Int.le_refl _) (Nat.le_of_ble_eq_true rfl) (fun _ _ z => by exfalso; omega) (fun wd9 hh9 z => ⟨rfl, ?_⟩) (fun _ _ z => by exfalso; omega))
  show WP 17 110 70 [vR x, vL (sO f), none, vI (f 0), vI (f 1), none] [vI (-5000003)] wd9 Q
  refine WP.blk 5 ?_
  show WP 17 110 78 [vR x, vL (sO f), none, vI (f 0), vI (f 1), none] [vI 5, vI 0, vR x] wd9 Q
  refine WP.cl (a := [vR x, vI 0, vI 5]) (rest := []) rfl rfl rfl rfl trivial (by decide) (u_setLimits hh9 (Int.le_refl _) (Nat.le_of_ble_eq_true rfl) (fun _ _ z => by exfalso; omega) (fun wd10 hh10 z => ⟨rfl, ?_⟩))
  show WP 17 110 81 [vR x, vL (sO f), none, vI (f 0), vI (f 1), none] [vI (-5000001)] wd10 Q
  refine WP.blk 5 ?_
  show WP 17 110 89 [vR x, vL (sO f), none, vI (f 0), vI (f 1), none] [vI 0, vI 5, vR x] wd10 Q
  refine WP.cl (a := [vR x, vI 5, vI 0]) (rest := []) rfl rfl rfl rfl trivial (by decide) (u_setLimits hh10 (Int.le_refl _) (Nat.le_of_ble_eq_true rfl) (fun _ _ z => by exfalso; omega) (fun wd11 hh11 z => ⟨rfl, ?_⟩))
  show WP 17 110 92 [vR x, vL (sO f), none, vI (f 0), vI (f 1), none] [vI (-5000001)] wd11 Q
  refine WP.blk 4 ?_
  show WP 17 110 99 [vR x, vL (sO f), none, vI (f 0), vI (f 1), none] [vI (f 0), vR x] wd11 Q
  refine WP.cl (a := [vR x, vI (f 0)]) (rest := []) rfl rfl rfl rfl trivial (by decide) (u_clean hh11 (Int.le_refl _) (Nat.le_of_ble_eq_true rfl) hB (fun _ _ z => by exfalso; omega) (fun wd12 hh12 z => ⟨rfl, ?_⟩))
  show WP 17 110 102 [vR x, vL (sO f), none, vI (f 0), vI (f 1), none] [vI (-5000003)] wd12 Q
  refine WP.blk 4 ?_
  show WP 17 110 110 [vR x, vL (sO f), none, vI (f 0), vI (f 1), none] [vI 9, vR x] wd12 Q
  refine WP.cl (a := [vR x, vI 9]) (rest := []) rfl rfl rfl rfl trivial (by decide) (v_value hh12 (Int.le_refl _) (vV_bad (by omega)) (fun wd13 hh13 => ⟨rfl, ?_⟩))
  show WP 17 110 113 [vR x, vL (sO f), none, vI (f 0), vI (f 1), none] [vI (-5000001)] wd13 Q
  refine WP.blk 5 ?_
  show WP 17 110 121 [vR x, vL (sO f), none, vI (f 0), vI (f 1), none] [vI 0, vI (f 0), vR x] wd13 Q
  refine WP.cl (a := [vR x, vI (f 0), vI 0]) (rest := []) rfl rfl rfl rfl trivial (by decide) (v_stamp hh13 (Int.le_refl _) (sV_out (by omega)) (fun wd14 hh14 => ⟨rfl, ?_⟩))
  show WP 17 110 124 [vR x, vL (sO f), none, vI (f 0), vI (f 1), none] [vI (-5000003)] wd14 Q
  refine WP.blk 6 ?_
  show WP 17 110 133 [vR x, vL (sO f), none, vI (f 0), vI (f 1), none] [vI 1, vI 0, vI (f 0), vR x] wd14 Q
  refine WP.cl (a := [vR x, vI (f 0), vI 0, vI 1]) (rest := []) rfl rfl rfl rfl trivial (by decide) (v_print hh14 (Int.le_refl _) (pV_out (by omega)) (fun wd15 hh15 => ⟨rfl, ?_⟩))
  show WP 17 110 136 [vR x, vL (sO f), none, vI (f 0), vI (f 1), none] [vI (-5000003)] wd15 Q
  refine WP.blk 5 ?_
  show WP 17 110 145 [vR x, vL (sO f), none, vI (f 0), vI (f 1), none] [vI 0, vI (f 1), vR x] wd15 Q
  refine WP.cl (a := [vR x, vI (f 1), vI 0]) (rest := []) rfl rfl rfl rfl trivial (by decide) (v_word hh15 (Int.le_refl _) (wV_out (by omega)) (fun wd16 hh16 => ⟨rfl, ?_⟩))
  show WP 17 110 148 [vR x, vL (sO f), none, vI (f 0), vI (f 1), none] [vI (-5000003)] wd16 Q
  refine WP.blk 5 ?_
  show WP 17 110 156 [vR x, vL (sO f), none, vI (f 0), vI (f 1), none] [vI 0, vI (-1), vR x] wd16 Q
  refine WP.cl (a := [vR x, vI (-1), vI 0]) (rest := []) rfl rfl rfl rfl trivial (by decide) (v_letter hh16 (Int.le_refl _) (lV_out (by omega)) (fun wd17 hh17 => ⟨rfl, ?_⟩))
  show WP 17 110 159 [vR x, vL (sO f), none, vI (f 0), vI (f 1), none] [vI (-5000003)] wd17 Q
  refine WP.blk 5 ?_
  show WP 17 110 168 [vR x, vL (sO f), none, vI (f 0), vI (f 1), none] [vI 0, vI (f 1), vR x] wd17 Q
  refine WP.cl (a := [vR x, vI (f 1), vI 0]) (rest := []) rfl rfl rfl rfl trivial (by decide) (v_press hh17 (Int.le_refl _) (fun _ _ _ _ hj _ _ => by exfalso; omega) (fun wd18 hh18 _ => ⟨rfl, ?_⟩))
  show WP 17 110 171 [vR x, vL (sO f), none, vI (f 0), vI (f 1), none] [vI (-5000003)] wd18 Q
  refine WP.blk 4 ?_
  show WP 17 110 179 [vR x, vL (sO f), none, vI (f 0), vI (f 1), none] [vI (f 1), vR x] wd18 Q
  refine WP.cl (a := [vR x, vI (f 1)]) (rest := []) rfl rfl rfl rfl trivial (by decide) (u_write hh18 (Int.le_refl _) (Nat.le_of_ble_eq_true rfl) hB (fun _ _ _ _ z _ => by exfalso; omega) (fun wd19 hh19 _ => ⟨rfl, ?_⟩) (fun _ _ z _ => by exfalso; omega))
  show WP 17 110 182 [vR x, vL (sO f), none, vI (f 0), vI (f 1), none] [vI (-5000003)] wd19 Q
  refine WP.blk 4 ?_
  show WP 17 110 189 [vR x, vL (sO f), none, vI (f 0), vI (f 1), none] [vI (-1), vR x] wd19 Q
  refine WP.cl (a := [vR x, vI (-1)]) (rest := []) rfl rfl rfl rfl trivial (by decide) (v_needed hh19 (Int.le_refl _) (nV_out (by omega)) (fun wd20 hh20 => ⟨rfl, ?_⟩))
  show WP 17 110 192 [vR x, vL (sO f), none, vI (f 0), vI (f 1), none] [vI (-5000003)] wd20 Q
  refine WP.blk 9 ?_
  show WP 17 110 212 [vR x, vL (sO f), none, vI (f 0), vI (f 1), vI 1] [vI (f 1), vR x] wd20 Q
  refine WP.cl (a := [vR x, vI (f 1)]) (rest := []) rfl rfl rfl rfl trivial (by decide) (v_order hh20 (Int.le_refl _) (fun _ _ _ _ hi _ _ => by exfalso; omega) (fun wd21 hh21 _ => ⟨rfl, ?_⟩) (fun _ _ _ hi _ => by exfalso; omega))
  show WP 17 110 215 [vR x, vL (sO f), none, vI (f 0), vI (f 1), vI 1] [vI (-5000003)] wd21 Q
  refine WP.blk 5 ?_
  show WP 17 110 223 [vR x, vL (sO f), none, vI (f 0), vI (f 1), vI 1] [vI 1, vI (-1), vR x] wd21 Q
  refine WP.cl (a := [vR x, vI (-1), vI 1]) (rest := []) rfl rfl rfl rfl trivial (by decide) (v_bestCut hh21 (Int.le_refl _) (fun _ _ _ hc _ => by exfalso; omega) (fun wd22 hh22 _ => ⟨rfl, ?_⟩))
  show WP 17 110 226 [vR x, vL (sO f), none, vI (f 0), vI (f 1), vI 1] [vI (-5000001)] wd22 Q
  refine WP.blk 5 ?_
  show WP 17 110 235 [vR x, vL (sO f), none, vI (f 0), vI (f 1), vI 1] [vI 6, vI 0, vR x] wd22 Q
  refine WP.cl (a := [vR x, vI 0, vI 6]) (rest := []) rfl rfl rfl rfl trivial (by decide) (v_bestCut hh22 (Int.le_refl _) (fun _ _ _ hc _ => by exfalso; omega) (fun wd23 hh23 _ => ⟨rfl, ?_⟩))
  show WP 17 110 238 [vR x, vL (sO f), none, vI (f 0), vI (f 1), vI 1] [vI (-5000001)] wd23 Q
  refine WP.blk 4 ?_
  show WP 17 110 (if cnd .eq (f 1) 0 = true then 303 else 248) [vR x, vL (sO f), none, vI (f 0), vI (f 1), vI 1] [] wd23 Q
  refine br_eq (fun c24 => ?_) (fun c24 => ?_)
  · refine WP.blk 3 ?_
    show WP 17 110 (if cnd .lt (f 0) 10 = true then 326 else 309) [vR x, vL (sO f), none, vI (f 0), vI (f 1), vI 1] [] wd23 Q
    refine br_lt (fun c25 => ?_) (fun c25 => ?_)
    · refine WP.blk 1 ?_
      show WP 17 110 327 [vR x, vL (sO f), none, vI (f 0), vI (f 1), vI 1] [vR x] wd23 Q
      refine WP.cl (a := [vR x]) (rest := []) rfl rfl rfl rfl trivial (by decide) (z_state hh23 (fun wd26 hh26 => ⟨rfl, ?_⟩))
      show WP 17 110 330 [vR x, vL (sO f), none, vI (f 0), vI (f 1), vI 1] [vL (sO f)] wd26 Q
      refine WP.blk 3 ?_
      show WP 17 110 (if cnd .ne (lC (sO f) (sO f)) 0 = true then 339 else 335) [vR x, vL (sO f), none, vI (f 0), vI (f 1), vI 1] [] wd26 Q
      refine br_ne (fun c28 => ?_) (fun c28 => ?_)
      · exact absurd (lC_s _) c28
      · refine WP.blk 2 ?_
        show WP 17 110 340 [vR x, vL (sO f), none, vI (f 0), vI (f 1), vI 1] [vI 1] wd26 Q
        exact WP.ret rfl rfl rfl ⟨by omega, trivial⟩ (k _ (ls_le hh26 (by omega)))
    · refine WP.blk 2 ?_
      show WP 17 110 (if cnd .eq (f 1) 0 = true then 326 else 314) [vR x, vL (sO f), none, vI (f 0), vI (f 1), vI 1] [] wd23 Q
      refine br_eq (fun c29 => ?_) (fun c29 => ?_)
      · refine WP.blk 1 ?_
        show WP 17 110 327 [vR x, vL (sO f), none, vI (f 0), vI (f 1), vI 1] [vR x] wd23 Q
        refine WP.cl (a := [vR x]) (rest := []) rfl rfl rfl rfl trivial (by decide) (z_state hh23 (fun wd30 hh30 => ⟨rfl, ?_⟩))
        show WP 17 110 330 [vR x, vL (sO f), none, vI (f 0), vI (f 1), vI 1] [vL (sO f)] wd30 Q
        refine WP.blk 3 ?_
        show WP 17 110 (if cnd .ne (lC (sO f) (sO f)) 0 = true then 339 else 335) [vR x, vL (sO f), none, vI (f 0), vI (f 1), vI 1] [] wd30 Q
        refine br_ne (fun c32 => ?_) (fun c32 => ?_)
        · exact absurd (lC_s _) c32
        · refine WP.blk 2 ?_
          show WP 17 110 340 [vR x, vL (sO f), none, vI (f 0), vI (f 1), vI 1] [vI 1] wd30 Q
          exact WP.ret rfl rfl rfl ⟨by omega, trivial⟩ (k _ (ls_le hh30 (by omega)))
      · have hk1 := hk0 (by omega)
        refine WP.blk 4 ?_
        show WP 17 110 318 [vR x, vL (sO f), none, vI (f 0), vI (f 1), vI 1] [vI 1, vI 0, vI 0, vR x] wd23 Q
        refine WP.cl (a := [vR x, vI 0, vI 0, vI 1]) (rest := []) rfl rfl rfl rfl trivial (by decide) (u_cut hh23 (Int.le_refl _) (Nat.le_of_ble_eq_true rfl) (fun _ _ z => by exfalso; omega) (fun _ _ z => by exfalso; omega) (fun _ _ z => by exfalso; omega) (fun wd33 hh33 z => ⟨rfl, ?_⟩))
        show WP 17 110 321 [vR x, vL (sO f), none, vI (f 0), vI (f 1), vI 1] [vI (-5000002)] wd33 Q
        refine WP.blk 3 ?_
        show WP 17 110 327 [vR x, vL (sO f), none, vI (f 0), vI (f 1), vI 1] [vR x] wd33 Q
        refine WP.cl (a := [vR x]) (rest := []) rfl rfl rfl rfl trivial (by decide) (z_state hh33 (fun wd34 hh34 => ⟨rfl, ?_⟩))
        show WP 17 110 330 [vR x, vL (sO f), none, vI (f 0), vI (f 1), vI 1] [vL (sO f)] wd34 Q
        refine WP.blk 3 ?_
        show WP 17 110 (if cnd .ne (lC (sO f) (sO f)) 0 = true then 339 else 335) [vR x, vL (sO f), none, vI (f 0), vI (f 1), vI 1] [] wd34 Q
        refine br_ne (fun c36 => ?_) (fun c36 => ?_)
        · exact absurd (lC_s _) c36
        · refine WP.blk 2 ?_
          show WP 17 110 340 [vR x, vL (sO f), none, vI (f 0), vI (f 1), vI 1] [vI 1] wd34 Q
          exact WP.ret rfl rfl rfl ⟨by omega, trivial⟩ (k _ (ls_le hh34 (by omega)))
  · have hk1 := hk0 (by omega)
    refine WP.blk 4 ?_
    show WP 17 110 252 [vR x, vL (sO f), none, vI (f 0), vI (f 1), vI 1] [vI 0, vI 0, vI 0, vR x] wd23 Q
    refine WP.cl (a := [vR x, vI 0, vI 0, vI 0]) (rest := []) rfl rfl rfl rfl trivial (by decide) (u_cut hh23 (Int.le_refl _) (Nat.le_of_ble_eq_true rfl) (fun _ _ z => by exfalso; omega) (fun _ _ z => by exfalso; omega) (fun wd37 hh37 z => ⟨rfl, ?_⟩) (fun _ _ z => by exfalso; omega))
    show WP 17 110 255 [vR x, vL (sO f), none, vI (f 0), vI (f 1), vI 1] [vI (-5000001)] wd37 Q
    refine WP.blk 5 ?_
    show WP 17 110 263 [vR x, vL (sO f), none, vI (f 0), vI (f 1), vI 1] [vI 4, vI 0, vR x] wd37 Q
    refine WP.cl (a := [vR x, vI 0, vI 4]) (rest := []) rfl rfl rfl rfl trivial (by decide) (u_setColor hh37 (Int.le_refl _) (Nat.le_of_ble_eq_true rfl) (fun _ _ z => by exfalso; omega) (fun _ _ z => by exfalso; omega) (fun wd38 hh38 z => ⟨rfl, ?_⟩))
    show WP 17 110 266 [vR x, vL (sO f), none, vI (f 0), vI (f 1), vI 1] [vI (-5000001)] wd38 Q
    refine WP.blk 5 ?_
    show WP 17 110 275 [vR x, vL (sO f), none, vI (f 0), vI (f 1), vI 1] [vI 6, vI 0, vR x] wd38 Q
    refine WP.cl (a := [vR x, vI 0, vI 6]) (rest := []) rfl rfl rfl rfl trivial (by decide) (v_word hh38 (Int.le_refl _) (wV_bad (by omega) (by omega)) (fun wd39 hh39 => ⟨rfl, ?_⟩))
    show WP 17 110 278 [vR x, vL (sO f), none, vI (f 0), vI (f 1), vI 1] [vI (-5000001)] wd39 Q
    refine WP.blk 5 ?_
    show WP 17 110 286 [vR x, vL (sO f), none, vI (f 0), vI (f 1), vI 1] [vI 3, vI 0, vR x] wd39 Q
    obtain ⟨b3, eb3, ob3⟩ := pc_x hA hW (show 0 ≤ (0 : Int) ∧ 0 < f 1 by omega)
    refine WP.cl (a := [vR x, vI 0, vI 3]) (rest := []) rfl rfl rfl rfl trivial (by decide) (v_word hh39 (Int.le_refl _) eb3 (fun wd40 hh40 => ⟨rfl, ?_⟩))
    show WP 17 110 289 [vR x, vL (sO f), none, vI (f 0), vI (f 1), vI 1] [vI b3] wd40 Q
    refine WP.blk 2 ?_
    show WP 17 110 (if cnd .eq b3 1 = true then 303 else 293) [vR x, vL (sO f), none, vI (f 0), vI (f 1), vI 1] [] wd40 Q
    refine br_eq (fun c41 => ?_) (fun c41 => ?_)
    · refine WP.blk 3 ?_
      show WP 17 110 (if cnd .lt (f 0) 10 = true then 326 else 309) [vR x, vL (sO f), none, vI (f 0), vI (f 1), vI 1] [] wd40 Q
      refine br_lt (fun c42 => ?_) (fun c42 => ?_)
      · refine WP.blk 1 ?_
        show WP 17 110 327 [vR x, vL (sO f), none, vI (f 0), vI (f 1), vI 1] [vR x] wd40 Q
        refine WP.cl (a := [vR x]) (rest := []) rfl rfl rfl rfl trivial (by decide) (z_state hh40 (fun wd43 hh43 => ⟨rfl, ?_⟩))
        show WP 17 110 330 [vR x, vL (sO f), none, vI (f 0), vI (f 1), vI 1] [vL (sO f)] wd43 Q
        refine WP.blk 3 ?_
        show WP 17 110 (if cnd .ne (lC (sO f) (sO f)) 0 = true then 339 else 335) [vR x, vL (sO f), none, vI (f 0), vI (f 1), vI 1] [] wd43 Q
        refine br_ne (fun c45 => ?_) (fun c45 => ?_)
        · exact absurd (lC_s _) c45
        · refine WP.blk 2 ?_
          show WP 17 110 340 [vR x, vL (sO f), none, vI (f 0), vI (f 1), vI 1] [vI 1] wd43 Q
          exact WP.ret rfl rfl rfl ⟨by omega, trivial⟩ (k _ (ls_le hh43 (by omega)))
      · refine WP.blk 2 ?_
        show WP 17 110 (if cnd .eq (f 1) 0 = true then 326 else 314) [vR x, vL (sO f), none, vI (f 0), vI (f 1), vI 1] [] wd40 Q
        refine br_eq (fun c46 => ?_) (fun c46 => ?_)
        · refine WP.blk 1 ?_
          show WP 17 110 327 [vR x, vL (sO f), none, vI (f 0), vI (f 1), vI 1] [vR x] wd40 Q
          refine WP.cl (a := [vR x]) (rest := []) rfl rfl rfl rfl trivial (by decide) (z_state hh40 (fun wd47 hh47 => ⟨rfl, ?_⟩))
          show WP 17 110 330 [vR x, vL (sO f), none, vI (f 0), vI (f 1), vI 1] [vL (sO f)] wd47 Q
          refine WP.blk 3 ?_
          show WP 17 110 (if cnd .ne (lC (sO f) (sO f)) 0 = true then 339 else 335) [vR x, vL (sO f), none, vI (f 0), vI (f 1), vI 1] [] wd47 Q
          refine br_ne (fun c49 => ?_) (fun c49 => ?_)
          · exact absurd (lC_s _) c49
          · refine WP.blk 2 ?_
            show WP 17 110 340 [vR x, vL (sO f), none, vI (f 0), vI (f 1), vI 1] [vI 1] wd47 Q
            exact WP.ret rfl rfl rfl ⟨by omega, trivial⟩ (k _ (ls_le hh47 (by omega)))
        · have hk1 := hk0 (by omega)
          refine WP.blk 4 ?_
          show WP 17 110 318 [vR x, vL (sO f), none, vI (f 0), vI (f 1), vI 1] [vI 1, vI 0, vI 0, vR x] wd40 Q
          refine WP.cl (a := [vR x, vI 0, vI 0, vI 1]) (rest := []) rfl rfl rfl rfl trivial (by decide) (u_cut hh40 (Int.le_refl _) (Nat.le_of_ble_eq_true rfl) (fun _ _ z => by exfalso; omega) (fun _ _ z => by exfalso; omega) (fun _ _ z => by exfalso; omega) (fun wd50 hh50 z => ⟨rfl, ?_⟩))
          show WP 17 110 321 [vR x, vL (sO f), none, vI (f 0), vI (f 1), vI 1] [vI (-5000002)] wd50 Q
          refine WP.blk 3 ?_
          show WP 17 110 327 [vR x, vL (sO f), none, vI (f 0), vI (f 1), vI 1] [vR x] wd50 Q
          refine WP.cl (a := [vR x]) (rest := []) rfl rfl rfl rfl trivial (by decide) (z_state hh50 (fun wd51 hh51 => ⟨rfl, ?_⟩))
          show WP 17 110 330 [vR x, vL (sO f), none, vI (f 0), vI (f 1), vI 1] [vL (sO f)] wd51 Q
          refine WP.blk 3 ?_
          show WP 17 110 (if cnd .ne (lC (sO f) (sO f)) 0 = true then 339 else 335) [vR x, vL (sO f), none, vI (f 0), vI (f 1), vI 1] [] wd51 Q
          refine br_ne (fun c53 => ?_) (fun c53 => ?_)
          · exact absurd (lC_s _) c53
          · refine WP.blk 2 ?_
            show WP 17 110 340 [vR x, vL (sO f), none, vI (f 0), vI (f 1), vI 1] [vI 1] wd51 Q
            exact WP.ret rfl rfl rfl ⟨by omega, trivial⟩ (k _ (ls_le hh51 (by omega)))
    · have hnc := pc_f ob3 c41
      refine WP.blk 2 ?_
      show WP 17 110 295 [vR x, vL (sO f), none, vI (f 0), vI (f 1), vI 1] [vI 0, vR x] wd40 Q
      refine WP.cl (a := [vR x, vI 0]) (rest := []) rfl rfl rfl rfl trivial (by decide) (u_write hh40 (Int.le_refl _) (Nat.le_of_ble_eq_true rfl) hB (fun _ _ _ _ _ z => absurd (can_i z) hnc) (fun _ _ z => by exfalso; omega) (fun wd54 hh54 _ _ => ⟨rfl, ?_⟩))
      show WP 17 110 298 [vR x, vL (sO f), none, vI (f 0), vI (f 1), vI 1] [vI (-5000002)] wd54 Q
      refine WP.blk 5 ?_
      show WP 17 110 (if cnd .lt (f 0) 10 = true then 326 else 309) [vR x, vL (sO f), none, vI (f 0), vI (f 1), vI 1] [] wd54 Q
      refine br_lt (fun c55 => ?_) (fun c55 => ?_)
      · refine WP.blk 1 ?_
        show WP 17 110 327 [vR x, vL (sO f), none, vI (f 0), vI (f 1), vI 1] [vR x] wd54 Q
        refine WP.cl (a := [vR x]) (rest := []) rfl rfl rfl rfl trivial (by decide) (z_state hh54 (fun wd56 hh56 => ⟨rfl, ?_⟩))
        show WP 17 110 330 [vR x, vL (sO f), none, vI (f 0), vI (f 1), vI 1] [vL (sO f)] wd56 Q
        refine WP.blk 3 ?_
        show WP 17 110 (if cnd .ne (lC (sO f) (sO f)) 0 = true then 339 else 335) [vR x, vL (sO f), none, vI (f 0), vI (f 1), vI 1] [] wd56 Q
        refine br_ne (fun c58 => ?_) (fun c58 => ?_)
        · exact absurd (lC_s _) c58
        · refine WP.blk 2 ?_
          show WP 17 110 340 [vR x, vL (sO f), none, vI (f 0), vI (f 1), vI 1] [vI 1] wd56 Q
          exact WP.ret rfl rfl rfl ⟨by omega, trivial⟩ (k _ (ls_le hh56 (by omega)))
      · refine WP.blk 2 ?_
        show WP 17 110 (if cnd .eq (f 1) 0 = true then 326 else 314) [vR x, vL (sO f), none, vI (f 0), vI (f 1), vI 1] [] wd54 Q
        refine br_eq (fun c59 => ?_) (fun c59 => ?_)
        · refine WP.blk 1 ?_
          show WP 17 110 327 [vR x, vL (sO f), none, vI (f 0), vI (f 1), vI 1] [vR x] wd54 Q
          refine WP.cl (a := [vR x]) (rest := []) rfl rfl rfl rfl trivial (by decide) (z_state hh54 (fun wd60 hh60 => ⟨rfl, ?_⟩))
          show WP 17 110 330 [vR x, vL (sO f), none, vI (f 0), vI (f 1), vI 1] [vL (sO f)] wd60 Q
          refine WP.blk 3 ?_
          show WP 17 110 (if cnd .ne (lC (sO f) (sO f)) 0 = true then 339 else 335) [vR x, vL (sO f), none, vI (f 0), vI (f 1), vI 1] [] wd60 Q
          refine br_ne (fun c62 => ?_) (fun c62 => ?_)
          · exact absurd (lC_s _) c62
          · refine WP.blk 2 ?_
            show WP 17 110 340 [vR x, vL (sO f), none, vI (f 0), vI (f 1), vI 1] [vI 1] wd60 Q
            exact WP.ret rfl rfl rfl ⟨by omega, trivial⟩ (k _ (ls_le hh60 (by omega)))
        · have hk1 := hk0 (by omega)
          refine WP.blk 4 ?_
          show WP 17 110 318 [vR x, vL (sO f), none, vI (f 0), vI (f 1), vI 1] [vI 1, vI 0, vI 0, vR x] wd54 Q
          refine WP.cl (a := [vR x, vI 0, vI 0, vI 1]) (rest := []) rfl rfl rfl rfl trivial (by decide) (u_cut hh54 (Int.le_refl _) (Nat.le_of_ble_eq_true rfl) (fun _ _ z => by exfalso; omega) (fun _ _ z => by exfalso; omega) (fun _ _ z => by exfalso; omega) (fun wd63 hh63 z => ⟨rfl, ?_⟩))
          show WP 17 110 321 [vR x, vL (sO f), none, vI (f 0), vI (f 1), vI 1] [vI (-5000002)] wd63 Q
          refine WP.blk 3 ?_
          show WP 17 110 327 [vR x, vL (sO f), none, vI (f 0), vI (f 1), vI 1] [vR x] wd63 Q
          refine WP.cl (a := [vR x]) (rest := []) rfl rfl rfl rfl trivial (by decide) (z_state hh63 (fun wd64 hh64 => ⟨rfl, ?_⟩))
          show WP 17 110 330 [vR x, vL (sO f), none, vI (f 0), vI (f 1), vI 1] [vL (sO f)] wd64 Q
          refine WP.blk 3 ?_
          show WP 17 110 (if cnd .ne (lC (sO f) (sO f)) 0 = true then 339 else 335) [vR x, vL (sO f), none, vI (f 0), vI (f 1), vI 1] [] wd64 Q
          refine br_ne (fun c66 => ?_) (fun c66 => ?_)
          · exact absurd (lC_s _) c66
          · refine WP.blk 2 ?_
            show WP 17 110 340 [vR x, vL (sO f), none, vI (f 0), vI (f 1), vI 1] [vI 1] wd64 Q
            exact WP.ret rfl rfl rfl ⟨by omega, trivial⟩ (k _ (ls_le hh64 (by omega)))
