/-! the law: writing, the fewest -/
set_option maxHeartbeats 8000000 in
theorem z_written {w9 : Int} {N B : Int} {x L : Nat} {w : Wd} {f : Int → Int} {sv : Int} {Q : Res → Wd → Prop} (h : LwS N B x L w f [] sv) (hw9 : 0 ≤ w9 ∧ w9 < f 1) (hB : B + 84 ≤ 1000000000 - 400) (k : ∀ w' sv', LwS (N + 1500) (B + 84) x L w' f [] sv' → sv' ≤ sv → Q (0, vI 1) w') : EvQ 10 114 [vR x, vI w9] w Q := by
  refine EvQ.enter (ls := [vR x, vI w9, none, none, none, none, none, none, none, none, none, none, none, none]) (Nat.le_of_ble_eq_true rfl) rfl ?_
  have hR := (ls_row h).1
  have hA := hR.1
  have hW := hR.2.1
  have hI := hR.2.2
  have hA1 := hA.1
  have hW1 := hW.1
  have hI2 := hI.2
  have hk := (hW.2 w9 hw9.1 hw9.2).1
  have hpv := pv_r hA hk
  have hb0 := (ls_b h).1
  have hsv := ls_sv h
  refine WP.blk 1 ?_
  show WP 9 114 1 [vR x, vI w9, none, none, none, none, none, none, none, none, none, none, none, none] [vR x] w Q
  refine WP.cl (a := [vR x]) (rest := []) rfl rfl rfl rfl trivial (by decide) (z_state h (fun wd1 hh1 => ⟨rfl, ?_⟩))
  show WP 9 114 4 [vR x, vI w9, none, none, none, none, none, none, none, none, none, none, none, none] [vL (sO f)] wd1 Q
  refine WP.blk 3 ?_
  show WP 9 114 7 [vR x, vI w9, vL (sO f), none, none, none, none, none, none, none, none, none, none, none] [vI 4, vR x] wd1 Q
  refine WP.cl (a := [vR x, vI 4]) (rest := []) rfl rfl rfl rfl trivial (by decide) (v_value hh1 (Int.le_refl _) (vV_lo (by omega)) (fun wd3 hh3 => ⟨rfl, ?_⟩))
  show WP 9 114 10 [vR x, vI w9, vL (sO f), none, none, none, none, none, none, none, none, none, none, none] [vI (f 4)] wd3 Q
  refine WP.blk 3 ?_
  show WP 9 114 14 [vR x, vI w9, vL (sO f), none, vI (f 4), none, none, none, none, none, none, none, none, none] [vI 5, vR x] wd3 Q
  refine WP.cl (a := [vR x, vI 5]) (rest := []) rfl rfl rfl rfl trivial (by decide) (v_value hh3 (Int.le_refl _) (vV_lo (by omega)) (fun wd4 hh4 => ⟨rfl, ?_⟩))
  show WP 9 114 17 [vR x, vI w9, vL (sO f), none, vI (f 4), none, none, none, none, none, none, none, none, none] [vI (f 5)] wd4 Q
  refine WP.blk 3 ?_
  show WP 9 114 22 [vR x, vI w9, vL (sO f), none, vI (f 4), vI (f 5), none, none, none, none, none, none, none, none] [vI 6, vR x] wd4 Q
  refine WP.cl (a := [vR x, vI 6]) (rest := []) rfl rfl rfl rfl trivial (by decide) (v_value hh4 (Int.le_refl _) (vV_lo (by omega)) (fun wd5 hh5 => ⟨rfl, ?_⟩))
  show WP 9 114 25 [vR x, vI w9, vL (sO f), none, vI (f 4), vI (f 5), none, none, none, none, none, none, none, none] [vI (f 6)] wd5 Q
  refine WP.blk 4 ?_
  show WP 9 114 30 [vR x, vI w9, vL (sO f), none, vI (f 4), vI (f 5), vI (f 6), none, none, none, none, none, none, none] [vI 2, vI w9, vR x] wd5 Q
  refine WP.cl (a := [vR x, vI w9, vI 2]) (rest := []) rfl rfl rfl rfl trivial (by decide) (v_word hh5 (Int.le_refl _) (wV_2 hA hW hw9) (fun wd6 hh6 => ⟨rfl, ?_⟩))
  show WP 9 114 33 [vR x, vI w9, vL (sO f), none, vI (f 4), vI (f 5), vI (f 6), none, none, none, none, none, none, none] [vI (pv f w9)] wd6 Q
  refine WP.blk 4 ?_
  show WP 9 114 38 [vR x, vI w9, vL (sO f), none, vI (f 4), vI (f 5), vI (f 6), vI (pv f w9), none, none, none, none, none, none] [vI 4, vI w9, vR x] wd6 Q
  refine WP.cl (a := [vR x, vI w9, vI 4]) (rest := []) rfl rfl rfl rfl trivial (by decide) (v_word hh6 (Int.le_refl _) rfl (fun wd7 hh7 => ⟨rfl, ?_⟩))
  show WP 9 114 41 [vR x, vI w9, vL (sO f), none, vI (f 4), vI (f 5), vI (f 6), vI (pv f w9), none, none, none, none, none, none] [vI (wV f w9 4)] wd7 Q
  refine WP.blk 4 ?_
  show WP 9 114 46 [vR x, vI w9, vL (sO f), none, vI (f 4), vI (f 5), vI (f 6), vI (pv f w9), vI (wV f w9 4), none, none, none, none, none] [vI 5, vI w9, vR x] wd7 Q
  refine WP.cl (a := [vR x, vI w9, vI 5]) (rest := []) rfl rfl rfl rfl trivial (by decide) (v_word hh7 (Int.le_refl _) rfl (fun wd8 hh8 => ⟨rfl, ?_⟩))
  show WP 9 114 49 [vR x, vI w9, vL (sO f), none, vI (f 4), vI (f 5), vI (f 6), vI (pv f w9), vI (wV f w9 4), none, none, none, none, none] [vI (wV f w9 5)] wd8 Q
  refine WP.blk 4 ?_
  show WP 9 114 54 [vR x, vI w9, vL (sO f), none, vI (f 4), vI (f 5), vI (f 6), vI (pv f w9), vI (wV f w9 4), vI (wV f w9 5), none, none, none, none] [vI 1, vI w9, vR x] wd8 Q
  refine WP.cl (a := [vR x, vI w9, vI 1]) (rest := []) rfl rfl rfl rfl trivial (by decide) (v_word hh8 (Int.le_refl _) (wV_1 hA hW hw9) (fun wd9 hh9 => ⟨rfl, ?_⟩))
  show WP 9 114 57 [vR x, vI w9, vL (sO f), none, vI (f 4), vI (f 5), vI (f 6), vI (pv f w9), vI (wV f w9 4), vI (wV f w9 5), none, none, none, none] [vI (f (97 + 14 * w9 + 1))] wd9 Q
  refine WP.blk 4 ?_
  show WP 9 114 (if cnd .ne (pv f w9) (-1) = true then 69 else 65) [vR x, vI w9, vL (sO f), none, vI (f 4), vI (f 5), vI (f 6), vI (pv f w9), vI (wV f w9 4), vI (wV f w9 5), vI (f (97 + 14 * w9 + 1)), none, none, none] [] wd9 Q
  refine br_ne (fun c10 => ?_) (fun c10 => ?_)
  · have nn : pv f w9 ≠ -1 := c10
    obtain ⟨hHas, c, hc⟩ := pv_t hA hk nn
    obtain ⟨hn, q, hq0, hqn, hq⟩ := best_q hA hk hc
    refine WP.blk 5 ?_
    show ir ((pv f w9) - 1) ∧ WP 9 114 75 [vR x, vI w9, vL (sO f), none, vI (f 4), vI (f 5), vI (f 6), vI (pv f w9), vI (wV f w9 4), vI (wV f w9 5), vI (f (97 + 14 * w9 + 1)), none, none, none] [vI ((pv f w9) - 1), vI w9, vR x] wd9 Q
    refine ⟨(by unfold ir; omega), ?_⟩
    refine WP.cl (a := [vR x, vI w9, vI ((pv f w9) - 1)]) (rest := []) rfl rfl rfl rfl trivial (by decide) (v_press hh9 (Int.le_refl _) (fun wd11 c9 n9 hh11 hj9 b9 hi9 => ⟨rfl, ?_⟩) (fun _ _ hn => (hn.elim (fun z => z hw9) (fun z => z c _ hc (by omega))).elim))
    show WP 9 114 78 [vR x, vI w9, vL (sO f), none, vI (f 4), vI (f 5), vI (f 6), vI (pv f w9), vI (wV f w9 4), vI (wV f w9 5), vI (f (97 + 14 * w9 + 1)), none, none, none] [vI (c9 ((pv f w9) - 1))] wd11 Q
    rw [← (bestp_u hA hk hc b9).2 ((pv f w9) - 1) (by omega) (by omega)]
    obtain ⟨⟨o1, o2, -, -⟩, -⟩ := hq ((pv f w9) - 1) (by omega) (by omega)
    refine WP.blk 6 ?_
    show (0 ≤ (c ((pv f w9) - 1)) ∧ 0 < 2) ∧ WP 9 114 85 [vR x, vI w9, vL (sO f), none, vI (f 4), vI (f 5), vI (f 6), vI (pv f w9), vI (wV f w9 4), vI (wV f w9 5), vI (f (97 + 14 * w9 + 1)), vI ((c ((pv f w9) - 1)) / 2), none, none] [vI 3, vI w9, vR x] wd11 Q
    refine ⟨(by omega), ?_⟩
    obtain ⟨g13, eg13, og13⟩ := pc_x hA hW hw9
    refine WP.cl (a := [vR x, vI w9, vI 3]) (rest := []) rfl rfl rfl rfl trivial (by decide) (v_word hh11 (Int.le_refl _) eg13 (fun wd12 hh12 => ⟨rfl, ?_⟩))
    show WP 9 114 88 [vR x, vI w9, vL (sO f), none, vI (f 4), vI (f 5), vI (f 6), vI (pv f w9), vI (wV f w9 4), vI (wV f w9 5), vI (f (97 + 14 * w9 + 1)), vI ((c ((pv f w9) - 1)) / 2), none, none] [vI g13] wd12 Q
    refine WP.blk 1 ?_
    show WP 9 114 (if cnd .ne g13 0 = true then 116 else 91) [vR x, vI w9, vL (sO f), none, vI (f 4), vI (f 5), vI (f 6), vI (pv f w9), vI (wV f w9 4), vI (wV f w9 5), vI (f (97 + 14 * w9 + 1)), vI ((c ((pv f w9) - 1)) / 2), none, none] [] wd12 Q
    refine br_ne (fun c14 => ?_) (fun c14 => ?_)
    · have hcan := pc_t og13 c14
      refine WP.blk 2 ?_
      show WP 9 114 118 [vR x, vI w9, vL (sO f), none, vI (f 4), vI (f 5), vI (f 6), vI (pv f w9), vI (wV f w9 4), vI (wV f w9 5), vI (f (97 + 14 * w9 + 1)), vI ((c ((pv f w9) - 1)) / 2), none, none] [vI w9, vR x] wd12 Q
      refine WP.cl (a := [vR x, vI w9]) (rest := []) rfl rfl rfl rfl trivial (by decide) (u_write hh12 (Int.le_refl _) (Nat.le_of_ble_eq_true rfl) hB (fun wd15 cz nz hh15 _ hz => ⟨rfl, ?_⟩) (fun _ _ z => absurd hw9 z) (fun _ _ _ z => absurd (hcan) (can_n z)))
      show WP 9 114 121 [vR x, vI w9, vL (sO f), none, vI (f 4), vI (f 5), vI (f 6), vI (pv f w9), vI (wV f w9 4), vI (wV f w9 5), vI (f (97 + 14 * w9 + 1)), vI ((c ((pv f w9) - 1)) / 2), none, none] [vI nz] wd15 Q
      have ez := wrt_pv hA hk hz
      subst ez
      have hzp := wrt_pl hA hk hz
      have e9 := (bestp_u hA hk hc (wrt_best hz)).2
      have h45 := wV_45t hA hW hw9 hz
      have h456 := car_456 (col := f (97 + 14 * w9 + 1)) (f := f) hzp.1.1 (fun i a b => (hzp.2 i a b).1)
      have hla := car_last hR hb0 (hW.2 w9 hw9.1 hw9.2).2 hn.1 hzp.2
      have hio := (car_row hR hb0 (hW.2 w9 hw9.1 hw9.2).2 hzp.1.1 hzp.2).2
      obtain ⟨g, hg⟩ : ∃ g, g = car (f (97 + 14 * w9 + 1)) cz f (pv f w9) := ⟨_, rfl⟩
      rw [← hg] at hh15 h45 h456 hla hio
      rw [← e9 _ (by omega) (by omega)] at hla
      have g0 := hio.1
      have g2 := hio.2.2.1
      have hpc := hzp.2 (pv f w9 - 1) (by omega) (by omega)
      rw [← e9 _ (by omega) (by omega)] at hpc
      obtain ⟨hl1, hl2⟩ := hla
      refine WP.blk 2 ?_
      show WP 9 114 (if cnd .ne (pv f w9) (pv f w9) = true then 192 else 126) [vR x, vI w9, vL (sO f), none, vI (f 4), vI (f 5), vI (f 6), vI (pv f w9), vI (wV f w9 4), vI (wV f w9 5), vI (f (97 + 14 * w9 + 1)), vI ((c ((pv f w9) - 1)) / 2), none, none] [] wd15 Q
      refine br_ne (fun c16 => ?_) (fun c16 => ?_)
      · exfalso; omega
      · refine WP.blk 2 ?_
        show WP 9 114 128 [vR x, vI w9, vL (sO f), none, vI (f 4), vI (f 5), vI (f 6), vI (pv f w9), vI (wV f w9 4), vI (wV f w9 5), vI (f (97 + 14 * w9 + 1)), vI ((c ((pv f w9) - 1)) / 2), none, none] [vI 4, vR x] wd15 Q
        refine WP.cl (a := [vR x, vI 4]) (rest := []) rfl rfl rfl rfl trivial (by decide) (v_value hh15 (Int.le_refl _) (vV_lo (by omega)) (fun wd17 hh17 => ⟨rfl, ?_⟩))
        show WP 9 114 131 [vR x, vI w9, vL (sO f), none, vI (f 4), vI (f 5), vI (f 6), vI (pv f w9), vI (wV f w9 4), vI (wV f w9 5), vI (f (97 + 14 * w9 + 1)), vI ((c ((pv f w9) - 1)) / 2), none, none] [vI (g 4)] wd17 Q
        refine WP.blk 4 ?_
        show ir ((f 4) + (pv f w9)) ∧ WP 9 114 (if cnd .ne (g 4) ((f 4) + (pv f w9)) = true then 192 else 139) [vR x, vI w9, vL (sO f), none, vI (f 4), vI (f 5), vI (f 6), vI (pv f w9), vI (wV f w9 4), vI (wV f w9 5), vI (f (97 + 14 * w9 + 1)), vI ((c ((pv f w9) - 1)) / 2), none, none] [] wd17 Q
        refine ⟨(by unfold ir; omega), ?_⟩
        refine br_ne (fun c18 => ?_) (fun c18 => ?_)
        · exfalso; omega
        · refine WP.blk 2 ?_
          show WP 9 114 141 [vR x, vI w9, vL (sO f), none, vI (f 4), vI (f 5), vI (f 6), vI (pv f w9), vI (wV f w9 4), vI (wV f w9 5), vI (f (97 + 14 * w9 + 1)), vI ((c ((pv f w9) - 1)) / 2), none, none] [vI 5, vR x] wd17 Q
          refine WP.cl (a := [vR x, vI 5]) (rest := []) rfl rfl rfl rfl trivial (by decide) (v_value hh17 (Int.le_refl _) (vV_lo (by omega)) (fun wd19 hh19 => ⟨rfl, ?_⟩))
          show WP 9 114 144 [vR x, vI w9, vL (sO f), none, vI (f 4), vI (f 5), vI (f 6), vI (pv f w9), vI (wV f w9 4), vI (wV f w9 5), vI (f (97 + 14 * w9 + 1)), vI ((c ((pv f w9) - 1)) / 2), none, none] [vI (g 5)] wd19 Q
          refine WP.blk 4 ?_
          show ir ((f 5) + (wV f w9 4)) ∧ WP 9 114 (if cnd .ne (g 5) ((f 5) + (wV f w9 4)) = true then 192 else 152) [vR x, vI w9, vL (sO f), none, vI (f 4), vI (f 5), vI (f 6), vI (pv f w9), vI (wV f w9 4), vI (wV f w9 5), vI (f (97 + 14 * w9 + 1)), vI ((c ((pv f w9) - 1)) / 2), none, none] [] wd19 Q
          refine ⟨(by unfold ir; omega), ?_⟩
          refine br_ne (fun c20 => ?_) (fun c20 => ?_)
          · exfalso; omega
          · refine WP.blk 2 ?_
            show WP 9 114 155 [vR x, vI w9, vL (sO f), none, vI (f 4), vI (f 5), vI (f 6), vI (pv f w9), vI (wV f w9 4), vI (wV f w9 5), vI (f (97 + 14 * w9 + 1)), vI ((c ((pv f w9) - 1)) / 2), none, none] [vI 6, vR x] wd19 Q
            refine WP.cl (a := [vR x, vI 6]) (rest := []) rfl rfl rfl rfl trivial (by decide) (v_value hh19 (Int.le_refl _) (vV_lo (by omega)) (fun wd21 hh21 => ⟨rfl, ?_⟩))
            show WP 9 114 158 [vR x, vI w9, vL (sO f), none, vI (f 4), vI (f 5), vI (f 6), vI (pv f w9), vI (wV f w9 4), vI (wV f w9 5), vI (f (97 + 14 * w9 + 1)), vI ((c ((pv f w9) - 1)) / 2), none, none] [vI (g 6)] wd21 Q
            refine WP.blk 4 ?_
            show ir ((f 6) + (wV f w9 5)) ∧ WP 9 114 (if cnd .ne (g 6) ((f 6) + (wV f w9 5)) = true then 192 else 166) [vR x, vI w9, vL (sO f), none, vI (f 4), vI (f 5), vI (f 6), vI (pv f w9), vI (wV f w9 4), vI (wV f w9 5), vI (f (97 + 14 * w9 + 1)), vI ((c ((pv f w9) - 1)) / 2), none, none] [] wd21 Q
            refine ⟨(by unfold ir; omega), ?_⟩
            refine br_ne (fun c22 => ?_) (fun c22 => ?_)
            · exfalso; omega
            · refine WP.blk 3 ?_
              show WP 9 114 170 [vR x, vI w9, vL (sO f), none, vI (f 4), vI (f 5), vI (f 6), vI (pv f w9), vI (wV f w9 4), vI (wV f w9 5), vI (f (97 + 14 * w9 + 1)), vI ((c ((pv f w9) - 1)) / 2), none, none] [vI 1, vI ((c ((pv f w9) - 1)) / 2), vR x] wd21 Q
              refine WP.cl (a := [vR x, vI ((c ((pv f w9) - 1)) / 2), vI 1]) (rest := []) rfl rfl rfl rfl trivial (by decide) (v_stamp hh21 (Int.le_refl _) (sV_1 (by omega)) (fun wd23 hh23 => ⟨rfl, ?_⟩))
              show WP 9 114 173 [vR x, vI w9, vL (sO f), none, vI (f 4), vI (f 5), vI (f 6), vI (pv f w9), vI (wV f w9 4), vI (wV f w9 5), vI (f (97 + 14 * w9 + 1)), vI ((c ((pv f w9) - 1)) / 2), none, none] [vI (g (7 + 9 * ((c ((pv f w9) - 1)) / 2) + 6))] wd23 Q
              refine WP.blk 2 ?_
              show WP 9 114 (if cnd .ne (g (7 + 9 * ((c ((pv f w9) - 1)) / 2) + 6)) (f (97 + 14 * w9 + 1)) = true then 192 else 178) [vR x, vI w9, vL (sO f), none, vI (f 4), vI (f 5), vI (f 6), vI (pv f w9), vI (wV f w9 4), vI (wV f w9 5), vI (f (97 + 14 * w9 + 1)), vI ((c ((pv f w9) - 1)) / 2), none, none] [] wd23 Q
              refine br_ne (fun c24 => ?_) (fun c24 => ?_)
              · exfalso; omega
              · refine WP.blk 3 ?_
                show WP 9 114 182 [vR x, vI w9, vL (sO f), none, vI (f 4), vI (f 5), vI (f 6), vI (pv f w9), vI (wV f w9 4), vI (wV f w9 5), vI (f (97 + 14 * w9 + 1)), vI ((c ((pv f w9) - 1)) / 2), none, none] [vI 3, vI ((c ((pv f w9) - 1)) / 2), vR x] wd23 Q
                refine WP.cl (a := [vR x, vI ((c ((pv f w9) - 1)) / 2), vI 3]) (rest := []) rfl rfl rfl rfl trivial (by decide) (v_stamp hh23 (Int.le_refl _) (sV_3 (by omega)) (fun wd25 hh25 => ⟨rfl, ?_⟩))
                show WP 9 114 185 [vR x, vI w9, vL (sO f), none, vI (f 4), vI (f 5), vI (f 6), vI (pv f w9), vI (wV f w9 4), vI (wV f w9 5), vI (f (97 + 14 * w9 + 1)), vI ((c ((pv f w9) - 1)) / 2), none, none] [vI (g (7 + 9 * ((c ((pv f w9) - 1)) / 2) + 8))] wd25 Q
                refine WP.blk 1 ?_
                show WP 9 114 (if cnd .le (g (7 + 9 * ((c ((pv f w9) - 1)) / 2) + 8)) 0 = true then 192 else 188) [vR x, vI w9, vL (sO f), none, vI (f 4), vI (f 5), vI (f 6), vI (pv f w9), vI (wV f w9 4), vI (wV f w9 5), vI (f (97 + 14 * w9 + 1)), vI ((c ((pv f w9) - 1)) / 2), none, none] [] wd25 Q
                refine br_le (fun c26 => ?_) (fun c26 => ?_)
                · exfalso; omega
                · refine WP.blk 5 ?_
                  show WP 9 114 198 [vR x, vI w9, vL (sO f), none, vI (f 4), vI (f 5), vI (f 6), vI (pv f w9), vI (wV f w9 4), vI (wV f w9 5), vI (f (97 + 14 * w9 + 1)), vI ((c ((pv f w9) - 1)) / 2), vI 1, vI 0] [] wd25 Q
                  have hl_198 : ∀ (n_198 : Nat) (i : Int) (w_198 : Wd), 0 ≤ i ∧ i ≤ 10 → LwS (N + 1000 + 4 * i) (B + 84) x L w_198 g ([f]) (nsv sv) → (10 - i).toNat < n_198 → WP 9 114 198 [vR x, vI w9, vL (sO f), none, vI (f 4), vI (f 5), vI (f 6), vI (pv f w9), vI (wV f w9 4), vI (wV f w9 5), vI (f (97 + 14 * w9 + 1)), vI ((c ((pv f w9) - 1)) / 2), vI 1, vI i] [] w_198 Q := by
                    intro n_198
                    induction n_198 with
                    | zero => intro i w_198 i0 h_198 hm_198; exact absurd hm_198 (Nat.not_lt_zero _)
                    | succ n_198 ih_198 =>
                      intro i w_198 i0 h_198 hm_198
                      refine WP.blk 3 ?_
                      show WP 9 114 202 [vR x, vI w9, vL (sO f), none, vI (f 4), vI (f 5), vI (f 6), vI (pv f w9), vI (wV f w9 4), vI (wV f w9 5), vI (f (97 + 14 * w9 + 1)), vI ((c ((pv f w9) - 1)) / 2), vI 1, vI i] [vI 0, vR x, vI i] w_198 Q
                      refine WP.cl (a := [vR x, vI 0]) (rest := [vI i]) rfl rfl rfl rfl trivial (by decide) (v_value h_198 (Int.le_refl _) (vV_lo (by omega)) (fun wd27 hh27 => ⟨rfl, ?_⟩))
                      show WP 9 114 205 [vR x, vI w9, vL (sO f), none, vI (f 4), vI (f 5), vI (f 6), vI (pv f w9), vI (wV f w9 4), vI (wV f w9 5), vI (f (97 + 14 * w9 + 1)), vI ((c ((pv f w9) - 1)) / 2), vI 1, vI i] [vI (g 0), vI i] wd27 Q
                      refine WP.blk 1 ?_
                      show WP 9 114 (if cnd .ge i (g 0) = true then 252 else 208) [vR x, vI w9, vL (sO f), none, vI (f 4), vI (f 5), vI (f 6), vI (pv f w9), vI (wV f w9 4), vI (wV f w9 5), vI (f (97 + 14 * w9 + 1)), vI ((c ((pv f w9) - 1)) / 2), vI 1, vI i] [] wd27 Q
                      refine br_ge (fun c28 => ?_) (fun c28 => ?_)
                      · refine WP.blk 3 ?_
                        show WP 9 114 258 [vR x, vI w9, vL (sO f), none, vI (f 4), vI (f 5), vI (f 6), vI (pv f w9), vI (wV f w9 4), vI (wV f w9 5), vI (f (97 + 14 * w9 + 1)), vI ((c ((pv f w9) - 1)) / 2), vI 1, vI i] [vR x] wd27 Q
                        refine WP.cl (a := [vR x]) (rest := []) rfl rfl rfl rfl trivial (by decide) (u_undo hh27 (Int.le_refl _) (fun wd29 hh29 sphh29 => ⟨rfl, ?_⟩))
                        show WP 9 114 261 [vR x, vI w9, vL (sO f), none, vI (f 4), vI (f 5), vI (f 6), vI (pv f w9), vI (wV f w9 4), vI (wV f w9 5), vI (f (97 + 14 * w9 + 1)), vI ((c ((pv f w9) - 1)) / 2), vI 1, vI i] [vI ((nsv sv) - 1)] wd29 Q
                        refine WP.blk 1 ?_
                        show WP 9 114 (if cnd .lt ((nsv sv) - 1) 0 = true then 277 else 264) [vR x, vI w9, vL (sO f), none, vI (f 4), vI (f 5), vI (f 6), vI (pv f w9), vI (wV f w9 4), vI (wV f w9 5), vI (f (97 + 14 * w9 + 1)), vI ((c ((pv f w9) - 1)) / 2), vI 1, vI i] [] wd29 Q
                        refine br_lt (fun c30 => ?_) (fun c30 => ?_)
                        · exfalso; have := nsv_r hsv; omega
                        · refine WP.blk 1 ?_
                          show WP 9 114 265 [vR x, vI w9, vL (sO f), none, vI (f 4), vI (f 5), vI (f 6), vI (pv f w9), vI (wV f w9 4), vI (wV f w9 5), vI (f (97 + 14 * w9 + 1)), vI ((c ((pv f w9) - 1)) / 2), vI 1, vI i] [vR x] wd29 Q
                          refine WP.cl (a := [vR x]) (rest := []) rfl rfl rfl rfl trivial (by decide) (z_state hh29 (fun wd31 hh31 => ⟨rfl, ?_⟩))
                          show WP 9 114 268 [vR x, vI w9, vL (sO f), none, vI (f 4), vI (f 5), vI (f 6), vI (pv f w9), vI (wV f w9 4), vI (wV f w9 5), vI (f (97 + 14 * w9 + 1)), vI ((c ((pv f w9) - 1)) / 2), vI 1, vI i] [vL (sO f)] wd31 Q
                          refine WP.blk 3 ?_
                          show WP 9 114 (if cnd .ne (lC (sO f) (sO f)) 0 = true then 277 else 273) [vR x, vI w9, vL (sO f), none, vI (f 4), vI (f 5), vI (f 6), vI (pv f w9), vI (wV f w9 4), vI (wV f w9 5), vI (f (97 + 14 * w9 + 1)), vI ((c ((pv f w9) - 1)) / 2), vI 1, vI i] [] wd31 Q
                          refine br_ne (fun c33 => ?_) (fun c33 => ?_)
                          · exact absurd (lC_s _) c33
                          · refine WP.blk 2 ?_
                            show WP 9 114 278 [vR x, vI w9, vL (sO f), none, vI (f 4), vI (f 5), vI (f 6), vI (pv f w9), vI (wV f w9 4), vI (wV f w9 5), vI (f (97 + 14 * w9 + 1)), vI ((c ((pv f w9) - 1)) / 2), vI 1, vI i] [vI 1] wd31 Q
                            exact WP.ret rfl rfl rfl ⟨by omega, trivial⟩ (k _ _ (ls_B (ls_le hh31 (by omega)) (by omega) hB) (by have := nsv_r hsv; omega))
                      · refine WP.blk 5 ?_
                        show WP 9 114 217 [vR x, vI w9, vL (sO f), none, vI (f 4), vI (f 5), vI (f 6), vI (pv f w9), vI (wV f w9 4), vI (wV f w9 5), vI (f (97 + 14 * w9 + 1)), vI ((c ((pv f w9) - 1)) / 2), vI 1, vI i] [vI 3, vI i, vR x] wd27 Q
                        refine WP.cl (a := [vR x, vI i, vI 3]) (rest := []) rfl rfl rfl rfl trivial (by decide) (v_stamp hh27 (Int.le_refl _) (sV_3 (by omega)) (fun wd34 hh34 => ⟨rfl, ?_⟩))
                        show WP 9 114 220 [vR x, vI w9, vL (sO f), none, vI (f 4), vI (f 5), vI (f 6), vI (pv f w9), vI (wV f w9 4), vI (wV f w9 5), vI (f (97 + 14 * w9 + 1)), vI ((c ((pv f w9) - 1)) / 2), vI 1, vI i] [vI (g (7 + 9 * i + 8))] wd34 Q
                        refine WP.blk 2 ?_
                        show WP 9 114 222 [vR x, vI w9, vL (sO f), none, vI (f 4), vI (f 5), vI (f 6), vI (pv f w9), vI (wV f w9 4), vI (wV f w9 5), vI (f (97 + 14 * w9 + 1)), vI ((c ((pv f w9) - 1)) / 2), vI 1, vI i] [vI 2, vR x, vI (g (7 + 9 * i + 8))] wd34 Q
                        refine WP.cl (a := [vR x, vI 2]) (rest := [vI (g (7 + 9 * i + 8))]) rfl rfl rfl rfl trivial (by decide) (v_value hh34 (Int.le_refl _) (vV_lo (by omega)) (fun wd35 hh35 => ⟨rfl, ?_⟩))
                        show WP 9 114 225 [vR x, vI w9, vL (sO f), none, vI (f 4), vI (f 5), vI (f 6), vI (pv f w9), vI (wV f w9 4), vI (wV f w9 5), vI (f (97 + 14 * w9 + 1)), vI ((c ((pv f w9) - 1)) / 2), vI 1, vI i] [vI (g 2), vI (g (7 + 9 * i + 8))] wd35 Q
                        refine WP.blk 1 ?_
                        show WP 9 114 (if cnd .le (g (7 + 9 * i + 8)) (g 2) = true then 239 else 228) [vR x, vI w9, vL (sO f), none, vI (f 4), vI (f 5), vI (f 6), vI (pv f w9), vI (wV f w9 4), vI (wV f w9 5), vI (f (97 + 14 * w9 + 1)), vI ((c ((pv f w9) - 1)) / 2), vI 1, vI i] [] wd35 Q
                        refine br_le (fun c36 => ?_) (fun c36 => ?_)
                        · refine WP.blk 5 ?_
                          show ir (i + 1) ∧ WP 9 114 198 [vR x, vI w9, vL (sO f), none, vI (f 4), vI (f 5), vI (f 6), vI (pv f w9), vI (wV f w9 4), vI (wV f w9 5), vI (f (97 + 14 * w9 + 1)), vI ((c ((pv f w9) - 1)) / 2), vI 1, vI (i + 1)] [] wd35 Q
                          refine ⟨(by unfold ir; omega), ?_⟩
                          exact ih_198 (i + 1) wd35 (by omega) (ls_le hh35 (by omega)) (by omega)
                        · refine WP.blk 3 ?_
                          show WP 9 114 232 [vR x, vI w9, vL (sO f), none, vI (f 4), vI (f 5), vI (f 6), vI (pv f w9), vI (wV f w9 4), vI (wV f w9 5), vI (f (97 + 14 * w9 + 1)), vI ((c ((pv f w9) - 1)) / 2), vI 1, vI i] [vI 5, vI i, vR x] wd35 Q
                          obtain ⟨v38, ev38, ov38⟩ := sV_5x (f := g) (s := i) (by omega)
                          refine WP.cl (a := [vR x, vI i, vI 5]) (rest := []) rfl rfl rfl rfl trivial (by decide) (v_stamp hh35 (Int.le_refl _) ev38 (fun wd37 hh37 => ⟨rfl, ?_⟩))
                          show WP 9 114 235 [vR x, vI w9, vL (sO f), none, vI (f 4), vI (f 5), vI (f 6), vI (pv f w9), vI (wV f w9 4), vI (wV f w9 5), vI (f (97 + 14 * w9 + 1)), vI ((c ((pv f w9) - 1)) / 2), vI 1, vI i] [vI v38] wd37 Q
                          refine WP.blk 2 ?_
                          show WP 9 114 (if cnd .ne v38 1 = true then 243 else 239) [vR x, vI w9, vL (sO f), none, vI (f 4), vI (f 5), vI (f 6), vI (pv f w9), vI (wV f w9 4), vI (wV f w9 5), vI (f (97 + 14 * w9 + 1)), vI ((c ((pv f w9) - 1)) / 2), vI 1, vI i] [] wd37 Q
                          refine br_ne (fun c39 => ?_) (fun c39 => ?_)
                          · exfalso; omega
                          · refine WP.blk 5 ?_
                            show ir (i + 1) ∧ WP 9 114 198 [vR x, vI w9, vL (sO f), none, vI (f 4), vI (f 5), vI (f 6), vI (pv f w9), vI (wV f w9 4), vI (wV f w9 5), vI (f (97 + 14 * w9 + 1)), vI ((c ((pv f w9) - 1)) / 2), vI 1, vI (i + 1)] [] wd37 Q
                            refine ⟨(by unfold ir; omega), ?_⟩
                            exact ih_198 (i + 1) wd37 (by omega) (ls_le hh37 (by omega)) (by omega)
                  exact hl_198 _ 0 wd25 (by omega) (ls_le hh25 (by omega)) (Nat.lt_succ_self _)
    · have hnc := pc_f og13 (by omega)
      refine WP.blk 2 ?_
      show WP 9 114 93 [vR x, vI w9, vL (sO f), none, vI (f 4), vI (f 5), vI (f 6), vI (pv f w9), vI (wV f w9 4), vI (wV f w9 5), vI (f (97 + 14 * w9 + 1)), vI ((c ((pv f w9) - 1)) / 2), none, none] [vI w9, vR x] wd12 Q
      refine WP.cl (a := [vR x, vI w9]) (rest := []) rfl rfl rfl rfl trivial (by decide) (u_write hh12 (Int.le_refl _) (Nat.le_of_ble_eq_true rfl) hB (fun _ _ _ _ _ z => absurd (can_i z) hnc) (fun _ _ z => absurd hw9 z) (fun wd40 hh40 _ _ => ⟨rfl, ?_⟩))
      show WP 9 114 96 [vR x, vI w9, vL (sO f), none, vI (f 4), vI (f 5), vI (f 6), vI (pv f w9), vI (wV f w9 4), vI (wV f w9 5), vI (f (97 + 14 * w9 + 1)), vI ((c ((pv f w9) - 1)) / 2), none, none] [vI (-5000002)] wd40 Q
      refine WP.blk 3 ?_
      show WP 9 114 102 [vR x, vI w9, vL (sO f), none, vI (f 4), vI (f 5), vI (f 6), vI (pv f w9), vI (wV f w9 4), vI (wV f w9 5), vI (f (97 + 14 * w9 + 1)), vI ((c ((pv f w9) - 1)) / 2), none, none] [vR x] wd40 Q
      refine WP.cl (a := [vR x]) (rest := []) rfl rfl rfl rfl trivial (by decide) (z_state hh40 (fun wd41 hh41 => ⟨rfl, ?_⟩))
      show WP 9 114 105 [vR x, vI w9, vL (sO f), none, vI (f 4), vI (f 5), vI (f 6), vI (pv f w9), vI (wV f w9 4), vI (wV f w9 5), vI (f (97 + 14 * w9 + 1)), vI ((c ((pv f w9) - 1)) / 2), none, none] [vL (sO f)] wd41 Q
      refine WP.blk 3 ?_
      show WP 9 114 (if cnd .ne (lC (sO f) (sO f)) 0 = true then 114 else 110) [vR x, vI w9, vL (sO f), none, vI (f 4), vI (f 5), vI (f 6), vI (pv f w9), vI (wV f w9 4), vI (wV f w9 5), vI (f (97 + 14 * w9 + 1)), vI ((c ((pv f w9) - 1)) / 2), none, none] [] wd41 Q
      refine br_ne (fun c43 => ?_) (fun c43 => ?_)
      · exact absurd (lC_s _) c43
      · refine WP.blk 2 ?_
        show WP 9 114 115 [vR x, vI w9, vL (sO f), none, vI (f 4), vI (f 5), vI (f 6), vI (pv f w9), vI (wV f w9 4), vI (wV f w9 5), vI (f (97 + 14 * w9 + 1)), vI ((c ((pv f w9) - 1)) / 2), none, none] [vI 1] wd41 Q
        exact WP.ret rfl rfl rfl ⟨by omega, trivial⟩ (k _ _ (ls_B (ls_le hh41 (by omega)) (by omega) hB) (Int.le_refl _))
  · have nn : pv f w9 = -1 := c10
    have hnc : ¬ Can f w9 := fun ⟨z, hz⟩ => (pv_f hA hk nn).2 _ _ (wrt_best hz)
    refine WP.blk 6 ?_
    show WP 9 114 85 [vR x, vI w9, vL (sO f), none, vI (f 4), vI (f 5), vI (f 6), vI (pv f w9), vI (wV f w9 4), vI (wV f w9 5), vI (f (97 + 14 * w9 + 1)), vI 0, none, none] [vI 3, vI w9, vR x] wd9 Q
    refine WP.cl (a := [vR x, vI w9, vI 3]) (rest := []) rfl rfl rfl rfl trivial (by decide) (v_word hh9 (Int.le_refl _) (wV_3f hA hW hw9 hnc) (fun wd44 hh44 => ⟨rfl, ?_⟩))
    show WP 9 114 88 [vR x, vI w9, vL (sO f), none, vI (f 4), vI (f 5), vI (f 6), vI (pv f w9), vI (wV f w9 4), vI (wV f w9 5), vI (f (97 + 14 * w9 + 1)), vI 0, none, none] [vI 0] wd44 Q
    refine WP.blk 3 ?_
    show WP 9 114 93 [vR x, vI w9, vL (sO f), none, vI (f 4), vI (f 5), vI (f 6), vI (pv f w9), vI (wV f w9 4), vI (wV f w9 5), vI (f (97 + 14 * w9 + 1)), vI 0, none, none] [vI w9, vR x] wd44 Q
    refine WP.cl (a := [vR x, vI w9]) (rest := []) rfl rfl rfl rfl trivial (by decide) (u_write hh44 (Int.le_refl _) (Nat.le_of_ble_eq_true rfl) hB (fun _ _ _ _ _ z => absurd (can_i z) hnc) (fun _ _ z => absurd hw9 z) (fun wd45 hh45 _ _ => ⟨rfl, ?_⟩))
    show WP 9 114 96 [vR x, vI w9, vL (sO f), none, vI (f 4), vI (f 5), vI (f 6), vI (pv f w9), vI (wV f w9 4), vI (wV f w9 5), vI (f (97 + 14 * w9 + 1)), vI 0, none, none] [vI (-5000002)] wd45 Q
    refine WP.blk 3 ?_
    show WP 9 114 102 [vR x, vI w9, vL (sO f), none, vI (f 4), vI (f 5), vI (f 6), vI (pv f w9), vI (wV f w9 4), vI (wV f w9 5), vI (f (97 + 14 * w9 + 1)), vI 0, none, none] [vR x] wd45 Q
    refine WP.cl (a := [vR x]) (rest := []) rfl rfl rfl rfl trivial (by decide) (z_state hh45 (fun wd46 hh46 => ⟨rfl, ?_⟩))
    show WP 9 114 105 [vR x, vI w9, vL (sO f), none, vI (f 4), vI (f 5), vI (f 6), vI (pv f w9), vI (wV f w9 4), vI (wV f w9 5), vI (f (97 + 14 * w9 + 1)), vI 0, none, none] [vL (sO f)] wd46 Q
    refine WP.blk 3 ?_
    show WP 9 114 (if cnd .ne (lC (sO f) (sO f)) 0 = true then 114 else 110) [vR x, vI w9, vL (sO f), none, vI (f 4), vI (f 5), vI (f 6), vI (pv f w9), vI (wV f w9 4), vI (wV f w9 5), vI (f (97 + 14 * w9 + 1)), vI 0, none, none] [] wd46 Q
    refine br_ne (fun c48 => ?_) (fun c48 => ?_)
    · exact absurd (lC_s _) c48
    · refine WP.blk 2 ?_
      show WP 9 114 115 [vR x, vI w9, vL (sO f), none, vI (f 4), vI (f 5), vI (f 6), vI (pv f w9), vI (wV f w9 4), vI (wV f w9 5), vI (f (97 + 14 * w9 + 1)), vI 0, none, none] [vI 1] wd46 Q
      exact WP.ret rfl rfl rfl ⟨by omega, trivial⟩ (k _ _ (ls_B (ls_le hh46 (by omega)) (by omega) hB) (Int.le_refl _))
set_option maxHeartbeats 8000000 in
theorem z_fewest {N B : Int} {x L : Nat} {w : Wd} {f : Int → Int} {sv : Int} {Q : Res → Wd → Prop} (h : LwS N B x L w f [] sv) (k : ∀ w' sv', LwS (N + 1500) B x L w' f [] sv' → sv' ≤ sv → Q (0, vI 1) w') : EvQ 10 115 [vR x] w Q := by
  refine EvQ.enter (ls := [vR x, none, none, none, none, none, none, none, none]) (Nat.le_of_ble_eq_true rfl) rfl ?_
  have hR := (ls_row h).1
  have hA := hR.1
  have hW := hR.2.1
  have hI := hR.2.2
  have hA1 := hA.1
  have hW1 := hW.1
  have hI2 := hI.2
  have hsv := ls_sv h
  have hpr := num_r (P := HasP f) hW1.1
  refine WP.blk 1 ?_
  show WP 9 115 1 [vR x, none, none, none, none, none, none, none, none] [vR x] w Q
  refine WP.cl (a := [vR x]) (rest := []) rfl rfl rfl rfl trivial (by decide) (z_state h (fun wd1 hh1 => ⟨rfl, ?_⟩))
  show WP 9 115 4 [vR x, none, none, none, none, none, none, none, none] [vL (sO f)] wd1 Q
  refine WP.blk 2 ?_
  show WP 9 115 6 [vR x, vL (sO f), none, none, none, none, none, none, none] [vR x] wd1 Q
  refine WP.cl (a := [vR x]) (rest := []) rfl rfl rfl rfl ⟨ls_ty hh1, trivial⟩ (by decide) (v_fewest hh1 (Int.le_refl _) (fun wd3 y9 hh3 hs => (sml_gs hR hs).elim (fun hm => ⟨rfl, ?_⟩) (fun hm => ⟨rfl, ?_⟩)))
  · show WP 9 115 9 [vR x, vL (sO f), none, none, none, none, none, none, none] [vI y9] wd3 Q
    obtain ⟨m1, m2⟩ := hm
    rw [m1]
    refine WP.blk 3 ?_
    show WP 9 115 12 [vR x, vL (sO f), none, vI (-1), none, none, none, none, none] [vI 1, vR x] wd3 Q
    refine WP.cl (a := [vR x, vI 1]) (rest := []) rfl rfl rfl rfl trivial (by decide) (v_value hh3 (Int.le_refl _) (vV_lo (by omega)) (fun wd4 hh4 => ⟨rfl, ?_⟩))
    show WP 9 115 15 [vR x, vL (sO f), none, vI (-1), none, none, none, none, none] [vI (f 1)] wd4 Q
    refine WP.blk 2 ?_
    show WP 9 115 18 [vR x, vL (sO f), none, vI (-1), vI (f 1), none, none, none, none] [vR x] wd4 Q
    refine WP.cl (a := [vR x]) (rest := []) rfl rfl rfl rfl trivial (by decide) (z_state hh4 (fun wd5 hh5 => ⟨rfl, ?_⟩))
    show WP 9 115 21 [vR x, vL (sO f), none, vI (-1), vI (f 1), none, none, none, none] [vL (sO f)] wd5 Q
    refine WP.blk 3 ?_
    show WP 9 115 (if cnd .ne (lC (sO f) (sO f)) 0 = true then 59 else 26) [vR x, vL (sO f), none, vI (-1), vI (f 1), none, none, none, none] [] wd5 Q
    refine br_ne (fun c7 => ?_) (fun c7 => ?_)
    · exact absurd (lC_s _) c7
    · refine WP.blk 7 ?_
      show WP 9 115 39 [vR x, vL (sO f), none, vI (-1), vI (f 1), none, none, none, none] [vI 8, vR x, vI 1] wd5 Q
      refine WP.cl (a := [vR x, vI 8]) (rest := [vI 1]) rfl rfl rfl rfl trivial (by decide) (v_value hh5 (Int.le_refl _) vV_8 (fun wd8 hh8 => ⟨rfl, ?_⟩))
      show WP 9 115 42 [vR x, vL (sO f), none, vI (-1), vI (f 1), none, none, none, none] [vI (num (HasP f) (f 1)), vI 1] wd8 Q
      refine WP.blk 2 ?_
      show WP 9 115 (if cnd .ge (num (HasP f) (f 1)) (f 1) = true then 51 else 47) [vR x, vL (sO f), none, vI (-1), vI (f 1), none, none, none, none] [vI 1] wd8 Q
      refine br_ge (fun c9 => ?_) (fun c9 => ?_)
      · exfalso; omega
      · refine WP.blk 8 ?_
        show WP 9 115 64 [vR x, vL (sO f), none, vI (-1), vI (f 1), vI 1, none, none, none] [vI 0, vR x] wd8 Q
        refine WP.cl (a := [vR x, vI 0]) (rest := []) rfl rfl rfl rfl trivial (by decide) (v_value hh8 (Int.le_refl _) (vV_lo (by omega)) (fun wd10 hh10 => ⟨rfl, ?_⟩))
        show WP 9 115 67 [vR x, vL (sO f), none, vI (-1), vI (f 1), vI 1, none, none, none] [vI (f 0)] wd10 Q
        refine WP.blk 3 ?_
        show ir ((f 0) - 1) ∧ WP 9 115 71 [vR x, vL (sO f), none, vI (-1), vI (f 1), vI 1, vI ((f 0) - 1), none, none] [] wd10 Q
        refine ⟨(by unfold ir; omega), ?_⟩
        have hl_71 : ∀ (n_71 : Nat) (i : Int) (sv9 : Int) (a7_71 : V) (a8_71 : V) (w_71 : Wd), -1 ≤ i ∧ i ≤ f 0 - 1 → sv9 ≤ sv → LwS (N + 600 + 20 * (f 0 - i)) (B) x L w_71 f ([]) sv9 → (i + 1).toNat < n_71 → WP 9 115 71 [vR x, vL (sO f), none, vI (-1), vI (f 1), vI 1, vI i, a7_71, a8_71] [] w_71 Q := by
          intro n_71
          induction n_71 with
          | zero => intro i sv9 a7_71 a8_71 w_71 p0 p1_ h_71 hm_71; exact absurd hm_71 (Nat.not_lt_zero _)
          | succ n_71 ih_71 =>
            intro i sv9 a7_71 a8_71 w_71 p0 p1_ h_71 hm_71
            refine WP.blk 2 ?_
            show WP 9 115 (if cnd .lt i 0 = true then 217 else 76) [vR x, vL (sO f), none, vI (-1), vI (f 1), vI 1, vI i, a7_71, a8_71] [] w_71 Q
            refine br_lt (fun c11 => ?_) (fun c11 => ?_)
            · refine WP.blk 8 ?_
              show WP 9 115 336 [vR x, vL (sO f), none, vI (-1), vI (f 1), vI 1, vI i, a7_71, a8_71] [vR x] w_71 Q
              refine WP.cl (a := [vR x]) (rest := []) rfl rfl rfl rfl trivial (by decide) (z_state h_71 (fun wd12 hh12 => ⟨rfl, ?_⟩))
              show WP 9 115 339 [vR x, vL (sO f), none, vI (-1), vI (f 1), vI 1, vI i, a7_71, a8_71] [vL (sO f)] wd12 Q
              refine WP.blk 3 ?_
              show WP 9 115 (if cnd .ne (lC (sO f) (sO f)) 0 = true then 348 else 344) [vR x, vL (sO f), none, vI (-1), vI (f 1), vI 1, vI i, a7_71, a8_71] [] wd12 Q
              refine br_ne (fun c14 => ?_) (fun c14 => ?_)
              · exact absurd (lC_s _) c14
              · refine WP.blk 2 ?_
                show WP 9 115 349 [vR x, vL (sO f), none, vI (-1), vI (f 1), vI 1, vI i, a7_71, a8_71] [vI 1] wd12 Q
                exact WP.ret rfl rfl rfl ⟨by omega, trivial⟩ (k _ _ (ls_le hh12 (by omega)) (by omega))
            · have hn1 := num_r (P := NdW f i) hW1.1
              have hn2 := nd_le (s := i) hR
              refine WP.blk 4 ?_
              show WP 9 115 84 [vR x, vL (sO f), none, vI (-1), vI (f 1), vI 1, vI i, a7_71, a8_71] [vI i, vR x] w_71 Q
              refine WP.cl (a := [vR x, vI i]) (rest := []) rfl rfl rfl rfl trivial (by decide) (v_needed h_71 (Int.le_refl _) (nV_in (by omega)) (fun wd15 hh15 => ⟨rfl, ?_⟩))
              show WP 9 115 87 [vR x, vL (sO f), none, vI (-1), vI (f 1), vI 1, vI i, a7_71, a8_71] [vI (num (NdW f i) (f 1))] wd15 Q
              refine WP.blk 3 ?_
              show WP 9 115 (if cnd .lt (num (NdW f i) (f 1)) 0 = true then 153 else 94) [vR x, vL (sO f), none, vI (-1), vI (f 1), vI 1, vI i, vI (num (NdW f i) (f 1)), a8_71] [] wd15 Q
              refine br_lt (fun c16 => ?_) (fun c16 => ?_)
              · exfalso; omega
              · refine WP.blk 3 ?_
                show WP 9 115 99 [vR x, vL (sO f), none, vI (-1), vI (f 1), vI 1, vI i, vI (num (NdW f i) (f 1)), a8_71] [vI 8, vR x, vI (num (NdW f i) (f 1))] wd15 Q
                refine WP.cl (a := [vR x, vI 8]) (rest := [vI (num (NdW f i) (f 1))]) rfl rfl rfl rfl trivial (by decide) (v_value hh15 (Int.le_refl _) vV_8 (fun wd17 hh17 => ⟨rfl, ?_⟩))
                show WP 9 115 102 [vR x, vL (sO f), none, vI (-1), vI (f 1), vI 1, vI i, vI (num (NdW f i) (f 1)), a8_71] [vI (num (HasP f) (f 1)), vI (num (NdW f i) (f 1))] wd17 Q
                refine WP.blk 1 ?_
                show WP 9 115 (if cnd .gt (num (NdW f i) (f 1)) (num (HasP f) (f 1)) = true then 153 else 105) [vR x, vL (sO f), none, vI (-1), vI (f 1), vI 1, vI i, vI (num (NdW f i) (f 1)), a8_71] [] wd17 Q
                refine br_gt (fun c18 => ?_) (fun c18 => ?_)
                · exfalso; omega
                · refine WP.blk 11 ?_
                  show WP 9 115 159 [vR x, vL (sO f), none, vI (-1), vI (f 1), vI 1, vI i, vI (num (NdW f i) (f 1)), a8_71] [vI 8, vR x] wd17 Q
                  refine WP.cl (a := [vR x, vI 8]) (rest := []) rfl rfl rfl rfl trivial (by decide) (v_value hh17 (Int.le_refl _) vV_8 (fun wd19 hh19 => ⟨rfl, ?_⟩))
                  show WP 9 115 162 [vR x, vL (sO f), none, vI (-1), vI (f 1), vI 1, vI i, vI (num (NdW f i) (f 1)), a8_71] [vI (num (HasP f) (f 1))] wd19 Q
                  refine WP.blk 5 ?_
                  show WP 9 115 172 [vR x, vL (sO f), none, vI (-1), vI (f 1), vI 1, vI i, vI (num (NdW f i) (f 1)), vI (num (HasP f) (f 1))] [vI i, vR x] wd19 Q
                  refine WP.cl (a := [vR x, vI i]) (rest := []) rfl rfl rfl rfl trivial (by decide) (u_remove hh19 (Int.le_refl _) (Nat.le_of_ble_eq_true rfl) (fun wd20 hh20 hrm => ⟨rfl, ?_⟩) (fun _ _ z => absurd (show 0 ≤ i ∧ i < f 0 by omega) z))
                  show WP 9 115 175 [vR x, vL (sO f), none, vI (-1), vI (f 1), vI 1, vI i, vI (num (NdW f i) (f 1)), vI (num (HasP f) (f 1))] [vI (f 0 - 1)] wd20 Q
                  have g8 := rem_num hR hrm
                  have g0 : remR f i 0 = f 0 - 1 := remR_0
                  have g1 : remR f i 1 = f 1 := remR_lo (by omega) (by omega)
                  obtain ⟨g, hg⟩ : ∃ g, g = remR f i := ⟨_, rfl⟩
                  rw [← hg] at hh20 g0 g1 g8
                  refine WP.blk 2 ?_
                  show WP 9 115 177 [vR x, vL (sO f), none, vI (-1), vI (f 1), vI 1, vI i, vI (num (NdW f i) (f 1)), vI (num (HasP f) (f 1))] [vI 0, vR x, vI (f 0 - 1)] wd20 Q
                  refine WP.cl (a := [vR x, vI 0]) (rest := [vI (f 0 - 1)]) rfl rfl rfl rfl trivial (by decide) (v_value hh20 (Int.le_refl _) (vV_lo (by omega)) (fun wd21 hh21 => ⟨rfl, ?_⟩))
                  show WP 9 115 180 [vR x, vL (sO f), none, vI (-1), vI (f 1), vI 1, vI i, vI (num (NdW f i) (f 1)), vI (num (HasP f) (f 1))] [vI (g 0), vI (f 0 - 1)] wd21 Q
                  refine WP.blk 1 ?_
                  show WP 9 115 (if cnd .ne (f 0 - 1) (g 0) = true then 208 else 183) [vR x, vL (sO f), none, vI (-1), vI (f 1), vI 1, vI i, vI (num (NdW f i) (f 1)), vI (num (HasP f) (f 1))] [] wd21 Q
                  refine br_ne (fun c22 => ?_) (fun c22 => ?_)
                  · exfalso; omega
                  · refine WP.blk 2 ?_
                    show WP 9 115 186 [vR x, vL (sO f), none, vI (-1), vI (f 1), vI 1, vI i, vI (num (NdW f i) (f 1)), vI (num (HasP f) (f 1))] [vI 8, vR x] wd21 Q
                    refine WP.cl (a := [vR x, vI 8]) (rest := []) rfl rfl rfl rfl trivial (by decide) (v_value hh21 (Int.le_refl _) (vV_8.trans (by rw [g1])) (fun wd23 hh23 => ⟨rfl, ?_⟩))
                    show WP 9 115 189 [vR x, vL (sO f), none, vI (-1), vI (f 1), vI 1, vI i, vI (num (NdW f i) (f 1)), vI (num (HasP f) (f 1))] [vI (num (HasP g) (f 1))] wd23 Q
                    refine WP.blk 4 ?_
                    show ir ((num (HasP f) (f 1)) - (num (NdW f i) (f 1))) ∧ WP 9 115 (if cnd .ne (num (HasP g) (f 1)) ((num (HasP f) (f 1)) - (num (NdW f i) (f 1))) = true then 208 else 197) [vR x, vL (sO f), none, vI (-1), vI (f 1), vI 1, vI i, vI (num (NdW f i) (f 1)), vI (num (HasP f) (f 1))] [] wd23 Q
                    refine ⟨(by unfold ir; omega), ?_⟩
                    refine br_ne (fun c24 => ?_) (fun c24 => ?_)
                    · exfalso; omega
                    · refine WP.blk 1 ?_
                      show WP 9 115 198 [vR x, vL (sO f), none, vI (-1), vI (f 1), vI 1, vI i, vI (num (NdW f i) (f 1)), vI (num (HasP f) (f 1))] [vR x] wd23 Q
                      refine WP.cl (a := [vR x]) (rest := []) rfl rfl rfl rfl trivial (by decide) (u_undo hh23 (Int.le_refl _) (fun wd25 hh25 sphh25 => ⟨rfl, ?_⟩))
                      show WP 9 115 201 [vR x, vL (sO f), none, vI (-1), vI (f 1), vI 1, vI i, vI (num (NdW f i) (f 1)), vI (num (HasP f) (f 1))] [vI ((nsv sv9) - 1)] wd25 Q
                      refine WP.blk 1 ?_
                      show WP 9 115 (if cnd .lt ((nsv sv9) - 1) 0 = true then 208 else 204) [vR x, vL (sO f), none, vI (-1), vI (f 1), vI 1, vI i, vI (num (NdW f i) (f 1)), vI (num (HasP f) (f 1))] [] wd25 Q
                      refine br_lt (fun c26 => ?_) (fun c26 => ?_)
                      · exfalso; have := nsv_r (ls_sv h_71); omega
                      · refine WP.blk 5 ?_
                        show ir (i + (-1)) ∧ WP 9 115 71 [vR x, vL (sO f), none, vI (-1), vI (f 1), vI 1, vI (i + (-1)), vI (num (NdW f i) (f 1)), vI (num (HasP f) (f 1))] [] wd25 Q
                        refine ⟨(by unfold ir; omega), ?_⟩
                        exact ih_71 (i + (-1)) ((nsv sv9) - 1) (vI (num (NdW f i) (f 1))) (vI (num (HasP f) (f 1))) wd25 (by omega) (by have hq := nsv_r (ls_sv h_71); omega) (ls_le hh25 (by omega)) (by omega)
        exact hl_71 _ ((f 0) - 1) sv none none wd10 (by omega) (by omega) (ls_le hh10 (by omega)) (Nat.lt_succ_self _)
  · show WP 9 115 9 [vR x, vL (sO f), none, none, none, none, none, none, none] [vI y9] wd3 Q
    obtain ⟨m1, m2, m3, m4⟩ := hm
    have m5 := m3.1
    refine WP.blk 3 ?_
    show WP 9 115 12 [vR x, vL (sO f), none, vI y9, none, none, none, none, none] [vI 1, vR x] wd3 Q
    refine WP.cl (a := [vR x, vI 1]) (rest := []) rfl rfl rfl rfl trivial (by decide) (v_value hh3 (Int.le_refl _) (vV_lo (by omega)) (fun wd27 hh27 => ⟨rfl, ?_⟩))
    show WP 9 115 15 [vR x, vL (sO f), none, vI y9, none, none, none, none, none] [vI (f 1)] wd27 Q
    refine WP.blk 2 ?_
    show WP 9 115 18 [vR x, vL (sO f), none, vI y9, vI (f 1), none, none, none, none] [vR x] wd27 Q
    refine WP.cl (a := [vR x]) (rest := []) rfl rfl rfl rfl trivial (by decide) (z_state hh27 (fun wd28 hh28 => ⟨rfl, ?_⟩))
    show WP 9 115 21 [vR x, vL (sO f), none, vI y9, vI (f 1), none, none, none, none] [vL (sO f)] wd28 Q
    refine WP.blk 3 ?_
    show WP 9 115 (if cnd .ne (lC (sO f) (sO f)) 0 = true then 59 else 26) [vR x, vL (sO f), none, vI y9, vI (f 1), none, none, none, none] [] wd28 Q
    refine br_ne (fun c30 => ?_) (fun c30 => ?_)
    · exact absurd (lC_s _) c30
    · refine WP.blk 3 ?_
      show WP 9 115 (if cnd .ne y9 (-1) = true then 35 else 31) [vR x, vL (sO f), none, vI y9, vI (f 1), none, none, none, none] [] wd28 Q
      refine br_ne (fun c31 => ?_) (fun c31 => ?_)
      · refine WP.blk 3 ?_
        show WP 9 115 39 [vR x, vL (sO f), none, vI y9, vI (f 1), none, none, none, none] [vI 8, vR x, vI 0] wd28 Q
        refine WP.cl (a := [vR x, vI 8]) (rest := [vI 0]) rfl rfl rfl rfl trivial (by decide) (v_value hh28 (Int.le_refl _) vV_8 (fun wd32 hh32 => ⟨rfl, ?_⟩))
        show WP 9 115 42 [vR x, vL (sO f), none, vI y9, vI (f 1), none, none, none, none] [vI (num (HasP f) (f 1)), vI 0] wd32 Q
        refine WP.blk 2 ?_
        show WP 9 115 (if cnd .ge (num (HasP f) (f 1)) (f 1) = true then 51 else 47) [vR x, vL (sO f), none, vI y9, vI (f 1), none, none, none, none] [vI 0] wd32 Q
        refine br_ge (fun c33 => ?_) (fun c33 => ?_)
        · refine WP.blk 7 ?_
          show WP 9 115 64 [vR x, vL (sO f), none, vI y9, vI (f 1), vI 1, none, none, none] [vI 0, vR x] wd32 Q
          refine WP.cl (a := [vR x, vI 0]) (rest := []) rfl rfl rfl rfl trivial (by decide) (v_value hh32 (Int.le_refl _) (vV_lo (by omega)) (fun wd34 hh34 => ⟨rfl, ?_⟩))
          show WP 9 115 67 [vR x, vL (sO f), none, vI y9, vI (f 1), vI 1, none, none, none] [vI (f 0)] wd34 Q
          refine WP.blk 3 ?_
          show ir ((f 0) - 1) ∧ WP 9 115 71 [vR x, vL (sO f), none, vI y9, vI (f 1), vI 1, vI ((f 0) - 1), none, none] [] wd34 Q
          refine ⟨(by unfold ir; omega), ?_⟩
          have hl_71 : ∀ (n_71 : Nat) (i : Int) (sv9 : Int) (a7_71 : V) (a8_71 : V) (w_71 : Wd), -1 ≤ i ∧ i ≤ f 0 - 1 → sv9 ≤ sv → LwS (N + 600 + 20 * (f 0 - i)) (B) x L w_71 f ([]) sv9 → (i + 1).toNat < n_71 → WP 9 115 71 [vR x, vL (sO f), none, vI y9, vI (f 1), vI 1, vI i, a7_71, a8_71] [] w_71 Q := by
            intro n_71
            induction n_71 with
            | zero => intro i sv9 a7_71 a8_71 w_71 p0 p1_ h_71 hm_71; exact absurd hm_71 (Nat.not_lt_zero _)
            | succ n_71 ih_71 =>
              intro i sv9 a7_71 a8_71 w_71 p0 p1_ h_71 hm_71
              refine WP.blk 2 ?_
              show WP 9 115 (if cnd .lt i 0 = true then 217 else 76) [vR x, vL (sO f), none, vI y9, vI (f 1), vI 1, vI i, a7_71, a8_71] [] w_71 Q
              refine br_lt (fun c35 => ?_) (fun c35 => ?_)
              · refine WP.blk 5 ?_
                show WP 9 115 (if cnd .eq y9 (-1) = true then 330 else 227) [vR x, vL (sO f), none, vI y9, vI (f 1), vI 1, vI i, a7_71, a8_71] [] w_71 Q
                refine br_eq (fun c36 => ?_) (fun c36 => ?_)
                · exfalso; omega
                · refine WP.blk 4 ?_
                  show WP 9 115 232 [vR x, vL (sO f), none, vI y9, vI (f 1), vI 1, vI 0, a7_71, a8_71] [vI 0, vR x] w_71 Q
                  refine WP.cl (a := [vR x, vI 0]) (rest := []) rfl rfl rfl rfl trivial (by decide) (v_value h_71 (Int.le_refl _) (vV_lo (by omega)) (fun wd37 hh37 => ⟨rfl, ?_⟩))
                  show WP 9 115 235 [vR x, vL (sO f), none, vI y9, vI (f 1), vI 1, vI 0, a7_71, a8_71] [vI (f 0)] wd37 Q
                  refine WP.blk 3 ?_
                  show ir ((f 0) - 1) ∧ WP 9 115 239 [vR x, vL (sO f), none, vI y9, vI (f 1), vI 1, vI 0, vI ((f 0) - 1), a8_71] [] wd37 Q
                  refine ⟨(by unfold ir; omega), ?_⟩
                  have hl_239 : ∀ (n_239 : Nat) (i : Int) (gone : Int) (sv8 : Int) (g : Int → Int) (ls9 : List (Int → Int)) (w_239 : Wd), -1 ≤ i ∧ i ≤ f 0 - 1 → (0 ≤ gone ∧ gone ≤ 4) ∧ gone ≤ f 0 - 1 - i → (ls9.length : Int) = gone → Bot f ls9 g → GX g y9 i → g 0 = f 0 - gone → g 1 = f 1 → sv8 - gone ≤ sv → LwS (N + 1000 + 4 * (f 0 - i)) (B) x L w_239 g ls9 sv8 → (i + 1).toNat < n_239 → WP 9 115 239 [vR x, vL (sO f), none, vI y9, vI (f 1), vI 1, vI gone, vI i, a8_71] [] w_239 Q := by
                    intro n_239
                    induction n_239 with
                    | zero => intro i gone sv8 g ls9 w_239 l1_ l2_ l0 hbo hgx l3_ l4_ l5_ h_239 hm_239; exact absurd hm_239 (Nat.not_lt_zero _)
                    | succ n_239 ih_239 =>
                      intro i gone sv8 g ls9 w_239 l1_ l2_ l0 hbo hgx l3_ l4_ l5_ h_239 hm_239
                      have hRg := (ls_row h_239).1
                      refine WP.blk 2 ?_
                      show WP 9 115 (if cnd .lt i 0 = true then 300 else 244) [vR x, vL (sO f), none, vI y9, vI (f 1), vI 1, vI gone, vI i, a8_71] [] w_239 Q
                      refine br_lt (fun c38 => ?_) (fun c38 => ?_)
                      · have hl_300 : ∀ (n_300 : Nat) (gone : Int) (sv8 : Int) (g : Int → Int) (ls9 : List (Int → Int)) (a7_300 : V) (w_300 : Wd), 0 ≤ gone ∧ gone ≤ 4 → (ls9.length : Int) = gone → Bot f ls9 g → sv8 - gone ≤ sv → LwS (N + 1100 + 4 * (4 - gone)) (B) x L w_300 g ls9 sv8 → gone.toNat < n_300 → WP 9 115 300 [vR x, vL (sO f), none, vI y9, vI (f 1), vI 1, vI gone, a7_300, a8_71] [] w_300 Q := by
                          intro n_300
                          induction n_300 with
                          | zero => intro gone sv8 g ls9 a7_300 w_300 n2_ n0 nbo n5_ h_300 hm_300; exact absurd hm_300 (Nat.not_lt_zero _)
                          | succ n_300 ih_300 =>
                            intro gone sv8 g ls9 a7_300 w_300 n2_ n0 nbo n5_ h_300 hm_300
                            refine WP.blk 2 ?_
                            show WP 9 115 (if cnd .le gone 0 = true then 330 else 305) [vR x, vL (sO f), none, vI y9, vI (f 1), vI 1, vI gone, a7_300, a8_71] [] w_300 Q
                            refine br_le (fun c39 => ?_) (fun c39 => ?_)
                            · obtain ⟨e1, e2⟩ := bot_e nbo (by omega)
                              rw [e1, e2] at h_300
                              refine WP.blk 3 ?_
                              show WP 9 115 336 [vR x, vL (sO f), none, vI y9, vI (f 1), vI 1, vI gone, a7_300, a8_71] [vR x] w_300 Q
                              refine WP.cl (a := [vR x]) (rest := []) rfl rfl rfl rfl trivial (by decide) (z_state h_300 (fun wd40 hh40 => ⟨rfl, ?_⟩))
                              show WP 9 115 339 [vR x, vL (sO f), none, vI y9, vI (f 1), vI 1, vI gone, a7_300, a8_71] [vL (sO f)] wd40 Q
                              refine WP.blk 3 ?_
                              show WP 9 115 (if cnd .ne (lC (sO f) (sO f)) 0 = true then 348 else 344) [vR x, vL (sO f), none, vI y9, vI (f 1), vI 1, vI gone, a7_300, a8_71] [] wd40 Q
                              refine br_ne (fun c42 => ?_) (fun c42 => ?_)
                              · exact absurd (lC_s _) c42
                              · refine WP.blk 2 ?_
                                show WP 9 115 349 [vR x, vL (sO f), none, vI y9, vI (f 1), vI 1, vI gone, a7_300, a8_71] [vI 1] wd40 Q
                                exact WP.ret rfl rfl rfl ⟨by omega, trivial⟩ (k _ _ (ls_le hh40 (by omega)) (by omega))
                            · refine WP.blk 3 ?_
                              show WP 9 115 311 [vR x, vL (sO f), none, vI y9, vI (f 1), vI 1, vI gone, a7_300, a8_71] [vR x] w_300 Q
                              obtain ⟨g2, t2, el⟩ := bot_c (show 0 < (ls9.length : Int) by omega)
                              subst el
                              refine WP.cl (a := [vR x]) (rest := []) rfl rfl rfl rfl trivial (by decide) (u_undo h_300 (Int.le_refl _) (fun wd43 hh43 sphh43 => ⟨rfl, ?_⟩))
                              show WP 9 115 314 [vR x, vL (sO f), none, vI y9, vI (f 1), vI 1, vI gone, a7_300, a8_71] [vI (sv8 - 1)] wd43 Q
                              refine WP.blk 1 ?_
                              show WP 9 115 (if cnd .lt (sv8 - 1) 0 = true then 321 else 317) [vR x, vL (sO f), none, vI y9, vI (f 1), vI 1, vI gone, a7_300, a8_71] [] wd43 Q
                              refine br_lt (fun c44 => ?_) (fun c44 => ?_)
                              · exfalso; omega
                              · refine WP.blk 5 ?_
                                show ir (gone + (-1)) ∧ WP 9 115 300 [vR x, vL (sO f), none, vI y9, vI (f 1), vI 1, vI (gone + (-1)), a7_300, a8_71] [] wd43 Q
                                refine ⟨(by unfold ir; omega), ?_⟩
                                exact ih_300 (gone + (-1)) (sv8 - 1) g2 t2 (a7_300) wd43 (by omega) (len_p n0) (bot_dn nbo) (by omega) (ls_le hh43 (by omega)) (by omega)
                        exact hl_300 _ gone sv8 g ls9 (vI i) w_239 (by omega) l0 hbo (by omega) (ls_le h_239 (by omega)) (Nat.lt_succ_self _)
                      · refine WP.blk 5 ?_
                        show WP 9 115 (if cnd .ge gone 4 = true then 300 else 255) [vR x, vL (sO f), none, vI y9, vI (f 1), vI 1, vI gone, vI i, a8_71] [] w_239 Q
                        refine br_ge (fun c45 => ?_) (fun c45 => ?_)
                        · have hl_300 : ∀ (n_300 : Nat) (gone : Int) (sv8 : Int) (g : Int → Int) (ls9 : List (Int → Int)) (a7_300 : V) (w_300 : Wd), 0 ≤ gone ∧ gone ≤ 4 → (ls9.length : Int) = gone → Bot f ls9 g → sv8 - gone ≤ sv → LwS (N + 1100 + 4 * (4 - gone)) (B) x L w_300 g ls9 sv8 → gone.toNat < n_300 → WP 9 115 300 [vR x, vL (sO f), none, vI y9, vI (f 1), vI 1, vI gone, a7_300, a8_71] [] w_300 Q := by
                            intro n_300
                            induction n_300 with
                            | zero => intro gone sv8 g ls9 a7_300 w_300 n2_ n0 nbo n5_ h_300 hm_300; exact absurd hm_300 (Nat.not_lt_zero _)
                            | succ n_300 ih_300 =>
                              intro gone sv8 g ls9 a7_300 w_300 n2_ n0 nbo n5_ h_300 hm_300
                              refine WP.blk 2 ?_
                              show WP 9 115 (if cnd .le gone 0 = true then 330 else 305) [vR x, vL (sO f), none, vI y9, vI (f 1), vI 1, vI gone, a7_300, a8_71] [] w_300 Q
                              refine br_le (fun c46 => ?_) (fun c46 => ?_)
                              · obtain ⟨e1, e2⟩ := bot_e nbo (by omega)
                                rw [e1, e2] at h_300
                                refine WP.blk 3 ?_
                                show WP 9 115 336 [vR x, vL (sO f), none, vI y9, vI (f 1), vI 1, vI gone, a7_300, a8_71] [vR x] w_300 Q
                                refine WP.cl (a := [vR x]) (rest := []) rfl rfl rfl rfl trivial (by decide) (z_state h_300 (fun wd47 hh47 => ⟨rfl, ?_⟩))
                                show WP 9 115 339 [vR x, vL (sO f), none, vI y9, vI (f 1), vI 1, vI gone, a7_300, a8_71] [vL (sO f)] wd47 Q
                                refine WP.blk 3 ?_
                                show WP 9 115 (if cnd .ne (lC (sO f) (sO f)) 0 = true then 348 else 344) [vR x, vL (sO f), none, vI y9, vI (f 1), vI 1, vI gone, a7_300, a8_71] [] wd47 Q
                                refine br_ne (fun c49 => ?_) (fun c49 => ?_)
                                · exact absurd (lC_s _) c49
                                · refine WP.blk 2 ?_
                                  show WP 9 115 349 [vR x, vL (sO f), none, vI y9, vI (f 1), vI 1, vI gone, a7_300, a8_71] [vI 1] wd47 Q
                                  exact WP.ret rfl rfl rfl ⟨by omega, trivial⟩ (k _ _ (ls_le hh47 (by omega)) (by omega))
                              · refine WP.blk 3 ?_
                                show WP 9 115 311 [vR x, vL (sO f), none, vI y9, vI (f 1), vI 1, vI gone, a7_300, a8_71] [vR x] w_300 Q
                                obtain ⟨g2, t2, el⟩ := bot_c (show 0 < (ls9.length : Int) by omega)
                                subst el
                                refine WP.cl (a := [vR x]) (rest := []) rfl rfl rfl rfl trivial (by decide) (u_undo h_300 (Int.le_refl _) (fun wd50 hh50 sphh50 => ⟨rfl, ?_⟩))
                                show WP 9 115 314 [vR x, vL (sO f), none, vI y9, vI (f 1), vI 1, vI gone, a7_300, a8_71] [vI (sv8 - 1)] wd50 Q
                                refine WP.blk 1 ?_
                                show WP 9 115 (if cnd .lt (sv8 - 1) 0 = true then 321 else 317) [vR x, vL (sO f), none, vI y9, vI (f 1), vI 1, vI gone, a7_300, a8_71] [] wd50 Q
                                refine br_lt (fun c51 => ?_) (fun c51 => ?_)
                                · exfalso; omega
                                · refine WP.blk 5 ?_
                                  show ir (gone + (-1)) ∧ WP 9 115 300 [vR x, vL (sO f), none, vI y9, vI (f 1), vI 1, vI (gone + (-1)), a7_300, a8_71] [] wd50 Q
                                  refine ⟨(by unfold ir; omega), ?_⟩
                                  exact ih_300 (gone + (-1)) (sv8 - 1) g2 t2 (a7_300) wd50 (by omega) (len_p n0) (bot_dn nbo) (by omega) (ls_le hh50 (by omega)) (by omega)
                          exact hl_300 _ gone sv8 g ls9 (vI i) w_239 (by omega) l0 hbo (by omega) (ls_le h_239 (by omega)) (Nat.lt_succ_self _)
                        · refine WP.blk 6 ?_
                          show WP 9 115 (if cnd .ne (iA (iR y9 i) 1) 0 = true then 294 else 264) [vR x, vL (sO f), none, vI y9, vI (f 1), vI 1, vI gone, vI i, a8_71] [] w_239 Q
                          refine br_ne (fun c52 => ?_) (fun c52 => ?_)
                          · refine WP.blk 2 ?_
                            show ir (i + (-1)) ∧ WP 9 115 239 [vR x, vL (sO f), none, vI y9, vI (f 1), vI 1, vI gone, vI (i + (-1)), a8_71] [] w_239 Q
                            refine ⟨(by unfold ir; omega), ?_⟩
                            exact ih_239 (i + (-1)) gone sv8 g ls9 w_239 (by omega) (by omega) l0 hbo (gx_dn hgx) (by omega) (by omega) (by omega) (ls_le h_239 (by omega)) (by omega)
                          · have hb1 := bs_bit (x := y9) (s := i) (by omega) (by omega)
                            have hnb : ¬ bs y9 i = true := fun z => by have := hb1.1 z; omega
                            refine WP.blk 2 ?_
                            show WP 9 115 267 [vR x, vL (sO f), none, vI y9, vI (f 1), vI 1, vI gone, vI i, a8_71] [vI i, vR x] w_239 Q
                            refine WP.cl (a := [vR x, vI i]) (rest := []) rfl rfl rfl rfl trivial (by decide) (u_remove h_239 (Int.le_refl _) (by omega) (fun wd53 hh53 hrm => ⟨rfl, ?_⟩) (fun _ _ z => absurd (show 0 ≤ i ∧ i < g 0 by omega) z))
                            show WP 9 115 270 [vR x, vL (sO f), none, vI y9, vI (f 1), vI 1, vI gone, vI i, a8_71] [vI (g 0 - 1)] wd53 Q
                            have gx2 := gx_rem hRg hgx hrm hnb
                            have g20 : remR g i 0 = g 0 - 1 := remR_0
                            have g21 : remR g i 1 = g 1 := remR_lo (by omega) (by omega)
                            obtain ⟨g2, hg2⟩ : ∃ g2, g2 = remR g i := ⟨_, rfl⟩
                            rw [← hg2] at hh53 gx2 g20 g21
                            obtain ⟨gx3, g28⟩ := gx2
                            refine WP.blk 1 ?_
                            show WP 9 115 (if cnd .lt (g 0 - 1) 0 = true then 288 else 273) [vR x, vL (sO f), none, vI y9, vI (f 1), vI 1, vI gone, vI i, a8_71] [] wd53 Q
                            refine br_lt (fun c54 => ?_) (fun c54 => ?_)
                            · exfalso; omega
                            · refine WP.blk 2 ?_
                              show WP 9 115 276 [vR x, vL (sO f), none, vI y9, vI (f 1), vI 1, vI gone, vI i, a8_71] [vI 8, vR x] wd53 Q
                              refine WP.cl (a := [vR x, vI 8]) (rest := []) rfl rfl rfl rfl trivial (by decide) (v_value hh53 (Int.le_refl _) (vV_8.trans (by rw [g21])) (fun wd55 hh55 => ⟨rfl, ?_⟩))
                              show WP 9 115 279 [vR x, vL (sO f), none, vI y9, vI (f 1), vI 1, vI gone, vI i, a8_71] [vI (num (HasP g2) (g 1))] wd55 Q
                              refine WP.blk 2 ?_
                              show WP 9 115 (if cnd .ne (num (HasP g2) (g 1)) (f 1) = true then 288 else 284) [vR x, vL (sO f), none, vI y9, vI (f 1), vI 1, vI gone, vI i, a8_71] [] wd55 Q
                              refine br_ne (fun c56 => ?_) (fun c56 => ?_)
                              · exfalso; omega
                              · refine WP.blk 6 ?_
                                show ir (gone + 1) ∧ ir (i + (-1)) ∧ WP 9 115 239 [vR x, vL (sO f), none, vI y9, vI (f 1), vI 1, vI (gone + 1), vI (i + (-1)), a8_71] [] wd55 Q
                                refine ⟨(by unfold ir; omega), (by unfold ir; omega), ?_⟩
                                exact ih_239 (i + (-1)) (gone + 1) (nsv sv8) g2 (g :: ls9) wd55 (by omega) (by omega) (len_s l0) (bot_up hbo) gx3 (by omega) (by omega) (by have hq := nsv_r (ls_sv h_239); omega) (ls_le hh55 (by omega)) (by omega)
                  exact hl_239 _ ((f 0) - 1) 0 sv9 f ([]) wd37 (by omega) (by omega) rfl rfl (gx_0 m3) (by omega) rfl (by omega) (ls_le hh37 (by omega)) (Nat.lt_succ_self _)
              · have hn1 := num_r (P := NdW f i) hW1.1
                have hn2 := nd_le (s := i) hR
                refine WP.blk 4 ?_
                show WP 9 115 84 [vR x, vL (sO f), none, vI y9, vI (f 1), vI 1, vI i, a7_71, a8_71] [vI i, vR x] w_71 Q
                refine WP.cl (a := [vR x, vI i]) (rest := []) rfl rfl rfl rfl trivial (by decide) (v_needed h_71 (Int.le_refl _) (nV_in (by omega)) (fun wd57 hh57 => ⟨rfl, ?_⟩))
                show WP 9 115 87 [vR x, vL (sO f), none, vI y9, vI (f 1), vI 1, vI i, a7_71, a8_71] [vI (num (NdW f i) (f 1))] wd57 Q
                refine WP.blk 3 ?_
                show WP 9 115 (if cnd .lt (num (NdW f i) (f 1)) 0 = true then 153 else 94) [vR x, vL (sO f), none, vI y9, vI (f 1), vI 1, vI i, vI (num (NdW f i) (f 1)), a8_71] [] wd57 Q
                refine br_lt (fun c58 => ?_) (fun c58 => ?_)
                · exfalso; omega
                · refine WP.blk 3 ?_
                  show WP 9 115 99 [vR x, vL (sO f), none, vI y9, vI (f 1), vI 1, vI i, vI (num (NdW f i) (f 1)), a8_71] [vI 8, vR x, vI (num (NdW f i) (f 1))] wd57 Q
                  refine WP.cl (a := [vR x, vI 8]) (rest := [vI (num (NdW f i) (f 1))]) rfl rfl rfl rfl trivial (by decide) (v_value hh57 (Int.le_refl _) vV_8 (fun wd59 hh59 => ⟨rfl, ?_⟩))
                  show WP 9 115 102 [vR x, vL (sO f), none, vI y9, vI (f 1), vI 1, vI i, vI (num (NdW f i) (f 1)), a8_71] [vI (num (HasP f) (f 1)), vI (num (NdW f i) (f 1))] wd59 Q
                  refine WP.blk 1 ?_
                  show WP 9 115 (if cnd .gt (num (NdW f i) (f 1)) (num (HasP f) (f 1)) = true then 153 else 105) [vR x, vL (sO f), none, vI y9, vI (f 1), vI 1, vI i, vI (num (NdW f i) (f 1)), a8_71] [] wd59 Q
                  refine br_gt (fun c60 => ?_) (fun c60 => ?_)
                  · exfalso; omega
                  · refine WP.blk 3 ?_
                    show WP 9 115 (if cnd .eq y9 (-1) = true then 125 else 110) [vR x, vL (sO f), none, vI y9, vI (f 1), vI 1, vI i, vI (num (NdW f i) (f 1)), a8_71] [] wd59 Q
                    refine br_eq (fun c61 => ?_) (fun c61 => ?_)
                    · exfalso; omega
                    · refine WP.blk 2 ?_
                      show WP 9 115 (if cnd .eq (num (NdW f i) (f 1)) 0 = true then 125 else 115) [vR x, vL (sO f), none, vI y9, vI (f 1), vI 1, vI i, vI (num (NdW f i) (f 1)), a8_71] [] wd59 Q
                      refine br_eq (fun c62 => ?_) (fun c62 => ?_)
                      · refine WP.blk 3 ?_
                        show WP 9 115 (if cnd .eq y9 (-1) = true then 149 else 130) [vR x, vL (sO f), none, vI y9, vI (f 1), vI 1, vI i, vI (num (NdW f i) (f 1)), a8_71] [] wd59 Q
                        refine br_eq (fun c63 => ?_) (fun c63 => ?_)
                        · exfalso; omega
                        · refine WP.blk 6 ?_
                          show WP 9 115 (if cnd .eq (iA (iR y9 i) 1) 0 = true then 149 else 139) [vR x, vL (sO f), none, vI y9, vI (f 1), vI 1, vI i, vI (num (NdW f i) (f 1)), a8_71] [] wd59 Q
                          refine br_eq (fun c64 => ?_) (fun c64 => ?_)
                          · refine WP.blk 5 ?_
                            show WP 9 115 159 [vR x, vL (sO f), none, vI y9, vI (f 1), vI 1, vI i, vI (num (NdW f i) (f 1)), a8_71] [vI 8, vR x] wd59 Q
                            refine WP.cl (a := [vR x, vI 8]) (rest := []) rfl rfl rfl rfl trivial (by decide) (v_value hh59 (Int.le_refl _) vV_8 (fun wd65 hh65 => ⟨rfl, ?_⟩))
                            show WP 9 115 162 [vR x, vL (sO f), none, vI y9, vI (f 1), vI 1, vI i, vI (num (NdW f i) (f 1)), a8_71] [vI (num (HasP f) (f 1))] wd65 Q
                            refine WP.blk 5 ?_
                            show WP 9 115 172 [vR x, vL (sO f), none, vI y9, vI (f 1), vI 1, vI i, vI (num (NdW f i) (f 1)), vI (num (HasP f) (f 1))] [vI i, vR x] wd65 Q
                            refine WP.cl (a := [vR x, vI i]) (rest := []) rfl rfl rfl rfl trivial (by decide) (u_remove hh65 (Int.le_refl _) (Nat.le_of_ble_eq_true rfl) (fun wd66 hh66 hrm => ⟨rfl, ?_⟩) (fun _ _ z => absurd (show 0 ≤ i ∧ i < f 0 by omega) z))
                            show WP 9 115 175 [vR x, vL (sO f), none, vI y9, vI (f 1), vI 1, vI i, vI (num (NdW f i) (f 1)), vI (num (HasP f) (f 1))] [vI (f 0 - 1)] wd66 Q
                            have g8 := rem_num hR hrm
                            have g0 : remR f i 0 = f 0 - 1 := remR_0
                            have g1 : remR f i 1 = f 1 := remR_lo (by omega) (by omega)
                            obtain ⟨g, hg⟩ : ∃ g, g = remR f i := ⟨_, rfl⟩
                            rw [← hg] at hh66 g0 g1 g8
                            refine WP.blk 2 ?_
                            show WP 9 115 177 [vR x, vL (sO f), none, vI y9, vI (f 1), vI 1, vI i, vI (num (NdW f i) (f 1)), vI (num (HasP f) (f 1))] [vI 0, vR x, vI (f 0 - 1)] wd66 Q
                            refine WP.cl (a := [vR x, vI 0]) (rest := [vI (f 0 - 1)]) rfl rfl rfl rfl trivial (by decide) (v_value hh66 (Int.le_refl _) (vV_lo (by omega)) (fun wd67 hh67 => ⟨rfl, ?_⟩))
                            show WP 9 115 180 [vR x, vL (sO f), none, vI y9, vI (f 1), vI 1, vI i, vI (num (NdW f i) (f 1)), vI (num (HasP f) (f 1))] [vI (g 0), vI (f 0 - 1)] wd67 Q
                            refine WP.blk 1 ?_
                            show WP 9 115 (if cnd .ne (f 0 - 1) (g 0) = true then 208 else 183) [vR x, vL (sO f), none, vI y9, vI (f 1), vI 1, vI i, vI (num (NdW f i) (f 1)), vI (num (HasP f) (f 1))] [] wd67 Q
                            refine br_ne (fun c68 => ?_) (fun c68 => ?_)
                            · exfalso; omega
                            · refine WP.blk 2 ?_
                              show WP 9 115 186 [vR x, vL (sO f), none, vI y9, vI (f 1), vI 1, vI i, vI (num (NdW f i) (f 1)), vI (num (HasP f) (f 1))] [vI 8, vR x] wd67 Q
                              refine WP.cl (a := [vR x, vI 8]) (rest := []) rfl rfl rfl rfl trivial (by decide) (v_value hh67 (Int.le_refl _) (vV_8.trans (by rw [g1])) (fun wd69 hh69 => ⟨rfl, ?_⟩))
                              show WP 9 115 189 [vR x, vL (sO f), none, vI y9, vI (f 1), vI 1, vI i, vI (num (NdW f i) (f 1)), vI (num (HasP f) (f 1))] [vI (num (HasP g) (f 1))] wd69 Q
                              refine WP.blk 4 ?_
                              show ir ((num (HasP f) (f 1)) - (num (NdW f i) (f 1))) ∧ WP 9 115 (if cnd .ne (num (HasP g) (f 1)) ((num (HasP f) (f 1)) - (num (NdW f i) (f 1))) = true then 208 else 197) [vR x, vL (sO f), none, vI y9, vI (f 1), vI 1, vI i, vI (num (NdW f i) (f 1)), vI (num (HasP f) (f 1))] [] wd69 Q
                              refine ⟨(by unfold ir; omega), ?_⟩
                              refine br_ne (fun c70 => ?_) (fun c70 => ?_)
                              · exfalso; omega
                              · refine WP.blk 1 ?_
                                show WP 9 115 198 [vR x, vL (sO f), none, vI y9, vI (f 1), vI 1, vI i, vI (num (NdW f i) (f 1)), vI (num (HasP f) (f 1))] [vR x] wd69 Q
                                refine WP.cl (a := [vR x]) (rest := []) rfl rfl rfl rfl trivial (by decide) (u_undo hh69 (Int.le_refl _) (fun wd71 hh71 sphh71 => ⟨rfl, ?_⟩))
                                show WP 9 115 201 [vR x, vL (sO f), none, vI y9, vI (f 1), vI 1, vI i, vI (num (NdW f i) (f 1)), vI (num (HasP f) (f 1))] [vI ((nsv sv9) - 1)] wd71 Q
                                refine WP.blk 1 ?_
                                show WP 9 115 (if cnd .lt ((nsv sv9) - 1) 0 = true then 208 else 204) [vR x, vL (sO f), none, vI y9, vI (f 1), vI 1, vI i, vI (num (NdW f i) (f 1)), vI (num (HasP f) (f 1))] [] wd71 Q
                                refine br_lt (fun c72 => ?_) (fun c72 => ?_)
                                · exfalso; have := nsv_r (ls_sv h_71); omega
                                · refine WP.blk 5 ?_
                                  show ir (i + (-1)) ∧ WP 9 115 71 [vR x, vL (sO f), none, vI y9, vI (f 1), vI 1, vI (i + (-1)), vI (num (NdW f i) (f 1)), vI (num (HasP f) (f 1))] [] wd71 Q
                                  refine ⟨(by unfold ir; omega), ?_⟩
                                  exact ih_71 (i + (-1)) ((nsv sv9) - 1) (vI (num (NdW f i) (f 1))) (vI (num (HasP f) (f 1))) wd71 (by omega) (by have hq := nsv_r (ls_sv h_71); omega) (ls_le hh71 (by omega)) (by omega)
                          · have hb1 := bs_bit (x := y9) (s := i) (by omega) (by omega)
                            have hnw := (m3.2.1 i (by omega) (by omega) (hb1.2.1 (by have := hb1.2.2; omega))).2
                            refine WP.blk 3 ?_
                            show WP 9 115 143 [vR x, vL (sO f), none, vI y9, vI (f 1), vI 1, vI i, vI (num (NdW f i) (f 1)), a8_71] [vI 5, vI i, vR x] wd59 Q
                            refine WP.cl (a := [vR x, vI i, vI 5]) (rest := []) rfl rfl rfl rfl trivial (by decide) (v_stamp hh59 (Int.le_refl _) (sV_5f (by omega) hnw) (fun wd73 hh73 => ⟨rfl, ?_⟩))
                            show WP 9 115 146 [vR x, vL (sO f), none, vI y9, vI (f 1), vI 1, vI i, vI (num (NdW f i) (f 1)), a8_71] [vI 0] wd73 Q
                            refine WP.blk 6 ?_
                            show WP 9 115 159 [vR x, vL (sO f), none, vI y9, vI (f 1), vI 1, vI i, vI (num (NdW f i) (f 1)), a8_71] [vI 8, vR x] wd73 Q
                            refine WP.cl (a := [vR x, vI 8]) (rest := []) rfl rfl rfl rfl trivial (by decide) (v_value hh73 (Int.le_refl _) vV_8 (fun wd74 hh74 => ⟨rfl, ?_⟩))
                            show WP 9 115 162 [vR x, vL (sO f), none, vI y9, vI (f 1), vI 1, vI i, vI (num (NdW f i) (f 1)), a8_71] [vI (num (HasP f) (f 1))] wd74 Q
                            refine WP.blk 5 ?_
                            show WP 9 115 172 [vR x, vL (sO f), none, vI y9, vI (f 1), vI 1, vI i, vI (num (NdW f i) (f 1)), vI (num (HasP f) (f 1))] [vI i, vR x] wd74 Q
                            refine WP.cl (a := [vR x, vI i]) (rest := []) rfl rfl rfl rfl trivial (by decide) (u_remove hh74 (Int.le_refl _) (Nat.le_of_ble_eq_true rfl) (fun wd75 hh75 hrm => ⟨rfl, ?_⟩) (fun _ _ z => absurd (show 0 ≤ i ∧ i < f 0 by omega) z))
                            show WP 9 115 175 [vR x, vL (sO f), none, vI y9, vI (f 1), vI 1, vI i, vI (num (NdW f i) (f 1)), vI (num (HasP f) (f 1))] [vI (f 0 - 1)] wd75 Q
                            have g8 := rem_num hR hrm
                            have g0 : remR f i 0 = f 0 - 1 := remR_0
                            have g1 : remR f i 1 = f 1 := remR_lo (by omega) (by omega)
                            obtain ⟨g, hg⟩ : ∃ g, g = remR f i := ⟨_, rfl⟩
                            rw [← hg] at hh75 g0 g1 g8
                            refine WP.blk 2 ?_
                            show WP 9 115 177 [vR x, vL (sO f), none, vI y9, vI (f 1), vI 1, vI i, vI (num (NdW f i) (f 1)), vI (num (HasP f) (f 1))] [vI 0, vR x, vI (f 0 - 1)] wd75 Q
                            refine WP.cl (a := [vR x, vI 0]) (rest := [vI (f 0 - 1)]) rfl rfl rfl rfl trivial (by decide) (v_value hh75 (Int.le_refl _) (vV_lo (by omega)) (fun wd76 hh76 => ⟨rfl, ?_⟩))
                            show WP 9 115 180 [vR x, vL (sO f), none, vI y9, vI (f 1), vI 1, vI i, vI (num (NdW f i) (f 1)), vI (num (HasP f) (f 1))] [vI (g 0), vI (f 0 - 1)] wd76 Q
                            refine WP.blk 1 ?_
                            show WP 9 115 (if cnd .ne (f 0 - 1) (g 0) = true then 208 else 183) [vR x, vL (sO f), none, vI y9, vI (f 1), vI 1, vI i, vI (num (NdW f i) (f 1)), vI (num (HasP f) (f 1))] [] wd76 Q
                            refine br_ne (fun c77 => ?_) (fun c77 => ?_)
                            · exfalso; omega
                            · refine WP.blk 2 ?_
                              show WP 9 115 186 [vR x, vL (sO f), none, vI y9, vI (f 1), vI 1, vI i, vI (num (NdW f i) (f 1)), vI (num (HasP f) (f 1))] [vI 8, vR x] wd76 Q
                              refine WP.cl (a := [vR x, vI 8]) (rest := []) rfl rfl rfl rfl trivial (by decide) (v_value hh76 (Int.le_refl _) (vV_8.trans (by rw [g1])) (fun wd78 hh78 => ⟨rfl, ?_⟩))
                              show WP 9 115 189 [vR x, vL (sO f), none, vI y9, vI (f 1), vI 1, vI i, vI (num (NdW f i) (f 1)), vI (num (HasP f) (f 1))] [vI (num (HasP g) (f 1))] wd78 Q
                              refine WP.blk 4 ?_
                              show ir ((num (HasP f) (f 1)) - (num (NdW f i) (f 1))) ∧ WP 9 115 (if cnd .ne (num (HasP g) (f 1)) ((num (HasP f) (f 1)) - (num (NdW f i) (f 1))) = true then 208 else 197) [vR x, vL (sO f), none, vI y9, vI (f 1), vI 1, vI i, vI (num (NdW f i) (f 1)), vI (num (HasP f) (f 1))] [] wd78 Q
                              refine ⟨(by unfold ir; omega), ?_⟩
                              refine br_ne (fun c79 => ?_) (fun c79 => ?_)
                              · exfalso; omega
                              · refine WP.blk 1 ?_
                                show WP 9 115 198 [vR x, vL (sO f), none, vI y9, vI (f 1), vI 1, vI i, vI (num (NdW f i) (f 1)), vI (num (HasP f) (f 1))] [vR x] wd78 Q
                                refine WP.cl (a := [vR x]) (rest := []) rfl rfl rfl rfl trivial (by decide) (u_undo hh78 (Int.le_refl _) (fun wd80 hh80 sphh80 => ⟨rfl, ?_⟩))
                                show WP 9 115 201 [vR x, vL (sO f), none, vI y9, vI (f 1), vI 1, vI i, vI (num (NdW f i) (f 1)), vI (num (HasP f) (f 1))] [vI ((nsv sv9) - 1)] wd80 Q
                                refine WP.blk 1 ?_
                                show WP 9 115 (if cnd .lt ((nsv sv9) - 1) 0 = true then 208 else 204) [vR x, vL (sO f), none, vI y9, vI (f 1), vI 1, vI i, vI (num (NdW f i) (f 1)), vI (num (HasP f) (f 1))] [] wd80 Q
                                refine br_lt (fun c81 => ?_) (fun c81 => ?_)
                                · exfalso; have := nsv_r (ls_sv h_71); omega
                                · refine WP.blk 5 ?_
                                  show ir (i + (-1)) ∧ WP 9 115 71 [vR x, vL (sO f), none, vI y9, vI (f 1), vI 1, vI (i + (-1)), vI (num (NdW f i) (f 1)), vI (num (HasP f) (f 1))] [] wd80 Q
                                  refine ⟨(by unfold ir; omega), ?_⟩
                                  exact ih_71 (i + (-1)) ((nsv sv9) - 1) (vI (num (NdW f i) (f 1))) (vI (num (HasP f) (f 1))) wd80 (by omega) (by have hq := nsv_r (ls_sv h_71); omega) (ls_le hh80 (by omega)) (by omega)
                      · refine WP.blk 7 ?_
                        show WP 9 115 (if cnd .ne (iA (iR y9 i) 1) 1 = true then 153 else 125) [vR x, vL (sO f), none, vI y9, vI (f 1), vI 1, vI i, vI (num (NdW f i) (f 1)), a8_71] [] wd59 Q
                        refine br_ne (fun c82 => ?_) (fun c82 => ?_)
                        · exact absurd ((bs_bit (by omega) (by omega)).1 (m4 i (by omega) (by omega) (by omega))) c82
                        · refine WP.blk 3 ?_
                          show WP 9 115 (if cnd .eq y9 (-1) = true then 149 else 130) [vR x, vL (sO f), none, vI y9, vI (f 1), vI 1, vI i, vI (num (NdW f i) (f 1)), a8_71] [] wd59 Q
                          refine br_eq (fun c83 => ?_) (fun c83 => ?_)
                          · exfalso; omega
                          · refine WP.blk 6 ?_
                            show WP 9 115 (if cnd .eq (iA (iR y9 i) 1) 0 = true then 149 else 139) [vR x, vL (sO f), none, vI y9, vI (f 1), vI 1, vI i, vI (num (NdW f i) (f 1)), a8_71] [] wd59 Q
                            refine br_eq (fun c84 => ?_) (fun c84 => ?_)
                            · refine WP.blk 5 ?_
                              show WP 9 115 159 [vR x, vL (sO f), none, vI y9, vI (f 1), vI 1, vI i, vI (num (NdW f i) (f 1)), a8_71] [vI 8, vR x] wd59 Q
                              refine WP.cl (a := [vR x, vI 8]) (rest := []) rfl rfl rfl rfl trivial (by decide) (v_value hh59 (Int.le_refl _) vV_8 (fun wd85 hh85 => ⟨rfl, ?_⟩))
                              show WP 9 115 162 [vR x, vL (sO f), none, vI y9, vI (f 1), vI 1, vI i, vI (num (NdW f i) (f 1)), a8_71] [vI (num (HasP f) (f 1))] wd85 Q
                              refine WP.blk 5 ?_
                              show WP 9 115 172 [vR x, vL (sO f), none, vI y9, vI (f 1), vI 1, vI i, vI (num (NdW f i) (f 1)), vI (num (HasP f) (f 1))] [vI i, vR x] wd85 Q
                              refine WP.cl (a := [vR x, vI i]) (rest := []) rfl rfl rfl rfl trivial (by decide) (u_remove hh85 (Int.le_refl _) (Nat.le_of_ble_eq_true rfl) (fun wd86 hh86 hrm => ⟨rfl, ?_⟩) (fun _ _ z => absurd (show 0 ≤ i ∧ i < f 0 by omega) z))
                              show WP 9 115 175 [vR x, vL (sO f), none, vI y9, vI (f 1), vI 1, vI i, vI (num (NdW f i) (f 1)), vI (num (HasP f) (f 1))] [vI (f 0 - 1)] wd86 Q
                              have g8 := rem_num hR hrm
                              have g0 : remR f i 0 = f 0 - 1 := remR_0
                              have g1 : remR f i 1 = f 1 := remR_lo (by omega) (by omega)
                              obtain ⟨g, hg⟩ : ∃ g, g = remR f i := ⟨_, rfl⟩
                              rw [← hg] at hh86 g0 g1 g8
                              refine WP.blk 2 ?_
                              show WP 9 115 177 [vR x, vL (sO f), none, vI y9, vI (f 1), vI 1, vI i, vI (num (NdW f i) (f 1)), vI (num (HasP f) (f 1))] [vI 0, vR x, vI (f 0 - 1)] wd86 Q
                              refine WP.cl (a := [vR x, vI 0]) (rest := [vI (f 0 - 1)]) rfl rfl rfl rfl trivial (by decide) (v_value hh86 (Int.le_refl _) (vV_lo (by omega)) (fun wd87 hh87 => ⟨rfl, ?_⟩))
                              show WP 9 115 180 [vR x, vL (sO f), none, vI y9, vI (f 1), vI 1, vI i, vI (num (NdW f i) (f 1)), vI (num (HasP f) (f 1))] [vI (g 0), vI (f 0 - 1)] wd87 Q
                              refine WP.blk 1 ?_
                              show WP 9 115 (if cnd .ne (f 0 - 1) (g 0) = true then 208 else 183) [vR x, vL (sO f), none, vI y9, vI (f 1), vI 1, vI i, vI (num (NdW f i) (f 1)), vI (num (HasP f) (f 1))] [] wd87 Q
                              refine br_ne (fun c88 => ?_) (fun c88 => ?_)
                              · exfalso; omega
                              · refine WP.blk 2 ?_
                                show WP 9 115 186 [vR x, vL (sO f), none, vI y9, vI (f 1), vI 1, vI i, vI (num (NdW f i) (f 1)), vI (num (HasP f) (f 1))] [vI 8, vR x] wd87 Q
                                refine WP.cl (a := [vR x, vI 8]) (rest := []) rfl rfl rfl rfl trivial (by decide) (v_value hh87 (Int.le_refl _) (vV_8.trans (by rw [g1])) (fun wd89 hh89 => ⟨rfl, ?_⟩))
                                show WP 9 115 189 [vR x, vL (sO f), none, vI y9, vI (f 1), vI 1, vI i, vI (num (NdW f i) (f 1)), vI (num (HasP f) (f 1))] [vI (num (HasP g) (f 1))] wd89 Q
                                refine WP.blk 4 ?_
                                show ir ((num (HasP f) (f 1)) - (num (NdW f i) (f 1))) ∧ WP 9 115 (if cnd .ne (num (HasP g) (f 1)) ((num (HasP f) (f 1)) - (num (NdW f i) (f 1))) = true then 208 else 197) [vR x, vL (sO f), none, vI y9, vI (f 1), vI 1, vI i, vI (num (NdW f i) (f 1)), vI (num (HasP f) (f 1))] [] wd89 Q
                                refine ⟨(by unfold ir; omega), ?_⟩
                                refine br_ne (fun c90 => ?_) (fun c90 => ?_)
                                · exfalso; omega
                                · refine WP.blk 1 ?_
                                  show WP 9 115 198 [vR x, vL (sO f), none, vI y9, vI (f 1), vI 1, vI i, vI (num (NdW f i) (f 1)), vI (num (HasP f) (f 1))] [vR x] wd89 Q
                                  refine WP.cl (a := [vR x]) (rest := []) rfl rfl rfl rfl trivial (by decide) (u_undo hh89 (Int.le_refl _) (fun wd91 hh91 sphh91 => ⟨rfl, ?_⟩))
                                  show WP 9 115 201 [vR x, vL (sO f), none, vI y9, vI (f 1), vI 1, vI i, vI (num (NdW f i) (f 1)), vI (num (HasP f) (f 1))] [vI ((nsv sv9) - 1)] wd91 Q
                                  refine WP.blk 1 ?_
                                  show WP 9 115 (if cnd .lt ((nsv sv9) - 1) 0 = true then 208 else 204) [vR x, vL (sO f), none, vI y9, vI (f 1), vI 1, vI i, vI (num (NdW f i) (f 1)), vI (num (HasP f) (f 1))] [] wd91 Q
                                  refine br_lt (fun c92 => ?_) (fun c92 => ?_)
                                  · exfalso; have := nsv_r (ls_sv h_71); omega
                                  · refine WP.blk 5 ?_
                                    show ir (i + (-1)) ∧ WP 9 115 71 [vR x, vL (sO f), none, vI y9, vI (f 1), vI 1, vI (i + (-1)), vI (num (NdW f i) (f 1)), vI (num (HasP f) (f 1))] [] wd91 Q
                                    refine ⟨(by unfold ir; omega), ?_⟩
                                    exact ih_71 (i + (-1)) ((nsv sv9) - 1) (vI (num (NdW f i) (f 1))) (vI (num (HasP f) (f 1))) wd91 (by omega) (by have hq := nsv_r (ls_sv h_71); omega) (ls_le hh91 (by omega)) (by omega)
                            · have hb1 := bs_bit (x := y9) (s := i) (by omega) (by omega)
                              have hnw := (m3.2.1 i (by omega) (by omega) (hb1.2.1 (by have := hb1.2.2; omega))).2
                              refine WP.blk 3 ?_
                              show WP 9 115 143 [vR x, vL (sO f), none, vI y9, vI (f 1), vI 1, vI i, vI (num (NdW f i) (f 1)), a8_71] [vI 5, vI i, vR x] wd59 Q
                              refine WP.cl (a := [vR x, vI i, vI 5]) (rest := []) rfl rfl rfl rfl trivial (by decide) (v_stamp hh59 (Int.le_refl _) (sV_5f (by omega) hnw) (fun wd93 hh93 => ⟨rfl, ?_⟩))
                              show WP 9 115 146 [vR x, vL (sO f), none, vI y9, vI (f 1), vI 1, vI i, vI (num (NdW f i) (f 1)), a8_71] [vI 0] wd93 Q
                              refine WP.blk 6 ?_
                              show WP 9 115 159 [vR x, vL (sO f), none, vI y9, vI (f 1), vI 1, vI i, vI (num (NdW f i) (f 1)), a8_71] [vI 8, vR x] wd93 Q
                              refine WP.cl (a := [vR x, vI 8]) (rest := []) rfl rfl rfl rfl trivial (by decide) (v_value hh93 (Int.le_refl _) vV_8 (fun wd94 hh94 => ⟨rfl, ?_⟩))
                              show WP 9 115 162 [vR x, vL (sO f), none, vI y9, vI (f 1), vI 1, vI i, vI (num (NdW f i) (f 1)), a8_71] [vI (num (HasP f) (f 1))] wd94 Q
                              refine WP.blk 5 ?_
                              show WP 9 115 172 [vR x, vL (sO f), none, vI y9, vI (f 1), vI 1, vI i, vI (num (NdW f i) (f 1)), vI (num (HasP f) (f 1))] [vI i, vR x] wd94 Q
                              refine WP.cl (a := [vR x, vI i]) (rest := []) rfl rfl rfl rfl trivial (by decide) (u_remove hh94 (Int.le_refl _) (Nat.le_of_ble_eq_true rfl) (fun wd95 hh95 hrm => ⟨rfl, ?_⟩) (fun _ _ z => absurd (show 0 ≤ i ∧ i < f 0 by omega) z))
                              show WP 9 115 175 [vR x, vL (sO f), none, vI y9, vI (f 1), vI 1, vI i, vI (num (NdW f i) (f 1)), vI (num (HasP f) (f 1))] [vI (f 0 - 1)] wd95 Q
                              have g8 := rem_num hR hrm
                              have g0 : remR f i 0 = f 0 - 1 := remR_0
                              have g1 : remR f i 1 = f 1 := remR_lo (by omega) (by omega)
                              obtain ⟨g, hg⟩ : ∃ g, g = remR f i := ⟨_, rfl⟩
                              rw [← hg] at hh95 g0 g1 g8
                              refine WP.blk 2 ?_
                              show WP 9 115 177 [vR x, vL (sO f), none, vI y9, vI (f 1), vI 1, vI i, vI (num (NdW f i) (f 1)), vI (num (HasP f) (f 1))] [vI 0, vR x, vI (f 0 - 1)] wd95 Q
                              refine WP.cl (a := [vR x, vI 0]) (rest := [vI (f 0 - 1)]) rfl rfl rfl rfl trivial (by decide) (v_value hh95 (Int.le_refl _) (vV_lo (by omega)) (fun wd96 hh96 => ⟨rfl, ?_⟩))
                              show WP 9 115 180 [vR x, vL (sO f), none, vI y9, vI (f 1), vI 1, vI i, vI (num (NdW f i) (f 1)), vI (num (HasP f) (f 1))] [vI (g 0), vI (f 0 - 1)] wd96 Q
                              refine WP.blk 1 ?_
                              show WP 9 115 (if cnd .ne (f 0 - 1) (g 0) = true then 208 else 183) [vR x, vL (sO f), none, vI y9, vI (f 1), vI 1, vI i, vI (num (NdW f i) (f 1)), vI (num (HasP f) (f 1))] [] wd96 Q
                              refine br_ne (fun c97 => ?_) (fun c97 => ?_)
                              · exfalso; omega
                              · refine WP.blk 2 ?_
                                show WP 9 115 186 [vR x, vL (sO f), none, vI y9, vI (f 1), vI 1, vI i, vI (num (NdW f i) (f 1)), vI (num (HasP f) (f 1))] [vI 8, vR x] wd96 Q
                                refine WP.cl (a := [vR x, vI 8]) (rest := []) rfl rfl rfl rfl trivial (by decide) (v_value hh96 (Int.le_refl _) (vV_8.trans (by rw [g1])) (fun wd98 hh98 => ⟨rfl, ?_⟩))
                                show WP 9 115 189 [vR x, vL (sO f), none, vI y9, vI (f 1), vI 1, vI i, vI (num (NdW f i) (f 1)), vI (num (HasP f) (f 1))] [vI (num (HasP g) (f 1))] wd98 Q
                                refine WP.blk 4 ?_
                                show ir ((num (HasP f) (f 1)) - (num (NdW f i) (f 1))) ∧ WP 9 115 (if cnd .ne (num (HasP g) (f 1)) ((num (HasP f) (f 1)) - (num (NdW f i) (f 1))) = true then 208 else 197) [vR x, vL (sO f), none, vI y9, vI (f 1), vI 1, vI i, vI (num (NdW f i) (f 1)), vI (num (HasP f) (f 1))] [] wd98 Q
                                refine ⟨(by unfold ir; omega), ?_⟩
                                refine br_ne (fun c99 => ?_) (fun c99 => ?_)
                                · exfalso; omega
                                · refine WP.blk 1 ?_
                                  show WP 9 115 198 [vR x, vL (sO f), none, vI y9, vI (f 1), vI 1, vI i, vI (num (NdW f i) (f 1)), vI (num (HasP f) (f 1))] [vR x] wd98 Q
                                  refine WP.cl (a := [vR x]) (rest := []) rfl rfl rfl rfl trivial (by decide) (u_undo hh98 (Int.le_refl _) (fun wd100 hh100 sphh100 => ⟨rfl, ?_⟩))
                                  show WP 9 115 201 [vR x, vL (sO f), none, vI y9, vI (f 1), vI 1, vI i, vI (num (NdW f i) (f 1)), vI (num (HasP f) (f 1))] [vI ((nsv sv9) - 1)] wd100 Q
                                  refine WP.blk 1 ?_
                                  show WP 9 115 (if cnd .lt ((nsv sv9) - 1) 0 = true then 208 else 204) [vR x, vL (sO f), none, vI y9, vI (f 1), vI 1, vI i, vI (num (NdW f i) (f 1)), vI (num (HasP f) (f 1))] [] wd100 Q
                                  refine br_lt (fun c101 => ?_) (fun c101 => ?_)
                                  · exfalso; have := nsv_r (ls_sv h_71); omega
                                  · refine WP.blk 5 ?_
                                    show ir (i + (-1)) ∧ WP 9 115 71 [vR x, vL (sO f), none, vI y9, vI (f 1), vI 1, vI (i + (-1)), vI (num (NdW f i) (f 1)), vI (num (HasP f) (f 1))] [] wd100 Q
                                    refine ⟨(by unfold ir; omega), ?_⟩
                                    exact ih_71 (i + (-1)) ((nsv sv9) - 1) (vI (num (NdW f i) (f 1))) (vI (num (HasP f) (f 1))) wd100 (by omega) (by have hq := nsv_r (ls_sv h_71); omega) (ls_le hh100 (by omega)) (by omega)
          exact hl_71 _ ((f 0) - 1) sv none none wd34 (by omega) (by omega) (ls_le hh34 (by omega)) (Nat.lt_succ_self _)
        · exfalso; omega
      · exfalso; omega
