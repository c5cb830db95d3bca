theorem ord_ink {S : SD} {o : Nat} {d : Int} (h : isOrd S o) (hd : 0 ≤ d ∧ d < 8) : sR S (o + 1) d = o + 6 + 4 * d.toNat ∧ isInks S (o + 6 + 4 * d.toNat) := by
  obtain ⟨n, rfl⟩ := Int.eq_ofNat_of_zero_le hd.1
  have := h.2.2.1 n (by omega)
  rw [Int.toNat_natCast]
  exact this
theorem ord_pln {S : SD} {o : Nat} {w : Int} (h : isOrd S o) (hw : 0 ≤ w ∧ w < 7) : sR S (o + 2) w = o + 38 + 4 * w.toNat ∧ isPlan S (o + 38 + 4 * w.toNat) := by
  obtain ⟨n, rfl⟩ := Int.eq_ofNat_of_zero_le hw.1
  have := h.2.2.2 n (by omega)
  rw [Int.toNat_natCast]
  exact this
set_option maxHeartbeats 4000000 in
theorem k_wordAt {S : SD} {M : Nat → Int → Int} {x : Nat} {i : Int} (hS : isRub S x) (hi : 0 ≤ i ∧ i < 7) {Q : Res → Wd → Prop} (k : Q (0, vI (M (x + 91) i)) (M, S)) : EvQ 1 28 [vR (x + 86), vI i] (M, S) Q := by
  refine EvQ.enter (ls := [vR (x + 86), vI i]) (Nat.le_of_ble_eq_true rfl) rfl ?_
  refine WP.blk 2 ?_
  show WP 0 28 (if cnd .lt i 0 = true then 19 else 4) [vR (x + 86), vI i] [] (M, S) Q
  refine br_lt (fun c_1 => ?_) (fun c_1 => ?_)
  · refine WP.blk 1 ?_
    show WP 0 28 20 [vR (x + 86), vI i] [vI (-1)] (M, S) Q
    exact WP.ret rfl rfl rfl trivial (by exfalso; omega)
  · refine WP.blk 3 ?_
    show WP 0 28 (if cnd .ge i 7 = true then 19 else 10) [vR (x + 86), vI i] [] (M, S) Q
    refine br_ge (fun c_2 => ?_) (fun c_2 => ?_)
    · refine WP.blk 1 ?_
      show WP 0 28 20 [vR (x + 86), vI i] [vI (-1)] (M, S) Q
      exact WP.ret rfl rfl rfl trivial (by exfalso; omega)
    · refine WP.blk 2 ?_
      show (sT S (x + 86) = 5 ∧ sR S (x + 86) 4 ≠ 0) ∧ WP 0 28 14 [vR (x + 86), vI i] [vR (sR S (x + 86) 4)] (M, S) Q
      refine ⟨⟨hS.2.2.2.2.2.2.2.1.1.1, by rw [(show sR S (x + 86) 4 = x + 91 from hS.2.2.2.2.2.2.2.1.1.2.2.2.2.2)]; omega⟩, ?_⟩
      rw [(show sR S (x + 86) 4 = x + 91 from hS.2.2.2.2.2.2.2.1.1.2.2.2.2.2)]
      refine WP.blk 3 ?_
      show ((sT S (x + 91) = 11 ∨ sT S (x + 91) = 16 ∨ sT S (x + 91) = 17) ∧ 0 ≤ i ∧ i < (sN S (x + 91) : Int)) ∧ WP 0 28 20 [vR (x + 86), vI i] [vI (M (x + 91) i)] (M, S) Q
      refine ⟨⟨Or.inl hS.2.2.2.2.2.2.2.1.2.1.2.2.2.2.2.2.2.2.1, by omega, by rw [(show sN S (x + 91) = 7 from hS.2.2.2.2.2.2.2.1.2.1.2.2.2.2.2.2.2.2.2)]; omega⟩, ?_⟩
      exact WP.ret rfl rfl rfl trivial k
set_option maxHeartbeats 4000000 in
theorem k_keep {S : SD} {M : Nat → Int → Int} {x : Nat} {d : Int} (hS : isRub S x) (hd : 0 ≤ d ∧ d ≤ 7) {Q : Res → Wd → Prop} (k : ∀ M2 : Nat → Int → Int, (∀ q9, q9 ≠ x + 86 → q9 ≠ x + 91 → M2 q9 = M q9) → M2 (x + 86) = uf (M (x + 86)) 6 (M (x + 92 + 4 * d.toNat) 5) → M2 (x + 91) = rcp (M (x + 90)) 0 (M (x + 91)) 0 7 → Q (0, none) (M2, S)) : EvQ 1 31 [vR (x + 86), vI d] (M, S) Q := by
  refine EvQ.enter (ls := [vR (x + 86), vI d]) (Nat.le_of_ble_eq_true rfl) rfl ?_
  obtain ⟨o, ho⟩ : ∃ y9, M (x + 86) = y9 := ⟨_, rfl⟩
  obtain ⟨t, ht⟩ : ∃ y9, M (x + 90) = y9 := ⟨_, rfl⟩
  obtain ⟨b, hb⟩ : ∃ y9, M (x + 91) = y9 := ⟨_, rfl⟩
  obtain ⟨j1, hj1⟩ : ∃ j1, j1 = x + 92 + 4 * d.toNat := ⟨_, rfl⟩
  have hio := ord_ink hS.2.2.2.2.2.2.2.1 (d := d) (by omega)
  rw [show x + 86 + 6 + 4 * d.toNat = j1 by omega] at hio
  rw [← hj1] at k
  rw [ho, ht, hb] at k
  refine WP.blk 2 ?_
  show WP 0 31 (if cnd .lt d 0 = true then 47 else 4) [vR (x + 86), vI d] [] (M, S) Q
  refine br_lt (fun c_1 => ?_) (fun c_1 => ?_)
  · exact WP.ret rfl rfl rfl trivial (by exfalso; omega)
  · refine WP.blk 3 ?_
    show WP 0 31 (if cnd .gt d 7 = true then 47 else 10) [vR (x + 86), vI d] [] (M, S) Q
    refine br_gt (fun c_2 => ?_) (fun c_2 => ?_)
    · exact WP.ret rfl rfl rfl trivial (by exfalso; omega)
    · refine WP.blk 2 ?_
      show (sT S (x + 86) = 5 ∧ sR S (x + 86) 0 ≠ 0) ∧ WP 0 31 14 [vR (x + 86), vI d] [vR (sR S (x + 86) 0)] (M, S) Q
      refine ⟨⟨hS.2.2.2.2.2.2.2.1.1.1, by rw [(show sR S (x + 86) 0 = x + 87 from hS.2.2.2.2.2.2.2.1.1.2.1)]; omega⟩, ?_⟩
      rw [(show sR S (x + 86) 0 = x + 87 from hS.2.2.2.2.2.2.2.1.1.2.1)]
      refine WP.blk 2 ?_
      show (ref3 (sT S (x + 87)) ∧ 0 ≤ d ∧ d < (sN S (x + 87) : Int) ∧ sR S (x + 87) d ≠ 0) ∧ WP 0 31 16 [vR (x + 86), vI d] [vR (sR S (x + 87) d)] (M, S) Q
      refine ⟨⟨(Or.inr (Or.inl hS.2.2.2.2.2.2.2.1.2.1.1)), by omega, by rw [(show sN S (x + 87) = 8 from hS.2.2.2.2.2.2.2.1.2.1.2.1)]; omega, by rw [(show sR S (x + 87) d = j1 from hio.1)]; omega⟩, ?_⟩
      rw [(show sR S (x + 87) d = j1 from hio.1)]
      refine WP.blk 4 ?_
      show (sT S (x + 86) = 5 ∧ sR S (x + 86) 0 ≠ 0) ∧ WP 0 31 24 [vR (x + 86), vI d] [vR (sR S (x + 86) 0), vR (x + 86)] (M, S) Q
      refine ⟨⟨hS.2.2.2.2.2.2.2.1.1.1, by rw [(show sR S (x + 86) 0 = x + 87 from hS.2.2.2.2.2.2.2.1.1.2.1)]; omega⟩, ?_⟩
      rw [(show sR S (x + 86) 0 = x + 87 from hS.2.2.2.2.2.2.2.1.1.2.1)]
      refine WP.blk 2 ?_
      show (ref3 (sT S (x + 87)) ∧ 0 ≤ d ∧ d < (sN S (x + 87) : Int) ∧ sR S (x + 87) d ≠ 0) ∧ WP 0 31 26 [vR (x + 86), vI d] [vR (sR S (x + 87) d), vR (x + 86)] (M, S) Q
      refine ⟨⟨(Or.inr (Or.inl hS.2.2.2.2.2.2.2.1.2.1.1)), by omega, by rw [(show sN S (x + 87) = 8 from hS.2.2.2.2.2.2.2.1.2.1.2.1)]; omega, by rw [(show sR S (x + 87) d = j1 from hio.1)]; omega⟩, ?_⟩
      rw [(show sR S (x + 87) d = j1 from hio.1)]
      refine WP.blk 2 ?_
      show sT S j1 = 4 ∧ sT S (x + 86) = 5 ∧ WP 0 31 32 [vR (x + 86), vI d] [] (up M (x + 86) 6 (M j1 5), S) Q
      refine ⟨hio.2.1, hS.2.2.2.2.2.2.2.1.1.1, ?_⟩
      generalize hM_3 : up M (x + 86) 6 (M j1 5) = M_3
      obtain ⟨g_5, hg_5⟩ : ∃ y9, y9 = uf o 6 (M j1 5) := ⟨_, rfl⟩
      have r_4 : M_3 (x + 86) = g_5 := by rw [← hM_3, hg_5, up_self, ho]
      have r_6 : M_3 (x + 90) = t := by rw [← hM_3]; exact (up_row (by omega)).trans ht
      have r_7 : M_3 (x + 91) = b := by rw [← hM_3]; exact (up_row (by omega)).trans hb
      have fr_8 : (∀ q9, q9 ≠ x + 86 → q9 ≠ x + 91 → M_3 q9 = M q9) := fun q9 q0 q1 => by rw [← hM_3]; exact (up_row (by omega)).trans ((fun _ _ _ => rfl) q9 q0 q1)
      refine WP.blk 2 ?_
      show (sT S (x + 86) = 5 ∧ sR S (x + 86) 3 ≠ 0) ∧ WP 0 31 36 [vR (x + 86), vI d] [vR (sR S (x + 86) 3)] (M_3, S) Q
      refine ⟨⟨hS.2.2.2.2.2.2.2.1.1.1, by rw [(show sR S (x + 86) 3 = x + 90 from hS.2.2.2.2.2.2.2.1.1.2.2.2.2.1)]; omega⟩, ?_⟩
      rw [(show sR S (x + 86) 3 = x + 90 from hS.2.2.2.2.2.2.2.1.1.2.2.2.2.1)]
      refine WP.blk 3 ?_
      show (sT S (x + 86) = 5 ∧ sR S (x + 86) 4 ≠ 0) ∧ WP 0 31 41 [vR (x + 86), vI d] [vR (sR S (x + 86) 4), vI 0, vR (x + 90)] (M_3, S) Q
      refine ⟨⟨hS.2.2.2.2.2.2.2.1.1.1, by rw [(show sR S (x + 86) 4 = x + 91 from hS.2.2.2.2.2.2.2.1.1.2.2.2.2.2)]; omega⟩, ?_⟩
      rw [(show sR S (x + 86) 4 = x + 91 from hS.2.2.2.2.2.2.2.1.1.2.2.2.2.2)]
      refine WP.blk 3 ?_
      show (sT S (x + 90) = 11 ∧ sT S (x + 91) = 11 ∧ 0 ≤ 0 ∧ 0 ≤ 0 ∧ 0 ≤ 7 ∧ 0 + 7 ≤ (sN S (x + 90) : Int) ∧ 0 + 7 ≤ (sN S (x + 91) : Int)) ∧ WP 0 31 47 [vR (x + 86), vI d] [] (cpy M_3 (x + 90) 0 (x + 91) 0 7, S) Q
      refine ⟨⟨hS.2.2.2.2.2.2.2.1.2.1.2.2.2.2.2.2.1, hS.2.2.2.2.2.2.2.1.2.1.2.2.2.2.2.2.2.2.1, by omega, by omega, by omega, by rw [(show sN S (x + 90) = 7 from hS.2.2.2.2.2.2.2.1.2.1.2.2.2.2.2.2.2.1)]; omega, by rw [(show sN S (x + 91) = 7 from hS.2.2.2.2.2.2.2.1.2.1.2.2.2.2.2.2.2.2.2)]; omega⟩, ?_⟩
      generalize hM_9 : cpy M_3 (x + 90) 0 (x + 91) 0 7 = M_9
      have r_10 : M_9 (x + 86) = g_5 := by rw [← hM_9]; exact (cpy_row (by omega)).trans r_4
      have r_11 : M_9 (x + 90) = t := by rw [← hM_9]; exact (cpy_row (by omega)).trans r_6
      obtain ⟨g_13, hg_13⟩ : ∃ y9, y9 = rcp t 0 b 0 7 := ⟨_, rfl⟩
      have r_12 : M_9 (x + 91) = g_13 := by rw [← hM_9, hg_13, cpy_self, r_7, r_6]
      have fr_14 : (∀ q9, q9 ≠ x + 86 → q9 ≠ x + 91 → M_9 q9 = M q9) := fun q9 q0 q1 => by rw [← hM_9]; exact (cpy_row (by omega)).trans (fr_8 q9 q0 q1)
      exact WP.ret rfl rfl rfl trivial (k _ fr_14 (by rw [r_10, hg_5]) (by rw [r_12, hg_13]))
theorem plF_use {M : Nat → Int → Int} {x p : Nat} {f g : Int → Int} {w u xg : Int} (h : PlF M x f w) (hu : M (x + 89) w = u) (h0 : 0 ≤ u) (hx : Fresh g xg) (hux : Ux xg u) (hp : p = x + 124 + 4 * w.toNat) : PlnR M p f w xg := by
  subst hp
  rcases h with h | ⟨y, a, b, c⟩
  · omega
  · rw [hu] at b
    rw [ux_x ⟨hx.1, hx.2.1⟩ a hux b]
    exact c
set_option maxHeartbeats 4000000 in
theorem k_advT {S : SD} {M : Nat → Int → Int} {x : Nat} {f : Int → Int} {B : Int} {t : Int → Int} {d w xg u9 : Int} {j1 j2 pw : Nat} (hS : isRub S x) (has : AskR M x f) (hx3 : 3 ≤ x) (hR : RowOk B f) (hos : OS M x f d t) (hd : 0 ≤ d ∧ d < f 1) (hw : 0 ≤ w ∧ w < f 1) (hj1 : j1 = x + 92 + 4 * d.toNat) (hj2 : j2 = x + 96 + 4 * d.toNat) (hpw0 : pw = x + 124 + 4 * w.toNat) (hB : 0 ≤ B ∧ B ≤ 1000000000 - 400) (hxg : Fresh (sq f t d) xg) (huu9 : Ux xg u9) (hpfu9 : M (x + 89) w = u9) (hpn9 : PlnR M pw f w xg) (hnt : ∀ j, 0 ≤ j → j < d → ¬ t j = w) {Q : Res → Wd → Prop} (k : ∀ (b : Int) (M2 : Nat → Int → Int), (∀ q9, q9 ≠ x + 86 → q9 ≠ x + 89 → q9 ≠ x + 90 → (q9 < j2 ∨ j2 + 4 ≤ q9) → (q9 < pw ∨ pw + 4 ≤ q9) → M2 q9 = M q9) → (b = 1 ∧ OS M2 x f (d + 1) (uf t d w) ∧ M2 (x + 86) 6 = M (x + 86) 6 ∧ (M (x + 86) 6 = -1 ∨ wrote (sq f t d) w 6 < M (x + 86) 6) ∧ ∀ j, 0 ≤ j → j < d → ¬ t j = w) ∨ (b = 0 ∧ OS M2 x f d t ∧ M2 (x + 86) 6 = M (x + 86) 6 ∧ AdvN f t d w (M (x + 86) 6)) → Q (0, vI b) (M2, S)) : WP 5 30 120 [vR (x + 86), vR (x + 2), vR (x + 76), vI d, vI w, vR j1, vR j2, vR pw, vI u9] [] (M, S) Q := by
  obtain ⟨o, ho⟩ : ∃ y9, M (x + 86) = y9 := ⟨_, rfl⟩
  obtain ⟨pf, hpf⟩ : ∃ y9, M (x + 89) = y9 := ⟨_, rfl⟩
  obtain ⟨tr, htr⟩ : ∃ y9, M (x + 90) = y9 := ⟨_, rfl⟩
  have hA := hR.1
  have hA1 := hA.1
  have hWA := hR.2.1
  have hW1 := hWA.1
  obtain ⟨os1, os2, os3, os4, os5⟩ := hos
  obtain ⟨hRg, hio, hb1, hb2⟩ := sq_big hR hB (by omega) hd os2 hw
  have hib := os3 d hd.1 (Int.le_refl _)
  rw [← hj1] at hib
  have hAg := hRg.1
  have hAg1 := hAg.1
  have hg0 := hio.1
  have hg1 := hio.2.1
  have hIg := hRg.2.2
  have hshl := io_shl hio (by omega) has.1.1
  have hwg := (hRg.2.1.2 w hw.1 (by omega)).1
  have hcolg : 0 ≤ f (97 + 14 * w + 1) ∧ f (97 + 14 * w + 1) ≤ 3 := (hWA.2 w hw.1 hw.2).2
  have hcg : sq f t d (97 + 14 * w + 1) = f (97 + 14 * w + 1) := hio.2.2.2.2.2 _ (by omega)
  have hlim : f 2 = sq f t d 2 := hio.2.2.1.symm
  have hld : f 3 = sq f t d 3 := hio.2.2.2.1.symm
  have hWrg : ∀ s, 0 ≤ s → s < sq f t d 0 → 0 ≤ sq f t d (7 + 9 * s + 8) ∧ sq f t d (7 + 9 * s + 8) ≤ 1000000000 := fun s a b => ⟨(hIg.1 s a b).2.2.1, by have := (hIg.1 s a b).2.2.2; omega⟩
  have hi1 := ord_ink hS.2.2.2.2.2.2.2.1 (d := d) (by omega)
  have hi2 := ord_ink hS.2.2.2.2.2.2.2.1 (d := d + 1) (by omega)
  have hpi := ord_pln hS.2.2.2.2.2.2.2.1 (w := w) (by omega)
  rw [show x + 86 + 6 + 4 * d.toNat = j1 by omega] at hi1
  rw [show x + 86 + 6 + 4 * (d + 1).toNat = j2 by omega] at hi2
  rw [show x + 86 + 38 + 4 * w.toNat = pw by omega] at hpi
  have htk := otk_n os4 (show 0 ≤ w ∧ w < 7 by omega)
  rw [ho] at htk
  have hpl0 := os5 w hw.1 hw.2
  have hpfu : pf w = u9 := by rw [← hpf]; exact hpfu9
  refine WP.blk 4 ?_
  show sT S (x + 2) = 8 ∧ WP 5 30 128 [vR (x + 86), vR (x + 2), vR (x + 76), vI d, vI w, vR j1, vR j2, vR pw, vI u9] [vI (M (x + 2) 4), vR j1, vR pw] (M, S) Q
  rw [has.1.1.2.2.2.1]
  refine ⟨hS.2.1.1, ?_⟩
  refine WP.cl (a := [vR pw, vR j1, vI (f 2)]) (rest := []) rfl rfl rfl rfl ⟨hpi.2.1, trivial⟩ (by decide) (k_possible hpi.2 hi1.2 hib hAg hwg hxg (plnR_io hio hA (hWA.2 w (by omega) (by omega)).1 hpn9) hlim hWrg (fun q1 hq1 => ⟨rfl, ?_⟩))
  show WP 5 30 131 [vR (x + 86), vR (x + 2), vR (x + 76), vI d, vI w, vR j1, vR j2, vR pw, vI u9] [vI q1] (M, S) Q
  replace hq1 : PosR M pw (sq f t d) w q1 := hq1
  have hz1 := posR_b hq1
  refine WP.blk 1 ?_
  show WP 5 30 (if cnd .ne q1 0 = true then 136 else 134) [vR (x + 86), vR (x + 2), vR (x + 76), vI d, vI w, vR j1, vR j2, vR pw, vI u9] [] (M, S) Q
  refine br_ne (fun c_2 => ?_) (fun c_2 => ?_)
  · obtain ⟨nw, cw, hcan, hpw1, hpw2⟩ := posR_t hq1 (by omega)
    have hpw9 : PlnW M pw cw nw := ⟨hpw1, hpw2⟩
    clear hpw1 hpw2
    have hpl := wrt_pl hAg hwg hcan
    have hpl1 := hpl.1
    refine WP.blk 2 ?_
    show WP 5 30 140 [vR (x + 86), vR (x + 2), vR (x + 76), vI d, vI w, vR j1, vR j2, vR pw, vI u9] [vR j1, vR j2] (M, S) Q
    refine WP.cl (a := [vR j2, vR j1]) (rest := []) rfl rfl rfl rfl ⟨hi2.2.1, trivial⟩ (by decide) (k_copyInks hi2.2 hi1.2 (by omega) hib (by omega) (fun My_3 fry_3 hky_3 => ⟨rfl, ?_⟩))
    show WP 5 30 143 [vR (x + 86), vR (x + 2), vR (x + 76), vI d, vI w, vR j1, vR j2, vR pw, vI u9] [] (My_3, S) Q
    have r_4 : My_3 (x + 86) = o := (fry_3 _ (by omega)).trans ho
    have r_5 : My_3 (x + 89) = pf := (fry_3 _ (by omega)).trans hpf
    have r_6 : My_3 (x + 90) = tr := (fry_3 _ (by omega)).trans htr
    have F_7 : AskR My_3 x f := AskR_fr (fun r9 h7 h8 h9 => fry_3 r9 (by omega)) has
    have F_8 : InkR My_3 j1 (sq f t d) := InkR_fr (fun r9 h8 h9 => fry_3 r9 (by omega)) hib
    have F_9 : PlnR My_3 pw f w xg := PlnR_fr (fun r9 h8 h9 => fry_3 r9 (by omega)) hpn9
    have F_10 : PlnW My_3 pw cw nw := PlnW_fr (fun r9 h8 h9 => fry_3 r9 (by omega)) hpw9
    have fr_11 : (∀ q9, q9 ≠ x + 86 → q9 ≠ x + 89 → q9 ≠ x + 90 → (q9 < j2 ∨ j2 + 4 ≤ q9) → (q9 < pw ∨ pw + 4 ≤ q9) → My_3 q9 = M q9) := fun q9 q0 q1 q2 q3 q4 => (fry_3 q9 (by omega)).trans ((fun _ _ _ _ _ _ => rfl) q9 q0 q1 q2 q3 q4)
    refine WP.blk 4 ?_
    show WP 5 30 150 [vR (x + 86), vR (x + 2), vR (x + 76), vI d, vI w, vR j1, vR j2, vR pw, vI u9] [vI w, vR (x + 2), vR j2, vR pw] (My_3, S) Q
    refine WP.cl (a := [vR (x + 2), vI w]) (rest := [vR j2, vR pw]) rfl rfl rfl rfl ⟨hS.2.1.1, trivial⟩ (by decide) (k_colorOf hS.2.1 F_7.1.1.2.2.1 (by omega) (by omega) ⟨rfl, ?_⟩)
    show WP 5 30 153 [vR (x + 86), vR (x + 2), vR (x + 76), vI d, vI w, vR j1, vR j2, vR pw, vI u9] [vI (f (97 + 14 * w + 1)), vR j2, vR pw] (My_3, S) Q
    refine WP.blk 2 ?_
    show sT S (x + 2) = 8 ∧ WP 5 30 157 [vR (x + 86), vR (x + 2), vR (x + 76), vI d, vI w, vR j1, vR j2, vR pw, vI u9] [vI (My_3 (x + 2) 5), vI (f (97 + 14 * w + 1)), vR j2, vR pw] (My_3, S) Q
    rw [F_7.1.1.2.2.2.2]
    refine ⟨hS.2.1.1, ?_⟩
    refine WP.cl (a := [vR pw, vR j2, vI (f (97 + 14 * w + 1)), vI (f 3)]) (rest := []) rfl rfl rfl rfl ⟨hpi.2.1, trivial⟩ (by decide) (k_carryOut hpi.2 hi2.2 (by omega) hky_3 hRg (by omega) hcolg hld F_10.1 hpl1 F_10.2 hpl.2 (fun My_12 fry_12 hky_12 => ⟨rfl, ?_⟩))
    show WP 5 30 160 [vR (x + 86), vR (x + 2), vR (x + 76), vI d, vI w, vR j1, vR j2, vR pw, vI u9] [] (My_12, S) Q
    have hwy_12 : InkR My_12 j2 (wrote (sq f t d) w) := by rw [wrote_t hAg hwg hcan, hcg]; exact hky_12
    have r_13 : My_12 (x + 86) = o := (fry_12 _ (by omega)).trans r_4
    have r_14 : My_12 (x + 89) = pf := (fry_12 _ (by omega)).trans r_5
    have r_15 : My_12 (x + 90) = tr := (fry_12 _ (by omega)).trans r_6
    have F_16 : AskR My_12 x f := AskR_fr (fun r9 h7 h8 h9 => fry_12 r9 (by omega)) F_7
    have F_17 : InkR My_12 j1 (sq f t d) := InkR_fr (fun r9 h8 h9 => fry_12 r9 (by omega)) F_8
    have F_18 : PlnR My_12 pw f w xg := PlnR_fr (fun r9 h8 h9 => fry_12 r9 (by omega)) F_9
    have F_19 : PlnW My_12 pw cw nw := PlnW_fr (fun r9 h8 h9 => fry_12 r9 (by omega)) F_10
    have fr_20 : (∀ q9, q9 ≠ x + 86 → q9 ≠ x + 89 → q9 ≠ x + 90 → (q9 < j2 ∨ j2 + 4 ≤ q9) → (q9 < pw ∨ pw + 4 ≤ q9) → My_12 q9 = M q9) := fun q9 q0 q1 q2 q3 q4 => (fry_12 q9 (by omega)).trans (fr_11 q9 q0 q1 q2 q3 q4)
    refine WP.blk 4 ?_
    show sT S (x + 86) = 5 ∧ WP 5 30 (if cnd .eq (My_12 (x + 86) 6) (-1) = true then 182 else 168) [vR (x + 86), vR (x + 2), vR (x + 76), vI d, vI w, vR j1, vR j2, vR pw, vI u9] [] (My_12, S) Q
    rw [r_13]
    refine ⟨hS.2.2.2.2.2.2.2.1.1.1, ?_⟩
    refine br_eq (fun c_21 => ?_) (fun c_21 => ?_)
    · refine WP.blk 2 ?_
      show (sT S (x + 86) = 5 ∧ sR S (x + 86) 3 ≠ 0) ∧ WP 5 30 186 [vR (x + 86), vR (x + 2), vR (x + 76), vI d, vI w, vR j1, vR j2, vR pw, vI u9] [vR (sR S (x + 86) 3)] (My_12, S) Q
      refine ⟨⟨hS.2.2.2.2.2.2.2.1.1.1, by rw [(show sR S (x + 86) 3 = x + 90 from hS.2.2.2.2.2.2.2.1.1.2.2.2.2.1)]; omega⟩, ?_⟩
      rw [(show sR S (x + 86) 3 = x + 90 from hS.2.2.2.2.2.2.2.1.1.2.2.2.2.1)]
      refine WP.blk 3 ?_
      show (sT S (x + 90) = 11 ∧ 0 ≤ d ∧ d < (sN S (x + 90) : Int)) ∧ WP 5 30 190 [vR (x + 86), vR (x + 2), vR (x + 76), vI d, vI w, vR j1, vR j2, vR pw, vI u9] [] (up My_12 (x + 90) d w, S) Q
      refine ⟨⟨hS.2.2.2.2.2.2.2.1.2.1.2.2.2.2.2.2.1, by omega, by rw [(show sN S (x + 90) = 7 from hS.2.2.2.2.2.2.2.1.2.1.2.2.2.2.2.2.2.1)]; omega⟩, ?_⟩
      generalize hM_22 : up My_12 (x + 90) d w = M_22
      have r_23 : M_22 (x + 86) = o := by rw [← hM_22]; exact (up_row (by omega)).trans r_13
      have r_24 : M_22 (x + 89) = pf := by rw [← hM_22]; exact (up_row (by omega)).trans r_14
      obtain ⟨g_26, hg_26⟩ : ∃ y9, y9 = uf tr d w := ⟨_, rfl⟩
      have r_25 : M_22 (x + 90) = g_26 := by rw [← hM_22, hg_26, up_self, r_15]
      have F_27 : AskR M_22 x f := AskR_fr (fun r9 h7 h8 h9 => by rw [← hM_22]; exact up_row (by omega)) F_16
      have F_28 : InkR M_22 j1 (sq f t d) := InkR_fr (fun r9 h8 h9 => by rw [← hM_22]; exact up_row (by omega)) F_17
      have F_29 : PlnR M_22 pw f w xg := PlnR_fr (fun r9 h8 h9 => by rw [← hM_22]; exact up_row (by omega)) F_18
      have F_30 : PlnW M_22 pw cw nw := PlnW_fr (fun r9 h8 h9 => by rw [← hM_22]; exact up_row (by omega)) F_19
      have F_31 : InkR M_22 j2 (wrote (sq f t d) w) := InkR_fr (fun r9 h8 h9 => by rw [← hM_22]; exact up_row (by omega)) hwy_12
      have fr_32 : (∀ q9, q9 ≠ x + 86 → q9 ≠ x + 89 → q9 ≠ x + 90 → (q9 < j2 ∨ j2 + 4 ≤ q9) → (q9 < pw ∨ pw + 4 ≤ q9) → M_22 q9 = M q9) := fun q9 q0 q1 q2 q3 q4 => by rw [← hM_22]; exact (up_row (by omega)).trans (fr_20 q9 q0 q1 q2 q3 q4)
      refine WP.blk 8 ?_
      show sT S (x + 86) = 5 ∧ sT S (x + 86) = 5 ∧ WP 5 30 203 [vR (x + 86), vR (x + 2), vR (x + 76), vI d, vI w, vR j1, vR j2, vR pw, vI u9] [] (up M_22 (x + 86) 5 (iO (M_22 (x + 86) 5) (iL 1 w)), S) Q
      rw [r_23]
      refine ⟨hS.2.2.2.2.2.2.2.1.1.1, hS.2.2.2.2.2.2.2.1.1.1, ?_⟩
      generalize hM_33 : up M_22 (x + 86) 5 (iO (o 5) (iL 1 w)) = M_33
      obtain ⟨g_35, hg_35⟩ : ∃ y9, y9 = uf o 5 (iO (o 5) (iL 1 w)) := ⟨_, rfl⟩
      have r_34 : M_33 (x + 86) = g_35 := by rw [← hM_33, hg_35, up_self, r_23]
      have t_36 : g_35 5 = iO (o 5) (iL 1 w) := by rw [hg_35]; exact uf_at _ _ (by omega)
      have t_37 : g_35 6 = o 6 := by rw [hg_35]; exact uf_ne (by omega)
      have r_38 : M_33 (x + 89) = pf := by rw [← hM_33]; exact (up_row (by omega)).trans r_24
      have r_39 : M_33 (x + 90) = g_26 := by rw [← hM_33]; exact (up_row (by omega)).trans r_25
      have F_40 : AskR M_33 x f := AskR_fr (fun r9 h7 h8 h9 => by rw [← hM_33]; exact up_row (by omega)) F_27
      have F_41 : InkR M_33 j1 (sq f t d) := InkR_fr (fun r9 h8 h9 => by rw [← hM_33]; exact up_row (by omega)) F_28
      have F_42 : PlnR M_33 pw f w xg := PlnR_fr (fun r9 h8 h9 => by rw [← hM_33]; exact up_row (by omega)) F_29
      have F_43 : PlnW M_33 pw cw nw := PlnW_fr (fun r9 h8 h9 => by rw [← hM_33]; exact up_row (by omega)) F_30
      have F_44 : InkR M_33 j2 (wrote (sq f t d) w) := InkR_fr (fun r9 h8 h9 => by rw [← hM_33]; exact up_row (by omega)) F_31
      have fr_45 : (∀ q9, q9 ≠ x + 86 → q9 ≠ x + 89 → q9 ≠ x + 90 → (q9 < j2 ∨ j2 + 4 ≤ q9) → (q9 < pw ∨ pw + 4 ≤ q9) → M_33 q9 = M q9) := fun q9 q0 q1 q2 q3 q4 => by rw [← hM_33]; exact (up_row (by omega)).trans (fr_32 q9 q0 q1 q2 q3 q4)
      refine WP.blk 1 ?_
      show WP 5 30 204 [vR (x + 86), vR (x + 2), vR (x + 76), vI d, vI w, vR j1, vR j2, vR pw, vI u9] [vI 1] (M_33, S) Q
      refine WP.ret rfl rfl rfl ⟨by omega, trivial⟩ ?_
      refine k _ _ fr_45 (Or.inl ⟨rfl, ⟨fun q a b => ?_, ordp_uf os2 hw hnt (can_i hcan), oink_add hd.1 (oink_fr (fun q a b => fr_45 q (by omega) (by omega) (by omega) (by omega) (by omega)) os3) (by rw [show x + 96 + 4 * d.toNat = j2 by omega]; exact F_44), otk_add os4 hd.1 (by omega) (by rw [r_34, ho]; omega), (fun v a b => by by_cases e : v = w; (rw [e]; exact Or.inr ⟨xg, ⟨hxg.1, hxg.2.1⟩, by rw [r_38, hpfu]; exact huu9, by rw [show x + 124 + 4 * w.toNat = pw by omega]; exact F_42⟩); exact plF_fr (by rw [r_38, hpf]) (fun q c r => fr_45 q (by omega) (by omega) (by omega) (by omega) (by omega)) (os5 v a b))⟩, by rw [r_34, ho]; omega, by rw [ho]; omega, hnt⟩)
      rw [r_39, hg_26]
      by_cases e : q = d
      · rw [e, uf_eq, uf_eq]
      · rw [uf_ne e, uf_ne e, ← htr]
        exact os1 q a (by omega)
    · refine WP.blk 5 ?_
      show sT S j2 = 4 ∧ sT S (x + 86) = 5 ∧ WP 5 30 (if cnd .lt (My_12 j2 5) (My_12 (x + 86) 6) = true then 182 else 180) [vR (x + 86), vR (x + 2), vR (x + 76), vI d, vI w, vR j1, vR j2, vR pw, vI u9] [] (My_12, S) Q
      rw [r_13]
      rw [hwy_12.1.2.2]
      refine ⟨hi2.2.1, hS.2.2.2.2.2.2.2.1.1.1, ?_⟩
      refine br_lt (fun c_46 => ?_) (fun c_46 => ?_)
      · refine WP.blk 2 ?_
        show (sT S (x + 86) = 5 ∧ sR S (x + 86) 3 ≠ 0) ∧ WP 5 30 186 [vR (x + 86), vR (x + 2), vR (x + 76), vI d, vI w, vR j1, vR j2, vR pw, vI u9] [vR (sR S (x + 86) 3)] (My_12, S) Q
        refine ⟨⟨hS.2.2.2.2.2.2.2.1.1.1, by rw [(show sR S (x + 86) 3 = x + 90 from hS.2.2.2.2.2.2.2.1.1.2.2.2.2.1)]; omega⟩, ?_⟩
        rw [(show sR S (x + 86) 3 = x + 90 from hS.2.2.2.2.2.2.2.1.1.2.2.2.2.1)]
        refine WP.blk 3 ?_
        show (sT S (x + 90) = 11 ∧ 0 ≤ d ∧ d < (sN S (x + 90) : Int)) ∧ WP 5 30 190 [vR (x + 86), vR (x + 2), vR (x + 76), vI d, vI w, vR j1, vR j2, vR pw, vI u9] [] (up My_12 (x + 90) d w, S) Q
        refine ⟨⟨hS.2.2.2.2.2.2.2.1.2.1.2.2.2.2.2.2.1, by omega, by rw [(show sN S (x + 90) = 7 from hS.2.2.2.2.2.2.2.1.2.1.2.2.2.2.2.2.2.1)]; omega⟩, ?_⟩
        generalize hM_47 : up My_12 (x + 90) d w = M_47
        have r_48 : M_47 (x + 86) = o := by rw [← hM_47]; exact (up_row (by omega)).trans r_13
        have r_49 : M_47 (x + 89) = pf := by rw [← hM_47]; exact (up_row (by omega)).trans r_14
        obtain ⟨g_51, hg_51⟩ : ∃ y9, y9 = uf tr d w := ⟨_, rfl⟩
        have r_50 : M_47 (x + 90) = g_51 := by rw [← hM_47, hg_51, up_self, r_15]
        have F_52 : AskR M_47 x f := AskR_fr (fun r9 h7 h8 h9 => by rw [← hM_47]; exact up_row (by omega)) F_16
        have F_53 : InkR M_47 j1 (sq f t d) := InkR_fr (fun r9 h8 h9 => by rw [← hM_47]; exact up_row (by omega)) F_17
        have F_54 : PlnR M_47 pw f w xg := PlnR_fr (fun r9 h8 h9 => by rw [← hM_47]; exact up_row (by omega)) F_18
        have F_55 : PlnW M_47 pw cw nw := PlnW_fr (fun r9 h8 h9 => by rw [← hM_47]; exact up_row (by omega)) F_19
        have F_56 : InkR M_47 j2 (wrote (sq f t d) w) := InkR_fr (fun r9 h8 h9 => by rw [← hM_47]; exact up_row (by omega)) hwy_12
        have fr_57 : (∀ q9, q9 ≠ x + 86 → q9 ≠ x + 89 → q9 ≠ x + 90 → (q9 < j2 ∨ j2 + 4 ≤ q9) → (q9 < pw ∨ pw + 4 ≤ q9) → M_47 q9 = M q9) := fun q9 q0 q1 q2 q3 q4 => by rw [← hM_47]; exact (up_row (by omega)).trans (fr_20 q9 q0 q1 q2 q3 q4)
        refine WP.blk 8 ?_
        show sT S (x + 86) = 5 ∧ sT S (x + 86) = 5 ∧ WP 5 30 203 [vR (x + 86), vR (x + 2), vR (x + 76), vI d, vI w, vR j1, vR j2, vR pw, vI u9] [] (up M_47 (x + 86) 5 (iO (M_47 (x + 86) 5) (iL 1 w)), S) Q
        rw [r_48]
        refine ⟨hS.2.2.2.2.2.2.2.1.1.1, hS.2.2.2.2.2.2.2.1.1.1, ?_⟩
        generalize hM_58 : up M_47 (x + 86) 5 (iO (o 5) (iL 1 w)) = M_58
        obtain ⟨g_60, hg_60⟩ : ∃ y9, y9 = uf o 5 (iO (o 5) (iL 1 w)) := ⟨_, rfl⟩
        have r_59 : M_58 (x + 86) = g_60 := by rw [← hM_58, hg_60, up_self, r_48]
        have t_61 : g_60 5 = iO (o 5) (iL 1 w) := by rw [hg_60]; exact uf_at _ _ (by omega)
        have t_62 : g_60 6 = o 6 := by rw [hg_60]; exact uf_ne (by omega)
        have r_63 : M_58 (x + 89) = pf := by rw [← hM_58]; exact (up_row (by omega)).trans r_49
        have r_64 : M_58 (x + 90) = g_51 := by rw [← hM_58]; exact (up_row (by omega)).trans r_50
        have F_65 : AskR M_58 x f := AskR_fr (fun r9 h7 h8 h9 => by rw [← hM_58]; exact up_row (by omega)) F_52
        have F_66 : InkR M_58 j1 (sq f t d) := InkR_fr (fun r9 h8 h9 => by rw [← hM_58]; exact up_row (by omega)) F_53
        have F_67 : PlnR M_58 pw f w xg := PlnR_fr (fun r9 h8 h9 => by rw [← hM_58]; exact up_row (by omega)) F_54
        have F_68 : PlnW M_58 pw cw nw := PlnW_fr (fun r9 h8 h9 => by rw [← hM_58]; exact up_row (by omega)) F_55
        have F_69 : InkR M_58 j2 (wrote (sq f t d) w) := InkR_fr (fun r9 h8 h9 => by rw [← hM_58]; exact up_row (by omega)) F_56
        have fr_70 : (∀ q9, q9 ≠ x + 86 → q9 ≠ x + 89 → q9 ≠ x + 90 → (q9 < j2 ∨ j2 + 4 ≤ q9) → (q9 < pw ∨ pw + 4 ≤ q9) → M_58 q9 = M q9) := fun q9 q0 q1 q2 q3 q4 => by rw [← hM_58]; exact (up_row (by omega)).trans (fr_57 q9 q0 q1 q2 q3 q4)
        refine WP.blk 1 ?_
        show WP 5 30 204 [vR (x + 86), vR (x + 2), vR (x + 76), vI d, vI w, vR j1, vR j2, vR pw, vI u9] [vI 1] (M_58, S) Q
        refine WP.ret rfl rfl rfl ⟨by omega, trivial⟩ ?_
        refine k _ _ fr_70 (Or.inl ⟨rfl, ⟨fun q a b => ?_, ordp_uf os2 hw hnt (can_i hcan), oink_add hd.1 (oink_fr (fun q a b => fr_70 q (by omega) (by omega) (by omega) (by omega) (by omega)) os3) (by rw [show x + 96 + 4 * d.toNat = j2 by omega]; exact F_69), otk_add os4 hd.1 (by omega) (by rw [r_59, ho]; omega), (fun v a b => by by_cases e : v = w; (rw [e]; exact Or.inr ⟨xg, ⟨hxg.1, hxg.2.1⟩, by rw [r_63, hpfu]; exact huu9, by rw [show x + 124 + 4 * w.toNat = pw by omega]; exact F_67⟩); exact plF_fr (by rw [r_63, hpf]) (fun q c r => fr_70 q (by omega) (by omega) (by omega) (by omega) (by omega)) (os5 v a b))⟩, by rw [r_59, ho]; omega, by rw [ho]; omega, hnt⟩)
        rw [r_64, hg_51]
        by_cases e : q = d
        · rw [e, uf_eq, uf_eq]
        · rw [uf_ne e, uf_ne e, ← htr]
          exact os1 q a (by omega)
      · refine WP.blk 1 ?_
        show WP 5 30 181 [vR (x + 86), vR (x + 2), vR (x + 76), vI d, vI w, vR j1, vR j2, vR pw, vI u9] [vI 0] (My_12, S) Q
        exact WP.ret rfl rfl rfl ⟨by omega, trivial⟩ (k _ _ fr_20 (Or.inr ⟨rfl, ⟨(fun q a b => by rw [r_15, ← htr]; exact os1 q a b), os2, oink_fr (fun q a b => fr_20 q (by omega) (by omega) (by omega) (by omega) (by omega)) os3, otk_c (by rw [r_13, ho]) os4, (fun v a b => by by_cases e : v = w; (rw [e]; exact Or.inr ⟨xg, ⟨hxg.1, hxg.2.1⟩, by rw [r_14, hpfu]; exact huu9, by rw [show x + 124 + 4 * w.toNat = pw by omega]; exact F_18⟩); exact plF_fr (by rw [r_14, hpf]) (fun q c r => fr_20 q (by omega) (by omega) (by omega) (by omega) (by omega)) (os5 v a b))⟩, by rw [r_13, ho], Or.inr (Or.inr ⟨by rw [ho]; omega, by rw [ho]; omega⟩)⟩))
  · refine WP.blk 1 ?_
    show WP 5 30 135 [vR (x + 86), vR (x + 2), vR (x + 76), vI d, vI w, vR j1, vR j2, vR pw, vI u9] [vI 0] (M, S) Q
    exact WP.ret rfl rfl rfl ⟨by omega, trivial⟩ (k _ _ (fun _ _ _ _ _ _ => rfl) (Or.inr ⟨rfl, ⟨os1, os2, os3, os4, os5⟩, rfl, Or.inr (Or.inl (can_n (posR_f hq1 (by omega))))⟩))
set_option maxHeartbeats 4000000 in
theorem k_advance {S : SD} {M : Nat → Int → Int} {x : Nat} {f : Int → Int} {B : Int} {t : Int → Int} {d w : Int} {j1 j2 pw : Nat} (hS : isRub S x) (has : AskR M x f) (hx3 : 3 ≤ x) (hR : RowOk B f) (hos : OS M x f d t) (hd : 0 ≤ d ∧ d < f 1) (hw : 0 ≤ w ∧ w < f 1) (hj1 : j1 = x + 92 + 4 * d.toNat) (hj2 : j2 = x + 96 + 4 * d.toNat) (hpw0 : pw = x + 124 + 4 * w.toNat) (hB : 0 ≤ B ∧ B ≤ 1000000000 - 400) {Q : Res → Wd → Prop} (k : ∀ (b : Int) (M2 : Nat → Int → Int), (∀ q9, q9 ≠ x + 86 → q9 ≠ x + 89 → q9 ≠ x + 90 → (q9 < j2 ∨ j2 + 4 ≤ q9) → (q9 < pw ∨ pw + 4 ≤ q9) → M2 q9 = M q9) → (b = 1 ∧ OS M2 x f (d + 1) (uf t d w) ∧ M2 (x + 86) 6 = M (x + 86) 6 ∧ (M (x + 86) 6 = -1 ∨ wrote (sq f t d) w 6 < M (x + 86) 6) ∧ ∀ j, 0 ≤ j → j < d → ¬ t j = w) ∨ (b = 0 ∧ OS M2 x f d t ∧ M2 (x + 86) 6 = M (x + 86) 6 ∧ AdvN f t d w (M (x + 86) 6)) → Q (0, vI b) (M2, S)) : EvQ 6 30 [vR (x + 86), vR (x + 2), vR (x + 76), vI d, vI w] (M, S) Q := by
  refine EvQ.enter (ls := [vR (x + 86), vR (x + 2), vR (x + 76), vI d, vI w, none, none, none, none]) (Nat.le_of_ble_eq_true rfl) rfl ?_
  obtain ⟨o, ho⟩ : ∃ y9, M (x + 86) = y9 := ⟨_, rfl⟩
  obtain ⟨pf, hpf⟩ : ∃ y9, M (x + 89) = y9 := ⟨_, rfl⟩
  obtain ⟨tr, htr⟩ : ∃ y9, M (x + 90) = y9 := ⟨_, rfl⟩
  have hA := hR.1
  have hA1 := hA.1
  have hWA := hR.2.1
  have hW1 := hWA.1
  obtain ⟨os1, os2, os3, os4, os5⟩ := hos
  obtain ⟨hRg, hio, hb1, hb2⟩ := sq_big hR hB (by omega) hd os2 hw
  have hib := os3 d hd.1 (Int.le_refl _)
  rw [← hj1] at hib
  have hAg := hRg.1
  have hAg1 := hAg.1
  have hg0 := hio.1
  have hg1 := hio.2.1
  have hIg := hRg.2.2
  obtain ⟨xg, hxg⟩ := fresh_ex hAg1
  have hshl := io_shl hio (by omega) has.1.1
  have hwg := (hRg.2.1.2 w hw.1 (by omega)).1
  have hcolg : 0 ≤ f (97 + 14 * w + 1) ∧ f (97 + 14 * w + 1) ≤ 3 := (hWA.2 w hw.1 hw.2).2
  have hcg : sq f t d (97 + 14 * w + 1) = f (97 + 14 * w + 1) := hio.2.2.2.2.2 _ (by omega)
  have hlim : f 2 = sq f t d 2 := hio.2.2.1.symm
  have hld : f 3 = sq f t d 3 := hio.2.2.2.1.symm
  have hWrg : ∀ s, 0 ≤ s → s < sq f t d 0 → 0 ≤ sq f t d (7 + 9 * s + 8) ∧ sq f t d (7 + 9 * s + 8) ≤ 1000000000 := fun s a b => ⟨(hIg.1 s a b).2.2.1, by have := (hIg.1 s a b).2.2.2; omega⟩
  have hi1 := ord_ink hS.2.2.2.2.2.2.2.1 (d := d) (by omega)
  have hi2 := ord_ink hS.2.2.2.2.2.2.2.1 (d := d + 1) (by omega)
  have hpi := ord_pln hS.2.2.2.2.2.2.2.1 (w := w) (by omega)
  rw [show x + 86 + 6 + 4 * d.toNat = j1 by omega] at hi1
  rw [show x + 86 + 6 + 4 * (d + 1).toNat = j2 by omega] at hi2
  rw [show x + 86 + 38 + 4 * w.toNat = pw by omega] at hpi
  have htk := otk_n os4 (show 0 ≤ w ∧ w < 7 by omega)
  rw [ho] at htk
  have hpl0 := os5 w hw.1 hw.2
  refine WP.blk 2 ?_
  show WP 5 30 (if cnd .lt d 0 = true then 34 else 4) [vR (x + 86), vR (x + 2), vR (x + 76), vI d, vI w, none, none, none, none] [] (M, S) Q
  refine br_lt (fun c_1 => ?_) (fun c_1 => ?_)
  · refine WP.blk 1 ?_
    show WP 5 30 35 [vR (x + 86), vR (x + 2), vR (x + 76), vI d, vI w, none, none, none, none] [vI 0] (M, S) Q
    exact WP.ret rfl rfl rfl ⟨by omega, trivial⟩ (by exfalso; omega)
  · refine WP.blk 3 ?_
    show WP 5 30 (if cnd .ge d 7 = true then 34 else 10) [vR (x + 86), vR (x + 2), vR (x + 76), vI d, vI w, none, none, none, none] [] (M, S) Q
    refine br_ge (fun c_2 => ?_) (fun c_2 => ?_)
    · refine WP.blk 1 ?_
      show WP 5 30 35 [vR (x + 86), vR (x + 2), vR (x + 76), vI d, vI w, none, none, none, none] [vI 0] (M, S) Q
      exact WP.ret rfl rfl rfl ⟨by omega, trivial⟩ (by exfalso; omega)
    · refine WP.blk 2 ?_
      show WP 5 30 (if cnd .lt w 0 = true then 34 else 15) [vR (x + 86), vR (x + 2), vR (x + 76), vI d, vI w, none, none, none, none] [] (M, S) Q
      refine br_lt (fun c_3 => ?_) (fun c_3 => ?_)
      · refine WP.blk 1 ?_
        show WP 5 30 35 [vR (x + 86), vR (x + 2), vR (x + 76), vI d, vI w, none, none, none, none] [vI 0] (M, S) Q
        exact WP.ret rfl rfl rfl ⟨by omega, trivial⟩ (by exfalso; omega)
      · refine WP.blk 3 ?_
        show WP 5 30 (if cnd .ge w 7 = true then 34 else 22) [vR (x + 86), vR (x + 2), vR (x + 76), vI d, vI w, none, none, none, none] [] (M, S) Q
        refine br_ge (fun c_4 => ?_) (fun c_4 => ?_)
        · refine WP.blk 1 ?_
          show WP 5 30 35 [vR (x + 86), vR (x + 2), vR (x + 76), vI d, vI w, none, none, none, none] [vI 0] (M, S) Q
          exact WP.ret rfl rfl rfl ⟨by omega, trivial⟩ (by exfalso; omega)
        · refine WP.blk 7 ?_
          show sT S (x + 86) = 5 ∧ WP 5 30 (if cnd .eq (iA (iR (M (x + 86) 5) w) 1) 0 = true then 36 else 34) [vR (x + 86), vR (x + 2), vR (x + 76), vI d, vI w, none, none, none, none] [] (M, S) Q
          rw [ho]
          refine ⟨hS.2.2.2.2.2.2.2.1.1.1, ?_⟩
          refine br_eq (fun c_5 => ?_) (fun c_5 => ?_)
          · refine WP.blk 2 ?_
            show (sT S (x + 86) = 5 ∧ sR S (x + 86) 0 ≠ 0) ∧ WP 5 30 40 [vR (x + 86), vR (x + 2), vR (x + 76), vI d, vI w, none, none, none, none] [vR (sR S (x + 86) 0)] (M, S) Q
            refine ⟨⟨hS.2.2.2.2.2.2.2.1.1.1, by rw [(show sR S (x + 86) 0 = x + 87 from hS.2.2.2.2.2.2.2.1.1.2.1)]; omega⟩, ?_⟩
            rw [(show sR S (x + 86) 0 = x + 87 from hS.2.2.2.2.2.2.2.1.1.2.1)]
            refine WP.blk 2 ?_
            show (ref3 (sT S (x + 87)) ∧ 0 ≤ d ∧ d < (sN S (x + 87) : Int) ∧ sR S (x + 87) d ≠ 0) ∧ WP 5 30 42 [vR (x + 86), vR (x + 2), vR (x + 76), vI d, vI w, none, none, none, none] [vR (sR S (x + 87) d)] (M, S) Q
            refine ⟨⟨(Or.inr (Or.inl hS.2.2.2.2.2.2.2.1.2.1.1)), by omega, by rw [(show sN S (x + 87) = 8 from hS.2.2.2.2.2.2.2.1.2.1.2.1)]; omega, by rw [(show sR S (x + 87) d = j1 from hi1.1)]; omega⟩, ?_⟩
            rw [(show sR S (x + 87) d = j1 from hi1.1)]
            refine WP.blk 3 ?_
            show (sT S (x + 86) = 5 ∧ sR S (x + 86) 0 ≠ 0) ∧ WP 5 30 48 [vR (x + 86), vR (x + 2), vR (x + 76), vI d, vI w, vR j1, none, none, none] [vR (sR S (x + 86) 0)] (M, S) Q
            refine ⟨⟨hS.2.2.2.2.2.2.2.1.1.1, by rw [(show sR S (x + 86) 0 = x + 87 from hS.2.2.2.2.2.2.2.1.1.2.1)]; omega⟩, ?_⟩
            rw [(show sR S (x + 86) 0 = x + 87 from hS.2.2.2.2.2.2.2.1.1.2.1)]
            refine WP.blk 4 ?_
            show ir (d + 1) ∧ (ref3 (sT S (x + 87)) ∧ 0 ≤ (d + 1) ∧ (d + 1) < (sN S (x + 87) : Int) ∧ sR S (x + 87) (d + 1) ≠ 0) ∧ WP 5 30 52 [vR (x + 86), vR (x + 2), vR (x + 76), vI d, vI w, vR j1, none, none, none] [vR (sR S (x + 87) (d + 1))] (M, S) Q
            refine ⟨(by unfold ir; omega), ⟨(Or.inr (Or.inl hS.2.2.2.2.2.2.2.1.2.1.1)), by omega, by rw [(show sN S (x + 87) = 8 from hS.2.2.2.2.2.2.2.1.2.1.2.1)]; omega, by rw [(show sR S (x + 87) (d + 1) = j2 from hi2.1)]; omega⟩, ?_⟩
            rw [(show sR S (x + 87) (d + 1) = j2 from hi2.1)]
            refine WP.blk 3 ?_
            show (sT S (x + 86) = 5 ∧ sR S (x + 86) 1 ≠ 0) ∧ WP 5 30 58 [vR (x + 86), vR (x + 2), vR (x + 76), vI d, vI w, vR j1, vR j2, none, none] [vR (sR S (x + 86) 1)] (M, S) Q
            refine ⟨⟨hS.2.2.2.2.2.2.2.1.1.1, by rw [(show sR S (x + 86) 1 = x + 88 from hS.2.2.2.2.2.2.2.1.1.2.2.1)]; omega⟩, ?_⟩
            rw [(show sR S (x + 86) 1 = x + 88 from hS.2.2.2.2.2.2.2.1.1.2.2.1)]
            refine WP.blk 2 ?_
            show (ref3 (sT S (x + 88)) ∧ 0 ≤ w ∧ w < (sN S (x + 88) : Int) ∧ sR S (x + 88) w ≠ 0) ∧ WP 5 30 61 [vR (x + 86), vR (x + 2), vR (x + 76), vI d, vI w, vR j1, vR j2, none, none] [vR (sR S (x + 88) w)] (M, S) Q
            refine ⟨⟨(Or.inr (Or.inr hS.2.2.2.2.2.2.2.1.2.1.2.2.1)), by omega, by rw [(show sN S (x + 88) = 7 from hS.2.2.2.2.2.2.2.1.2.1.2.2.2.1)]; omega, by rw [(show sR S (x + 88) w = pw from hpi.1)]; omega⟩, ?_⟩
            rw [(show sR S (x + 88) w = pw from hpi.1)]
            refine WP.blk 9 ?_
            show WP 5 30 83 [vR (x + 86), vR (x + 2), vR (x + 76), vI d, vI w, vR j1, vR j2, vR pw, none] [vR j1, vR (x + 2)] (M, S) Q
            refine WP.cl (a := [vR (x + 2), vR j1]) (rest := []) rfl rfl rfl rfl ⟨hS.2.1.1, trivial⟩ (by decide) (k_pressesLeft hS.2.1 hi1.2 hshl.1 hshl.2.2.2 hib hAg1 (fun u_6 hpu_6 => ⟨rfl, ?_⟩))
            show WP 5 30 86 [vR (x + 86), vR (x + 2), vR (x + 76), vI d, vI w, vR j1, vR j2, vR pw, none] [vI u_6] (M, S) Q
            have huu_6 := PL_ux hxg hpu_6
            have huru_6 := huu_6.1.1
            refine WP.blk 3 ?_
            show (sT S (x + 86) = 5 ∧ sR S (x + 86) 2 ≠ 0) ∧ WP 5 30 92 [vR (x + 86), vR (x + 2), vR (x + 76), vI d, vI w, vR j1, vR j2, vR pw, vI u_6] [vR (sR S (x + 86) 2)] (M, S) Q
            refine ⟨⟨hS.2.2.2.2.2.2.2.1.1.1, by rw [(show sR S (x + 86) 2 = x + 89 from hS.2.2.2.2.2.2.2.1.1.2.2.2.1)]; omega⟩, ?_⟩
            rw [(show sR S (x + 86) 2 = x + 89 from hS.2.2.2.2.2.2.2.1.1.2.2.2.1)]
            refine WP.blk 4 ?_
            show ((sT S (x + 89) = 11 ∨ sT S (x + 89) = 16 ∨ sT S (x + 89) = 17) ∧ 0 ≤ w ∧ w < (sN S (x + 89) : Int)) ∧ WP 5 30 (if cnd .eq (M (x + 89) w) u_6 = true then 120 else 100) [vR (x + 86), vR (x + 2), vR (x + 76), vI d, vI w, vR j1, vR j2, vR pw, vI u_6] [] (M, S) Q
            rw [hpf]
            refine ⟨⟨Or.inl hS.2.2.2.2.2.2.2.1.2.1.2.2.2.2.1, by omega, by rw [(show sN S (x + 89) = 7 from hS.2.2.2.2.2.2.2.1.2.1.2.2.2.2.2.1)]; omega⟩, ?_⟩
            refine br_eq (fun c_7 => ?_) (fun c_7 => ?_)
            · have hpn9 : PlnR M pw f w xg := plF_use hpl0 (by rw [hpf]; exact c_7) (by omega) hxg huu_6 (show pw = x + 124 + 4 * w.toNat by omega)
              have hpfu : pf w = u_6 := c_7
              exact k_advT hS has hx3 hR ⟨os1, os2, os3, os4, os5⟩ hd hw hj1 hj2 hpw0 hB hxg huu_6 (by rw [hpf]; exact hpfu) hpn9 (htk.2 (by omega)) k
            · refine WP.blk 5 ?_
              show WP 5 30 108 [vR (x + 86), vR (x + 2), vR (x + 76), vI d, vI w, vR j1, vR j2, vR pw, vI u_6] [vI u_6, vI w, vR (x + 76), vR (x + 2), vR pw] (M, S) Q
              refine WP.cl (a := [vR pw, vR (x + 2), vR (x + 76), vI w, vI u_6]) (rest := []) rfl rfl rfl rfl ⟨hpi.2.1, trivial⟩ (by decide) (k_find hpi.2 hS.2.1 hS.2.2.2.2.1 (by omega) (by omega) has.1.1.1 has.1.1.2.1 has.2.1 hA (hWA.2 w (by omega) (by omega)).1 (by omega) (by omega) huu_6 (fun My_8 fry_8 hky_8 => ⟨rfl, ?_⟩))
              show WP 5 30 111 [vR (x + 86), vR (x + 2), vR (x + 76), vI d, vI w, vR j1, vR j2, vR pw, vI u_6] [] (My_8, S) Q
              have r_9 : My_8 (x + 86) = o := (fry_8 _ (by omega)).trans ho
              have r_10 : My_8 (x + 89) = pf := (fry_8 _ (by omega)).trans hpf
              have r_11 : My_8 (x + 90) = tr := (fry_8 _ (by omega)).trans htr
              have F_12 : AskR My_8 x f := AskR_fr (fun r9 h7 h8 h9 => fry_8 r9 (by omega)) has
              have F_13 : InkR My_8 j1 (sq f t d) := InkR_fr (fun r9 h8 h9 => fry_8 r9 (by omega)) hib
              have fr_14 : (∀ q9, q9 ≠ x + 86 → q9 ≠ x + 89 → q9 ≠ x + 90 → (q9 < j2 ∨ j2 + 4 ≤ q9) → (q9 < pw ∨ pw + 4 ≤ q9) → My_8 q9 = M q9) := fun q9 q0 q1 q2 q3 q4 => (fry_8 q9 (by omega)).trans ((fun _ _ _ _ _ _ => rfl) q9 q0 q1 q2 q3 q4)
              refine WP.blk 2 ?_
              show (sT S (x + 86) = 5 ∧ sR S (x + 86) 2 ≠ 0) ∧ WP 5 30 115 [vR (x + 86), vR (x + 2), vR (x + 76), vI d, vI w, vR j1, vR j2, vR pw, vI u_6] [vR (sR S (x + 86) 2)] (My_8, S) Q
              refine ⟨⟨hS.2.2.2.2.2.2.2.1.1.1, by rw [(show sR S (x + 86) 2 = x + 89 from hS.2.2.2.2.2.2.2.1.1.2.2.2.1)]; omega⟩, ?_⟩
              rw [(show sR S (x + 86) 2 = x + 89 from hS.2.2.2.2.2.2.2.1.1.2.2.2.1)]
              refine WP.blk 3 ?_
              show (sT S (x + 89) = 11 ∧ 0 ≤ w ∧ w < (sN S (x + 89) : Int)) ∧ WP 5 30 120 [vR (x + 86), vR (x + 2), vR (x + 76), vI d, vI w, vR j1, vR j2, vR pw, vI u_6] [] (up My_8 (x + 89) w u_6, S) Q
              refine ⟨⟨hS.2.2.2.2.2.2.2.1.2.1.2.2.2.2.1, by omega, by rw [(show sN S (x + 89) = 7 from hS.2.2.2.2.2.2.2.1.2.1.2.2.2.2.2.1)]; omega⟩, ?_⟩
              generalize hM_15 : up My_8 (x + 89) w u_6 = M_15
              have r_16 : M_15 (x + 86) = o := by rw [← hM_15]; exact (up_row (by omega)).trans r_9
              obtain ⟨g_18, hg_18⟩ : ∃ y9, y9 = uf pf w u_6 := ⟨_, rfl⟩
              have r_17 : M_15 (x + 89) = g_18 := by rw [← hM_15, hg_18, up_self, r_10]
              have r_19 : M_15 (x + 90) = tr := by rw [← hM_15]; exact (up_row (by omega)).trans r_11
              have F_20 : AskR M_15 x f := AskR_fr (fun r9 h7 h8 h9 => by rw [← hM_15]; exact up_row (by omega)) F_12
              have F_21 : InkR M_15 j1 (sq f t d) := InkR_fr (fun r9 h8 h9 => by rw [← hM_15]; exact up_row (by omega)) F_13
              have F_22 : PlnR M_15 pw f w xg := PlnR_fr (fun r9 h8 h9 => by rw [← hM_15]; exact up_row (by omega)) hky_8
              have fr_23 : (∀ q9, q9 ≠ x + 86 → q9 ≠ x + 89 → q9 ≠ x + 90 → (q9 < j2 ∨ j2 + 4 ≤ q9) → (q9 < pw ∨ pw + 4 ≤ q9) → M_15 q9 = M q9) := fun q9 q0 q1 q2 q3 q4 => by rw [← hM_15]; exact (up_row (by omega)).trans (fr_14 q9 q0 q1 q2 q3 q4)
              exact k_advT hS F_20 hx3 hR ⟨(fun q a b => by rw [r_19, ← htr]; exact os1 q a b), os2, oink_fr (fun q a b => fr_23 q (by omega) (by omega) (by omega) (by omega) (by omega)) os3, otk_c (by rw [r_16, ho]) os4, (fun v a b => by by_cases e : v = w; (rw [e]; exact Or.inr ⟨xg, ⟨hxg.1, hxg.2.1⟩, by rw [r_17, hg_18, uf_eq]; exact huu_6, by rw [show x + 124 + 4 * w.toNat = pw by omega]; exact F_22⟩); exact plF_fr (by rw [r_17, hg_18, uf_ne e, hpf]) (fun q c r => fr_23 q (by omega) (by omega) (by omega) (by omega) (by omega)) (os5 v a b))⟩ hd hw hj1 hj2 hpw0 hB hxg huu_6 (by rw [r_17, hg_18, uf_eq]) F_22 (htk.2 (by omega)) (fun b9 M9 fr9 h9 => k b9 M9 (fun q9 q0 q1 q2 q3 q4 => (fr9 q9 q0 q1 q2 q3 q4).trans (fr_23 q9 q0 q1 q2 q3 q4)) (by rw [show M_15 (x + 86) = M (x + 86) by rw [r_16, ho]] at h9; exact h9))
          · refine WP.blk 1 ?_
            show WP 5 30 35 [vR (x + 86), vR (x + 2), vR (x + 76), vI d, vI w, none, none, none, none] [vI 0] (M, S) Q
            exact WP.ret rfl rfl rfl ⟨by omega, trivial⟩ (k _ _ (fun _ _ _ _ _ _ => rfl) (Or.inr ⟨rfl, ⟨os1, os2, os3, os4, os5⟩, rfl, Or.inl (htk.1 (by assumption))⟩))
