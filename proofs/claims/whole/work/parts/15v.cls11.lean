theorem ord_ink {S : SD} {o : Nat} {d : Int} (h : isOrd S o) (hd : 0 ≤ d ∧ d < 8) : sR S (o + 1) d = o + 6 + 4 * d.toNat ∧ isInks S (o + 6 + 4 * d.toNat) := by
  obtain ⟨n, rfl⟩ := Int.eq_ofNat_of_zero_le hd.1
  have := h.2.2.1 n (by omega)
  rw [Int.toNat_natCast]
  exact this
theorem ord_pln {S : SD} {o : Nat} {w : Int} (h : isOrd S o) (hw : 0 ≤ w ∧ w < 7) : sR S (o + 2) w = o + 38 + 4 * w.toNat ∧ isPlan S (o + 38 + 4 * w.toNat) := by
  obtain ⟨n, rfl⟩ := Int.eq_ofNat_of_zero_le hw.1
  have := h.2.2.2 n (by omega)
  rw [Int.toNat_natCast]
  exact this
set_option maxHeartbeats 4000000 in
theorem k_wordAt {S : SD} {M : Nat → Int → Int} {x : Nat} {i : Int} (hS : isRub S x) (hi : 0 ≤ i ∧ i < 7) {Q : Res → Wd → Prop} (k : Q (0, vI (M (x + 91) i)) (M, S)) : EvQ 1 28 [vR (x + 86), vI i] (M, S) Q := by
  refine EvQ.enter (ls := [vR (x + 86), vI i]) (Nat.le_of_ble_eq_true rfl) rfl ?_
  refine WP.blk 2 ?_
  show WP 0 28 (if cnd .lt i 0 = true then 19 else 4) [vR (x + 86), vI i] [] (M, S) Q
  refine br_lt (fun c_1 => ?_) (fun c_1 => ?_)
  · refine WP.blk 1 ?_
    show WP 0 28 20 [vR (x + 86), vI i] [vI (-1)] (M, S) Q
    exact WP.ret rfl rfl rfl trivial (by exfalso; omega)
  · refine WP.blk 3 ?_
    show WP 0 28 (if cnd .ge i 7 = true then 19 else 10) [vR (x + 86), vI i] [] (M, S) Q
    refine br_ge (fun c_2 => ?_) (fun c_2 => ?_)
    · refine WP.blk 1 ?_
      show WP 0 28 20 [vR (x + 86), vI i] [vI (-1)] (M, S) Q
      exact WP.ret rfl rfl rfl trivial (by exfalso; omega)
    · refine WP.blk 2 ?_
      show (sT S (x + 86) = 5 ∧ sR S (x + 86) 4 ≠ 0) ∧ WP 0 28 14 [vR (x + 86), vI i] [vR (sR S (x + 86) 4)] (M, S) Q
      refine ⟨⟨hS.2.2.2.2.2.2.2.1.1.1, by rw [(show sR S (x + 86) 4 = x + 91 from hS.2.2.2.2.2.2.2.1.1.2.2.2.2.2)]; omega⟩, ?_⟩
      rw [(show sR S (x + 86) 4 = x + 91 from hS.2.2.2.2.2.2.2.1.1.2.2.2.2.2)]
      refine WP.blk 3 ?_
      show ((sT S (x + 91) = 11 ∨ sT S (x + 91) = 16 ∨ sT S (x + 91) = 17) ∧ 0 ≤ i ∧ i < (sN S (x + 91) : Int)) ∧ WP 0 28 20 [vR (x + 86), vI i] [vI (M (x + 91) i)] (M, S) Q
      refine ⟨⟨Or.inl hS.2.2.2.2.2.2.2.1.2.1.2.2.2.2.2.2.2.2.1, by omega, by rw [(show sN S (x + 91) = 7 from hS.2.2.2.2.2.2.2.1.2.1.2.2.2.2.2.2.2.2.2)]; omega⟩, ?_⟩
      exact WP.ret rfl rfl rfl trivial k
set_option maxHeartbeats 4000000 in
theorem k_keep {S : SD} {M : Nat → Int → Int} {x : Nat} {d : Int} (hS : isRub S x) (hd : 0 ≤ d ∧ d ≤ 7) {Q : Res → Wd → Prop} (k : ∀ M2 : Nat → Int → Int, (∀ q9, q9 ≠ x + 86 → q9 ≠ x + 91 → M2 q9 = M q9) → M2 (x + 86) = uf (M (x + 86)) 6 (M (x + 92 + 4 * d.toNat) 5) → M2 (x + 91) = rcp (M (x + 90)) 0 (M (x + 91)) 0 7 → Q (0, none) (M2, S)) : EvQ 1 31 [vR (x + 86), vI d] (M, S) Q := by
  refine EvQ.enter (ls := [vR (x + 86), vI d]) (Nat.le_of_ble_eq_true rfl) rfl ?_
  obtain ⟨o, ho⟩ : ∃ y9, M (x + 86) = y9 := ⟨_, rfl⟩
  obtain ⟨t, ht⟩ : ∃ y9, M (x + 90) = y9 := ⟨_, rfl⟩
  obtain ⟨b, hb⟩ : ∃ y9, M (x + 91) = y9 := ⟨_, rfl⟩
  obtain ⟨j1, hj1⟩ : ∃ j1, j1 = x + 92 + 4 * d.toNat := ⟨_, rfl⟩
  have hio := ord_ink hS.2.2.2.2.2.2.2.1 (d := d) (by omega)
  rw [show x + 86 + 6 + 4 * d.toNat = j1 by omega] at hio
  rw [← hj1] at k
  rw [ho, ht, hb] at k
  refine WP.blk 2 ?_
  show WP 0 31 (if cnd .lt d 0 = true then 38 else 4) [vR (x + 86), vI d] [] (M, S) Q
  refine br_lt (fun c_1 => ?_) (fun c_1 => ?_)
  · exact WP.ret rfl rfl rfl trivial (by exfalso; omega)
  · refine WP.blk 3 ?_
    show WP 0 31 (if cnd .gt d 7 = true then 38 else 10) [vR (x + 86), vI d] [] (M, S) Q
    refine br_gt (fun c_2 => ?_) (fun c_2 => ?_)
    · exact WP.ret rfl rfl rfl trivial (by exfalso; omega)
    · refine WP.blk 3 ?_
      show (sT S (x + 86) = 5 ∧ sR S (x + 86) 0 ≠ 0) ∧ WP 0 31 15 [vR (x + 86), vI d] [vR (sR S (x + 86) 0), vR (x + 86)] (M, S) Q
      refine ⟨⟨hS.2.2.2.2.2.2.2.1.1.1, by rw [(show sR S (x + 86) 0 = x + 87 from hS.2.2.2.2.2.2.2.1.1.2.1)]; omega⟩, ?_⟩
      rw [(show sR S (x + 86) 0 = x + 87 from hS.2.2.2.2.2.2.2.1.1.2.1)]
      refine WP.blk 2 ?_
      show (ref3 (sT S (x + 87)) ∧ 0 ≤ d ∧ d < (sN S (x + 87) : Int) ∧ sR S (x + 87) d ≠ 0) ∧ WP 0 31 17 [vR (x + 86), vI d] [vR (sR S (x + 87) d), vR (x + 86)] (M, S) Q
      refine ⟨⟨(Or.inr (Or.inl hS.2.2.2.2.2.2.2.1.2.1.1)), by omega, by rw [(show sN S (x + 87) = 8 from hS.2.2.2.2.2.2.2.1.2.1.2.1)]; omega, by rw [(show sR S (x + 87) d = j1 from hio.1)]; omega⟩, ?_⟩
      rw [(show sR S (x + 87) d = j1 from hio.1)]
      refine WP.blk 2 ?_
      show sT S j1 = 4 ∧ sT S (x + 86) = 5 ∧ WP 0 31 23 [vR (x + 86), vI d] [] (up M (x + 86) 6 (M j1 5), S) Q
      refine ⟨hio.2.1, hS.2.2.2.2.2.2.2.1.1.1, ?_⟩
      generalize hM_3 : up M (x + 86) 6 (M j1 5) = M_3
      obtain ⟨g_5, hg_5⟩ : ∃ y9, y9 = uf o 6 (M j1 5) := ⟨_, rfl⟩
      have r_4 : M_3 (x + 86) = g_5 := by rw [← hM_3, hg_5, up_self, ho]
      have r_6 : M_3 (x + 90) = t := by rw [← hM_3]; exact (up_row (by omega)).trans ht
      have r_7 : M_3 (x + 91) = b := by rw [← hM_3]; exact (up_row (by omega)).trans hb
      have fr_8 : (∀ q9, q9 ≠ x + 86 → q9 ≠ x + 91 → M_3 q9 = M q9) := fun q9 q0 q1 => by rw [← hM_3]; exact (up_row (by omega)).trans ((fun _ _ _ => rfl) q9 q0 q1)
      refine WP.blk 2 ?_
      show (sT S (x + 86) = 5 ∧ sR S (x + 86) 3 ≠ 0) ∧ WP 0 31 27 [vR (x + 86), vI d] [vR (sR S (x + 86) 3)] (M_3, S) Q
      refine ⟨⟨hS.2.2.2.2.2.2.2.1.1.1, by rw [(show sR S (x + 86) 3 = x + 90 from hS.2.2.2.2.2.2.2.1.1.2.2.2.2.1)]; omega⟩, ?_⟩
      rw [(show sR S (x + 86) 3 = x + 90 from hS.2.2.2.2.2.2.2.1.1.2.2.2.2.1)]
      refine WP.blk 3 ?_
      show (sT S (x + 86) = 5 ∧ sR S (x + 86) 4 ≠ 0) ∧ WP 0 31 32 [vR (x + 86), vI d] [vR (sR S (x + 86) 4), vI 0, vR (x + 90)] (M_3, S) Q
      refine ⟨⟨hS.2.2.2.2.2.2.2.1.1.1, by rw [(show sR S (x + 86) 4 = x + 91 from hS.2.2.2.2.2.2.2.1.1.2.2.2.2.2)]; omega⟩, ?_⟩
      rw [(show sR S (x + 86) 4 = x + 91 from hS.2.2.2.2.2.2.2.1.1.2.2.2.2.2)]
      refine WP.blk 3 ?_
      show (sT S (x + 90) = 11 ∧ sT S (x + 91) = 11 ∧ 0 ≤ 0 ∧ 0 ≤ 0 ∧ 0 ≤ 7 ∧ 0 + 7 ≤ (sN S (x + 90) : Int) ∧ 0 + 7 ≤ (sN S (x + 91) : Int)) ∧ WP 0 31 38 [vR (x + 86), vI d] [] (cpy M_3 (x + 90) 0 (x + 91) 0 7, S) Q
      refine ⟨⟨hS.2.2.2.2.2.2.2.1.2.1.2.2.2.2.2.2.1, hS.2.2.2.2.2.2.2.1.2.1.2.2.2.2.2.2.2.2.1, by omega, by omega, by omega, by rw [(show sN S (x + 90) = 7 from hS.2.2.2.2.2.2.2.1.2.1.2.2.2.2.2.2.2.1)]; omega, by rw [(show sN S (x + 91) = 7 from hS.2.2.2.2.2.2.2.1.2.1.2.2.2.2.2.2.2.2.2)]; omega⟩, ?_⟩
      generalize hM_9 : cpy M_3 (x + 90) 0 (x + 91) 0 7 = M_9
      have r_10 : M_9 (x + 86) = g_5 := by rw [← hM_9]; exact (cpy_row (by omega)).trans r_4
      have r_11 : M_9 (x + 90) = t := by rw [← hM_9]; exact (cpy_row (by omega)).trans r_6
      obtain ⟨g_13, hg_13⟩ : ∃ y9, y9 = rcp t 0 b 0 7 := ⟨_, rfl⟩
      have r_12 : M_9 (x + 91) = g_13 := by rw [← hM_9, hg_13, cpy_self, r_7, r_6]
      have fr_14 : (∀ q9, q9 ≠ x + 86 → q9 ≠ x + 91 → M_9 q9 = M q9) := fun q9 q0 q1 => by rw [← hM_9]; exact (cpy_row (by omega)).trans (fr_8 q9 q0 q1)
      exact WP.ret rfl rfl rfl trivial (k _ fr_14 (by rw [r_10, hg_5]) (by rw [r_12, hg_13]))
theorem plF_use {M : Nat → Int → Int} {x p : Nat} {f g : Int → Int} {w u xg : Int} (h : PlF M x f w) (hu : M (x + 89) w = u) (h0 : 0 ≤ u) (hx : Fresh g xg) (hux : Ux xg u) (hp : p = x + 124 + 4 * w.toNat) : PlnR M p f w xg := by
  subst hp
  rcases h with h | ⟨y, a, b, c⟩
  · omega
  · rw [hu] at b
    rw [ux_x ⟨hx.1, hx.2.1⟩ a hux b]
    exact c
set_option maxHeartbeats 4000000 in
theorem k_advance {S : SD} {M : Nat → Int → Int} {x : Nat} {f : Int → Int} {B : Int} {t : Int → Int} {d w : Int} {j1 j2 pw : Nat} (hS : isRub S x) (has : AskR M x f) (hx3 : 3 ≤ x) (hR : RowOk B f) (hos : OS M x f d t) (hd : 0 ≤ d ∧ d < f 1) (hw : 0 ≤ w ∧ w < f 1) (hj1 : j1 = x + 92 + 4 * d.toNat) (hj2 : j2 = x + 96 + 4 * d.toNat) (hpw0 : pw = x + 124 + 4 * w.toNat) (hB : 0 ≤ B ∧ B ≤ 1000000000 - 400) {Q : Res → Wd → Prop} (k : ∀ (b : Int) (M2 : Nat → Int → Int), (∀ q9, q9 ≠ x + 86 → q9 ≠ x + 89 → q9 ≠ x + 90 → (q9 < j2 ∨ j2 + 4 ≤ q9) → (q9 < pw ∨ pw + 4 ≤ q9) → M2 q9 = M q9) → (b = 1 ∧ OS M2 x f (d + 1) (uf t d w) ∧ M2 (x + 86) 6 = M (x + 86) 6 ∧ wrote (sq f t d) w 6 < M (x + 86) 6 ∧ ∀ j, 0 ≤ j → j < d → ¬ t j = w) ∨ (b = 0 ∧ OS M2 x f d t ∧ M2 (x + 86) 6 = M (x + 86) 6 ∧ AdvN f t d w (M (x + 86) 6)) → Q (0, vI b) (M2, S)) : EvQ 6 30 [vR (x + 86), vR (x + 2), vR (x + 76), vI d, vI w] (M, S) Q := by
  refine EvQ.enter (ls := [vR (x + 86), vR (x + 2), vR (x + 76), vI d, vI w, none, none, none, none]) (Nat.le_of_ble_eq_true rfl) rfl ?_
  obtain ⟨o, ho⟩ : ∃ y9, M (x + 86) = y9 := ⟨_, rfl⟩
  obtain ⟨pf, hpf⟩ : ∃ y9, M (x + 89) = y9 := ⟨_, rfl⟩
  obtain ⟨tr, htr⟩ : ∃ y9, M (x + 90) = y9 := ⟨_, rfl⟩
  have hA := hR.1
  have hA1 := hA.1
  have hWA := hR.2.1
  have hW1 := hWA.1
  obtain ⟨os1, os2, os3, os4, os5⟩ := hos
  obtain ⟨hRg, hio, hb1, hb2⟩ := sq_big hR hB (by omega) hd os2 hw
  have hib := os3 d hd.1 (Int.le_refl _)
  rw [← hj1] at hib
  have hAg := hRg.1
  have hAg1 := hAg.1
  have hg0 := hio.1
  have hg1 := hio.2.1
  have hIg := hRg.2.2
  obtain ⟨xg, hxg⟩ := fresh_ex hAg1
  have hshl := io_shl hio (by omega) has.1.1
  have hwg := (hRg.2.1.2 w hw.1 (by omega)).1
  have hcolg : 0 ≤ f (97 + 14 * w + 1) ∧ f (97 + 14 * w + 1) ≤ 3 := (hWA.2 w hw.1 hw.2).2
  have hcg : sq f t d (97 + 14 * w + 1) = f (97 + 14 * w + 1) := hio.2.2.2.2.2 _ (by omega)
  have hlim : f 2 = sq f t d 2 := hio.2.2.1.symm
  have hld : f 3 = sq f t d 3 := hio.2.2.2.1.symm
  have hWrg : ∀ s, 0 ≤ s → s < sq f t d 0 → 0 ≤ sq f t d (7 + 9 * s + 8) ∧ sq f t d (7 + 9 * s + 8) ≤ 1000000000 := fun s a b => ⟨(hIg.1 s a b).2.2.1, by have := (hIg.1 s a b).2.2.2; omega⟩
  have hi1 := ord_ink hS.2.2.2.2.2.2.2.1 (d := d) (by omega)
  have hi2 := ord_ink hS.2.2.2.2.2.2.2.1 (d := d + 1) (by omega)
  have hpi := ord_pln hS.2.2.2.2.2.2.2.1 (w := w) (by omega)
  rw [show x + 86 + 6 + 4 * d.toNat = j1 by omega] at hi1
  rw [show x + 86 + 6 + 4 * (d + 1).toNat = j2 by omega] at hi2
  rw [show x + 86 + 38 + 4 * w.toNat = pw by omega] at hpi
  have htk := otk_n os4 (show 0 ≤ w ∧ w < 7 by omega)
  rw [ho] at htk
  have hpl0 := os5 w hw.1 hw.2
  refine WP.blk 2 ?_
  show WP 5 30 (if cnd .lt d 0 = true then 34 else 4) [vR (x + 86), vR (x + 2), vR (x + 76), vI d, vI w, none, none, none, none] [] (M, S) Q
  refine br_lt (fun c_1 => ?_) (fun c_1 => ?_)
  · refine WP.blk 1 ?_
    show WP 5 30 35 [vR (x + 86), vR (x + 2), vR (x + 76), vI d, vI w, none, none, none, none] [vI 0] (M, S) Q
    exact WP.ret rfl rfl rfl ⟨by omega, trivial⟩ (by exfalso; omega)
  · refine WP.blk 3 ?_
    show WP 5 30 (if cnd .ge d 7 = true then 34 else 10) [vR (x + 86), vR (x + 2), vR (x + 76), vI d, vI w, none, none, none, none] [] (M, S) Q
    refine br_ge (fun c_2 => ?_) (fun c_2 => ?_)
    · refine WP.blk 1 ?_
      show WP 5 30 35 [vR (x + 86), vR (x + 2), vR (x + 76), vI d, vI w, none, none, none, none] [vI 0] (M, S) Q
      exact WP.ret rfl rfl rfl ⟨by omega, trivial⟩ (by exfalso; omega)
    · refine WP.blk 2 ?_
      show WP 5 30 (if cnd .lt w 0 = true then 34 else 15) [vR (x + 86), vR (x + 2), vR (x + 76), vI d, vI w, none, none, none, none] [] (M, S) Q
      refine br_lt (fun c_3 => ?_) (fun c_3 => ?_)
      · refine WP.blk 1 ?_
        show WP 5 30 35 [vR (x + 86), vR (x + 2), vR (x + 76), vI d, vI w, none, none, none, none] [vI 0] (M, S) Q
        exact WP.ret rfl rfl rfl ⟨by omega, trivial⟩ (by exfalso; omega)
      · refine WP.blk 3 ?_
        show WP 5 30 (if cnd .ge w 7 = true then 34 else 22) [vR (x + 86), vR (x + 2), vR (x + 76), vI d, vI w, none, none, none, none] [] (M, S) Q
        refine br_ge (fun c_4 => ?_) (fun c_4 => ?_)
        · refine WP.blk 1 ?_
          show WP 5 30 35 [vR (x + 86), vR (x + 2), vR (x + 76), vI d, vI w, none, none, none, none] [vI 0] (M, S) Q
          exact WP.ret rfl rfl rfl ⟨by omega, trivial⟩ (by exfalso; omega)
        · refine WP.blk 7 ?_
          show sT S (x + 86) = 5 ∧ WP 5 30 (if cnd .eq (iA (iR (M (x + 86) 5) w) 1) 0 = true then 36 else 34) [vR (x + 86), vR (x + 2), vR (x + 76), vI d, vI w, none, none, none, none] [] (M, S) Q
          rw [ho]
          refine ⟨hS.2.2.2.2.2.2.2.1.1.1, ?_⟩
          refine br_eq (fun c_5 => ?_) (fun c_5 => ?_)
          · refine WP.blk 2 ?_
            show (sT S (x + 86) = 5 ∧ sR S (x + 86) 0 ≠ 0) ∧ WP 5 30 40 [vR (x + 86), vR (x + 2), vR (x + 76), vI d, vI w, none, none, none, none] [vR (sR S (x + 86) 0)] (M, S) Q
            refine ⟨⟨hS.2.2.2.2.2.2.2.1.1.1, by rw [(show sR S (x + 86) 0 = x + 87 from hS.2.2.2.2.2.2.2.1.1.2.1)]; omega⟩, ?_⟩
            rw [(show sR S (x + 86) 0 = x + 87 from hS.2.2.2.2.2.2.2.1.1.2.1)]
            refine WP.blk 2 ?_
            show (ref3 (sT S (x + 87)) ∧ 0 ≤ d ∧ d < (sN S (x + 87) : Int) ∧ sR S (x + 87) d ≠ 0) ∧ WP 5 30 42 [vR (x + 86), vR (x + 2), vR (x + 76), vI d, vI w, none, none, none, none] [vR (sR S (x + 87) d)] (M, S) Q
            refine ⟨⟨(Or.inr (Or.inl hS.2.2.2.2.2.2.2.1.2.1.1)), by omega, by rw [(show sN S (x + 87) = 8 from hS.2.2.2.2.2.2.2.1.2.1.2.1)]; omega, by rw [(show sR S (x + 87) d = j1 from hi1.1)]; omega⟩, ?_⟩
            rw [(show sR S (x + 87) d = j1 from hi1.1)]
            refine WP.blk 3 ?_
            show (sT S (x + 86) = 5 ∧ sR S (x + 86) 0 ≠ 0) ∧ WP 5 30 48 [vR (x + 86), vR (x + 2), vR (x + 76), vI d, vI w, vR j1, none, none, none] [vR (sR S (x + 86) 0)] (M, S) Q
            refine ⟨⟨hS.2.2.2.2.2.2.2.1.1.1, by rw [(show sR S (x + 86) 0 = x + 87 from hS.2.2.2.2.2.2.2.1.1.2.1)]; omega⟩, ?_⟩
            rw [(show sR S (x + 86) 0 = x + 87 from hS.2.2.2.2.2.2.2.1.1.2.1)]
            refine WP.blk 4 ?_
            show ir (d + 1) ∧ (ref3 (sT S (x + 87)) ∧ 0 ≤ (d + 1) ∧ (d + 1) < (sN S (x + 87) : Int) ∧ sR S (x + 87) (d + 1) ≠ 0) ∧ WP 5 30 52 [vR (x + 86), vR (x + 2), vR (x + 76), vI d, vI w, vR j1, none, none, none] [vR (sR S (x + 87) (d + 1))] (M, S) Q
            refine ⟨(by unfold ir; omega), ⟨(Or.inr (Or.inl hS.2.2.2.2.2.2.2.1.2.1.1)), by omega, by rw [(show sN S (x + 87) = 8 from hS.2.2.2.2.2.2.2.1.2.1.2.1)]; omega, by rw [(show sR S (x + 87) (d + 1) = j2 from hi2.1)]; omega⟩, ?_⟩
            rw [(show sR S (x + 87) (d + 1) = j2 from hi2.1)]
            refine WP.blk 3 ?_
            show (sT S (x + 86) = 5 ∧ sR S (x + 86) 1 ≠ 0) ∧ WP 5 30 58 [vR (x + 86), vR (x + 2), vR (x + 76), vI d, vI w, vR j1, vR j2, none, none] [vR (sR S (x + 86) 1)] (M, S) Q
            refine ⟨⟨hS.2.2.2.2.2.2.2.1.1.1, by rw [(show sR S (x + 86) 1 = x + 88 from hS.2.2.2.2.2.2.2.1.1.2.2.1)]; omega⟩, ?_⟩
            rw [(show sR S (x + 86) 1 = x + 88 from hS.2.2.2.2.2.2.2.1.1.2.2.1)]
            refine WP.blk 2 ?_
            show (ref3 (sT S (x + 88)) ∧ 0 ≤ w ∧ w < (sN S (x + 88) : Int) ∧ sR S (x + 88) w ≠ 0) ∧ WP 5 30 61 [vR (x + 86), vR (x + 2), vR (x + 76), vI d, vI w, vR j1, vR j2, none, none] [vR (sR S (x + 88) w)] (M, S) Q
            refine ⟨⟨(Or.inr (Or.inr hS.2.2.2.2.2.2.2.1.2.1.2.2.1)), by omega, by rw [(show sN S (x + 88) = 7 from hS.2.2.2.2.2.2.2.1.2.1.2.2.2.1)]; omega, by rw [(show sR S (x + 88) w = pw from hpi.1)]; omega⟩, ?_⟩
            rw [(show sR S (x + 88) w = pw from hpi.1)]
            refine WP.blk 3 ?_
            show WP 5 30 66 [vR (x + 86), vR (x + 2), vR (x + 76), vI d, vI w, vR j1, vR j2, vR pw, none] [vR j1, vR (x + 2)] (M, S) Q
            refine WP.cl (a := [vR (x + 2), vR j1]) (rest := []) rfl rfl rfl rfl ⟨hS.2.1.1, trivial⟩ (by decide) (k_pressesLeft hS.2.1 hi1.2 hshl.1 hshl.2.2.2 hib hAg1 (fun u_6 hpu_6 => ⟨rfl, ?_⟩))
            show WP 5 30 69 [vR (x + 86), vR (x + 2), vR (x + 76), vI d, vI w, vR j1, vR j2, vR pw, none] [vI u_6] (M, S) Q
            have huu_6 := PL_ux hxg hpu_6
            have huru_6 := huu_6.1.1
            refine WP.blk 3 ?_
            show (sT S (x + 86) = 5 ∧ sR S (x + 86) 2 ≠ 0) ∧ WP 5 30 75 [vR (x + 86), vR (x + 2), vR (x + 76), vI d, vI w, vR j1, vR j2, vR pw, vI u_6] [vR (sR S (x + 86) 2)] (M, S) Q
            refine ⟨⟨hS.2.2.2.2.2.2.2.1.1.1, by rw [(show sR S (x + 86) 2 = x + 89 from hS.2.2.2.2.2.2.2.1.1.2.2.2.1)]; omega⟩, ?_⟩
            rw [(show sR S (x + 86) 2 = x + 89 from hS.2.2.2.2.2.2.2.1.1.2.2.2.1)]
            refine WP.blk 4 ?_
            show ((sT S (x + 89) = 11 ∨ sT S (x + 89) = 16 ∨ sT S (x + 89) = 17) ∧ 0 ≤ w ∧ w < (sN S (x + 89) : Int)) ∧ WP 5 30 (if cnd .eq (M (x + 89) w) u_6 = true then 103 else 83) [vR (x + 86), vR (x + 2), vR (x + 76), vI d, vI w, vR j1, vR j2, vR pw, vI u_6] [] (M, S) Q
            rw [hpf]
            refine ⟨⟨Or.inl hS.2.2.2.2.2.2.2.1.2.1.2.2.2.2.1, by omega, by rw [(show sN S (x + 89) = 7 from hS.2.2.2.2.2.2.2.1.2.1.2.2.2.2.2.1)]; omega⟩, ?_⟩
            refine br_eq (fun c_7 => ?_) (fun c_7 => ?_)
            · have hpn9 : PlnR M pw f w xg := plF_use hpl0 (by rw [hpf]; exact c_7) (by omega) hxg huu_6 (show pw = x + 124 + 4 * w.toNat by omega)
              have hpfu : pf w = u_6 := c_7
              refine WP.blk 4 ?_
              show sT S (x + 2) = 8 ∧ WP 5 30 111 [vR (x + 86), vR (x + 2), vR (x + 76), vI d, vI w, vR j1, vR j2, vR pw, vI u_6] [vI (M (x + 2) 4), vR j1, vR pw] (M, S) Q
              rw [has.1.1.2.2.2.1]
              refine ⟨hS.2.1.1, ?_⟩
              refine WP.cl (a := [vR pw, vR j1, vI (f 2)]) (rest := []) rfl rfl rfl rfl ⟨hpi.2.1, trivial⟩ (by decide) (k_possible hpi.2 hi1.2 hib hAg hwg hxg (plnR_io hio hA (hWA.2 w (by omega) (by omega)).1 hpn9) hlim hWrg (fun q8 hq8 => ⟨rfl, ?_⟩))
              show WP 5 30 114 [vR (x + 86), vR (x + 2), vR (x + 76), vI d, vI w, vR j1, vR j2, vR pw, vI u_6] [vI q8] (M, S) Q
              replace hq8 : PosR M pw (sq f t d) w q8 := hq8
              have hz8 := posR_b hq8
              refine WP.blk 1 ?_
              show WP 5 30 (if cnd .ne q8 0 = true then 119 else 117) [vR (x + 86), vR (x + 2), vR (x + 76), vI d, vI w, vR j1, vR j2, vR pw, vI u_6] [] (M, S) Q
              refine br_ne (fun c_9 => ?_) (fun c_9 => ?_)
              · obtain ⟨nw, cw, hcan, hpw1, hpw2⟩ := posR_t hq8 (by omega)
                have hpw9 : PlnW M pw cw nw := ⟨hpw1, hpw2⟩
                clear hpw1 hpw2
                have hpl := wrt_pl hAg hwg hcan
                have hpl1 := hpl.1
                refine WP.blk 2 ?_
                show WP 5 30 123 [vR (x + 86), vR (x + 2), vR (x + 76), vI d, vI w, vR j1, vR j2, vR pw, vI u_6] [vR j1, vR j2] (M, S) Q
                refine WP.cl (a := [vR j2, vR j1]) (rest := []) rfl rfl rfl rfl ⟨hi2.2.1, trivial⟩ (by decide) (k_copyInks hi2.2 hi1.2 (by omega) hib (by omega) (fun My_10 fry_10 hky_10 => ⟨rfl, ?_⟩))
                show WP 5 30 126 [vR (x + 86), vR (x + 2), vR (x + 76), vI d, vI w, vR j1, vR j2, vR pw, vI u_6] [] (My_10, S) Q
                have r_11 : My_10 (x + 86) = o := (fry_10 _ (by omega)).trans ho
                have r_12 : My_10 (x + 89) = pf := (fry_10 _ (by omega)).trans hpf
                have r_13 : My_10 (x + 90) = tr := (fry_10 _ (by omega)).trans htr
                have F_14 : AskR My_10 x f := AskR_fr (fun r9 h7 h8 h9 => fry_10 r9 (by omega)) has
                have F_15 : InkR My_10 j1 (sq f t d) := InkR_fr (fun r9 h8 h9 => fry_10 r9 (by omega)) hib
                have F_16 : PlnR My_10 pw f w xg := PlnR_fr (fun r9 h8 h9 => fry_10 r9 (by omega)) hpn9
                have F_17 : PlnW My_10 pw cw nw := PlnW_fr (fun r9 h8 h9 => fry_10 r9 (by omega)) hpw9
                have fr_18 : (∀ q9, q9 ≠ x + 86 → q9 ≠ x + 89 → q9 ≠ x + 90 → (q9 < j2 ∨ j2 + 4 ≤ q9) → (q9 < pw ∨ pw + 4 ≤ q9) → My_10 q9 = M q9) := fun q9 q0 q1 q2 q3 q4 => (fry_10 q9 (by omega)).trans ((fun _ _ _ _ _ _ => rfl) q9 q0 q1 q2 q3 q4)
                refine WP.blk 4 ?_
                show WP 5 30 133 [vR (x + 86), vR (x + 2), vR (x + 76), vI d, vI w, vR j1, vR j2, vR pw, vI u_6] [vI w, vR (x + 2), vR j2, vR pw] (My_10, S) Q
                refine WP.cl (a := [vR (x + 2), vI w]) (rest := [vR j2, vR pw]) rfl rfl rfl rfl ⟨hS.2.1.1, trivial⟩ (by decide) (k_colorOf hS.2.1 F_14.1.1.2.2.1 (by omega) (by omega) ⟨rfl, ?_⟩)
                show WP 5 30 136 [vR (x + 86), vR (x + 2), vR (x + 76), vI d, vI w, vR j1, vR j2, vR pw, vI u_6] [vI (f (97 + 14 * w + 1)), vR j2, vR pw] (My_10, S) Q
                refine WP.blk 2 ?_
                show sT S (x + 2) = 8 ∧ WP 5 30 140 [vR (x + 86), vR (x + 2), vR (x + 76), vI d, vI w, vR j1, vR j2, vR pw, vI u_6] [vI (My_10 (x + 2) 5), vI (f (97 + 14 * w + 1)), vR j2, vR pw] (My_10, S) Q
                rw [F_14.1.1.2.2.2.2]
                refine ⟨hS.2.1.1, ?_⟩
                refine WP.cl (a := [vR pw, vR j2, vI (f (97 + 14 * w + 1)), vI (f 3)]) (rest := []) rfl rfl rfl rfl ⟨hpi.2.1, trivial⟩ (by decide) (k_carryOut hpi.2 hi2.2 (by omega) hky_10 hRg (by omega) hcolg hld F_17.1 hpl1 F_17.2 hpl.2 (fun My_19 fry_19 hky_19 => ⟨rfl, ?_⟩))
                show WP 5 30 143 [vR (x + 86), vR (x + 2), vR (x + 76), vI d, vI w, vR j1, vR j2, vR pw, vI u_6] [] (My_19, S) Q
                have hwy_19 : InkR My_19 j2 (wrote (sq f t d) w) := by rw [wrote_t hAg hwg hcan, hcg]; exact hky_19
                have r_20 : My_19 (x + 86) = o := (fry_19 _ (by omega)).trans r_11
                have r_21 : My_19 (x + 89) = pf := (fry_19 _ (by omega)).trans r_12
                have r_22 : My_19 (x + 90) = tr := (fry_19 _ (by omega)).trans r_13
                have F_23 : AskR My_19 x f := AskR_fr (fun r9 h7 h8 h9 => fry_19 r9 (by omega)) F_14
                have F_24 : InkR My_19 j1 (sq f t d) := InkR_fr (fun r9 h8 h9 => fry_19 r9 (by omega)) F_15
                have F_25 : PlnR My_19 pw f w xg := PlnR_fr (fun r9 h8 h9 => fry_19 r9 (by omega)) F_16
                have F_26 : PlnW My_19 pw cw nw := PlnW_fr (fun r9 h8 h9 => fry_19 r9 (by omega)) F_17
                have fr_27 : (∀ q9, q9 ≠ x + 86 → q9 ≠ x + 89 → q9 ≠ x + 90 → (q9 < j2 ∨ j2 + 4 ≤ q9) → (q9 < pw ∨ pw + 4 ≤ q9) → My_19 q9 = M q9) := fun q9 q0 q1 q2 q3 q4 => (fry_19 q9 (by omega)).trans (fr_18 q9 q0 q1 q2 q3 q4)
                refine WP.blk 5 ?_
                show sT S j2 = 4 ∧ sT S (x + 86) = 5 ∧ WP 5 30 (if cnd .lt (My_19 j2 5) (My_19 (x + 86) 6) = true then 157 else 155) [vR (x + 86), vR (x + 2), vR (x + 76), vI d, vI w, vR j1, vR j2, vR pw, vI u_6] [] (My_19, S) Q
                rw [r_20]
                rw [hwy_19.1.2.2]
                refine ⟨hi2.2.1, hS.2.2.2.2.2.2.2.1.1.1, ?_⟩
                refine br_lt (fun c_28 => ?_) (fun c_28 => ?_)
                · refine WP.blk 2 ?_
                  show (sT S (x + 86) = 5 ∧ sR S (x + 86) 3 ≠ 0) ∧ WP 5 30 161 [vR (x + 86), vR (x + 2), vR (x + 76), vI d, vI w, vR j1, vR j2, vR pw, vI u_6] [vR (sR S (x + 86) 3)] (My_19, S) Q
                  refine ⟨⟨hS.2.2.2.2.2.2.2.1.1.1, by rw [(show sR S (x + 86) 3 = x + 90 from hS.2.2.2.2.2.2.2.1.1.2.2.2.2.1)]; omega⟩, ?_⟩
                  rw [(show sR S (x + 86) 3 = x + 90 from hS.2.2.2.2.2.2.2.1.1.2.2.2.2.1)]
                  refine WP.blk 3 ?_
                  show (sT S (x + 90) = 11 ∧ 0 ≤ d ∧ d < (sN S (x + 90) : Int)) ∧ WP 5 30 165 [vR (x + 86), vR (x + 2), vR (x + 76), vI d, vI w, vR j1, vR j2, vR pw, vI u_6] [] (up My_19 (x + 90) d w, S) Q
                  refine ⟨⟨hS.2.2.2.2.2.2.2.1.2.1.2.2.2.2.2.2.1, by omega, by rw [(show sN S (x + 90) = 7 from hS.2.2.2.2.2.2.2.1.2.1.2.2.2.2.2.2.2.1)]; omega⟩, ?_⟩
                  generalize hM_29 : up My_19 (x + 90) d w = M_29
                  have r_30 : M_29 (x + 86) = o := by rw [← hM_29]; exact (up_row (by omega)).trans r_20
                  have r_31 : M_29 (x + 89) = pf := by rw [← hM_29]; exact (up_row (by omega)).trans r_21
                  obtain ⟨g_33, hg_33⟩ : ∃ y9, y9 = uf tr d w := ⟨_, rfl⟩
                  have r_32 : M_29 (x + 90) = g_33 := by rw [← hM_29, hg_33, up_self, r_22]
                  have F_34 : AskR M_29 x f := AskR_fr (fun r9 h7 h8 h9 => by rw [← hM_29]; exact up_row (by omega)) F_23
                  have F_35 : InkR M_29 j1 (sq f t d) := InkR_fr (fun r9 h8 h9 => by rw [← hM_29]; exact up_row (by omega)) F_24
                  have F_36 : PlnR M_29 pw f w xg := PlnR_fr (fun r9 h8 h9 => by rw [← hM_29]; exact up_row (by omega)) F_25
                  have F_37 : PlnW M_29 pw cw nw := PlnW_fr (fun r9 h8 h9 => by rw [← hM_29]; exact up_row (by omega)) F_26
                  have F_38 : InkR M_29 j2 (wrote (sq f t d) w) := InkR_fr (fun r9 h8 h9 => by rw [← hM_29]; exact up_row (by omega)) hwy_19
                  have fr_39 : (∀ q9, q9 ≠ x + 86 → q9 ≠ x + 89 → q9 ≠ x + 90 → (q9 < j2 ∨ j2 + 4 ≤ q9) → (q9 < pw ∨ pw + 4 ≤ q9) → M_29 q9 = M q9) := fun q9 q0 q1 q2 q3 q4 => by rw [← hM_29]; exact (up_row (by omega)).trans (fr_27 q9 q0 q1 q2 q3 q4)
                  refine WP.blk 8 ?_
                  show sT S (x + 86) = 5 ∧ sT S (x + 86) = 5 ∧ WP 5 30 178 [vR (x + 86), vR (x + 2), vR (x + 76), vI d, vI w, vR j1, vR j2, vR pw, vI u_6] [] (up M_29 (x + 86) 5 (iO (M_29 (x + 86) 5) (iL 1 w)), S) Q
                  rw [r_30]
                  refine ⟨hS.2.2.2.2.2.2.2.1.1.1, hS.2.2.2.2.2.2.2.1.1.1, ?_⟩
                  generalize hM_40 : up M_29 (x + 86) 5 (iO (o 5) (iL 1 w)) = M_40
                  obtain ⟨g_42, hg_42⟩ : ∃ y9, y9 = uf o 5 (iO (o 5) (iL 1 w)) := ⟨_, rfl⟩
                  have r_41 : M_40 (x + 86) = g_42 := by rw [← hM_40, hg_42, up_self, r_30]
                  have t_43 : g_42 5 = iO (o 5) (iL 1 w) := by rw [hg_42]; exact uf_at _ _ (by omega)
                  have t_44 : g_42 6 = o 6 := by rw [hg_42]; exact uf_ne (by omega)
                  have r_45 : M_40 (x + 89) = pf := by rw [← hM_40]; exact (up_row (by omega)).trans r_31
                  have r_46 : M_40 (x + 90) = g_33 := by rw [← hM_40]; exact (up_row (by omega)).trans r_32
                  have F_47 : AskR M_40 x f := AskR_fr (fun r9 h7 h8 h9 => by rw [← hM_40]; exact up_row (by omega)) F_34
                  have F_48 : InkR M_40 j1 (sq f t d) := InkR_fr (fun r9 h8 h9 => by rw [← hM_40]; exact up_row (by omega)) F_35
                  have F_49 : PlnR M_40 pw f w xg := PlnR_fr (fun r9 h8 h9 => by rw [← hM_40]; exact up_row (by omega)) F_36
                  have F_50 : PlnW M_40 pw cw nw := PlnW_fr (fun r9 h8 h9 => by rw [← hM_40]; exact up_row (by omega)) F_37
                  have F_51 : InkR M_40 j2 (wrote (sq f t d) w) := InkR_fr (fun r9 h8 h9 => by rw [← hM_40]; exact up_row (by omega)) F_38
                  have fr_52 : (∀ q9, q9 ≠ x + 86 → q9 ≠ x + 89 → q9 ≠ x + 90 → (q9 < j2 ∨ j2 + 4 ≤ q9) → (q9 < pw ∨ pw + 4 ≤ q9) → M_40 q9 = M q9) := fun q9 q0 q1 q2 q3 q4 => by rw [← hM_40]; exact (up_row (by omega)).trans (fr_39 q9 q0 q1 q2 q3 q4)
                  refine WP.blk 1 ?_
                  show WP 5 30 179 [vR (x + 86), vR (x + 2), vR (x + 76), vI d, vI w, vR j1, vR j2, vR pw, vI u_6] [vI 1] (M_40, S) Q
                  refine WP.ret rfl rfl rfl ⟨by omega, trivial⟩ ?_
                  refine k _ _ fr_52 (Or.inl ⟨rfl, ⟨fun q a b => ?_, ordp_uf os2 hw (htk.2 (by omega)) (can_i hcan), oink_add hd.1 (oink_fr (fun q a b => fr_52 q (by omega) (by omega) (by omega) (by omega) (by omega)) os3) (by rw [show x + 96 + 4 * d.toNat = j2 by omega]; exact F_51), otk_add os4 hd.1 (by omega) (by rw [r_41, ho]; omega), (fun v a b => by by_cases e : v = w; (rw [e]; exact Or.inr ⟨xg, ⟨hxg.1, hxg.2.1⟩, by rw [r_45, hpfu]; exact huu_6, by rw [show x + 124 + 4 * w.toNat = pw by omega]; exact F_49⟩); exact plF_fr (by rw [r_45, hpf]) (fun q c r => fr_52 q (by omega) (by omega) (by omega) (by omega) (by omega)) (os5 v a b))⟩, by rw [r_41, ho]; omega, by rw [ho]; omega, htk.2 (by omega)⟩)
                  rw [r_46, hg_33]
                  by_cases e : q = d
                  · rw [e, uf_eq, uf_eq]
                  · rw [uf_ne e, uf_ne e, ← htr]
                    exact os1 q a (by omega)
                · refine WP.blk 1 ?_
                  show WP 5 30 156 [vR (x + 86), vR (x + 2), vR (x + 76), vI d, vI w, vR j1, vR j2, vR pw, vI u_6] [vI 0] (My_19, S) Q
                  exact WP.ret rfl rfl rfl ⟨by omega, trivial⟩ (k _ _ fr_27 (Or.inr ⟨rfl, ⟨(fun q a b => by rw [r_22, ← htr]; exact os1 q a b), os2, oink_fr (fun q a b => fr_27 q (by omega) (by omega) (by omega) (by omega) (by omega)) os3, otk_c (by rw [r_20, ho]) os4, (fun v a b => by by_cases e : v = w; (rw [e]; exact Or.inr ⟨xg, ⟨hxg.1, hxg.2.1⟩, by rw [r_21, hpfu]; exact huu_6, by rw [show x + 124 + 4 * w.toNat = pw by omega]; exact F_25⟩); exact plF_fr (by rw [r_21, hpf]) (fun q c r => fr_27 q (by omega) (by omega) (by omega) (by omega) (by omega)) (os5 v a b))⟩, by rw [r_20, ho], Or.inr (Or.inr (by rw [ho]; omega))⟩))
              · refine WP.blk 1 ?_
                show WP 5 30 118 [vR (x + 86), vR (x + 2), vR (x + 76), vI d, vI w, vR j1, vR j2, vR pw, vI u_6] [vI 0] (M, S) Q
                exact WP.ret rfl rfl rfl ⟨by omega, trivial⟩ (k _ _ (fun _ _ _ _ _ _ => rfl) (Or.inr ⟨rfl, ⟨os1, os2, os3, os4, os5⟩, rfl, Or.inr (Or.inl (can_n (posR_f hq8 (by omega))))⟩))
            · refine WP.blk 5 ?_
              show WP 5 30 91 [vR (x + 86), vR (x + 2), vR (x + 76), vI d, vI w, vR j1, vR j2, vR pw, vI u_6] [vI u_6, vI w, vR (x + 76), vR (x + 2), vR pw] (M, S) Q
              refine WP.cl (a := [vR pw, vR (x + 2), vR (x + 76), vI w, vI u_6]) (rest := []) rfl rfl rfl rfl ⟨hpi.2.1, trivial⟩ (by decide) (k_find hpi.2 hS.2.1 hS.2.2.2.2.1 (by omega) (by omega) has.1.1.1 has.1.1.2.1 has.2.1 hA (hWA.2 w (by omega) (by omega)).1 (by omega) (by omega) huu_6 (fun My_53 fry_53 hky_53 => ⟨rfl, ?_⟩))
              show WP 5 30 94 [vR (x + 86), vR (x + 2), vR (x + 76), vI d, vI w, vR j1, vR j2, vR pw, vI u_6] [] (My_53, S) Q
              have r_54 : My_53 (x + 86) = o := (fry_53 _ (by omega)).trans ho
              have r_55 : My_53 (x + 89) = pf := (fry_53 _ (by omega)).trans hpf
              have r_56 : My_53 (x + 90) = tr := (fry_53 _ (by omega)).trans htr
              have F_57 : AskR My_53 x f := AskR_fr (fun r9 h7 h8 h9 => fry_53 r9 (by omega)) has
              have F_58 : InkR My_53 j1 (sq f t d) := InkR_fr (fun r9 h8 h9 => fry_53 r9 (by omega)) hib
              have fr_59 : (∀ q9, q9 ≠ x + 86 → q9 ≠ x + 89 → q9 ≠ x + 90 → (q9 < j2 ∨ j2 + 4 ≤ q9) → (q9 < pw ∨ pw + 4 ≤ q9) → My_53 q9 = M q9) := fun q9 q0 q1 q2 q3 q4 => (fry_53 q9 (by omega)).trans ((fun _ _ _ _ _ _ => rfl) q9 q0 q1 q2 q3 q4)
              refine WP.blk 2 ?_
              show (sT S (x + 86) = 5 ∧ sR S (x + 86) 2 ≠ 0) ∧ WP 5 30 98 [vR (x + 86), vR (x + 2), vR (x + 76), vI d, vI w, vR j1, vR j2, vR pw, vI u_6] [vR (sR S (x + 86) 2)] (My_53, S) Q
              refine ⟨⟨hS.2.2.2.2.2.2.2.1.1.1, by rw [(show sR S (x + 86) 2 = x + 89 from hS.2.2.2.2.2.2.2.1.1.2.2.2.1)]; omega⟩, ?_⟩
              rw [(show sR S (x + 86) 2 = x + 89 from hS.2.2.2.2.2.2.2.1.1.2.2.2.1)]
              refine WP.blk 3 ?_
              show (sT S (x + 89) = 11 ∧ 0 ≤ w ∧ w < (sN S (x + 89) : Int)) ∧ WP 5 30 103 [vR (x + 86), vR (x + 2), vR (x + 76), vI d, vI w, vR j1, vR j2, vR pw, vI u_6] [] (up My_53 (x + 89) w u_6, S) Q
              refine ⟨⟨hS.2.2.2.2.2.2.2.1.2.1.2.2.2.2.1, by omega, by rw [(show sN S (x + 89) = 7 from hS.2.2.2.2.2.2.2.1.2.1.2.2.2.2.2.1)]; omega⟩, ?_⟩
              generalize hM_60 : up My_53 (x + 89) w u_6 = M_60
              have r_61 : M_60 (x + 86) = o := by rw [← hM_60]; exact (up_row (by omega)).trans r_54
              obtain ⟨g_63, hg_63⟩ : ∃ y9, y9 = uf pf w u_6 := ⟨_, rfl⟩
              have r_62 : M_60 (x + 89) = g_63 := by rw [← hM_60, hg_63, up_self, r_55]
              have r_64 : M_60 (x + 90) = tr := by rw [← hM_60]; exact (up_row (by omega)).trans r_56
              have F_65 : AskR M_60 x f := AskR_fr (fun r9 h7 h8 h9 => by rw [← hM_60]; exact up_row (by omega)) F_57
              have F_66 : InkR M_60 j1 (sq f t d) := InkR_fr (fun r9 h8 h9 => by rw [← hM_60]; exact up_row (by omega)) F_58
              have F_67 : PlnR M_60 pw f w xg := PlnR_fr (fun r9 h8 h9 => by rw [← hM_60]; exact up_row (by omega)) hky_53
              have fr_68 : (∀ q9, q9 ≠ x + 86 → q9 ≠ x + 89 → q9 ≠ x + 90 → (q9 < j2 ∨ j2 + 4 ≤ q9) → (q9 < pw ∨ pw + 4 ≤ q9) → M_60 q9 = M q9) := fun q9 q0 q1 q2 q3 q4 => by rw [← hM_60]; exact (up_row (by omega)).trans (fr_59 q9 q0 q1 q2 q3 q4)
              refine WP.blk 4 ?_
              show sT S (x + 2) = 8 ∧ WP 5 30 111 [vR (x + 86), vR (x + 2), vR (x + 76), vI d, vI w, vR j1, vR j2, vR pw, vI u_6] [vI (M_60 (x + 2) 4), vR j1, vR pw] (M_60, S) Q
              rw [F_65.1.1.2.2.2.1]
              refine ⟨hS.2.1.1, ?_⟩
              refine WP.cl (a := [vR pw, vR j1, vI (f 2)]) (rest := []) rfl rfl rfl rfl ⟨hpi.2.1, trivial⟩ (by decide) (k_possible hpi.2 hi1.2 F_66 hAg hwg hxg (plnR_io hio hA (hWA.2 w (by omega) (by omega)).1 F_67) hlim hWrg (fun q69 hq69 => ⟨rfl, ?_⟩))
              show WP 5 30 114 [vR (x + 86), vR (x + 2), vR (x + 76), vI d, vI w, vR j1, vR j2, vR pw, vI u_6] [vI q69] (M_60, S) Q
              replace hq69 : PosR M_60 pw (sq f t d) w q69 := hq69
              have hz69 := posR_b hq69
              refine WP.blk 1 ?_
              show WP 5 30 (if cnd .ne q69 0 = true then 119 else 117) [vR (x + 86), vR (x + 2), vR (x + 76), vI d, vI w, vR j1, vR j2, vR pw, vI u_6] [] (M_60, S) Q
              refine br_ne (fun c_70 => ?_) (fun c_70 => ?_)
              · obtain ⟨nw, cw, hcan, hpw1, hpw2⟩ := posR_t hq69 (by omega)
                have hpw9 : PlnW M_60 pw cw nw := ⟨hpw1, hpw2⟩
                clear hpw1 hpw2
                have hpl := wrt_pl hAg hwg hcan
                have hpl1 := hpl.1
                refine WP.blk 2 ?_
                show WP 5 30 123 [vR (x + 86), vR (x + 2), vR (x + 76), vI d, vI w, vR j1, vR j2, vR pw, vI u_6] [vR j1, vR j2] (M_60, S) Q
                refine WP.cl (a := [vR j2, vR j1]) (rest := []) rfl rfl rfl rfl ⟨hi2.2.1, trivial⟩ (by decide) (k_copyInks hi2.2 hi1.2 (by omega) F_66 (by omega) (fun My_71 fry_71 hky_71 => ⟨rfl, ?_⟩))
                show WP 5 30 126 [vR (x + 86), vR (x + 2), vR (x + 76), vI d, vI w, vR j1, vR j2, vR pw, vI u_6] [] (My_71, S) Q
                have r_72 : My_71 (x + 86) = o := (fry_71 _ (by omega)).trans r_61
                have r_73 : My_71 (x + 89) = g_63 := (fry_71 _ (by omega)).trans r_62
                have r_74 : My_71 (x + 90) = tr := (fry_71 _ (by omega)).trans r_64
                have F_75 : AskR My_71 x f := AskR_fr (fun r9 h7 h8 h9 => fry_71 r9 (by omega)) F_65
                have F_76 : InkR My_71 j1 (sq f t d) := InkR_fr (fun r9 h8 h9 => fry_71 r9 (by omega)) F_66
                have F_77 : PlnR My_71 pw f w xg := PlnR_fr (fun r9 h8 h9 => fry_71 r9 (by omega)) F_67
                have F_78 : PlnW My_71 pw cw nw := PlnW_fr (fun r9 h8 h9 => fry_71 r9 (by omega)) hpw9
                have fr_79 : (∀ q9, q9 ≠ x + 86 → q9 ≠ x + 89 → q9 ≠ x + 90 → (q9 < j2 ∨ j2 + 4 ≤ q9) → (q9 < pw ∨ pw + 4 ≤ q9) → My_71 q9 = M q9) := fun q9 q0 q1 q2 q3 q4 => (fry_71 q9 (by omega)).trans (fr_68 q9 q0 q1 q2 q3 q4)
                refine WP.blk 4 ?_
                show WP 5 30 133 [vR (x + 86), vR (x + 2), vR (x + 76), vI d, vI w, vR j1, vR j2, vR pw, vI u_6] [vI w, vR (x + 2), vR j2, vR pw] (My_71, S) Q
                refine WP.cl (a := [vR (x + 2), vI w]) (rest := [vR j2, vR pw]) rfl rfl rfl rfl ⟨hS.2.1.1, trivial⟩ (by decide) (k_colorOf hS.2.1 F_75.1.1.2.2.1 (by omega) (by omega) ⟨rfl, ?_⟩)
                show WP 5 30 136 [vR (x + 86), vR (x + 2), vR (x + 76), vI d, vI w, vR j1, vR j2, vR pw, vI u_6] [vI (f (97 + 14 * w + 1)), vR j2, vR pw] (My_71, S) Q
                refine WP.blk 2 ?_
                show sT S (x + 2) = 8 ∧ WP 5 30 140 [vR (x + 86), vR (x + 2), vR (x + 76), vI d, vI w, vR j1, vR j2, vR pw, vI u_6] [vI (My_71 (x + 2) 5), vI (f (97 + 14 * w + 1)), vR j2, vR pw] (My_71, S) Q
                rw [F_75.1.1.2.2.2.2]
                refine ⟨hS.2.1.1, ?_⟩
                refine WP.cl (a := [vR pw, vR j2, vI (f (97 + 14 * w + 1)), vI (f 3)]) (rest := []) rfl rfl rfl rfl ⟨hpi.2.1, trivial⟩ (by decide) (k_carryOut hpi.2 hi2.2 (by omega) hky_71 hRg (by omega) hcolg hld F_78.1 hpl1 F_78.2 hpl.2 (fun My_80 fry_80 hky_80 => ⟨rfl, ?_⟩))
                show WP 5 30 143 [vR (x + 86), vR (x + 2), vR (x + 76), vI d, vI w, vR j1, vR j2, vR pw, vI u_6] [] (My_80, S) Q
                have hwy_80 : InkR My_80 j2 (wrote (sq f t d) w) := by rw [wrote_t hAg hwg hcan, hcg]; exact hky_80
                have r_81 : My_80 (x + 86) = o := (fry_80 _ (by omega)).trans r_72
                have r_82 : My_80 (x + 89) = g_63 := (fry_80 _ (by omega)).trans r_73
                have r_83 : My_80 (x + 90) = tr := (fry_80 _ (by omega)).trans r_74
                have F_84 : AskR My_80 x f := AskR_fr (fun r9 h7 h8 h9 => fry_80 r9 (by omega)) F_75
                have F_85 : InkR My_80 j1 (sq f t d) := InkR_fr (fun r9 h8 h9 => fry_80 r9 (by omega)) F_76
                have F_86 : PlnR My_80 pw f w xg := PlnR_fr (fun r9 h8 h9 => fry_80 r9 (by omega)) F_77
                have F_87 : PlnW My_80 pw cw nw := PlnW_fr (fun r9 h8 h9 => fry_80 r9 (by omega)) F_78
                have fr_88 : (∀ q9, q9 ≠ x + 86 → q9 ≠ x + 89 → q9 ≠ x + 90 → (q9 < j2 ∨ j2 + 4 ≤ q9) → (q9 < pw ∨ pw + 4 ≤ q9) → My_80 q9 = M q9) := fun q9 q0 q1 q2 q3 q4 => (fry_80 q9 (by omega)).trans (fr_79 q9 q0 q1 q2 q3 q4)
                refine WP.blk 5 ?_
                show sT S j2 = 4 ∧ sT S (x + 86) = 5 ∧ WP 5 30 (if cnd .lt (My_80 j2 5) (My_80 (x + 86) 6) = true then 157 else 155) [vR (x + 86), vR (x + 2), vR (x + 76), vI d, vI w, vR j1, vR j2, vR pw, vI u_6] [] (My_80, S) Q
                rw [r_81]
                rw [hwy_80.1.2.2]
                refine ⟨hi2.2.1, hS.2.2.2.2.2.2.2.1.1.1, ?_⟩
                refine br_lt (fun c_89 => ?_) (fun c_89 => ?_)
                · refine WP.blk 2 ?_
                  show (sT S (x + 86) = 5 ∧ sR S (x + 86) 3 ≠ 0) ∧ WP 5 30 161 [vR (x + 86), vR (x + 2), vR (x + 76), vI d, vI w, vR j1, vR j2, vR pw, vI u_6] [vR (sR S (x + 86) 3)] (My_80, S) Q
                  refine ⟨⟨hS.2.2.2.2.2.2.2.1.1.1, by rw [(show sR S (x + 86) 3 = x + 90 from hS.2.2.2.2.2.2.2.1.1.2.2.2.2.1)]; omega⟩, ?_⟩
                  rw [(show sR S (x + 86) 3 = x + 90 from hS.2.2.2.2.2.2.2.1.1.2.2.2.2.1)]
                  refine WP.blk 3 ?_
                  show (sT S (x + 90) = 11 ∧ 0 ≤ d ∧ d < (sN S (x + 90) : Int)) ∧ WP 5 30 165 [vR (x + 86), vR (x + 2), vR (x + 76), vI d, vI w, vR j1, vR j2, vR pw, vI u_6] [] (up My_80 (x + 90) d w, S) Q
                  refine ⟨⟨hS.2.2.2.2.2.2.2.1.2.1.2.2.2.2.2.2.1, by omega, by rw [(show sN S (x + 90) = 7 from hS.2.2.2.2.2.2.2.1.2.1.2.2.2.2.2.2.2.1)]; omega⟩, ?_⟩
                  generalize hM_90 : up My_80 (x + 90) d w = M_90
                  have r_91 : M_90 (x + 86) = o := by rw [← hM_90]; exact (up_row (by omega)).trans r_81
                  have r_92 : M_90 (x + 89) = g_63 := by rw [← hM_90]; exact (up_row (by omega)).trans r_82
                  obtain ⟨g_94, hg_94⟩ : ∃ y9, y9 = uf tr d w := ⟨_, rfl⟩
                  have r_93 : M_90 (x + 90) = g_94 := by rw [← hM_90, hg_94, up_self, r_83]
                  have F_95 : AskR M_90 x f := AskR_fr (fun r9 h7 h8 h9 => by rw [← hM_90]; exact up_row (by omega)) F_84
                  have F_96 : InkR M_90 j1 (sq f t d) := InkR_fr (fun r9 h8 h9 => by rw [← hM_90]; exact up_row (by omega)) F_85
                  have F_97 : PlnR M_90 pw f w xg := PlnR_fr (fun r9 h8 h9 => by rw [← hM_90]; exact up_row (by omega)) F_86
                  have F_98 : PlnW M_90 pw cw nw := PlnW_fr (fun r9 h8 h9 => by rw [← hM_90]; exact up_row (by omega)) F_87
                  have F_99 : InkR M_90 j2 (wrote (sq f t d) w) := InkR_fr (fun r9 h8 h9 => by rw [← hM_90]; exact up_row (by omega)) hwy_80
                  have fr_100 : (∀ q9, q9 ≠ x + 86 → q9 ≠ x + 89 → q9 ≠ x + 90 → (q9 < j2 ∨ j2 + 4 ≤ q9) → (q9 < pw ∨ pw + 4 ≤ q9) → M_90 q9 = M q9) := fun q9 q0 q1 q2 q3 q4 => by rw [← hM_90]; exact (up_row (by omega)).trans (fr_88 q9 q0 q1 q2 q3 q4)
                  refine WP.blk 8 ?_
                  show sT S (x + 86) = 5 ∧ sT S (x + 86) = 5 ∧ WP 5 30 178 [vR (x + 86), vR (x + 2), vR (x + 76), vI d, vI w, vR j1, vR j2, vR pw, vI u_6] [] (up M_90 (x + 86) 5 (iO (M_90 (x + 86) 5) (iL 1 w)), S) Q
                  rw [r_91]
                  refine ⟨hS.2.2.2.2.2.2.2.1.1.1, hS.2.2.2.2.2.2.2.1.1.1, ?_⟩
                  generalize hM_101 : up M_90 (x + 86) 5 (iO (o 5) (iL 1 w)) = M_101
                  obtain ⟨g_103, hg_103⟩ : ∃ y9, y9 = uf o 5 (iO (o 5) (iL 1 w)) := ⟨_, rfl⟩
                  have r_102 : M_101 (x + 86) = g_103 := by rw [← hM_101, hg_103, up_self, r_91]
                  have t_104 : g_103 5 = iO (o 5) (iL 1 w) := by rw [hg_103]; exact uf_at _ _ (by omega)
                  have t_105 : g_103 6 = o 6 := by rw [hg_103]; exact uf_ne (by omega)
                  have r_106 : M_101 (x + 89) = g_63 := by rw [← hM_101]; exact (up_row (by omega)).trans r_92
                  have r_107 : M_101 (x + 90) = g_94 := by rw [← hM_101]; exact (up_row (by omega)).trans r_93
                  have F_108 : AskR M_101 x f := AskR_fr (fun r9 h7 h8 h9 => by rw [← hM_101]; exact up_row (by omega)) F_95
                  have F_109 : InkR M_101 j1 (sq f t d) := InkR_fr (fun r9 h8 h9 => by rw [← hM_101]; exact up_row (by omega)) F_96
                  have F_110 : PlnR M_101 pw f w xg := PlnR_fr (fun r9 h8 h9 => by rw [← hM_101]; exact up_row (by omega)) F_97
                  have F_111 : PlnW M_101 pw cw nw := PlnW_fr (fun r9 h8 h9 => by rw [← hM_101]; exact up_row (by omega)) F_98
                  have F_112 : InkR M_101 j2 (wrote (sq f t d) w) := InkR_fr (fun r9 h8 h9 => by rw [← hM_101]; exact up_row (by omega)) F_99
                  have fr_113 : (∀ q9, q9 ≠ x + 86 → q9 ≠ x + 89 → q9 ≠ x + 90 → (q9 < j2 ∨ j2 + 4 ≤ q9) → (q9 < pw ∨ pw + 4 ≤ q9) → M_101 q9 = M q9) := fun q9 q0 q1 q2 q3 q4 => by rw [← hM_101]; exact (up_row (by omega)).trans (fr_100 q9 q0 q1 q2 q3 q4)
                  refine WP.blk 1 ?_
                  show WP 5 30 179 [vR (x + 86), vR (x + 2), vR (x + 76), vI d, vI w, vR j1, vR j2, vR pw, vI u_6] [vI 1] (M_101, S) Q
                  refine WP.ret rfl rfl rfl ⟨by omega, trivial⟩ ?_
                  refine k _ _ fr_113 (Or.inl ⟨rfl, ⟨fun q a b => ?_, ordp_uf os2 hw (htk.2 (by omega)) (can_i hcan), oink_add hd.1 (oink_fr (fun q a b => fr_113 q (by omega) (by omega) (by omega) (by omega) (by omega)) os3) (by rw [show x + 96 + 4 * d.toNat = j2 by omega]; exact F_112), otk_add os4 hd.1 (by omega) (by rw [r_102, ho]; omega), (fun v a b => by by_cases e : v = w; (rw [e]; exact Or.inr ⟨xg, ⟨hxg.1, hxg.2.1⟩, by rw [r_106, hg_63, uf_eq]; exact huu_6, by rw [show x + 124 + 4 * w.toNat = pw by omega]; exact F_110⟩); exact plF_fr (by rw [r_106, hg_63, uf_ne e, hpf]) (fun q c r => fr_113 q (by omega) (by omega) (by omega) (by omega) (by omega)) (os5 v a b))⟩, by rw [r_102, ho]; omega, by rw [ho]; omega, htk.2 (by omega)⟩)
                  rw [r_107, hg_94]
                  by_cases e : q = d
                  · rw [e, uf_eq, uf_eq]
                  · rw [uf_ne e, uf_ne e, ← htr]
                    exact os1 q a (by omega)
                · refine WP.blk 1 ?_
                  show WP 5 30 156 [vR (x + 86), vR (x + 2), vR (x + 76), vI d, vI w, vR j1, vR j2, vR pw, vI u_6] [vI 0] (My_80, S) Q
                  exact WP.ret rfl rfl rfl ⟨by omega, trivial⟩ (k _ _ fr_88 (Or.inr ⟨rfl, ⟨(fun q a b => by rw [r_83, ← htr]; exact os1 q a b), os2, oink_fr (fun q a b => fr_88 q (by omega) (by omega) (by omega) (by omega) (by omega)) os3, otk_c (by rw [r_81, ho]) os4, (fun v a b => by by_cases e : v = w; (rw [e]; exact Or.inr ⟨xg, ⟨hxg.1, hxg.2.1⟩, by rw [r_82, hg_63, uf_eq]; exact huu_6, by rw [show x + 124 + 4 * w.toNat = pw by omega]; exact F_86⟩); exact plF_fr (by rw [r_82, hg_63, uf_ne e, hpf]) (fun q c r => fr_88 q (by omega) (by omega) (by omega) (by omega) (by omega)) (os5 v a b))⟩, by rw [r_81, ho], Or.inr (Or.inr (by rw [ho]; omega))⟩))
              · refine WP.blk 1 ?_
                show WP 5 30 118 [vR (x + 86), vR (x + 2), vR (x + 76), vI d, vI w, vR j1, vR j2, vR pw, vI u_6] [vI 0] (M_60, S) Q
                exact WP.ret rfl rfl rfl ⟨by omega, trivial⟩ (k _ _ fr_68 (Or.inr ⟨rfl, ⟨(fun q a b => by rw [r_64, ← htr]; exact os1 q a b), os2, oink_fr (fun q a b => fr_68 q (by omega) (by omega) (by omega) (by omega) (by omega)) os3, otk_c (by rw [r_61, ho]) os4, (fun v a b => by by_cases e : v = w; (rw [e]; exact Or.inr ⟨xg, ⟨hxg.1, hxg.2.1⟩, by rw [r_62, hg_63, uf_eq]; exact huu_6, by rw [show x + 124 + 4 * w.toNat = pw by omega]; exact F_67⟩); exact plF_fr (by rw [r_62, hg_63, uf_ne e, hpf]) (fun q c r => fr_68 q (by omega) (by omega) (by omega) (by omega) (by omega)) (os5 v a b))⟩, by rw [r_61, ho], Or.inr (Or.inl (can_n (posR_f hq69 (by omega))))⟩))
          · refine WP.blk 1 ?_
            show WP 5 30 35 [vR (x + 86), vR (x + 2), vR (x + 76), vI d, vI w, none, none, none, none] [vI 0] (M, S) Q
            exact WP.ret rfl rfl rfl ⟨by omega, trivial⟩ (k _ _ (fun _ _ _ _ _ _ => rfl) (Or.inr ⟨rfl, ⟨os1, os2, os3, os4, os5⟩, rfl, Or.inl (htk.1 (by assumption))⟩))
