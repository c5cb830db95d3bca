theorem ord_ink {S : SD} {o : Nat} {d : Int} (h : isOrd S o) (hd : 0 ≤ d ∧ d < 8) : sR S (o + 1) d = o + 6 + 4 * d.toNat ∧ isInks S (o + 6 + 4 * d.toNat) := by
  obtain ⟨n, rfl⟩ := Int.eq_ofNat_of_zero_le hd.1
  have := h.2.2.1 n (by omega)
  rw [Int.toNat_natCast]
  exact this
theorem ord_pln {S : SD} {o : Nat} {w : Int} (h : isOrd S o) (hw : 0 ≤ w ∧ w < 7) : sR S (o + 2) w = o + 38 + 4 * w.toNat ∧ isPlan S (o + 38 + 4 * w.toNat) := by
  obtain ⟨n, rfl⟩ := Int.eq_ofNat_of_zero_le hw.1
  have := h.2.2.2 n (by omega)
  rw [Int.toNat_natCast]
  exact this
set_option maxHeartbeats 4000000 in
theorem k_wordAt {S : SD} {M : Nat → Int → Int} {x : Nat} {i : Int} (hS : isRub S x) (hi : 0 ≤ i ∧ i < 7) {Q : Res → Wd → Prop} (k : Q (0, vI (M (x + 91) i)) (M, S)) : EvQ 1 28 [vR (x + 86), vI i] (M, S) Q := by
  refine EvQ.enter (ls := [vR (x + 86), vI i]) (Nat.le_of_ble_eq_true rfl) rfl ?_
  refine WP.blk 2 ?_
  show WP 0 28 (if cnd .lt i 0 = true then 19 else 4) [vR (x + 86), vI i] [] (M, S) Q
  refine br_lt (fun c_1 => ?_) (fun c_1 => ?_)
  · refine WP.blk 1 ?_
    show WP 0 28 20 [vR (x + 86), vI i] [vI (-1)] (M, S) Q
    exact WP.ret rfl rfl rfl trivial (by exfalso; omega)
  · refine WP.blk 3 ?_
    show WP 0 28 (if cnd .ge i 7 = true then 19 else 10) [vR (x + 86), vI i] [] (M, S) Q
    refine br_ge (fun c_2 => ?_) (fun c_2 => ?_)
    · refine WP.blk 1 ?_
      show WP 0 28 20 [vR (x + 86), vI i] [vI (-1)] (M, S) Q
      exact WP.ret rfl rfl rfl trivial (by exfalso; omega)
    · refine WP.blk 2 ?_
      show (sT S (x + 86) = 5 ∧ sR S (x + 86) 4 ≠ 0) ∧ WP 0 28 14 [vR (x + 86), vI i] [vR (sR S (x + 86) 4)] (M, S) Q
      refine ⟨⟨hS.2.2.2.2.2.2.2.1.1.1, by rw [(show sR S (x + 86) 4 = x + 91 from hS.2.2.2.2.2.2.2.1.1.2.2.2.2.2)]; omega⟩, ?_⟩
      rw [(show sR S (x + 86) 4 = x + 91 from hS.2.2.2.2.2.2.2.1.1.2.2.2.2.2)]
      refine WP.blk 3 ?_
      show ((sT S (x + 91) = 11 ∨ sT S (x + 91) = 16 ∨ sT S (x + 91) = 17) ∧ 0 ≤ i ∧ i < (sN S (x + 91) : Int)) ∧ WP 0 28 20 [vR (x + 86), vI i] [vI (M (x + 91) i)] (M, S) Q
      refine ⟨⟨Or.inl hS.2.2.2.2.2.2.2.1.2.1.2.2.2.2.2.2.2.2.1, by omega, by rw [(show sN S (x + 91) = 7 from hS.2.2.2.2.2.2.2.1.2.1.2.2.2.2.2.2.2.2.2)]; omega⟩, ?_⟩
      exact WP.ret rfl rfl rfl trivial k
set_option maxHeartbeats 4000000 in
theorem k_keep {S : SD} {M : Nat → Int → Int} {x : Nat} {d : Int} (hS : isRub S x) (hd : 0 ≤ d ∧ d ≤ 7) {Q : Res → Wd → Prop} (k : ∀ M2 : Nat → Int → Int, (∀ q9, q9 ≠ x + 86 → q9 ≠ x + 91 → M2 q9 = M q9) → M2 (x + 86) = uf (M (x + 86)) 6 (M (x + 92 + 4 * d.toNat) 5) → M2 (x + 91) = rcp (M (x + 90)) 0 (M (x + 91)) 0 7 → Q (0, none) (M2, S)) : EvQ 1 31 [vR (x + 86), vI d] (M, S) Q := by
  refine EvQ.enter (ls := [vR (x + 86), vI d]) (Nat.le_of_ble_eq_true rfl) rfl ?_
  obtain ⟨o, ho⟩ : ∃ y9, M (x + 86) = y9 := ⟨_, rfl⟩
  obtain ⟨t, ht⟩ : ∃ y9, M (x + 90) = y9 := ⟨_, rfl⟩
  obtain ⟨b, hb⟩ : ∃ y9, M (x + 91) = y9 := ⟨_, rfl⟩
  obtain ⟨j1, hj1⟩ : ∃ j1, j1 = x + 92 + 4 * d.toNat := ⟨_, rfl⟩
  have hio := ord_ink hS.2.2.2.2.2.2.2.1 (d := d) (by omega)
  rw [show x + 86 + 6 + 4 * d.toNat = j1 by omega] at hio
  rw [← hj1] at k
  rw [ho, ht, hb] at k
  refine WP.blk 2 ?_
  show WP 0 31 (if cnd .lt d 0 = true then 47 else 4) [vR (x + 86), vI d] [] (M, S) Q
  refine br_lt (fun c_1 => ?_) (fun c_1 => ?_)
  · exact WP.ret rfl rfl rfl trivial (by exfalso; omega)
  · refine WP.blk 3 ?_
    show WP 0 31 (if cnd .gt d 7 = true then 47 else 10) [vR (x + 86), vI d] [] (M, S) Q
    refine br_gt (fun c_2 => ?_) (fun c_2 => ?_)
    · exact WP.ret rfl rfl rfl trivial (by exfalso; omega)
    · refine WP.blk 2 ?_
      show (sT S (x + 86) = 5 ∧ sR S (x + 86) 0 ≠ 0) ∧ WP 0 31 14 [vR (x + 86), vI d] [vR (sR S (x + 86) 0)] (M, S) Q
      refine ⟨⟨hS.2.2.2.2.2.2.2.1.1.1, by rw [(show sR S (x + 86) 0 = x + 87 from hS.2.2.2.2.2.2.2.1.1.2.1)]; omega⟩, ?_⟩
      rw [(show sR S (x + 86) 0 = x + 87 from hS.2.2.2.2.2.2.2.1.1.2.1)]
      refine WP.blk 2 ?_
      show (ref3 (sT S (x + 87)) ∧ 0 ≤ d ∧ d < (sN S (x + 87) : Int) ∧ sR S (x + 87) d ≠ 0) ∧ WP 0 31 16 [vR (x + 86), vI d] [vR (sR S (x + 87) d)] (M, S) Q
      refine ⟨⟨(Or.inr (Or.inl hS.2.2.2.2.2.2.2.1.2.1.1)), by omega, by rw [(show sN S (x + 87) = 8 from hS.2.2.2.2.2.2.2.1.2.1.2.1)]; omega, by rw [(show sR S (x + 87) d = j1 from hio.1)]; omega⟩, ?_⟩
      rw [(show sR S (x + 87) d = j1 from hio.1)]
      refine WP.blk 4 ?_
      show (sT S (x + 86) = 5 ∧ sR S (x + 86) 0 ≠ 0) ∧ WP 0 31 24 [vR (x + 86), vI d] [vR (sR S (x + 86) 0), vR (x + 86)] (M, S) Q
      refine ⟨⟨hS.2.2.2.2.2.2.2.1.1.1, by rw [(show sR S (x + 86) 0 = x + 87 from hS.2.2.2.2.2.2.2.1.1.2.1)]; omega⟩, ?_⟩
      rw [(show sR S (x + 86) 0 = x + 87 from hS.2.2.2.2.2.2.2.1.1.2.1)]
      refine WP.blk 2 ?_
      show (ref3 (sT S (x + 87)) ∧ 0 ≤ d ∧ d < (sN S (x + 87) : Int) ∧ sR S (x + 87) d ≠ 0) ∧ WP 0 31 26 [vR (x + 86), vI d] [vR (sR S (x + 87) d), vR (x + 86)] (M, S) Q
      refine ⟨⟨(Or.inr (Or.inl hS.2.2.2.2.2.2.2.1.2.1.1)), by omega, by rw [(show sN S (x + 87) = 8 from hS.2.2.2.2.2.2.2.1.2.1.2.1)]; omega, by rw [(show sR S (x + 87) d = j1 from hio.1)]; omega⟩, ?_⟩
      rw [(show sR S (x + 87) d = j1 from hio.1)]
      refine WP.blk 2 ?_
      show sT S j1 = 4 ∧ sT S (x + 86) = 5 ∧ WP 0 31 32 [vR (x + 86), vI d] [] (up M (x + 86) 6 (M j1 5), S) Q
      refine ⟨hio.2.1, hS.2.2.2.2.2.2.2.1.1.1, ?_⟩
      generalize hM_3 : up M (x + 86) 6 (M j1 5) = M_3
      obtain ⟨g_5, hg_5⟩ : ∃ y9, y9 = uf o 6 (M j1 5) := ⟨_, rfl⟩
      have r_4 : M_3 (x + 86) = g_5 := by rw [← hM_3, hg_5, up_self, ho]
      have r_6 : M_3 (x + 90) = t := by rw [← hM_3]; exact (up_row (by omega)).trans ht
      have r_7 : M_3 (x + 91) = b := by rw [← hM_3]; exact (up_row (by omega)).trans hb
      have fr_8 : (∀ q9, q9 ≠ x + 86 → q9 ≠ x + 91 → M_3 q9 = M q9) := fun q9 q0 q1 => by rw [← hM_3]; exact (up_row (by omega)).trans ((fun _ _ _ => rfl) q9 q0 q1)
      refine WP.blk 2 ?_
      show (sT S (x + 86) = 5 ∧ sR S (x + 86) 3 ≠ 0) ∧ WP 0 31 36 [vR (x + 86), vI d] [vR (sR S (x + 86) 3)] (M_3, S) Q
      refine ⟨⟨hS.2.2.2.2.2.2.2.1.1.1, by rw [(show sR S (x + 86) 3 = x + 90 from hS.2.2.2.2.2.2.2.1.1.2.2.2.2.1)]; omega⟩, ?_⟩
      rw [(show sR S (x + 86) 3 = x + 90 from hS.2.2.2.2.2.2.2.1.1.2.2.2.2.1)]
      refine WP.blk 3 ?_
      show (sT S (x + 86) = 5 ∧ sR S (x + 86) 4 ≠ 0) ∧ WP 0 31 41 [vR (x + 86), vI d] [vR (sR S (x + 86) 4), vI 0, vR (x + 90)] (M_3, S) Q
      refine ⟨⟨hS.2.2.2.2.2.2.2.1.1.1, by rw [(show sR S (x + 86) 4 = x + 91 from hS.2.2.2.2.2.2.2.1.1.2.2.2.2.2)]; omega⟩, ?_⟩
      rw [(show sR S (x + 86) 4 = x + 91 from hS.2.2.2.2.2.2.2.1.1.2.2.2.2.2)]
      refine WP.blk 3 ?_
      show (sT S (x + 90) = 11 ∧ sT S (x + 91) = 11 ∧ 0 ≤ 0 ∧ 0 ≤ 0 ∧ 0 ≤ 7 ∧ 0 + 7 ≤ (sN S (x + 90) : Int) ∧ 0 + 7 ≤ (sN S (x + 91) : Int)) ∧ WP 0 31 47 [vR (x + 86), vI d] [] (cpy M_3 (x + 90) 0 (x + 91) 0 7, S) Q
      refine ⟨⟨hS.2.2.2.2.2.2.2.1.2.1.2.2.2.2.2.2.1, hS.2.2.2.2.2.2.2.1.2.1.2.2.2.2.2.2.2.2.1, by omega, by omega, by omega, by rw [(show sN S (x + 90) = 7 from hS.2.2.2.2.2.2.2.1.2.1.2.2.2.2.2.2.2.1)]; omega, by rw [(show sN S (x + 91) = 7 from hS.2.2.2.2.2.2.2.1.2.1.2.2.2.2.2.2.2.2.2)]; omega⟩, ?_⟩
      generalize hM_9 : cpy M_3 (x + 90) 0 (x + 91) 0 7 = M_9
      have r_10 : M_9 (x + 86) = g_5 := by rw [← hM_9]; exact (cpy_row (by omega)).trans r_4
      have r_11 : M_9 (x + 90) = t := by rw [← hM_9]; exact (cpy_row (by omega)).trans r_6
      obtain ⟨g_13, hg_13⟩ : ∃ y9, y9 = rcp t 0 b 0 7 := ⟨_, rfl⟩
      have r_12 : M_9 (x + 91) = g_13 := by rw [← hM_9, hg_13, cpy_self, r_7, r_6]
      have fr_14 : (∀ q9, q9 ≠ x + 86 → q9 ≠ x + 91 → M_9 q9 = M q9) := fun q9 q0 q1 => by rw [← hM_9]; exact (cpy_row (by omega)).trans (fr_8 q9 q0 q1)
      exact WP.ret rfl rfl rfl trivial (k _ fr_14 (by rw [r_10, hg_5]) (by rw [r_12, hg_13]))
theorem plF_use {M : Nat → Int → Int} {x p : Nat} {f g : Int → Int} {w u xg : Int} (h : PlF M x f w) (hu : M (x + 89) w = u) (h0 : 0 ≤ u) (hx : Fresh g xg) (hux : Ux xg u) (hp : p = x + 124 + 4 * w.toNat) : PlnR M p f w xg := by
  subst hp
  rcases h with h | ⟨y, a, b, c⟩
  · omega
  · rw [hu] at b
    rw [ux_x ⟨hx.1, hx.2.1⟩ a hux b]
    exact c
set_option maxHeartbeats 4000000 in
theorem k_advance {S : SD} {M : Nat → Int → Int} {x : Nat} {f : Int → Int} {B : Int} {t : Int → Int} {d w : Int} {j1 j2 pw : Nat} (hS : isRub S x) (has : AskR M x f) (hx3 : 3 ≤ x) (hR : RowOk B f) (hos : OS M x f d t) (hd : 0 ≤ d ∧ d < f 1) (hw : 0 ≤ w ∧ w < f 1) (hj1 : j1 = x + 92 + 4 * d.toNat) (hj2 : j2 = x + 96 + 4 * d.toNat) (hpw0 : pw = x + 124 + 4 * w.toNat) (hB : 0 ≤ B ∧ B ≤ 1000000000 - 400) {Q : Res → Wd → Prop} (k : ∀ (b : Int) (M2 : Nat → Int → Int), (∀ q9, q9 ≠ x + 86 → q9 ≠ x + 89 → q9 ≠ x + 90 → (q9 < j2 ∨ j2 + 4 ≤ q9) → (q9 < pw ∨ pw + 4 ≤ q9) → M2 q9 = M q9) → (b = 1 ∧ OS M2 x f (d + 1) (uf t d w) ∧ M2 (x + 86) 6 = M (x + 86) 6 ∧ (M (x + 86) 6 = -1 ∨ wrote (sq f t d) w 6 < M (x + 86) 6) ∧ ∀ j, 0 ≤ j → j < d → ¬ t j = w) ∨ (b = 0 ∧ OS M2 x f d t ∧ M2 (x + 86) 6 = M (x + 86) 6 ∧ AdvN f t d w (M (x + 86) 6)) → Q (0, vI b) (M2, S)) : EvQ 6 30 [vR (x + 86), vR (x + 2), vR (x + 76), vI d, vI w] (M, S) Q := by
  refine EvQ.enter (ls := [vR (x + 86), vR (x + 2), vR (x + 76), vI d, vI w, none, none, none, none]) (Nat.le_of_ble_eq_true rfl) rfl ?_
  obtain ⟨o, ho⟩ : ∃ y9, M (x + 86) = y9 := ⟨_, rfl⟩
  obtain ⟨pf, hpf⟩ : ∃ y9, M (x + 89) = y9 := ⟨_, rfl⟩
  obtain ⟨tr, htr⟩ : ∃ y9, M (x + 90) = y9 := ⟨_, rfl⟩
  have hA := hR.1
  have hA1 := hA.1
  have hWA := hR.2.1
  have hW1 := hWA.1
  obtain ⟨os1, os2, os3, os4, os5⟩ := hos
  obtain ⟨hRg, hio, hb1, hb2⟩ := sq_big hR hB (by omega) hd os2 hw
  have hib := os3 d hd.1 (Int.le_refl _)
  rw [← hj1] at hib
  have hAg := hRg.1
  have hAg1 := hAg.1
  have hg0 := hio.1
  have hg1 := hio.2.1
  have hIg := hRg.2.2
  obtain ⟨xg, hxg⟩ := fresh_ex hAg1
  have hshl := io_shl hio (by omega) has.1.1
  have hwg := (hRg.2.1.2 w hw.1 (by omega)).1
  have hcolg : 0 ≤ f (97 + 14 * w + 1) ∧ f (97 + 14 * w + 1) ≤ 3 := (hWA.2 w hw.1 hw.2).2
  have hcg : sq f t d (97 + 14 * w + 1) = f (97 + 14 * w + 1) := hio.2.2.2.2.2 _ (by omega)
  have hlim : f 2 = sq f t d 2 := hio.2.2.1.symm
  have hld : f 3 = sq f t d 3 := hio.2.2.2.1.symm
  have hWrg : ∀ s, 0 ≤ s → s < sq f t d 0 → 0 ≤ sq f t d (7 + 9 * s + 8) ∧ sq f t d (7 + 9 * s + 8) ≤ 1000000000 := fun s a b => ⟨(hIg.1 s a b).2.2.1, by have := (hIg.1 s a b).2.2.2; omega⟩
  have hi1 := ord_ink hS.2.2.2.2.2.2.2.1 (d := d) (by omega)
  have hi2 := ord_ink hS.2.2.2.2.2.2.2.1 (d := d + 1) (by omega)
  have hpi := ord_pln hS.2.2.2.2.2.2.2.1 (w := w) (by omega)
  rw [show x + 86 + 6 + 4 * d.toNat = j1 by omega] at hi1
  rw [show x + 86 + 6 + 4 * (d + 1).toNat = j2 by omega] at hi2
  rw [show x + 86 + 38 + 4 * w.toNat = pw by omega] at hpi
  have htk := otk_n os4 (show 0 ≤ w ∧ w < 7 by omega)
  rw [ho] at htk
  have hpl0 := os5 w hw.1 hw.2
  refine WP.blk 2 ?_
  show WP 5 30 (if cnd .lt d 0 = true then 34 else 4) [vR (x + 86), vR (x + 2), vR (x + 76), vI d, vI w, none, none, none, none] [] (M, S) Q
  refine br_lt (fun c_1 => ?_) (fun c_1 => ?_)
  · refine WP.blk 1 ?_
    show WP 5 30 35 [vR (x + 86), vR (x + 2), vR (x + 76), vI d, vI w, none, none, none, none] [vI 0] (M, S) Q
    exact WP.ret rfl rfl rfl ⟨by omega, trivial⟩ (by exfalso; omega)
  · refine WP.blk 3 ?_
    show WP 5 30 (if cnd .ge d 7 = true then 34 else 10) [vR (x + 86), vR (x + 2), vR (x + 76), vI d, vI w, none, none, none, none] [] (M, S) Q
    refine br_ge (fun c_2 => ?_) (fun c_2 => ?_)
    · refine WP.blk 1 ?_
      show WP 5 30 35 [vR (x + 86), vR (x + 2), vR (x + 76), vI d, vI w, none, none, none, none] [vI 0] (M, S) Q
      exact WP.ret rfl rfl rfl ⟨by omega, trivial⟩ (by exfalso; omega)
    · refine WP.blk 2 ?_
      show WP 5 30 (if cnd .lt w 0 = true then 34 else 15) [vR (x + 86), vR (x + 2), vR (x + 76), vI d, vI w, none, none, none, none] [] (M, S) Q
      refine br_lt (fun c_3 => ?_) (fun c_3 => ?_)
      · refine WP.blk 1 ?_
        show WP 5 30 35 [vR (x + 86), vR (x + 2), vR (x + 76), vI d, vI w, none, none, none, none] [vI 0] (M, S) Q
        exact WP.ret rfl rfl rfl ⟨by omega, trivial⟩ (by exfalso; omega)
      · refine WP.blk 3 ?_
        show WP 5 30 (if cnd .ge w 7 = true then 34 else 22) [vR (x + 86), vR (x + 2), vR (x + 76), vI d, vI w, none, none, none, none] [] (M, S) Q
        refine br_ge (fun c_4 => ?_) (fun c_4 => ?_)
        · refine WP.blk 1 ?_
          show WP 5 30 35 [vR (x + 86), vR (x + 2), vR (x + 76), vI d, vI w, none, none, none, none] [vI 0] (M, S) Q
          exact WP.ret rfl rfl rfl ⟨by omega, trivial⟩ (by exfalso; omega)
        · refine WP.blk 7 ?_
          show sT S (x + 86) = 5 ∧ WP 5 30 (if cnd .eq (iA (iR (M (x + 86) 5) w) 1) 0 = true then 36 else 34) [vR (x + 86), vR (x + 2), vR (x + 76), vI d, vI w, none, none, none, none] [] (M, S) Q
          rw [ho]
          refine ⟨hS.2.2.2.2.2.2.2.1.1.1, ?_⟩
          refine br_eq (fun c_5 => ?_) (fun c_5 => ?_)
          · refine WP.blk 2 ?_
            show (sT S (x + 86) = 5 ∧ sR S (x + 86) 0 ≠ 0) ∧ WP 5 30 40 [vR (x + 86), vR (x + 2), vR (x + 76), vI d, vI w, none, none, none, none] [vR (sR S (x + 86) 0)] (M, S) Q
            refine ⟨⟨hS.2.2.2.2.2.2.2.1.1.1, by rw [(show sR S (x + 86) 0 = x + 87 from hS.2.2.2.2.2.2.2.1.1.2.1)]; omega⟩, ?_⟩
            rw [(show sR S (x + 86) 0 = x + 87 from hS.2.2.2.2.2.2.2.1.1.2.1)]
            refine WP.blk 2 ?_
            show (ref3 (sT S (x + 87)) ∧ 0 ≤ d ∧ d < (sN S (x + 87) : Int) ∧ sR S (x + 87) d ≠ 0) ∧ WP 5 30 42 [vR (x + 86), vR (x + 2), vR (x + 76), vI d, vI w, none, none, none, none] [vR (sR S (x + 87) d)] (M, S) Q
            refine ⟨⟨(Or.inr (Or.inl hS.2.2.2.2.2.2.2.1.2.1.1)), by omega, by rw [(show sN S (x + 87) = 8 from hS.2.2.2.2.2.2.2.1.2.1.2.1)]; omega, by rw [(show sR S (x + 87) d = j1 from hi1.1)]; omega⟩, ?_⟩
            rw [(show sR S (x + 87) d = j1 from hi1.1)]
            refine WP.blk 3 ?_
            show (sT S (x + 86) = 5 ∧ sR S (x + 86) 0 ≠ 0) ∧ WP 5 30 48 [vR (x + 86), vR (x + 2), vR (x + 76), vI d, vI w, vR j1, none, none, none] [vR (sR S (x + 86) 0)] (M, S) Q
            refine ⟨⟨hS.2.2.2.2.2.2.2.1.1.1, by rw [(show sR S (x + 86) 0 = x + 87 from hS.2.2.2.2.2.2.2.1.1.2.1)]; omega⟩, ?_⟩
            rw [(show sR S (x + 86) 0 = x + 87 from hS.2.2.2.2.2.2.2.1.1.2.1)]
            refine WP.blk 4 ?_
            show ir (d + 1) ∧ (ref3 (sT S (x + 87)) ∧ 0 ≤ (d + 1) ∧ (d + 1) < (sN S (x + 87) : Int) ∧ sR S (x + 87) (d + 1) ≠ 0) ∧ WP 5 30 52 [vR (x + 86), vR (x + 2), vR (x + 76), vI d, vI w, vR j1, none, none, none] [vR (sR S (x + 87) (d + 1))] (M, S) Q
            refine ⟨(by unfold ir; omega), ⟨(Or.inr (Or.inl hS.2.2.2.2.2.2.2.1.2.1.1)), by omega, by rw [(show sN S (x + 87) = 8 from hS.2.2.2.2.2.2.2.1.2.1.2.1)]; omega, by rw [(show sR S (x + 87) (d + 1) = j2 from hi2.1)]; omega⟩, ?_⟩
            rw [(show sR S (x + 87) (d + 1) = j2 from hi2.1)]
            refine WP.blk 3 ?_
            show (sT S (x + 86) = 5 ∧ sR S (x + 86) 1 ≠ 0) ∧ WP 5 30 58 [vR (x + 86), vR (x + 2), vR (x + 76), vI d, vI w, vR j1, vR j2, none, none] [vR (sR S (x + 86) 1)] (M, S) Q
            refine ⟨⟨hS.2.2.2.2.2.2.2.1.1.1, by rw [(show sR S (x + 86) 1 = x + 88 from hS.2.2.2.2.2.2.2.1.1.2.2.1)]; omega⟩, ?_⟩
            rw [(show sR S (x + 86) 1 = x + 88 from hS.2.2.2.2.2.2.2.1.1.2.2.1)]
            refine WP.blk 2 ?_
            show (ref3 (sT S (x + 88)) ∧ 0 ≤ w ∧ w < (sN S (x + 88) : Int) ∧ sR S (x + 88) w ≠ 0) ∧ WP 5 30 61 [vR (x + 86), vR (x + 2), vR (x + 76), vI d, vI w, vR j1, vR j2, none, none] [vR (sR S (x + 88) w)] (M, S) Q
            refine ⟨⟨(Or.inr (Or.inr hS.2.2.2.2.2.2.2.1.2.1.2.2.1)), by omega, by rw [(show sN S (x + 88) = 7 from hS.2.2.2.2.2.2.2.1.2.1.2.2.2.1)]; omega, by rw [(show sR S (x + 88) w = pw from hpi.1)]; omega⟩, ?_⟩
            rw [(show sR S (x + 88) w = pw from hpi.1)]
            refine WP.blk 9 ?_
            show WP 5 30 83 [vR (x + 86), vR (x + 2), vR (x + 76), vI d, vI w, vR j1, vR j2, vR pw, none] [vR j1, vR (x + 2)] (M, S) Q
            refine WP.cl (a := [vR (x + 2), vR j1]) (rest := []) rfl rfl rfl rfl ⟨hS.2.1.1, trivial⟩ (by decide) (k_pressesLeft hS.2.1 hi1.2 hshl.1 hshl.2.2.2 hib hAg1 (fun u_6 hpu_6 => ⟨rfl, ?_⟩))
            show WP 5 30 86 [vR (x + 86), vR (x + 2), vR (x + 76), vI d, vI w, vR j1, vR j2, vR pw, none] [vI u_6] (M, S) Q
            have huu_6 := PL_ux hxg hpu_6
            have huru_6 := huu_6.1.1
            refine WP.blk 3 ?_
            show (sT S (x + 86) = 5 ∧ sR S (x + 86) 2 ≠ 0) ∧ WP 5 30 92 [vR (x + 86), vR (x + 2), vR (x + 76), vI d, vI w, vR j1, vR j2, vR pw, vI u_6] [vR (sR S (x + 86) 2)] (M, S) Q
            refine ⟨⟨hS.2.2.2.2.2.2.2.1.1.1, by rw [(show sR S (x + 86) 2 = x + 89 from hS.2.2.2.2.2.2.2.1.1.2.2.2.1)]; omega⟩, ?_⟩
            rw [(show sR S (x + 86) 2 = x + 89 from hS.2.2.2.2.2.2.2.1.1.2.2.2.1)]
            refine WP.blk 4 ?_
            show ((sT S (x + 89) = 11 ∨ sT S (x + 89) = 16 ∨ sT S (x + 89) = 17) ∧ 0 ≤ w ∧ w < (sN S (x + 89) : Int)) ∧ WP 5 30 (if cnd .eq (M (x + 89) w) u_6 = true then 120 else 100) [vR (x + 86), vR (x + 2), vR (x + 76), vI d, vI w, vR j1, vR j2, vR pw, vI u_6] [] (M, S) Q
            rw [hpf]
            refine ⟨⟨Or.inl hS.2.2.2.2.2.2.2.1.2.1.2.2.2.2.1, by omega, by rw [(show sN S (x + 89) = 7 from hS.2.2.2.2.2.2.2.1.2.1.2.2.2.2.2.1)]; omega⟩, ?_⟩
            refine br_eq (fun c_7 => ?_) (fun c_7 => ?_)
            · have hpn9 : PlnR M pw f w xg := plF_use hpl0 (by rw [hpf]; exact c_7) (by omega) hxg huu_6 (show pw = x + 124 + 4 * w.toNat by omega)
              have hpfu : pf w = u_6 := c_7
              refine WP.blk 4 ?_
              show sT S (x + 2) = 8 ∧ WP 5 30 128 [vR (x + 86), vR (x + 2), vR (x + 76), vI d, vI w, vR j1, vR j2, vR pw, vI u_6] [vI (M (x + 2) 4), vR j1, vR pw] (M, S) Q
              rw [has.1.1.2.2.2.1]
              refine ⟨hS.2.1.1, ?_⟩
              refine WP.cl (a := [vR pw, vR j1, vI (f 2)]) (rest := []) rfl rfl rfl rfl ⟨hpi.2.1, trivial⟩ (by decide) (k_possible hpi.2 hi1.2 hib hAg hwg hxg (plnR_io hio hA (hWA.2 w (by omega) (by omega)).1 hpn9) hlim hWrg (fun q8 hq8 => ⟨rfl, ?_⟩))
              show WP 5 30 131 [vR (x + 86), vR (x + 2), vR (x + 76), vI d, vI w, vR j1, vR j2, vR pw, vI u_6] [vI q8] (M, S) Q
              replace hq8 : PosR M pw (sq f t d) w q8 := hq8
              have hz8 := posR_b hq8
              refine WP.blk 1 ?_
              show WP 5 30 (if cnd .ne q8 0 = true then 136 else 134) [vR (x + 86), vR (x + 2), vR (x + 76), vI d, vI w, vR j1, vR j2, vR pw, vI u_6] [] (M, S) Q
              refine br_ne (fun c_9 => ?_) (fun c_9 => ?_)
              · obtain ⟨nw, cw, hcan, hpw1, hpw2⟩ := posR_t hq8 (by omega)
                have hpw9 : PlnW M pw cw nw := ⟨hpw1, hpw2⟩
                clear hpw1 hpw2
                have hpl := wrt_pl hAg hwg hcan
                have hpl1 := hpl.1
                refine WP.blk 2 ?_
                show WP 5 30 140 [vR (x + 86), vR (x + 2), vR (x + 76), vI d, vI w, vR j1, vR j2, vR pw, vI u_6] [vR j1, vR j2] (M, S) Q
                refine WP.cl (a := [vR j2, vR j1]) (rest := []) rfl rfl rfl rfl ⟨hi2.2.1, trivial⟩ (by decide) (k_copyInks hi2.2 hi1.2 (by omega) hib (by omega) (fun My_10 fry_10 hky_10 => ⟨rfl, ?_⟩))
                show WP 5 30 143 [vR (x + 86), vR (x + 2), vR (x + 76), vI d, vI w, vR j1, vR j2, vR pw, vI u_6] [] (My_10, S) Q
                have r_11 : My_10 (x + 86) = o := (fry_10 _ (by omega)).trans ho
                have r_12 : My_10 (x + 89) = pf := (fry_10 _ (by omega)).trans hpf
                have r_13 : My_10 (x + 90) = tr := (fry_10 _ (by omega)).trans htr
                have F_14 : AskR My_10 x f := AskR_fr (fun r9 h7 h8 h9 => fry_10 r9 (by omega)) has
                have F_15 : InkR My_10 j1 (sq f t d) := InkR_fr (fun r9 h8 h9 => fry_10 r9 (by omega)) hib
                have F_16 : PlnR My_10 pw f w xg := PlnR_fr (fun r9 h8 h9 => fry_10 r9 (by omega)) hpn9
                have F_17 : PlnW My_10 pw cw nw := PlnW_fr (fun r9 h8 h9 => fry_10 r9 (by omega)) hpw9
                have fr_18 : (∀ q9, q9 ≠ x + 86 → q9 ≠ x + 89 → q9 ≠ x + 90 → (q9 < j2 ∨ j2 + 4 ≤ q9) → (q9 < pw ∨ pw + 4 ≤ q9) → My_10 q9 = M q9) := fun q9 q0 q1 q2 q3 q4 => (fry_10 q9 (by omega)).trans ((fun _ _ _ _ _ _ => rfl) q9 q0 q1 q2 q3 q4)
                refine WP.blk 4 ?_
                show WP 5 30 150 [vR (x + 86), vR (x + 2), vR (x + 76), vI d, vI w, vR j1, vR j2, vR pw, vI u_6] [vI w, vR (x + 2), vR j2, vR pw] (My_10, S) Q
                refine WP.cl (a := [vR (x + 2), vI w]) (rest := [vR j2, vR pw]) rfl rfl rfl rfl ⟨hS.2.1.1, trivial⟩ (by decide) (k_colorOf hS.2.1 F_14.1.1.2.2.1 (by omega) (by omega) ⟨rfl, ?_⟩)
                show WP 5 30 153 [vR (x + 86), vR (x + 2), vR (x + 76), vI d, vI w, vR j1, vR j2, vR pw, vI u_6] [vI (f (97 + 14 * w + 1)), vR j2, vR pw] (My_10, S) Q
                refine WP.blk 2 ?_
                show sT S (x + 2) = 8 ∧ WP 5 30 157 [vR (x + 86), vR (x + 2), vR (x + 76), vI d, vI w, vR j1, vR j2, vR pw, vI u_6] [vI (My_10 (x + 2) 5), vI (f (97 + 14 * w + 1)), vR j2, vR pw] (My_10, S) Q
                rw [F_14.1.1.2.2.2.2]
                refine ⟨hS.2.1.1, ?_⟩
                refine WP.cl (a := [vR pw, vR j2, vI (f (97 + 14 * w + 1)), vI (f 3)]) (rest := []) rfl rfl rfl rfl ⟨hpi.2.1, trivial⟩ (by decide) (k_carryOut hpi.2 hi2.2 (by omega) hky_10 hRg (by omega) hcolg hld F_17.1 hpl1 F_17.2 hpl.2 (fun My_19 fry_19 hky_19 => ⟨rfl, ?_⟩))
                show WP 5 30 160 [vR (x + 86), vR (x + 2), vR (x + 76), vI d, vI w, vR j1, vR j2, vR pw, vI u_6] [] (My_19, S) Q
                have hwy_19 : InkR My_19 j2 (wrote (sq f t d) w) := by rw [wrote_t hAg hwg hcan, hcg]; exact hky_19
                have r_20 : My_19 (x + 86) = o := (fry_19 _ (by omega)).trans r_11
                have r_21 : My_19 (x + 89) = pf := (fry_19 _ (by omega)).trans r_12
                have r_22 : My_19 (x + 90) = tr := (fry_19 _ (by omega)).trans r_13
                have F_23 : AskR My_19 x f := AskR_fr (fun r9 h7 h8 h9 => fry_19 r9 (by omega)) F_14
                have F_24 : InkR My_19 j1 (sq f t d) := InkR_fr (fun r9 h8 h9 => fry_19 r9 (by omega)) F_15
                have F_25 : PlnR My_19 pw f w xg := PlnR_fr (fun r9 h8 h9 => fry_19 r9 (by omega)) F_16
                have F_26 : PlnW My_19 pw cw nw := PlnW_fr (fun r9 h8 h9 => fry_19 r9 (by omega)) F_17
                have fr_27 : (∀ q9, q9 ≠ x + 86 → q9 ≠ x + 89 → q9 ≠ x + 90 → (q9 < j2 ∨ j2 + 4 ≤ q9) → (q9 < pw ∨ pw + 4 ≤ q9) → My_19 q9 = M q9) := fun q9 q0 q1 q2 q3 q4 => (fry_19 q9 (by omega)).trans (fr_18 q9 q0 q1 q2 q3 q4)
                refine WP.blk 4 ?_
                show sT S (x + 86) = 5 ∧ WP 5 30 (if cnd .eq (My_19 (x + 86) 6) (-1) = true then 182 else 168) [vR (x + 86), vR (x + 2), vR (x + 76), vI d, vI w, vR j1, vR j2, vR pw, vI u_6] [] (My_19, S) Q
                rw [r_20]
                refine ⟨hS.2.2.2.2.2.2.2.1.1.1, ?_⟩
                refine br_eq (fun c_28 => ?_) (fun c_28 => ?_)
                · refine WP.blk 2 ?_
                  show (sT S (x + 86) = 5 ∧ sR S (x + 86) 3 ≠ 0) ∧ WP 5 30 186 [vR (x + 86), vR (x + 2), vR (x + 76), vI d, vI w, vR j1, vR j2, vR pw, vI u_6] [vR (sR S (x + 86) 3)] (My_19, S) Q
                  refine ⟨⟨hS.2.2.2.2.2.2.2.1.1.1, by rw [(show sR S (x + 86) 3 = x + 90 from hS.2.2.2.2.2.2.2.1.1.2.2.2.2.1)]; omega⟩, ?_⟩
                  rw [(show sR S (x + 86) 3 = x + 90 from hS.2.2.2.2.2.2.2.1.1.2.2.2.2.1)]
                  refine WP.blk 3 ?_
                  show (sT S (x + 90) = 11 ∧ 0 ≤ d ∧ d < (sN S (x + 90) : Int)) ∧ WP 5 30 190 [vR (x + 86), vR (x + 2), vR (x + 76), vI d, vI w, vR j1, vR j2, vR pw, vI u_6] [] (up My_19 (x + 90) d w, S) Q
                  refine ⟨⟨hS.2.2.2.2.2.2.2.1.2.1.2.2.2.2.2.2.1, by omega, by rw [(show sN S (x + 90) = 7 from hS.2.2.2.2.2.2.2.1.2.1.2.2.2.2.2.2.2.1)]; omega⟩, ?_⟩
                  generalize hM_29 : up My_19 (x + 90) d w = M_29
                  have r_30 : M_29 (x + 86) = o := by rw [← hM_29]; exact (up_row (by omega)).trans r_20
                  have r_31 : M_29 (x + 89) = pf := by rw [← hM_29]; exact (up_row (by omega)).trans r_21
                  obtain ⟨g_33, hg_33⟩ : ∃ y9, y9 = uf tr d w := ⟨_, rfl⟩
                  have r_32 : M_29 (x + 90) = g_33 := by rw [← hM_29, hg_33, up_self, r_22]
                  have F_34 : AskR M_29 x f := AskR_fr (fun r9 h7 h8 h9 => by rw [← hM_29]; exact up_row (by omega)) F_23
                  have F_35 : InkR M_29 j1 (sq f t d) := InkR_fr (fun r9 h8 h9 => by rw [← hM_29]; exact up_row (by omega)) F_24
                  have F_36 : PlnR M_29 pw f w xg := PlnR_fr (fun r9 h8 h9 => by rw [← hM_29]; exact up_row (by omega)) F_25
                  have F_37 : PlnW M_29 pw cw nw := PlnW_fr (fun r9 h8 h9 => by rw [← hM_29]; exact up_row (by omega)) F_26
                  have F_38 : InkR M_29 j2 (wrote (sq f t d) w) := InkR_fr (fun r9 h8 h9 => by rw [← hM_29]; exact up_row (by omega)) hwy_19
                  have fr_39 : (∀ q9, q9 ≠ x + 86 → q9 ≠ x + 89 → q9 ≠ x + 90 → (q9 < j2 ∨ j2 + 4 ≤ q9) → (q9 < pw ∨ pw + 4 ≤ q9) → M_29 q9 = M q9) := fun q9 q0 q1 q2 q3 q4 => by rw [← hM_29]; exact (up_row (by omega)).trans (fr_27 q9 q0 q1 q2 q3 q4)
                  refine WP.blk 8 ?_
                  show sT S (x + 86) = 5 ∧ sT S (x + 86) = 5 ∧ WP 5 30 203 [vR (x + 86), vR (x + 2), vR (x + 76), vI d, vI w, vR j1, vR j2, vR pw, vI u_6] [] (up M_29 (x + 86) 5 (iO (M_29 (x + 86) 5) (iL 1 w)), S) Q
                  rw [r_30]
                  refine ⟨hS.2.2.2.2.2.2.2.1.1.1, hS.2.2.2.2.2.2.2.1.1.1, ?_⟩
                  generalize hM_40 : up M_29 (x + 86) 5 (iO (o 5) (iL 1 w)) = M_40
                  obtain ⟨g_42, hg_42⟩ : ∃ y9, y9 = uf o 5 (iO (o 5) (iL 1 w)) := ⟨_, rfl⟩
                  have r_41 : M_40 (x + 86) = g_42 := by rw [← hM_40, hg_42, up_self, r_30]
                  have t_43 : g_42 5 = iO (o 5) (iL 1 w) := by rw [hg_42]; exact uf_at _ _ (by omega)
                  have t_44 : g_42 6 = o 6 := by rw [hg_42]; exact uf_ne (by omega)
                  have r_45 : M_40 (x + 89) = pf := by rw [← hM_40]; exact (up_row (by omega)).trans r_31
                  have r_46 : M_40 (x + 90) = g_33 := by rw [← hM_40]; exact (up_row (by omega)).trans r_32
                  have F_47 : AskR M_40 x f := AskR_fr (fun r9 h7 h8 h9 => by rw [← hM_40]; exact up_row (by omega)) F_34
                  have F_48 : InkR M_40 j1 (sq f t d) := InkR_fr (fun r9 h8 h9 => by rw [← hM_40]; exact up_row (by omega)) F_35
                  have F_49 : PlnR M_40 pw f w xg := PlnR_fr (fun r9 h8 h9 => by rw [← hM_40]; exact up_row (by omega)) F_36
                  have F_50 : PlnW M_40 pw cw nw := PlnW_fr (fun r9 h8 h9 => by rw [← hM_40]; exact up_row (by omega)) F_37
                  have F_51 : InkR M_40 j2 (wrote (sq f t d) w) := InkR_fr (fun r9 h8 h9 => by rw [← hM_40]; exact up_row (by omega)) F_38
                  have fr_52 : (∀ q9, q9 ≠ x + 86 → q9 ≠ x + 89 → q9 ≠ x + 90 → (q9 < j2 ∨ j2 + 4 ≤ q9) → (q9 < pw ∨ pw + 4 ≤ q9) → M_40 q9 = M q9) := fun q9 q0 q1 q2 q3 q4 => by rw [← hM_40]; exact (up_row (by omega)).trans (fr_39 q9 q0 q1 q2 q3 q4)
                  refine WP.blk 1 ?_
                  show WP 5 30 204 [vR (x + 86), vR (x + 2), vR (x + 76), vI d, vI w, vR j1, vR j2, vR pw, vI u_6] [vI 1] (M_40, S) Q
                  refine WP.ret rfl rfl rfl ⟨by omega, trivial⟩ ?_
                  refine k _ _ fr_52 (Or.inl ⟨rfl, ⟨fun q a b => ?_, ordp_uf os2 hw (htk.2 (by omega)) (can_i hcan), oink_add hd.1 (oink_fr (fun q a b => fr_52 q (by omega) (by omega) (by omega) (by omega) (by omega)) os3) (by rw [show x + 96 + 4 * d.toNat = j2 by omega]; exact F_51), otk_add os4 hd.1 (by omega) (by rw [r_41, ho]; omega), (fun v a b => by by_cases e : v = w; (rw [e]; exact Or.inr ⟨xg, ⟨hxg.1, hxg.2.1⟩, by rw [r_45, hpfu]; exact huu_6, by rw [show x + 124 + 4 * w.toNat = pw by omega]; exact F_49⟩); exact plF_fr (by rw [r_45, hpf]) (fun q c r => fr_52 q (by omega) (by omega) (by omega) (by omega) (by omega)) (os5 v a b))⟩, by rw [r_41, ho]; omega, by rw [ho]; omega, htk.2 (by omega)⟩)
                  rw [r_46, hg_33]
                  by_cases e : q = d
                  · rw [e, uf_eq, uf_eq]
                  · rw [uf_ne e, uf_ne e, ← htr]
                    exact os1 q a (by omega)
                · refine WP.blk 5 ?_
                  show sT S j2 = 4 ∧ sT S (x + 86) = 5 ∧ WP 5 30 (if cnd .lt (My_19 j2 5) (My_19 (x + 86) 6) = true then 182 else 180) [vR (x + 86), vR (x + 2), vR (x + 76), vI d, vI w, vR j1, vR j2, vR pw, vI u_6] [] (My_19, S) Q
                  rw [r_20]
                  rw [hwy_19.1.2.2]
                  refine ⟨hi2.2.1, hS.2.2.2.2.2.2.2.1.1.1, ?_⟩
                  refine br_lt (fun c_53 => ?_) (fun c_53 => ?_)
                  · refine WP.blk 2 ?_
                    show (sT S (x + 86) = 5 ∧ sR S (x + 86) 3 ≠ 0) ∧ WP 5 30 186 [vR (x + 86), vR (x + 2), vR (x + 76), vI d, vI w, vR j1, vR j2, vR pw, vI u_6] [vR (sR S (x + 86) 3)] (My_19, S) Q
                    refine ⟨⟨hS.2.2.2.2.2.2.2.1.1.1, by rw [(show sR S (x + 86) 3 = x + 90 from hS.2.2.2.2.2.2.2.1.1.2.2.2.2.1)]; omega⟩, ?_⟩
                    rw [(show sR S (x + 86) 3 = x + 90 from hS.2.2.2.2.2.2.2.1.1.2.2.2.2.1)]
                    refine WP.blk 3 ?_
                    show (sT S (x + 90) = 11 ∧ 0 ≤ d ∧ d < (sN S (x + 90) : Int)) ∧ WP 5 30 190 [vR (x + 86), vR (x + 2), vR (x + 76), vI d, vI w, vR j1, vR j2, vR pw, vI u_6] [] (up My_19 (x + 90) d w, S) Q
                    refine ⟨⟨hS.2.2.2.2.2.2.2.1.2.1.2.2.2.2.2.2.1, by omega, by rw [(show sN S (x + 90) = 7 from hS.2.2.2.2.2.2.2.1.2.1.2.2.2.2.2.2.2.1)]; omega⟩, ?_⟩
                    generalize hM_54 : up My_19 (x + 90) d w = M_54
                    have r_55 : M_54 (x + 86) = o := by rw [← hM_54]; exact (up_row (by omega)).trans r_20
                    have r_56 : M_54 (x + 89) = pf := by rw [← hM_54]; exact (up_row (by omega)).trans r_21
                    obtain ⟨g_58, hg_58⟩ : ∃ y9, y9 = uf tr d w := ⟨_, rfl⟩
                    have r_57 : M_54 (x + 90) = g_58 := by rw [← hM_54, hg_58, up_self, r_22]
                    have F_59 : AskR M_54 x f := AskR_fr (fun r9 h7 h8 h9 => by rw [← hM_54]; exact up_row (by omega)) F_23
                    have F_60 : InkR M_54 j1 (sq f t d) := InkR_fr (fun r9 h8 h9 => by rw [← hM_54]; exact up_row (by omega)) F_24
                    have F_61 : PlnR M_54 pw f w xg := PlnR_fr (fun r9 h8 h9 => by rw [← hM_54]; exact up_row (by omega)) F_25
                    have F_62 : PlnW M_54 pw cw nw := PlnW_fr (fun r9 h8 h9 => by rw [← hM_54]; exact up_row (by omega)) F_26
                    have F_63 : InkR M_54 j2 (wrote (sq f t d) w) := InkR_fr (fun r9 h8 h9 => by rw [← hM_54]; exact up_row (by omega)) hwy_19
                    have fr_64 : (∀ q9, q9 ≠ x + 86 → q9 ≠ x + 89 → q9 ≠ x + 90 → (q9 < j2 ∨ j2 + 4 ≤ q9) → (q9 < pw ∨ pw + 4 ≤ q9) → M_54 q9 = M q9) := fun q9 q0 q1 q2 q3 q4 => by rw [← hM_54]; exact (up_row (by omega)).trans (fr_27 q9 q0 q1 q2 q3 q4)
                    refine WP.blk 8 ?_
                    show sT S (x + 86) = 5 ∧ sT S (x + 86) = 5 ∧ WP 5 30 203 [vR (x + 86), vR (x + 2), vR (x + 76), vI d, vI w, vR j1, vR j2, vR pw, vI u_6] [] (up M_54 (x + 86) 5 (iO (M_54 (x + 86) 5) (iL 1 w)), S) Q
                    rw [r_55]
                    refine ⟨hS.2.2.2.2.2.2.2.1.1.1, hS.2.2.2.2.2.2.2.1.1.1, ?_⟩
                    generalize hM_65 : up M_54 (x + 86) 5 (iO (o 5) (iL 1 w)) = M_65
                    obtain ⟨g_67, hg_67⟩ : ∃ y9, y9 = uf o 5 (iO (o 5) (iL 1 w)) := ⟨_, rfl⟩
                    have r_66 : M_65 (x + 86) = g_67 := by rw [← hM_65, hg_67, up_self, r_55]
                    have t_68 : g_67 5 = iO (o 5) (iL 1 w) := by rw [hg_67]; exact uf_at _ _ (by omega)
                    have t_69 : g_67 6 = o 6 := by rw [hg_67]; exact uf_ne (by omega)
                    have r_70 : M_65 (x + 89) = pf := by rw [← hM_65]; exact (up_row (by omega)).trans r_56
                    have r_71 : M_65 (x + 90) = g_58 := by rw [← hM_65]; exact (up_row (by omega)).trans r_57
                    have F_72 : AskR M_65 x f := AskR_fr (fun r9 h7 h8 h9 => by rw [← hM_65]; exact up_row (by omega)) F_59
                    have F_73 : InkR M_65 j1 (sq f t d) := InkR_fr (fun r9 h8 h9 => by rw [← hM_65]; exact up_row (by omega)) F_60
                    have F_74 : PlnR M_65 pw f w xg := PlnR_fr (fun r9 h8 h9 => by rw [← hM_65]; exact up_row (by omega)) F_61
                    have F_75 : PlnW M_65 pw cw nw := PlnW_fr (fun r9 h8 h9 => by rw [← hM_65]; exact up_row (by omega)) F_62
                    have F_76 : InkR M_65 j2 (wrote (sq f t d) w) := InkR_fr (fun r9 h8 h9 => by rw [← hM_65]; exact up_row (by omega)) F_63
                    have fr_77 : (∀ q9, q9 ≠ x + 86 → q9 ≠ x + 89 → q9 ≠ x + 90 → (q9 < j2 ∨ j2 + 4 ≤ q9) → (q9 < pw ∨ pw + 4 ≤ q9) → M_65 q9 = M q9) := fun q9 q0 q1 q2 q3 q4 => by rw [← hM_65]; exact (up_row (by omega)).trans (fr_64 q9 q0 q1 q2 q3 q4)
                    refine WP.blk 1 ?_
                    show WP 5 30 204 [vR (x + 86), vR (x + 2), vR (x + 76), vI d, vI w, vR j1, vR j2, vR pw, vI u_6] [vI 1] (M_65, S) Q
                    refine WP.ret rfl rfl rfl ⟨by omega, trivial⟩ ?_
                    refine k _ _ fr_77 (Or.inl ⟨rfl, ⟨fun q a b => ?_, ordp_uf os2 hw (htk.2 (by omega)) (can_i hcan), oink_add hd.1 (oink_fr (fun q a b => fr_77 q (by omega) (by omega) (by omega) (by omega) (by omega)) os3) (by rw [show x + 96 + 4 * d.toNat = j2 by omega]; exact F_76), otk_add os4 hd.1 (by omega) (by rw [r_66, ho]; omega), (fun v a b => by by_cases e : v = w; (rw [e]; exact Or.inr ⟨xg, ⟨hxg.1, hxg.2.1⟩, by rw [r_70, hpfu]; exact huu_6, by rw [show x + 124 + 4 * w.toNat = pw by omega]; exact F_74⟩); exact plF_fr (by rw [r_70, hpf]) (fun q c r => fr_77 q (by omega) (by omega) (by omega) (by omega) (by omega)) (os5 v a b))⟩, by rw [r_66, ho]; omega, by rw [ho]; omega, htk.2 (by omega)⟩)
                    rw [r_71, hg_58]
                    by_cases e : q = d
                    · rw [e, uf_eq, uf_eq]
                    · rw [uf_ne e, uf_ne e, ← htr]
                      exact os1 q a (by omega)
                  · refine WP.blk 1 ?_
                    show WP 5 30 181 [vR (x + 86), vR (x + 2), vR (x + 76), vI d, vI w, vR j1, vR j2, vR pw, vI u_6] [vI 0] (My_19, S) Q
                    exact WP.ret rfl rfl rfl ⟨by omega, trivial⟩ (k _ _ fr_27 (Or.inr ⟨rfl, ⟨(fun q a b => by rw [r_22, ← htr]; exact os1 q a b), os2, oink_fr (fun q a b => fr_27 q (by omega) (by omega) (by omega) (by omega) (by omega)) os3, otk_c (by rw [r_20, ho]) os4, (fun v a b => by by_cases e : v = w; (rw [e]; exact Or.inr ⟨xg, ⟨hxg.1, hxg.2.1⟩, by rw [r_21, hpfu]; exact huu_6, by rw [show x + 124 + 4 * w.toNat = pw by omega]; exact F_25⟩); exact plF_fr (by rw [r_21, hpf]) (fun q c r => fr_27 q (by omega) (by omega) (by omega) (by omega) (by omega)) (os5 v a b))⟩, by rw [r_20, ho], Or.inr (Or.inr ⟨by rw [ho]; omega, by rw [ho]; omega⟩)⟩))
              · refine WP.blk 1 ?_
                show WP 5 30 135 [vR (x + 86), vR (x + 2), vR (x + 76), vI d, vI w, vR j1, vR j2, vR pw, vI u_6] [vI 0] (M, S) Q
                exact WP.ret rfl rfl rfl ⟨by omega, trivial⟩ (k _ _ (fun _ _ _ _ _ _ => rfl) (Or.inr ⟨rfl, ⟨os1, os2, os3, os4, os5⟩, rfl, Or.inr (Or.inl (can_n (posR_f hq8 (by omega))))⟩))
            · refine WP.blk 5 ?_
              show WP 5 30 108 [vR (x + 86), vR (x + 2), vR (x + 76), vI d, vI w, vR j1, vR j2, vR pw, vI u_6] [vI u_6, vI w, vR (x + 76), vR (x + 2), vR pw] (M, S) Q
              refine WP.cl (a := [vR pw, vR (x + 2), vR (x + 76), vI w, vI u_6]) (rest := []) rfl rfl rfl rfl ⟨hpi.2.1, trivial⟩ (by decide) (k_find hpi.2 hS.2.1 hS.2.2.2.2.1 (by omega) (by omega) has.1.1.1 has.1.1.2.1 has.2.1 hA (hWA.2 w (by omega) (by omega)).1 (by omega) (by omega) huu_6 (fun My_78 fry_78 hky_78 => ⟨rfl, ?_⟩))
              show WP 5 30 111 [vR (x + 86), vR (x + 2), vR (x + 76), vI d, vI w, vR j1, vR j2, vR pw, vI u_6] [] (My_78, S) Q
              have r_79 : My_78 (x + 86) = o := (fry_78 _ (by omega)).trans ho
              have r_80 : My_78 (x + 89) = pf := (fry_78 _ (by omega)).trans hpf
              have r_81 : My_78 (x + 90) = tr := (fry_78 _ (by omega)).trans htr
              have F_82 : AskR My_78 x f := AskR_fr (fun r9 h7 h8 h9 => fry_78 r9 (by omega)) has
              have F_83 : InkR My_78 j1 (sq f t d) := InkR_fr (fun r9 h8 h9 => fry_78 r9 (by omega)) hib
              have fr_84 : (∀ q9, q9 ≠ x + 86 → q9 ≠ x + 89 → q9 ≠ x + 90 → (q9 < j2 ∨ j2 + 4 ≤ q9) → (q9 < pw ∨ pw + 4 ≤ q9) → My_78 q9 = M q9) := fun q9 q0 q1 q2 q3 q4 => (fry_78 q9 (by omega)).trans ((fun _ _ _ _ _ _ => rfl) q9 q0 q1 q2 q3 q4)
              refine WP.blk 2 ?_
              show (sT S (x + 86) = 5 ∧ sR S (x + 86) 2 ≠ 0) ∧ WP 5 30 115 [vR (x + 86), vR (x + 2), vR (x + 76), vI d, vI w, vR j1, vR j2, vR pw, vI u_6] [vR (sR S (x + 86) 2)] (My_78, S) Q
              refine ⟨⟨hS.2.2.2.2.2.2.2.1.1.1, by rw [(show sR S (x + 86) 2 = x + 89 from hS.2.2.2.2.2.2.2.1.1.2.2.2.1)]; omega⟩, ?_⟩
              rw [(show sR S (x + 86) 2 = x + 89 from hS.2.2.2.2.2.2.2.1.1.2.2.2.1)]
              refine WP.blk 3 ?_
              show (sT S (x + 89) = 11 ∧ 0 ≤ w ∧ w < (sN S (x + 89) : Int)) ∧ WP 5 30 120 [vR (x + 86), vR (x + 2), vR (x + 76), vI d, vI w, vR j1, vR j2, vR pw, vI u_6] [] (up My_78 (x + 89) w u_6, S) Q
              refine ⟨⟨hS.2.2.2.2.2.2.2.1.2.1.2.2.2.2.1, by omega, by rw [(show sN S (x + 89) = 7 from hS.2.2.2.2.2.2.2.1.2.1.2.2.2.2.2.1)]; omega⟩, ?_⟩
              generalize hM_85 : up My_78 (x + 89) w u_6 = M_85
              have r_86 : M_85 (x + 86) = o := by rw [← hM_85]; exact (up_row (by omega)).trans r_79
              obtain ⟨g_88, hg_88⟩ : ∃ y9, y9 = uf pf w u_6 := ⟨_, rfl⟩
              have r_87 : M_85 (x + 89) = g_88 := by rw [← hM_85, hg_88, up_self, r_80]
              have r_89 : M_85 (x + 90) = tr := by rw [← hM_85]; exact (up_row (by omega)).trans r_81
              have F_90 : AskR M_85 x f := AskR_fr (fun r9 h7 h8 h9 => by rw [← hM_85]; exact up_row (by omega)) F_82
              have F_91 : InkR M_85 j1 (sq f t d) := InkR_fr (fun r9 h8 h9 => by rw [← hM_85]; exact up_row (by omega)) F_83
              have F_92 : PlnR M_85 pw f w xg := PlnR_fr (fun r9 h8 h9 => by rw [← hM_85]; exact up_row (by omega)) hky_78
              have fr_93 : (∀ q9, q9 ≠ x + 86 → q9 ≠ x + 89 → q9 ≠ x + 90 → (q9 < j2 ∨ j2 + 4 ≤ q9) → (q9 < pw ∨ pw + 4 ≤ q9) → M_85 q9 = M q9) := fun q9 q0 q1 q2 q3 q4 => by rw [← hM_85]; exact (up_row (by omega)).trans (fr_84 q9 q0 q1 q2 q3 q4)
              refine WP.blk 4 ?_
              show sT S (x + 2) = 8 ∧ WP 5 30 128 [vR (x + 86), vR (x + 2), vR (x + 76), vI d, vI w, vR j1, vR j2, vR pw, vI u_6] [vI (M_85 (x + 2) 4), vR j1, vR pw] (M_85, S) Q
              rw [F_90.1.1.2.2.2.1]
              refine ⟨hS.2.1.1, ?_⟩
              refine WP.cl (a := [vR pw, vR j1, vI (f 2)]) (rest := []) rfl rfl rfl rfl ⟨hpi.2.1, trivial⟩ (by decide) (k_possible hpi.2 hi1.2 F_91 hAg hwg hxg (plnR_io hio hA (hWA.2 w (by omega) (by omega)).1 F_92) hlim hWrg (fun q94 hq94 => ⟨rfl, ?_⟩))
              show WP 5 30 131 [vR (x + 86), vR (x + 2), vR (x + 76), vI d, vI w, vR j1, vR j2, vR pw, vI u_6] [vI q94] (M_85, S) Q
              replace hq94 : PosR M_85 pw (sq f t d) w q94 := hq94
              have hz94 := posR_b hq94
              refine WP.blk 1 ?_
              show WP 5 30 (if cnd .ne q94 0 = true then 136 else 134) [vR (x + 86), vR (x + 2), vR (x + 76), vI d, vI w, vR j1, vR j2, vR pw, vI u_6] [] (M_85, S) Q
              refine br_ne (fun c_95 => ?_) (fun c_95 => ?_)
              · obtain ⟨nw, cw, hcan, hpw1, hpw2⟩ := posR_t hq94 (by omega)
                have hpw9 : PlnW M_85 pw cw nw := ⟨hpw1, hpw2⟩
                clear hpw1 hpw2
                have hpl := wrt_pl hAg hwg hcan
                have hpl1 := hpl.1
                refine WP.blk 2 ?_
                show WP 5 30 140 [vR (x + 86), vR (x + 2), vR (x + 76), vI d, vI w, vR j1, vR j2, vR pw, vI u_6] [vR j1, vR j2] (M_85, S) Q
                refine WP.cl (a := [vR j2, vR j1]) (rest := []) rfl rfl rfl rfl ⟨hi2.2.1, trivial⟩ (by decide) (k_copyInks hi2.2 hi1.2 (by omega) F_91 (by omega) (fun My_96 fry_96 hky_96 => ⟨rfl, ?_⟩))
                show WP 5 30 143 [vR (x + 86), vR (x + 2), vR (x + 76), vI d, vI w, vR j1, vR j2, vR pw, vI u_6] [] (My_96, S) Q
                have r_97 : My_96 (x + 86) = o := (fry_96 _ (by omega)).trans r_86
                have r_98 : My_96 (x + 89) = g_88 := (fry_96 _ (by omega)).trans r_87
                have r_99 : My_96 (x + 90) = tr := (fry_96 _ (by omega)).trans r_89
                have F_100 : AskR My_96 x f := AskR_fr (fun r9 h7 h8 h9 => fry_96 r9 (by omega)) F_90
                have F_101 : InkR My_96 j1 (sq f t d) := InkR_fr (fun r9 h8 h9 => fry_96 r9 (by omega)) F_91
                have F_102 : PlnR My_96 pw f w xg := PlnR_fr (fun r9 h8 h9 => fry_96 r9 (by omega)) F_92
                have F_103 : PlnW My_96 pw cw nw := PlnW_fr (fun r9 h8 h9 => fry_96 r9 (by omega)) hpw9
                have fr_104 : (∀ q9, q9 ≠ x + 86 → q9 ≠ x + 89 → q9 ≠ x + 90 → (q9 < j2 ∨ j2 + 4 ≤ q9) → (q9 < pw ∨ pw + 4 ≤ q9) → My_96 q9 = M q9) := fun q9 q0 q1 q2 q3 q4 => (fry_96 q9 (by omega)).trans (fr_93 q9 q0 q1 q2 q3 q4)
                refine WP.blk 4 ?_
                show WP 5 30 150 [vR (x + 86), vR (x + 2), vR (x + 76), vI d, vI w, vR j1, vR j2, vR pw, vI u_6] [vI w, vR (x + 2), vR j2, vR pw] (My_96, S) Q
                refine WP.cl (a := [vR (x + 2), vI w]) (rest := [vR j2, vR pw]) rfl rfl rfl rfl ⟨hS.2.1.1, trivial⟩ (by decide) (k_colorOf hS.2.1 F_100.1.1.2.2.1 (by omega) (by omega) ⟨rfl, ?_⟩)
                show WP 5 30 153 [vR (x + 86), vR (x + 2), vR (x + 76), vI d, vI w, vR j1, vR j2, vR pw, vI u_6] [vI (f (97 + 14 * w + 1)), vR j2, vR pw] (My_96, S) Q
                refine WP.blk 2 ?_
                show sT S (x + 2) = 8 ∧ WP 5 30 157 [vR (x + 86), vR (x + 2), vR (x + 76), vI d, vI w, vR j1, vR j2, vR pw, vI u_6] [vI (My_96 (x + 2) 5), vI (f (97 + 14 * w + 1)), vR j2, vR pw] (My_96, S) Q
                rw [F_100.1.1.2.2.2.2]
                refine ⟨hS.2.1.1, ?_⟩
                refine WP.cl (a := [vR pw, vR j2, vI (f (97 + 14 * w + 1)), vI (f 3)]) (rest := []) rfl rfl rfl rfl ⟨hpi.2.1, trivial⟩ (by decide) (k_carryOut hpi.2 hi2.2 (by omega) hky_96 hRg (by omega) hcolg hld F_103.1 hpl1 F_103.2 hpl.2 (fun My_105 fry_105 hky_105 => ⟨rfl, ?_⟩))
                show WP 5 30 160 [vR (x + 86), vR (x + 2), vR (x + 76), vI d, vI w, vR j1, vR j2, vR pw, vI u_6] [] (My_105, S) Q
                have hwy_105 : InkR My_105 j2 (wrote (sq f t d) w) := by rw [wrote_t hAg hwg hcan, hcg]; exact hky_105
                have r_106 : My_105 (x + 86) = o := (fry_105 _ (by omega)).trans r_97
                have r_107 : My_105 (x + 89) = g_88 := (fry_105 _ (by omega)).trans r_98
                have r_108 : My_105 (x + 90) = tr := (fry_105 _ (by omega)).trans r_99
                have F_109 : AskR My_105 x f := AskR_fr (fun r9 h7 h8 h9 => fry_105 r9 (by omega)) F_100
                have F_110 : InkR My_105 j1 (sq f t d) := InkR_fr (fun r9 h8 h9 => fry_105 r9 (by omega)) F_101
                have F_111 : PlnR My_105 pw f w xg := PlnR_fr (fun r9 h8 h9 => fry_105 r9 (by omega)) F_102
                have F_112 : PlnW My_105 pw cw nw := PlnW_fr (fun r9 h8 h9 => fry_105 r9 (by omega)) F_103
                have fr_113 : (∀ q9, q9 ≠ x + 86 → q9 ≠ x + 89 → q9 ≠ x + 90 → (q9 < j2 ∨ j2 + 4 ≤ q9) → (q9 < pw ∨ pw + 4 ≤ q9) → My_105 q9 = M q9) := fun q9 q0 q1 q2 q3 q4 => (fry_105 q9 (by omega)).trans (fr_104 q9 q0 q1 q2 q3 q4)
                refine WP.blk 4 ?_
                show sT S (x + 86) = 5 ∧ WP 5 30 (if cnd .eq (My_105 (x + 86) 6) (-1) = true then 182 else 168) [vR (x + 86), vR (x + 2), vR (x + 76), vI d, vI w, vR j1, vR j2, vR pw, vI u_6] [] (My_105, S) Q
                rw [r_106]
                refine ⟨hS.2.2.2.2.2.2.2.1.1.1, ?_⟩
                refine br_eq (fun c_114 => ?_) (fun c_114 => ?_)
                · refine WP.blk 2 ?_
                  show (sT S (x + 86) = 5 ∧ sR S (x + 86) 3 ≠ 0) ∧ WP 5 30 186 [vR (x + 86), vR (x + 2), vR (x + 76), vI d, vI w, vR j1, vR j2, vR pw, vI u_6] [vR (sR S (x + 86) 3)] (My_105, S) Q
                  refine ⟨⟨hS.2.2.2.2.2.2.2.1.1.1, by rw [(show sR S (x + 86) 3 = x + 90 from hS.2.2.2.2.2.2.2.1.1.2.2.2.2.1)]; omega⟩, ?_⟩
                  rw [(show sR S (x + 86) 3 = x + 90 from hS.2.2.2.2.2.2.2.1.1.2.2.2.2.1)]
                  refine WP.blk 3 ?_
                  show (sT S (x + 90) = 11 ∧ 0 ≤ d ∧ d < (sN S (x + 90) : Int)) ∧ WP 5 30 190 [vR (x + 86), vR (x + 2), vR (x + 76), vI d, vI w, vR j1, vR j2, vR pw, vI u_6] [] (up My_105 (x + 90) d w, S) Q
                  refine ⟨⟨hS.2.2.2.2.2.2.2.1.2.1.2.2.2.2.2.2.1, by omega, by rw [(show sN S (x + 90) = 7 from hS.2.2.2.2.2.2.2.1.2.1.2.2.2.2.2.2.2.1)]; omega⟩, ?_⟩
                  generalize hM_115 : up My_105 (x + 90) d w = M_115
                  have r_116 : M_115 (x + 86) = o := by rw [← hM_115]; exact (up_row (by omega)).trans r_106
                  have r_117 : M_115 (x + 89) = g_88 := by rw [← hM_115]; exact (up_row (by omega)).trans r_107
                  obtain ⟨g_119, hg_119⟩ : ∃ y9, y9 = uf tr d w := ⟨_, rfl⟩
                  have r_118 : M_115 (x + 90) = g_119 := by rw [← hM_115, hg_119, up_self, r_108]
                  have F_120 : AskR M_115 x f := AskR_fr (fun r9 h7 h8 h9 => by rw [← hM_115]; exact up_row (by omega)) F_109
                  have F_121 : InkR M_115 j1 (sq f t d) := InkR_fr (fun r9 h8 h9 => by rw [← hM_115]; exact up_row (by omega)) F_110
                  have F_122 : PlnR M_115 pw f w xg := PlnR_fr (fun r9 h8 h9 => by rw [← hM_115]; exact up_row (by omega)) F_111
                  have F_123 : PlnW M_115 pw cw nw := PlnW_fr (fun r9 h8 h9 => by rw [← hM_115]; exact up_row (by omega)) F_112
                  have F_124 : InkR M_115 j2 (wrote (sq f t d) w) := InkR_fr (fun r9 h8 h9 => by rw [← hM_115]; exact up_row (by omega)) hwy_105
                  have fr_125 : (∀ q9, q9 ≠ x + 86 → q9 ≠ x + 89 → q9 ≠ x + 90 → (q9 < j2 ∨ j2 + 4 ≤ q9) → (q9 < pw ∨ pw + 4 ≤ q9) → M_115 q9 = M q9) := fun q9 q0 q1 q2 q3 q4 => by rw [← hM_115]; exact (up_row (by omega)).trans (fr_113 q9 q0 q1 q2 q3 q4)
                  refine WP.blk 8 ?_
                  show sT S (x + 86) = 5 ∧ sT S (x + 86) = 5 ∧ WP 5 30 203 [vR (x + 86), vR (x + 2), vR (x + 76), vI d, vI w, vR j1, vR j2, vR pw, vI u_6] [] (up M_115 (x + 86) 5 (iO (M_115 (x + 86) 5) (iL 1 w)), S) Q
                  rw [r_116]
                  refine ⟨hS.2.2.2.2.2.2.2.1.1.1, hS.2.2.2.2.2.2.2.1.1.1, ?_⟩
                  generalize hM_126 : up M_115 (x + 86) 5 (iO (o 5) (iL 1 w)) = M_126
                  obtain ⟨g_128, hg_128⟩ : ∃ y9, y9 = uf o 5 (iO (o 5) (iL 1 w)) := ⟨_, rfl⟩
                  have r_127 : M_126 (x + 86) = g_128 := by rw [← hM_126, hg_128, up_self, r_116]
                  have t_129 : g_128 5 = iO (o 5) (iL 1 w) := by rw [hg_128]; exact uf_at _ _ (by omega)
                  have t_130 : g_128 6 = o 6 := by rw [hg_128]; exact uf_ne (by omega)
                  have r_131 : M_126 (x + 89) = g_88 := by rw [← hM_126]; exact (up_row (by omega)).trans r_117
                  have r_132 : M_126 (x + 90) = g_119 := by rw [← hM_126]; exact (up_row (by omega)).trans r_118
                  have F_133 : AskR M_126 x f := AskR_fr (fun r9 h7 h8 h9 => by rw [← hM_126]; exact up_row (by omega)) F_120
                  have F_134 : InkR M_126 j1 (sq f t d) := InkR_fr (fun r9 h8 h9 => by rw [← hM_126]; exact up_row (by omega)) F_121
                  have F_135 : PlnR M_126 pw f w xg := PlnR_fr (fun r9 h8 h9 => by rw [← hM_126]; exact up_row (by omega)) F_122
                  have F_136 : PlnW M_126 pw cw nw := PlnW_fr (fun r9 h8 h9 => by rw [← hM_126]; exact up_row (by omega)) F_123
                  have F_137 : InkR M_126 j2 (wrote (sq f t d) w) := InkR_fr (fun r9 h8 h9 => by rw [← hM_126]; exact up_row (by omega)) F_124
                  have fr_138 : (∀ q9, q9 ≠ x + 86 → q9 ≠ x + 89 → q9 ≠ x + 90 → (q9 < j2 ∨ j2 + 4 ≤ q9) → (q9 < pw ∨ pw + 4 ≤ q9) → M_126 q9 = M q9) := fun q9 q0 q1 q2 q3 q4 => by rw [← hM_126]; exact (up_row (by omega)).trans (fr_125 q9 q0 q1 q2 q3 q4)
                  refine WP.blk 1 ?_
                  show WP 5 30 204 [vR (x + 86), vR (x + 2), vR (x + 76), vI d, vI w, vR j1, vR j2, vR pw, vI u_6] [vI 1] (M_126, S) Q
                  refine WP.ret rfl rfl rfl ⟨by omega, trivial⟩ ?_
                  refine k _ _ fr_138 (Or.inl ⟨rfl, ⟨fun q a b => ?_, ordp_uf os2 hw (htk.2 (by omega)) (can_i hcan), oink_add hd.1 (oink_fr (fun q a b => fr_138 q (by omega) (by omega) (by omega) (by omega) (by omega)) os3) (by rw [show x + 96 + 4 * d.toNat = j2 by omega]; exact F_137), otk_add os4 hd.1 (by omega) (by rw [r_127, ho]; omega), (fun v a b => by by_cases e : v = w; (rw [e]; exact Or.inr ⟨xg, ⟨hxg.1, hxg.2.1⟩, by rw [r_131, hg_88, uf_eq]; exact huu_6, by rw [show x + 124 + 4 * w.toNat = pw by omega]; exact F_135⟩); exact plF_fr (by rw [r_131, hg_88, uf_ne e, hpf]) (fun q c r => fr_138 q (by omega) (by omega) (by omega) (by omega) (by omega)) (os5 v a b))⟩, by rw [r_127, ho]; omega, by rw [ho]; omega, htk.2 (by omega)⟩)
                  rw [r_132, hg_119]
                  by_cases e : q = d
                  · rw [e, uf_eq, uf_eq]
                  · rw [uf_ne e, uf_ne e, ← htr]
                    exact os1 q a (by omega)
                · refine WP.blk 5 ?_
                  show sT S j2 = 4 ∧ sT S (x + 86) = 5 ∧ WP 5 30 (if cnd .lt (My_105 j2 5) (My_105 (x + 86) 6) = true then 182 else 180) [vR (x + 86), vR (x + 2), vR (x + 76), vI d, vI w, vR j1, vR j2, vR pw, vI u_6] [] (My_105, S) Q
                  rw [r_106]
                  rw [hwy_105.1.2.2]
                  refine ⟨hi2.2.1, hS.2.2.2.2.2.2.2.1.1.1, ?_⟩
                  refine br_lt (fun c_139 => ?_) (fun c_139 => ?_)
                  · refine WP.blk 2 ?_
                    show (sT S (x + 86) = 5 ∧ sR S (x + 86) 3 ≠ 0) ∧ WP 5 30 186 [vR (x + 86), vR (x + 2), vR (x + 76), vI d, vI w, vR j1, vR j2, vR pw, vI u_6] [vR (sR S (x + 86) 3)] (My_105, S) Q
                    refine ⟨⟨hS.2.2.2.2.2.2.2.1.1.1, by rw [(show sR S (x + 86) 3 = x + 90 from hS.2.2.2.2.2.2.2.1.1.2.2.2.2.1)]; omega⟩, ?_⟩
                    rw [(show sR S (x + 86) 3 = x + 90 from hS.2.2.2.2.2.2.2.1.1.2.2.2.2.1)]
                    refine WP.blk 3 ?_
                    show (sT S (x + 90) = 11 ∧ 0 ≤ d ∧ d < (sN S (x + 90) : Int)) ∧ WP 5 30 190 [vR (x + 86), vR (x + 2), vR (x + 76), vI d, vI w, vR j1, vR j2, vR pw, vI u_6] [] (up My_105 (x + 90) d w, S) Q
                    refine ⟨⟨hS.2.2.2.2.2.2.2.1.2.1.2.2.2.2.2.2.1, by omega, by rw [(show sN S (x + 90) = 7 from hS.2.2.2.2.2.2.2.1.2.1.2.2.2.2.2.2.2.1)]; omega⟩, ?_⟩
                    generalize hM_140 : up My_105 (x + 90) d w = M_140
                    have r_141 : M_140 (x + 86) = o := by rw [← hM_140]; exact (up_row (by omega)).trans r_106
                    have r_142 : M_140 (x + 89) = g_88 := by rw [← hM_140]; exact (up_row (by omega)).trans r_107
                    obtain ⟨g_144, hg_144⟩ : ∃ y9, y9 = uf tr d w := ⟨_, rfl⟩
                    have r_143 : M_140 (x + 90) = g_144 := by rw [← hM_140, hg_144, up_self, r_108]
                    have F_145 : AskR M_140 x f := AskR_fr (fun r9 h7 h8 h9 => by rw [← hM_140]; exact up_row (by omega)) F_109
                    have F_146 : InkR M_140 j1 (sq f t d) := InkR_fr (fun r9 h8 h9 => by rw [← hM_140]; exact up_row (by omega)) F_110
                    have F_147 : PlnR M_140 pw f w xg := PlnR_fr (fun r9 h8 h9 => by rw [← hM_140]; exact up_row (by omega)) F_111
                    have F_148 : PlnW M_140 pw cw nw := PlnW_fr (fun r9 h8 h9 => by rw [← hM_140]; exact up_row (by omega)) F_112
                    have F_149 : InkR M_140 j2 (wrote (sq f t d) w) := InkR_fr (fun r9 h8 h9 => by rw [← hM_140]; exact up_row (by omega)) hwy_105
                    have fr_150 : (∀ q9, q9 ≠ x + 86 → q9 ≠ x + 89 → q9 ≠ x + 90 → (q9 < j2 ∨ j2 + 4 ≤ q9) → (q9 < pw ∨ pw + 4 ≤ q9) → M_140 q9 = M q9) := fun q9 q0 q1 q2 q3 q4 => by rw [← hM_140]; exact (up_row (by omega)).trans (fr_113 q9 q0 q1 q2 q3 q4)
                    refine WP.blk 8 ?_
                    show sT S (x + 86) = 5 ∧ sT S (x + 86) = 5 ∧ WP 5 30 203 [vR (x + 86), vR (x + 2), vR (x + 76), vI d, vI w, vR j1, vR j2, vR pw, vI u_6] [] (up M_140 (x + 86) 5 (iO (M_140 (x + 86) 5) (iL 1 w)), S) Q
                    rw [r_141]
                    refine ⟨hS.2.2.2.2.2.2.2.1.1.1, hS.2.2.2.2.2.2.2.1.1.1, ?_⟩
                    generalize hM_151 : up M_140 (x + 86) 5 (iO (o 5) (iL 1 w)) = M_151
                    obtain ⟨g_153, hg_153⟩ : ∃ y9, y9 = uf o 5 (iO (o 5) (iL 1 w)) := ⟨_, rfl⟩
                    have r_152 : M_151 (x + 86) = g_153 := by rw [← hM_151, hg_153, up_self, r_141]
                    have t_154 : g_153 5 = iO (o 5) (iL 1 w) := by rw [hg_153]; exact uf_at _ _ (by omega)
                    have t_155 : g_153 6 = o 6 := by rw [hg_153]; exact uf_ne (by omega)
                    have r_156 : M_151 (x + 89) = g_88 := by rw [← hM_151]; exact (up_row (by omega)).trans r_142
                    have r_157 : M_151 (x + 90) = g_144 := by rw [← hM_151]; exact (up_row (by omega)).trans r_143
                    have F_158 : AskR M_151 x f := AskR_fr (fun r9 h7 h8 h9 => by rw [← hM_151]; exact up_row (by omega)) F_145
                    have F_159 : InkR M_151 j1 (sq f t d) := InkR_fr (fun r9 h8 h9 => by rw [← hM_151]; exact up_row (by omega)) F_146
                    have F_160 : PlnR M_151 pw f w xg := PlnR_fr (fun r9 h8 h9 => by rw [← hM_151]; exact up_row (by omega)) F_147
                    have F_161 : PlnW M_151 pw cw nw := PlnW_fr (fun r9 h8 h9 => by rw [← hM_151]; exact up_row (by omega)) F_148
                    have F_162 : InkR M_151 j2 (wrote (sq f t d) w) := InkR_fr (fun r9 h8 h9 => by rw [← hM_151]; exact up_row (by omega)) F_149
                    have fr_163 : (∀ q9, q9 ≠ x + 86 → q9 ≠ x + 89 → q9 ≠ x + 90 → (q9 < j2 ∨ j2 + 4 ≤ q9) → (q9 < pw ∨ pw + 4 ≤ q9) → M_151 q9 = M q9) := fun q9 q0 q1 q2 q3 q4 => by rw [← hM_151]; exact (up_row (by omega)).trans (fr_150 q9 q0 q1 q2 q3 q4)
                    refine WP.blk 1 ?_
                    show WP 5 30 204 [vR (x + 86), vR (x + 2), vR (x + 76), vI d, vI w, vR j1, vR j2, vR pw, vI u_6] [vI 1] (M_151, S) Q
                    refine WP.ret rfl rfl rfl ⟨by omega, trivial⟩ ?_
                    refine k _ _ fr_163 (Or.inl ⟨rfl, ⟨fun q a b => ?_, ordp_uf os2 hw (htk.2 (by omega)) (can_i hcan), oink_add hd.1 (oink_fr (fun q a b => fr_163 q (by omega) (by omega) (by omega) (by omega) (by omega)) os3) (by rw [show x + 96 + 4 * d.toNat = j2 by omega]; exact F_162), otk_add os4 hd.1 (by omega) (by rw [r_152, ho]; omega), (fun v a b => by by_cases e : v = w; (rw [e]; exact Or.inr ⟨xg, ⟨hxg.1, hxg.2.1⟩, by rw [r_156, hg_88, uf_eq]; exact huu_6, by rw [show x + 124 + 4 * w.toNat = pw by omega]; exact F_160⟩); exact plF_fr (by rw [r_156, hg_88, uf_ne e, hpf]) (fun q c r => fr_163 q (by omega) (by omega) (by omega) (by omega) (by omega)) (os5 v a b))⟩, by rw [r_152, ho]; omega, by rw [ho]; omega, htk.2 (by omega)⟩)
                    rw [r_157, hg_144]
                    by_cases e : q = d
                    · rw [e, uf_eq, uf_eq]
                    · rw [uf_ne e, uf_ne e, ← htr]
                      exact os1 q a (by omega)
                  · refine WP.blk 1 ?_
                    show WP 5 30 181 [vR (x + 86), vR (x + 2), vR (x + 76), vI d, vI w, vR j1, vR j2, vR pw, vI u_6] [vI 0] (My_105, S) Q
                    exact WP.ret rfl rfl rfl ⟨by omega, trivial⟩ (k _ _ fr_113 (Or.inr ⟨rfl, ⟨(fun q a b => by rw [r_108, ← htr]; exact os1 q a b), os2, oink_fr (fun q a b => fr_113 q (by omega) (by omega) (by omega) (by omega) (by omega)) os3, otk_c (by rw [r_106, ho]) os4, (fun v a b => by by_cases e : v = w; (rw [e]; exact Or.inr ⟨xg, ⟨hxg.1, hxg.2.1⟩, by rw [r_107, hg_88, uf_eq]; exact huu_6, by rw [show x + 124 + 4 * w.toNat = pw by omega]; exact F_111⟩); exact plF_fr (by rw [r_107, hg_88, uf_ne e, hpf]) (fun q c r => fr_113 q (by omega) (by omega) (by omega) (by omega) (by omega)) (os5 v a b))⟩, by rw [r_106, ho], Or.inr (Or.inr ⟨by rw [ho]; omega, by rw [ho]; omega⟩)⟩))
              · refine WP.blk 1 ?_
                show WP 5 30 135 [vR (x + 86), vR (x + 2), vR (x + 76), vI d, vI w, vR j1, vR j2, vR pw, vI u_6] [vI 0] (M_85, S) Q
                exact WP.ret rfl rfl rfl ⟨by omega, trivial⟩ (k _ _ fr_93 (Or.inr ⟨rfl, ⟨(fun q a b => by rw [r_89, ← htr]; exact os1 q a b), os2, oink_fr (fun q a b => fr_93 q (by omega) (by omega) (by omega) (by omega) (by omega)) os3, otk_c (by rw [r_86, ho]) os4, (fun v a b => by by_cases e : v = w; (rw [e]; exact Or.inr ⟨xg, ⟨hxg.1, hxg.2.1⟩, by rw [r_87, hg_88, uf_eq]; exact huu_6, by rw [show x + 124 + 4 * w.toNat = pw by omega]; exact F_92⟩); exact plF_fr (by rw [r_87, hg_88, uf_ne e, hpf]) (fun q c r => fr_93 q (by omega) (by omega) (by omega) (by omega) (by omega)) (os5 v a b))⟩, by rw [r_86, ho], Or.inr (Or.inl (can_n (posR_f hq94 (by omega))))⟩))
          · refine WP.blk 1 ?_
            show WP 5 30 35 [vR (x + 86), vR (x + 2), vR (x + 76), vI d, vI w, none, none, none, none] [vI 0] (M, S) Q
            exact WP.ret rfl rfl rfl ⟨by omega, trivial⟩ (k _ _ (fun _ _ _ _ _ _ => rfl) (Or.inr ⟨rfl, ⟨os1, os2, os3, os4, os5⟩, rfl, Or.inl (htk.1 (by assumption))⟩))
