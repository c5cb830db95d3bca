set_option maxHeartbeats 4000000 in
theorem t_cost {S : SD} {M : Nat → Int → Int} {x : Nat} {f : Int → Int} {B : Int} {w xf t : Int} (hS : isRub S x) (has : AskR M x f) (hx3 : 3 ≤ x) (hR : RowOk B f) (hw : 0 ≤ w ∧ w < f 1) (hxf : Fresh f xf) (hpn : PlnR M (x + 78) f w xf) (hB : 0 ≤ B ∧ B ≤ 1000000000 - 400) {Q : Res → Wd → Prop} (k : ∀ (v : Int) (M2 : Nat → Int → Int), (∀ q9, (q9 < x + 82 ∨ x + 86 ≤ q9) → M2 q9 = M q9) → NeedsV f w (if t = 0 then 5 else 6) v → Q (0, vI v) (M2, S)) : EvQ 4 95 [vR x, vR (x + 78), vI w, vI t] (M, S) Q := by
  refine EvQ.enter (ls := [vR x, vR (x + 78), vI w, vI t]) (Nat.le_of_ble_eq_true rfl) rfl ?_
  have hA := hR.1
  have hA1 := hA.1
  have hWA := hR.2.1
  have hW1 := hWA.1
  have hI := hR.2.2
  have hI2 := hI.2.1
  have hI3 := hI.2.2.1
  have hWr : ∀ s, 0 ≤ s → s < f 0 → 0 ≤ f (7 + 9 * s + 8) ∧ f (7 + 9 * s + 8) ≤ 1000000000 := fun s a b => ⟨(hI.1 s a b).2.2.1, by have := (hI.1 s a b).2.2.2; omega⟩
  have hcol := (hWA.2 w (by omega) (by omega)).2
  have hI5 := hI.2.2.2.2.1
  have hI6 := hI.2.2.2.2.2
  refine WP.blk 3 ?_
  show (sT S x = 9 ∧ sR S x 2 ≠ 0) ∧ WP 3 95 5 [vR x, vR (x + 78), vI w, vI t] [vR (sR S x 2), vR (x + 78)] (M, S) Q
  refine ⟨⟨hS.1.1, by rw [(show sR S x 2 = x + 2 from hS.1.2.2.1)]; omega⟩, ?_⟩
  rw [(show sR S x 2 = x + 2 from hS.1.2.2.1)]
  refine WP.blk 1 ?_
  show (sT S (x + 2) = 8 ∧ sR S (x + 2) 3 ≠ 0) ∧ WP 3 95 8 [vR x, vR (x + 78), vI w, vI t] [vR (sR S (x + 2) 3), vR (x + 78)] (M, S) Q
  refine ⟨⟨hS.2.1.1, by rw [(show sR S (x + 2) 3 = x + 10 from hS.2.1.2.2.2.2.1)]; omega⟩, ?_⟩
  rw [(show sR S (x + 2) 3 = x + 10 from hS.2.1.2.2.2.2.1)]
  refine WP.blk 2 ?_
  show (sT S x = 9 ∧ sR S x 2 ≠ 0) ∧ WP 3 95 12 [vR x, vR (x + 78), vI w, vI t] [vR (sR S x 2), vR (x + 10), vR (x + 78)] (M, S) Q
  refine ⟨⟨hS.1.1, by rw [(show sR S x 2 = x + 2 from hS.1.2.2.1)]; omega⟩, ?_⟩
  rw [(show sR S x 2 = x + 2 from hS.1.2.2.1)]
  refine WP.blk 1 ?_
  show sT S (x + 2) = 8 ∧ WP 3 95 15 [vR x, vR (x + 78), vI w, vI t] [vI (M (x + 2) 4), vR (x + 10), vR (x + 78)] (M, S) Q
  rw [has.1.1.2.2.2.1]
  refine ⟨hS.2.1.1, ?_⟩
  refine WP.cl (a := [vR (x + 78), vR (x + 10), vI (f 2)]) (rest := []) rfl rfl rfl rfl ⟨hS.2.2.2.2.2.1.1, trivial⟩ (by decide) (k_possible hS.2.2.2.2.2.1 hS.2.1.2.2.2.2.2.2.2.2.2 has.1.2 hA (hWA.2 w (by omega) (by omega)).1 hxf hpn rfl hWr (fun q1 hq1 => ⟨rfl, ?_⟩))
  show WP 3 95 18 [vR x, vR (x + 78), vI w, vI t] [vI q1] (M, S) Q
  replace hq1 : PosR M (x + 78) f w q1 := hq1
  have hz1 := posR_b hq1
  refine WP.blk 1 ?_
  show WP 3 95 (if cnd .ne q1 0 = true then 23 else 21) [vR x, vR (x + 78), vI w, vI t] [] (M, S) Q
  refine br_ne (fun c_2 => ?_) (fun c_2 => ?_)
  · obtain ⟨nw, cw, hcan, hpw1, hpw2⟩ := posR_t hq1 (by omega)
    have hpw : PlnW M (x + 78) cw nw := ⟨hpw1, hpw2⟩
    clear hpw1 hpw2
    have hpl := wrt_pl hA (hWA.2 w (by omega) (by omega)).1 hcan
    have hpl1 := hpl.1
    refine WP.blk 2 ?_
    show (sT S x = 9 ∧ sR S x 7 ≠ 0) ∧ WP 3 95 27 [vR x, vR (x + 78), vI w, vI t] [vR (sR S x 7)] (M, S) Q
    refine ⟨⟨hS.1.1, by rw [(show sR S x 7 = x + 82 from hS.1.2.2.2.2.2.2.2.1)]; omega⟩, ?_⟩
    rw [(show sR S x 7 = x + 82 from hS.1.2.2.2.2.2.2.2.1)]
    refine WP.blk 2 ?_
    show (sT S x = 9 ∧ sR S x 2 ≠ 0) ∧ WP 3 95 31 [vR x, vR (x + 78), vI w, vI t] [vR (sR S x 2), vR (x + 82)] (M, S) Q
    refine ⟨⟨hS.1.1, by rw [(show sR S x 2 = x + 2 from hS.1.2.2.1)]; omega⟩, ?_⟩
    rw [(show sR S x 2 = x + 2 from hS.1.2.2.1)]
    refine WP.blk 1 ?_
    show (sT S (x + 2) = 8 ∧ sR S (x + 2) 3 ≠ 0) ∧ WP 3 95 34 [vR x, vR (x + 78), vI w, vI t] [vR (sR S (x + 2) 3), vR (x + 82)] (M, S) Q
    refine ⟨⟨hS.2.1.1, by rw [(show sR S (x + 2) 3 = x + 10 from hS.2.1.2.2.2.2.1)]; omega⟩, ?_⟩
    rw [(show sR S (x + 2) 3 = x + 10 from hS.2.1.2.2.2.2.1)]
    refine WP.cl (a := [vR (x + 82), vR (x + 10)]) (rest := []) rfl rfl rfl rfl ⟨hS.2.2.2.2.2.2.1.1, trivial⟩ (by decide) (k_copyInks hS.2.2.2.2.2.2.1 hS.2.1.2.2.2.2.2.2.2.2.2 (by omega) has.1.2 (by omega) (fun My_3 fry_3 hky_3 => ⟨rfl, ?_⟩))
    show WP 3 95 37 [vR x, vR (x + 78), vI w, vI t] [] (My_3, S) Q
    have F_4 : AskR My_3 x f := AskR_fr (fun r9 h7 h8 h9 => fry_3 r9 (by omega)) has
    have F_5 : PlnR My_3 (x + 78) f w xf := PlnR_fr (fun r9 h8 h9 => fry_3 r9 (by omega)) hpn
    have F_6 : PlnW My_3 (x + 78) cw nw := PlnW_fr (fun r9 h8 h9 => fry_3 r9 (by omega)) hpw
    have fr_7 : (∀ q9, (q9 < x + 82 ∨ x + 86 ≤ q9) → My_3 q9 = M q9) := fun q9 q0 => (fry_3 q9 (by omega)).trans ((fun _ _ => rfl) q9 q0)
    refine WP.blk 3 ?_
    show (sT S x = 9 ∧ sR S x 7 ≠ 0) ∧ WP 3 95 42 [vR x, vR (x + 78), vI w, vI t] [vR (sR S x 7), vR (x + 78)] (My_3, S) Q
    refine ⟨⟨hS.1.1, by rw [(show sR S x 7 = x + 82 from hS.1.2.2.2.2.2.2.2.1)]; omega⟩, ?_⟩
    rw [(show sR S x 7 = x + 82 from hS.1.2.2.2.2.2.2.2.1)]
    refine WP.blk 2 ?_
    show (sT S x = 9 ∧ sR S x 2 ≠ 0) ∧ WP 3 95 46 [vR x, vR (x + 78), vI w, vI t] [vR (sR S x 2), vR (x + 82), vR (x + 78)] (My_3, S) Q
    refine ⟨⟨hS.1.1, by rw [(show sR S x 2 = x + 2 from hS.1.2.2.1)]; omega⟩, ?_⟩
    rw [(show sR S x 2 = x + 2 from hS.1.2.2.1)]
    refine WP.blk 1 ?_
    show WP 3 95 47 [vR x, vR (x + 78), vI w, vI t] [vI w, vR (x + 2), vR (x + 82), vR (x + 78)] (My_3, S) Q
    refine WP.cl (a := [vR (x + 2), vI w]) (rest := [vR (x + 82), vR (x + 78)]) rfl rfl rfl rfl ⟨hS.2.1.1, trivial⟩ (by decide) (k_colorOf hS.2.1 F_4.1.1.2.2.1 (by omega) (by omega) ⟨rfl, ?_⟩)
    show WP 3 95 50 [vR x, vR (x + 78), vI w, vI t] [vI (f (97 + 14 * w + 1)), vR (x + 82), vR (x + 78)] (My_3, S) Q
    refine WP.blk 2 ?_
    show (sT S x = 9 ∧ sR S x 2 ≠ 0) ∧ WP 3 95 54 [vR x, vR (x + 78), vI w, vI t] [vR (sR S x 2), vI (f (97 + 14 * w + 1)), vR (x + 82), vR (x + 78)] (My_3, S) Q
    refine ⟨⟨hS.1.1, by rw [(show sR S x 2 = x + 2 from hS.1.2.2.1)]; omega⟩, ?_⟩
    rw [(show sR S x 2 = x + 2 from hS.1.2.2.1)]
    refine WP.blk 1 ?_
    show sT S (x + 2) = 8 ∧ WP 3 95 57 [vR x, vR (x + 78), vI w, vI t] [vI (My_3 (x + 2) 5), vI (f (97 + 14 * w + 1)), vR (x + 82), vR (x + 78)] (My_3, S) Q
    rw [F_4.1.1.2.2.2.2]
    refine ⟨hS.2.1.1, ?_⟩
    refine WP.cl (a := [vR (x + 78), vR (x + 82), vI (f (97 + 14 * w + 1)), vI (f 3)]) (rest := []) rfl rfl rfl rfl ⟨hS.2.2.2.2.2.1.1, trivial⟩ (by decide) (k_carryOut hS.2.2.2.2.2.1 hS.2.2.2.2.2.2.1 (by omega) hky_3 hR ⟨hB.1, by omega⟩ hcol rfl F_6.1 hpl1 F_6.2 hpl.2 (fun My_8 fry_8 hky_8 => ⟨rfl, ?_⟩))
    show WP 3 95 60 [vR x, vR (x + 78), vI w, vI t] [] (My_8, S) Q
    have F_9 : AskR My_8 x f := AskR_fr (fun r9 h7 h8 h9 => fry_8 r9 (by omega)) F_4
    have F_10 : PlnR My_8 (x + 78) f w xf := PlnR_fr (fun r9 h8 h9 => fry_8 r9 (by omega)) F_5
    have F_11 : PlnW My_8 (x + 78) cw nw := PlnW_fr (fun r9 h8 h9 => fry_8 r9 (by omega)) F_6
    have fr_12 : (∀ q9, (q9 < x + 82 ∨ x + 86 ≤ q9) → My_8 q9 = M q9) := fun q9 q0 => (fry_8 q9 (by omega)).trans (fr_7 q9 q0)
    have hcr := (car_row hR hB.1 hcol hpl1.1 hpl.2).1.2.2
    have hcr5 := hcr.2.2.2.2.1
    have hcr6 := hcr.2.2.2.2.2
    refine WP.blk 2 ?_
    show WP 3 95 (if cnd .eq t 0 = true then 85 else 64) [vR x, vR (x + 78), vI w, vI t] [] (My_8, S) Q
    refine br_eq (fun c_13 => ?_) (fun c_13 => ?_)
    · refine WP.blk 2 ?_
      show (sT S x = 9 ∧ sR S x 7 ≠ 0) ∧ WP 3 95 89 [vR x, vR (x + 78), vI w, vI t] [vR (sR S x 7)] (My_8, S) Q
      refine ⟨⟨hS.1.1, by rw [(show sR S x 7 = x + 82 from hS.1.2.2.2.2.2.2.2.1)]; omega⟩, ?_⟩
      rw [(show sR S x 7 = x + 82 from hS.1.2.2.2.2.2.2.2.1)]
      refine WP.blk 3 ?_
      show sT S (x + 82) = 4 ∧ (sT S x = 9 ∧ sR S x 2 ≠ 0) ∧ WP 3 95 96 [vR x, vR (x + 78), vI w, vI t] [vR (sR S x 2), vI (My_8 (x + 82) 4)] (My_8, S) Q
      rw [hky_8.1.2.1]
      refine ⟨hS.2.2.2.2.2.2.1.1, ⟨hS.1.1, by rw [(show sR S x 2 = x + 2 from hS.1.2.2.1)]; omega⟩, ?_⟩
      rw [(show sR S x 2 = x + 2 from hS.1.2.2.1)]
      refine WP.blk 1 ?_
      show (sT S (x + 2) = 8 ∧ sR S (x + 2) 3 ≠ 0) ∧ WP 3 95 99 [vR x, vR (x + 78), vI w, vI t] [vR (sR S (x + 2) 3), vI (car (f (97 + 14 * w + 1)) cw f nw 5)] (My_8, S) Q
      refine ⟨⟨hS.2.1.1, by rw [(show sR S (x + 2) 3 = x + 10 from hS.2.1.2.2.2.2.1)]; omega⟩, ?_⟩
      rw [(show sR S (x + 2) 3 = x + 10 from hS.2.1.2.2.2.2.1)]
      refine WP.blk 2 ?_
      show sT S (x + 10) = 4 ∧ ir ((car (f (97 + 14 * w + 1)) cw f nw 5) - (My_8 (x + 10) 4)) ∧ WP 3 95 103 [vR x, vR (x + 78), vI w, vI t] [vI ((car (f (97 + 14 * w + 1)) cw f nw 5) - (My_8 (x + 10) 4))] (My_8, S) Q
      rw [F_9.1.2.1.2.1]
      refine ⟨hS.2.1.2.2.2.2.2.2.2.2.2.1, (by unfold ir; omega), ?_⟩
      exact WP.ret rfl rfl rfl trivial (k _ _ fr_12 (cost_i hcan (by first | (rw [if_pos (by omega)]; try rfl) | (rw [if_neg (by omega)]; try rfl))))
    · refine WP.blk 2 ?_
      show (sT S x = 9 ∧ sR S x 7 ≠ 0) ∧ WP 3 95 68 [vR x, vR (x + 78), vI w, vI t] [vR (sR S x 7)] (My_8, S) Q
      refine ⟨⟨hS.1.1, by rw [(show sR S x 7 = x + 82 from hS.1.2.2.2.2.2.2.2.1)]; omega⟩, ?_⟩
      rw [(show sR S x 7 = x + 82 from hS.1.2.2.2.2.2.2.2.1)]
      refine WP.blk 3 ?_
      show sT S (x + 82) = 4 ∧ (sT S x = 9 ∧ sR S x 2 ≠ 0) ∧ WP 3 95 75 [vR x, vR (x + 78), vI w, vI t] [vR (sR S x 2), vI (My_8 (x + 82) 5)] (My_8, S) Q
      rw [hky_8.1.2.2]
      refine ⟨hS.2.2.2.2.2.2.1.1, ⟨hS.1.1, by rw [(show sR S x 2 = x + 2 from hS.1.2.2.1)]; omega⟩, ?_⟩
      rw [(show sR S x 2 = x + 2 from hS.1.2.2.1)]
      refine WP.blk 1 ?_
      show (sT S (x + 2) = 8 ∧ sR S (x + 2) 3 ≠ 0) ∧ WP 3 95 78 [vR x, vR (x + 78), vI w, vI t] [vR (sR S (x + 2) 3), vI (car (f (97 + 14 * w + 1)) cw f nw 6)] (My_8, S) Q
      refine ⟨⟨hS.2.1.1, by rw [(show sR S (x + 2) 3 = x + 10 from hS.2.1.2.2.2.2.1)]; omega⟩, ?_⟩
      rw [(show sR S (x + 2) 3 = x + 10 from hS.2.1.2.2.2.2.1)]
      refine WP.blk 3 ?_
      show sT S (x + 10) = 4 ∧ ir ((car (f (97 + 14 * w + 1)) cw f nw 6) - (My_8 (x + 10) 5)) ∧ WP 3 95 103 [vR x, vR (x + 78), vI w, vI t] [vI ((car (f (97 + 14 * w + 1)) cw f nw 6) - (My_8 (x + 10) 5))] (My_8, S) Q
      rw [F_9.1.2.1.2.2]
      refine ⟨hS.2.1.2.2.2.2.2.2.2.2.2.1, (by unfold ir; omega), ?_⟩
      exact WP.ret rfl rfl rfl trivial (k _ _ fr_12 (cost_i hcan (by first | (rw [if_pos (by omega)]; try rfl) | (rw [if_neg (by omega)]; try rfl))))
  · refine WP.blk 1 ?_
    show WP 3 95 22 [vR x, vR (x + 78), vI w, vI t] [vI (-1)] (M, S) Q
    exact WP.ret rfl rfl rfl trivial (k _ _ (fun _ _ => rfl) (Or.inl ⟨rfl, posR_f hq1 (by omega)⟩))
set_option maxHeartbeats 4000000 in
theorem t_wordFact {S : SD} {M : Nat → Int → Int} {x : Nat} {f : Int → Int} {B : Int} {w a : Int} (hS : isRub S x) (has : AskR M x f) (hx3 : 3 ≤ x) (hR : RowOk B f) (hw : 0 ≤ w ∧ w < f 1) (ha : 0 ≤ a ∧ a ≤ 5) (hB : 0 ≤ B ∧ B ≤ 1000000000 - 400) {Q : Res → Wd → Prop} (k : ∀ (v : Int) (M2 : Nat → Int → Int), (∀ q9, (q9 < x + 78 ∨ x + 86 ≤ q9) → M2 q9 = M q9) → TellW f w a v → Q (0, vI v) (M2, S)) : EvQ 6 94 [vR x, vI w, vI a] (M, S) Q := by
  refine EvQ.enter (ls := [vR x, vI w, vI a]) (Nat.le_of_ble_eq_true rfl) rfl ?_
  have hA := hR.1
  have hA1 := hA.1
  have hWA := hR.2.1
  have hW1 := hWA.1
  have hI := hR.2.2
  have hI2 := hI.2.1
  have hI3 := hI.2.2.1
  obtain ⟨xf, hxf⟩ := fresh_ex hA1
  have hWr : ∀ s, 0 ≤ s → s < f 0 → 0 ≤ f (7 + 9 * s + 8) ∧ f (7 + 9 * s + 8) ≤ 1000000000 := fun s a b => ⟨(hI.1 s a b).2.2.1, by have := (hI.1 s a b).2.2.2; omega⟩
  refine WP.blk 2 ?_
  show WP 5 94 (if a < 0 ∨ 3 < a then 93 else ((#[32, 44, 53, 62] : Array Int).getD (a - 0).toNat 0).toNat) [vR x, vI w, vI a] [] (M, S) Q
  rcases (show a = 0 ∨ a = 1 ∨ a = 2 ∨ a = 3 ∨ (a < 0 ∨ 3 < a) by omega) with c_1 | c_1 | c_1 | c_1 | c_1
  · refine sw_in (t := 32) 0 c_1 rfl ?_
    refine WP.blk 2 ?_
    show (sT S x = 9 ∧ sR S x 2 ≠ 0) ∧ WP 5 94 36 [vR x, vI w, vI a] [vR (sR S x 2)] (M, S) Q
    refine ⟨⟨hS.1.1, by rw [(show sR S x 2 = x + 2 from hS.1.2.2.1)]; omega⟩, ?_⟩
    rw [(show sR S x 2 = x + 2 from hS.1.2.2.1)]
    refine WP.blk 1 ?_
    show (sT S (x + 2) = 8 ∧ sR S (x + 2) 1 ≠ 0) ∧ WP 5 94 39 [vR x, vI w, vI a] [vR (sR S (x + 2) 1)] (M, S) Q
    refine ⟨⟨hS.2.1.1, by rw [(show sR S (x + 2) 1 = x + 6 from hS.2.1.2.2.1)]; omega⟩, ?_⟩
    rw [(show sR S (x + 2) 1 = x + 6 from hS.2.1.2.2.1)]
    refine WP.blk 1 ?_
    show WP 5 94 40 [vR x, vI w, vI a] [vI w, vR (x + 6)] (M, S) Q
    refine WP.cl (a := [vR (x + 6), vI w]) (rest := []) rfl rfl rfl rfl ⟨hS.2.1.2.2.2.2.2.2.1.1, trivial⟩ (by decide) (k_len hS.2.1.2.2.2.2.2.2.1 has.1.1.2.1 (by omega) (by omega) ⟨rfl, ?_⟩)
    show WP 5 94 43 [vR x, vI w, vI a] [vI (f (97 + 14 * w))] (M, S) Q
    exact WP.ret rfl rfl rfl trivial (k _ _ (fun _ _ => rfl) (Or.inl ⟨by omega, by congr 1; omega⟩))
  · refine sw_in (t := 44) 1 c_1 rfl ?_
    refine WP.blk 2 ?_
    show (sT S x = 9 ∧ sR S x 2 ≠ 0) ∧ WP 5 94 48 [vR x, vI w, vI a] [vR (sR S x 2)] (M, S) Q
    refine ⟨⟨hS.1.1, by rw [(show sR S x 2 = x + 2 from hS.1.2.2.1)]; omega⟩, ?_⟩
    rw [(show sR S x 2 = x + 2 from hS.1.2.2.1)]
    refine WP.blk 1 ?_
    show WP 5 94 49 [vR x, vI w, vI a] [vI w, vR (x + 2)] (M, S) Q
    refine WP.cl (a := [vR (x + 2), vI w]) (rest := []) rfl rfl rfl rfl ⟨hS.2.1.1, trivial⟩ (by decide) (k_colorOf hS.2.1 has.1.1.2.2.1 (by omega) (by omega) ⟨rfl, ?_⟩)
    show WP 5 94 52 [vR x, vI w, vI a] [vI (f (97 + 14 * w + 1))] (M, S) Q
    exact WP.ret rfl rfl rfl trivial (k _ _ (fun _ _ => rfl) (Or.inl ⟨by omega, by congr 1; omega⟩))
  · refine sw_in (t := 53) 2 c_1 rfl ?_
    refine WP.blk 2 ?_
    show WP 5 94 55 [vR x, vI w, vI a] [vI w, vR x] (M, S) Q
    refine WP.cl (a := [vR x, vI w]) (rest := []) rfl rfl rfl rfl ⟨hS.1.1, trivial⟩ (by decide) (t_bestPlan hS has hx3 hR (by omega) hxf (fun My_2 fry_2 hky_2 => ⟨rfl, ?_⟩))
    show WP 5 94 58 [vR x, vI w, vI a] [vR (x + 78)] (My_2, S) Q
    have F_3 : AskR My_2 x f := AskR_fr (fun r9 h7 h8 h9 => fry_2 r9 (by omega)) has
    have fr_4 : (∀ q9, (q9 < x + 78 ∨ x + 86 ≤ q9) → My_2 q9 = M q9) := fun q9 q0 => (fry_2 q9 (by omega)).trans ((fun _ _ => rfl) q9 q0)
    have hnoy_2 := plnR_no hA (hWA.2 w (by omega) (by omega)).1 hxf hky_2
    refine WP.blk 1 ?_
    show sT S (x + 78) = 6 ∧ WP 5 94 61 [vR x, vI w, vI a] [vI (My_2 (x + 78) 3)] (My_2, S) Q
    refine ⟨hS.2.2.2.2.2.1.1, ?_⟩
    exact WP.ret rfl rfl rfl trivial (k _ _ fr_4 (tellW_2 hxf (by omega) hnoy_2 rfl))
  · refine sw_in (t := 62) 3 c_1 rfl ?_
    refine WP.blk 2 ?_
    show WP 5 94 64 [vR x, vI w, vI a] [vI w, vR x] (M, S) Q
    refine WP.cl (a := [vR x, vI w]) (rest := []) rfl rfl rfl rfl ⟨hS.1.1, trivial⟩ (by decide) (t_bestPlan hS has hx3 hR (by omega) hxf (fun My_5 fry_5 hky_5 => ⟨rfl, ?_⟩))
    show WP 5 94 67 [vR x, vI w, vI a] [vR (x + 78)] (My_5, S) Q
    have F_6 : AskR My_5 x f := AskR_fr (fun r9 h7 h8 h9 => fry_5 r9 (by omega)) has
    have fr_7 : (∀ q9, (q9 < x + 78 ∨ x + 86 ≤ q9) → My_5 q9 = M q9) := fun q9 q0 => (fry_5 q9 (by omega)).trans ((fun _ _ => rfl) q9 q0)
    have hnoy_5 := plnR_no hA (hWA.2 w (by omega) (by omega)).1 hxf hky_5
    refine WP.blk 2 ?_
    show (sT S x = 9 ∧ sR S x 2 ≠ 0) ∧ WP 5 94 71 [vR x, vI w, vI a] [vR (sR S x 2), vR (x + 78)] (My_5, S) Q
    refine ⟨⟨hS.1.1, by rw [(show sR S x 2 = x + 2 from hS.1.2.2.1)]; omega⟩, ?_⟩
    rw [(show sR S x 2 = x + 2 from hS.1.2.2.1)]
    refine WP.blk 1 ?_
    show (sT S (x + 2) = 8 ∧ sR S (x + 2) 3 ≠ 0) ∧ WP 5 94 74 [vR x, vI w, vI a] [vR (sR S (x + 2) 3), vR (x + 78)] (My_5, S) Q
    refine ⟨⟨hS.2.1.1, by rw [(show sR S (x + 2) 3 = x + 10 from hS.2.1.2.2.2.2.1)]; omega⟩, ?_⟩
    rw [(show sR S (x + 2) 3 = x + 10 from hS.2.1.2.2.2.2.1)]
    refine WP.blk 2 ?_
    show (sT S x = 9 ∧ sR S x 2 ≠ 0) ∧ WP 5 94 78 [vR x, vI w, vI a] [vR (sR S x 2), vR (x + 10), vR (x + 78)] (My_5, S) Q
    refine ⟨⟨hS.1.1, by rw [(show sR S x 2 = x + 2 from hS.1.2.2.1)]; omega⟩, ?_⟩
    rw [(show sR S x 2 = x + 2 from hS.1.2.2.1)]
    refine WP.blk 1 ?_
    show sT S (x + 2) = 8 ∧ WP 5 94 81 [vR x, vI w, vI a] [vI (My_5 (x + 2) 4), vR (x + 10), vR (x + 78)] (My_5, S) Q
    rw [F_6.1.1.2.2.2.1]
    refine ⟨hS.2.1.1, ?_⟩
    refine WP.cl (a := [vR (x + 78), vR (x + 10), vI (f 2)]) (rest := []) rfl rfl rfl rfl ⟨hS.2.2.2.2.2.1.1, trivial⟩ (by decide) (k_possible hS.2.2.2.2.2.1 hS.2.1.2.2.2.2.2.2.2.2.2 F_6.1.2 hA (hWA.2 w (by omega) (by omega)).1 hxf hky_5 rfl hWr (fun q8 hq8 => ⟨rfl, ?_⟩))
    show WP 5 94 84 [vR x, vI w, vI a] [vI q8] (My_5, S) Q
    replace hq8 : PosR My_5 (x + 78) f w q8 := hq8
    have hz8 := posR_b hq8
    refine WP.blk 1 ?_
    show WP 5 94 (if cnd .eq q8 0 = true then 91 else 87) [vR x, vI w, vI a] [] (My_5, S) Q
    refine br_eq (fun c_9 => ?_) (fun c_9 => ?_)
    · refine WP.blk 1 ?_
      show WP 5 94 92 [vR x, vI w, vI a] [vI 0] (My_5, S) Q
      exact WP.ret rfl rfl rfl trivial (k _ _ fr_7 (tellW_3f (by omega) (posR_f hq8 (by omega))))
    · refine WP.blk 2 ?_
      show WP 5 94 92 [vR x, vI w, vI a] [vI 1] (My_5, S) Q
      exact WP.ret rfl rfl rfl trivial (k _ _ fr_7 (tellW_3t (by omega) (posR_c hq8 (by omega))))
  · refine sw_out c_1 ?_
    refine WP.blk 3 ?_
    show WP 5 94 96 [vR x, vI w, vI a] [vI w, vR x, vR x] (M, S) Q
    refine WP.cl (a := [vR x, vI w]) (rest := [vR x]) rfl rfl rfl rfl ⟨hS.1.1, trivial⟩ (by decide) (t_bestPlan hS has hx3 hR (by omega) hxf (fun My_10 fry_10 hky_10 => ⟨rfl, ?_⟩))
    show WP 5 94 99 [vR x, vI w, vI a] [vR (x + 78), vR x] (My_10, S) Q
    have F_11 : AskR My_10 x f := AskR_fr (fun r9 h7 h8 h9 => fry_10 r9 (by omega)) has
    have fr_12 : (∀ q9, (q9 < x + 78 ∨ x + 86 ≤ q9) → My_10 q9 = M q9) := fun q9 q0 => (fry_10 q9 (by omega)).trans ((fun _ _ => rfl) q9 q0)
    have hnoy_10 := plnR_no hA (hWA.2 w (by omega) (by omega)).1 hxf hky_10
    refine WP.blk 4 ?_
    show WP 5 94 (if cnd .ne a 5 = true then 109 else 105) [vR x, vI w, vI a] [vI w, vR (x + 78), vR x] (My_10, S) Q
    refine br_ne (fun c_13 => ?_) (fun c_13 => ?_)
    · refine WP.blk 1 ?_
      show WP 5 94 110 [vR x, vI w, vI a] [vI 0, vI w, vR (x + 78), vR x] (My_10, S) Q
      refine WP.cl (a := [vR x, vR (x + 78), vI w, vI 0]) (rest := []) rfl rfl rfl rfl ⟨hS.1.1, trivial⟩ (by decide) (t_cost hS F_11 hx3 hR (by omega) hxf hky_10 hB (fun vy_14 My_14 fry_14 hvy_14 => ⟨rfl, ?_⟩))
      show WP 5 94 113 [vR x, vI w, vI a] [vI vy_14] (My_14, S) Q
      have F_15 : AskR My_14 x f := AskR_fr (fun r9 h7 h8 h9 => fry_14 r9 (by omega)) F_11
      have F_16 : PlnR My_14 (x + 78) f w xf := PlnR_fr (fun r9 h8 h9 => fry_14 r9 (by omega)) hky_10
      have fr_17 : (∀ q9, (q9 < x + 78 ∨ x + 86 ≤ q9) → My_14 q9 = M q9) := fun q9 q0 => (fry_14 q9 (by omega)).trans (fr_12 q9 q0)
      exact WP.ret rfl rfl rfl trivial (k _ _ fr_17 (tellW_5 (by omega) hvy_14))
    · refine WP.blk 2 ?_
      show WP 5 94 110 [vR x, vI w, vI a] [vI 1, vI w, vR (x + 78), vR x] (My_10, S) Q
      refine WP.cl (a := [vR x, vR (x + 78), vI w, vI 1]) (rest := []) rfl rfl rfl rfl ⟨hS.1.1, trivial⟩ (by decide) (t_cost hS F_11 hx3 hR (by omega) hxf hky_10 hB (fun vy_18 My_18 fry_18 hvy_18 => ⟨rfl, ?_⟩))
      show WP 5 94 113 [vR x, vI w, vI a] [vI vy_18] (My_18, S) Q
      have F_19 : AskR My_18 x f := AskR_fr (fun r9 h7 h8 h9 => fry_18 r9 (by omega)) F_11
      have F_20 : PlnR My_18 (x + 78) f w xf := PlnR_fr (fun r9 h8 h9 => fry_18 r9 (by omega)) hky_10
      have fr_21 : (∀ q9, (q9 < x + 78 ∨ x + 86 ≤ q9) → My_18 q9 = M q9) := fun q9 q0 => (fry_18 q9 (by omega)).trans (fr_12 q9 q0)
      exact WP.ret rfl rfl rfl trivial (k _ _ fr_21 (tellW_5 (by omega) hvy_18))
set_option maxHeartbeats 4000000 in
theorem j_bitCount {S : SD} {M : Nat → Int → Int} {u : Int} (hu : 0 ≤ u ∧ u < 1024) {Q : Res → Wd → Prop} (k : Q (0, vI (pop u)) (M, S)) : EvQ 1 105 [vI u] (M, S) Q := by
  refine EvQ.enter (ls := [vI u]) (Nat.le_of_ble_eq_true rfl) rfl ?_
  obtain ⟨e1, e2, e3, e4, e5, e6⟩ := bc_i hu
  unfold ir at e1 e2 e3 e4 e5
  refine WP.blk 24 ?_
  show ir (u - (iA (iU u 1) 1431655765)) ∧ ir ((iA (u - (iA (iU u 1) 1431655765)) 858993459) + (iA (iU (u - (iA (iU u 1) 1431655765)) 2) 858993459)) ∧ ir (((iA (u - (iA (iU u 1) 1431655765)) 858993459) + (iA (iU (u - (iA (iU u 1) 1431655765)) 2) 858993459)) + (iU ((iA (u - (iA (iU u 1) 1431655765)) 858993459) + (iA (iU (u - (iA (iU u 1) 1431655765)) 2) 858993459)) 4)) ∧ WP 0 105 32 [vI ((iA (u - (iA (iU u 1) 1431655765)) 858993459) + (iA (iU (u - (iA (iU u 1) 1431655765)) 2) 858993459))] [vI 252645135, vI (((iA (u - (iA (iU u 1) 1431655765)) 858993459) + (iA (iU (u - (iA (iU u 1) 1431655765)) 2) 858993459)) + (iU ((iA (u - (iA (iU u 1) 1431655765)) 858993459) + (iA (iU (u - (iA (iU u 1) 1431655765)) 2) 858993459)) 4))] (M, S) Q
  refine ⟨(by unfold ir; first | exact e1 | exact e2 | exact e3 | exact e4 | exact e5), (by unfold ir; first | exact e1 | exact e2 | exact e3 | exact e4 | exact e5), (by unfold ir; first | exact e1 | exact e2 | exact e3 | exact e4 | exact e5), ?_⟩
  refine WP.blk 17 ?_
  show ir ((iA (((iA (u - (iA (iU u 1) 1431655765)) 858993459) + (iA (iU (u - (iA (iU u 1) 1431655765)) 2) 858993459)) + (iU ((iA (u - (iA (iU u 1) 1431655765)) 858993459) + (iA (iU (u - (iA (iU u 1) 1431655765)) 2) 858993459)) 4)) 252645135) + (iU (iA (((iA (u - (iA (iU u 1) 1431655765)) 858993459) + (iA (iU (u - (iA (iU u 1) 1431655765)) 2) 858993459)) + (iU ((iA (u - (iA (iU u 1) 1431655765)) 858993459) + (iA (iU (u - (iA (iU u 1) 1431655765)) 2) 858993459)) 4)) 252645135) 8)) ∧ ir (((iA (((iA (u - (iA (iU u 1) 1431655765)) 858993459) + (iA (iU (u - (iA (iU u 1) 1431655765)) 2) 858993459)) + (iU ((iA (u - (iA (iU u 1) 1431655765)) 858993459) + (iA (iU (u - (iA (iU u 1) 1431655765)) 2) 858993459)) 4)) 252645135) + (iU (iA (((iA (u - (iA (iU u 1) 1431655765)) 858993459) + (iA (iU (u - (iA (iU u 1) 1431655765)) 2) 858993459)) + (iU ((iA (u - (iA (iU u 1) 1431655765)) 858993459) + (iA (iU (u - (iA (iU u 1) 1431655765)) 2) 858993459)) 4)) 252645135) 8)) + (iU ((iA (((iA (u - (iA (iU u 1) 1431655765)) 858993459) + (iA (iU (u - (iA (iU u 1) 1431655765)) 2) 858993459)) + (iU ((iA (u - (iA (iU u 1) 1431655765)) 858993459) + (iA (iU (u - (iA (iU u 1) 1431655765)) 2) 858993459)) 4)) 252645135) + (iU (iA (((iA (u - (iA (iU u 1) 1431655765)) 858993459) + (iA (iU (u - (iA (iU u 1) 1431655765)) 2) 858993459)) + (iU ((iA (u - (iA (iU u 1) 1431655765)) 858993459) + (iA (iU (u - (iA (iU u 1) 1431655765)) 2) 858993459)) 4)) 252645135) 8)) 16)) ∧ WP 0 105 52 [vI (((iA (((iA (u - (iA (iU u 1) 1431655765)) 858993459) + (iA (iU (u - (iA (iU u 1) 1431655765)) 2) 858993459)) + (iU ((iA (u - (iA (iU u 1) 1431655765)) 858993459) + (iA (iU (u - (iA (iU u 1) 1431655765)) 2) 858993459)) 4)) 252645135) + (iU (iA (((iA (u - (iA (iU u 1) 1431655765)) 858993459) + (iA (iU (u - (iA (iU u 1) 1431655765)) 2) 858993459)) + (iU ((iA (u - (iA (iU u 1) 1431655765)) 858993459) + (iA (iU (u - (iA (iU u 1) 1431655765)) 2) 858993459)) 4)) 252645135) 8)) + (iU ((iA (((iA (u - (iA (iU u 1) 1431655765)) 858993459) + (iA (iU (u - (iA (iU u 1) 1431655765)) 2) 858993459)) + (iU ((iA (u - (iA (iU u 1) 1431655765)) 858993459) + (iA (iU (u - (iA (iU u 1) 1431655765)) 2) 858993459)) 4)) 252645135) + (iU (iA (((iA (u - (iA (iU u 1) 1431655765)) 858993459) + (iA (iU (u - (iA (iU u 1) 1431655765)) 2) 858993459)) + (iU ((iA (u - (iA (iU u 1) 1431655765)) 858993459) + (iA (iU (u - (iA (iU u 1) 1431655765)) 2) 858993459)) 4)) 252645135) 8)) 16))] [vI (iA (((iA (((iA (u - (iA (iU u 1) 1431655765)) 858993459) + (iA (iU (u - (iA (iU u 1) 1431655765)) 2) 858993459)) + (iU ((iA (u - (iA (iU u 1) 1431655765)) 858993459) + (iA (iU (u - (iA (iU u 1) 1431655765)) 2) 858993459)) 4)) 252645135) + (iU (iA (((iA (u - (iA (iU u 1) 1431655765)) 858993459) + (iA (iU (u - (iA (iU u 1) 1431655765)) 2) 858993459)) + (iU ((iA (u - (iA (iU u 1) 1431655765)) 858993459) + (iA (iU (u - (iA (iU u 1) 1431655765)) 2) 858993459)) 4)) 252645135) 8)) + (iU ((iA (((iA (u - (iA (iU u 1) 1431655765)) 858993459) + (iA (iU (u - (iA (iU u 1) 1431655765)) 2) 858993459)) + (iU ((iA (u - (iA (iU u 1) 1431655765)) 858993459) + (iA (iU (u - (iA (iU u 1) 1431655765)) 2) 858993459)) 4)) 252645135) + (iU (iA (((iA (u - (iA (iU u 1) 1431655765)) 858993459) + (iA (iU (u - (iA (iU u 1) 1431655765)) 2) 858993459)) + (iU ((iA (u - (iA (iU u 1) 1431655765)) 858993459) + (iA (iU (u - (iA (iU u 1) 1431655765)) 2) 858993459)) 4)) 252645135) 8)) 16)) 63)] (M, S) Q
  refine ⟨(by unfold ir; first | exact e1 | exact e2 | exact e3 | exact e4 | exact e5), (by unfold ir; first | exact e1 | exact e2 | exact e3 | exact e4 | exact e5), ?_⟩
  exact WP.ret rfl rfl rfl trivial (by rw [← e6] at k; exact k)
set_option maxHeartbeats 4000000 in
theorem t_fewestStamps {S : SD} {M : Nat → Int → Int} {x : Nat} {f : Int → Int} {B : Int} (hS : isRub S x) (has : AskR M x f) (hx3 : 3 ≤ x) (hR : RowOk B f) {Q : Res → Wd → Prop} (k : ∀ (v : Int) (M2 : Nat → Int → Int), (∀ q9, (q9 < x + 78 ∨ x + 82 ≤ q9) → M2 q9 = M q9) → Sml f v → Q (0, vI v) (M2, S)) : EvQ 6 98 [vR x] (M, S) Q := by
  refine EvQ.enter (ls := [vR x, none, none, none, none, none]) (Nat.le_of_ble_eq_true rfl) rfl ?_
  have hA := hR.1
  have hA1 := hA.1
  have hWA := hR.2.1
  have hW1 := hWA.1
  have hI := hR.2.2
  have hI2 := hI.2.1
  have hI3 := hI.2.2.1
  obtain ⟨xf, hxf⟩ := fresh_ex hA1
  have hil := iL_r hA1
  refine WP.blk 2 ?_
  show (sT S x = 9 ∧ sR S x 2 ≠ 0) ∧ WP 5 98 4 [vR x, none, none, none, none, none] [vR (sR S x 2)] (M, S) Q
  refine ⟨⟨hS.1.1, by rw [(show sR S x 2 = x + 2 from hS.1.2.2.1)]; omega⟩, ?_⟩
  rw [(show sR S x 2 = x + 2 from hS.1.2.2.1)]
  refine WP.blk 2 ?_
  show (sT S x = 9 ∧ sR S x 2 ≠ 0) ∧ WP 5 98 8 [vR x, none, none, none, none, none] [vR (sR S x 2), vR (x + 2)] (M, S) Q
  refine ⟨⟨hS.1.1, by rw [(show sR S x 2 = x + 2 from hS.1.2.2.1)]; omega⟩, ?_⟩
  rw [(show sR S x 2 = x + 2 from hS.1.2.2.1)]
  refine WP.blk 1 ?_
  show (sT S (x + 2) = 8 ∧ sR S (x + 2) 3 ≠ 0) ∧ WP 5 98 11 [vR x, none, none, none, none, none] [vR (sR S (x + 2) 3), vR (x + 2)] (M, S) Q
  refine ⟨⟨hS.2.1.1, by rw [(show sR S (x + 2) 3 = x + 10 from hS.2.1.2.2.2.2.1)]; omega⟩, ?_⟩
  rw [(show sR S (x + 2) 3 = x + 10 from hS.2.1.2.2.2.2.1)]
  refine WP.cl (a := [vR (x + 2), vR (x + 10)]) (rest := []) rfl rfl rfl rfl ⟨hS.2.1.1, trivial⟩ (by decide) (k_pressesLeft hS.2.1 hS.2.1.2.2.2.2.2.2.2.2.2 has.1.1.1 has.1.1.2.2.2 has.1.2 hA1 (fun u_1 hpu_1 => ⟨rfl, ?_⟩))
  show WP 5 98 14 [vR x, none, none, none, none, none] [vI u_1] (M, S) Q
  have huu_1 := PL_ux hxf hpu_1
  refine WP.blk 7 ?_
  show WP 5 98 23 [vR x, vI u_1, vI (-1), vI 11, vI 0, none] [] (M, S) Q
  have hl_23 : ∀ (n_23 : Nat) (i : Int) (b : Int) (c : Int) (v5_23 : V) (Ma : Nat → Int → Int), 0 ≤ i ∧ i ≤ 1024 → FwB f xf i b c → AskR Ma x f → (∀ q9, (q9 < x + 78 ∨ x + 82 ≤ q9) → Ma q9 = M q9) → (1024 - i).toNat < n_23 → WP 5 98 23 [vR x, vI u_1, vI b, vI c, vI i, v5_23] [] (Ma, S) Q := by
    intro n_23
    induction n_23 with
    | zero => intro i b c v5_23 Ma h1 h2 F_23_as fr_23 hm_23; exact absurd hm_23 (Nat.not_lt_zero _)
    | succ n_23 ih_23 =>
      intro i b c v5_23 Ma h1 h2 F_23_as fr_23 hm_23
      refine WP.blk 4 ?_
      show (sT S x = 9 ∧ sR S x 2 ≠ 0) ∧ WP 5 98 30 [vR x, vI u_1, vI b, vI c, vI i, v5_23] [vR (sR S x 2), vI 1, vI i] (Ma, S) Q
      refine ⟨⟨hS.1.1, by rw [(show sR S x 2 = x + 2 from hS.1.2.2.1)]; omega⟩, ?_⟩
      rw [(show sR S x 2 = x + 2 from hS.1.2.2.1)]
      refine WP.blk 1 ?_
      show (sT S (x + 2) = 8 ∧ sR S (x + 2) 0 ≠ 0) ∧ WP 5 98 33 [vR x, vI u_1, vI b, vI c, vI i, v5_23] [vR (sR S (x + 2) 0), vI 1, vI i] (Ma, S) Q
      refine ⟨⟨hS.2.1.1, by rw [(show sR S (x + 2) 0 = x + 3 from hS.2.1.2.1)]; omega⟩, ?_⟩
      rw [(show sR S (x + 2) 0 = x + 3 from hS.2.1.2.1)]
      refine WP.blk 3 ?_
      show sT S (x + 3) = 7 ∧ WP 5 98 (if cnd .ge i (iL 1 (Ma (x + 3) 4)) = true then 89 else 40) [vR x, vI u_1, vI b, vI c, vI i, v5_23] [] (Ma, S) Q
      rw [F_23_as.1.1.1.1.2.2]
      refine ⟨hS.2.1.2.2.2.2.2.1.1, ?_⟩
      refine br_ge (fun c_2 => ?_) (fun c_2 => ?_)
      · refine WP.blk 1 ?_
        show WP 5 98 90 [vR x, vI u_1, vI b, vI c, vI i, v5_23] [vI b] (Ma, S) Q
        exact WP.ret rfl rfl rfl trivial (k _ _ fr_23 (FwB_e hxf h2 (by omega)))
      · refine WP.blk 1 ?_
        show WP 5 98 42 [vR x, vI u_1, vI b, vI c, vI i, v5_23] [vI i] (Ma, S) Q
        refine WP.cl (a := [vI i]) (rest := []) rfl rfl rfl rfl trivial (by decide) (k_pressesOfSet (by omega) (fun u_3 hu_3 => ⟨rfl, ?_⟩))
        show WP 5 98 45 [vR x, vI u_1, vI b, vI c, vI i, v5_23] [vI u_3] (Ma, S) Q
        refine WP.blk 2 ?_
        show WP 5 98 49 [vR x, vI u_1, vI b, vI c, vI i, vI u_3] [vI i] (Ma, S) Q
        refine WP.cl (a := [vI i]) (rest := []) rfl rfl rfl rfl trivial (by decide) (j_bitCount (by omega) ⟨rfl, ?_⟩)
        show WP 5 98 52 [vR x, vI u_1, vI b, vI c, vI i, vI u_3] [vI (pop i)] (Ma, S) Q
        refine WP.blk 2 ?_
        show WP 5 98 (if cnd .ge (pop i) c = true then 83 else 56) [vR x, vI u_1, vI b, vI c, vI i, vI u_3] [] (Ma, S) Q
        refine br_ge (fun c_4 => ?_) (fun c_4 => ?_)
        · refine WP.blk 2 ?_
          show ir (i + 1) ∧ WP 5 98 23 [vR x, vI u_1, vI b, vI c, vI (i + 1), vI u_3] [] (Ma, S) Q
          refine ⟨(by unfold ir; omega), ?_⟩
          exact ih_23 (i + 1) b c (vI u_3) Ma (by omega) (FwB_n hA1 h2 (fun _ => by omega)) F_23_as fr_23 (by omega)
        · refine WP.blk 6 ?_
          show WP 5 98 (if cnd .ne (iA u_3 (iX u_1 (-1))) 0 = true then 83 else 65) [vR x, vI u_1, vI b, vI c, vI i, vI u_3] [] (Ma, S) Q
          refine br_ne (fun c_5 => ?_) (fun c_5 => ?_)
          · refine WP.blk 2 ?_
            show ir (i + 1) ∧ WP 5 98 23 [vR x, vI u_1, vI b, vI c, vI (i + 1), vI u_3] [] (Ma, S) Q
            refine ⟨(by unfold ir; omega), ?_⟩
            exact ih_23 (i + 1) b c (vI u_3) Ma (by omega) (FwB_n hA1 h2 (fun hg => absurd ((ux_sub hu_3 huu_1).2 hg.2.1) (by assumption))) F_23_as fr_23 (by omega)
          · refine WP.blk 2 ?_
            show WP 5 98 68 [vR x, vI u_1, vI b, vI c, vI i, vI u_3] [vI u_3, vR x] (Ma, S) Q
            refine WP.cl (a := [vR x, vI u_3]) (rest := []) rfl rfl rfl rfl ⟨hS.1.1, trivial⟩ (by decide) (t_allHave hS F_23_as hx3 hR hu_3 (fun b_6 M6 fr6 hb_6 => ⟨rfl, ?_⟩))
            show WP 5 98 71 [vR x, vI u_1, vI b, vI c, vI i, vI u_3] [vI b_6] (M6, S) Q
            have F_7 : AskR M6 x f := AskR_fr (fun r9 h7 h8 h9 => fr6 r9 (by omega)) F_23_as
            have fr_8 : (∀ q9, (q9 < x + 78 ∨ x + 82 ≤ q9) → M6 q9 = M q9) := fun q9 q0 => (fr6 q9 (by omega)).trans (fr_23 q9 q0)
            refine WP.blk 1 ?_
            show WP 5 98 (if cnd .eq b_6 0 = true then 83 else 74) [vR x, vI u_1, vI b, vI c, vI i, vI u_3] [] (M6, S) Q
            refine br_eq (fun c_9 => ?_) (fun c_9 => ?_)
            · have p_6 := (hb_6.resolve_left (fun h => by omega)).2
              refine WP.blk 2 ?_
              show ir (i + 1) ∧ WP 5 98 23 [vR x, vI u_1, vI b, vI c, vI (i + 1), vI u_3] [] (M6, S) Q
              refine ⟨(by unfold ir; omega), ?_⟩
              exact ih_23 (i + 1) b c (vI u_3) M6 (by omega) (FwB_n hA1 h2 (fun hg => absurd hg.2.2 p_6)) F_7 fr_8 (by omega)
            · have p_6 := (hb_6.resolve_right (fun h => by omega)).2
              refine WP.blk 3 ?_
              show WP 5 98 79 [vR x, vI u_1, vI i, vI c, vI i, vI u_3] [vI i] (M6, S) Q
              refine WP.cl (a := [vI i]) (rest := []) rfl rfl rfl rfl trivial (by decide) (j_bitCount (by omega) ⟨rfl, ?_⟩)
              show WP 5 98 82 [vR x, vI u_1, vI i, vI c, vI i, vI u_3] [vI (pop i)] (M6, S) Q
              refine WP.blk 3 ?_
              show ir (i + 1) ∧ WP 5 98 23 [vR x, vI u_1, vI i, vI (pop i), vI (i + 1), vI u_3] [] (M6, S) Q
              refine ⟨(by unfold ir; omega), ?_⟩
              exact ih_23 (i + 1) i (pop i) (vI u_3) M6 (by omega) (FwB_t h2 ⟨by omega, (ux_sub hu_3 huu_1).1 (by assumption), p_6⟩ (by omega)) F_7 fr_8 (by omega)
  exact hl_23 _ 0 (-1) 11 (none) M (by omega) FwB_0 has (fun _ _ => rfl) (Nat.lt_succ_self _)
set_option maxHeartbeats 4000000 in
theorem t_fewest {S : SD} {M : Nat → Int → Int} {x : Nat} {f : Int → Int} {B : Int} (hS : isRub S x) (has : AskR M x f) (hx3 : 3 ≤ x) (hR : RowOk B f) {Q : Res → Wd → Prop} (k : ∀ (v : Int) (M2 : Nat → Int → Int), (∀ q9, (q9 < x + 78 ∨ x + 82 ≤ q9) → M2 q9 = M q9) → Sml f v → Q (0, vI v) (M2, S)) : EvQ 7 80 [vR x] (M, S) Q := by
  refine EvQ.enter (ls := [vR x]) (Nat.le_of_ble_eq_true rfl) rfl ?_
  refine WP.blk 1 ?_
  show WP 6 80 1 [vR x] [vR x] (M, S) Q
  refine WP.cl (a := [vR x]) (rest := []) rfl rfl rfl rfl ⟨hS.1.1, trivial⟩ (by decide) (t_fewestStamps hS has hx3 hR (fun vy_1 My_1 fry_1 hvy_1 => ⟨rfl, ?_⟩))
  show WP 6 80 4 [vR x] [vI vy_1] (My_1, S) Q
  have F_2 : AskR My_1 x f := AskR_fr (fun r9 h7 h8 h9 => fry_1 r9 (by omega)) has
  have fr_3 : (∀ q9, (q9 < x + 78 ∨ x + 82 ≤ q9) → My_1 q9 = M q9) := fun q9 q0 => (fry_1 q9 (by omega)).trans ((fun _ _ => rfl) q9 q0)
  exact WP.ret rfl rfl rfl trivial (k _ _ fr_3 hvy_1)
set_option maxHeartbeats 4000000 in
theorem t_value {S : SD} {M : Nat → Int → Int} {x : Nat} {f : Int → Int} {B : Int} {a : Int} (hS : isRub S x) (has : AskR M x f) (hx3 : 3 ≤ x) (hR : RowOk B f) {Q : Res → Wd → Prop} (k : ∀ (v : Int) (M2 : Nat → Int → Int), (∀ q9, (q9 < x + 78 ∨ x + 82 ≤ q9) → M2 q9 = M q9) → (0 ≤ a ∧ a ≤ 8) → TellV f a v → Q (0, vI v) (M2, S)) (k1 : ¬ (0 ≤ a ∧ a ≤ 8) → Q (1, none) (tk (M, S))) : EvQ 7 72 [vR x, vI a] (M, S) Q := by
  refine EvQ.enter (ls := [vR x, vI a]) (Nat.le_of_ble_eq_true rfl) rfl ?_
  refine WP.blk 2 ?_
  show WP 6 72 (if cnd .lt a 0 = true then 10 else 4) [vR x, vI a] [] (M, S) Q
  refine br_lt (fun c_1 => ?_) (fun c_1 => ?_)
  · exact WP.thr rfl rfl rfl rfl rfl (by decide) (k1 (by omega))
  · refine WP.blk 3 ?_
    show WP 6 72 (if cnd .lt a 9 = true then 20 else 10) [vR x, vI a] [] (M, S) Q
    refine br_lt (fun c_2 => ?_) (fun c_2 => ?_)
    · refine WP.blk 2 ?_
      show WP 6 72 22 [vR x, vI a] [vI a, vR x] (M, S) Q
      refine WP.cl (a := [vR x, vI a]) (rest := []) rfl rfl rfl rfl ⟨hS.1.1, trivial⟩ (by decide) (t_numberOf hS has hx3 hR (by omega) (fun vy_3 My_3 fry_3 hvy_3 => ⟨rfl, ?_⟩))
      show WP 6 72 25 [vR x, vI a] [vI vy_3] (My_3, S) Q
      have F_4 : AskR My_3 x f := AskR_fr (fun r9 h7 h8 h9 => fry_3 r9 (by omega)) has
      have fr_5 : (∀ q9, (q9 < x + 78 ∨ x + 82 ≤ q9) → My_3 q9 = M q9) := fun q9 q0 => (fry_3 q9 (by omega)).trans ((fun _ _ => rfl) q9 q0)
      exact WP.ret rfl rfl rfl trivial (k _ _ fr_5 (by omega) hvy_3)
    · exact WP.thr rfl rfl rfl rfl rfl (by decide) (k1 (by omega))
set_option maxHeartbeats 4000000 in
theorem t_stamp {S : SD} {M : Nat → Int → Int} {x : Nat} {f : Int → Int} {B : Int} {s a : Int} (hS : isRub S x) (has : AskR M x f) (hx3 : 3 ≤ x) (hR : RowOk B f) {Q : Res → Wd → Prop} (k : ∀ (v : Int), (0 ≤ s ∧ s < f 0) → (0 ≤ a ∧ a ≤ 5) → TellS f s a v → Q (0, vI v) (M, S)) (k3 : ¬ (0 ≤ s ∧ s < f 0) → Q (3, none) (tk (M, S))) (k1 : (0 ≤ s ∧ s < f 0) → ¬ (0 ≤ a ∧ a ≤ 5) → Q (1, none) (tk (M, S))) : EvQ 5 73 [vR x, vI s, vI a] (M, S) Q := by
  refine EvQ.enter (ls := [vR x, vI s, vI a]) (Nat.le_of_ble_eq_true rfl) rfl ?_
  have hA := hR.1
  have hA1 := hA.1
  have hWA := hR.2.1
  have hW1 := hWA.1
  have hI := hR.2.2
  have hI2 := hI.2.1
  have hI3 := hI.2.2.1
  obtain ⟨xf, hxf⟩ := fresh_ex hA1
  refine WP.blk 2 ?_
  show (sT S x = 9 ∧ sR S x 2 ≠ 0) ∧ WP 4 73 4 [vR x, vI s, vI a] [vR (sR S x 2)] (M, S) Q
  refine ⟨⟨hS.1.1, by rw [(show sR S x 2 = x + 2 from hS.1.2.2.1)]; omega⟩, ?_⟩
  rw [(show sR S x 2 = x + 2 from hS.1.2.2.1)]
  refine WP.blk 1 ?_
  show (sT S (x + 2) = 8 ∧ sR S (x + 2) 0 ≠ 0) ∧ WP 4 73 7 [vR x, vI s, vI a] [vR (sR S (x + 2) 0)] (M, S) Q
  refine ⟨⟨hS.2.1.1, by rw [(show sR S (x + 2) 0 = x + 3 from hS.2.1.2.1)]; omega⟩, ?_⟩
  rw [(show sR S (x + 2) 0 = x + 3 from hS.2.1.2.1)]
  refine WP.blk 1 ?_
  show WP 4 73 8 [vR x, vI s, vI a] [vI s, vR (x + 3)] (M, S) Q
  refine WP.cl (a := [vR (x + 3), vI s]) (rest := []) rfl rfl rfl rfl ⟨hS.2.1.2.2.2.2.2.1.1, trivial⟩ (by decide) (k_has hS.2.1.2.2.2.2.2.1 has.1.1.1 (by omega) (fun b_1 hb_1 => ⟨rfl, ?_⟩))
  show WP 4 73 11 [vR x, vI s, vI a] [vI b_1] (M, S) Q
  refine WP.blk 1 ?_
  show WP 4 73 (if cnd .ne b_1 0 = true then 24 else 14) [vR x, vI s, vI a] [] (M, S) Q
  refine br_ne (fun c_2 => ?_) (fun c_2 => ?_)
  · have p_1 := (hb_1.resolve_right (fun h => by omega)).2
    refine WP.blk 2 ?_
    show WP 4 73 (if cnd .lt a 0 = true then 34 else 28) [vR x, vI s, vI a] [] (M, S) Q
    refine br_lt (fun c_3 => ?_) (fun c_3 => ?_)
    · exact WP.thr rfl rfl rfl rfl rfl (by decide) (k1 (by omega) (by omega))
    · refine WP.blk 3 ?_
      show WP 4 73 (if cnd .lt a 6 = true then 44 else 34) [vR x, vI s, vI a] [] (M, S) Q
      refine br_lt (fun c_4 => ?_) (fun c_4 => ?_)
      · refine WP.blk 3 ?_
        show WP 4 73 47 [vR x, vI s, vI a] [vI a, vI s, vR x] (M, S) Q
        refine WP.cl (a := [vR x, vI s, vI a]) (rest := []) rfl rfl rfl rfl ⟨hS.1.1, trivial⟩ (by decide) (t_stampFact hS has hx3 hR (by omega) (by omega) (fun vy_5 hvy_5 => ⟨rfl, ?_⟩))
        show WP 4 73 50 [vR x, vI s, vI a] [vI vy_5] (M, S) Q
        exact WP.ret rfl rfl rfl trivial (k _ (by omega) (by omega) hvy_5)
      · exact WP.thr rfl rfl rfl rfl rfl (by decide) (k1 (by omega) (by omega))
  · have p_1 := (hb_1.resolve_left (fun h => by omega)).2
    exact WP.thr rfl rfl rfl rfl rfl (by decide) (k3 (by omega))
set_option maxHeartbeats 4000000 in
theorem t_word {S : SD} {M : Nat → Int → Int} {x : Nat} {f : Int → Int} {B : Int} {w a : Int} (hS : isRub S x) (has : AskR M x f) (hx3 : 3 ≤ x) (hR : RowOk B f) (hB : 0 ≤ B ∧ B ≤ 1000000000 - 400) {Q : Res → Wd → Prop} (k : ∀ (v : Int) (M2 : Nat → Int → Int), (∀ q9, (q9 < x + 78 ∨ x + 86 ≤ q9) → M2 q9 = M q9) → (0 ≤ w ∧ w < f 1) → (0 ≤ a ∧ a ≤ 5) → TellW f w a v → Q (0, vI v) (M2, S)) (k3 : ¬ (0 ≤ w ∧ w < f 1) → Q (3, none) (tk (M, S))) (k1 : (0 ≤ w ∧ w < f 1) → ¬ (0 ≤ a ∧ a ≤ 5) → Q (1, none) (tk (M, S))) : EvQ 7 75 [vR x, vI w, vI a] (M, S) Q := by
  refine EvQ.enter (ls := [vR x, vI w, vI a]) (Nat.le_of_ble_eq_true rfl) rfl ?_
  have hA := hR.1
  have hA1 := hA.1
  have hWA := hR.2.1
  have hW1 := hWA.1
  have hI := hR.2.2
  have hI2 := hI.2.1
  have hI3 := hI.2.2.1
  obtain ⟨xf, hxf⟩ := fresh_ex hA1
  refine WP.blk 2 ?_
  show (sT S x = 9 ∧ sR S x 2 ≠ 0) ∧ WP 6 75 4 [vR x, vI w, vI a] [vR (sR S x 2)] (M, S) Q
  refine ⟨⟨hS.1.1, by rw [(show sR S x 2 = x + 2 from hS.1.2.2.1)]; omega⟩, ?_⟩
  rw [(show sR S x 2 = x + 2 from hS.1.2.2.1)]
  refine WP.blk 1 ?_
  show (sT S (x + 2) = 8 ∧ sR S (x + 2) 1 ≠ 0) ∧ WP 6 75 7 [vR x, vI w, vI a] [vR (sR S (x + 2) 1)] (M, S) Q
  refine ⟨⟨hS.2.1.1, by rw [(show sR S (x + 2) 1 = x + 6 from hS.2.1.2.2.1)]; omega⟩, ?_⟩
  rw [(show sR S (x + 2) 1 = x + 6 from hS.2.1.2.2.1)]
  refine WP.blk 1 ?_
  show WP 6 75 8 [vR x, vI w, vI a] [vI w, vR (x + 6)] (M, S) Q
  refine WP.cl (a := [vR (x + 6), vI w]) (rest := []) rfl rfl rfl rfl ⟨hS.2.1.2.2.2.2.2.2.1.1, trivial⟩ (by decide) (k_has hS.2.1.2.2.2.2.2.2.1 has.1.1.2.1 (by omega) (fun b_1 hb_1 => ⟨rfl, ?_⟩))
  show WP 6 75 11 [vR x, vI w, vI a] [vI b_1] (M, S) Q
  refine WP.blk 1 ?_
  show WP 6 75 (if cnd .ne b_1 0 = true then 24 else 14) [vR x, vI w, vI a] [] (M, S) Q
  refine br_ne (fun c_2 => ?_) (fun c_2 => ?_)
  · have p_1 := (hb_1.resolve_right (fun h => by omega)).2
    refine WP.blk 2 ?_
    show WP 6 75 (if cnd .lt a 0 = true then 34 else 28) [vR x, vI w, vI a] [] (M, S) Q
    refine br_lt (fun c_3 => ?_) (fun c_3 => ?_)
    · exact WP.thr rfl rfl rfl rfl rfl (by decide) (k1 (by omega) (by omega))
    · refine WP.blk 3 ?_
      show WP 6 75 (if cnd .lt a 6 = true then 44 else 34) [vR x, vI w, vI a] [] (M, S) Q
      refine br_lt (fun c_4 => ?_) (fun c_4 => ?_)
      · refine WP.blk 3 ?_
        show WP 6 75 47 [vR x, vI w, vI a] [vI a, vI w, vR x] (M, S) Q
        refine WP.cl (a := [vR x, vI w, vI a]) (rest := []) rfl rfl rfl rfl ⟨hS.1.1, trivial⟩ (by decide) (t_wordFact hS has hx3 hR (by omega) (by omega) hB (fun vy_5 My_5 fry_5 hvy_5 => ⟨rfl, ?_⟩))
        show WP 6 75 50 [vR x, vI w, vI a] [vI vy_5] (My_5, S) Q
        have F_6 : AskR My_5 x f := AskR_fr (fun r9 h7 h8 h9 => fry_5 r9 (by omega)) has
        have fr_7 : (∀ q9, (q9 < x + 78 ∨ x + 86 ≤ q9) → My_5 q9 = M q9) := fun q9 q0 => (fry_5 q9 (by omega)).trans ((fun _ _ => rfl) q9 q0)
        exact WP.ret rfl rfl rfl trivial (k _ _ fr_7 (by omega) (by omega) hvy_5)
      · exact WP.thr rfl rfl rfl rfl rfl (by decide) (k1 (by omega) (by omega))
  · have p_1 := (hb_1.resolve_left (fun h => by omega)).2
    exact WP.thr rfl rfl rfl rfl rfl (by decide) (k3 (by omega))
set_option maxHeartbeats 4000000 in
theorem t_letter {S : SD} {M : Nat → Int → Int} {x : Nat} {f : Int → Int} {B : Int} {w i : Int} (hS : isRub S x) (has : AskR M x f) (hx3 : 3 ≤ x) (hR : RowOk B f) {Q : Res → Wd → Prop} (k : ((0 ≤ w ∧ w < f 1) ∧ 0 ≤ i ∧ i < f (97 + 14 * w)) → Q (0, vI (f (97 + 14 * w + 2 + i))) (M, S)) (k3 : ¬ ((0 ≤ w ∧ w < f 1) ∧ 0 ≤ i ∧ i < f (97 + 14 * w)) → Q (3, none) (tk (M, S))) : EvQ 3 76 [vR x, vI w, vI i] (M, S) Q := by
  refine EvQ.enter (ls := [vR x, vI w, vI i]) (Nat.le_of_ble_eq_true rfl) rfl ?_
  have hA := hR.1
  have hA1 := hA.1
  have hWA := hR.2.1
  have hW1 := hWA.1
  have hI := hR.2.2
  have hI2 := hI.2.1
  have hI3 := hI.2.2.1
  obtain ⟨xf, hxf⟩ := fresh_ex hA1
  refine WP.blk 2 ?_
  show (sT S x = 9 ∧ sR S x 2 ≠ 0) ∧ WP 2 76 4 [vR x, vI w, vI i] [vR (sR S x 2)] (M, S) Q
  refine ⟨⟨hS.1.1, by rw [(show sR S x 2 = x + 2 from hS.1.2.2.1)]; omega⟩, ?_⟩
  rw [(show sR S x 2 = x + 2 from hS.1.2.2.1)]
  refine WP.blk 1 ?_
  show (sT S (x + 2) = 8 ∧ sR S (x + 2) 1 ≠ 0) ∧ WP 2 76 7 [vR x, vI w, vI i] [vR (sR S (x + 2) 1)] (M, S) Q
  refine ⟨⟨hS.2.1.1, by rw [(show sR S (x + 2) 1 = x + 6 from hS.2.1.2.2.1)]; omega⟩, ?_⟩
  rw [(show sR S (x + 2) 1 = x + 6 from hS.2.1.2.2.1)]
  refine WP.blk 2 ?_
  show WP 2 76 9 [vR x, vI w, vI i] [vI i, vI w, vR (x + 6)] (M, S) Q
  refine WP.cl (a := [vR (x + 6), vI w, vI i]) (rest := []) rfl rfl rfl rfl ⟨hS.2.1.2.2.2.2.2.2.1.1, trivial⟩ (by decide) (k_hasLetter hS.2.1.2.2.2.2.2.2.1 has.1.1.2.1 (by omega) (by omega) (fun b_1 hb_1 => ⟨rfl, ?_⟩))
  show WP 2 76 12 [vR x, vI w, vI i] [vI b_1] (M, S) Q
  replace hb_1 : (b_1 = 1 ∧ (0 ≤ w ∧ w < f 1) ∧ 0 ≤ i ∧ i < f (97 + 14 * w)) ∨ (b_1 = 0 ∧ ¬ ((0 ≤ w ∧ w < f 1) ∧ 0 ≤ i ∧ i < f (97 + 14 * w))) := hb_1
  refine WP.blk 1 ?_
  show WP 2 76 (if cnd .ne b_1 0 = true then 25 else 15) [vR x, vI w, vI i] [] (M, S) Q
  refine br_ne (fun c_2 => ?_) (fun c_2 => ?_)
  · have p_1 := (hb_1.resolve_right (fun h => by omega)).2
    refine WP.blk 2 ?_
    show (sT S x = 9 ∧ sR S x 2 ≠ 0) ∧ WP 2 76 29 [vR x, vI w, vI i] [vR (sR S x 2)] (M, S) Q
    refine ⟨⟨hS.1.1, by rw [(show sR S x 2 = x + 2 from hS.1.2.2.1)]; omega⟩, ?_⟩
    rw [(show sR S x 2 = x + 2 from hS.1.2.2.1)]
    refine WP.blk 1 ?_
    show (sT S (x + 2) = 8 ∧ sR S (x + 2) 1 ≠ 0) ∧ WP 2 76 32 [vR x, vI w, vI i] [vR (sR S (x + 2) 1)] (M, S) Q
    refine ⟨⟨hS.2.1.1, by rw [(show sR S (x + 2) 1 = x + 6 from hS.2.1.2.2.1)]; omega⟩, ?_⟩
    rw [(show sR S (x + 2) 1 = x + 6 from hS.2.1.2.2.1)]
    refine WP.blk 2 ?_
    show WP 2 76 34 [vR x, vI w, vI i] [vI i, vI w, vR (x + 6)] (M, S) Q
    refine WP.cl (a := [vR (x + 6), vI w, vI i]) (rest := []) rfl rfl rfl rfl ⟨hS.2.1.2.2.2.2.2.2.1.1, trivial⟩ (by decide) (k_let hS.2.1.2.2.2.2.2.2.1 has.1.1.2.1 (by omega) (by omega) (by omega) (show _ ∧ _ < f (97 + 14 * w) by omega) ⟨rfl, ?_⟩)
    show WP 2 76 37 [vR x, vI w, vI i] [vI (f (97 + 14 * w + 2 + i))] (M, S) Q
    exact WP.ret rfl rfl rfl trivial (k (by omega))
  · have p_1 := (hb_1.resolve_left (fun h => by omega)).2
    exact WP.thr rfl rfl rfl rfl rfl (by decide) (k3 (by omega))
set_option maxHeartbeats 4000000 in
theorem t_print {S : SD} {M : Nat → Int → Int} {x : Nat} {f : Int → Int} {B : Int} {s i t : Int} (hS : isRub S x) (has : AskR M x f) (hx3 : 3 ≤ x) (hR : RowOk B f) {Q : Res → Wd → Prop} (k : ((0 ≤ s ∧ s < f 0) ∧ 0 ≤ i ∧ i < f (7 + 9 * s)) → (¬ t = 0 → CanT f s) → Q (0, vI (prL f s i t)) (M, S)) (kn : ((0 ≤ s ∧ s < f 0) ∧ 0 ≤ i ∧ i < f (7 + 9 * s)) → ¬ t = 0 → ¬ CanT f s → Q (0, vI (-1)) (M, S)) (k3 : ¬ ((0 ≤ s ∧ s < f 0) ∧ 0 ≤ i ∧ i < f (7 + 9 * s)) → Q (3, none) (tk (M, S))) : EvQ 4 74 [vR x, vI s, vI i, vI t] (M, S) Q := by
  refine EvQ.enter (ls := [vR x, vI s, vI i, vI t]) (Nat.le_of_ble_eq_true rfl) rfl ?_
  have hA := hR.1
  have hA1 := hA.1
  have hWA := hR.2.1
  have hW1 := hWA.1
  have hI := hR.2.2
  have hI2 := hI.2.1
  have hI3 := hI.2.2.1
  obtain ⟨xf, hxf⟩ := fresh_ex hA1
  refine WP.blk 2 ?_
  show (sT S x = 9 ∧ sR S x 2 ≠ 0) ∧ WP 3 74 4 [vR x, vI s, vI i, vI t] [vR (sR S x 2)] (M, S) Q
  refine ⟨⟨hS.1.1, by rw [(show sR S x 2 = x + 2 from hS.1.2.2.1)]; omega⟩, ?_⟩
  rw [(show sR S x 2 = x + 2 from hS.1.2.2.1)]
  refine WP.blk 1 ?_
  show (sT S (x + 2) = 8 ∧ sR S (x + 2) 0 ≠ 0) ∧ WP 3 74 7 [vR x, vI s, vI i, vI t] [vR (sR S (x + 2) 0)] (M, S) Q
  refine ⟨⟨hS.2.1.1, by rw [(show sR S (x + 2) 0 = x + 3 from hS.2.1.2.1)]; omega⟩, ?_⟩
  rw [(show sR S (x + 2) 0 = x + 3 from hS.2.1.2.1)]
  refine WP.blk 2 ?_
  show WP 3 74 9 [vR x, vI s, vI i, vI t] [vI i, vI s, vR (x + 3)] (M, S) Q
  refine WP.cl (a := [vR (x + 3), vI s, vI i]) (rest := []) rfl rfl rfl rfl ⟨hS.2.1.2.2.2.2.2.1.1, trivial⟩ (by decide) (k_hasLetter hS.2.1.2.2.2.2.2.1 has.1.1.1 (by omega) (by omega) (fun b_1 hb_1 => ⟨rfl, ?_⟩))
  show WP 3 74 12 [vR x, vI s, vI i, vI t] [vI b_1] (M, S) Q
  replace hb_1 : (b_1 = 1 ∧ (0 ≤ s ∧ s < f 0) ∧ 0 ≤ i ∧ i < f (7 + 9 * s)) ∨ (b_1 = 0 ∧ ¬ ((0 ≤ s ∧ s < f 0) ∧ 0 ≤ i ∧ i < f (7 + 9 * s))) := hb_1
  refine WP.blk 1 ?_
  show WP 3 74 (if cnd .ne b_1 0 = true then 25 else 15) [vR x, vI s, vI i, vI t] [] (M, S) Q
  refine br_ne (fun c_2 => ?_) (fun c_2 => ?_)
  · have p_1 := (hb_1.resolve_right (fun h => by omega)).2
    refine WP.blk 2 ?_
    show WP 3 74 (if cnd .eq t 0 = true then 45 else 29) [vR x, vI s, vI i, vI t] [] (M, S) Q
    refine br_eq (fun c_3 => ?_) (fun c_3 => ?_)
    · refine WP.blk 2 ?_
      show (sT S x = 9 ∧ sR S x 2 ≠ 0) ∧ WP 3 74 49 [vR x, vI s, vI i, vI t] [vR (sR S x 2)] (M, S) Q
      refine ⟨⟨hS.1.1, by rw [(show sR S x 2 = x + 2 from hS.1.2.2.1)]; omega⟩, ?_⟩
      rw [(show sR S x 2 = x + 2 from hS.1.2.2.1)]
      refine WP.blk 1 ?_
      show (sT S (x + 2) = 8 ∧ sR S (x + 2) 0 ≠ 0) ∧ WP 3 74 52 [vR x, vI s, vI i, vI t] [vR (sR S (x + 2) 0)] (M, S) Q
      refine ⟨⟨hS.2.1.1, by rw [(show sR S (x + 2) 0 = x + 3 from hS.2.1.2.1)]; omega⟩, ?_⟩
      rw [(show sR S (x + 2) 0 = x + 3 from hS.2.1.2.1)]
      refine WP.blk 3 ?_
      show WP 3 74 55 [vR x, vI s, vI i, vI t] [vI t, vI i, vI s, vR (x + 3)] (M, S) Q
      refine WP.cl (a := [vR (x + 3), vI s, vI i, vI t]) (rest := []) rfl rfl rfl rfl trivial (by decide) (k_printed hS.2.1.2.2.2.2.2.1 hS.2.2.2.2.2.2.2.2.2 has.2.2 has.1.1.1 (hA.2 _ (by omega) (by omega)) (by omega) (by omega) (by omega) ⟨rfl, ?_⟩)
      show WP 3 74 58 [vR x, vI s, vI i, vI t] [vI (prL f s i t)] (M, S) Q
      exact WP.ret rfl rfl rfl trivial (k (by omega) (fun h => by first | assumption | omega))
    · refine WP.blk 2 ?_
      show (sT S x = 9 ∧ sR S x 2 ≠ 0) ∧ WP 3 74 33 [vR x, vI s, vI i, vI t] [vR (sR S x 2)] (M, S) Q
      refine ⟨⟨hS.1.1, by rw [(show sR S x 2 = x + 2 from hS.1.2.2.1)]; omega⟩, ?_⟩
      rw [(show sR S x 2 = x + 2 from hS.1.2.2.1)]
      refine WP.blk 1 ?_
      show (sT S (x + 2) = 8 ∧ sR S (x + 2) 0 ≠ 0) ∧ WP 3 74 36 [vR x, vI s, vI i, vI t] [vR (sR S (x + 2) 0)] (M, S) Q
      refine ⟨⟨hS.2.1.1, by rw [(show sR S (x + 2) 0 = x + 3 from hS.2.1.2.1)]; omega⟩, ?_⟩
      rw [(show sR S (x + 2) 0 = x + 3 from hS.2.1.2.1)]
      refine WP.blk 1 ?_
      show WP 3 74 37 [vR x, vI s, vI i, vI t] [vI s, vR (x + 3)] (M, S) Q
      refine WP.cl (a := [vR (x + 3), vI s]) (rest := []) rfl rfl rfl rfl trivial (by decide) (k_canTurn hS.2.1.2.2.2.2.2.1 hS.2.2.2.2.2.2.2.2.2 has.2.2 has.1.1.1 (hA.2 _ (by omega) (by omega)) (by omega) (by omega) (fun b_4 hb_4 => ⟨rfl, ?_⟩))
      show WP 3 74 40 [vR x, vI s, vI i, vI t] [vI b_4] (M, S) Q
      refine WP.blk 1 ?_
      show WP 3 74 (if cnd .ne b_4 0 = true then 45 else 43) [vR x, vI s, vI i, vI t] [] (M, S) Q
      refine br_ne (fun c_5 => ?_) (fun c_5 => ?_)
      · have p_4 := (hb_4.resolve_right (fun h => by omega)).2
        refine WP.blk 2 ?_
        show (sT S x = 9 ∧ sR S x 2 ≠ 0) ∧ WP 3 74 49 [vR x, vI s, vI i, vI t] [vR (sR S x 2)] (M, S) Q
        refine ⟨⟨hS.1.1, by rw [(show sR S x 2 = x + 2 from hS.1.2.2.1)]; omega⟩, ?_⟩
        rw [(show sR S x 2 = x + 2 from hS.1.2.2.1)]
        refine WP.blk 1 ?_
        show (sT S (x + 2) = 8 ∧ sR S (x + 2) 0 ≠ 0) ∧ WP 3 74 52 [vR x, vI s, vI i, vI t] [vR (sR S (x + 2) 0)] (M, S) Q
        refine ⟨⟨hS.2.1.1, by rw [(show sR S (x + 2) 0 = x + 3 from hS.2.1.2.1)]; omega⟩, ?_⟩
        rw [(show sR S (x + 2) 0 = x + 3 from hS.2.1.2.1)]
        refine WP.blk 3 ?_
        show WP 3 74 55 [vR x, vI s, vI i, vI t] [vI t, vI i, vI s, vR (x + 3)] (M, S) Q
        refine WP.cl (a := [vR (x + 3), vI s, vI i, vI t]) (rest := []) rfl rfl rfl rfl trivial (by decide) (k_printed hS.2.1.2.2.2.2.2.1 hS.2.2.2.2.2.2.2.2.2 has.2.2 has.1.1.1 (hA.2 _ (by omega) (by omega)) (by omega) (by omega) (by omega) ⟨rfl, ?_⟩)
        show WP 3 74 58 [vR x, vI s, vI i, vI t] [vI (prL f s i t)] (M, S) Q
        exact WP.ret rfl rfl rfl trivial (k (by omega) (fun h => by first | assumption | omega))
      · have p_4 := (hb_4.resolve_left (fun h => by omega)).2
        refine WP.blk 1 ?_
        show WP 3 74 44 [vR x, vI s, vI i, vI t] [vI (-1)] (M, S) Q
        exact WP.ret rfl rfl rfl trivial (kn (by omega) (by omega) (by assumption))
  · have p_1 := (hb_1.resolve_left (fun h => by omega)).2
    exact WP.thr rfl rfl rfl rfl rfl (by decide) (k3 (by omega))
set_option maxHeartbeats 4000000 in
theorem t_press {S : SD} {M : Nat → Int → Int} {x : Nat} {f : Int → Int} {B : Int} {w i : Int} (hS : isRub S x) (has : AskR M x f) (hx3 : 3 ≤ x) (hR : RowOk B f) {Q : Res → Wd → Prop} (k : ∀ (v : Int) (c : Int → Int) (n : Int) (M2 : Nat → Int → Int), (∀ q9, (q9 < x + 78 ∨ x + 82 ≤ q9) → M2 q9 = M q9) → (0 ≤ w ∧ w < f 1) → BestP f w c n → (0 ≤ i ∧ i < n) → v = c i → Q (0, vI v) (M2, S)) (k3 : ∀ (M2 : Nat → Int → Int), (∀ q9, (q9 < x + 78 ∨ x + 82 ≤ q9) → M2 q9 = M q9) → (¬ (0 ≤ w ∧ w < f 1) ∨ ∀ c n, BestP f w c n → ¬ (0 ≤ i ∧ i < n)) → Q (3, none) (tk (M2, S))) : EvQ 6 77 [vR x, vI w, vI i] (M, S) Q := by
  refine EvQ.enter (ls := [vR x, vI w, vI i, none]) (Nat.le_of_ble_eq_true rfl) rfl ?_
  have hA := hR.1
  have hA1 := hA.1
  have hWA := hR.2.1
  have hW1 := hWA.1
  have hI := hR.2.2
  have hI2 := hI.2.1
  have hI3 := hI.2.2.1
  obtain ⟨xf, hxf⟩ := fresh_ex hA1
  refine WP.blk 2 ?_
  show (sT S x = 9 ∧ sR S x 2 ≠ 0) ∧ WP 5 77 4 [vR x, vI w, vI i, none] [vR (sR S x 2)] (M, S) Q
  refine ⟨⟨hS.1.1, by rw [(show sR S x 2 = x + 2 from hS.1.2.2.1)]; omega⟩, ?_⟩
  rw [(show sR S x 2 = x + 2 from hS.1.2.2.1)]
  refine WP.blk 1 ?_
  show (sT S (x + 2) = 8 ∧ sR S (x + 2) 1 ≠ 0) ∧ WP 5 77 7 [vR x, vI w, vI i, none] [vR (sR S (x + 2) 1)] (M, S) Q
  refine ⟨⟨hS.2.1.1, by rw [(show sR S (x + 2) 1 = x + 6 from hS.2.1.2.2.1)]; omega⟩, ?_⟩
  rw [(show sR S (x + 2) 1 = x + 6 from hS.2.1.2.2.1)]
  refine WP.blk 1 ?_
  show WP 5 77 8 [vR x, vI w, vI i, none] [vI w, vR (x + 6)] (M, S) Q
  refine WP.cl (a := [vR (x + 6), vI w]) (rest := []) rfl rfl rfl rfl ⟨hS.2.1.2.2.2.2.2.2.1.1, trivial⟩ (by decide) (k_has hS.2.1.2.2.2.2.2.2.1 has.1.1.2.1 (by omega) (fun b_1 hb_1 => ⟨rfl, ?_⟩))
  show WP 5 77 11 [vR x, vI w, vI i, none] [vI b_1] (M, S) Q
  refine WP.blk 1 ?_
  show WP 5 77 (if cnd .ne b_1 0 = true then 24 else 14) [vR x, vI w, vI i, none] [] (M, S) Q
  refine br_ne (fun c_2 => ?_) (fun c_2 => ?_)
  · have p_1 := (hb_1.resolve_right (fun h => by omega)).2
    refine WP.blk 2 ?_
    show WP 5 77 26 [vR x, vI w, vI i, none] [vI w, vR x] (M, S) Q
    refine WP.cl (a := [vR x, vI w]) (rest := []) rfl rfl rfl rfl ⟨hS.1.1, trivial⟩ (by decide) (t_bestPlan hS has hx3 hR (by omega) hxf (fun My_3 fry_3 hky_3 => ⟨rfl, ?_⟩))
    show WP 5 77 29 [vR x, vI w, vI i, none] [vR (x + 78)] (My_3, S) Q
    have F_4 : AskR My_3 x f := AskR_fr (fun r9 h7 h8 h9 => fry_3 r9 (by omega)) has
    have fr_5 : (∀ q9, (q9 < x + 78 ∨ x + 82 ≤ q9) → My_3 q9 = M q9) := fun q9 q0 => (fry_3 q9 (by omega)).trans ((fun _ _ => rfl) q9 q0)
    have hnoy_3 := plnR_no hA (hWA.2 w (by omega) (by omega)).1 hxf hky_3
    refine WP.blk 3 ?_
    show WP 5 77 (if cnd .lt i 0 = true then 42 else 34) [vR x, vI w, vI i, vR (x + 78)] [] (My_3, S) Q
    refine br_lt (fun c_6 => ?_) (fun c_6 => ?_)
    · exact WP.thr rfl rfl rfl rfl rfl (by decide) (k3 _ fr_5 (Or.inr (fun c n h9 h8 => by rcases hnoy_3 with h | h; exact absurd h9 (h.2.2 c n); have e9 := (bestp_u hA (hWA.2 w (by omega) (by omega)).1 h9 h.2.2.2).1; omega)))
    · refine WP.blk 4 ?_
      show sT S (x + 78) = 6 ∧ WP 5 77 (if cnd .lt i (My_3 (x + 78) 3) = true then 52 else 42) [vR x, vI w, vI i, vR (x + 78)] [] (My_3, S) Q
      refine ⟨hS.2.2.2.2.2.1.1, ?_⟩
      refine br_lt (fun c_7 => ?_) (fun c_7 => ?_)
      · refine WP.blk 2 ?_
        show WP 5 77 54 [vR x, vI w, vI i, vR (x + 78)] [vI i, vR (x + 78)] (My_3, S) Q
        refine WP.cl (a := [vR (x + 78), vI i]) (rest := []) rfl rfl rfl rfl ⟨hS.2.2.2.2.2.1.1, trivial⟩ (by decide) (k_codeAt hS.2.2.2.2.2.1 (by omega) ⟨rfl, ?_⟩)
        show WP 5 77 57 [vR x, vI w, vI i, vR (x + 78)] [vI (My_3 (x + 80) i)] (My_3, S) Q
        exact WP.ret rfl rfl rfl trivial (k _ _ _ _ fr_5 (by omega) (hnoy_3.resolve_left (fun h => by omega)).2.2.2 (by omega) rfl)
      · exact WP.thr rfl rfl rfl rfl rfl (by decide) (k3 _ fr_5 (Or.inr (fun c n h9 h8 => by rcases hnoy_3 with h | h; exact absurd h9 (h.2.2 c n); have e9 := (bestp_u hA (hWA.2 w (by omega) (by omega)).1 h9 h.2.2.2).1; omega)))
  · have p_1 := (hb_1.resolve_left (fun h => by omega)).2
    exact WP.thr rfl rfl rfl rfl rfl (by decide) (k3 _ (fun _ _ => rfl) (Or.inl (by omega)))
set_option maxHeartbeats 4000000 in
theorem t_needed {S : SD} {M : Nat → Int → Int} {x : Nat} {f : Int → Int} {B : Int} {s : Int} (hS : isRub S x) (has : AskR M x f) (hx3 : 3 ≤ x) (hR : RowOk B f) {Q : Res → Wd → Prop} (k : ∀ (v : Int) (M2 : Nat → Int → Int), (∀ q9, (q9 < x + 78 ∨ x + 82 ≤ q9) → M2 q9 = M q9) → (0 ≤ s ∧ s < f 0) → v = num (NdW f s) (f 1) → Q (0, vI v) (M2, S)) (k3 : ¬ (0 ≤ s ∧ s < f 0) → Q (3, none) (tk (M, S))) : EvQ 5 81 [vR x, vI s] (M, S) Q := by
  refine EvQ.enter (ls := [vR x, vI s, none, none, none, none]) (Nat.le_of_ble_eq_true rfl) rfl ?_
  have hA := hR.1
  have hA1 := hA.1
  have hWA := hR.2.1
  have hW1 := hWA.1
  have hI := hR.2.2
  have hI2 := hI.2.1
  have hI3 := hI.2.2.1
  obtain ⟨xf, hxf⟩ := fresh_ex hA1
  refine WP.blk 2 ?_
  show (sT S x = 9 ∧ sR S x 2 ≠ 0) ∧ WP 4 81 4 [vR x, vI s, none, none, none, none] [vR (sR S x 2)] (M, S) Q
  refine ⟨⟨hS.1.1, by rw [(show sR S x 2 = x + 2 from hS.1.2.2.1)]; omega⟩, ?_⟩
  rw [(show sR S x 2 = x + 2 from hS.1.2.2.1)]
  refine WP.blk 1 ?_
  show (sT S (x + 2) = 8 ∧ sR S (x + 2) 0 ≠ 0) ∧ WP 4 81 7 [vR x, vI s, none, none, none, none] [vR (sR S (x + 2) 0)] (M, S) Q
  refine ⟨⟨hS.2.1.1, by rw [(show sR S (x + 2) 0 = x + 3 from hS.2.1.2.1)]; omega⟩, ?_⟩
  rw [(show sR S (x + 2) 0 = x + 3 from hS.2.1.2.1)]
  refine WP.blk 1 ?_
  show WP 4 81 8 [vR x, vI s, none, none, none, none] [vI s, vR (x + 3)] (M, S) Q
  refine WP.cl (a := [vR (x + 3), vI s]) (rest := []) rfl rfl rfl rfl ⟨hS.2.1.2.2.2.2.2.1.1, trivial⟩ (by decide) (k_has hS.2.1.2.2.2.2.2.1 has.1.1.1 (by omega) (fun b_1 hb_1 => ⟨rfl, ?_⟩))
  show WP 4 81 11 [vR x, vI s, none, none, none, none] [vI b_1] (M, S) Q
  refine WP.blk 1 ?_
  show WP 4 81 (if cnd .ne b_1 0 = true then 24 else 14) [vR x, vI s, none, none, none, none] [] (M, S) Q
  refine br_ne (fun c_2 => ?_) (fun c_2 => ?_)
  · have p_1 := (hb_1.resolve_right (fun h => by omega)).2
    refine WP.blk 2 ?_
    show (sT S x = 9 ∧ sR S x 2 ≠ 0) ∧ WP 4 81 28 [vR x, vI s, none, none, none, none] [vR (sR S x 2)] (M, S) Q
    refine ⟨⟨hS.1.1, by rw [(show sR S x 2 = x + 2 from hS.1.2.2.1)]; omega⟩, ?_⟩
    rw [(show sR S x 2 = x + 2 from hS.1.2.2.1)]
    refine WP.blk 2 ?_
    show (sT S x = 9 ∧ sR S x 2 ≠ 0) ∧ WP 4 81 32 [vR x, vI s, none, none, none, none] [vR (sR S x 2), vR (x + 2)] (M, S) Q
    refine ⟨⟨hS.1.1, by rw [(show sR S x 2 = x + 2 from hS.1.2.2.1)]; omega⟩, ?_⟩
    rw [(show sR S x 2 = x + 2 from hS.1.2.2.1)]
    refine WP.blk 1 ?_
    show (sT S (x + 2) = 8 ∧ sR S (x + 2) 3 ≠ 0) ∧ WP 4 81 35 [vR x, vI s, none, none, none, none] [vR (sR S (x + 2) 3), vR (x + 2)] (M, S) Q
    refine ⟨⟨hS.2.1.1, by rw [(show sR S (x + 2) 3 = x + 10 from hS.2.1.2.2.2.2.1)]; omega⟩, ?_⟩
    rw [(show sR S (x + 2) 3 = x + 10 from hS.2.1.2.2.2.2.1)]
    refine WP.cl (a := [vR (x + 2), vR (x + 10)]) (rest := []) rfl rfl rfl rfl ⟨hS.2.1.1, trivial⟩ (by decide) (k_pressesLeft hS.2.1 hS.2.1.2.2.2.2.2.2.2.2.2 has.1.1.1 has.1.1.2.2.2 has.1.2 hA1 (fun u_3 hpu_3 => ⟨rfl, ?_⟩))
    show WP 4 81 38 [vR x, vI s, none, none, none, none] [vI u_3] (M, S) Q
    have huu_3 := PL_ux hxf hpu_3
    refine WP.blk 3 ?_
    show WP 4 81 41 [vR x, vI s, vI u_3, none, none, none] [vI s, vI u_3] (M, S) Q
    refine WP.cl (a := [vI s]) (rest := [vI u_3]) rfl rfl rfl rfl trivial (by decide) (k_pressesOf (by omega) ⟨rfl, ?_⟩)
    show WP 4 81 44 [vR x, vI s, vI u_3, none, none, none] [vI (iL 3 (2 * s)), vI u_3] (M, S) Q
    refine WP.blk 8 ?_
    show WP 4 81 54 [vR x, vI s, vI u_3, vI (iA u_3 (iX (iL 3 (2 * s)) (-1))), vI 0, vI 0] [] (M, S) Q
    have hl_54 : ∀ (n_54 : Nat) (i : Int) (v : Int) (Ma : Nat → Int → Int), 0 ≤ i ∧ i ≤ f 1 → v = num (NdW f s) i → AskR Ma x f → (∀ q9, (q9 < x + 78 ∨ x + 82 ≤ q9) → Ma q9 = M q9) → (f 1 - i).toNat < n_54 → WP 4 81 54 [vR x, vI s, vI u_3, vI (iA u_3 (iX (iL 3 (2 * s)) (-1))), vI v, vI i] [] (Ma, S) Q := by
      intro n_54
      induction n_54 with
      | zero => intro i v Ma h1 h2 F_54_as fr_54 hm_54; exact absurd hm_54 (Nat.not_lt_zero _)
      | succ n_54 ih_54 =>
        intro i v Ma h1 h2 F_54_as fr_54 hm_54
        have h9 := num_r (P := NdW f s) h1.1
        refine WP.blk 3 ?_
        show (sT S x = 9 ∧ sR S x 2 ≠ 0) ∧ WP 4 81 60 [vR x, vI s, vI u_3, vI (iA u_3 (iX (iL 3 (2 * s)) (-1))), vI v, vI i] [vR (sR S x 2), vI i] (Ma, S) Q
        refine ⟨⟨hS.1.1, by rw [(show sR S x 2 = x + 2 from hS.1.2.2.1)]; omega⟩, ?_⟩
        rw [(show sR S x 2 = x + 2 from hS.1.2.2.1)]
        refine WP.blk 1 ?_
        show (sT S (x + 2) = 8 ∧ sR S (x + 2) 1 ≠ 0) ∧ WP 4 81 63 [vR x, vI s, vI u_3, vI (iA u_3 (iX (iL 3 (2 * s)) (-1))), vI v, vI i] [vR (sR S (x + 2) 1), vI i] (Ma, S) Q
        refine ⟨⟨hS.2.1.1, by rw [(show sR S (x + 2) 1 = x + 6 from hS.2.1.2.2.1)]; omega⟩, ?_⟩
        rw [(show sR S (x + 2) 1 = x + 6 from hS.2.1.2.2.1)]
        refine WP.blk 2 ?_
        show sT S (x + 6) = 7 ∧ WP 4 81 (if cnd .ge i (Ma (x + 6) 4) = true then 98 else 69) [vR x, vI s, vI u_3, vI (iA u_3 (iX (iL 3 (2 * s)) (-1))), vI v, vI i] [] (Ma, S) Q
        rw [F_54_as.1.1.2.1.1.2.2]
        refine ⟨hS.2.1.2.2.2.2.2.2.1.1, ?_⟩
        refine br_ge (fun c_4 => ?_) (fun c_4 => ?_)
        · refine WP.blk 1 ?_
          show WP 4 81 100 [vR x, vI s, vI u_3, vI (iA u_3 (iX (iL 3 (2 * s)) (-1))), vI v, vI i] [vI v] (Ma, S) Q
          exact WP.ret rfl rfl rfl trivial (k _ _ fr_54 (by omega) (by rw [h2, show i = f 1 by omega]))
        · refine WP.blk 3 ?_
          show WP 4 81 73 [vR x, vI s, vI u_3, vI (iA u_3 (iX (iL 3 (2 * s)) (-1))), vI v, vI i] [vI u_3, vI i, vR x] (Ma, S) Q
          refine WP.cl (a := [vR x, vI i, vI u_3]) (rest := []) rfl rfl rfl rfl ⟨hS.1.1, trivial⟩ (by decide) (t_hasPlan hS F_54_as hx3 hR (by omega) huu_3 (fun b_5 M5 fr5 hb_5 => ⟨rfl, ?_⟩))
          show WP 4 81 76 [vR x, vI s, vI u_3, vI (iA u_3 (iX (iL 3 (2 * s)) (-1))), vI v, vI i] [vI b_5] (M5, S) Q
          have F_6 : AskR M5 x f := AskR_fr (fun r9 h7 h8 h9 => fr5 r9 (by omega)) F_54_as
          have fr_7 : (∀ q9, (q9 < x + 78 ∨ x + 82 ≤ q9) → M5 q9 = M q9) := fun q9 q0 => (fr5 q9 (by omega)).trans (fr_54 q9 q0)
          refine WP.blk 1 ?_
          show WP 4 81 (if cnd .eq b_5 0 = true then 92 else 79) [vR x, vI s, vI u_3, vI (iA u_3 (iX (iL 3 (2 * s)) (-1))), vI v, vI i] [] (M5, S) Q
          refine br_eq (fun c_8 => ?_) (fun c_8 => ?_)
          · have p_5 := (hb_5.resolve_left (fun h => by omega)).2
            refine WP.blk 2 ?_
            show ir (i + 1) ∧ WP 4 81 54 [vR x, vI s, vI u_3, vI (iA u_3 (iX (iL 3 (2 * s)) (-1))), vI v, vI (i + 1)] [] (M5, S) Q
            refine ⟨(by unfold ir; omega), ?_⟩
            exact ih_54 (i + 1) v M5 (by omega) (by rw [num_f (P := NdW f s) h1.1 (by rw [nd_i hxf]; exact fun h => p_5 h.1)]; omega) F_6 fr_7 (by omega)
          · have p_5 := (hb_5.resolve_right (fun h => by omega)).2
            refine WP.blk 3 ?_
            show WP 4 81 83 [vR x, vI s, vI u_3, vI (iA u_3 (iX (iL 3 (2 * s)) (-1))), vI v, vI i] [vI (iA u_3 (iX (iL 3 (2 * s)) (-1))), vI i, vR x] (M5, S) Q
            refine WP.cl (a := [vR x, vI i, vI (iA u_3 (iX (iL 3 (2 * s)) (-1)))]) (rest := []) rfl rfl rfl rfl ⟨hS.1.1, trivial⟩ (by decide) (t_hasPlan hS F_6 hx3 hR (by omega) (ux_out ⟨hxf.1, hxf.2.1⟩ huu_3 (by omega)) (fun b_9 M9 fr9 hb_9 => ⟨rfl, ?_⟩))
            show WP 4 81 86 [vR x, vI s, vI u_3, vI (iA u_3 (iX (iL 3 (2 * s)) (-1))), vI v, vI i] [vI b_9] (M9, S) Q
            have F_10 : AskR M9 x f := AskR_fr (fun r9 h7 h8 h9 => fr9 r9 (by omega)) F_6
            have fr_11 : (∀ q9, (q9 < x + 78 ∨ x + 82 ≤ q9) → M9 q9 = M q9) := fun q9 q0 => (fr9 q9 (by omega)).trans (fr_7 q9 q0)
            refine WP.blk 1 ?_
            show WP 4 81 (if cnd .ne b_9 0 = true then 92 else 89) [vR x, vI s, vI u_3, vI (iA u_3 (iX (iL 3 (2 * s)) (-1))), vI v, vI i] [] (M9, S) Q
            refine br_ne (fun c_12 => ?_) (fun c_12 => ?_)
            · have p_9 := (hb_9.resolve_right (fun h => by omega)).2
              refine WP.blk 2 ?_
              show ir (i + 1) ∧ WP 4 81 54 [vR x, vI s, vI u_3, vI (iA u_3 (iX (iL 3 (2 * s)) (-1))), vI v, vI (i + 1)] [] (M9, S) Q
              refine ⟨(by unfold ir; omega), ?_⟩
              exact ih_54 (i + 1) v M9 (by omega) (by rw [num_f (P := NdW f s) h1.1 (by rw [nd_i hxf]; exact fun h => h.2 p_9)]; omega) F_10 fr_11 (by omega)
            · have p_9 := (hb_9.resolve_left (fun h => by omega)).2
              refine WP.blk 3 ?_
              show ir (v + 1) ∧ ir (i + 1) ∧ WP 4 81 54 [vR x, vI s, vI u_3, vI (iA u_3 (iX (iL 3 (2 * s)) (-1))), vI (v + 1), vI (i + 1)] [] (M9, S) Q
              refine ⟨(by unfold ir; omega), (by unfold ir; omega), ?_⟩
              exact ih_54 (i + 1) (v + 1) M9 (by omega) (by rw [num_t (P := NdW f s) h1.1 (by rw [nd_i hxf]; exact ⟨p_5, p_9⟩)]; omega) F_10 fr_11 (by omega)
    exact hl_54 _ 0 0 M (by omega) num_0.symm has (fun _ _ => rfl) (Nat.lt_succ_self _)
  · have p_1 := (hb_1.resolve_left (fun h => by omega)).2
    exact WP.thr rfl rfl rfl rfl rfl (by decide) (k3 (by omega))
set_option maxHeartbeats 4000000 in
theorem t_lettersPerPress {S : SD} {M : Nat → Int → Int} {x : Nat} {f : Int → Int} {B : Int} (hS : isRub S x) (has : AskR M x f) (hx3 : 3 ≤ x) (hR : RowOk B f) {Q : Res → Wd → Prop} (k : ∀ (v : UInt64) (M2 : Nat → Int → Int), (∀ q9, (q9 < x + 78 ∨ x + 82 ≤ q9) → M2 q9 = M q9) → v = lpp f → Q (0, vD v) (M2, S)) : EvQ 5 85 [vR x] (M, S) Q := by
  refine EvQ.enter (ls := [vR x, none, none, none, none, none]) (Nat.le_of_ble_eq_true rfl) rfl ?_
  have hA := hR.1
  have hA1 := hA.1
  have hWA := hR.2.1
  have hW1 := hWA.1
  have hI := hR.2.2
  have hI2 := hI.2.1
  have hI3 := hI.2.2.1
  obtain ⟨xf, hxf⟩ := fresh_ex hA1
  refine WP.blk 2 ?_
  show (sT S x = 9 ∧ sR S x 2 ≠ 0) ∧ WP 4 85 4 [vR x, none, none, none, none, none] [vR (sR S x 2)] (M, S) Q
  refine ⟨⟨hS.1.1, by rw [(show sR S x 2 = x + 2 from hS.1.2.2.1)]; omega⟩, ?_⟩
  rw [(show sR S x 2 = x + 2 from hS.1.2.2.1)]
  refine WP.blk 2 ?_
  show (sT S x = 9 ∧ sR S x 2 ≠ 0) ∧ WP 4 85 8 [vR x, none, none, none, none, none] [vR (sR S x 2), vR (x + 2)] (M, S) Q
  refine ⟨⟨hS.1.1, by rw [(show sR S x 2 = x + 2 from hS.1.2.2.1)]; omega⟩, ?_⟩
  rw [(show sR S x 2 = x + 2 from hS.1.2.2.1)]
  refine WP.blk 1 ?_
  show (sT S (x + 2) = 8 ∧ sR S (x + 2) 3 ≠ 0) ∧ WP 4 85 11 [vR x, none, none, none, none, none] [vR (sR S (x + 2) 3), vR (x + 2)] (M, S) Q
  refine ⟨⟨hS.2.1.1, by rw [(show sR S (x + 2) 3 = x + 10 from hS.2.1.2.2.2.2.1)]; omega⟩, ?_⟩
  rw [(show sR S (x + 2) 3 = x + 10 from hS.2.1.2.2.2.2.1)]
  refine WP.cl (a := [vR (x + 2), vR (x + 10)]) (rest := []) rfl rfl rfl rfl ⟨hS.2.1.1, trivial⟩ (by decide) (k_pressesLeft hS.2.1 hS.2.1.2.2.2.2.2.2.2.2.2 has.1.1.1 has.1.1.2.2.2 has.1.2 hA1 (fun u_1 hpu_1 => ⟨rfl, ?_⟩))
  show WP 4 85 14 [vR x, none, none, none, none, none] [vI u_1] (M, S) Q
  have huu_1 := PL_ux hxf hpu_1
  refine WP.blk 7 ?_
  show WP 4 85 22 [vR x, vI u_1, vI 0, vI 0, vI 0, none] [] (M, S) Q
  have hl_22 : ∀ (n_22 : Nat) (i : Int) (a : Int) (b : Int) (v5_22 : V) (Ma : Nat → Int → Int), 0 ≤ i ∧ i ≤ f 1 → a = sm (lt1 f) i → b = sm (ps1 f) i → 0 ≤ a ∧ a ≤ 12 * i ∧ 0 ≤ b ∧ b ≤ 12 * i → AskR Ma x f → (∀ q9, (q9 < x + 78 ∨ x + 82 ≤ q9) → Ma q9 = M q9) → (f 1 - i).toNat < n_22 → WP 4 85 22 [vR x, vI u_1, vI a, vI b, vI i, v5_22] [] (Ma, S) Q := by
    intro n_22
    induction n_22 with
    | zero => intro i a b v5_22 Ma h1 h2 h3 h4 F_22_as fr_22 hm_22; exact absurd hm_22 (Nat.not_lt_zero _)
    | succ n_22 ih_22 =>
      intro i a b v5_22 Ma h1 h2 h3 h4 F_22_as fr_22 hm_22
      have hw8 : i < f 1 → 1 ≤ f (97 + 14 * i) ∧ f (97 + 14 * i) ≤ 12 := fun h => ⟨(hWA.2 i h1.1 h).1.2.2.1, (hWA.2 i h1.1 h).1.2.2.2.1⟩
      refine WP.blk 3 ?_
      show (sT S x = 9 ∧ sR S x 2 ≠ 0) ∧ WP 4 85 28 [vR x, vI u_1, vI a, vI b, vI i, v5_22] [vR (sR S x 2), vI i] (Ma, S) Q
      refine ⟨⟨hS.1.1, by rw [(show sR S x 2 = x + 2 from hS.1.2.2.1)]; omega⟩, ?_⟩
      rw [(show sR S x 2 = x + 2 from hS.1.2.2.1)]
      refine WP.blk 1 ?_
      show (sT S (x + 2) = 8 ∧ sR S (x + 2) 1 ≠ 0) ∧ WP 4 85 31 [vR x, vI u_1, vI a, vI b, vI i, v5_22] [vR (sR S (x + 2) 1), vI i] (Ma, S) Q
      refine ⟨⟨hS.2.1.1, by rw [(show sR S (x + 2) 1 = x + 6 from hS.2.1.2.2.1)]; omega⟩, ?_⟩
      rw [(show sR S (x + 2) 1 = x + 6 from hS.2.1.2.2.1)]
      refine WP.blk 2 ?_
      show sT S (x + 6) = 7 ∧ WP 4 85 (if cnd .ge i (Ma (x + 6) 4) = true then 97 else 37) [vR x, vI u_1, vI a, vI b, vI i, v5_22] [] (Ma, S) Q
      rw [F_22_as.1.1.2.1.1.2.2]
      refine ⟨hS.2.1.2.2.2.2.2.2.1.1, ?_⟩
      refine br_ge (fun c_2 => ?_) (fun c_2 => ?_)
      · refine WP.blk 2 ?_
        show WP 4 85 (if cnd .le b 0 = true then 109 else 101) [vR x, vI u_1, vI a, vI b, vI i, v5_22] [] (Ma, S) Q
        refine br_le (fun c_3 => ?_) (fun c_3 => ?_)
        · refine WP.blk 1 ?_
          show WP 4 85 110 [vR x, vI u_1, vI a, vI b, vI i, v5_22] [vD 0] (Ma, S) Q
          exact WP.ret rfl rfl rfl trivial (k _ _ fr_22 (by have e9 : i = f 1 := (by omega); subst e9; unfold lpp; rw [← h2, ← h3]; rw [if_pos (by omega)]))
        · refine WP.blk 6 ?_
          show vf_n64 (FP.ddiv (FP.i2d (Int32.ofInt a)) (FP.i2d (Int32.ofInt b))) ∧ WP 4 85 110 [vR x, vI u_1, vI a, vI b, vI i, v5_22] [vD (FP.ddiv (FP.i2d (Int32.ofInt a)) (FP.i2d (Int32.ofInt b)))] (Ma, S) Q
          refine ⟨(dd_ok (by omega) (by omega)), ?_⟩
          exact WP.ret rfl rfl rfl trivial (k _ _ fr_22 (by have e9 : i = f 1 := (by omega); subst e9; unfold lpp; rw [← h2, ← h3]; rw [if_neg (by omega)]))
      · refine WP.blk 2 ?_
        show (sT S x = 9 ∧ sR S x 6 ≠ 0) ∧ WP 4 85 41 [vR x, vI u_1, vI a, vI b, vI i, v5_22] [vR (sR S x 6)] (Ma, S) Q
        refine ⟨⟨hS.1.1, by rw [(show sR S x 6 = x + 78 from hS.1.2.2.2.2.2.2.1)]; omega⟩, ?_⟩
        rw [(show sR S x 6 = x + 78 from hS.1.2.2.2.2.2.2.1)]
        refine WP.blk 2 ?_
        show (sT S x = 9 ∧ sR S x 5 ≠ 0) ∧ WP 4 85 45 [vR x, vI u_1, vI a, vI b, vI i, v5_22] [vR (sR S x 5), vR (x + 78)] (Ma, S) Q
        refine ⟨⟨hS.1.1, by rw [(show sR S x 5 = x + 76 from hS.1.2.2.2.2.2.1)]; omega⟩, ?_⟩
        rw [(show sR S x 5 = x + 76 from hS.1.2.2.2.2.2.1)]
        refine WP.blk 3 ?_
        show (sT S x = 9 ∧ sR S x 2 ≠ 0) ∧ WP 4 85 51 [vR x, vI u_1, vI a, vI b, vI i, v5_22] [vR (sR S x 2), vI i, vR (x + 76), vR (x + 78)] (Ma, S) Q
        refine ⟨⟨hS.1.1, by rw [(show sR S x 2 = x + 2 from hS.1.2.2.1)]; omega⟩, ?_⟩
        rw [(show sR S x 2 = x + 2 from hS.1.2.2.1)]
        refine WP.blk 1 ?_
        show (sT S (x + 2) = 8 ∧ sR S (x + 2) 1 ≠ 0) ∧ WP 4 85 54 [vR x, vI u_1, vI a, vI b, vI i, v5_22] [vR (sR S (x + 2) 1), vI i, vR (x + 76), vR (x + 78)] (Ma, S) Q
        refine ⟨⟨hS.2.1.1, by rw [(show sR S (x + 2) 1 = x + 6 from hS.2.1.2.2.1)]; omega⟩, ?_⟩
        rw [(show sR S (x + 2) 1 = x + 6 from hS.2.1.2.2.1)]
        refine WP.blk 1 ?_
        show WP 4 85 56 [vR x, vI u_1, vI a, vI b, vI i, v5_22] [vI i, vR (x + 6), vI i, vR (x + 76), vR (x + 78)] (Ma, S) Q
        refine WP.cl (a := [vR (x + 6), vI i]) (rest := [vI i, vR (x + 76), vR (x + 78)]) rfl rfl rfl rfl ⟨hS.2.1.2.2.2.2.2.2.1.1, trivial⟩ (by decide) (k_len hS.2.1.2.2.2.2.2.2.1 F_22_as.1.1.2.1 (by omega) (by omega) ⟨rfl, ?_⟩)
        show WP 4 85 59 [vR x, vI u_1, vI a, vI b, vI i, v5_22] [vI (f (97 + 14 * i)), vI i, vR (x + 76), vR (x + 78)] (Ma, S) Q
        refine WP.blk 1 ?_
        show WP 4 85 60 [vR x, vI u_1, vI a, vI b, vI i, v5_22] [vI u_1, vI (f (97 + 14 * i)), vI i, vR (x + 76), vR (x + 78)] (Ma, S) Q
        refine WP.cl (a := [vR (x + 78), vR (x + 76), vI i, vI (f (97 + 14 * i)), vI u_1]) (rest := []) rfl rfl rfl rfl ⟨hS.2.2.2.2.2.1.1, trivial⟩ (by decide) (k_measure hS.2.2.2.2.2.1 hS.2.2.2.2.1 (by omega) F_22_as.2.1 hA (hWA.2 i (by omega) (by omega)).1 (by omega) huu_1 rfl (fun vy_4 My_4 fry_4 hvy_4 => ⟨rfl, ?_⟩))
        show WP 4 85 63 [vR x, vI u_1, vI a, vI b, vI i, v5_22] [vI vy_4] (My_4, S) Q
        have F_5 : AskR My_4 x f := AskR_fr (fun r9 h7 h8 h9 => fry_4 r9 (by omega)) F_22_as
        have fr_6 : (∀ q9, (q9 < x + 78 ∨ x + 82 ≤ q9) → My_4 q9 = M q9) := fun q9 q0 => (fry_4 q9 (by omega)).trans (fr_22 q9 q0)
        refine WP.blk 4 ?_
        show WP 4 85 (if cnd .eq vy_4 (-1) = true then 91 else 71) [vR x, vI u_1, vI a, vI b, vI i, vI vy_4] [] (My_4, S) Q
        refine br_eq (fun c_7 => ?_) (fun c_7 => ?_)
        · refine WP.blk 2 ?_
          show ir (i + 1) ∧ WP 4 85 22 [vR x, vI u_1, vI a, vI b, vI (i + 1), vI vy_4] [] (My_4, S) Q
          refine ⟨(by unfold ir; omega), ?_⟩
          exact ih_22 (i + 1) a b (vI vy_4) My_4 (by omega) (by have e8 := msV_pv hA (hWA.2 i (by omega) (by omega)).1 hxf hvy_4; have e9 := lt1_eq e8.1; rw [if_pos (by omega), if_pos (by omega)] at e9; rw [sm_s h1.1]; omega) (by have e8 := msV_pv hA (hWA.2 i (by omega) (by omega)).1 hxf hvy_4; have e9 := lt1_eq e8.1; rw [if_pos (by omega), if_pos (by omega)] at e9; rw [sm_s h1.1]; omega) (by have e8 := (msV_pv hA (hWA.2 i (by omega) (by omega)).1 hxf hvy_4).2; omega) F_5 fr_6 (by omega)
        · have e7 := (msV_pv hA (hWA.2 i (by omega) (by omega)).1 hxf hvy_4).2
          refine WP.blk 3 ?_
          show (sT S x = 9 ∧ sR S x 2 ≠ 0) ∧ WP 4 85 76 [vR x, vI u_1, vI a, vI b, vI i, vI vy_4] [vR (sR S x 2), vI a] (My_4, S) Q
          refine ⟨⟨hS.1.1, by rw [(show sR S x 2 = x + 2 from hS.1.2.2.1)]; omega⟩, ?_⟩
          rw [(show sR S x 2 = x + 2 from hS.1.2.2.1)]
          refine WP.blk 1 ?_
          show (sT S (x + 2) = 8 ∧ sR S (x + 2) 1 ≠ 0) ∧ WP 4 85 79 [vR x, vI u_1, vI a, vI b, vI i, vI vy_4] [vR (sR S (x + 2) 1), vI a] (My_4, S) Q
          refine ⟨⟨hS.2.1.1, by rw [(show sR S (x + 2) 1 = x + 6 from hS.2.1.2.2.1)]; omega⟩, ?_⟩
          rw [(show sR S (x + 2) 1 = x + 6 from hS.2.1.2.2.1)]
          refine WP.blk 1 ?_
          show WP 4 85 81 [vR x, vI u_1, vI a, vI b, vI i, vI vy_4] [vI i, vR (x + 6), vI a] (My_4, S) Q
          refine WP.cl (a := [vR (x + 6), vI i]) (rest := [vI a]) rfl rfl rfl rfl ⟨hS.2.1.2.2.2.2.2.2.1.1, trivial⟩ (by decide) (k_len hS.2.1.2.2.2.2.2.2.1 F_5.1.1.2.1 (by omega) (by omega) ⟨rfl, ?_⟩)
          show WP 4 85 84 [vR x, vI u_1, vI a, vI b, vI i, vI vy_4] [vI (f (97 + 14 * i)), vI a] (My_4, S) Q
          refine WP.blk 8 ?_
          show ir (a + (f (97 + 14 * i))) ∧ ir (b + vy_4) ∧ ir (i + 1) ∧ WP 4 85 22 [vR x, vI u_1, vI (a + (f (97 + 14 * i))), vI (b + vy_4), vI (i + 1), vI vy_4] [] (My_4, S) Q
          refine ⟨(by unfold ir; omega), (by unfold ir; omega), (by unfold ir; omega), ?_⟩
          exact ih_22 (i + 1) (a + (f (97 + 14 * i))) (b + vy_4) (vI vy_4) My_4 (by omega) (by have e8 := msV_pv hA (hWA.2 i (by omega) (by omega)).1 hxf hvy_4; have e9 := lt1_eq e8.1; rw [if_neg (by omega), if_neg (by omega)] at e9; rw [sm_s h1.1]; omega) (by have e8 := msV_pv hA (hWA.2 i (by omega) (by omega)).1 hxf hvy_4; have e9 := lt1_eq e8.1; rw [if_neg (by omega), if_neg (by omega)] at e9; rw [sm_s h1.1]; omega) (by have e8 := (msV_pv hA (hWA.2 i (by omega) (by omega)).1 hxf hvy_4).2; omega) F_5 fr_6 (by omega)
  exact hl_22 _ 0 0 0 (none) M (by omega) sm_0.symm sm_0.symm (by omega) has (fun _ _ => rfl) (Nat.lt_succ_self _)
