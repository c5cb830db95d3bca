set_option maxHeartbeats 4000000 in
theorem k_cutAll {S : SD} {M : Nat → Int → Int} {x : Nat} {f : Int → Int} {B : Int} (hS : isRub S x) (hx3 : 3 ≤ x) (hs : Sht M (x + 153) f) (hf : FitR M (x + 165) f (f 0)) (hR : RowOk B f) {Q : Res → Wd → Prop} (k : ∀ (v : Int) (M2 : Nat → Int → Int), (∀ q9, q9 ≠ x + 168 → M2 q9 = M q9) → v = allP f → 0 ≤ v ∧ v ≤ 700 → Q (0, vI v) (M2, S)) : EvQ 5 3 [vR (x + 152)] (M, S) Q := by
  refine EvQ.enter (ls := [vR (x + 152), none, none, none, none]) (Nat.le_of_ble_eq_true rfl) rfl ?_
  have hA := hR.1
  have hA1 := hA.1
  have hWA := hR.2.1
  have hW1 := hWA.1
  obtain ⟨xf, hxf⟩ := fresh_ex hA1
  refine WP.blk 2 ?_
  show (sT S (x + 152) = 1 ∧ sR S (x + 152) 0 ≠ 0) ∧ WP 4 3 4 [vR (x + 152), none, none, none, none] [vR (sR S (x + 152) 0)] (M, S) Q
  refine ⟨⟨hS.2.2.2.2.2.2.2.2.1.1.1, by rw [(show sR S (x + 152) 0 = x + 153 from hS.2.2.2.2.2.2.2.2.1.1.2.1)]; omega⟩, ?_⟩
  rw [(show sR S (x + 152) 0 = x + 153 from hS.2.2.2.2.2.2.2.2.1.1.2.1)]
  refine WP.blk 2 ?_
  show (sT S (x + 152) = 1 ∧ sR S (x + 152) 0 ≠ 0) ∧ WP 4 3 8 [vR (x + 152), none, none, none, none] [vR (sR S (x + 152) 0), vR (x + 153)] (M, S) Q
  refine ⟨⟨hS.2.2.2.2.2.2.2.2.1.1.1, by rw [(show sR S (x + 152) 0 = x + 153 from hS.2.2.2.2.2.2.2.2.1.1.2.1)]; omega⟩, ?_⟩
  rw [(show sR S (x + 152) 0 = x + 153 from hS.2.2.2.2.2.2.2.2.1.1.2.1)]
  refine WP.blk 1 ?_
  show (sT S (x + 153) = 8 ∧ sR S (x + 153) 3 ≠ 0) ∧ WP 4 3 11 [vR (x + 152), none, none, none, none] [vR (sR S (x + 153) 3), vR (x + 153)] (M, S) Q
  refine ⟨⟨hS.2.2.2.2.2.2.2.2.1.2.1.1, by rw [(show sR S (x + 153) 3 = x + 161 from hS.2.2.2.2.2.2.2.2.1.2.1.2.2.2.2.1)]; omega⟩, ?_⟩
  rw [(show sR S (x + 153) 3 = x + 161 from hS.2.2.2.2.2.2.2.2.1.2.1.2.2.2.2.1)]
  refine WP.cl (a := [vR (x + 153), vR (x + 161)]) (rest := []) rfl rfl rfl rfl ⟨hS.2.2.2.2.2.2.2.2.1.2.1.1, trivial⟩ (by decide) (k_pressesLeft hS.2.2.2.2.2.2.2.2.1.2.1 hS.2.2.2.2.2.2.2.2.1.2.1.2.2.2.2.2.2.2.2.2 hs.1.1 hs.1.2.2.2 hs.2 hA1 (fun u_1 hpu_1 => ⟨rfl, ?_⟩))
  show WP 4 3 14 [vR (x + 152), none, none, none, none] [vI u_1] (M, S) Q
  have huu_1 := PL_ux hxf hpu_1
  refine WP.blk 5 ?_
  show WP 4 3 19 [vR (x + 152), vI u_1, vI 0, vI 0, none] [] (M, S) Q
  have hl_19 : ∀ (n_19 : Nat) (i : Int) (v : Int) (v4_19 : V) (Ma : Nat → Int → Int), 0 ≤ i ∧ i ≤ f 1 → v = sm (p1 f) i → 0 ≤ v ∧ v ≤ 100 * i → Sht Ma (x + 153) (f) → FitR Ma (x + 165) (f) ((f) 0) → (∀ q9, q9 ≠ x + 168 → Ma q9 = M q9) → (f 1 - i).toNat < n_19 → WP 4 3 19 [vR (x + 152), vI u_1, vI v, vI i, v4_19] [] (Ma, S) Q := by
    intro n_19
    induction n_19 with
    | zero => intro i v v4_19 Ma h1 h2 h3 F_19_ts F_19_tf fr_19 hm_19; exact absurd hm_19 (Nat.not_lt_zero _)
    | succ n_19 ih_19 =>
      intro i v v4_19 Ma h1 h2 h3 F_19_ts F_19_tf fr_19 hm_19
      refine WP.blk 3 ?_
      show (sT S (x + 152) = 1 ∧ sR S (x + 152) 0 ≠ 0) ∧ WP 4 3 24 [vR (x + 152), vI u_1, vI v, vI i, v4_19] [vR (sR S (x + 152) 0), vI i] (Ma, S) Q
      refine ⟨⟨hS.2.2.2.2.2.2.2.2.1.1.1, by rw [(show sR S (x + 152) 0 = x + 153 from hS.2.2.2.2.2.2.2.2.1.1.2.1)]; omega⟩, ?_⟩
      rw [(show sR S (x + 152) 0 = x + 153 from hS.2.2.2.2.2.2.2.2.1.1.2.1)]
      refine WP.blk 1 ?_
      show (sT S (x + 153) = 8 ∧ sR S (x + 153) 1 ≠ 0) ∧ WP 4 3 27 [vR (x + 152), vI u_1, vI v, vI i, v4_19] [vR (sR S (x + 153) 1), vI i] (Ma, S) Q
      refine ⟨⟨hS.2.2.2.2.2.2.2.2.1.2.1.1, by rw [(show sR S (x + 153) 1 = x + 157 from hS.2.2.2.2.2.2.2.2.1.2.1.2.2.1)]; omega⟩, ?_⟩
      rw [(show sR S (x + 153) 1 = x + 157 from hS.2.2.2.2.2.2.2.2.1.2.1.2.2.1)]
      refine WP.blk 2 ?_
      show sT S (x + 157) = 7 ∧ WP 4 3 (if cnd .ge i (Ma (x + 157) 4) = true then 81 else 33) [vR (x + 152), vI u_1, vI v, vI i, v4_19] [] (Ma, S) Q
      rw [F_19_ts.1.2.1.1.2.2]
      refine ⟨hS.2.2.2.2.2.2.2.2.1.2.1.2.2.2.2.2.2.1.1, ?_⟩
      refine br_ge (fun c_2 => ?_) (fun c_2 => ?_)
      · refine WP.blk 1 ?_
        show WP 4 3 82 [vR (x + 152), vI u_1, vI v, vI i, v4_19] [vI v] (Ma, S) Q
        exact WP.ret rfl rfl rfl trivial (k _ _ fr_19 (by rw [h2, show i = f 1 by omega]; rfl) (by omega))
      · refine WP.blk 2 ?_
        show (sT S (x + 152) = 1 ∧ sR S (x + 152) 2 ≠ 0) ∧ WP 4 3 37 [vR (x + 152), vI u_1, vI v, vI i, v4_19] [vR (sR S (x + 152) 2)] (Ma, S) Q
        refine ⟨⟨hS.2.2.2.2.2.2.2.2.1.1.1, by rw [(show sR S (x + 152) 2 = x + 167 from hS.2.2.2.2.2.2.2.2.1.1.2.2.2)]; omega⟩, ?_⟩
        rw [(show sR S (x + 152) 2 = x + 167 from hS.2.2.2.2.2.2.2.2.1.1.2.2.2)]
        refine WP.blk 2 ?_
        show (sT S (x + 152) = 1 ∧ sR S (x + 152) 1 ≠ 0) ∧ WP 4 3 41 [vR (x + 152), vI u_1, vI v, vI i, v4_19] [vR (sR S (x + 152) 1), vR (x + 167)] (Ma, S) Q
        refine ⟨⟨hS.2.2.2.2.2.2.2.2.1.1.1, by rw [(show sR S (x + 152) 1 = x + 165 from hS.2.2.2.2.2.2.2.2.1.1.2.2.1)]; omega⟩, ?_⟩
        rw [(show sR S (x + 152) 1 = x + 165 from hS.2.2.2.2.2.2.2.2.1.1.2.2.1)]
        refine WP.blk 3 ?_
        show (sT S (x + 152) = 1 ∧ sR S (x + 152) 0 ≠ 0) ∧ WP 4 3 46 [vR (x + 152), vI u_1, vI v, vI i, v4_19] [vR (sR S (x + 152) 0), vI i, vR (x + 165), vR (x + 167)] (Ma, S) Q
        refine ⟨⟨hS.2.2.2.2.2.2.2.2.1.1.1, by rw [(show sR S (x + 152) 0 = x + 153 from hS.2.2.2.2.2.2.2.2.1.1.2.1)]; omega⟩, ?_⟩
        rw [(show sR S (x + 152) 0 = x + 153 from hS.2.2.2.2.2.2.2.2.1.1.2.1)]
        refine WP.blk 1 ?_
        show (sT S (x + 153) = 8 ∧ sR S (x + 153) 1 ≠ 0) ∧ WP 4 3 49 [vR (x + 152), vI u_1, vI v, vI i, v4_19] [vR (sR S (x + 153) 1), vI i, vR (x + 165), vR (x + 167)] (Ma, S) Q
        refine ⟨⟨hS.2.2.2.2.2.2.2.2.1.2.1.1, by rw [(show sR S (x + 153) 1 = x + 157 from hS.2.2.2.2.2.2.2.2.1.2.1.2.2.1)]; omega⟩, ?_⟩
        rw [(show sR S (x + 153) 1 = x + 157 from hS.2.2.2.2.2.2.2.2.1.2.1.2.2.1)]
        refine WP.blk 1 ?_
        show WP 4 3 50 [vR (x + 152), vI u_1, vI v, vI i, v4_19] [vI i, vR (x + 157), vI i, vR (x + 165), vR (x + 167)] (Ma, S) Q
        refine WP.cl (a := [vR (x + 157), vI i]) (rest := [vI i, vR (x + 165), vR (x + 167)]) rfl rfl rfl rfl ⟨hS.2.2.2.2.2.2.2.2.1.2.1.2.2.2.2.2.2.1.1, trivial⟩ (by decide) (k_len hS.2.2.2.2.2.2.2.2.1.2.1.2.2.2.2.2.2.1 F_19_ts.1.2.1 (by omega) (by omega) ⟨rfl, ?_⟩)
        show WP 4 3 53 [vR (x + 152), vI u_1, vI v, vI i, v4_19] [vI (f (97 + 14 * i)), vI i, vR (x + 165), vR (x + 167)] (Ma, S) Q
        refine WP.blk 1 ?_
        show WP 4 3 54 [vR (x + 152), vI u_1, vI v, vI i, v4_19] [vI u_1, vI (f (97 + 14 * i)), vI i, vR (x + 165), vR (x + 167)] (Ma, S) Q
        refine WP.cl (a := [vR (x + 167), vR (x + 165), vI i, vI (f (97 + 14 * i)), vI u_1]) (rest := []) rfl rfl rfl rfl ⟨hS.2.2.2.2.2.2.2.2.1.2.2.2.1, trivial⟩ (by decide) (k_measure hS.2.2.2.2.2.2.2.2.1.2.2.2 hS.2.2.2.2.2.2.2.2.1.2.2.1 (by omega) F_19_tf hA (hWA.2 i (by omega) (by omega)).1 (by omega) huu_1 rfl (fun vy_3 My_3 fry_3 hvy_3 => ⟨rfl, ?_⟩))
        show WP 4 3 57 [vR (x + 152), vI u_1, vI v, vI i, v4_19] [vI vy_3] (My_3, S) Q
        have F_4 : Sht My_3 (x + 153) (f) := Sht_fr (fun r9 h8 h9 => fry_3 r9 (by omega)) F_19_ts
        have F_5 : FitR My_3 (x + 165) (f) ((f) 0) := FitR_fr (fun r9 h8 h9 => fry_3 r9 (by omega)) F_19_tf
        have fr_6 : (∀ q9, q9 ≠ x + 168 → My_3 q9 = M q9) := fun q9 q0 => (fry_3 q9 (by omega)).trans (fr_19 q9 q0)
        have hpvy_3 := msV_pv hA (hWA.2 i (by omega) (by omega)).1 hxf hvy_3
        have hpwy_3 := p1_ms hpvy_3.1
        have hpxy_3 := hpvy_3.2
        refine WP.blk 5 ?_
        show WP 4 3 (if cnd .ne vy_3 (-1) = true then 71 else 66) [vR (x + 152), vI u_1, vI v, vI i, vI vy_3] [vI v] (My_3, S) Q
        refine br_ne (fun c_7 => ?_) (fun c_7 => ?_)
        · refine WP.blk 5 ?_
          show ir (v + vy_3) ∧ ir (i + 1) ∧ WP 4 3 19 [vR (x + 152), vI u_1, vI (v + vy_3), vI (i + 1), vI vy_3] [] (My_3, S) Q
          refine ⟨(by unfold ir; omega), (by unfold ir; omega), ?_⟩
          exact ih_19 (i + 1) (v + vy_3) (vI vy_3) My_3 (by omega) (by rw [if_neg (by omega)] at hpwy_3; rw [sm_s h1.1]; omega) (by omega) F_4 F_5 fr_6 (by omega)
        · refine WP.blk 6 ?_
          show ir (v + 100) ∧ ir (i + 1) ∧ WP 4 3 19 [vR (x + 152), vI u_1, vI (v + 100), vI (i + 1), vI vy_3] [] (My_3, S) Q
          refine ⟨(by unfold ir; omega), (by unfold ir; omega), ?_⟩
          exact ih_19 (i + 1) (v + 100) (vI vy_3) My_3 (by omega) (by rw [if_pos (by omega)] at hpwy_3; rw [sm_s h1.1]; omega) (by omega) F_4 F_5 fr_6 (by omega)
  exact hl_19 _ 0 0 (none) M (by omega) sm_0.symm (by omega) hs hf (fun _ _ => rfl) (Nat.lt_succ_self _)
set_option maxHeartbeats 4000000 in
theorem k_cutWith {S : SD} {M : Nat → Int → Int} {x : Nat} {f : Int → Int} {B : Int} {w p n : Int} (hS : isRub S x) (hx3 : 3 ≤ x) (hs : Sht M (x + 153) f) (hf : FitR M (x + 165) f (f 0)) (hR : RowOk B f) (htu : TurR M) (hB : 0 ≤ B ∧ B ≤ 1000000000 - 400) (h10 : f 0 ≠ 10) (hc : Cd f 5 w p n) {Q : Res → Wd → Prop} (k : ∀ (v : Int) (M2 : Nat → Int → Int), (∀ q9, (q9 < x + 153 ∨ x + 171 ≤ q9) → M2 q9 = M q9) → v = allP (cutR f w p n) → 0 ≤ v ∧ v ≤ 700 → Sht M2 (x + 153) f → FitR M2 (x + 165) f (f 0) → Q (0, vI v) (M2, S)) : EvQ 6 2 [vR (x + 152), vI w, vI p, vI n] (M, S) Q := by
  refine EvQ.enter (ls := [vR (x + 152), vI w, vI p, vI n, none, none]) (Nat.le_of_ble_eq_true rfl) rfl ?_
  have hA := hR.1
  have hA1 := hA.1
  have hWA := hR.2.1
  have hW1 := hWA.1
  have hRc := cut_row hR hB.1 h10 hc
  have e91 : cutR f w p n 1 = f 1 := cutR_lo (by omega) (by omega)
  have hn9 := hc.2.2.1
  have hl5 : ∀ s, 0 ≤ s → s < f 0 → f (7 + 9 * s) ≤ 5 := fun s a b => (hA.2 s a b).2.2.2.1
  have hl12 : ∀ w, 0 ≤ w → w < f 1 → f (97 + 14 * w) ≤ 12 := fun w a b => (hWA.2 w a b).1.2.2.2.1
  have hlc : ∀ v, 0 ≤ v → v < cutR f w p n 1 → cutR f w p n (97 + 14 * v) ≤ 12 := fun v a b => (hRc.2.1.2 v a b).1.2.2.2.1
  have hlc5 : ∀ s, 0 ≤ s → s < cutR f w p n 0 → cutR f w p n (7 + 9 * s) ≤ 5 := fun s a b => (hRc.1.2 s a b).2.2.2.1
  refine WP.blk 2 ?_
  show (sT S (x + 152) = 1 ∧ sR S (x + 152) 0 ≠ 0) ∧ WP 5 2 4 [vR (x + 152), vI w, vI p, vI n, none, none] [vR (sR S (x + 152) 0)] (M, S) Q
  refine ⟨⟨hS.2.2.2.2.2.2.2.2.1.1.1, by rw [(show sR S (x + 152) 0 = x + 153 from hS.2.2.2.2.2.2.2.2.1.1.2.1)]; omega⟩, ?_⟩
  rw [(show sR S (x + 152) 0 = x + 153 from hS.2.2.2.2.2.2.2.2.1.1.2.1)]
  refine WP.blk 1 ?_
  show (sT S (x + 153) = 8 ∧ sR S (x + 153) 0 ≠ 0) ∧ WP 5 2 7 [vR (x + 152), vI w, vI p, vI n, none, none] [vR (sR S (x + 153) 0)] (M, S) Q
  refine ⟨⟨hS.2.2.2.2.2.2.2.2.1.2.1.1, by rw [(show sR S (x + 153) 0 = x + 154 from hS.2.2.2.2.2.2.2.2.1.2.1.2.1)]; omega⟩, ?_⟩
  rw [(show sR S (x + 153) 0 = x + 154 from hS.2.2.2.2.2.2.2.2.1.2.1.2.1)]
  refine WP.blk 4 ?_
  show sT S (x + 154) = 7 ∧ (sT S (x + 152) = 1 ∧ sR S (x + 152) 0 ≠ 0) ∧ WP 5 2 16 [vR (x + 152), vI w, vI p, vI n, vI (M (x + 154) 4), none] [vR (sR S (x + 152) 0)] (M, S) Q
  rw [hs.1.1.1.2.2]
  refine ⟨hS.2.2.2.2.2.2.2.2.1.2.1.2.2.2.2.2.1.1, ⟨hS.2.2.2.2.2.2.2.2.1.1.1, by rw [(show sR S (x + 152) 0 = x + 153 from hS.2.2.2.2.2.2.2.2.1.1.2.1)]; omega⟩, ?_⟩
  rw [(show sR S (x + 152) 0 = x + 153 from hS.2.2.2.2.2.2.2.2.1.1.2.1)]
  refine WP.blk 3 ?_
  show WP 5 2 19 [vR (x + 152), vI w, vI p, vI n, vI (f 0), none] [vI n, vI p, vI w, vR (x + 153)] (M, S) Q
  refine WP.cl (a := [vR (x + 153), vI w, vI p, vI n]) (rest := []) rfl rfl rfl rfl ⟨hS.2.2.2.2.2.2.2.2.1.2.1.1, trivial⟩ (by decide) (k_addPart hS.2.2.2.2.2.2.2.2.1.2.1 hs.1.1 hs.1.2.1 hs.1.2.2.1 hs.1.2.2.2 hs.2 (by omega) hc hl5 (fun My_1 fry_1 hky_1 => ⟨rfl, ?_⟩))
  show WP 5 2 22 [vR (x + 152), vI w, vI p, vI n, vI (f 0), none] [] (My_1, S) Q
  have F_2 : FitR My_1 (x + 165) (f) ((f) 0) := FitR_fr (fun r9 h8 h9 => fry_1 r9 (by omega)) hf
  have F_3 : TurR My_1 := TurR_fr (fun r9 h8 h9 => fry_1 r9 (by omega)) htu
  have fr_4 : (∀ q9, (q9 < x + 153 ∨ x + 171 ≤ q9) → My_1 q9 = M q9) := fun q9 q0 => (fry_1 q9 (by omega)).trans ((fun _ _ => rfl) q9 q0)
  refine WP.blk 2 ?_
  show (sT S (x + 152) = 1 ∧ sR S (x + 152) 1 ≠ 0) ∧ WP 5 2 26 [vR (x + 152), vI w, vI p, vI n, vI (f 0), none] [vR (sR S (x + 152) 1)] (My_1, S) Q
  refine ⟨⟨hS.2.2.2.2.2.2.2.2.1.1.1, by rw [(show sR S (x + 152) 1 = x + 165 from hS.2.2.2.2.2.2.2.2.1.1.2.2.1)]; omega⟩, ?_⟩
  rw [(show sR S (x + 152) 1 = x + 165 from hS.2.2.2.2.2.2.2.2.1.1.2.2.1)]
  refine WP.blk 2 ?_
  show (sT S (x + 152) = 1 ∧ sR S (x + 152) 0 ≠ 0) ∧ WP 5 2 30 [vR (x + 152), vI w, vI p, vI n, vI (f 0), none] [vR (sR S (x + 152) 0), vR (x + 165)] (My_1, S) Q
  refine ⟨⟨hS.2.2.2.2.2.2.2.2.1.1.1, by rw [(show sR S (x + 152) 0 = x + 153 from hS.2.2.2.2.2.2.2.2.1.1.2.1)]; omega⟩, ?_⟩
  rw [(show sR S (x + 152) 0 = x + 153 from hS.2.2.2.2.2.2.2.2.1.1.2.1)]
  refine WP.blk 1 ?_
  show WP 5 2 32 [vR (x + 152), vI w, vI p, vI n, vI (f 0), none] [vI (f 0), vR (x + 153), vR (x + 165)] (My_1, S) Q
  refine WP.cl (a := [vR (x + 165), vR (x + 153), vI (f 0)]) (rest := []) rfl rfl rfl rfl ⟨hS.2.2.2.2.2.2.2.2.1.2.2.1.1, trivial⟩ (by decide) (k_add hS.2.2.2.2.2.2.2.2.1.2.1 hS.2.2.2.2.2.2.2.2.1.2.2.1 hS.2.2.2.2.2.2.2.2.2 (by omega) (by omega) (by omega) F_3 hky_1.1.1 hky_1.1.2.1 (hRc.1.2 (f 0) (by omega) (by rw [cutR_0]; omega)) (by rw [cutR_0]; omega) (by rw [cutR_0]; omega) (by rw [e91]; omega) hlc (fit_cut (by omega) (by omega) rfl hl5 hl12 F_2) (fun My_5 fry_5 hky_5 => ⟨rfl, ?_⟩))
  show WP 5 2 35 [vR (x + 152), vI w, vI p, vI n, vI (f 0), none] [] (My_5, S) Q
  have F_6 : TurR My_5 := TurR_fr (fun r9 h8 h9 => fry_5 r9 (by omega)) F_3
  have F_7 : Sht My_5 (x + 153) (cutR f w p n) := Sht_fr (fun r9 h8 h9 => fry_5 r9 (by omega)) hky_1
  have fr_8 : (∀ q9, (q9 < x + 153 ∨ x + 171 ≤ q9) → My_5 q9 = M q9) := fun q9 q0 => (fry_5 q9 (by omega)).trans (fr_4 q9 q0)
  refine WP.blk 1 ?_
  show WP 5 2 36 [vR (x + 152), vI w, vI p, vI n, vI (f 0), none] [vR (x + 152)] (My_5, S) Q
  refine WP.cl (a := [vR (x + 152)]) (rest := []) rfl rfl rfl rfl ⟨hS.2.2.2.2.2.2.2.2.1.1.1, trivial⟩ (by decide) (k_cutAll (f := cutR f w p n) hS hx3 F_7 (by rw [cutR_0]; exact hky_5) hRc (fun vy_9 My_9 fry_9 hvy_9 hry_9 => ⟨rfl, ?_⟩))
  show WP 5 2 39 [vR (x + 152), vI w, vI p, vI n, vI (f 0), none] [vI vy_9] (My_9, S) Q
  have F_10 : TurR My_9 := TurR_fr (fun r9 h8 h9 => fry_9 r9 (by omega)) F_6
  have F_11 : Sht My_9 (x + 153) (cutR f w p n) := Sht_fr (fun r9 h8 h9 => fry_9 r9 (by omega)) F_7
  have F_12 : FitR My_9 (x + 165) (cutR f w p n) (f 0 + 1) := FitR_fr (fun r9 h8 h9 => fry_9 r9 (by omega)) hky_5
  have fr_13 : (∀ q9, (q9 < x + 153 ∨ x + 171 ≤ q9) → My_9 q9 = M q9) := fun q9 q0 => (fry_9 q9 (by omega)).trans (fr_8 q9 q0)
  refine WP.blk 3 ?_
  show (sT S (x + 152) = 1 ∧ sR S (x + 152) 0 ≠ 0) ∧ WP 5 2 45 [vR (x + 152), vI w, vI p, vI n, vI (f 0), vI vy_9] [vR (sR S (x + 152) 0)] (My_9, S) Q
  refine ⟨⟨hS.2.2.2.2.2.2.2.2.1.1.1, by rw [(show sR S (x + 152) 0 = x + 153 from hS.2.2.2.2.2.2.2.2.1.1.2.1)]; omega⟩, ?_⟩
  rw [(show sR S (x + 152) 0 = x + 153 from hS.2.2.2.2.2.2.2.2.1.1.2.1)]
  refine WP.blk 1 ?_
  show WP 5 2 47 [vR (x + 152), vI w, vI p, vI n, vI (f 0), vI vy_9] [vI (f 0), vR (x + 153)] (My_9, S) Q
  refine WP.cl (a := [vR (x + 153), vI (f 0)]) (rest := []) rfl rfl rfl rfl ⟨hS.2.2.2.2.2.2.2.2.1.2.1.1, trivial⟩ (by decide) (k_takeOutStamp hS.2.2.2.2.2.2.2.2.1.2.1 F_11.1.1 F_11.1.2.1 F_11.1.2.2.1 F_11.1.2.2.2 F_11.2 (by rw [cutR_0]; omega) (by rw [cutR_0]; omega) hlc5 (fun My_14 fry_14 hky_14 => ⟨rfl, ?_⟩))
  show WP 5 2 50 [vR (x + 152), vI w, vI p, vI n, vI (f 0), vI vy_9] [] (My_14, S) Q
  have hqy_14 := sht_un (by omega) (by omega) (by omega) hl5 hky_14
  have F_15 : TurR My_14 := TurR_fr (fun r9 h8 h9 => fry_14 r9 (by omega)) F_10
  have F_16 : FitR My_14 (x + 165) (cutR f w p n) (f 0 + 1) := FitR_fr (fun r9 h8 h9 => fry_14 r9 (by omega)) F_12
  have fr_17 : (∀ q9, (q9 < x + 153 ∨ x + 171 ≤ q9) → My_14 q9 = M q9) := fun q9 q0 => (fry_14 q9 (by omega)).trans (fr_13 q9 q0)
  refine WP.blk 2 ?_
  show (sT S (x + 152) = 1 ∧ sR S (x + 152) 1 ≠ 0) ∧ WP 5 2 54 [vR (x + 152), vI w, vI p, vI n, vI (f 0), vI vy_9] [vR (sR S (x + 152) 1)] (My_14, S) Q
  refine ⟨⟨hS.2.2.2.2.2.2.2.2.1.1.1, by rw [(show sR S (x + 152) 1 = x + 165 from hS.2.2.2.2.2.2.2.2.1.1.2.2.1)]; omega⟩, ?_⟩
  rw [(show sR S (x + 152) 1 = x + 165 from hS.2.2.2.2.2.2.2.2.1.1.2.2.1)]
  refine WP.blk 1 ?_
  show WP 5 2 56 [vR (x + 152), vI w, vI p, vI n, vI (f 0), vI vy_9] [vI (f 0), vR (x + 165)] (My_14, S) Q
  refine WP.cl (a := [vR (x + 165), vI (f 0)]) (rest := []) rfl rfl rfl rfl ⟨hS.2.2.2.2.2.2.2.2.1.2.2.1.1, trivial⟩ (by decide) (k_erase hS.2.2.2.2.2.2.2.2.1.2.2.1 (by omega) (fun My_18 fry_18 hky_18 => ⟨rfl, ?_⟩))
  show WP 5 2 59 [vR (x + 152), vI w, vI p, vI n, vI (f 0), vI vy_9] [] (My_18, S) Q
  have F_19 : TurR My_18 := TurR_fr (fun r9 h8 h9 => fry_18 r9 (by omega)) F_15
  have F_20 : Sht My_18 (x + 153) f := Sht_fr (fun r9 h8 h9 => fry_18 r9 (by omega)) hqy_14
  have fr_21 : (∀ q9, (q9 < x + 153 ∨ x + 171 ≤ q9) → My_18 q9 = M q9) := fun q9 q0 => (fry_18 q9 (by omega)).trans (fr_17 q9 q0)
  have hqy_18 : FitG f (f 0) (My_18 (x + 165 + 1)) := fit_uncut (by omega) (by omega) rfl hl5 hl12 (fitG_er (by omega) (by rw [e91]; omega) hlc F_16 hky_18)
  refine WP.blk 1 ?_
  show WP 5 2 61 [vR (x + 152), vI w, vI p, vI n, vI (f 0), vI vy_9] [vI vy_9] (My_18, S) Q
  exact WP.ret rfl rfl rfl trivial (k _ _ fr_21 hvy_9 hry_9 F_20 hqy_18)
set_option maxHeartbeats 4000000 in
theorem k_keepB {S : SD} {M : Nat → Int → Int} {c1 : Nat} {o : Int → Int} {w p n v : Int} (hT : sT S c1 = 1) (ho : M c1 = o) {Q : Res → Wd → Prop} (k : ∀ (M2 : Nat → Int → Int), (∀ q9, q9 ≠ c1 → M2 q9 = M q9) → ∀ o2, M2 c1 = o2 → (o 6 < v ∧ o2 3 = w ∧ o2 4 = p ∧ o2 5 = n ∧ o2 6 = v) ∨ (v ≤ o 6 ∧ o2 = o) → Q (0, none) (M2, S)) : EvQ 1 4 [vR c1, vI w, vI p, vI n, vI v] (M, S) Q := by
  refine EvQ.enter (ls := [vR c1, vI w, vI p, vI n, vI v]) (Nat.le_of_ble_eq_true rfl) rfl ?_
  refine WP.blk 4 ?_
  show sT S c1 = 1 ∧ WP 0 4 (if cnd .le v (M c1 6) = true then 30 else 9) [vR c1, vI w, vI p, vI n, vI v] [] (M, S) Q
  rw [ho]
  refine ⟨hT, ?_⟩
  refine br_le (fun c_1 => ?_) (fun c_1 => ?_)
  · exact WP.ret rfl rfl rfl trivial (k _ (fun _ _ => rfl) _ ho (Or.inr ⟨by omega, rfl⟩))
  · refine WP.blk 3 ?_
    show sT S c1 = 1 ∧ WP 0 4 14 [vR c1, vI w, vI p, vI n, vI v] [] (up M c1 3 w, S) Q
    refine ⟨hT, ?_⟩
    generalize hM_2 : up M c1 3 w = M_2
    obtain ⟨g_4, hg_4⟩ : ∃ y9, y9 = uf o 3 w := ⟨_, rfl⟩
    have r_3 : M_2 c1 = g_4 := by rw [← hM_2, hg_4, up_self, ho]
    have t_5 : g_4 3 = w := by rw [hg_4]; exact uf_at _ _ (by omega)
    have t_6 : g_4 4 = o 4 := by rw [hg_4]; exact uf_ne (by omega)
    have t_7 : g_4 5 = o 5 := by rw [hg_4]; exact uf_ne (by omega)
    have t_8 : g_4 6 = o 6 := by rw [hg_4]; exact uf_ne (by omega)
    have fr_9 : (∀ q9, q9 ≠ c1 → M_2 q9 = M q9) := fun q9 q0 => by rw [← hM_2]; exact (up_row (by omega)).trans ((fun _ _ => rfl) q9 q0)
    refine WP.blk 3 ?_
    show sT S c1 = 1 ∧ WP 0 4 19 [vR c1, vI w, vI p, vI n, vI v] [] (up M_2 c1 4 p, S) Q
    refine ⟨hT, ?_⟩
    generalize hM_10 : up M_2 c1 4 p = M_10
    obtain ⟨g_12, hg_12⟩ : ∃ y9, y9 = uf g_4 4 p := ⟨_, rfl⟩
    have r_11 : M_10 c1 = g_12 := by rw [← hM_10, hg_12, up_self, r_3]
    have t_13 : g_12 3 = g_4 3 := by rw [hg_12]; exact uf_ne (by omega)
    have t_14 : g_12 4 = p := by rw [hg_12]; exact uf_at _ _ (by omega)
    have t_15 : g_12 5 = g_4 5 := by rw [hg_12]; exact uf_ne (by omega)
    have t_16 : g_12 6 = g_4 6 := by rw [hg_12]; exact uf_ne (by omega)
    have fr_17 : (∀ q9, q9 ≠ c1 → M_10 q9 = M q9) := fun q9 q0 => by rw [← hM_10]; exact (up_row (by omega)).trans (fr_9 q9 q0)
    refine WP.blk 3 ?_
    show sT S c1 = 1 ∧ WP 0 4 24 [vR c1, vI w, vI p, vI n, vI v] [] (up M_10 c1 5 n, S) Q
    refine ⟨hT, ?_⟩
    generalize hM_18 : up M_10 c1 5 n = M_18
    obtain ⟨g_20, hg_20⟩ : ∃ y9, y9 = uf g_12 5 n := ⟨_, rfl⟩
    have r_19 : M_18 c1 = g_20 := by rw [← hM_18, hg_20, up_self, r_11]
    have t_21 : g_20 3 = g_12 3 := by rw [hg_20]; exact uf_ne (by omega)
    have t_22 : g_20 4 = g_12 4 := by rw [hg_20]; exact uf_ne (by omega)
    have t_23 : g_20 5 = n := by rw [hg_20]; exact uf_at _ _ (by omega)
    have t_24 : g_20 6 = g_12 6 := by rw [hg_20]; exact uf_ne (by omega)
    have fr_25 : (∀ q9, q9 ≠ c1 → M_18 q9 = M q9) := fun q9 q0 => by rw [← hM_18]; exact (up_row (by omega)).trans (fr_17 q9 q0)
    refine WP.blk 3 ?_
    show sT S c1 = 1 ∧ WP 0 4 30 [vR c1, vI w, vI p, vI n, vI v] [] (up M_18 c1 6 v, S) Q
    refine ⟨hT, ?_⟩
    generalize hM_26 : up M_18 c1 6 v = M_26
    obtain ⟨g_28, hg_28⟩ : ∃ y9, y9 = uf g_20 6 v := ⟨_, rfl⟩
    have r_27 : M_26 c1 = g_28 := by rw [← hM_26, hg_28, up_self, r_19]
    have t_29 : g_28 3 = g_20 3 := by rw [hg_28]; exact uf_ne (by omega)
    have t_30 : g_28 4 = g_20 4 := by rw [hg_28]; exact uf_ne (by omega)
    have t_31 : g_28 5 = g_20 5 := by rw [hg_28]; exact uf_ne (by omega)
    have t_32 : g_28 6 = v := by rw [hg_28]; exact uf_at _ _ (by omega)
    have fr_33 : (∀ q9, q9 ≠ c1 → M_26 q9 = M q9) := fun q9 q0 => by rw [← hM_26]; exact (up_row (by omega)).trans (fr_25 q9 q0)
    exact WP.ret rfl rfl rfl trivial (k _ fr_33 _ r_27 (Or.inl ⟨by omega, by omega, by omega, by omega, by omega⟩))
set_option maxHeartbeats 4000000 in
theorem k_cutSearch {S : SD} {M : Nat → Int → Int} {x : Nat} {f : Int → Int} {B : Int} {most : Int} (hS : isRub S x) (has : AskR M x f) (hx3 : 3 ≤ x) (hR : RowOk B f) (hcs : CstR M (x + 153)) (hm : 1 ≤ most ∧ most ≤ 5) (hB : 0 ≤ B ∧ B ≤ 1000000000 - 400) {Q : Res → Wd → Prop} (k : ∀ (M2 : Nat → Int → Int), (∀ q9, (q9 < x + 152 ∨ x + 171 ≤ q9) → M2 q9 = M q9) → ∀ o2, M2 (x + 152) = o2 → CutV f most (o2 3) (o2 4) (o2 5) (o2 6) → CstR M2 (x + 153) → Q (0, none) (M2, S)) : EvQ 7 1 [vR (x + 152), vR (x + 2), vI most] (M, S) Q := by
  refine EvQ.enter (ls := [vR (x + 152), vR (x + 2), vI most, none, none, none, none, none]) (Nat.le_of_ble_eq_true rfl) rfl ?_
  have hA := hR.1
  have hA1 := hA.1
  have hWA := hR.2.1
  have hW1 := hWA.1
  obtain ⟨o, ho⟩ : ∃ y9, M (x + 152) = y9 := ⟨_, rfl⟩
  refine WP.blk 3 ?_
  show sT S (x + 152) = 1 ∧ WP 6 1 5 [vR (x + 152), vR (x + 2), vI most, none, none, none, none, none] [] (up M (x + 152) 3 (-1), S) Q
  refine ⟨hS.2.2.2.2.2.2.2.2.1.1.1, ?_⟩
  generalize hM_1 : up M (x + 152) 3 (-1) = M_1
  obtain ⟨g_3, hg_3⟩ : ∃ y9, y9 = uf o 3 (-1) := ⟨_, rfl⟩
  have r_2 : M_1 (x + 152) = g_3 := by rw [← hM_1, hg_3, up_self, ho]
  have t_4 : g_3 3 = (-1) := by rw [hg_3]; exact uf_at _ _ (by omega)
  have t_5 : g_3 4 = o 4 := by rw [hg_3]; exact uf_ne (by omega)
  have t_6 : g_3 5 = o 5 := by rw [hg_3]; exact uf_ne (by omega)
  have t_7 : g_3 6 = o 6 := by rw [hg_3]; exact uf_ne (by omega)
  have F_8 : AskR M_1 x f := AskR_fr (fun r9 h7 h8 h9 => by rw [← hM_1]; exact up_row (by omega)) has
  have F_9 : CstR M_1 (x + 153) := CstR_fr (fun r9 h8 h9 => by rw [← hM_1]; exact up_row (by omega)) hcs
  have fr_10 : (∀ q9, (q9 < x + 152 ∨ x + 171 ≤ q9) → M_1 q9 = M q9) := fun q9 q0 => by rw [← hM_1]; exact (up_row (by omega)).trans ((fun _ _ => rfl) q9 q0)
  refine WP.blk 3 ?_
  show sT S (x + 152) = 1 ∧ WP 6 1 10 [vR (x + 152), vR (x + 2), vI most, none, none, none, none, none] [] (up M_1 (x + 152) 4 (-1), S) Q
  refine ⟨hS.2.2.2.2.2.2.2.2.1.1.1, ?_⟩
  generalize hM_11 : up M_1 (x + 152) 4 (-1) = M_11
  obtain ⟨g_13, hg_13⟩ : ∃ y9, y9 = uf g_3 4 (-1) := ⟨_, rfl⟩
  have r_12 : M_11 (x + 152) = g_13 := by rw [← hM_11, hg_13, up_self, r_2]
  have t_14 : g_13 3 = g_3 3 := by rw [hg_13]; exact uf_ne (by omega)
  have t_15 : g_13 4 = (-1) := by rw [hg_13]; exact uf_at _ _ (by omega)
  have t_16 : g_13 5 = g_3 5 := by rw [hg_13]; exact uf_ne (by omega)
  have t_17 : g_13 6 = g_3 6 := by rw [hg_13]; exact uf_ne (by omega)
  have F_18 : AskR M_11 x f := AskR_fr (fun r9 h7 h8 h9 => by rw [← hM_11]; exact up_row (by omega)) F_8
  have F_19 : CstR M_11 (x + 153) := CstR_fr (fun r9 h8 h9 => by rw [← hM_11]; exact up_row (by omega)) F_9
  have fr_20 : (∀ q9, (q9 < x + 152 ∨ x + 171 ≤ q9) → M_11 q9 = M q9) := fun q9 q0 => by rw [← hM_11]; exact (up_row (by omega)).trans (fr_10 q9 q0)
  refine WP.blk 3 ?_
  show sT S (x + 152) = 1 ∧ WP 6 1 15 [vR (x + 152), vR (x + 2), vI most, none, none, none, none, none] [] (up M_11 (x + 152) 5 (-1), S) Q
  refine ⟨hS.2.2.2.2.2.2.2.2.1.1.1, ?_⟩
  generalize hM_21 : up M_11 (x + 152) 5 (-1) = M_21
  obtain ⟨g_23, hg_23⟩ : ∃ y9, y9 = uf g_13 5 (-1) := ⟨_, rfl⟩
  have r_22 : M_21 (x + 152) = g_23 := by rw [← hM_21, hg_23, up_self, r_12]
  have t_24 : g_23 3 = g_13 3 := by rw [hg_23]; exact uf_ne (by omega)
  have t_25 : g_23 4 = g_13 4 := by rw [hg_23]; exact uf_ne (by omega)
  have t_26 : g_23 5 = (-1) := by rw [hg_23]; exact uf_at _ _ (by omega)
  have t_27 : g_23 6 = g_13 6 := by rw [hg_23]; exact uf_ne (by omega)
  have F_28 : AskR M_21 x f := AskR_fr (fun r9 h7 h8 h9 => by rw [← hM_21]; exact up_row (by omega)) F_18
  have F_29 : CstR M_21 (x + 153) := CstR_fr (fun r9 h8 h9 => by rw [← hM_21]; exact up_row (by omega)) F_19
  have fr_30 : (∀ q9, (q9 < x + 152 ∨ x + 171 ≤ q9) → M_21 q9 = M q9) := fun q9 q0 => by rw [← hM_21]; exact (up_row (by omega)).trans (fr_20 q9 q0)
  refine WP.blk 3 ?_
  show sT S (x + 152) = 1 ∧ WP 6 1 20 [vR (x + 152), vR (x + 2), vI most, none, none, none, none, none] [] (up M_21 (x + 152) 6 (-1), S) Q
  refine ⟨hS.2.2.2.2.2.2.2.2.1.1.1, ?_⟩
  generalize hM_31 : up M_21 (x + 152) 6 (-1) = M_31
  obtain ⟨g_33, hg_33⟩ : ∃ y9, y9 = uf g_23 6 (-1) := ⟨_, rfl⟩
  have r_32 : M_31 (x + 152) = g_33 := by rw [← hM_31, hg_33, up_self, r_22]
  have t_34 : g_33 3 = g_23 3 := by rw [hg_33]; exact uf_ne (by omega)
  have t_35 : g_33 4 = g_23 4 := by rw [hg_33]; exact uf_ne (by omega)
  have t_36 : g_33 5 = g_23 5 := by rw [hg_33]; exact uf_ne (by omega)
  have t_37 : g_33 6 = (-1) := by rw [hg_33]; exact uf_at _ _ (by omega)
  have F_38 : AskR M_31 x f := AskR_fr (fun r9 h7 h8 h9 => by rw [← hM_31]; exact up_row (by omega)) F_28
  have F_39 : CstR M_31 (x + 153) := CstR_fr (fun r9 h8 h9 => by rw [← hM_31]; exact up_row (by omega)) F_29
  have fr_40 : (∀ q9, (q9 < x + 152 ∨ x + 171 ≤ q9) → M_31 q9 = M q9) := fun q9 q0 => by rw [← hM_31]; exact (up_row (by omega)).trans (fr_30 q9 q0)
  refine WP.blk 2 ?_
  show (sT S (x + 2) = 8 ∧ sR S (x + 2) 0 ≠ 0) ∧ WP 6 1 24 [vR (x + 152), vR (x + 2), vI most, none, none, none, none, none] [vR (sR S (x + 2) 0)] (M_31, S) Q
  refine ⟨⟨hS.2.1.1, by rw [(show sR S (x + 2) 0 = x + 3 from hS.2.1.2.1)]; omega⟩, ?_⟩
  rw [(show sR S (x + 2) 0 = x + 3 from hS.2.1.2.1)]
  refine WP.cl (a := [vR (x + 3)]) (rest := []) rfl rfl rfl rfl ⟨hS.2.1.2.2.2.2.2.1.1, trivial⟩ (by decide) (k_isFull hS.2.1.2.2.2.2.2.1 F_38.1.1.1 (fun b_41 hb_41 => ⟨rfl, ?_⟩))
  show WP 6 1 27 [vR (x + 152), vR (x + 2), vI most, none, none, none, none, none] [vI b_41] (M_31, S) Q
  refine WP.blk 1 ?_
  show WP 6 1 (if cnd .eq b_41 0 = true then 31 else 30) [vR (x + 152), vR (x + 2), vI most, none, none, none, none, none] [] (M_31, S) Q
  refine br_eq (fun c_42 => ?_) (fun c_42 => ?_)
  · have p_41 := (hb_41.resolve_left (fun h => by omega)).2
    refine WP.blk 2 ?_
    show (sT S (x + 152) = 1 ∧ sR S (x + 152) 0 ≠ 0) ∧ WP 6 1 35 [vR (x + 152), vR (x + 2), vI most, none, none, none, none, none] [vR (sR S (x + 152) 0)] (M_31, S) Q
    refine ⟨⟨hS.2.2.2.2.2.2.2.2.1.1.1, by rw [(show sR S (x + 152) 0 = x + 153 from hS.2.2.2.2.2.2.2.2.1.1.2.1)]; omega⟩, ?_⟩
    rw [(show sR S (x + 152) 0 = x + 153 from hS.2.2.2.2.2.2.2.2.1.1.2.1)]
    refine WP.blk 1 ?_
    show WP 6 1 36 [vR (x + 152), vR (x + 2), vI most, none, none, none, none, none] [vR (x + 2), vR (x + 153)] (M_31, S) Q
    refine WP.cl (a := [vR (x + 153), vR (x + 2)]) (rest := []) rfl rfl rfl rfl ⟨hS.2.2.2.2.2.2.2.2.1.2.1.1, trivial⟩ (by decide) (k_copyFrom hS.2.2.2.2.2.2.2.2.1.2.1 hS.2.1 (by omega) F_39.1 F_39.2.1 F_39.2.2.1 F_39.2.2.2 F_38.1.1.1 F_38.1.1.2.1 F_38.1.1.2.2.1 F_38.1.1.2.2.2 F_38.1.2 (by omega) (by omega) (fun My_43 fry_43 hky_43 => ⟨rfl, ?_⟩))
    show WP 6 1 39 [vR (x + 152), vR (x + 2), vI most, none, none, none, none, none] [] (My_43, S) Q
    have r_44 : My_43 (x + 152) = g_33 := (fry_43 _ (by omega)).trans r_32
    have F_45 : AskR My_43 x f := AskR_fr (fun r9 h7 h8 h9 => fry_43 r9 (by omega)) F_38
    have fr_46 : (∀ q9, (q9 < x + 152 ∨ x + 171 ≤ q9) → My_43 q9 = M q9) := fun q9 q0 => (fry_43 q9 (by omega)).trans (fr_40 q9 q0)
    refine WP.blk 2 ?_
    show (sT S (x + 152) = 1 ∧ sR S (x + 152) 1 ≠ 0) ∧ WP 6 1 43 [vR (x + 152), vR (x + 2), vI most, none, none, none, none, none] [vR (sR S (x + 152) 1)] (My_43, S) Q
    refine ⟨⟨hS.2.2.2.2.2.2.2.2.1.1.1, by rw [(show sR S (x + 152) 1 = x + 165 from hS.2.2.2.2.2.2.2.2.1.1.2.2.1)]; omega⟩, ?_⟩
    rw [(show sR S (x + 152) 1 = x + 165 from hS.2.2.2.2.2.2.2.2.1.1.2.2.1)]
    refine WP.blk 2 ?_
    show (sT S (x + 152) = 1 ∧ sR S (x + 152) 0 ≠ 0) ∧ WP 6 1 47 [vR (x + 152), vR (x + 2), vI most, none, none, none, none, none] [vR (sR S (x + 152) 0), vR (x + 165)] (My_43, S) Q
    refine ⟨⟨hS.2.2.2.2.2.2.2.2.1.1.1, by rw [(show sR S (x + 152) 0 = x + 153 from hS.2.2.2.2.2.2.2.2.1.1.2.1)]; omega⟩, ?_⟩
    rw [(show sR S (x + 152) 0 = x + 153 from hS.2.2.2.2.2.2.2.2.1.1.2.1)]
    refine WP.cl (a := [vR (x + 165), vR (x + 153)]) (rest := []) rfl rfl rfl rfl ⟨hS.2.2.2.2.2.2.2.2.1.2.2.1.1, trivial⟩ (by decide) (k_rebuild hS.2.2.2.2.2.2.2.2.1.2.1 hS.2.2.2.2.2.2.2.2.1.2.2.1 hS.2.2.2.2.2.2.2.2.2 (by omega) (by omega) (by omega) F_45.2.2 hky_43.1.1 hky_43.1.2.1 hA (by omega) (fun w a b => (hWA.2 w a b).1.2.2.2.1) (fun My_47 fry_47 hky_47 => ⟨rfl, ?_⟩))
    show WP 6 1 50 [vR (x + 152), vR (x + 2), vI most, none, none, none, none, none] [] (My_47, S) Q
    have r_48 : My_47 (x + 152) = g_33 := (fry_47 _ (by omega)).trans r_44
    have F_49 : AskR My_47 x f := AskR_fr (fun r9 h7 h8 h9 => fry_47 r9 (by omega)) F_45
    have F_50 : Sht My_47 (x + 153) (f) := Sht_fr (fun r9 h8 h9 => fry_47 r9 (by omega)) hky_43
    have fr_51 : (∀ q9, (q9 < x + 152 ∨ x + 171 ≤ q9) → My_47 q9 = M q9) := fun q9 q0 => (fry_47 q9 (by omega)).trans (fr_46 q9 q0)
    refine WP.blk 1 ?_
    show WP 6 1 51 [vR (x + 152), vR (x + 2), vI most, none, none, none, none, none] [vR (x + 152)] (My_47, S) Q
    refine WP.cl (a := [vR (x + 152)]) (rest := []) rfl rfl rfl rfl ⟨hS.2.2.2.2.2.2.2.2.1.1.1, trivial⟩ (by decide) (k_cutAll hS hx3 F_50 hky_47 hR (fun vy_52 My_52 fry_52 hvy_52 hry_52 => ⟨rfl, ?_⟩))
    show WP 6 1 54 [vR (x + 152), vR (x + 2), vI most, none, none, none, none, none] [vI vy_52] (My_52, S) Q
    have r_53 : My_52 (x + 152) = g_33 := (fry_52 _ (by omega)).trans r_48
    have F_54 : AskR My_52 x f := AskR_fr (fun r9 h7 h8 h9 => fry_52 r9 (by omega)) F_49
    have F_55 : Sht My_52 (x + 153) (f) := Sht_fr (fun r9 h8 h9 => fry_52 r9 (by omega)) F_50
    have F_56 : FitR My_52 (x + 165) (f) ((f) 0) := FitR_fr (fun r9 h8 h9 => fry_52 r9 (by omega)) hky_47
    have fr_57 : (∀ q9, (q9 < x + 152 ∨ x + 171 ≤ q9) → My_52 q9 = M q9) := fun q9 q0 => (fry_52 q9 (by omega)).trans (fr_51 q9 q0)
    refine WP.blk 3 ?_
    show WP 6 1 58 [vR (x + 152), vR (x + 2), vI most, vI vy_52, vI 0, none, none, none] [] (My_52, S) Q
    have hl_58 : ∀ (n_58 : Nat) (w : Int) (v5_58 : V) (v6_58 : V) (v7_58 : V) (Ma : Nat → Int → Int) (o1 : Int → Int), 0 ≤ w ∧ w ≤ f 1 → BstI f most w 0 1 (o1 3) (o1 4) (o1 5) (o1 6) → (o1 6 = -1 → o1 3 = -1 ∧ o1 4 = -1 ∧ o1 5 = -1) → Ma (x + 152) = o1 → AskR Ma x f → Sht Ma (x + 153) (f) → FitR Ma (x + 165) (f) ((f) 0) → (∀ q9, (q9 < x + 152 ∨ x + 171 ≤ q9) → Ma q9 = M q9) → (f 1 - w).toNat < n_58 → WP 6 1 58 [vR (x + 152), vR (x + 2), vI most, vI vy_52, vI w, v5_58, v6_58, v7_58] [] (Ma, S) Q := by
      intro n_58
      induction n_58 with
      | zero => intro w v5_58 v6_58 v7_58 Ma o1 h0 h1 h2 z_58_0 F_58_as F_58_ts F_58_tf fr_58 hm_58; exact absurd hm_58 (Nat.not_lt_zero _)
      | succ n_58 ih_58 =>
        intro w v5_58 v6_58 v7_58 Ma o1 h0 h1 h2 z_58_0 F_58_as F_58_ts F_58_tf fr_58 hm_58
        have hw9 : w < f 1 → 1 ≤ f (97 + 14 * w) ∧ f (97 + 14 * w) ≤ 12 := fun h => ⟨(hWA.2 w h0.1 h).1.2.2.1, (hWA.2 w h0.1 h).1.2.2.2.1⟩
        refine WP.blk 3 ?_
        show (sT S (x + 152) = 1 ∧ sR S (x + 152) 0 ≠ 0) ∧ WP 6 1 64 [vR (x + 152), vR (x + 2), vI most, vI vy_52, vI w, v5_58, v6_58, v7_58] [vR (sR S (x + 152) 0), vI w] (Ma, S) Q
        refine ⟨⟨hS.2.2.2.2.2.2.2.2.1.1.1, by rw [(show sR S (x + 152) 0 = x + 153 from hS.2.2.2.2.2.2.2.2.1.1.2.1)]; omega⟩, ?_⟩
        rw [(show sR S (x + 152) 0 = x + 153 from hS.2.2.2.2.2.2.2.2.1.1.2.1)]
        refine WP.blk 1 ?_
        show (sT S (x + 153) = 8 ∧ sR S (x + 153) 1 ≠ 0) ∧ WP 6 1 67 [vR (x + 152), vR (x + 2), vI most, vI vy_52, vI w, v5_58, v6_58, v7_58] [vR (sR S (x + 153) 1), vI w] (Ma, S) Q
        refine ⟨⟨hS.2.2.2.2.2.2.2.2.1.2.1.1, by rw [(show sR S (x + 153) 1 = x + 157 from hS.2.2.2.2.2.2.2.2.1.2.1.2.2.1)]; omega⟩, ?_⟩
        rw [(show sR S (x + 153) 1 = x + 157 from hS.2.2.2.2.2.2.2.2.1.2.1.2.2.1)]
        refine WP.blk 2 ?_
        show sT S (x + 157) = 7 ∧ WP 6 1 (if cnd .ge w (Ma (x + 157) 4) = true then 156 else 73) [vR (x + 152), vR (x + 2), vI most, vI vy_52, vI w, v5_58, v6_58, v7_58] [] (Ma, S) Q
        rw [F_58_ts.1.2.1.1.2.2]
        refine ⟨hS.2.2.2.2.2.2.2.2.1.2.1.2.2.2.2.2.2.1.1, ?_⟩
        refine br_ge (fun c_58 => ?_) (fun c_58 => ?_)
        · exact WP.ret rfl rfl rfl trivial (k _ fr_58 _ z_58_0 (Or.inr ⟨by omega, by have e9 := h1; rw [show w = f 1 by omega] at e9; exact e9, h2⟩) (sht_cst F_58_ts))
        · refine WP.blk 2 ?_
          show (sT S (x + 152) = 1 ∧ sR S (x + 152) 0 ≠ 0) ∧ WP 6 1 77 [vR (x + 152), vR (x + 2), vI most, vI vy_52, vI w, v5_58, v6_58, v7_58] [vR (sR S (x + 152) 0)] (Ma, S) Q
          refine ⟨⟨hS.2.2.2.2.2.2.2.2.1.1.1, by rw [(show sR S (x + 152) 0 = x + 153 from hS.2.2.2.2.2.2.2.2.1.1.2.1)]; omega⟩, ?_⟩
          rw [(show sR S (x + 152) 0 = x + 153 from hS.2.2.2.2.2.2.2.2.1.1.2.1)]
          refine WP.blk 1 ?_
          show (sT S (x + 153) = 8 ∧ sR S (x + 153) 1 ≠ 0) ∧ WP 6 1 80 [vR (x + 152), vR (x + 2), vI most, vI vy_52, vI w, v5_58, v6_58, v7_58] [vR (sR S (x + 153) 1)] (Ma, S) Q
          refine ⟨⟨hS.2.2.2.2.2.2.2.2.1.2.1.1, by rw [(show sR S (x + 153) 1 = x + 157 from hS.2.2.2.2.2.2.2.2.1.2.1.2.2.1)]; omega⟩, ?_⟩
          rw [(show sR S (x + 153) 1 = x + 157 from hS.2.2.2.2.2.2.2.2.1.2.1.2.2.1)]
          refine WP.blk 1 ?_
          show WP 6 1 82 [vR (x + 152), vR (x + 2), vI most, vI vy_52, vI w, v5_58, v6_58, v7_58] [vI w, vR (x + 157)] (Ma, S) Q
          refine WP.cl (a := [vR (x + 157), vI w]) (rest := []) rfl rfl rfl rfl ⟨hS.2.2.2.2.2.2.2.2.1.2.1.2.2.2.2.2.2.1.1, trivial⟩ (by decide) (k_len hS.2.2.2.2.2.2.2.2.1.2.1.2.2.2.2.2.2.1 F_58_ts.1.2.1 (by omega) (by omega) ⟨rfl, ?_⟩)
          show WP 6 1 85 [vR (x + 152), vR (x + 2), vI most, vI vy_52, vI w, v5_58, v6_58, v7_58] [vI (f (97 + 14 * w))] (Ma, S) Q
          refine WP.blk 3 ?_
          show WP 6 1 90 [vR (x + 152), vR (x + 2), vI most, vI vy_52, vI w, vI (f (97 + 14 * w)), vI 0, v7_58] [] (Ma, S) Q
          have hl_90 : ∀ (n_90 : Nat) (p : Int) (v7_90 : V) (Mb : Nat → Int → Int) (o2 : Int → Int), 0 ≤ p ∧ p ≤ f (97 + 14 * w) → BstI f most w p 1 (o2 3) (o2 4) (o2 5) (o2 6) → (o2 6 = -1 → o2 3 = -1 ∧ o2 4 = -1 ∧ o2 5 = -1) → Mb (x + 152) = o2 → AskR Mb x f → Sht Mb (x + 153) (f) → FitR Mb (x + 165) (f) ((f) 0) → (∀ q9, (q9 < x + 152 ∨ x + 171 ≤ q9) → Mb q9 = M q9) → (f (97 + 14 * w) - p).toNat < n_90 → WP 6 1 90 [vR (x + 152), vR (x + 2), vI most, vI vy_52, vI w, vI (f (97 + 14 * w)), vI p, v7_90] [] (Mb, S) Q := by
            intro n_90
            induction n_90 with
            | zero => intro p v7_90 Mb o2 h3 h4 h7 z_90_0 F_90_as F_90_ts F_90_tf fr_90 hm_90; exact absurd hm_90 (Nat.not_lt_zero _)
            | succ n_90 ih_90 =>
              intro p v7_90 Mb o2 h3 h4 h7 z_90_0 F_90_as F_90_ts F_90_tf fr_90 hm_90
              refine WP.blk 3 ?_
              show WP 6 1 (if cnd .ge p (f (97 + 14 * w)) = true then 150 else 97) [vR (x + 152), vR (x + 2), vI most, vI vy_52, vI w, vI (f (97 + 14 * w)), vI p, v7_90] [] (Mb, S) Q
              refine br_ge (fun c_59 => ?_) (fun c_59 => ?_)
              · refine WP.blk 2 ?_
                show ir (w + 1) ∧ WP 6 1 58 [vR (x + 152), vR (x + 2), vI most, vI vy_52, vI (w + 1), vI (f (97 + 14 * w)), vI p, v7_90] [] (Mb, S) Q
                refine ⟨(by unfold ir; omega), ?_⟩
                exact ih_58 (w + 1) (vI (f (97 + 14 * w))) (vI p) (v7_90) Mb o2 (by omega) (BstI_w h4 (by omega)) h7 z_90_0 F_90_as F_90_ts F_90_tf fr_90 (by omega)
              · refine WP.blk 2 ?_
                show WP 6 1 100 [vR (x + 152), vR (x + 2), vI most, vI vy_52, vI w, vI (f (97 + 14 * w)), vI p, vI 1] [] (Mb, S) Q
                have hl_100 : ∀ (n_100 : Nat) (n : Int) (Mc : Nat → Int → Int) (o3 : Int → Int), 1 ≤ n ∧ n ≤ 6 → BstI f most w p n (o3 3) (o3 4) (o3 5) (o3 6) → (o3 6 = -1 → o3 3 = -1 ∧ o3 4 = -1 ∧ o3 5 = -1) → Mc (x + 152) = o3 → AskR Mc x f → Sht Mc (x + 153) (f) → FitR Mc (x + 165) (f) ((f) 0) → (∀ q9, (q9 < x + 152 ∨ x + 171 ≤ q9) → Mc q9 = M q9) → (6 - n).toNat < n_100 → WP 6 1 100 [vR (x + 152), vR (x + 2), vI most, vI vy_52, vI w, vI (f (97 + 14 * w)), vI p, vI n] [] (Mc, S) Q := by
                  intro n_100
                  induction n_100 with
                  | zero => intro n Mc o3 h9 h5 h6 z_100_0 F_100_as F_100_ts F_100_tf fr_100 hm_100; exact absurd hm_100 (Nat.not_lt_zero _)
                  | succ n_100 ih_100 =>
                    intro n Mc o3 h9 h5 h6 z_100_0 F_100_as F_100_ts F_100_tf fr_100 hm_100
                    refine WP.blk 3 ?_
                    show WP 6 1 (if cnd .gt n most = true then 144 else 106) [vR (x + 152), vR (x + 2), vI most, vI vy_52, vI w, vI (f (97 + 14 * w)), vI p, vI n] [] (Mc, S) Q
                    refine br_gt (fun c_60 => ?_) (fun c_60 => ?_)
                    · refine WP.blk 2 ?_
                      show ir (p + 1) ∧ WP 6 1 90 [vR (x + 152), vR (x + 2), vI most, vI vy_52, vI w, vI (f (97 + 14 * w)), vI (p + 1), vI n] [] (Mc, S) Q
                      refine ⟨(by unfold ir; omega), ?_⟩
                      exact ih_90 (p + 1) (vI n) Mc o3 (by omega) (BstI_p h5 (fun n9 h8 h9 => by obtain ⟨k1, k2, k3, k4⟩ := h9; omega)) h6 z_100_0 F_100_as F_100_ts F_100_tf fr_100 (by omega)
                    · refine WP.blk 5 ?_
                      show ir ((f (97 + 14 * w)) - p) ∧ WP 6 1 (if cnd .gt n ((f (97 + 14 * w)) - p) = true then 144 else 116) [vR (x + 152), vR (x + 2), vI most, vI vy_52, vI w, vI (f (97 + 14 * w)), vI p, vI n] [] (Mc, S) Q
                      refine ⟨(by unfold ir; omega), ?_⟩
                      refine br_gt (fun c_61 => ?_) (fun c_61 => ?_)
                      · refine WP.blk 2 ?_
                        show ir (p + 1) ∧ WP 6 1 90 [vR (x + 152), vR (x + 2), vI most, vI vy_52, vI w, vI (f (97 + 14 * w)), vI (p + 1), vI n] [] (Mc, S) Q
                        refine ⟨(by unfold ir; omega), ?_⟩
                        exact ih_90 (p + 1) (vI n) Mc o3 (by omega) (BstI_p h5 (fun n9 h8 h9 => by obtain ⟨k1, k2, k3, k4⟩ := h9; omega)) h6 z_100_0 F_100_as F_100_ts F_100_tf fr_100 (by omega)
                      · have hcd : Cd f 5 w p n := ⟨by omega, by omega, by omega, by omega⟩
                        refine WP.blk 9 ?_
                        show WP 6 1 131 [vR (x + 152), vR (x + 2), vI most, vI vy_52, vI w, vI (f (97 + 14 * w)), vI p, vI n] [vI n, vI p, vI w, vR (x + 152), vI vy_52, vI n, vI p, vI w, vR (x + 152)] (Mc, S) Q
                        refine WP.cl (a := [vR (x + 152), vI w, vI p, vI n]) (rest := [vI vy_52, vI n, vI p, vI w, vR (x + 152)]) rfl rfl rfl rfl ⟨hS.2.2.2.2.2.2.2.2.1.1.1, trivial⟩ (by decide) (k_cutWith hS hx3 F_100_ts F_100_tf hR F_100_as.2.2 hB (by omega) hcd (fun vy_62 My_62 fry_62 hvy_62 hry_62 hsy_62 hfy_62 => ⟨rfl, ?_⟩))
                        show WP 6 1 134 [vR (x + 152), vR (x + 2), vI most, vI vy_52, vI w, vI (f (97 + 14 * w)), vI p, vI n] [vI vy_62, vI vy_52, vI n, vI p, vI w, vR (x + 152)] (My_62, S) Q
                        have r_63 : My_62 (x + 152) = o3 := (fry_62 _ (by omega)).trans z_100_0
                        have F_64 : AskR My_62 x f := AskR_fr (fun r9 h7 h8 h9 => fry_62 r9 (by omega)) F_100_as
                        have fr_65 : (∀ q9, (q9 < x + 152 ∨ x + 171 ≤ q9) → My_62 q9 = M q9) := fun q9 q0 => (fry_62 q9 (by omega)).trans (fr_100 q9 q0)
                        refine WP.blk 1 ?_
                        show ir (vy_52 - vy_62) ∧ WP 6 1 135 [vR (x + 152), vR (x + 2), vI most, vI vy_52, vI w, vI (f (97 + 14 * w)), vI p, vI n] [vI (vy_52 - vy_62), vI n, vI p, vI w, vR (x + 152)] (My_62, S) Q
                        refine ⟨(by unfold ir; omega), ?_⟩
                        refine WP.cl (a := [vR (x + 152), vI w, vI p, vI n, vI (vy_52 - vy_62)]) (rest := []) rfl rfl rfl rfl ⟨hS.2.2.2.2.2.2.2.2.1.1.1, trivial⟩ (by decide) (k_keepB hS.2.2.2.2.2.2.2.2.1.1.1 r_63 (fun My_66 fry_66 oy_66 hoy_66 hky_66 => ⟨rfl, ?_⟩))
                        show WP 6 1 138 [vR (x + 152), vR (x + 2), vI most, vI vy_52, vI w, vI (f (97 + 14 * w)), vI p, vI n] [] (My_66, S) Q
                        have F_68 : AskR My_66 x f := AskR_fr (fun r9 h7 h8 h9 => fry_66 r9 (by omega)) F_64
                        have F_69 : Sht My_66 (x + 153) (f) := Sht_fr (fun r9 h8 h9 => fry_66 r9 (by omega)) hsy_62
                        have F_70 : FitR My_66 (x + 165) (f) ((f) 0) := FitR_fr (fun r9 h8 h9 => fry_66 r9 (by omega)) hfy_62
                        have fr_71 : (∀ q9, (q9 < x + 152 ∨ x + 171 ≤ q9) → My_66 q9 = M q9) := fun q9 q0 => (fry_66 q9 (by omega)).trans (fr_65 q9 q0)
                        refine WP.blk 2 ?_
                        show ir (n + 1) ∧ WP 6 1 100 [vR (x + 152), vR (x + 2), vI most, vI vy_52, vI w, vI (f (97 + 14 * w)), vI p, vI (n + 1)] [] (My_66, S) Q
                        refine ⟨(by unfold ir; omega), ?_⟩
                        exact ih_100 (n + 1) My_66 oy_66 (by omega) (by have es : sav f w p n = vy_52 - vy_62 := (by unfold sav; rw [← hvy_52, hvy_62]); rcases hky_66 with hk | hk; (have e9 := BstI_n1 h5 (show Cd f most w p n from ⟨by omega, by omega, by omega, by omega⟩) (by omega); rw [hk.2.1, hk.2.2.1, hk.2.2.2.1, show oy_66 6 = sav f w p n by omega]; exact e9); (rw [hk.2]; exact BstI_n0 h5 (by omega))) (by have hg9 := bst_ge h5; rcases hky_66 with hk | hk; (intro h9; omega); (rw [hk.2]; exact h6)) hoy_66 F_68 F_69 F_70 fr_71 (by omega)
                exact hl_100 _ 1 Mb o2 (by omega) h4 h7 z_90_0 F_90_as F_90_ts F_90_tf fr_90 (Nat.lt_succ_self _)
          exact hl_90 _ 0 (v7_58) Ma o1 (by omega) h1 h2 z_58_0 F_58_as F_58_ts F_58_tf fr_58 (Nat.lt_succ_self _)
    exact hl_58 _ 0 (none) (none) (none) My_52 g_33 (by omega) (by rw [show g_33 6 = -1 by omega]; exact BstI_0) (by omega) r_53 F_54 F_55 F_56 fr_57 (Nat.lt_succ_self _)
  · have p_41 := (hb_41.resolve_right (fun h => by omega)).2
    exact WP.ret rfl rfl rfl trivial (k _ fr_40 _ r_32 (Or.inl ⟨by omega, by omega, by omega, by omega, by omega⟩) F_39)
set_option maxHeartbeats 4000000 in
theorem t_bestCut {S : SD} {M : Nat → Int → Int} {x : Nat} {f : Int → Int} {B : Int} {a most : Int} (hS : isRub S x) (has : AskR M x f) (hx3 : 3 ≤ x) (hR : RowOk B f) (hcs : CstR M (x + 153)) (hB : 0 ≤ B ∧ B ≤ 1000000000 - 400) {Q : Res → Wd → Prop} (k : ∀ (v : Int) (M2 : Nat → Int → Int), (∀ q9, (q9 < x + 152 ∨ x + 171 ≤ q9) → M2 q9 = M q9) → ((0 ≤ a ∧ a ≤ 3) ∧ 1 ≤ most ∧ most ≤ 5) → PartV f a most v → CstR M2 (x + 153) → Q (0, vI v) (M2, S)) (k1 : ¬ ((0 ≤ a ∧ a ≤ 3) ∧ 1 ≤ most ∧ most ≤ 5) → Q (1, none) (tk (M, S))) : EvQ 8 84 [vR x, vI a, vI most] (M, S) Q := by
  refine EvQ.enter (ls := [vR x, vI a, vI most]) (Nat.le_of_ble_eq_true rfl) rfl ?_
  have hW1 := hR.2.1.1
  obtain ⟨o, ho⟩ : ∃ y9, M (x + 152) = y9 := ⟨_, rfl⟩
  refine WP.blk 2 ?_
  show WP 7 84 (if cnd .lt a 0 = true then 19 else 4) [vR x, vI a, vI most] [] (M, S) Q
  refine br_lt (fun c_1 => ?_) (fun c_1 => ?_)
  · exact WP.thr rfl rfl rfl rfl rfl (by decide) (k1 (by omega))
  · refine WP.blk 3 ?_
    show WP 7 84 (if cnd .ge a 4 = true then 19 else 9) [vR x, vI a, vI most] [] (M, S) Q
    refine br_ge (fun c_2 => ?_) (fun c_2 => ?_)
    · exact WP.thr rfl rfl rfl rfl rfl (by decide) (k1 (by omega))
    · refine WP.blk 3 ?_
      show WP 7 84 (if cnd .lt most 1 = true then 19 else 14) [vR x, vI a, vI most] [] (M, S) Q
      refine br_lt (fun c_3 => ?_) (fun c_3 => ?_)
      · exact WP.thr rfl rfl rfl rfl rfl (by decide) (k1 (by omega))
      · refine WP.blk 3 ?_
        show WP 7 84 (if cnd .le most 5 = true then 29 else 19) [vR x, vI a, vI most] [] (M, S) Q
        refine br_le (fun c_4 => ?_) (fun c_4 => ?_)
        · refine WP.blk 2 ?_
          show (sT S x = 9 ∧ sR S x 9 ≠ 0) ∧ WP 7 84 33 [vR x, vI a, vI most] [vR (sR S x 9)] (M, S) Q
          refine ⟨⟨hS.1.1, by rw [(show sR S x 9 = x + 152 from hS.1.2.2.2.2.2.2.2.2.2.1)]; omega⟩, ?_⟩
          rw [(show sR S x 9 = x + 152 from hS.1.2.2.2.2.2.2.2.2.2.1)]
          refine WP.blk 2 ?_
          show (sT S x = 9 ∧ sR S x 2 ≠ 0) ∧ WP 7 84 37 [vR x, vI a, vI most] [vR (sR S x 2), vR (x + 152)] (M, S) Q
          refine ⟨⟨hS.1.1, by rw [(show sR S x 2 = x + 2 from hS.1.2.2.1)]; omega⟩, ?_⟩
          rw [(show sR S x 2 = x + 2 from hS.1.2.2.1)]
          refine WP.blk 1 ?_
          show WP 7 84 38 [vR x, vI a, vI most] [vI most, vR (x + 2), vR (x + 152)] (M, S) Q
          refine WP.cl (a := [vR (x + 152), vR (x + 2), vI most]) (rest := []) rfl rfl rfl rfl ⟨hS.2.2.2.2.2.2.2.2.1.1.1, trivial⟩ (by decide) (k_cutSearch hS has hx3 hR hcs (by omega) hB (fun My_5 fry_5 oy_5 hoy_5 hvy_5 hcy_5 => ⟨rfl, ?_⟩))
          show WP 7 84 41 [vR x, vI a, vI most] [] (My_5, S) Q
          have F_7 : AskR My_5 x f := AskR_fr (fun r9 h7 h8 h9 => fry_5 r9 (by omega)) has
          have fr_8 : (∀ q9, (q9 < x + 152 ∨ x + 171 ≤ q9) → My_5 q9 = M q9) := fun q9 q0 => (fry_5 q9 (by omega)).trans ((fun _ _ => rfl) q9 q0)
          refine WP.blk 2 ?_
          show WP 7 84 (if a < 0 ∨ 2 < a then 92 else ((#[68, 76, 84] : Array Int).getD (a - 0).toNat 0).toNat) [vR x, vI a, vI most] [] (My_5, S) Q
          rcases (show a = 0 ∨ a = 1 ∨ a = 2 ∨ (a < 0 ∨ 2 < a) by omega) with c_9 | c_9 | c_9 | c_9
          · refine sw_in (t := 68) 0 c_9 rfl ?_
            refine WP.blk 2 ?_
            show (sT S x = 9 ∧ sR S x 9 ≠ 0) ∧ WP 7 84 72 [vR x, vI a, vI most] [vR (sR S x 9)] (My_5, S) Q
            refine ⟨⟨hS.1.1, by rw [(show sR S x 9 = x + 152 from hS.1.2.2.2.2.2.2.2.2.2.1)]; omega⟩, ?_⟩
            rw [(show sR S x 9 = x + 152 from hS.1.2.2.2.2.2.2.2.2.2.1)]
            refine WP.blk 1 ?_
            show sT S (x + 152) = 1 ∧ WP 7 84 75 [vR x, vI a, vI most] [vI (My_5 (x + 152) 3)] (My_5, S) Q
            rw [hoy_5]
            refine ⟨hS.2.2.2.2.2.2.2.2.1.1.1, ?_⟩
            exact WP.ret rfl rfl rfl trivial (k _ _ fr_8 (by omega) (cutV_p (by omega) hvy_5 (by rw [if_pos (by omega)])) hcy_5)
          · refine sw_in (t := 76) 1 c_9 rfl ?_
            refine WP.blk 2 ?_
            show (sT S x = 9 ∧ sR S x 9 ≠ 0) ∧ WP 7 84 80 [vR x, vI a, vI most] [vR (sR S x 9)] (My_5, S) Q
            refine ⟨⟨hS.1.1, by rw [(show sR S x 9 = x + 152 from hS.1.2.2.2.2.2.2.2.2.2.1)]; omega⟩, ?_⟩
            rw [(show sR S x 9 = x + 152 from hS.1.2.2.2.2.2.2.2.2.2.1)]
            refine WP.blk 1 ?_
            show sT S (x + 152) = 1 ∧ WP 7 84 83 [vR x, vI a, vI most] [vI (My_5 (x + 152) 4)] (My_5, S) Q
            rw [hoy_5]
            refine ⟨hS.2.2.2.2.2.2.2.2.1.1.1, ?_⟩
            exact WP.ret rfl rfl rfl trivial (k _ _ fr_8 (by omega) (cutV_p (by omega) hvy_5 (by rw [if_neg (by omega), if_pos (by omega)])) hcy_5)
          · refine sw_in (t := 84) 2 c_9 rfl ?_
            refine WP.blk 2 ?_
            show (sT S x = 9 ∧ sR S x 9 ≠ 0) ∧ WP 7 84 88 [vR x, vI a, vI most] [vR (sR S x 9)] (My_5, S) Q
            refine ⟨⟨hS.1.1, by rw [(show sR S x 9 = x + 152 from hS.1.2.2.2.2.2.2.2.2.2.1)]; omega⟩, ?_⟩
            rw [(show sR S x 9 = x + 152 from hS.1.2.2.2.2.2.2.2.2.2.1)]
            refine WP.blk 1 ?_
            show sT S (x + 152) = 1 ∧ WP 7 84 91 [vR x, vI a, vI most] [vI (My_5 (x + 152) 5)] (My_5, S) Q
            rw [hoy_5]
            refine ⟨hS.2.2.2.2.2.2.2.2.1.1.1, ?_⟩
            exact WP.ret rfl rfl rfl trivial (k _ _ fr_8 (by omega) (cutV_p (by omega) hvy_5 (by rw [if_neg (by omega), if_neg (by omega), if_pos (by omega)])) hcy_5)
          · refine sw_out c_9 ?_
            refine WP.blk 2 ?_
            show (sT S x = 9 ∧ sR S x 9 ≠ 0) ∧ WP 7 84 96 [vR x, vI a, vI most] [vR (sR S x 9)] (My_5, S) Q
            refine ⟨⟨hS.1.1, by rw [(show sR S x 9 = x + 152 from hS.1.2.2.2.2.2.2.2.2.2.1)]; omega⟩, ?_⟩
            rw [(show sR S x 9 = x + 152 from hS.1.2.2.2.2.2.2.2.2.2.1)]
            refine WP.blk 1 ?_
            show sT S (x + 152) = 1 ∧ WP 7 84 99 [vR x, vI a, vI most] [vI (My_5 (x + 152) 6)] (My_5, S) Q
            rw [hoy_5]
            refine ⟨hS.2.2.2.2.2.2.2.2.1.1.1, ?_⟩
            exact WP.ret rfl rfl rfl trivial (k _ _ fr_8 (by omega) (cutV_p (by omega) hvy_5 (by rw [if_neg (by omega), if_neg (by omega), if_neg (by omega)])) hcy_5)
        · exact WP.thr rfl rfl rfl rfl rfl (by decide) (k1 (by omega))
