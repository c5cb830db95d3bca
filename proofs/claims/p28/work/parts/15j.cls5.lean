set_option maxHeartbeats 4000000 in
theorem t_hasPlan {S : SD} {M : Nat → Int → Int} {x : Nat} {f : Int → Int} {B : Int} {w y u : Int} (hS : isRub S x) (has : AskR M x f) (hx3 : 3 ≤ x) (hR : RowOk B f) (hw : 0 ≤ w ∧ w < f 1) (hu : Ux y u) {Q : Res → Wd → Prop} (k : ∀ (b : Int) (M2 : Nat → Int → Int), (∀ q9, (q9 < x + 78 ∨ x + 82 ≤ q9) → M2 q9 = M q9) → (b = 1 ∧ HasX f w y) ∨ (b = 0 ∧ ¬ HasX f w y) → Q (0, vI b) (M2, S)) : EvQ 4 97 [vR x, vI w, vI u] (M, S) Q := by
  refine EvQ.enter (ls := [vR x, vI w, vI u]) (Nat.le_of_ble_eq_true rfl) rfl ?_
  have hA := hR.1
  have hA1 := hA.1
  have hWA := hR.2.1
  have hW1 := hWA.1
  have hI := hR.2.2
  have hI2 := hI.2.1
  have hI3 := hI.2.2.1
  obtain ⟨xf, hxf⟩ := fresh_ex hA1
  refine WP.blk 2 ?_
  show (sT S x = 9 ∧ sR S x 6 ≠ 0) ∧ WP 3 97 4 [vR x, vI w, vI u] [vR (sR S x 6)] (M, S) Q
  refine ⟨⟨hS.1.1, by rw [(show sR S x 6 = x + 78 from hS.1.2.2.2.2.2.2.1)]; omega⟩, ?_⟩
  rw [(show sR S x 6 = x + 78 from hS.1.2.2.2.2.2.2.1)]
  refine WP.blk 2 ?_
  show (sT S x = 9 ∧ sR S x 5 ≠ 0) ∧ WP 3 97 8 [vR x, vI w, vI u] [vR (sR S x 5), vR (x + 78)] (M, S) Q
  refine ⟨⟨hS.1.1, by rw [(show sR S x 5 = x + 76 from hS.1.2.2.2.2.2.1)]; omega⟩, ?_⟩
  rw [(show sR S x 5 = x + 76 from hS.1.2.2.2.2.2.1)]
  refine WP.blk 3 ?_
  show (sT S x = 9 ∧ sR S x 2 ≠ 0) ∧ WP 3 97 13 [vR x, vI w, vI u] [vR (sR S x 2), vI w, vR (x + 76), vR (x + 78)] (M, S) Q
  refine ⟨⟨hS.1.1, by rw [(show sR S x 2 = x + 2 from hS.1.2.2.1)]; omega⟩, ?_⟩
  rw [(show sR S x 2 = x + 2 from hS.1.2.2.1)]
  refine WP.blk 1 ?_
  show (sT S (x + 2) = 8 ∧ sR S (x + 2) 1 ≠ 0) ∧ WP 3 97 16 [vR x, vI w, vI u] [vR (sR S (x + 2) 1), vI w, vR (x + 76), vR (x + 78)] (M, S) Q
  refine ⟨⟨hS.2.1.1, by rw [(show sR S (x + 2) 1 = x + 6 from hS.2.1.2.2.1)]; omega⟩, ?_⟩
  rw [(show sR S (x + 2) 1 = x + 6 from hS.2.1.2.2.1)]
  refine WP.blk 1 ?_
  show WP 3 97 17 [vR x, vI w, vI u] [vI w, vR (x + 6), vI w, vR (x + 76), vR (x + 78)] (M, S) Q
  refine WP.cl (a := [vR (x + 6), vI w]) (rest := [vI w, vR (x + 76), vR (x + 78)]) rfl rfl rfl rfl ⟨hS.2.1.2.2.2.2.2.2.1.1, trivial⟩ (by decide) (k_len hS.2.1.2.2.2.2.2.2.1 has.1.1.2.1 (by omega) (by omega) ⟨rfl, ?_⟩)
  show WP 3 97 20 [vR x, vI w, vI u] [vI (f (97 + 14 * w)), vI w, vR (x + 76), vR (x + 78)] (M, S) Q
  refine WP.blk 1 ?_
  show WP 3 97 21 [vR x, vI w, vI u] [vI u, vI (f (97 + 14 * w)), vI w, vR (x + 76), vR (x + 78)] (M, S) Q
  refine WP.cl (a := [vR (x + 78), vR (x + 76), vI w, vI (f (97 + 14 * w)), vI u]) (rest := []) rfl rfl rfl rfl ⟨hS.2.2.2.2.2.1.1, trivial⟩ (by decide) (k_measure hS.2.2.2.2.2.1 hS.2.2.2.2.1 (by omega) has.2.1 hA (hWA.2 w (by omega) (by omega)).1 (by omega) hu rfl (fun vy_1 My_1 fry_1 hvy_1 => ⟨rfl, ?_⟩))
  show WP 3 97 24 [vR x, vI w, vI u] [vI vy_1] (My_1, S) Q
  have F_2 : AskR My_1 x f := AskR_fr (fun r9 h7 h8 h9 => fry_1 r9 (by omega)) has
  have fr_3 : (∀ q9, (q9 < x + 78 ∨ x + 82 ≤ q9) → My_1 q9 = M q9) := fun q9 q0 => (fry_1 q9 (by omega)).trans ((fun _ _ => rfl) q9 q0)
  refine WP.blk 2 ?_
  show WP 3 97 (if cnd .eq vy_1 (-1) = true then 32 else 28) [vR x, vI w, vI u] [] (My_1, S) Q
  refine br_eq (fun c_4 => ?_) (fun c_4 => ?_)
  · refine WP.blk 1 ?_
    show WP 3 97 33 [vR x, vI w, vI u] [vI 0] (My_1, S) Q
    exact WP.ret rfl rfl rfl ⟨by omega, trivial⟩ (k _ _ fr_3 (Or.inr ⟨rfl, ((msV_has hA (hWA.2 w (by omega) (by omega)).1 hvy_1).resolve_right (fun h => by omega)).2⟩))
  · refine WP.blk 2 ?_
    show WP 3 97 33 [vR x, vI w, vI u] [vI 1] (My_1, S) Q
    exact WP.ret rfl rfl rfl ⟨by omega, trivial⟩ (k _ _ fr_3 (Or.inl ⟨rfl, ((msV_has hA (hWA.2 w (by omega) (by omega)).1 hvy_1).resolve_left (fun h => by omega)).2⟩))
set_option maxHeartbeats 4000000 in
theorem t_bestPlan {S : SD} {M : Nat → Int → Int} {x : Nat} {f : Int → Int} {B : Int} {w xf : Int} (hS : isRub S x) (has : AskR M x f) (hx3 : 3 ≤ x) (hR : RowOk B f) (hw : 0 ≤ w ∧ w < f 1) (hxf : Fresh f xf) {Q : Res → Wd → Prop} (k : ∀ (M2 : Nat → Int → Int), (∀ q9, (q9 < x + 78 ∨ x + 82 ≤ q9) → M2 q9 = M q9) → PlnR M2 (x + 78) f w xf → Q (0, vR (x + 78)) (M2, S)) : EvQ 5 96 [vR x, vI w] (M, S) Q := by
  refine EvQ.enter (ls := [vR x, vI w]) (Nat.le_of_ble_eq_true rfl) rfl ?_
  have hA := hR.1
  have hA1 := hA.1
  have hWA := hR.2.1
  have hW1 := hWA.1
  have hI := hR.2.2
  have hI2 := hI.2.1
  have hI3 := hI.2.2.1
  refine WP.blk 2 ?_
  show (sT S x = 9 ∧ sR S x 6 ≠ 0) ∧ WP 4 96 4 [vR x, vI w] [vR (sR S x 6)] (M, S) Q
  refine ⟨⟨hS.1.1, by rw [(show sR S x 6 = x + 78 from hS.1.2.2.2.2.2.2.1)]; omega⟩, ?_⟩
  rw [(show sR S x 6 = x + 78 from hS.1.2.2.2.2.2.2.1)]
  refine WP.blk 2 ?_
  show (sT S x = 9 ∧ sR S x 2 ≠ 0) ∧ WP 4 96 8 [vR x, vI w] [vR (sR S x 2), vR (x + 78)] (M, S) Q
  refine ⟨⟨hS.1.1, by rw [(show sR S x 2 = x + 2 from hS.1.2.2.1)]; omega⟩, ?_⟩
  rw [(show sR S x 2 = x + 2 from hS.1.2.2.1)]
  refine WP.blk 2 ?_
  show (sT S x = 9 ∧ sR S x 5 ≠ 0) ∧ WP 4 96 12 [vR x, vI w] [vR (sR S x 5), vR (x + 2), vR (x + 78)] (M, S) Q
  refine ⟨⟨hS.1.1, by rw [(show sR S x 5 = x + 76 from hS.1.2.2.2.2.2.1)]; omega⟩, ?_⟩
  rw [(show sR S x 5 = x + 76 from hS.1.2.2.2.2.2.1)]
  refine WP.blk 3 ?_
  show (sT S x = 9 ∧ sR S x 2 ≠ 0) ∧ WP 4 96 17 [vR x, vI w] [vR (sR S x 2), vI w, vR (x + 76), vR (x + 2), vR (x + 78)] (M, S) Q
  refine ⟨⟨hS.1.1, by rw [(show sR S x 2 = x + 2 from hS.1.2.2.1)]; omega⟩, ?_⟩
  rw [(show sR S x 2 = x + 2 from hS.1.2.2.1)]
  refine WP.blk 2 ?_
  show (sT S x = 9 ∧ sR S x 2 ≠ 0) ∧ WP 4 96 21 [vR x, vI w] [vR (sR S x 2), vR (x + 2), vI w, vR (x + 76), vR (x + 2), vR (x + 78)] (M, S) Q
  refine ⟨⟨hS.1.1, by rw [(show sR S x 2 = x + 2 from hS.1.2.2.1)]; omega⟩, ?_⟩
  rw [(show sR S x 2 = x + 2 from hS.1.2.2.1)]
  refine WP.blk 1 ?_
  show (sT S (x + 2) = 8 ∧ sR S (x + 2) 3 ≠ 0) ∧ WP 4 96 24 [vR x, vI w] [vR (sR S (x + 2) 3), vR (x + 2), vI w, vR (x + 76), vR (x + 2), vR (x + 78)] (M, S) Q
  refine ⟨⟨hS.2.1.1, by rw [(show sR S (x + 2) 3 = x + 10 from hS.2.1.2.2.2.2.1)]; omega⟩, ?_⟩
  rw [(show sR S (x + 2) 3 = x + 10 from hS.2.1.2.2.2.2.1)]
  refine WP.cl (a := [vR (x + 2), vR (x + 10)]) (rest := [vI w, vR (x + 76), vR (x + 2), vR (x + 78)]) rfl rfl rfl rfl ⟨hS.2.1.1, trivial⟩ (by decide) (k_pressesLeft hS.2.1 hS.2.1.2.2.2.2.2.2.2.2.2 has.1.1.1 has.1.1.2.2.2 has.1.2 hA1 (fun u_1 hpu_1 => ⟨rfl, ?_⟩))
  show WP 4 96 27 [vR x, vI w] [vI u_1, vI w, vR (x + 76), vR (x + 2), vR (x + 78)] (M, S) Q
  have huu_1 := PL_ux hxf hpu_1
  refine WP.cl (a := [vR (x + 78), vR (x + 2), vR (x + 76), vI w, vI u_1]) (rest := []) rfl rfl rfl rfl ⟨hS.2.2.2.2.2.1.1, trivial⟩ (by decide) (k_find hS.2.2.2.2.2.1 hS.2.1 hS.2.2.2.2.1 (by omega) (by omega) has.1.1.1 has.1.1.2.1 has.2.1 hA (hWA.2 w (by omega) (by omega)).1 (by omega) (by omega) huu_1 (fun My_2 fry_2 hky_2 => ⟨rfl, ?_⟩))
  show WP 4 96 30 [vR x, vI w] [] (My_2, S) Q
  have F_3 : AskR My_2 x f := AskR_fr (fun r9 h7 h8 h9 => fry_2 r9 (by omega)) has
  have fr_4 : (∀ q9, (q9 < x + 78 ∨ x + 82 ≤ q9) → My_2 q9 = M q9) := fun q9 q0 => (fry_2 q9 (by omega)).trans ((fun _ _ => rfl) q9 q0)
  refine WP.blk 2 ?_
  show (sT S x = 9 ∧ sR S x 6 ≠ 0) ∧ WP 4 96 34 [vR x, vI w] [vR (sR S x 6)] (My_2, S) Q
  refine ⟨⟨hS.1.1, by rw [(show sR S x 6 = x + 78 from hS.1.2.2.2.2.2.2.1)]; omega⟩, ?_⟩
  rw [(show sR S x 6 = x + 78 from hS.1.2.2.2.2.2.2.1)]
  exact WP.ret rfl rfl rfl trivial (k _ fr_4 hky_2)
set_option maxHeartbeats 4000000 in
theorem t_allHave {S : SD} {M : Nat → Int → Int} {x : Nat} {f : Int → Int} {B : Int} {y u : Int} (hS : isRub S x) (has : AskR M x f) (hx3 : 3 ≤ x) (hR : RowOk B f) (hu : Ux y u) {Q : Res → Wd → Prop} (k : ∀ (b : Int) (M2 : Nat → Int → Int), (∀ q9, (q9 < x + 78 ∨ x + 82 ≤ q9) → M2 q9 = M q9) → (b = 1 ∧ AllW f y) ∨ (b = 0 ∧ ¬ AllW f y) → Q (0, vI b) (M2, S)) : EvQ 5 99 [vR x, vI u] (M, S) Q := by
  refine EvQ.enter (ls := [vR x, vI u, none]) (Nat.le_of_ble_eq_true rfl) rfl ?_
  have hA := hR.1
  have hA1 := hA.1
  have hWA := hR.2.1
  have hW1 := hWA.1
  have hI := hR.2.2
  have hI2 := hI.2.1
  have hI3 := hI.2.2.1
  obtain ⟨xf, hxf⟩ := fresh_ex hA1
  refine WP.blk 2 ?_
  show WP 4 99 2 [vR x, vI u, vI 0] [] (M, S) Q
  have hl_2 : ∀ (n_2 : Nat) (i : Int) (Ma : Nat → Int → Int), 0 ≤ i ∧ i ≤ f 1 → (∀ w, 0 ≤ w → w < i → HasX f w y) → AskR Ma x f → (∀ q9, (q9 < x + 78 ∨ x + 82 ≤ q9) → Ma q9 = M q9) → (f 1 - i).toNat < n_2 → WP 4 99 2 [vR x, vI u, vI i] [] (Ma, S) Q := by
    intro n_2
    induction n_2 with
    | zero => intro i Ma h1 h2 F_2_as fr_2 hm_2; exact absurd hm_2 (Nat.not_lt_zero _)
    | succ n_2 ih_2 =>
      intro i Ma h1 h2 F_2_as fr_2 hm_2
      refine WP.blk 3 ?_
      show (sT S x = 9 ∧ sR S x 2 ≠ 0) ∧ WP 4 99 7 [vR x, vI u, vI i] [vR (sR S x 2), vI i] (Ma, S) Q
      refine ⟨⟨hS.1.1, by rw [(show sR S x 2 = x + 2 from hS.1.2.2.1)]; omega⟩, ?_⟩
      rw [(show sR S x 2 = x + 2 from hS.1.2.2.1)]
      refine WP.blk 1 ?_
      show (sT S (x + 2) = 8 ∧ sR S (x + 2) 1 ≠ 0) ∧ WP 4 99 10 [vR x, vI u, vI i] [vR (sR S (x + 2) 1), vI i] (Ma, S) Q
      refine ⟨⟨hS.2.1.1, by rw [(show sR S (x + 2) 1 = x + 6 from hS.2.1.2.2.1)]; omega⟩, ?_⟩
      rw [(show sR S (x + 2) 1 = x + 6 from hS.2.1.2.2.1)]
      refine WP.blk 2 ?_
      show sT S (x + 6) = 7 ∧ WP 4 99 (if cnd .ge i (Ma (x + 6) 4) = true then 33 else 16) [vR x, vI u, vI i] [] (Ma, S) Q
      rw [F_2_as.1.1.2.1.1.2.2]
      refine ⟨hS.2.1.2.2.2.2.2.2.1.1, ?_⟩
      refine br_ge (fun c_1 => ?_) (fun c_1 => ?_)
      · refine WP.blk 1 ?_
        show WP 4 99 34 [vR x, vI u, vI i] [vI 1] (Ma, S) Q
        exact WP.ret rfl rfl rfl ⟨by omega, trivial⟩ (k _ _ fr_2 (Or.inl ⟨rfl, fun w a b => h2 w a (by omega)⟩))
      · refine WP.blk 3 ?_
        show WP 4 99 19 [vR x, vI u, vI i] [vI u, vI i, vR x] (Ma, S) Q
        refine WP.cl (a := [vR x, vI i, vI u]) (rest := []) rfl rfl rfl rfl ⟨hS.1.1, trivial⟩ (by decide) (t_hasPlan hS F_2_as hx3 hR (by omega) hu (fun b_2 M2 fr2 hb_2 => ⟨rfl, ?_⟩))
        show WP 4 99 22 [vR x, vI u, vI i] [vI b_2] (M2, S) Q
        have F_3 : AskR M2 x f := AskR_fr (fun r9 h7 h8 h9 => fr2 r9 (by omega)) F_2_as
        have fr_4 : (∀ q9, (q9 < x + 78 ∨ x + 82 ≤ q9) → M2 q9 = M q9) := fun q9 q0 => (fr2 q9 (by omega)).trans (fr_2 q9 q0)
        refine WP.blk 1 ?_
        show WP 4 99 (if cnd .ne b_2 0 = true then 27 else 25) [vR x, vI u, vI i] [] (M2, S) Q
        refine br_ne (fun c_5 => ?_) (fun c_5 => ?_)
        · have p_2 := (hb_2.resolve_right (fun h => by omega)).2
          refine WP.blk 2 ?_
          show ir (i + 1) ∧ WP 4 99 2 [vR x, vI u, vI (i + 1)] [] (M2, S) Q
          refine ⟨(by unfold ir; omega), ?_⟩
          exact ih_2 (i + 1) M2 (by omega) (fun w a b => by by_cases e : w = i; (rw [e]; exact p_2); exact h2 w a (by omega)) F_3 fr_4 (by omega)
        · have p_2 := (hb_2.resolve_left (fun h => by omega)).2
          refine WP.blk 1 ?_
          show WP 4 99 26 [vR x, vI u, vI i] [vI 0] (M2, S) Q
          exact WP.ret rfl rfl rfl ⟨by omega, trivial⟩ (k _ _ fr_4 (Or.inr ⟨rfl, fun h => p_2 (h i h1.1 (by omega))⟩))
  exact hl_2 _ 0 M (by omega) (fun w a b => by omega) has (fun _ _ => rfl) (Nat.lt_succ_self _)
set_option maxHeartbeats 4000000 in
theorem t_wornOut {S : SD} {M : Nat → Int → Int} {x : Nat} {f : Int → Int} {B : Int} (hS : isRub S x) (has : AskR M x f) (hx3 : 3 ≤ x) (hR : RowOk B f) {Q : Res → Wd → Prop} (k : Q (0, vI (num (Worn f) (f 0))) (M, S)) : EvQ 4 91 [vR x] (M, S) Q := by
  refine EvQ.enter (ls := [vR x, none, none]) (Nat.le_of_ble_eq_true rfl) rfl ?_
  have hA := hR.1
  have hA1 := hA.1
  have hWA := hR.2.1
  have hW1 := hWA.1
  have hI := hR.2.2
  have hI2 := hI.2.1
  have hI3 := hI.2.2.1
  obtain ⟨xf, hxf⟩ := fresh_ex hA1
  refine WP.blk 4 ?_
  show WP 3 91 4 [vR x, vI 0, vI 0] [] (M, S) Q
  have hl_4 : ∀ (n_4 : Nat) (i : Int) (v : Int), 0 ≤ i ∧ i ≤ f 0 → v = num (Worn f) i → (f 0 - i).toNat < n_4 → WP 3 91 4 [vR x, vI v, vI i] [] (M, S) Q := by
    intro n_4
    induction n_4 with
    | zero => intro i v h1 h2 hm_4; exact absurd hm_4 (Nat.not_lt_zero _)
    | succ n_4 ih_4 =>
      intro i v h1 h2 hm_4
      have h9 := num_r (P := Worn f) h1.1
      refine WP.blk 3 ?_
      show (sT S x = 9 ∧ sR S x 2 ≠ 0) ∧ WP 3 91 9 [vR x, vI v, vI i] [vR (sR S x 2), vI i] (M, S) Q
      refine ⟨⟨hS.1.1, by rw [(show sR S x 2 = x + 2 from hS.1.2.2.1)]; omega⟩, ?_⟩
      rw [(show sR S x 2 = x + 2 from hS.1.2.2.1)]
      refine WP.blk 1 ?_
      show (sT S (x + 2) = 8 ∧ sR S (x + 2) 0 ≠ 0) ∧ WP 3 91 12 [vR x, vI v, vI i] [vR (sR S (x + 2) 0), vI i] (M, S) Q
      refine ⟨⟨hS.2.1.1, by rw [(show sR S (x + 2) 0 = x + 3 from hS.2.1.2.1)]; omega⟩, ?_⟩
      rw [(show sR S (x + 2) 0 = x + 3 from hS.2.1.2.1)]
      refine WP.blk 2 ?_
      show sT S (x + 3) = 7 ∧ WP 3 91 (if cnd .ge i (M (x + 3) 4) = true then 45 else 18) [vR x, vI v, vI i] [] (M, S) Q
      rw [has.1.1.1.1.2.2]
      refine ⟨hS.2.1.2.2.2.2.2.1.1, ?_⟩
      refine br_ge (fun c_1 => ?_) (fun c_1 => ?_)
      · refine WP.blk 1 ?_
        show WP 3 91 46 [vR x, vI v, vI i] [vI v] (M, S) Q
        exact WP.ret rfl rfl rfl trivial (by rw [show i = f 0 by omega] at h2; rw [h2]; exact k)
      · refine WP.blk 2 ?_
        show (sT S x = 9 ∧ sR S x 2 ≠ 0) ∧ WP 3 91 22 [vR x, vI v, vI i] [vR (sR S x 2)] (M, S) Q
        refine ⟨⟨hS.1.1, by rw [(show sR S x 2 = x + 2 from hS.1.2.2.1)]; omega⟩, ?_⟩
        rw [(show sR S x 2 = x + 2 from hS.1.2.2.1)]
        refine WP.blk 2 ?_
        show (sT S x = 9 ∧ sR S x 2 ≠ 0) ∧ WP 3 91 26 [vR x, vI v, vI i] [vR (sR S x 2), vR (x + 2)] (M, S) Q
        refine ⟨⟨hS.1.1, by rw [(show sR S x 2 = x + 2 from hS.1.2.2.1)]; omega⟩, ?_⟩
        rw [(show sR S x 2 = x + 2 from hS.1.2.2.1)]
        refine WP.blk 1 ?_
        show (sT S (x + 2) = 8 ∧ sR S (x + 2) 3 ≠ 0) ∧ WP 3 91 29 [vR x, vI v, vI i] [vR (sR S (x + 2) 3), vR (x + 2)] (M, S) Q
        refine ⟨⟨hS.2.1.1, by rw [(show sR S (x + 2) 3 = x + 10 from hS.2.1.2.2.2.2.1)]; omega⟩, ?_⟩
        rw [(show sR S (x + 2) 3 = x + 10 from hS.2.1.2.2.2.2.1)]
        refine WP.blk 1 ?_
        show WP 3 91 30 [vR x, vI v, vI i] [vI i, vR (x + 10), vR (x + 2)] (M, S) Q
        refine WP.cl (a := [vR (x + 2), vR (x + 10), vI i]) (rest := []) rfl rfl rfl rfl ⟨hS.2.1.1, trivial⟩ (by decide) (k_isWornOut hS.2.1 hS.2.1.2.2.2.2.2.2.2.2.2 has.1.1.2.2.2 has.1.2 (by omega) (by omega) (fun b_2 hb_2 => ⟨rfl, ?_⟩))
        show WP 3 91 33 [vR x, vI v, vI i] [vI b_2] (M, S) Q
        refine WP.blk 1 ?_
        show WP 3 91 (if cnd .eq b_2 0 = true then 39 else 36) [vR x, vI v, vI i] [] (M, S) Q
        refine br_eq (fun c_3 => ?_) (fun c_3 => ?_)
        · have p_2 := (hb_2.resolve_left (fun h => by omega)).2
          refine WP.blk 2 ?_
          show ir (i + 1) ∧ WP 3 91 4 [vR x, vI v, vI (i + 1)] [] (M, S) Q
          refine ⟨(by unfold ir; omega), ?_⟩
          exact ih_4 (i + 1) v (by omega) (by rw [num_f h1.1 (by unfold Worn; omega)]; omega)  (by omega)
        · have p_2 := (hb_2.resolve_right (fun h => by omega)).2
          refine WP.blk 3 ?_
          show ir (v + 1) ∧ ir (i + 1) ∧ WP 3 91 4 [vR x, vI (v + 1), vI (i + 1)] [] (M, S) Q
          refine ⟨(by unfold ir; omega), (by unfold ir; omega), ?_⟩
          exact ih_4 (i + 1) (v + 1) (by omega) (by rw [num_t h1.1 (by unfold Worn; omega)]; omega)  (by omega)
  exact hl_4 _ 0 0 (by omega) num_0.symm  (Nat.lt_succ_self _)
set_option maxHeartbeats 4000000 in
theorem t_withPlan {S : SD} {M : Nat → Int → Int} {x : Nat} {f : Int → Int} {B : Int} (hS : isRub S x) (has : AskR M x f) (hx3 : 3 ≤ x) (hR : RowOk B f) {Q : Res → Wd → Prop} (k : ∀ (M2 : Nat → Int → Int), (∀ q9, (q9 < x + 78 ∨ x + 82 ≤ q9) → M2 q9 = M q9) → Q (0, vI (num (HasP f) (f 1))) (M2, S)) : EvQ 5 92 [vR x] (M, S) Q := by
  refine EvQ.enter (ls := [vR x, none, none, none]) (Nat.le_of_ble_eq_true rfl) rfl ?_
  have hA := hR.1
  have hA1 := hA.1
  have hWA := hR.2.1
  have hW1 := hWA.1
  have hI := hR.2.2
  have hI2 := hI.2.1
  have hI3 := hI.2.2.1
  obtain ⟨xf, hxf⟩ := fresh_ex hA1
  refine WP.blk 2 ?_
  show (sT S x = 9 ∧ sR S x 2 ≠ 0) ∧ WP 4 92 4 [vR x, none, none, none] [vR (sR S x 2)] (M, S) Q
  refine ⟨⟨hS.1.1, by rw [(show sR S x 2 = x + 2 from hS.1.2.2.1)]; omega⟩, ?_⟩
  rw [(show sR S x 2 = x + 2 from hS.1.2.2.1)]
  refine WP.blk 2 ?_
  show (sT S x = 9 ∧ sR S x 2 ≠ 0) ∧ WP 4 92 8 [vR x, none, none, none] [vR (sR S x 2), vR (x + 2)] (M, S) Q
  refine ⟨⟨hS.1.1, by rw [(show sR S x 2 = x + 2 from hS.1.2.2.1)]; omega⟩, ?_⟩
  rw [(show sR S x 2 = x + 2 from hS.1.2.2.1)]
  refine WP.blk 1 ?_
  show (sT S (x + 2) = 8 ∧ sR S (x + 2) 3 ≠ 0) ∧ WP 4 92 11 [vR x, none, none, none] [vR (sR S (x + 2) 3), vR (x + 2)] (M, S) Q
  refine ⟨⟨hS.2.1.1, by rw [(show sR S (x + 2) 3 = x + 10 from hS.2.1.2.2.2.2.1)]; omega⟩, ?_⟩
  rw [(show sR S (x + 2) 3 = x + 10 from hS.2.1.2.2.2.2.1)]
  refine WP.cl (a := [vR (x + 2), vR (x + 10)]) (rest := []) rfl rfl rfl rfl ⟨hS.2.1.1, trivial⟩ (by decide) (k_pressesLeft hS.2.1 hS.2.1.2.2.2.2.2.2.2.2.2 has.1.1.1 has.1.1.2.2.2 has.1.2 hA1 (fun u_1 hpu_1 => ⟨rfl, ?_⟩))
  show WP 4 92 14 [vR x, none, none, none] [vI u_1] (M, S) Q
  have huu_1 := PL_ux hxf hpu_1
  refine WP.blk 5 ?_
  show WP 4 92 19 [vR x, vI u_1, vI 0, vI 0] [] (M, S) Q
  have hl_19 : ∀ (n_19 : Nat) (i : Int) (v : Int) (Ma : Nat → Int → Int), 0 ≤ i ∧ i ≤ f 1 → v = num (HasP f) i → AskR Ma x f → (∀ q9, (q9 < x + 78 ∨ x + 82 ≤ q9) → Ma q9 = M q9) → (f 1 - i).toNat < n_19 → WP 4 92 19 [vR x, vI u_1, vI v, vI i] [] (Ma, S) Q := by
    intro n_19
    induction n_19 with
    | zero => intro i v Ma h1 h2 F_19_as fr_19 hm_19; exact absurd hm_19 (Nat.not_lt_zero _)
    | succ n_19 ih_19 =>
      intro i v Ma h1 h2 F_19_as fr_19 hm_19
      have h9 := num_r (P := HasP f) h1.1
      refine WP.blk 3 ?_
      show (sT S x = 9 ∧ sR S x 2 ≠ 0) ∧ WP 4 92 24 [vR x, vI u_1, vI v, vI i] [vR (sR S x 2), vI i] (Ma, S) Q
      refine ⟨⟨hS.1.1, by rw [(show sR S x 2 = x + 2 from hS.1.2.2.1)]; omega⟩, ?_⟩
      rw [(show sR S x 2 = x + 2 from hS.1.2.2.1)]
      refine WP.blk 1 ?_
      show (sT S (x + 2) = 8 ∧ sR S (x + 2) 1 ≠ 0) ∧ WP 4 92 27 [vR x, vI u_1, vI v, vI i] [vR (sR S (x + 2) 1), vI i] (Ma, S) Q
      refine ⟨⟨hS.2.1.1, by rw [(show sR S (x + 2) 1 = x + 6 from hS.2.1.2.2.1)]; omega⟩, ?_⟩
      rw [(show sR S (x + 2) 1 = x + 6 from hS.2.1.2.2.1)]
      refine WP.blk 2 ?_
      show sT S (x + 6) = 7 ∧ WP 4 92 (if cnd .ge i (Ma (x + 6) 4) = true then 51 else 33) [vR x, vI u_1, vI v, vI i] [] (Ma, S) Q
      rw [F_19_as.1.1.2.1.1.2.2]
      refine ⟨hS.2.1.2.2.2.2.2.2.1.1, ?_⟩
      refine br_ge (fun c_2 => ?_) (fun c_2 => ?_)
      · refine WP.blk 1 ?_
        show WP 4 92 52 [vR x, vI u_1, vI v, vI i] [vI v] (Ma, S) Q
        exact WP.ret rfl rfl rfl trivial (by rw [show i = f 1 by omega] at h2; rw [h2]; exact k _ fr_19)
      · refine WP.blk 3 ?_
        show WP 4 92 36 [vR x, vI u_1, vI v, vI i] [vI u_1, vI i, vR x] (Ma, S) Q
        refine WP.cl (a := [vR x, vI i, vI u_1]) (rest := []) rfl rfl rfl rfl ⟨hS.1.1, trivial⟩ (by decide) (t_hasPlan hS F_19_as hx3 hR (by omega) huu_1 (fun b_3 M3 fr3 hb_3 => ⟨rfl, ?_⟩))
        show WP 4 92 39 [vR x, vI u_1, vI v, vI i] [vI b_3] (M3, S) Q
        have F_4 : AskR M3 x f := AskR_fr (fun r9 h7 h8 h9 => fr3 r9 (by omega)) F_19_as
        have fr_5 : (∀ q9, (q9 < x + 78 ∨ x + 82 ≤ q9) → M3 q9 = M q9) := fun q9 q0 => (fr3 q9 (by omega)).trans (fr_19 q9 q0)
        refine WP.blk 1 ?_
        show WP 4 92 (if cnd .eq b_3 0 = true then 45 else 42) [vR x, vI u_1, vI v, vI i] [] (M3, S) Q
        refine br_eq (fun c_6 => ?_) (fun c_6 => ?_)
        · have p_3 := (hb_3.resolve_left (fun h => by omega)).2
          refine WP.blk 2 ?_
          show ir (i + 1) ∧ WP 4 92 19 [vR x, vI u_1, vI v, vI (i + 1)] [] (M3, S) Q
          refine ⟨(by unfold ir; omega), ?_⟩
          exact ih_19 (i + 1) v M3 (by omega) (by rw [num_f (P := HasP f) h1.1 (by rw [hasP_i hxf]; exact p_3)]; omega) F_4 fr_5 (by omega)
        · have p_3 := (hb_3.resolve_right (fun h => by omega)).2
          refine WP.blk 3 ?_
          show ir (v + 1) ∧ ir (i + 1) ∧ WP 4 92 19 [vR x, vI u_1, vI (v + 1), vI (i + 1)] [] (M3, S) Q
          refine ⟨(by unfold ir; omega), (by unfold ir; omega), ?_⟩
          exact ih_19 (i + 1) (v + 1) M3 (by omega) (by rw [num_t (P := HasP f) h1.1 (by rw [hasP_i hxf]; exact p_3)]; omega) F_4 fr_5 (by omega)
  exact hl_19 _ 0 0 M (by omega) num_0.symm has (fun _ _ => rfl) (Nat.lt_succ_self _)
set_option maxHeartbeats 4000000 in
theorem t_numberOf {S : SD} {M : Nat → Int → Int} {x : Nat} {f : Int → Int} {B : Int} {a : Int} (hS : isRub S x) (has : AskR M x f) (hx3 : 3 ≤ x) (hR : RowOk B f) (ha : 0 ≤ a ∧ a ≤ 8) {Q : Res → Wd → Prop} (k : ∀ (v : Int) (M2 : Nat → Int → Int), (∀ q9, (q9 < x + 78 ∨ x + 82 ≤ q9) → M2 q9 = M q9) → TellV f a v → Q (0, vI v) (M2, S)) : EvQ 6 90 [vR x, vI a] (M, S) Q := by
  refine EvQ.enter (ls := [vR x, vI a]) (Nat.le_of_ble_eq_true rfl) rfl ?_
  refine WP.blk 2 ?_
  show WP 5 90 (if a < 0 ∨ 7 < a then 124 else ((#[48, 59, 70, 78, 86, 97, 108, 119] : Array Int).getD (a - 0).toNat 0).toNat) [vR x, vI a] [] (M, S) Q
  rcases (show a = 0 ∨ a = 1 ∨ a = 2 ∨ a = 3 ∨ a = 4 ∨ a = 5 ∨ a = 6 ∨ a = 7 ∨ (a < 0 ∨ 7 < a) by omega) with c_1 | c_1 | c_1 | c_1 | c_1 | c_1 | c_1 | c_1 | c_1
  · refine sw_in (t := 48) 0 c_1 rfl ?_
    refine WP.blk 2 ?_
    show (sT S x = 9 ∧ sR S x 2 ≠ 0) ∧ WP 5 90 52 [vR x, vI a] [vR (sR S x 2)] (M, S) Q
    refine ⟨⟨hS.1.1, by rw [(show sR S x 2 = x + 2 from hS.1.2.2.1)]; omega⟩, ?_⟩
    rw [(show sR S x 2 = x + 2 from hS.1.2.2.1)]
    refine WP.blk 1 ?_
    show (sT S (x + 2) = 8 ∧ sR S (x + 2) 0 ≠ 0) ∧ WP 5 90 55 [vR x, vI a] [vR (sR S (x + 2) 0)] (M, S) Q
    refine ⟨⟨hS.2.1.1, by rw [(show sR S (x + 2) 0 = x + 3 from hS.2.1.2.1)]; omega⟩, ?_⟩
    rw [(show sR S (x + 2) 0 = x + 3 from hS.2.1.2.1)]
    refine WP.blk 1 ?_
    show sT S (x + 3) = 7 ∧ WP 5 90 58 [vR x, vI a] [vI (M (x + 3) 4)] (M, S) Q
    rw [has.1.1.1.1.2.2]
    refine ⟨hS.2.1.2.2.2.2.2.1.1, ?_⟩
    exact WP.ret rfl rfl rfl trivial (k _ _ (fun _ _ => rfl) (by unfold TellV; first | exact Or.inl ⟨by omega, by congr 1; omega⟩ | exact Or.inr (Or.inl ⟨by omega, rfl⟩) | exact Or.inr (Or.inr ⟨by omega, rfl⟩)))
  · refine sw_in (t := 59) 1 c_1 rfl ?_
    refine WP.blk 2 ?_
    show (sT S x = 9 ∧ sR S x 2 ≠ 0) ∧ WP 5 90 63 [vR x, vI a] [vR (sR S x 2)] (M, S) Q
    refine ⟨⟨hS.1.1, by rw [(show sR S x 2 = x + 2 from hS.1.2.2.1)]; omega⟩, ?_⟩
    rw [(show sR S x 2 = x + 2 from hS.1.2.2.1)]
    refine WP.blk 1 ?_
    show (sT S (x + 2) = 8 ∧ sR S (x + 2) 1 ≠ 0) ∧ WP 5 90 66 [vR x, vI a] [vR (sR S (x + 2) 1)] (M, S) Q
    refine ⟨⟨hS.2.1.1, by rw [(show sR S (x + 2) 1 = x + 6 from hS.2.1.2.2.1)]; omega⟩, ?_⟩
    rw [(show sR S (x + 2) 1 = x + 6 from hS.2.1.2.2.1)]
    refine WP.blk 1 ?_
    show sT S (x + 6) = 7 ∧ WP 5 90 69 [vR x, vI a] [vI (M (x + 6) 4)] (M, S) Q
    rw [has.1.1.2.1.1.2.2]
    refine ⟨hS.2.1.2.2.2.2.2.2.1.1, ?_⟩
    exact WP.ret rfl rfl rfl trivial (k _ _ (fun _ _ => rfl) (by unfold TellV; first | exact Or.inl ⟨by omega, by congr 1; omega⟩ | exact Or.inr (Or.inl ⟨by omega, rfl⟩) | exact Or.inr (Or.inr ⟨by omega, rfl⟩)))
  · refine sw_in (t := 70) 2 c_1 rfl ?_
    refine WP.blk 2 ?_
    show (sT S x = 9 ∧ sR S x 2 ≠ 0) ∧ WP 5 90 74 [vR x, vI a] [vR (sR S x 2)] (M, S) Q
    refine ⟨⟨hS.1.1, by rw [(show sR S x 2 = x + 2 from hS.1.2.2.1)]; omega⟩, ?_⟩
    rw [(show sR S x 2 = x + 2 from hS.1.2.2.1)]
    refine WP.blk 1 ?_
    show sT S (x + 2) = 8 ∧ WP 5 90 77 [vR x, vI a] [vI (M (x + 2) 4)] (M, S) Q
    rw [has.1.1.2.2.2.1]
    refine ⟨hS.2.1.1, ?_⟩
    exact WP.ret rfl rfl rfl trivial (k _ _ (fun _ _ => rfl) (by unfold TellV; first | exact Or.inl ⟨by omega, by congr 1; omega⟩ | exact Or.inr (Or.inl ⟨by omega, rfl⟩) | exact Or.inr (Or.inr ⟨by omega, rfl⟩)))
  · refine sw_in (t := 78) 3 c_1 rfl ?_
    refine WP.blk 2 ?_
    show (sT S x = 9 ∧ sR S x 2 ≠ 0) ∧ WP 5 90 82 [vR x, vI a] [vR (sR S x 2)] (M, S) Q
    refine ⟨⟨hS.1.1, by rw [(show sR S x 2 = x + 2 from hS.1.2.2.1)]; omega⟩, ?_⟩
    rw [(show sR S x 2 = x + 2 from hS.1.2.2.1)]
    refine WP.blk 1 ?_
    show sT S (x + 2) = 8 ∧ WP 5 90 85 [vR x, vI a] [vI (M (x + 2) 5)] (M, S) Q
    rw [has.1.1.2.2.2.2]
    refine ⟨hS.2.1.1, ?_⟩
    exact WP.ret rfl rfl rfl trivial (k _ _ (fun _ _ => rfl) (by unfold TellV; first | exact Or.inl ⟨by omega, by congr 1; omega⟩ | exact Or.inr (Or.inl ⟨by omega, rfl⟩) | exact Or.inr (Or.inr ⟨by omega, rfl⟩)))
  · refine sw_in (t := 86) 4 c_1 rfl ?_
    refine WP.blk 2 ?_
    show (sT S x = 9 ∧ sR S x 2 ≠ 0) ∧ WP 5 90 90 [vR x, vI a] [vR (sR S x 2)] (M, S) Q
    refine ⟨⟨hS.1.1, by rw [(show sR S x 2 = x + 2 from hS.1.2.2.1)]; omega⟩, ?_⟩
    rw [(show sR S x 2 = x + 2 from hS.1.2.2.1)]
    refine WP.blk 1 ?_
    show (sT S (x + 2) = 8 ∧ sR S (x + 2) 3 ≠ 0) ∧ WP 5 90 93 [vR x, vI a] [vR (sR S (x + 2) 3)] (M, S) Q
    refine ⟨⟨hS.2.1.1, by rw [(show sR S (x + 2) 3 = x + 10 from hS.2.1.2.2.2.2.1)]; omega⟩, ?_⟩
    rw [(show sR S (x + 2) 3 = x + 10 from hS.2.1.2.2.2.2.1)]
    refine WP.blk 1 ?_
    show sT S (x + 10) = 4 ∧ WP 5 90 96 [vR x, vI a] [vI (M (x + 10) 3)] (M, S) Q
    rw [has.1.2.1.1]
    refine ⟨hS.2.1.2.2.2.2.2.2.2.2.2.1, ?_⟩
    exact WP.ret rfl rfl rfl trivial (k _ _ (fun _ _ => rfl) (by unfold TellV; first | exact Or.inl ⟨by omega, by congr 1; omega⟩ | exact Or.inr (Or.inl ⟨by omega, rfl⟩) | exact Or.inr (Or.inr ⟨by omega, rfl⟩)))
  · refine sw_in (t := 97) 5 c_1 rfl ?_
    refine WP.blk 2 ?_
    show (sT S x = 9 ∧ sR S x 2 ≠ 0) ∧ WP 5 90 101 [vR x, vI a] [vR (sR S x 2)] (M, S) Q
    refine ⟨⟨hS.1.1, by rw [(show sR S x 2 = x + 2 from hS.1.2.2.1)]; omega⟩, ?_⟩
    rw [(show sR S x 2 = x + 2 from hS.1.2.2.1)]
    refine WP.blk 1 ?_
    show (sT S (x + 2) = 8 ∧ sR S (x + 2) 3 ≠ 0) ∧ WP 5 90 104 [vR x, vI a] [vR (sR S (x + 2) 3)] (M, S) Q
    refine ⟨⟨hS.2.1.1, by rw [(show sR S (x + 2) 3 = x + 10 from hS.2.1.2.2.2.2.1)]; omega⟩, ?_⟩
    rw [(show sR S (x + 2) 3 = x + 10 from hS.2.1.2.2.2.2.1)]
    refine WP.blk 1 ?_
    show sT S (x + 10) = 4 ∧ WP 5 90 107 [vR x, vI a] [vI (M (x + 10) 4)] (M, S) Q
    rw [has.1.2.1.2.1]
    refine ⟨hS.2.1.2.2.2.2.2.2.2.2.2.1, ?_⟩
    exact WP.ret rfl rfl rfl trivial (k _ _ (fun _ _ => rfl) (by unfold TellV; first | exact Or.inl ⟨by omega, by congr 1; omega⟩ | exact Or.inr (Or.inl ⟨by omega, rfl⟩) | exact Or.inr (Or.inr ⟨by omega, rfl⟩)))
  · refine sw_in (t := 108) 6 c_1 rfl ?_
    refine WP.blk 2 ?_
    show (sT S x = 9 ∧ sR S x 2 ≠ 0) ∧ WP 5 90 112 [vR x, vI a] [vR (sR S x 2)] (M, S) Q
    refine ⟨⟨hS.1.1, by rw [(show sR S x 2 = x + 2 from hS.1.2.2.1)]; omega⟩, ?_⟩
    rw [(show sR S x 2 = x + 2 from hS.1.2.2.1)]
    refine WP.blk 1 ?_
    show (sT S (x + 2) = 8 ∧ sR S (x + 2) 3 ≠ 0) ∧ WP 5 90 115 [vR x, vI a] [vR (sR S (x + 2) 3)] (M, S) Q
    refine ⟨⟨hS.2.1.1, by rw [(show sR S (x + 2) 3 = x + 10 from hS.2.1.2.2.2.2.1)]; omega⟩, ?_⟩
    rw [(show sR S (x + 2) 3 = x + 10 from hS.2.1.2.2.2.2.1)]
    refine WP.blk 1 ?_
    show sT S (x + 10) = 4 ∧ WP 5 90 118 [vR x, vI a] [vI (M (x + 10) 5)] (M, S) Q
    rw [has.1.2.1.2.2]
    refine ⟨hS.2.1.2.2.2.2.2.2.2.2.2.1, ?_⟩
    exact WP.ret rfl rfl rfl trivial (k _ _ (fun _ _ => rfl) (by unfold TellV; first | exact Or.inl ⟨by omega, by congr 1; omega⟩ | exact Or.inr (Or.inl ⟨by omega, rfl⟩) | exact Or.inr (Or.inr ⟨by omega, rfl⟩)))
  · refine sw_in (t := 119) 7 c_1 rfl ?_
    refine WP.blk 1 ?_
    show WP 5 90 120 [vR x, vI a] [vR x] (M, S) Q
    refine WP.cl (a := [vR x]) (rest := []) rfl rfl rfl rfl ⟨hS.1.1, trivial⟩ (by decide) (t_wornOut hS has hx3 hR ⟨rfl, ?_⟩)
    show WP 5 90 123 [vR x, vI a] [vI (num (Worn f) (f 0))] (M, S) Q
    exact WP.ret rfl rfl rfl trivial (k _ _ (fun _ _ => rfl) (by unfold TellV; first | exact Or.inl ⟨by omega, by congr 1; omega⟩ | exact Or.inr (Or.inl ⟨by omega, rfl⟩) | exact Or.inr (Or.inr ⟨by omega, rfl⟩)))
  · refine sw_out c_1 ?_
    refine WP.blk 1 ?_
    show WP 5 90 125 [vR x, vI a] [vR x] (M, S) Q
    refine WP.cl (a := [vR x]) (rest := []) rfl rfl rfl rfl ⟨hS.1.1, trivial⟩ (by decide) (t_withPlan hS has hx3 hR (fun My_2 fry_2 => ⟨rfl, ?_⟩))
    show WP 5 90 128 [vR x, vI a] [vI (num (HasP f) (f 1))] (My_2, S) Q
    have F_3 : AskR My_2 x f := AskR_fr (fun r9 h7 h8 h9 => fry_2 r9 (by omega)) has
    have fr_4 : (∀ q9, (q9 < x + 78 ∨ x + 82 ≤ q9) → My_2 q9 = M q9) := fun q9 q0 => (fry_2 q9 (by omega)).trans ((fun _ _ => rfl) q9 q0)
    exact WP.ret rfl rfl rfl trivial (k _ _ fr_4 (by unfold TellV; first | exact Or.inl ⟨by omega, by congr 1; omega⟩ | exact Or.inr (Or.inl ⟨by omega, rfl⟩) | exact Or.inr (Or.inr ⟨by omega, rfl⟩)))
set_option maxHeartbeats 4000000 in
theorem t_stampFact {S : SD} {M : Nat → Int → Int} {x : Nat} {f : Int → Int} {B : Int} {s a : Int} (hS : isRub S x) (has : AskR M x f) (hx3 : 3 ≤ x) (hR : RowOk B f) (hs : 0 ≤ s ∧ s < f 0) (ha : 0 ≤ a ∧ a ≤ 5) {Q : Res → Wd → Prop} (k : ∀ (v : Int), TellS f s a v → Q (0, vI v) (M, S)) : EvQ 4 93 [vR x, vI s, vI a] (M, S) Q := by
  refine EvQ.enter (ls := [vR x, vI s, vI a]) (Nat.le_of_ble_eq_true rfl) rfl ?_
  have hA := hR.1
  have hA1 := hA.1
  have hWA := hR.2.1
  have hW1 := hWA.1
  have hI := hR.2.2
  have hI2 := hI.2.1
  have hI3 := hI.2.2.1
  obtain ⟨xf, hxf⟩ := fresh_ex hA1
  refine WP.blk 2 ?_
  show WP 3 93 (if a < 0 ∨ 4 < a then 104 else ((#[36, 48, 60, 72, 84] : Array Int).getD (a - 0).toNat 0).toNat) [vR x, vI s, vI a] [] (M, S) Q
  rcases (show a = 0 ∨ a = 1 ∨ a = 2 ∨ a = 3 ∨ a = 4 ∨ (a < 0 ∨ 4 < a) by omega) with c_1 | c_1 | c_1 | c_1 | c_1 | c_1
  · refine sw_in (t := 36) 0 c_1 rfl ?_
    refine WP.blk 2 ?_
    show (sT S x = 9 ∧ sR S x 2 ≠ 0) ∧ WP 3 93 40 [vR x, vI s, vI a] [vR (sR S x 2)] (M, S) Q
    refine ⟨⟨hS.1.1, by rw [(show sR S x 2 = x + 2 from hS.1.2.2.1)]; omega⟩, ?_⟩
    rw [(show sR S x 2 = x + 2 from hS.1.2.2.1)]
    refine WP.blk 1 ?_
    show (sT S (x + 2) = 8 ∧ sR S (x + 2) 0 ≠ 0) ∧ WP 3 93 43 [vR x, vI s, vI a] [vR (sR S (x + 2) 0)] (M, S) Q
    refine ⟨⟨hS.2.1.1, by rw [(show sR S (x + 2) 0 = x + 3 from hS.2.1.2.1)]; omega⟩, ?_⟩
    rw [(show sR S (x + 2) 0 = x + 3 from hS.2.1.2.1)]
    refine WP.blk 1 ?_
    show WP 3 93 44 [vR x, vI s, vI a] [vI s, vR (x + 3)] (M, S) Q
    refine WP.cl (a := [vR (x + 3), vI s]) (rest := []) rfl rfl rfl rfl ⟨hS.2.1.2.2.2.2.2.1.1, trivial⟩ (by decide) (k_len hS.2.1.2.2.2.2.2.1 has.1.1.1 (by omega) (by omega) ⟨rfl, ?_⟩)
    show WP 3 93 47 [vR x, vI s, vI a] [vI (f (7 + 9 * s))] (M, S) Q
    exact WP.ret rfl rfl rfl trivial (k _ (by unfold TellS; first | exact Or.inl ⟨by omega, rfl⟩ | exact Or.inr (Or.inl ⟨by omega, rfl⟩) | exact Or.inr (Or.inr (Or.inl ⟨by omega, rfl⟩)) | exact Or.inr (Or.inr (Or.inr (Or.inl ⟨by omega, rfl⟩))) | exact Or.inr (Or.inr (Or.inr (Or.inr (Or.inl ⟨by omega, Or.inl ⟨rfl, by assumption⟩⟩)))) | exact Or.inr (Or.inr (Or.inr (Or.inr (Or.inl ⟨by omega, Or.inr ⟨rfl, by assumption⟩⟩)))) | exact Or.inr (Or.inr (Or.inr (Or.inr (Or.inr ⟨by omega, by unfold Worn; omega⟩))))))
  · refine sw_in (t := 48) 1 c_1 rfl ?_
    refine WP.blk 2 ?_
    show (sT S x = 9 ∧ sR S x 2 ≠ 0) ∧ WP 3 93 52 [vR x, vI s, vI a] [vR (sR S x 2)] (M, S) Q
    refine ⟨⟨hS.1.1, by rw [(show sR S x 2 = x + 2 from hS.1.2.2.1)]; omega⟩, ?_⟩
    rw [(show sR S x 2 = x + 2 from hS.1.2.2.1)]
    refine WP.blk 1 ?_
    show (sT S (x + 2) = 8 ∧ sR S (x + 2) 3 ≠ 0) ∧ WP 3 93 55 [vR x, vI s, vI a] [vR (sR S (x + 2) 3)] (M, S) Q
    refine ⟨⟨hS.2.1.1, by rw [(show sR S (x + 2) 3 = x + 10 from hS.2.1.2.2.2.2.1)]; omega⟩, ?_⟩
    rw [(show sR S (x + 2) 3 = x + 10 from hS.2.1.2.2.2.2.1)]
    refine WP.blk 1 ?_
    show WP 3 93 56 [vR x, vI s, vI a] [vI s, vR (x + 10)] (M, S) Q
    refine WP.cl (a := [vR (x + 10), vI s]) (rest := []) rfl rfl rfl rfl ⟨hS.2.1.2.2.2.2.2.2.2.2.2.1, trivial⟩ (by decide) (k_inkOf hS.2.1.2.2.2.2.2.2.2.2.2 has.1.2 (by omega) (by omega) ⟨rfl, ?_⟩)
    show WP 3 93 59 [vR x, vI s, vI a] [vI (f (7 + 9 * s + 6))] (M, S) Q
    exact WP.ret rfl rfl rfl trivial (k _ (by unfold TellS; first | exact Or.inl ⟨by omega, rfl⟩ | exact Or.inr (Or.inl ⟨by omega, rfl⟩) | exact Or.inr (Or.inr (Or.inl ⟨by omega, rfl⟩)) | exact Or.inr (Or.inr (Or.inr (Or.inl ⟨by omega, rfl⟩))) | exact Or.inr (Or.inr (Or.inr (Or.inr (Or.inl ⟨by omega, Or.inl ⟨rfl, by assumption⟩⟩)))) | exact Or.inr (Or.inr (Or.inr (Or.inr (Or.inl ⟨by omega, Or.inr ⟨rfl, by assumption⟩⟩)))) | exact Or.inr (Or.inr (Or.inr (Or.inr (Or.inr ⟨by omega, by unfold Worn; omega⟩))))))
  · refine sw_in (t := 60) 2 c_1 rfl ?_
    refine WP.blk 2 ?_
    show (sT S x = 9 ∧ sR S x 2 ≠ 0) ∧ WP 3 93 64 [vR x, vI s, vI a] [vR (sR S x 2)] (M, S) Q
    refine ⟨⟨hS.1.1, by rw [(show sR S x 2 = x + 2 from hS.1.2.2.1)]; omega⟩, ?_⟩
    rw [(show sR S x 2 = x + 2 from hS.1.2.2.1)]
    refine WP.blk 1 ?_
    show (sT S (x + 2) = 8 ∧ sR S (x + 2) 3 ≠ 0) ∧ WP 3 93 67 [vR x, vI s, vI a] [vR (sR S (x + 2) 3)] (M, S) Q
    refine ⟨⟨hS.2.1.1, by rw [(show sR S (x + 2) 3 = x + 10 from hS.2.1.2.2.2.2.1)]; omega⟩, ?_⟩
    rw [(show sR S (x + 2) 3 = x + 10 from hS.2.1.2.2.2.2.1)]
    refine WP.blk 1 ?_
    show WP 3 93 68 [vR x, vI s, vI a] [vI s, vR (x + 10)] (M, S) Q
    refine WP.cl (a := [vR (x + 10), vI s]) (rest := []) rfl rfl rfl rfl ⟨hS.2.1.2.2.2.2.2.2.2.2.2.1, trivial⟩ (by decide) (k_amountOf hS.2.1.2.2.2.2.2.2.2.2.2 has.1.2 (by omega) (by omega) ⟨rfl, ?_⟩)
    show WP 3 93 71 [vR x, vI s, vI a] [vI (f (7 + 9 * s + 7))] (M, S) Q
    exact WP.ret rfl rfl rfl trivial (k _ (by unfold TellS; first | exact Or.inl ⟨by omega, rfl⟩ | exact Or.inr (Or.inl ⟨by omega, rfl⟩) | exact Or.inr (Or.inr (Or.inl ⟨by omega, rfl⟩)) | exact Or.inr (Or.inr (Or.inr (Or.inl ⟨by omega, rfl⟩))) | exact Or.inr (Or.inr (Or.inr (Or.inr (Or.inl ⟨by omega, Or.inl ⟨rfl, by assumption⟩⟩)))) | exact Or.inr (Or.inr (Or.inr (Or.inr (Or.inl ⟨by omega, Or.inr ⟨rfl, by assumption⟩⟩)))) | exact Or.inr (Or.inr (Or.inr (Or.inr (Or.inr ⟨by omega, by unfold Worn; omega⟩))))))
  · refine sw_in (t := 72) 3 c_1 rfl ?_
    refine WP.blk 2 ?_
    show (sT S x = 9 ∧ sR S x 2 ≠ 0) ∧ WP 3 93 76 [vR x, vI s, vI a] [vR (sR S x 2)] (M, S) Q
    refine ⟨⟨hS.1.1, by rw [(show sR S x 2 = x + 2 from hS.1.2.2.1)]; omega⟩, ?_⟩
    rw [(show sR S x 2 = x + 2 from hS.1.2.2.1)]
    refine WP.blk 1 ?_
    show (sT S (x + 2) = 8 ∧ sR S (x + 2) 3 ≠ 0) ∧ WP 3 93 79 [vR x, vI s, vI a] [vR (sR S (x + 2) 3)] (M, S) Q
    refine ⟨⟨hS.2.1.1, by rw [(show sR S (x + 2) 3 = x + 10 from hS.2.1.2.2.2.2.1)]; omega⟩, ?_⟩
    rw [(show sR S (x + 2) 3 = x + 10 from hS.2.1.2.2.2.2.1)]
    refine WP.blk 1 ?_
    show WP 3 93 80 [vR x, vI s, vI a] [vI s, vR (x + 10)] (M, S) Q
    refine WP.cl (a := [vR (x + 10), vI s]) (rest := []) rfl rfl rfl rfl ⟨hS.2.1.2.2.2.2.2.2.2.2.2.1, trivial⟩ (by decide) (k_wearOf hS.2.1.2.2.2.2.2.2.2.2.2 has.1.2 (by omega) (by omega) ⟨rfl, ?_⟩)
    show WP 3 93 83 [vR x, vI s, vI a] [vI (f (7 + 9 * s + 8))] (M, S) Q
    exact WP.ret rfl rfl rfl trivial (k _ (by unfold TellS; first | exact Or.inl ⟨by omega, rfl⟩ | exact Or.inr (Or.inl ⟨by omega, rfl⟩) | exact Or.inr (Or.inr (Or.inl ⟨by omega, rfl⟩)) | exact Or.inr (Or.inr (Or.inr (Or.inl ⟨by omega, rfl⟩))) | exact Or.inr (Or.inr (Or.inr (Or.inr (Or.inl ⟨by omega, Or.inl ⟨rfl, by assumption⟩⟩)))) | exact Or.inr (Or.inr (Or.inr (Or.inr (Or.inl ⟨by omega, Or.inr ⟨rfl, by assumption⟩⟩)))) | exact Or.inr (Or.inr (Or.inr (Or.inr (Or.inr ⟨by omega, by unfold Worn; omega⟩))))))
  · refine sw_in (t := 84) 4 c_1 rfl ?_
    refine WP.blk 2 ?_
    show (sT S x = 9 ∧ sR S x 2 ≠ 0) ∧ WP 3 93 88 [vR x, vI s, vI a] [vR (sR S x 2)] (M, S) Q
    refine ⟨⟨hS.1.1, by rw [(show sR S x 2 = x + 2 from hS.1.2.2.1)]; omega⟩, ?_⟩
    rw [(show sR S x 2 = x + 2 from hS.1.2.2.1)]
    refine WP.blk 1 ?_
    show (sT S (x + 2) = 8 ∧ sR S (x + 2) 0 ≠ 0) ∧ WP 3 93 91 [vR x, vI s, vI a] [vR (sR S (x + 2) 0)] (M, S) Q
    refine ⟨⟨hS.2.1.1, by rw [(show sR S (x + 2) 0 = x + 3 from hS.2.1.2.1)]; omega⟩, ?_⟩
    rw [(show sR S (x + 2) 0 = x + 3 from hS.2.1.2.1)]
    refine WP.blk 1 ?_
    show WP 3 93 92 [vR x, vI s, vI a] [vI s, vR (x + 3)] (M, S) Q
    refine WP.cl (a := [vR (x + 3), vI s]) (rest := []) rfl rfl rfl rfl trivial (by decide) (k_canTurn hS.2.1.2.2.2.2.2.1 hS.2.2.2.2.2.2.2.2.2 has.2.2 has.1.1.1 (hA.2 _ (by omega) (by omega)) (by omega) (by omega) (fun b_2 hb_2 => ⟨rfl, ?_⟩))
    show WP 3 93 95 [vR x, vI s, vI a] [vI b_2] (M, S) Q
    refine WP.blk 1 ?_
    show WP 3 93 (if cnd .eq b_2 0 = true then 102 else 98) [vR x, vI s, vI a] [] (M, S) Q
    refine br_eq (fun c_3 => ?_) (fun c_3 => ?_)
    · have p_2 := (hb_2.resolve_left (fun h => by omega)).2
      refine WP.blk 1 ?_
      show WP 3 93 103 [vR x, vI s, vI a] [vI 0] (M, S) Q
      exact WP.ret rfl rfl rfl trivial (k _ (by unfold TellS; first | exact Or.inl ⟨by omega, rfl⟩ | exact Or.inr (Or.inl ⟨by omega, rfl⟩) | exact Or.inr (Or.inr (Or.inl ⟨by omega, rfl⟩)) | exact Or.inr (Or.inr (Or.inr (Or.inl ⟨by omega, rfl⟩))) | exact Or.inr (Or.inr (Or.inr (Or.inr (Or.inl ⟨by omega, Or.inl ⟨rfl, by assumption⟩⟩)))) | exact Or.inr (Or.inr (Or.inr (Or.inr (Or.inl ⟨by omega, Or.inr ⟨rfl, by assumption⟩⟩)))) | exact Or.inr (Or.inr (Or.inr (Or.inr (Or.inr ⟨by omega, by unfold Worn; omega⟩))))))
    · have p_2 := (hb_2.resolve_right (fun h => by omega)).2
      refine WP.blk 2 ?_
      show WP 3 93 103 [vR x, vI s, vI a] [vI 1] (M, S) Q
      exact WP.ret rfl rfl rfl trivial (k _ (by unfold TellS; first | exact Or.inl ⟨by omega, rfl⟩ | exact Or.inr (Or.inl ⟨by omega, rfl⟩) | exact Or.inr (Or.inr (Or.inl ⟨by omega, rfl⟩)) | exact Or.inr (Or.inr (Or.inr (Or.inl ⟨by omega, rfl⟩))) | exact Or.inr (Or.inr (Or.inr (Or.inr (Or.inl ⟨by omega, Or.inl ⟨rfl, by assumption⟩⟩)))) | exact Or.inr (Or.inr (Or.inr (Or.inr (Or.inl ⟨by omega, Or.inr ⟨rfl, by assumption⟩⟩)))) | exact Or.inr (Or.inr (Or.inr (Or.inr (Or.inr ⟨by omega, by unfold Worn; omega⟩))))))
  · refine sw_out c_1 ?_
    refine WP.blk 2 ?_
    show (sT S x = 9 ∧ sR S x 2 ≠ 0) ∧ WP 3 93 108 [vR x, vI s, vI a] [vR (sR S x 2)] (M, S) Q
    refine ⟨⟨hS.1.1, by rw [(show sR S x 2 = x + 2 from hS.1.2.2.1)]; omega⟩, ?_⟩
    rw [(show sR S x 2 = x + 2 from hS.1.2.2.1)]
    refine WP.blk 2 ?_
    show (sT S x = 9 ∧ sR S x 2 ≠ 0) ∧ WP 3 93 112 [vR x, vI s, vI a] [vR (sR S x 2), vR (x + 2)] (M, S) Q
    refine ⟨⟨hS.1.1, by rw [(show sR S x 2 = x + 2 from hS.1.2.2.1)]; omega⟩, ?_⟩
    rw [(show sR S x 2 = x + 2 from hS.1.2.2.1)]
    refine WP.blk 1 ?_
    show (sT S (x + 2) = 8 ∧ sR S (x + 2) 3 ≠ 0) ∧ WP 3 93 115 [vR x, vI s, vI a] [vR (sR S (x + 2) 3), vR (x + 2)] (M, S) Q
    refine ⟨⟨hS.2.1.1, by rw [(show sR S (x + 2) 3 = x + 10 from hS.2.1.2.2.2.2.1)]; omega⟩, ?_⟩
    rw [(show sR S (x + 2) 3 = x + 10 from hS.2.1.2.2.2.2.1)]
    refine WP.blk 1 ?_
    show WP 3 93 116 [vR x, vI s, vI a] [vI s, vR (x + 10), vR (x + 2)] (M, S) Q
    refine WP.cl (a := [vR (x + 2), vR (x + 10), vI s]) (rest := []) rfl rfl rfl rfl ⟨hS.2.1.1, trivial⟩ (by decide) (k_isWornOut hS.2.1 hS.2.1.2.2.2.2.2.2.2.2.2 has.1.1.2.2.2 has.1.2 (by omega) (by omega) (fun b_4 hb_4 => ⟨rfl, ?_⟩))
    show WP 3 93 119 [vR x, vI s, vI a] [vI b_4] (M, S) Q
    refine WP.blk 1 ?_
    show WP 3 93 (if cnd .eq b_4 0 = true then 126 else 122) [vR x, vI s, vI a] [] (M, S) Q
    refine br_eq (fun c_5 => ?_) (fun c_5 => ?_)
    · have p_4 := (hb_4.resolve_left (fun h => by omega)).2
      refine WP.blk 1 ?_
      show WP 3 93 127 [vR x, vI s, vI a] [vI 0] (M, S) Q
      exact WP.ret rfl rfl rfl trivial (k _ (by unfold TellS; first | exact Or.inl ⟨by omega, rfl⟩ | exact Or.inr (Or.inl ⟨by omega, rfl⟩) | exact Or.inr (Or.inr (Or.inl ⟨by omega, rfl⟩)) | exact Or.inr (Or.inr (Or.inr (Or.inl ⟨by omega, rfl⟩))) | exact Or.inr (Or.inr (Or.inr (Or.inr (Or.inl ⟨by omega, Or.inl ⟨rfl, by assumption⟩⟩)))) | exact Or.inr (Or.inr (Or.inr (Or.inr (Or.inl ⟨by omega, Or.inr ⟨rfl, by assumption⟩⟩)))) | exact Or.inr (Or.inr (Or.inr (Or.inr (Or.inr ⟨by omega, by unfold Worn; omega⟩))))))
    · have p_4 := (hb_4.resolve_right (fun h => by omega)).2
      refine WP.blk 2 ?_
      show WP 3 93 127 [vR x, vI s, vI a] [vI 1] (M, S) Q
      exact WP.ret rfl rfl rfl trivial (k _ (by unfold TellS; first | exact Or.inl ⟨by omega, rfl⟩ | exact Or.inr (Or.inl ⟨by omega, rfl⟩) | exact Or.inr (Or.inr (Or.inl ⟨by omega, rfl⟩)) | exact Or.inr (Or.inr (Or.inr (Or.inl ⟨by omega, rfl⟩))) | exact Or.inr (Or.inr (Or.inr (Or.inr (Or.inl ⟨by omega, Or.inl ⟨rfl, by assumption⟩⟩)))) | exact Or.inr (Or.inr (Or.inr (Or.inr (Or.inl ⟨by omega, Or.inr ⟨rfl, by assumption⟩⟩)))) | exact Or.inr (Or.inr (Or.inr (Or.inr (Or.inr ⟨by omega, by unfold Worn; omega⟩))))))
