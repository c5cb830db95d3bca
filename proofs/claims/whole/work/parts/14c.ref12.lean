set_option maxHeartbeats 4000000 in
theorem r_setColor {S : SD} {M : Nat → Int → Int} {m : Nat} {f : Int → Int} {o p : Int → Int} {w c B : Int} (hS : isMod S m) (hf : M (m + 1) = f) (ho : M m = o) (hp2 : M (m + 2) = p) (hsv : 0 ≤ o 4 ∧ o 4 ≤ 4) (hR : RowOk B f) {Q : Res → Wd → Prop} (k : ∀ (v : Int) (M2 : Nat → Int → Int), (∀ r, r ≠ m → r ≠ m + 1 → r ≠ m + 2 → M2 r = M r) → ∀ o2, M2 m = o2 → o2 7 = o 7 → (o2 5 = 1 ∧ ¬ (0 ≤ w ∧ w < f 1) ∧ M2 (m + 1) = f ∧ M2 (m + 2) = p ∧ o2 4 = o 4) ∨ (o2 5 = 2 ∧ ((0 ≤ w ∧ w < f 1) ∧ ¬ (0 ≤ c ∧ c ≤ 3)) ∧ M2 (m + 1) = f ∧ M2 (m + 2) = p ∧ o2 4 = o 4) ∨ (o2 5 = 0 ∧ ((0 ≤ w ∧ w < f 1) ∧ 0 ≤ c ∧ c ≤ 3) ∧ v = f (97 + 14 * w + 1) ∧ M2 (m + 1) = uf f (97 + 14 * w + 1) c ∧ ∃ p2, M2 (m + 2) = p2 ∧ SavedP p (o 4) f p2 (o2 4)) → Q (0, vI v) (M2, S)) : EvQ 3 138 [vR m, vI w, vI c] (M, S) Q := by
  refine EvQ.enter (ls := [vR m, vI w, vI c, none]) (Nat.le_of_ble_eq_true rfl) rfl ?_
  have hA := hR.1
  have hA1 := hA.1
  have hWA := hR.2.1
  have hW1 := hWA.1
  have hI := hR.2.2
  have hI2 := hI.2.1
  have hI3 := hI.2.2.1
  refine WP.blk 3 ?_
  show WP 2 138 3 [vR m, vI w, vI c, none] [vI w, vR m, vR m] (M, S) Q
  refine WP.cl (a := [vR m, vI w]) (rest := [vR m]) rfl rfl rfl rfl ⟨hS.1.1, trivial⟩ (by decide) (r_isWord hS hf (by omega) (fun b_1 hb_1 => ⟨rfl, ?_⟩))
  show WP 2 138 6 [vR m, vI w, vI c, none] [vI b_1, vR m] (M, S) Q
  refine WP.blk 1 ?_
  show WP 2 138 (if cnd .ne b_1 0 = true then 13 else 9) [vR m, vI w, vI c, none] [vR m] (M, S) Q
  refine br_ne (fun c_2 => ?_) (fun c_2 => ?_)
  · have p_1 := (hb_1.resolve_right (fun h => by omega)).2
    refine WP.blk 3 ?_
    show WP 2 138 16 [vR m, vI w, vI c, none] [vI 3, vI 0, vI c, vR m] (M, S) Q
    refine WP.cl (a := [vI c, vI 0, vI 3]) (rest := [vR m]) rfl rfl rfl rfl trivial (by decide) (q_in  (fun b_3 hb_3 => ⟨rfl, ?_⟩))
    show WP 2 138 19 [vR m, vI w, vI c, none] [vI b_3, vR m] (M, S) Q
    refine WP.blk 1 ?_
    show WP 2 138 (if cnd .eq b_3 0 = true then 26 else 22) [vR m, vI w, vI c, none] [vR m] (M, S) Q
    refine br_eq (fun c_4 => ?_) (fun c_4 => ?_)
    · have p_3 := (hb_3.resolve_left (fun h => by omega)).2
      refine WP.blk 1 ?_
      show WP 2 138 27 [vR m, vI w, vI c, none] [vI 2, vR m] (M, S) Q
      refine WP.cl (a := [vR m, vI 2]) (rest := []) rfl rfl rfl rfl ⟨hS.1.1, trivial⟩ (by decide) (r_refused hS hf ho (fun b_5 Mr5 fr5 o5 ho5 h55 hk5 hb_5 => ⟨rfl, ?_⟩))
      show WP 2 138 30 [vR m, vI w, vI c, none] [vI b_5] (Mr5, S) Q
      have r_6 : Mr5 (m + 1) = f := (fr5 _ (by omega)).trans hf
      have r_8 : Mr5 (m + 2) = p := (fr5 _ (by omega)).trans hp2
      have fr_9 : ∀ r, r ≠ m → r ≠ m + 1 → r ≠ m + 2 → Mr5 r = M r := fun r q0 q1 q2 => (fr5 r q0).trans ((fun _ _ _ _ => rfl) r q0 q1 q2)
      have t45 := hk5 4 (by omega)
      have t75 := hk5 7 (by omega)
      have t115 := hk5 11 (by omega)
      refine WP.blk 1 ?_
      show WP 2 138 (if cnd .eq b_5 0 = true then 35 else 33) [vR m, vI w, vI c, none] [] (Mr5, S) Q
      refine br_eq (fun c_10 => ?_) (fun c_10 => ?_)
      · exfalso; omega
      · have p_5 := (hb_5.resolve_right (fun h => by omega)).2
        refine WP.blk 1 ?_
        show WP 2 138 34 [vR m, vI w, vI c, none] [vI 0] (Mr5, S) Q
        exact WP.ret rfl rfl rfl trivial (k _ _ fr_9 _ ho5 (by omega) (by first | exact Or.inl ⟨by omega, by omega, r_6, r_8, by omega⟩ | exact Or.inr (Or.inl ⟨by omega, by omega, r_6, r_8, by omega⟩)))
    · have p_3 := (hb_3.resolve_right (fun h => by omega)).2
      refine WP.blk 2 ?_
      show WP 2 138 27 [vR m, vI w, vI c, none] [vI 0, vR m] (M, S) Q
      refine WP.cl (a := [vR m, vI 0]) (rest := []) rfl rfl rfl rfl ⟨hS.1.1, trivial⟩ (by decide) (r_refused hS hf ho (fun b_11 Mr11 fr11 o11 ho11 h511 hk11 hb_11 => ⟨rfl, ?_⟩))
      show WP 2 138 30 [vR m, vI w, vI c, none] [vI b_11] (Mr11, S) Q
      have r_12 : Mr11 (m + 1) = f := (fr11 _ (by omega)).trans hf
      have r_14 : Mr11 (m + 2) = p := (fr11 _ (by omega)).trans hp2
      have fr_15 : ∀ r, r ≠ m → r ≠ m + 1 → r ≠ m + 2 → Mr11 r = M r := fun r q0 q1 q2 => (fr11 r q0).trans ((fun _ _ _ _ => rfl) r q0 q1 q2)
      have t411 := hk11 4 (by omega)
      have t711 := hk11 7 (by omega)
      have t1111 := hk11 11 (by omega)
      refine WP.blk 1 ?_
      show WP 2 138 (if cnd .eq b_11 0 = true then 35 else 33) [vR m, vI w, vI c, none] [] (Mr11, S) Q
      refine br_eq (fun c_16 => ?_) (fun c_16 => ?_)
      · have p_11 := (hb_11.resolve_left (fun h => by omega)).2
        refine WP.blk 1 ?_
        show WP 2 138 36 [vR m, vI w, vI c, none] [vR m] (Mr11, S) Q
        refine WP.cl (a := [vR m]) (rest := []) rfl rfl rfl rfl ⟨hS.1.1, trivial⟩ (by decide) (r_saves hS r_12 ho11 r_14 (by omega) (fun My_17 fry_17 py_17 oy_17 hpy_17 hoy_17 hky_17 hvy_17 => ⟨rfl, ?_⟩))
        show WP 2 138 39 [vR m, vI w, vI c, none] [] (My_17, S) Q
        have r_18 : My_17 (m + 1) = f := (fry_17 _ (by omega) (by omega)).trans r_12
        have fr_21 : ∀ r, r ≠ m → r ≠ m + 1 → r ≠ m + 2 → My_17 r = M r := fun r q0 q1 q2 => (fry_17 r q0 q2).trans (fr_15 r q0 q1 q2)
        have t5y_17 := hky_17 5 (by omega)
        have t7y_17 := hky_17 7 (by omega)
        have t11y_17 := hky_17 11 (by omega)
        refine WP.blk 2 ?_
        show (sT S m = 10 ∧ sR S m 0 ≠ 0) ∧ WP 2 138 43 [vR m, vI w, vI c, none] [vR (sR S m 0)] (My_17, S) Q
        refine ⟨⟨hS.1.1, by rw [hS.1.2.1]; omega⟩, ?_⟩
        rw [hS.1.2.1]
        refine WP.blk 1 ?_
        show WP 2 138 44 [vR m, vI w, vI c, none] [vI w, vR (m + 1)] (My_17, S) Q
        refine WP.cl (a := [vI w]) (rest := [vR (m + 1)]) rfl rfl rfl rfl trivial (by decide) (q_wordAt (by omega) ⟨rfl, ?_⟩)
        show WP 2 138 47 [vR m, vI w, vI c, none] [vI (97 + 14 * w), vR (m + 1)] (My_17, S) Q
        refine WP.blk 6 ?_
        show ir ((97 + 14 * w) + 1) ∧ ((sT S (m + 1) = 11 ∨ sT S (m + 1) = 16 ∨ sT S (m + 1) = 17) ∧ 0 ≤ ((97 + 14 * w) + 1) ∧ ((97 + 14 * w) + 1) < (sN S (m + 1) : Int)) ∧ (sT S m = 10 ∧ sR S m 0 ≠ 0) ∧ WP 2 138 55 [vR m, vI w, vI c, vI (My_17 (m + 1) ((97 + 14 * w) + 1))] [vR (sR S m 0)] (My_17, S) Q
        rw [r_18]
        refine ⟨(by unfold ir; omega), ⟨Or.inl hS.2.1.1, by omega, by rw [hS.2.2.1]; omega⟩, ⟨hS.1.1, by rw [hS.1.2.1]; omega⟩, ?_⟩
        rw [hS.1.2.1]
        refine WP.blk 1 ?_
        show WP 2 138 56 [vR m, vI w, vI c, vI (f ((97 + 14 * w) + 1))] [vI w, vR (m + 1)] (My_17, S) Q
        refine WP.cl (a := [vI w]) (rest := [vR (m + 1)]) rfl rfl rfl rfl trivial (by decide) (q_wordAt (by omega) ⟨rfl, ?_⟩)
        show WP 2 138 59 [vR m, vI w, vI c, vI (f ((97 + 14 * w) + 1))] [vI (97 + 14 * w), vR (m + 1)] (My_17, S) Q
        refine WP.blk 4 ?_
        show ir ((97 + 14 * w) + 1) ∧ (sT S (m + 1) = 11 ∧ 0 ≤ ((97 + 14 * w) + 1) ∧ ((97 + 14 * w) + 1) < (sN S (m + 1) : Int)) ∧ WP 2 138 63 [vR m, vI w, vI c, vI (f ((97 + 14 * w) + 1))] [] (up My_17 (m + 1) ((97 + 14 * w) + 1) c, S) Q
        refine ⟨(by unfold ir; omega), ⟨hS.2.1.1, by omega, by rw [hS.2.2.1]; omega⟩, ?_⟩
        generalize hM_22 : up My_17 (m + 1) ((97 + 14 * w) + 1) c = M_22
        obtain ⟨g_24, hg_24⟩ : ∃ y9, y9 = uf f ((97 + 14 * w) + 1) c := ⟨_, rfl⟩
        have r_23 : M_22 (m + 1) = g_24 := by rw [← hM_22, hg_24, up_self, r_18]
        have r_25 : M_22 m = oy_17 := by rw [← hM_22]; exact (up_row (by omega)).trans hoy_17
        have r_26 : M_22 (m + 2) = py_17 := by rw [← hM_22]; exact (up_row (by omega)).trans hpy_17
        have fr_27 : ∀ r, r ≠ m → r ≠ m + 1 → r ≠ m + 2 → M_22 r = M r := fun r q0 q1 q2 => by rw [← hM_22]; exact (up_row q1).trans (fr_21 r q0 q1 q2)
        refine WP.blk 1 ?_
        show WP 2 138 64 [vR m, vI w, vI c, vI (f ((97 + 14 * w) + 1))] [vI (f ((97 + 14 * w) + 1))] (M_22, S) Q
        refine WP.ret rfl rfl rfl trivial ?_
        refine k _ _ fr_27 _ r_25 (by omega) (Or.inr (Or.inr ⟨by omega, by omega, ?v, ?r, _, r_26, ?s⟩))
        case v => first | omega | rfl
        case r => exact r_23.trans hg_24
        case s =>
          have e4 := hvy_17
          rw [show o11 4 = o 4 by omega] at e4
          exact e4
      · exfalso; omega
  · have p_1 := (hb_1.resolve_left (fun h => by omega)).2
    refine WP.blk 2 ?_
    show WP 2 138 27 [vR m, vI w, vI c, none] [vI 1, vR m] (M, S) Q
    refine WP.cl (a := [vR m, vI 1]) (rest := []) rfl rfl rfl rfl ⟨hS.1.1, trivial⟩ (by decide) (r_refused hS hf ho (fun b_28 Mr28 fr28 o28 ho28 h528 hk28 hb_28 => ⟨rfl, ?_⟩))
    show WP 2 138 30 [vR m, vI w, vI c, none] [vI b_28] (Mr28, S) Q
    have r_29 : Mr28 (m + 1) = f := (fr28 _ (by omega)).trans hf
    have r_31 : Mr28 (m + 2) = p := (fr28 _ (by omega)).trans hp2
    have fr_32 : ∀ r, r ≠ m → r ≠ m + 1 → r ≠ m + 2 → Mr28 r = M r := fun r q0 q1 q2 => (fr28 r q0).trans ((fun _ _ _ _ => rfl) r q0 q1 q2)
    have t428 := hk28 4 (by omega)
    have t728 := hk28 7 (by omega)
    have t1128 := hk28 11 (by omega)
    refine WP.blk 1 ?_
    show WP 2 138 (if cnd .eq b_28 0 = true then 35 else 33) [vR m, vI w, vI c, none] [] (Mr28, S) Q
    refine br_eq (fun c_33 => ?_) (fun c_33 => ?_)
    · exfalso; omega
    · have p_28 := (hb_28.resolve_right (fun h => by omega)).2
      refine WP.blk 1 ?_
      show WP 2 138 34 [vR m, vI w, vI c, none] [vI 0] (Mr28, S) Q
      exact WP.ret rfl rfl rfl trivial (k _ _ fr_32 _ ho28 (by omega) (by first | exact Or.inl ⟨by omega, by omega, r_29, r_31, by omega⟩ | exact Or.inr (Or.inl ⟨by omega, by omega, r_29, r_31, by omega⟩)))
set_option maxHeartbeats 4000000 in
theorem r_setLimits {S : SD} {M : Nat → Int → Int} {m : Nat} {f : Int → Int} {o p : Int → Int} {a b B : Int} (hS : isMod S m) (hf : M (m + 1) = f) (ho : M m = o) (hp2 : M (m + 2) = p) (hsv : 0 ≤ o 4 ∧ o 4 ≤ 4) (hR : RowOk B f) {Q : Res → Wd → Prop} (k : ∀ (v : Int) (M2 : Nat → Int → Int), (∀ r, r ≠ m → r ≠ m + 1 → r ≠ m + 2 → M2 r = M r) → ∀ o2, M2 m = o2 → o2 7 = o 7 → (o2 5 = 1 ∧ ¬ ((1 ≤ a ∧ a ≤ 200) ∧ 1 ≤ b ∧ b ≤ 20) ∧ M2 (m + 1) = f ∧ M2 (m + 2) = p ∧ o2 4 = o 4) ∨ (o2 5 = 0 ∧ ((1 ≤ a ∧ a ≤ 200) ∧ 1 ≤ b ∧ b ≤ 20) ∧ v = f 2 ∧ M2 (m + 1) = uf (uf f 2 a) 3 b ∧ ∃ p2, M2 (m + 2) = p2 ∧ SavedP p (o 4) f p2 (o2 4)) → Q (0, vI v) (M2, S)) : EvQ 3 139 [vR m, vI a, vI b] (M, S) Q := by
  refine EvQ.enter (ls := [vR m, vI a, vI b, none]) (Nat.le_of_ble_eq_true rfl) rfl ?_
  have hA := hR.1
  have hA1 := hA.1
  have hWA := hR.2.1
  have hW1 := hWA.1
  have hI := hR.2.2
  have hI2 := hI.2.1
  have hI3 := hI.2.2.1
  refine WP.blk 4 ?_
  show WP 2 139 6 [vR m, vI a, vI b, none] [vI 200, vI 1, vI a, vR m] (M, S) Q
  refine WP.cl (a := [vI a, vI 1, vI 200]) (rest := [vR m]) rfl rfl rfl rfl trivial (by decide) (q_in  (fun b_1 hb_1 => ⟨rfl, ?_⟩))
  show WP 2 139 9 [vR m, vI a, vI b, none] [vI b_1, vR m] (M, S) Q
  refine WP.blk 1 ?_
  show WP 2 139 (if cnd .eq b_1 0 = true then 26 else 12) [vR m, vI a, vI b, none] [vR m] (M, S) Q
  refine br_eq (fun c_2 => ?_) (fun c_2 => ?_)
  · have p_1 := (hb_1.resolve_left (fun h => by omega)).2
    refine WP.blk 1 ?_
    show WP 2 139 27 [vR m, vI a, vI b, none] [vI 1, vR m] (M, S) Q
    refine WP.cl (a := [vR m, vI 1]) (rest := []) rfl rfl rfl rfl ⟨hS.1.1, trivial⟩ (by decide) (r_refused hS hf ho (fun b_3 Mr3 fr3 o3 ho3 h53 hk3 hb_3 => ⟨rfl, ?_⟩))
    show WP 2 139 30 [vR m, vI a, vI b, none] [vI b_3] (Mr3, S) Q
    have r_4 : Mr3 (m + 1) = f := (fr3 _ (by omega)).trans hf
    have r_6 : Mr3 (m + 2) = p := (fr3 _ (by omega)).trans hp2
    have fr_7 : ∀ r, r ≠ m → r ≠ m + 1 → r ≠ m + 2 → Mr3 r = M r := fun r q0 q1 q2 => (fr3 r q0).trans ((fun _ _ _ _ => rfl) r q0 q1 q2)
    have t43 := hk3 4 (by omega)
    have t73 := hk3 7 (by omega)
    have t113 := hk3 11 (by omega)
    refine WP.blk 1 ?_
    show WP 2 139 (if cnd .eq b_3 0 = true then 35 else 33) [vR m, vI a, vI b, none] [] (Mr3, S) Q
    refine br_eq (fun c_8 => ?_) (fun c_8 => ?_)
    · exfalso; omega
    · have p_3 := (hb_3.resolve_right (fun h => by omega)).2
      refine WP.blk 1 ?_
      show WP 2 139 34 [vR m, vI a, vI b, none] [vI 0] (Mr3, S) Q
      exact WP.ret rfl rfl rfl trivial (k _ _ fr_7 _ ho3 (by omega) (by first | exact Or.inl ⟨by omega, by omega, r_4, r_6, by omega⟩))
  · have p_1 := (hb_1.resolve_right (fun h => by omega)).2
    refine WP.blk 3 ?_
    show WP 2 139 16 [vR m, vI a, vI b, none] [vI 20, vI 1, vI b, vR m] (M, S) Q
    refine WP.cl (a := [vI b, vI 1, vI 20]) (rest := [vR m]) rfl rfl rfl rfl trivial (by decide) (q_in  (fun b_9 hb_9 => ⟨rfl, ?_⟩))
    show WP 2 139 19 [vR m, vI a, vI b, none] [vI b_9, vR m] (M, S) Q
    refine WP.blk 1 ?_
    show WP 2 139 (if cnd .eq b_9 0 = true then 26 else 22) [vR m, vI a, vI b, none] [vR m] (M, S) Q
    refine br_eq (fun c_10 => ?_) (fun c_10 => ?_)
    · have p_9 := (hb_9.resolve_left (fun h => by omega)).2
      refine WP.blk 1 ?_
      show WP 2 139 27 [vR m, vI a, vI b, none] [vI 1, vR m] (M, S) Q
      refine WP.cl (a := [vR m, vI 1]) (rest := []) rfl rfl rfl rfl ⟨hS.1.1, trivial⟩ (by decide) (r_refused hS hf ho (fun b_11 Mr11 fr11 o11 ho11 h511 hk11 hb_11 => ⟨rfl, ?_⟩))
      show WP 2 139 30 [vR m, vI a, vI b, none] [vI b_11] (Mr11, S) Q
      have r_12 : Mr11 (m + 1) = f := (fr11 _ (by omega)).trans hf
      have r_14 : Mr11 (m + 2) = p := (fr11 _ (by omega)).trans hp2
      have fr_15 : ∀ r, r ≠ m → r ≠ m + 1 → r ≠ m + 2 → Mr11 r = M r := fun r q0 q1 q2 => (fr11 r q0).trans ((fun _ _ _ _ => rfl) r q0 q1 q2)
      have t411 := hk11 4 (by omega)
      have t711 := hk11 7 (by omega)
      have t1111 := hk11 11 (by omega)
      refine WP.blk 1 ?_
      show WP 2 139 (if cnd .eq b_11 0 = true then 35 else 33) [vR m, vI a, vI b, none] [] (Mr11, S) Q
      refine br_eq (fun c_16 => ?_) (fun c_16 => ?_)
      · exfalso; omega
      · have p_11 := (hb_11.resolve_right (fun h => by omega)).2
        refine WP.blk 1 ?_
        show WP 2 139 34 [vR m, vI a, vI b, none] [vI 0] (Mr11, S) Q
        exact WP.ret rfl rfl rfl trivial (k _ _ fr_15 _ ho11 (by omega) (by first | exact Or.inl ⟨by omega, by omega, r_12, r_14, by omega⟩))
    · have p_9 := (hb_9.resolve_right (fun h => by omega)).2
      refine WP.blk 2 ?_
      show WP 2 139 27 [vR m, vI a, vI b, none] [vI 0, vR m] (M, S) Q
      refine WP.cl (a := [vR m, vI 0]) (rest := []) rfl rfl rfl rfl ⟨hS.1.1, trivial⟩ (by decide) (r_refused hS hf ho (fun b_17 Mr17 fr17 o17 ho17 h517 hk17 hb_17 => ⟨rfl, ?_⟩))
      show WP 2 139 30 [vR m, vI a, vI b, none] [vI b_17] (Mr17, S) Q
      have r_18 : Mr17 (m + 1) = f := (fr17 _ (by omega)).trans hf
      have r_20 : Mr17 (m + 2) = p := (fr17 _ (by omega)).trans hp2
      have fr_21 : ∀ r, r ≠ m → r ≠ m + 1 → r ≠ m + 2 → Mr17 r = M r := fun r q0 q1 q2 => (fr17 r q0).trans ((fun _ _ _ _ => rfl) r q0 q1 q2)
      have t417 := hk17 4 (by omega)
      have t717 := hk17 7 (by omega)
      have t1117 := hk17 11 (by omega)
      refine WP.blk 1 ?_
      show WP 2 139 (if cnd .eq b_17 0 = true then 35 else 33) [vR m, vI a, vI b, none] [] (Mr17, S) Q
      refine br_eq (fun c_22 => ?_) (fun c_22 => ?_)
      · have p_17 := (hb_17.resolve_left (fun h => by omega)).2
        refine WP.blk 1 ?_
        show WP 2 139 36 [vR m, vI a, vI b, none] [vR m] (Mr17, S) Q
        refine WP.cl (a := [vR m]) (rest := []) rfl rfl rfl rfl ⟨hS.1.1, trivial⟩ (by decide) (r_saves hS r_18 ho17 r_20 (by omega) (fun My_23 fry_23 py_23 oy_23 hpy_23 hoy_23 hky_23 hvy_23 => ⟨rfl, ?_⟩))
        show WP 2 139 39 [vR m, vI a, vI b, none] [] (My_23, S) Q
        have r_24 : My_23 (m + 1) = f := (fry_23 _ (by omega) (by omega)).trans r_18
        have fr_27 : ∀ r, r ≠ m → r ≠ m + 1 → r ≠ m + 2 → My_23 r = M r := fun r q0 q1 q2 => (fry_23 r q0 q2).trans (fr_21 r q0 q1 q2)
        have t5y_23 := hky_23 5 (by omega)
        have t7y_23 := hky_23 7 (by omega)
        have t11y_23 := hky_23 11 (by omega)
        refine WP.blk 2 ?_
        show (sT S m = 10 ∧ sR S m 0 ≠ 0) ∧ WP 2 139 43 [vR m, vI a, vI b, none] [vR (sR S m 0)] (My_23, S) Q
        refine ⟨⟨hS.1.1, by rw [hS.1.2.1]; omega⟩, ?_⟩
        rw [hS.1.2.1]
        refine WP.blk 5 ?_
        show ((sT S (m + 1) = 11 ∨ sT S (m + 1) = 16 ∨ sT S (m + 1) = 17) ∧ 0 ≤ 2 ∧ 2 < (sN S (m + 1) : Int)) ∧ (sT S m = 10 ∧ sR S m 0 ≠ 0) ∧ WP 2 139 50 [vR m, vI a, vI b, vI (My_23 (m + 1) 2)] [vR (sR S m 0)] (My_23, S) Q
        rw [r_24]
        refine ⟨⟨Or.inl hS.2.1.1, by omega, by rw [hS.2.2.1]; omega⟩, ⟨hS.1.1, by rw [hS.1.2.1]; omega⟩, ?_⟩
        rw [hS.1.2.1]
        refine WP.blk 3 ?_
        show (sT S (m + 1) = 11 ∧ 0 ≤ 2 ∧ 2 < (sN S (m + 1) : Int)) ∧ WP 2 139 53 [vR m, vI a, vI b, vI (f 2)] [] (up My_23 (m + 1) 2 a, S) Q
        refine ⟨⟨hS.2.1.1, by omega, by rw [hS.2.2.1]; omega⟩, ?_⟩
        generalize hM_28 : up My_23 (m + 1) 2 a = M_28
        obtain ⟨g_30, hg_30⟩ : ∃ y9, y9 = uf f 2 a := ⟨_, rfl⟩
        have r_29 : M_28 (m + 1) = g_30 := by rw [← hM_28, hg_30, up_self, r_24]
        have r_31 : M_28 m = oy_23 := by rw [← hM_28]; exact (up_row (by omega)).trans hoy_23
        have r_32 : M_28 (m + 2) = py_23 := by rw [← hM_28]; exact (up_row (by omega)).trans hpy_23
        have fr_33 : ∀ r, r ≠ m → r ≠ m + 1 → r ≠ m + 2 → M_28 r = M r := fun r q0 q1 q2 => by rw [← hM_28]; exact (up_row q1).trans (fr_27 r q0 q1 q2)
        refine WP.blk 2 ?_
        show (sT S m = 10 ∧ sR S m 0 ≠ 0) ∧ WP 2 139 57 [vR m, vI a, vI b, vI (f 2)] [vR (sR S m 0)] (M_28, S) Q
        refine ⟨⟨hS.1.1, by rw [hS.1.2.1]; omega⟩, ?_⟩
        rw [hS.1.2.1]
        refine WP.blk 3 ?_
        show (sT S (m + 1) = 11 ∧ 0 ≤ 3 ∧ 3 < (sN S (m + 1) : Int)) ∧ WP 2 139 60 [vR m, vI a, vI b, vI (f 2)] [] (up M_28 (m + 1) 3 b, S) Q
        refine ⟨⟨hS.2.1.1, by omega, by rw [hS.2.2.1]; omega⟩, ?_⟩
        generalize hM_34 : up M_28 (m + 1) 3 b = M_34
        obtain ⟨g_36, hg_36⟩ : ∃ y9, y9 = uf g_30 3 b := ⟨_, rfl⟩
        have r_35 : M_34 (m + 1) = g_36 := by rw [← hM_34, hg_36, up_self, r_29]
        have r_37 : M_34 m = oy_23 := by rw [← hM_34]; exact (up_row (by omega)).trans r_31
        have r_38 : M_34 (m + 2) = py_23 := by rw [← hM_34]; exact (up_row (by omega)).trans r_32
        have fr_39 : ∀ r, r ≠ m → r ≠ m + 1 → r ≠ m + 2 → M_34 r = M r := fun r q0 q1 q2 => by rw [← hM_34]; exact (up_row q1).trans (fr_33 r q0 q1 q2)
        refine WP.blk 1 ?_
        show WP 2 139 61 [vR m, vI a, vI b, vI (f 2)] [vI (f 2)] (M_34, S) Q
        refine WP.ret rfl rfl rfl trivial ?_
        refine k _ _ fr_39 _ r_37 (by omega) (Or.inr ⟨by omega, by omega, ?v, ?r, _, r_38, ?s⟩)
        case v => first | omega | rfl
        case r => rw [r_35, hg_36, hg_30]
        case s =>
          have e4 := hvy_23
          rw [show o17 4 = o 4 by omega] at e4
          exact e4
      · exfalso; omega
set_option maxHeartbeats 4000000 in
theorem r_clean {S : SD} {M : Nat → Int → Int} {m : Nat} {f : Int → Int} {o p : Int → Int} {s B : Int} (hS : isMod S m) (hf : M (m + 1) = f) (ho : M m = o) (hp2 : M (m + 2) = p) (hsv : 0 ≤ o 4 ∧ o 4 ≤ 4) (hR : RowOk B f) (hB : B ≤ 1000000000) {Q : Res → Wd → Prop} (k : ∀ (v : Int) (M2 : Nat → Int → Int), (∀ r, r ≠ m → r ≠ m + 1 → r ≠ m + 2 → M2 r = M r) → ∀ o2, M2 m = o2 → o2 7 = o 7 → (o2 5 = 1 ∧ ¬ (0 ≤ s ∧ s < f 0) ∧ M2 (m + 1) = f ∧ M2 (m + 2) = p ∧ o2 4 = o 4) ∨ (o2 5 = 0 ∧ (0 ≤ s ∧ s < f 0) ∧ v = (if f (7 + 9 * s + 6) = -1 then 0 else 1) ∧ M2 (m + 1) = cleanR f s ∧ ∃ p2, M2 (m + 2) = p2 ∧ SavedP p (o 4) f p2 (o2 4)) → Q (0, vI v) (M2, S)) : EvQ 3 140 [vR m, vI s] (M, S) Q := by
  refine EvQ.enter (ls := [vR m, vI s, none, none]) (Nat.le_of_ble_eq_true rfl) rfl ?_
  have hA := hR.1
  have hA1 := hA.1
  have hWA := hR.2.1
  have hW1 := hWA.1
  have hI := hR.2.2
  have hI2 := hI.2.1
  have hI3 := hI.2.2.1
  have hI6 := hI.2.2.2.2.2
  refine WP.blk 3 ?_
  show WP 2 140 3 [vR m, vI s, none, none] [vI s, vR m, vR m] (M, S) Q
  refine WP.cl (a := [vR m, vI s]) (rest := [vR m]) rfl rfl rfl rfl ⟨hS.1.1, trivial⟩ (by decide) (r_isStamp hS hf (by omega) (fun b_1 hb_1 => ⟨rfl, ?_⟩))
  show WP 2 140 6 [vR m, vI s, none, none] [vI b_1, vR m] (M, S) Q
  refine WP.blk 1 ?_
  show WP 2 140 (if cnd .eq b_1 0 = true then 13 else 9) [vR m, vI s, none, none] [vR m] (M, S) Q
  refine br_eq (fun c_2 => ?_) (fun c_2 => ?_)
  · have p_1 := (hb_1.resolve_left (fun h => by omega)).2
    refine WP.blk 1 ?_
    show WP 2 140 14 [vR m, vI s, none, none] [vI 1, vR m] (M, S) Q
    refine WP.cl (a := [vR m, vI 1]) (rest := []) rfl rfl rfl rfl ⟨hS.1.1, trivial⟩ (by decide) (r_refused hS hf ho (fun b_3 Mr3 fr3 o3 ho3 h53 hk3 hb_3 => ⟨rfl, ?_⟩))
    show WP 2 140 17 [vR m, vI s, none, none] [vI b_3] (Mr3, S) Q
    have r_4 : Mr3 (m + 1) = f := (fr3 _ (by omega)).trans hf
    have r_6 : Mr3 (m + 2) = p := (fr3 _ (by omega)).trans hp2
    have fr_7 : ∀ r, r ≠ m → r ≠ m + 1 → r ≠ m + 2 → Mr3 r = M r := fun r q0 q1 q2 => (fr3 r q0).trans ((fun _ _ _ _ => rfl) r q0 q1 q2)
    have t43 := hk3 4 (by omega)
    have t73 := hk3 7 (by omega)
    have t113 := hk3 11 (by omega)
    refine WP.blk 1 ?_
    show WP 2 140 (if cnd .eq b_3 0 = true then 22 else 20) [vR m, vI s, none, none] [] (Mr3, S) Q
    refine br_eq (fun c_8 => ?_) (fun c_8 => ?_)
    · exfalso; omega
    · have p_3 := (hb_3.resolve_right (fun h => by omega)).2
      refine WP.blk 1 ?_
      show WP 2 140 21 [vR m, vI s, none, none] [vI 0] (Mr3, S) Q
      exact WP.ret rfl rfl rfl trivial (k _ _ fr_7 _ ho3 (by omega) (by first | exact Or.inl ⟨by omega, by omega, r_4, r_6, by omega⟩))
  · have p_1 := (hb_1.resolve_right (fun h => by omega)).2
    refine WP.blk 2 ?_
    show WP 2 140 14 [vR m, vI s, none, none] [vI 0, vR m] (M, S) Q
    refine WP.cl (a := [vR m, vI 0]) (rest := []) rfl rfl rfl rfl ⟨hS.1.1, trivial⟩ (by decide) (r_refused hS hf ho (fun b_9 Mr9 fr9 o9 ho9 h59 hk9 hb_9 => ⟨rfl, ?_⟩))
    show WP 2 140 17 [vR m, vI s, none, none] [vI b_9] (Mr9, S) Q
    have r_10 : Mr9 (m + 1) = f := (fr9 _ (by omega)).trans hf
    have r_12 : Mr9 (m + 2) = p := (fr9 _ (by omega)).trans hp2
    have fr_13 : ∀ r, r ≠ m → r ≠ m + 1 → r ≠ m + 2 → Mr9 r = M r := fun r q0 q1 q2 => (fr9 r q0).trans ((fun _ _ _ _ => rfl) r q0 q1 q2)
    have t49 := hk9 4 (by omega)
    have t79 := hk9 7 (by omega)
    have t119 := hk9 11 (by omega)
    refine WP.blk 1 ?_
    show WP 2 140 (if cnd .eq b_9 0 = true then 22 else 20) [vR m, vI s, none, none] [] (Mr9, S) Q
    refine br_eq (fun c_14 => ?_) (fun c_14 => ?_)
    · have p_9 := (hb_9.resolve_left (fun h => by omega)).2
      refine WP.blk 1 ?_
      show WP 2 140 23 [vR m, vI s, none, none] [vR m] (Mr9, S) Q
      refine WP.cl (a := [vR m]) (rest := []) rfl rfl rfl rfl ⟨hS.1.1, trivial⟩ (by decide) (r_saves hS r_10 ho9 r_12 (by omega) (fun My_15 fry_15 py_15 oy_15 hpy_15 hoy_15 hky_15 hvy_15 => ⟨rfl, ?_⟩))
      show WP 2 140 26 [vR m, vI s, none, none] [] (My_15, S) Q
      have r_16 : My_15 (m + 1) = f := (fry_15 _ (by omega) (by omega)).trans r_10
      have fr_19 : ∀ r, r ≠ m → r ≠ m + 1 → r ≠ m + 2 → My_15 r = M r := fun r q0 q1 q2 => (fry_15 r q0 q2).trans (fr_13 r q0 q1 q2)
      have t5y_15 := hky_15 5 (by omega)
      have t7y_15 := hky_15 7 (by omega)
      have t11y_15 := hky_15 11 (by omega)
      refine WP.blk 1 ?_
      show WP 2 140 27 [vR m, vI s, none, none] [vI s] (My_15, S) Q
      refine WP.cl (a := [vI s]) (rest := []) rfl rfl rfl rfl trivial (by decide) (q_stampAt (by omega) ⟨rfl, ?_⟩)
      show WP 2 140 30 [vR m, vI s, none, none] [vI (7 + 9 * s)] (My_15, S) Q
      refine WP.blk 3 ?_
      show (sT S m = 10 ∧ sR S m 0 ≠ 0) ∧ WP 2 140 35 [vR m, vI s, vI (7 + 9 * s), none] [vR (sR S m 0)] (My_15, S) Q
      refine ⟨⟨hS.1.1, by rw [hS.1.2.1]; omega⟩, ?_⟩
      rw [hS.1.2.1]
      refine WP.blk 6 ?_
      show ir ((7 + 9 * s) + 6) ∧ ((sT S (m + 1) = 11 ∨ sT S (m + 1) = 16 ∨ sT S (m + 1) = 17) ∧ 0 ≤ ((7 + 9 * s) + 6) ∧ ((7 + 9 * s) + 6) < (sN S (m + 1) : Int)) ∧ WP 2 140 (if cnd .ne (My_15 (m + 1) ((7 + 9 * s) + 6)) (-1) = true then 48 else 44) [vR m, vI s, vI (7 + 9 * s), none] [] (My_15, S) Q
      rw [r_16]
      refine ⟨(by unfold ir; omega), ⟨Or.inl hS.2.1.1, by omega, by rw [hS.2.2.1]; omega⟩, ?_⟩
      refine br_ne (fun c_20 => ?_) (fun c_20 => ?_)
      · refine WP.blk 4 ?_
        show (sT S m = 10 ∧ sR S m 0 ≠ 0) ∧ WP 2 140 54 [vR m, vI s, vI (7 + 9 * s), vI 1] [vR (sR S m 0)] (My_15, S) Q
        refine ⟨⟨hS.1.1, by rw [hS.1.2.1]; omega⟩, ?_⟩
        rw [hS.1.2.1]
        refine WP.blk 6 ?_
        show ((sT S (m + 1) = 11 ∨ sT S (m + 1) = 16 ∨ sT S (m + 1) = 17) ∧ 0 ≤ 6 ∧ 6 < (sN S (m + 1) : Int)) ∧ ir ((My_15 (m + 1) 6) + 1) ∧ (sT S (m + 1) = 11 ∧ 0 ≤ 6 ∧ 6 < (sN S (m + 1) : Int)) ∧ WP 2 140 61 [vR m, vI s, vI (7 + 9 * s), vI 1] [] (up My_15 (m + 1) 6 ((My_15 (m + 1) 6) + 1), S) Q
        rw [r_16]
        refine ⟨⟨Or.inl hS.2.1.1, by omega, by rw [hS.2.2.1]; omega⟩, (by unfold ir; omega), ⟨hS.2.1.1, by omega, by rw [hS.2.2.1]; omega⟩, ?_⟩
        generalize hM_21 : up My_15 (m + 1) 6 ((f 6) + 1) = M_21
        obtain ⟨g_23, hg_23⟩ : ∃ y9, y9 = uf f 6 ((f 6) + 1) := ⟨_, rfl⟩
        have r_22 : M_21 (m + 1) = g_23 := by rw [← hM_21, hg_23, up_self, r_16]
        have r_24 : M_21 m = oy_15 := by rw [← hM_21]; exact (up_row (by omega)).trans hoy_15
        have r_25 : M_21 (m + 2) = py_15 := by rw [← hM_21]; exact (up_row (by omega)).trans hpy_15
        have fr_26 : ∀ r, r ≠ m → r ≠ m + 1 → r ≠ m + 2 → M_21 r = M r := fun r q0 q1 q2 => by rw [← hM_21]; exact (up_row q1).trans (fr_19 r q0 q1 q2)
        refine WP.blk 2 ?_
        show (sT S m = 10 ∧ sR S m 0 ≠ 0) ∧ WP 2 140 65 [vR m, vI s, vI (7 + 9 * s), vI 1] [vR (sR S m 0)] (M_21, S) Q
        refine ⟨⟨hS.1.1, by rw [hS.1.2.1]; omega⟩, ?_⟩
        rw [hS.1.2.1]
        refine WP.blk 5 ?_
        show ir ((7 + 9 * s) + 6) ∧ (sT S (m + 1) = 11 ∧ 0 ≤ ((7 + 9 * s) + 6) ∧ ((7 + 9 * s) + 6) < (sN S (m + 1) : Int)) ∧ WP 2 140 71 [vR m, vI s, vI (7 + 9 * s), vI 1] [] (up M_21 (m + 1) ((7 + 9 * s) + 6) (-1), S) Q
        refine ⟨(by unfold ir; omega), ⟨hS.2.1.1, by omega, by rw [hS.2.2.1]; omega⟩, ?_⟩
        generalize hM_27 : up M_21 (m + 1) ((7 + 9 * s) + 6) (-1) = M_27
        obtain ⟨g_29, hg_29⟩ : ∃ y9, y9 = uf g_23 ((7 + 9 * s) + 6) (-1) := ⟨_, rfl⟩
        have r_28 : M_27 (m + 1) = g_29 := by rw [← hM_27, hg_29, up_self, r_22]
        have r_30 : M_27 m = oy_15 := by rw [← hM_27]; exact (up_row (by omega)).trans r_24
        have r_31 : M_27 (m + 2) = py_15 := by rw [← hM_27]; exact (up_row (by omega)).trans r_25
        have fr_32 : ∀ r, r ≠ m → r ≠ m + 1 → r ≠ m + 2 → M_27 r = M r := fun r q0 q1 q2 => by rw [← hM_27]; exact (up_row q1).trans (fr_26 r q0 q1 q2)
        refine WP.blk 2 ?_
        show (sT S m = 10 ∧ sR S m 0 ≠ 0) ∧ WP 2 140 75 [vR m, vI s, vI (7 + 9 * s), vI 1] [vR (sR S m 0)] (M_27, S) Q
        refine ⟨⟨hS.1.1, by rw [hS.1.2.1]; omega⟩, ?_⟩
        rw [hS.1.2.1]
        refine WP.blk 5 ?_
        show ir ((7 + 9 * s) + 7) ∧ (sT S (m + 1) = 11 ∧ 0 ≤ ((7 + 9 * s) + 7) ∧ ((7 + 9 * s) + 7) < (sN S (m + 1) : Int)) ∧ WP 2 140 81 [vR m, vI s, vI (7 + 9 * s), vI 1] [] (up M_27 (m + 1) ((7 + 9 * s) + 7) 0, S) Q
        refine ⟨(by unfold ir; omega), ⟨hS.2.1.1, by omega, by rw [hS.2.2.1]; omega⟩, ?_⟩
        generalize hM_33 : up M_27 (m + 1) ((7 + 9 * s) + 7) 0 = M_33
        obtain ⟨g_35, hg_35⟩ : ∃ y9, y9 = uf g_29 ((7 + 9 * s) + 7) 0 := ⟨_, rfl⟩
        have r_34 : M_33 (m + 1) = g_35 := by rw [← hM_33, hg_35, up_self, r_28]
        have r_36 : M_33 m = oy_15 := by rw [← hM_33]; exact (up_row (by omega)).trans r_30
        have r_37 : M_33 (m + 2) = py_15 := by rw [← hM_33]; exact (up_row (by omega)).trans r_31
        have fr_38 : ∀ r, r ≠ m → r ≠ m + 1 → r ≠ m + 2 → M_33 r = M r := fun r q0 q1 q2 => by rw [← hM_33]; exact (up_row q1).trans (fr_32 r q0 q1 q2)
        refine WP.blk 1 ?_
        show WP 2 140 82 [vR m, vI s, vI (7 + 9 * s), vI 1] [vI 1] (M_33, S) Q
        refine WP.ret rfl rfl rfl trivial ?_
        refine k _ _ fr_38 _ r_36 (by omega) (Or.inr ⟨by omega, by omega, ?v, ?r, _, r_37, ?s⟩)
        case v => first | rw [if_pos (by assumption)] | rw [if_neg (by assumption)]
        case r => (rw [r_34, hg_35, hg_29, hg_23]; unfold cleanR; first | rw [if_pos (by assumption)] | rw [if_neg (by assumption)])
        case s =>
          have e4 := hvy_15
          rw [show o9 4 = o 4 by omega] at e4
          exact e4
      · refine WP.blk 5 ?_
        show (sT S m = 10 ∧ sR S m 0 ≠ 0) ∧ WP 2 140 54 [vR m, vI s, vI (7 + 9 * s), vI 0] [vR (sR S m 0)] (My_15, S) Q
        refine ⟨⟨hS.1.1, by rw [hS.1.2.1]; omega⟩, ?_⟩
        rw [hS.1.2.1]
        refine WP.blk 6 ?_
        show ((sT S (m + 1) = 11 ∨ sT S (m + 1) = 16 ∨ sT S (m + 1) = 17) ∧ 0 ≤ 6 ∧ 6 < (sN S (m + 1) : Int)) ∧ ir ((My_15 (m + 1) 6) + 0) ∧ (sT S (m + 1) = 11 ∧ 0 ≤ 6 ∧ 6 < (sN S (m + 1) : Int)) ∧ WP 2 140 61 [vR m, vI s, vI (7 + 9 * s), vI 0] [] (up My_15 (m + 1) 6 ((My_15 (m + 1) 6) + 0), S) Q
        rw [r_16]
        refine ⟨⟨Or.inl hS.2.1.1, by omega, by rw [hS.2.2.1]; omega⟩, (by unfold ir; omega), ⟨hS.2.1.1, by omega, by rw [hS.2.2.1]; omega⟩, ?_⟩
        generalize hM_39 : up My_15 (m + 1) 6 ((f 6) + 0) = M_39
        obtain ⟨g_41, hg_41⟩ : ∃ y9, y9 = uf f 6 ((f 6) + 0) := ⟨_, rfl⟩
        have r_40 : M_39 (m + 1) = g_41 := by rw [← hM_39, hg_41, up_self, r_16]
        have r_42 : M_39 m = oy_15 := by rw [← hM_39]; exact (up_row (by omega)).trans hoy_15
        have r_43 : M_39 (m + 2) = py_15 := by rw [← hM_39]; exact (up_row (by omega)).trans hpy_15
        have fr_44 : ∀ r, r ≠ m → r ≠ m + 1 → r ≠ m + 2 → M_39 r = M r := fun r q0 q1 q2 => by rw [← hM_39]; exact (up_row q1).trans (fr_19 r q0 q1 q2)
        refine WP.blk 2 ?_
        show (sT S m = 10 ∧ sR S m 0 ≠ 0) ∧ WP 2 140 65 [vR m, vI s, vI (7 + 9 * s), vI 0] [vR (sR S m 0)] (M_39, S) Q
        refine ⟨⟨hS.1.1, by rw [hS.1.2.1]; omega⟩, ?_⟩
        rw [hS.1.2.1]
        refine WP.blk 5 ?_
        show ir ((7 + 9 * s) + 6) ∧ (sT S (m + 1) = 11 ∧ 0 ≤ ((7 + 9 * s) + 6) ∧ ((7 + 9 * s) + 6) < (sN S (m + 1) : Int)) ∧ WP 2 140 71 [vR m, vI s, vI (7 + 9 * s), vI 0] [] (up M_39 (m + 1) ((7 + 9 * s) + 6) (-1), S) Q
        refine ⟨(by unfold ir; omega), ⟨hS.2.1.1, by omega, by rw [hS.2.2.1]; omega⟩, ?_⟩
        generalize hM_45 : up M_39 (m + 1) ((7 + 9 * s) + 6) (-1) = M_45
        obtain ⟨g_47, hg_47⟩ : ∃ y9, y9 = uf g_41 ((7 + 9 * s) + 6) (-1) := ⟨_, rfl⟩
        have r_46 : M_45 (m + 1) = g_47 := by rw [← hM_45, hg_47, up_self, r_40]
        have r_48 : M_45 m = oy_15 := by rw [← hM_45]; exact (up_row (by omega)).trans r_42
        have r_49 : M_45 (m + 2) = py_15 := by rw [← hM_45]; exact (up_row (by omega)).trans r_43
        have fr_50 : ∀ r, r ≠ m → r ≠ m + 1 → r ≠ m + 2 → M_45 r = M r := fun r q0 q1 q2 => by rw [← hM_45]; exact (up_row q1).trans (fr_44 r q0 q1 q2)
        refine WP.blk 2 ?_
        show (sT S m = 10 ∧ sR S m 0 ≠ 0) ∧ WP 2 140 75 [vR m, vI s, vI (7 + 9 * s), vI 0] [vR (sR S m 0)] (M_45, S) Q
        refine ⟨⟨hS.1.1, by rw [hS.1.2.1]; omega⟩, ?_⟩
        rw [hS.1.2.1]
        refine WP.blk 5 ?_
        show ir ((7 + 9 * s) + 7) ∧ (sT S (m + 1) = 11 ∧ 0 ≤ ((7 + 9 * s) + 7) ∧ ((7 + 9 * s) + 7) < (sN S (m + 1) : Int)) ∧ WP 2 140 81 [vR m, vI s, vI (7 + 9 * s), vI 0] [] (up M_45 (m + 1) ((7 + 9 * s) + 7) 0, S) Q
        refine ⟨(by unfold ir; omega), ⟨hS.2.1.1, by omega, by rw [hS.2.2.1]; omega⟩, ?_⟩
        generalize hM_51 : up M_45 (m + 1) ((7 + 9 * s) + 7) 0 = M_51
        obtain ⟨g_53, hg_53⟩ : ∃ y9, y9 = uf g_47 ((7 + 9 * s) + 7) 0 := ⟨_, rfl⟩
        have r_52 : M_51 (m + 1) = g_53 := by rw [← hM_51, hg_53, up_self, r_46]
        have r_54 : M_51 m = oy_15 := by rw [← hM_51]; exact (up_row (by omega)).trans r_48
        have r_55 : M_51 (m + 2) = py_15 := by rw [← hM_51]; exact (up_row (by omega)).trans r_49
        have fr_56 : ∀ r, r ≠ m → r ≠ m + 1 → r ≠ m + 2 → M_51 r = M r := fun r q0 q1 q2 => by rw [← hM_51]; exact (up_row q1).trans (fr_50 r q0 q1 q2)
        refine WP.blk 1 ?_
        show WP 2 140 82 [vR m, vI s, vI (7 + 9 * s), vI 0] [vI 0] (M_51, S) Q
        refine WP.ret rfl rfl rfl trivial ?_
        refine k _ _ fr_56 _ r_54 (by omega) (Or.inr ⟨by omega, by omega, ?v, ?r, _, r_55, ?s⟩)
        case v => first | rw [if_pos (by assumption)] | rw [if_neg (by assumption)]
        case r => (rw [r_52, hg_53, hg_47, hg_41]; unfold cleanR; first | rw [if_pos (by assumption)] | rw [if_neg (by assumption)])
        case s =>
          have e4 := hvy_15
          rw [show o9 4 = o 4 by omega] at e4
          exact e4
    · exfalso; omega
set_option maxHeartbeats 4000000 in
theorem r_remove {S : SD} {M : Nat → Int → Int} {m : Nat} {f : Int → Int} {o p : Int → Int} {s B : Int} (hS : isMod S m) (hf : M (m + 1) = f) (ho : M m = o) (hp2 : M (m + 2) = p) (hsv : 0 ≤ o 4 ∧ o 4 ≤ 4) (hR : RowOk B f) {Q : Res → Wd → Prop} (k : ∀ (v : Int) (M2 : Nat → Int → Int), (∀ r, r ≠ m → r ≠ m + 1 → r ≠ m + 2 → M2 r = M r) → ∀ o2, M2 m = o2 → o2 7 = o 7 → (o2 5 = 1 ∧ ¬ (0 ≤ s ∧ s < f 0) ∧ M2 (m + 1) = f ∧ M2 (m + 2) = p ∧ o2 4 = o 4) ∨ (o2 5 = 0 ∧ (0 ≤ s ∧ s < f 0) ∧ v = f 0 - 1 ∧ M2 (m + 1) = remR f s ∧ ∃ p2, M2 (m + 2) = p2 ∧ SavedP p (o 4) f p2 (o2 4)) → Q (0, vI v) (M2, S)) : EvQ 3 136 [vR m, vI s] (M, S) Q := by
  refine EvQ.enter (ls := [vR m, vI s, none]) (Nat.le_of_ble_eq_true rfl) rfl ?_
  have hA := hR.1
  have hA1 := hA.1
  have hWA := hR.2.1
  have hW1 := hWA.1
  have hI := hR.2.2
  have hI2 := hI.2.1
  have hI3 := hI.2.2.1
  refine WP.blk 3 ?_
  show WP 2 136 3 [vR m, vI s, none] [vI s, vR m, vR m] (M, S) Q
  refine WP.cl (a := [vR m, vI s]) (rest := [vR m]) rfl rfl rfl rfl ⟨hS.1.1, trivial⟩ (by decide) (r_isStamp hS hf (by omega) (fun b_1 hb_1 => ⟨rfl, ?_⟩))
  show WP 2 136 6 [vR m, vI s, none] [vI b_1, vR m] (M, S) Q
  refine WP.blk 1 ?_
  show WP 2 136 (if cnd .eq b_1 0 = true then 13 else 9) [vR m, vI s, none] [vR m] (M, S) Q
  refine br_eq (fun c_2 => ?_) (fun c_2 => ?_)
  · have p_1 := (hb_1.resolve_left (fun h => by omega)).2
    refine WP.blk 1 ?_
    show WP 2 136 14 [vR m, vI s, none] [vI 1, vR m] (M, S) Q
    refine WP.cl (a := [vR m, vI 1]) (rest := []) rfl rfl rfl rfl ⟨hS.1.1, trivial⟩ (by decide) (r_refused hS hf ho (fun b_3 Mr3 fr3 o3 ho3 h53 hk3 hb_3 => ⟨rfl, ?_⟩))
    show WP 2 136 17 [vR m, vI s, none] [vI b_3] (Mr3, S) Q
    have r_4 : Mr3 (m + 1) = f := (fr3 _ (by omega)).trans hf
    have r_6 : Mr3 (m + 2) = p := (fr3 _ (by omega)).trans hp2
    have fr_7 : ∀ r, r ≠ m → r ≠ m + 1 → r ≠ m + 2 → Mr3 r = M r := fun r q0 q1 q2 => (fr3 r q0).trans ((fun _ _ _ _ => rfl) r q0 q1 q2)
    have t43 := hk3 4 (by omega)
    have t73 := hk3 7 (by omega)
    have t113 := hk3 11 (by omega)
    refine WP.blk 1 ?_
    show WP 2 136 (if cnd .eq b_3 0 = true then 22 else 20) [vR m, vI s, none] [] (Mr3, S) Q
    refine br_eq (fun c_8 => ?_) (fun c_8 => ?_)
    · exfalso; omega
    · have p_3 := (hb_3.resolve_right (fun h => by omega)).2
      refine WP.blk 1 ?_
      show WP 2 136 21 [vR m, vI s, none] [vI 0] (Mr3, S) Q
      exact WP.ret rfl rfl rfl trivial (k _ _ fr_7 _ ho3 (by omega) (by first | exact Or.inl ⟨by omega, by omega, r_4, r_6, by omega⟩))
  · have p_1 := (hb_1.resolve_right (fun h => by omega)).2
    refine WP.blk 2 ?_
    show WP 2 136 14 [vR m, vI s, none] [vI 0, vR m] (M, S) Q
    refine WP.cl (a := [vR m, vI 0]) (rest := []) rfl rfl rfl rfl ⟨hS.1.1, trivial⟩ (by decide) (r_refused hS hf ho (fun b_9 Mr9 fr9 o9 ho9 h59 hk9 hb_9 => ⟨rfl, ?_⟩))
    show WP 2 136 17 [vR m, vI s, none] [vI b_9] (Mr9, S) Q
    have r_10 : Mr9 (m + 1) = f := (fr9 _ (by omega)).trans hf
    have r_12 : Mr9 (m + 2) = p := (fr9 _ (by omega)).trans hp2
    have fr_13 : ∀ r, r ≠ m → r ≠ m + 1 → r ≠ m + 2 → Mr9 r = M r := fun r q0 q1 q2 => (fr9 r q0).trans ((fun _ _ _ _ => rfl) r q0 q1 q2)
    have t49 := hk9 4 (by omega)
    have t79 := hk9 7 (by omega)
    have t119 := hk9 11 (by omega)
    refine WP.blk 1 ?_
    show WP 2 136 (if cnd .eq b_9 0 = true then 22 else 20) [vR m, vI s, none] [] (Mr9, S) Q
    refine br_eq (fun c_14 => ?_) (fun c_14 => ?_)
    · have p_9 := (hb_9.resolve_left (fun h => by omega)).2
      refine WP.blk 1 ?_
      show WP 2 136 23 [vR m, vI s, none] [vR m] (Mr9, S) Q
      refine WP.cl (a := [vR m]) (rest := []) rfl rfl rfl rfl ⟨hS.1.1, trivial⟩ (by decide) (r_saves hS r_10 ho9 r_12 (by omega) (fun My_15 fry_15 py_15 oy_15 hpy_15 hoy_15 hky_15 hvy_15 => ⟨rfl, ?_⟩))
      show WP 2 136 26 [vR m, vI s, none] [] (My_15, S) Q
      have r_16 : My_15 (m + 1) = f := (fry_15 _ (by omega) (by omega)).trans r_10
      have fr_19 : ∀ r, r ≠ m → r ≠ m + 1 → r ≠ m + 2 → My_15 r = M r := fun r q0 q1 q2 => (fry_15 r q0 q2).trans (fr_13 r q0 q1 q2)
      have t5y_15 := hky_15 5 (by omega)
      have t7y_15 := hky_15 7 (by omega)
      have t11y_15 := hky_15 11 (by omega)
      refine WP.blk 2 ?_
      show (sT S m = 10 ∧ sR S m 0 ≠ 0) ∧ WP 2 136 30 [vR m, vI s, none] [vR (sR S m 0)] (My_15, S) Q
      refine ⟨⟨hS.1.1, by rw [hS.1.2.1]; omega⟩, ?_⟩
      rw [hS.1.2.1]
      refine WP.blk 6 ?_
      show ((sT S (m + 1) = 11 ∨ sT S (m + 1) = 16 ∨ sT S (m + 1) = 17) ∧ 0 ≤ 0 ∧ 0 < (sN S (m + 1) : Int)) ∧ ir ((My_15 (m + 1) 0) - 1) ∧ (sT S (m + 1) = 11 ∧ 0 ≤ 0 ∧ 0 < (sN S (m + 1) : Int)) ∧ WP 2 136 36 [vR m, vI s, none] [] (up My_15 (m + 1) 0 ((My_15 (m + 1) 0) - 1), S) Q
      rw [r_16]
      refine ⟨⟨Or.inl hS.2.1.1, by omega, by rw [hS.2.2.1]; omega⟩, (by unfold ir; omega), ⟨hS.2.1.1, by omega, by rw [hS.2.2.1]; omega⟩, ?_⟩
      generalize hM_20 : up My_15 (m + 1) 0 ((f 0) - 1) = M_20
      obtain ⟨g_22, hg_22⟩ : ∃ y9, y9 = uf f 0 ((f 0) - 1) := ⟨_, rfl⟩
      have r_21 : M_20 (m + 1) = g_22 := by rw [← hM_20, hg_22, up_self, r_16]
      have t_23 : g_22 0 = (f 0) - 1 := by rw [hg_22]; exact uf_at _ _ (by omega)
      have r_24 : M_20 m = oy_15 := by rw [← hM_20]; exact (up_row (by omega)).trans hoy_15
      have r_25 : M_20 (m + 2) = py_15 := by rw [← hM_20]; exact (up_row (by omega)).trans hpy_15
      have fr_26 : ∀ r, r ≠ m → r ≠ m + 1 → r ≠ m + 2 → M_20 r = M r := fun r q0 q1 q2 => by rw [← hM_20]; exact (up_row q1).trans (fr_19 r q0 q1 q2)
      refine WP.blk 1 ?_
      show WP 2 136 37 [vR m, vI s, none] [vI s] (M_20, S) Q
      refine WP.cl (a := [vI s]) (rest := []) rfl rfl rfl rfl trivial (by decide) (q_stampAt (by omega) ⟨rfl, ?_⟩)
      show WP 2 136 40 [vR m, vI s, none] [vI (7 + 9 * s)] (M_20, S) Q
      refine WP.blk 1 ?_
      show WP 2 136 41 [vR m, vI s, vI (7 + 9 * s)] [] (M_20, S) Q
      have hl_41 : ∀ (n_41 : Nat) (i : Int) (M1 : Nat → Int → Int) (g : Int → Int), 7 + 9 * s ≤ i ∧ i ≤ 7 + 9 * s + 1000 ∧ (i ≤ 7 + 9 * (f 0 - 1) ∨ i = 7 + 9 * s) → g = shR f 0 (f 0 - 1) (7 + 9 * s) 9 i → M1 (m + 1) = g → M1 m = oy_15 → M1 (m + 2) = py_15 → (∀ r, r ≠ m → r ≠ m + 1 → r ≠ m + 2 → M1 r = M r) → (7 + 9 * (f 0 - 1) - i).toNat < n_41 → WP 2 136 41 [vR m, vI s, vI i] [] (M1, S) Q := by
        intro n_41
        induction n_41 with
        | zero => intro i M1 g h0 h1 z_41_0 z_41_1 z_41_2 fr_41 hm_41; exact absurd hm_41 (Nat.not_lt_zero _)
        | succ n_41 ih_41 =>
          intro i M1 g h0 h1 z_41_0 z_41_1 z_41_2 fr_41 hm_41
          have h9 : g 0 = f 0 - 1 := by rw [h1]; exact shR_c
          refine WP.blk 3 ?_
          show (sT S m = 10 ∧ sR S m 0 ≠ 0) ∧ WP 2 136 46 [vR m, vI s, vI i] [vR (sR S m 0), vI i] (M1, S) Q
          refine ⟨⟨hS.1.1, by rw [hS.1.2.1]; omega⟩, ?_⟩
          rw [hS.1.2.1]
          refine WP.blk 2 ?_
          show ((sT S (m + 1) = 11 ∨ sT S (m + 1) = 16 ∨ sT S (m + 1) = 17) ∧ 0 ≤ 0 ∧ 0 < (sN S (m + 1) : Int)) ∧ WP 2 136 48 [vR m, vI s, vI i] [vI (M1 (m + 1) 0), vI i] (M1, S) Q
          rw [z_41_0]
          refine ⟨⟨Or.inl hS.2.1.1, by omega, by rw [hS.2.2.1]; omega⟩, ?_⟩
          refine WP.cl (a := [vI (g 0)]) (rest := [vI i]) rfl rfl rfl rfl trivial (by decide) (q_stampAt (by omega) ⟨rfl, ?_⟩)
          show WP 2 136 51 [vR m, vI s, vI i] [vI (7 + 9 * (g 0)), vI i] (M1, S) Q
          refine WP.blk 1 ?_
          show WP 2 136 (if cnd .ge i (7 + 9 * (g 0)) = true then 75 else 54) [vR m, vI s, vI i] [] (M1, S) Q
          refine br_ge (fun c_27 => ?_) (fun c_27 => ?_)
          · refine WP.blk 2 ?_
            show (sT S m = 10 ∧ sR S m 0 ≠ 0) ∧ WP 2 136 79 [vR m, vI s, vI i] [vR (sR S m 0)] (M1, S) Q
            refine ⟨⟨hS.1.1, by rw [hS.1.2.1]; omega⟩, ?_⟩
            rw [hS.1.2.1]
            refine WP.blk 2 ?_
            show ((sT S (m + 1) = 11 ∨ sT S (m + 1) = 16 ∨ sT S (m + 1) = 17) ∧ 0 ≤ 0 ∧ 0 < (sN S (m + 1) : Int)) ∧ WP 2 136 81 [vR m, vI s, vI i] [vI (M1 (m + 1) 0)] (M1, S) Q
            rw [z_41_0]
            refine ⟨⟨Or.inl hS.2.1.1, by omega, by rw [hS.2.2.1]; omega⟩, ?_⟩
            refine WP.ret rfl rfl rfl trivial ?_
            refine k _ _ fr_41 _ z_41_1 (by omega) (Or.inr ⟨by omega, by omega, ?v, ?r, _, z_41_2, ?s⟩)
            case v => first | omega | rfl
            case r => (rw [z_41_0, h1]; unfold shR remR; first | rw [show i = 7 + 9 * (f 0 - 1) by omega] | (funext k; by_cases hk : k = 0; rw [if_pos hk, if_pos hk]; rw [if_neg hk, if_neg hk, if_neg (by omega), if_neg (by omega)]))
            case s =>
              have e4 := hvy_15
              rw [show o9 4 = o 4 by omega] at e4
              exact e4
          · refine WP.blk 2 ?_
            show (sT S m = 10 ∧ sR S m 0 ≠ 0) ∧ WP 2 136 58 [vR m, vI s, vI i] [vR (sR S m 0)] (M1, S) Q
            refine ⟨⟨hS.1.1, by rw [hS.1.2.1]; omega⟩, ?_⟩
            rw [hS.1.2.1]
            refine WP.blk 3 ?_
            show (sT S m = 10 ∧ sR S m 0 ≠ 0) ∧ WP 2 136 63 [vR m, vI s, vI i] [vR (sR S m 0), vI i, vR (m + 1)] (M1, S) Q
            refine ⟨⟨hS.1.1, by rw [hS.1.2.1]; omega⟩, ?_⟩
            rw [hS.1.2.1]
            refine WP.blk 5 ?_
            show ir (i + 9) ∧ ((sT S (m + 1) = 11 ∨ sT S (m + 1) = 16 ∨ sT S (m + 1) = 17) ∧ 0 ≤ (i + 9) ∧ (i + 9) < (sN S (m + 1) : Int)) ∧ (sT S (m + 1) = 11 ∧ 0 ≤ i ∧ i < (sN S (m + 1) : Int)) ∧ WP 2 136 69 [vR m, vI s, vI i] [] (up M1 (m + 1) i (M1 (m + 1) (i + 9)), S) Q
            rw [z_41_0]
            refine ⟨(by unfold ir; omega), ⟨Or.inl hS.2.1.1, by omega, by rw [hS.2.2.1]; omega⟩, ⟨hS.2.1.1, by omega, by rw [hS.2.2.1]; omega⟩, ?_⟩
            generalize hM_28 : up M1 (m + 1) i (g (i + 9)) = M_28
            obtain ⟨g_30, hg_30⟩ : ∃ y9, y9 = uf g i (g (i + 9)) := ⟨_, rfl⟩
            have r_29 : M_28 (m + 1) = g_30 := by rw [← hM_28, hg_30, up_self, z_41_0]
            have t_31 : g_30 0 = g 0 := by rw [hg_30]; exact uf_ne (by omega)
            have r_32 : M_28 m = oy_15 := by rw [← hM_28]; exact (up_row (by omega)).trans z_41_1
            have r_33 : M_28 (m + 2) = py_15 := by rw [← hM_28]; exact (up_row (by omega)).trans z_41_2
            have fr_34 : ∀ r, r ≠ m → r ≠ m + 1 → r ≠ m + 2 → M_28 r = M r := fun r q0 q1 q2 => by rw [← hM_28]; exact (up_row q1).trans (fr_41 r q0 q1 q2)
            refine WP.blk 2 ?_
            show ir (i + 1) ∧ WP 2 136 41 [vR m, vI s, vI (i + 1)] [] (M_28, S) Q
            refine ⟨(by unfold ir; omega), ?_⟩
            exact ih_41 (i + 1) M_28 g_30 (by omega) (by rw [hg_30, h1]; exact shR_s (by omega) (by omega) (by omega) rfl) r_29 r_32 r_33 fr_34 (by omega)
      exact hl_41 _ (7 + 9 * s) M_20 g_22 (by omega) (by rw [hg_22]; exact shR_0.symm) r_21 r_24 r_25 fr_26 (Nat.lt_succ_self _)
    · exfalso; omega
set_option maxHeartbeats 4000000 in
theorem r_drop {S : SD} {M : Nat → Int → Int} {m : Nat} {f : Int → Int} {o p : Int → Int} {s B : Int} (hS : isMod S m) (hf : M (m + 1) = f) (ho : M m = o) (hp2 : M (m + 2) = p) (hsv : 0 ≤ o 4 ∧ o 4 ≤ 4) (hR : RowOk B f) {Q : Res → Wd → Prop} (k : ∀ (v : Int) (M2 : Nat → Int → Int), (∀ r, r ≠ m → r ≠ m + 1 → r ≠ m + 2 → M2 r = M r) → ∀ o2, M2 m = o2 → o2 7 = o 7 → (o2 5 = 1 ∧ ¬ (0 ≤ s ∧ s < f 1) ∧ M2 (m + 1) = f ∧ M2 (m + 2) = p ∧ o2 4 = o 4) ∨ (o2 5 = 0 ∧ (0 ≤ s ∧ s < f 1) ∧ v = f 1 - 1 ∧ M2 (m + 1) = dropR f s ∧ ∃ p2, M2 (m + 2) = p2 ∧ SavedP p (o 4) f p2 (o2 4)) → Q (0, vI v) (M2, S)) : EvQ 3 137 [vR m, vI s] (M, S) Q := by
  refine EvQ.enter (ls := [vR m, vI s, none]) (Nat.le_of_ble_eq_true rfl) rfl ?_
  have hA := hR.1
  have hA1 := hA.1
  have hWA := hR.2.1
  have hW1 := hWA.1
  have hI := hR.2.2
  have hI2 := hI.2.1
  have hI3 := hI.2.2.1
  refine WP.blk 3 ?_
  show WP 2 137 3 [vR m, vI s, none] [vI s, vR m, vR m] (M, S) Q
  refine WP.cl (a := [vR m, vI s]) (rest := [vR m]) rfl rfl rfl rfl ⟨hS.1.1, trivial⟩ (by decide) (r_isWord hS hf (by omega) (fun b_1 hb_1 => ⟨rfl, ?_⟩))
  show WP 2 137 6 [vR m, vI s, none] [vI b_1, vR m] (M, S) Q
  refine WP.blk 1 ?_
  show WP 2 137 (if cnd .eq b_1 0 = true then 13 else 9) [vR m, vI s, none] [vR m] (M, S) Q
  refine br_eq (fun c_2 => ?_) (fun c_2 => ?_)
  · have p_1 := (hb_1.resolve_left (fun h => by omega)).2
    refine WP.blk 1 ?_
    show WP 2 137 14 [vR m, vI s, none] [vI 1, vR m] (M, S) Q
    refine WP.cl (a := [vR m, vI 1]) (rest := []) rfl rfl rfl rfl ⟨hS.1.1, trivial⟩ (by decide) (r_refused hS hf ho (fun b_3 Mr3 fr3 o3 ho3 h53 hk3 hb_3 => ⟨rfl, ?_⟩))
    show WP 2 137 17 [vR m, vI s, none] [vI b_3] (Mr3, S) Q
    have r_4 : Mr3 (m + 1) = f := (fr3 _ (by omega)).trans hf
    have r_6 : Mr3 (m + 2) = p := (fr3 _ (by omega)).trans hp2
    have fr_7 : ∀ r, r ≠ m → r ≠ m + 1 → r ≠ m + 2 → Mr3 r = M r := fun r q0 q1 q2 => (fr3 r q0).trans ((fun _ _ _ _ => rfl) r q0 q1 q2)
    have t43 := hk3 4 (by omega)
    have t73 := hk3 7 (by omega)
    have t113 := hk3 11 (by omega)
    refine WP.blk 1 ?_
    show WP 2 137 (if cnd .eq b_3 0 = true then 22 else 20) [vR m, vI s, none] [] (Mr3, S) Q
    refine br_eq (fun c_8 => ?_) (fun c_8 => ?_)
    · exfalso; omega
    · have p_3 := (hb_3.resolve_right (fun h => by omega)).2
      refine WP.blk 1 ?_
      show WP 2 137 21 [vR m, vI s, none] [vI 0] (Mr3, S) Q
      exact WP.ret rfl rfl rfl trivial (k _ _ fr_7 _ ho3 (by omega) (by first | exact Or.inl ⟨by omega, by omega, r_4, r_6, by omega⟩))
  · have p_1 := (hb_1.resolve_right (fun h => by omega)).2
    refine WP.blk 2 ?_
    show WP 2 137 14 [vR m, vI s, none] [vI 0, vR m] (M, S) Q
    refine WP.cl (a := [vR m, vI 0]) (rest := []) rfl rfl rfl rfl ⟨hS.1.1, trivial⟩ (by decide) (r_refused hS hf ho (fun b_9 Mr9 fr9 o9 ho9 h59 hk9 hb_9 => ⟨rfl, ?_⟩))
    show WP 2 137 17 [vR m, vI s, none] [vI b_9] (Mr9, S) Q
    have r_10 : Mr9 (m + 1) = f := (fr9 _ (by omega)).trans hf
    have r_12 : Mr9 (m + 2) = p := (fr9 _ (by omega)).trans hp2
    have fr_13 : ∀ r, r ≠ m → r ≠ m + 1 → r ≠ m + 2 → Mr9 r = M r := fun r q0 q1 q2 => (fr9 r q0).trans ((fun _ _ _ _ => rfl) r q0 q1 q2)
    have t49 := hk9 4 (by omega)
    have t79 := hk9 7 (by omega)
    have t119 := hk9 11 (by omega)
    refine WP.blk 1 ?_
    show WP 2 137 (if cnd .eq b_9 0 = true then 22 else 20) [vR m, vI s, none] [] (Mr9, S) Q
    refine br_eq (fun c_14 => ?_) (fun c_14 => ?_)
    · have p_9 := (hb_9.resolve_left (fun h => by omega)).2
      refine WP.blk 1 ?_
      show WP 2 137 23 [vR m, vI s, none] [vR m] (Mr9, S) Q
      refine WP.cl (a := [vR m]) (rest := []) rfl rfl rfl rfl ⟨hS.1.1, trivial⟩ (by decide) (r_saves hS r_10 ho9 r_12 (by omega) (fun My_15 fry_15 py_15 oy_15 hpy_15 hoy_15 hky_15 hvy_15 => ⟨rfl, ?_⟩))
      show WP 2 137 26 [vR m, vI s, none] [] (My_15, S) Q
      have r_16 : My_15 (m + 1) = f := (fry_15 _ (by omega) (by omega)).trans r_10
      have fr_19 : ∀ r, r ≠ m → r ≠ m + 1 → r ≠ m + 2 → My_15 r = M r := fun r q0 q1 q2 => (fry_15 r q0 q2).trans (fr_13 r q0 q1 q2)
      have t5y_15 := hky_15 5 (by omega)
      have t7y_15 := hky_15 7 (by omega)
      have t11y_15 := hky_15 11 (by omega)
      refine WP.blk 2 ?_
      show (sT S m = 10 ∧ sR S m 0 ≠ 0) ∧ WP 2 137 30 [vR m, vI s, none] [vR (sR S m 0)] (My_15, S) Q
      refine ⟨⟨hS.1.1, by rw [hS.1.2.1]; omega⟩, ?_⟩
      rw [hS.1.2.1]
      refine WP.blk 6 ?_
      show ((sT S (m + 1) = 11 ∨ sT S (m + 1) = 16 ∨ sT S (m + 1) = 17) ∧ 0 ≤ 1 ∧ 1 < (sN S (m + 1) : Int)) ∧ ir ((My_15 (m + 1) 1) - 1) ∧ (sT S (m + 1) = 11 ∧ 0 ≤ 1 ∧ 1 < (sN S (m + 1) : Int)) ∧ WP 2 137 36 [vR m, vI s, none] [] (up My_15 (m + 1) 1 ((My_15 (m + 1) 1) - 1), S) Q
      rw [r_16]
      refine ⟨⟨Or.inl hS.2.1.1, by omega, by rw [hS.2.2.1]; omega⟩, (by unfold ir; omega), ⟨hS.2.1.1, by omega, by rw [hS.2.2.1]; omega⟩, ?_⟩
      generalize hM_20 : up My_15 (m + 1) 1 ((f 1) - 1) = M_20
      obtain ⟨g_22, hg_22⟩ : ∃ y9, y9 = uf f 1 ((f 1) - 1) := ⟨_, rfl⟩
      have r_21 : M_20 (m + 1) = g_22 := by rw [← hM_20, hg_22, up_self, r_16]
      have t_23 : g_22 1 = (f 1) - 1 := by rw [hg_22]; exact uf_at _ _ (by omega)
      have r_24 : M_20 m = oy_15 := by rw [← hM_20]; exact (up_row (by omega)).trans hoy_15
      have r_25 : M_20 (m + 2) = py_15 := by rw [← hM_20]; exact (up_row (by omega)).trans hpy_15
      have fr_26 : ∀ r, r ≠ m → r ≠ m + 1 → r ≠ m + 2 → M_20 r = M r := fun r q0 q1 q2 => by rw [← hM_20]; exact (up_row q1).trans (fr_19 r q0 q1 q2)
      refine WP.blk 1 ?_
      show WP 2 137 37 [vR m, vI s, none] [vI s] (M_20, S) Q
      refine WP.cl (a := [vI s]) (rest := []) rfl rfl rfl rfl trivial (by decide) (q_wordAt (by omega) ⟨rfl, ?_⟩)
      show WP 2 137 40 [vR m, vI s, none] [vI (97 + 14 * s)] (M_20, S) Q
      refine WP.blk 1 ?_
      show WP 2 137 41 [vR m, vI s, vI (97 + 14 * s)] [] (M_20, S) Q
      have hl_41 : ∀ (n_41 : Nat) (i : Int) (M1 : Nat → Int → Int) (g : Int → Int), 97 + 14 * s ≤ i ∧ i ≤ 97 + 14 * s + 1000 ∧ (i ≤ 97 + 14 * (f 1 - 1) ∨ i = 97 + 14 * s) → g = shR f 1 (f 1 - 1) (97 + 14 * s) 14 i → M1 (m + 1) = g → M1 m = oy_15 → M1 (m + 2) = py_15 → (∀ r, r ≠ m → r ≠ m + 1 → r ≠ m + 2 → M1 r = M r) → (97 + 14 * (f 1 - 1) - i).toNat < n_41 → WP 2 137 41 [vR m, vI s, vI i] [] (M1, S) Q := by
        intro n_41
        induction n_41 with
        | zero => intro i M1 g h0 h1 z_41_0 z_41_1 z_41_2 fr_41 hm_41; exact absurd hm_41 (Nat.not_lt_zero _)
        | succ n_41 ih_41 =>
          intro i M1 g h0 h1 z_41_0 z_41_1 z_41_2 fr_41 hm_41
          have h9 : g 1 = f 1 - 1 := by rw [h1]; exact shR_c
          refine WP.blk 3 ?_
          show (sT S m = 10 ∧ sR S m 0 ≠ 0) ∧ WP 2 137 46 [vR m, vI s, vI i] [vR (sR S m 0), vI i] (M1, S) Q
          refine ⟨⟨hS.1.1, by rw [hS.1.2.1]; omega⟩, ?_⟩
          rw [hS.1.2.1]
          refine WP.blk 2 ?_
          show ((sT S (m + 1) = 11 ∨ sT S (m + 1) = 16 ∨ sT S (m + 1) = 17) ∧ 0 ≤ 1 ∧ 1 < (sN S (m + 1) : Int)) ∧ WP 2 137 48 [vR m, vI s, vI i] [vI (M1 (m + 1) 1), vI i] (M1, S) Q
          rw [z_41_0]
          refine ⟨⟨Or.inl hS.2.1.1, by omega, by rw [hS.2.2.1]; omega⟩, ?_⟩
          refine WP.cl (a := [vI (g 1)]) (rest := [vI i]) rfl rfl rfl rfl trivial (by decide) (q_wordAt (by omega) ⟨rfl, ?_⟩)
          show WP 2 137 51 [vR m, vI s, vI i] [vI (97 + 14 * (g 1)), vI i] (M1, S) Q
          refine WP.blk 1 ?_
          show WP 2 137 (if cnd .ge i (97 + 14 * (g 1)) = true then 75 else 54) [vR m, vI s, vI i] [] (M1, S) Q
          refine br_ge (fun c_27 => ?_) (fun c_27 => ?_)
          · refine WP.blk 2 ?_
            show (sT S m = 10 ∧ sR S m 0 ≠ 0) ∧ WP 2 137 79 [vR m, vI s, vI i] [vR (sR S m 0)] (M1, S) Q
            refine ⟨⟨hS.1.1, by rw [hS.1.2.1]; omega⟩, ?_⟩
            rw [hS.1.2.1]
            refine WP.blk 2 ?_
            show ((sT S (m + 1) = 11 ∨ sT S (m + 1) = 16 ∨ sT S (m + 1) = 17) ∧ 0 ≤ 1 ∧ 1 < (sN S (m + 1) : Int)) ∧ WP 2 137 81 [vR m, vI s, vI i] [vI (M1 (m + 1) 1)] (M1, S) Q
            rw [z_41_0]
            refine ⟨⟨Or.inl hS.2.1.1, by omega, by rw [hS.2.2.1]; omega⟩, ?_⟩
            refine WP.ret rfl rfl rfl trivial ?_
            refine k _ _ fr_41 _ z_41_1 (by omega) (Or.inr ⟨by omega, by omega, ?v, ?r, _, z_41_2, ?s⟩)
            case v => first | omega | rfl
            case r => (rw [z_41_0, h1]; unfold shR dropR; first | rw [show i = 97 + 14 * (f 1 - 1) by omega] | (funext k; by_cases hk : k = 1; rw [if_pos hk, if_pos hk]; rw [if_neg hk, if_neg hk, if_neg (by omega), if_neg (by omega)]))
            case s =>
              have e4 := hvy_15
              rw [show o9 4 = o 4 by omega] at e4
              exact e4
          · refine WP.blk 2 ?_
            show (sT S m = 10 ∧ sR S m 0 ≠ 0) ∧ WP 2 137 58 [vR m, vI s, vI i] [vR (sR S m 0)] (M1, S) Q
            refine ⟨⟨hS.1.1, by rw [hS.1.2.1]; omega⟩, ?_⟩
            rw [hS.1.2.1]
            refine WP.blk 3 ?_
            show (sT S m = 10 ∧ sR S m 0 ≠ 0) ∧ WP 2 137 63 [vR m, vI s, vI i] [vR (sR S m 0), vI i, vR (m + 1)] (M1, S) Q
            refine ⟨⟨hS.1.1, by rw [hS.1.2.1]; omega⟩, ?_⟩
            rw [hS.1.2.1]
            refine WP.blk 5 ?_
            show ir (i + 14) ∧ ((sT S (m + 1) = 11 ∨ sT S (m + 1) = 16 ∨ sT S (m + 1) = 17) ∧ 0 ≤ (i + 14) ∧ (i + 14) < (sN S (m + 1) : Int)) ∧ (sT S (m + 1) = 11 ∧ 0 ≤ i ∧ i < (sN S (m + 1) : Int)) ∧ WP 2 137 69 [vR m, vI s, vI i] [] (up M1 (m + 1) i (M1 (m + 1) (i + 14)), S) Q
            rw [z_41_0]
            refine ⟨(by unfold ir; omega), ⟨Or.inl hS.2.1.1, by omega, by rw [hS.2.2.1]; omega⟩, ⟨hS.2.1.1, by omega, by rw [hS.2.2.1]; omega⟩, ?_⟩
            generalize hM_28 : up M1 (m + 1) i (g (i + 14)) = M_28
            obtain ⟨g_30, hg_30⟩ : ∃ y9, y9 = uf g i (g (i + 14)) := ⟨_, rfl⟩
            have r_29 : M_28 (m + 1) = g_30 := by rw [← hM_28, hg_30, up_self, z_41_0]
            have t_31 : g_30 1 = g 1 := by rw [hg_30]; exact uf_ne (by omega)
            have r_32 : M_28 m = oy_15 := by rw [← hM_28]; exact (up_row (by omega)).trans z_41_1
            have r_33 : M_28 (m + 2) = py_15 := by rw [← hM_28]; exact (up_row (by omega)).trans z_41_2
            have fr_34 : ∀ r, r ≠ m → r ≠ m + 1 → r ≠ m + 2 → M_28 r = M r := fun r q0 q1 q2 => by rw [← hM_28]; exact (up_row q1).trans (fr_41 r q0 q1 q2)
            refine WP.blk 2 ?_
            show ir (i + 1) ∧ WP 2 137 41 [vR m, vI s, vI (i + 1)] [] (M_28, S) Q
            refine ⟨(by unfold ir; omega), ?_⟩
            exact ih_41 (i + 1) M_28 g_30 (by omega) (by rw [hg_30, h1]; exact shR_s (by omega) (by omega) (by omega) rfl) r_29 r_32 r_33 fr_34 (by omega)
      exact hl_41 _ (97 + 14 * s) M_20 g_22 (by omega) (by rw [hg_22]; exact shR_0.symm) r_21 r_24 r_25 fr_26 (Nat.lt_succ_self _)
    · exfalso; omega
