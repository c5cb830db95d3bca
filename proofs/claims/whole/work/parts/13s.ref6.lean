set_option maxHeartbeats 4000000 in
theorem r_refused {S : SD} {M : Nat → Int → Int} {m : Nat} {f : Int → Int} {o : Int → Int} {x : Int} (hS : isMod S m) (hf : M (m + 1) = f) (ho : M m = o) {Q : Res → Wd → Prop} (k : ∀ (b : Int) (M2 : Nat → Int → Int), (∀ r, r ≠ m → M2 r = M r) → ∀ o2, M2 m = o2 → o2 5 = x → (∀ k, k ≠ 5 → o2 k = o k) → (b = 1 ∧ 0 < x) ∨ (b = 0 ∧ ¬ (0 < x)) → Q (0, vI b) (M2, S)) : EvQ 1 111 [vR m, vI x] (M, S) Q := by
  refine EvQ.enter (ls := [vR m, vI x]) (Nat.le_of_ble_eq_true rfl) rfl ?_
  refine WP.blk 3 ?_
  show sT S m = 10 ∧ WP 0 111 5 [vR m, vI x] [] (up M m 5 x, S) Q
  refine ⟨hS.1.1, ?_⟩
  generalize hM_1 : up M m 5 x = M_1
  have r_2 : M_1 (m + 1) = f := by rw [← hM_1]; exact (up_row (by omega)).trans hf
  obtain ⟨g_4, hg_4⟩ : ∃ y9, y9 = uf o 5 x := ⟨_, rfl⟩
  have r_3 : M_1 m = g_4 := by rw [← hM_1, hg_4, up_self, ho]
  have t_5 : g_4 5 = x := by rw [hg_4]; exact uf_at _ _ (by omega)
  have fr_6 : ∀ r, r ≠ m → M_1 r = M r := fun r q0 => by rw [← hM_1]; exact (up_row q0).trans ((fun _ _ => rfl) r q0)
  refine WP.blk 2 ?_
  show WP 0 111 (if cnd .le x 0 = true then 13 else 9) [vR m, vI x] [] (M_1, S) Q
  refine br_le (fun c_7 => ?_) (fun c_7 => ?_)
  · refine WP.blk 1 ?_
    show WP 0 111 14 [vR m, vI x] [vI 0] (M_1, S) Q
    exact WP.ret rfl rfl rfl ⟨by omega, trivial⟩ (k _ _ fr_6 _ r_3 (by omega) (fun j hj => by rw [hg_4]; exact uf_ne hj) (by omega))
  · refine WP.blk 2 ?_
    show WP 0 111 14 [vR m, vI x] [vI 1] (M_1, S) Q
    exact WP.ret rfl rfl rfl ⟨by omega, trivial⟩ (k _ _ fr_6 _ r_3 (by omega) (fun j hj => by rw [hg_4]; exact uf_ne hj) (by omega))
set_option maxHeartbeats 4000000 in
theorem r_value {S : SD} {M : Nat → Int → Int} {m : Nat} {f : Int → Int} {o : Int → Int} {a B : Int} (hS : isMod S m) (hf : M (m + 1) = f) (ho : M m = o) (hR : RowOk B f) {Q : Res → Wd → Prop} (k : ∀ (v : Int) (M2 : Nat → Int → Int), (∀ r, r ≠ m → r ≠ m + 6 → M2 r = M r) → ∀ o2, M2 m = o2 → o2 4 = o 4 → o2 7 = o 7 → (o2 5 = 1 ∧ ¬ (0 ≤ a ∧ a ≤ 8)) ∨ (o2 5 = 0 ∧ (0 ≤ a ∧ a ≤ 8) ∧ TellV f a v) → Q (0, vI v) (M2, S)) : EvQ 7 150 [vR m, vI a] (M, S) Q := by
  refine EvQ.enter (ls := [vR m, vI a]) (Nat.le_of_ble_eq_true rfl) rfl ?_
  obtain ⟨g0, hg0⟩ : ∃ g, M (m + 6) = g := ⟨_, rfl⟩
  refine WP.blk 4 ?_
  show WP 6 150 5 [vR m, vI a] [vI 8, vI 0, vI a, vR m] (M, S) Q
  refine WP.cl (a := [vI a, vI 0, vI 8]) (rest := [vR m]) rfl rfl rfl rfl trivial (by decide) (q_in  (fun b_1 hb_1 => ⟨rfl, ?_⟩))
  show WP 6 150 8 [vR m, vI a] [vI b_1, vR m] (M, S) Q
  refine WP.blk 1 ?_
  show WP 6 150 (if cnd .eq b_1 0 = true then 15 else 11) [vR m, vI a] [vR m] (M, S) Q
  refine br_eq (fun c_2 => ?_) (fun c_2 => ?_)
  · have p_1 := (hb_1.resolve_left (fun h => by omega)).2
    refine WP.blk 1 ?_
    show WP 6 150 16 [vR m, vI a] [vI 1, vR m] (M, S) Q
    refine WP.cl (a := [vR m, vI 1]) (rest := []) rfl rfl rfl rfl ⟨hS.1.1, trivial⟩ (by decide) (r_refused hS hf ho (fun b_3 Mr3 fr3 o3 ho3 h53 hk3 hb_3 => ⟨rfl, ?_⟩))
    show WP 6 150 19 [vR m, vI a] [vI b_3] (Mr3, S) Q
    have r_4 : Mr3 (m + 1) = f := (fr3 _ (by omega)).trans hf
    have r_6 : Mr3 (m + 6) = g0 := (fr3 _ (by omega)).trans hg0
    have fr_7 : ∀ r, r ≠ m → r ≠ m + 6 → Mr3 r = M r := fun r q0 q1 => (fr3 r q0).trans ((fun _ _ _ => rfl) r q0 q1)
    have t43 := hk3 4 (by omega)
    have t73 := hk3 7 (by omega)
    refine WP.blk 1 ?_
    show WP 6 150 (if cnd .eq b_3 0 = true then 26 else 22) [vR m, vI a] [] (Mr3, S) Q
    refine br_eq (fun c_8 => ?_) (fun c_8 => ?_)
    · have p_3 := (hb_3.resolve_left (fun h => by omega)).2
      refine WP.blk 2 ?_
      show WP 6 150 28 [vR m, vI a] [vI a, vR m] (Mr3, S) Q
      refine WP.cl (a := [vR m, vI a]) (rest := []) rfl rfl rfl rfl ⟨hS.1.1, trivial⟩ (by decide) (r_tellValue hS r_4 hR (by omega) (fun vy_9 My_9 fry_9 hvy_9 => ⟨rfl, ?_⟩))
      show WP 6 150 31 [vR m, vI a] [vI vy_9] (My_9, S) Q
      have r_10 : My_9 (m + 1) = f := (fry_9 _ (by omega)).trans r_4
      have r_11 : My_9 m = o3 := (fry_9 _ (by omega)).trans ho3
      obtain ⟨g_13, r_12⟩ : ∃ y9, My_9 (m + 6) = y9 := ⟨_, rfl⟩
      have fr_14 : ∀ r, r ≠ m → r ≠ m + 6 → My_9 r = M r := fun r q0 q1 => (fry_9 r q1).trans (fr_7 r q0 q1)
      exact WP.ret rfl rfl rfl trivial (k _ _ fr_14 _ r_11 (by omega) (by omega) (by first | exact Or.inl ⟨by omega, by omega⟩ | exact Or.inr ⟨by omega, by omega, by assumption⟩))
    · have p_3 := (hb_3.resolve_right (fun h => by omega)).2
      refine WP.blk 2 ?_
      show WP 6 150 31 [vR m, vI a] [vI 0] (Mr3, S) Q
      exact WP.ret rfl rfl rfl trivial (k _ _ fr_7 _ ho3 (by omega) (by omega) (by first | exact Or.inl ⟨by omega, by omega⟩ | exact Or.inr ⟨by omega, by omega, by assumption⟩))
  · have p_1 := (hb_1.resolve_right (fun h => by omega)).2
    refine WP.blk 2 ?_
    show WP 6 150 16 [vR m, vI a] [vI 0, vR m] (M, S) Q
    refine WP.cl (a := [vR m, vI 0]) (rest := []) rfl rfl rfl rfl ⟨hS.1.1, trivial⟩ (by decide) (r_refused hS hf ho (fun b_15 Mr15 fr15 o15 ho15 h515 hk15 hb_15 => ⟨rfl, ?_⟩))
    show WP 6 150 19 [vR m, vI a] [vI b_15] (Mr15, S) Q
    have r_16 : Mr15 (m + 1) = f := (fr15 _ (by omega)).trans hf
    have r_18 : Mr15 (m + 6) = g0 := (fr15 _ (by omega)).trans hg0
    have fr_19 : ∀ r, r ≠ m → r ≠ m + 6 → Mr15 r = M r := fun r q0 q1 => (fr15 r q0).trans ((fun _ _ _ => rfl) r q0 q1)
    have t415 := hk15 4 (by omega)
    have t715 := hk15 7 (by omega)
    refine WP.blk 1 ?_
    show WP 6 150 (if cnd .eq b_15 0 = true then 26 else 22) [vR m, vI a] [] (Mr15, S) Q
    refine br_eq (fun c_20 => ?_) (fun c_20 => ?_)
    · have p_15 := (hb_15.resolve_left (fun h => by omega)).2
      refine WP.blk 2 ?_
      show WP 6 150 28 [vR m, vI a] [vI a, vR m] (Mr15, S) Q
      refine WP.cl (a := [vR m, vI a]) (rest := []) rfl rfl rfl rfl ⟨hS.1.1, trivial⟩ (by decide) (r_tellValue hS r_16 hR (by omega) (fun vy_21 My_21 fry_21 hvy_21 => ⟨rfl, ?_⟩))
      show WP 6 150 31 [vR m, vI a] [vI vy_21] (My_21, S) Q
      have r_22 : My_21 (m + 1) = f := (fry_21 _ (by omega)).trans r_16
      have r_23 : My_21 m = o15 := (fry_21 _ (by omega)).trans ho15
      obtain ⟨g_25, r_24⟩ : ∃ y9, My_21 (m + 6) = y9 := ⟨_, rfl⟩
      have fr_26 : ∀ r, r ≠ m → r ≠ m + 6 → My_21 r = M r := fun r q0 q1 => (fry_21 r q1).trans (fr_19 r q0 q1)
      exact WP.ret rfl rfl rfl trivial (k _ _ fr_26 _ r_23 (by omega) (by omega) (by first | exact Or.inl ⟨by omega, by omega⟩ | exact Or.inr ⟨by omega, by omega, by assumption⟩))
    · have p_15 := (hb_15.resolve_right (fun h => by omega)).2
      refine WP.blk 2 ?_
      show WP 6 150 31 [vR m, vI a] [vI 0] (Mr15, S) Q
      exact WP.ret rfl rfl rfl trivial (k _ _ fr_19 _ ho15 (by omega) (by omega) (by first | exact Or.inl ⟨by omega, by omega⟩ | exact Or.inr ⟨by omega, by omega, by assumption⟩))
set_option maxHeartbeats 4000000 in
theorem r_stamp {S : SD} {M : Nat → Int → Int} {m : Nat} {f : Int → Int} {o : Int → Int} {s a B : Int} (hS : isMod S m) (hf : M (m + 1) = f) (ho : M m = o) (hR : RowOk B f) {Q : Res → Wd → Prop} (k : ∀ (v : Int) (M2 : Nat → Int → Int), (∀ r, r ≠ m → M2 r = M r) → ∀ o2, M2 m = o2 → o2 4 = o 4 → o2 7 = o 7 → (o2 5 = 1 ∧ ¬ (0 ≤ s ∧ s < f 0)) ∨ (o2 5 = 2 ∧ (0 ≤ s ∧ s < f 0) ∧ ¬ (0 ≤ a ∧ a ≤ 5)) ∨ (o2 5 = 0 ∧ (0 ≤ s ∧ s < f 0) ∧ (0 ≤ a ∧ a ≤ 5) ∧ TellS f s a v) → Q (0, vI v) (M2, S)) : EvQ 4 152 [vR m, vI s, vI a] (M, S) Q := by
  refine EvQ.enter (ls := [vR m, vI s, vI a]) (Nat.le_of_ble_eq_true rfl) rfl ?_
  have hA := hR.1
  have hA1 := hA.1
  have hWA := hR.2.1
  have hW1 := hWA.1
  have hI := hR.2.2
  have hI2 := hI.2.1
  have hI3 := hI.2.2.1
  refine WP.blk 3 ?_
  show WP 3 152 3 [vR m, vI s, vI a] [vI s, vR m, vR m] (M, S) Q
  refine WP.cl (a := [vR m, vI s]) (rest := [vR m]) rfl rfl rfl rfl ⟨hS.1.1, trivial⟩ (by decide) (r_isStamp hS hf (by omega) (fun b_1 hb_1 => ⟨rfl, ?_⟩))
  show WP 3 152 6 [vR m, vI s, vI a] [vI b_1, vR m] (M, S) Q
  refine WP.blk 1 ?_
  show WP 3 152 (if cnd .ne b_1 0 = true then 13 else 9) [vR m, vI s, vI a] [vR m] (M, S) Q
  refine br_ne (fun c_2 => ?_) (fun c_2 => ?_)
  · have p_1 := (hb_1.resolve_right (fun h => by omega)).2
    refine WP.blk 3 ?_
    show WP 3 152 16 [vR m, vI s, vI a] [vI 5, vI 0, vI a, vR m] (M, S) Q
    refine WP.cl (a := [vI a, vI 0, vI 5]) (rest := [vR m]) rfl rfl rfl rfl trivial (by decide) (q_in  (fun b_3 hb_3 => ⟨rfl, ?_⟩))
    show WP 3 152 19 [vR m, vI s, vI a] [vI b_3, vR m] (M, S) Q
    refine WP.blk 1 ?_
    show WP 3 152 (if cnd .eq b_3 0 = true then 26 else 22) [vR m, vI s, vI a] [vR m] (M, S) Q
    refine br_eq (fun c_4 => ?_) (fun c_4 => ?_)
    · have p_3 := (hb_3.resolve_left (fun h => by omega)).2
      refine WP.blk 1 ?_
      show WP 3 152 27 [vR m, vI s, vI a] [vI 2, vR m] (M, S) Q
      refine WP.cl (a := [vR m, vI 2]) (rest := []) rfl rfl rfl rfl ⟨hS.1.1, trivial⟩ (by decide) (r_refused hS hf ho (fun b_5 Mr5 fr5 o5 ho5 h55 hk5 hb_5 => ⟨rfl, ?_⟩))
      show WP 3 152 30 [vR m, vI s, vI a] [vI b_5] (Mr5, S) Q
      have r_6 : Mr5 (m + 1) = f := (fr5 _ (by omega)).trans hf
      have fr_8 : ∀ r, r ≠ m → Mr5 r = M r := fun r q0 => (fr5 r q0).trans ((fun _ _ => rfl) r q0)
      have t45 := hk5 4 (by omega)
      have t75 := hk5 7 (by omega)
      refine WP.blk 1 ?_
      show WP 3 152 (if cnd .eq b_5 0 = true then 37 else 33) [vR m, vI s, vI a] [] (Mr5, S) Q
      refine br_eq (fun c_9 => ?_) (fun c_9 => ?_)
      · have p_5 := (hb_5.resolve_left (fun h => by omega)).2
        refine WP.blk 3 ?_
        show WP 3 152 40 [vR m, vI s, vI a] [vI a, vI s, vR m] (Mr5, S) Q
        refine WP.cl (a := [vR m, vI s, vI a]) (rest := []) rfl rfl rfl rfl ⟨hS.1.1, trivial⟩ (by decide) (r_tellStamp hS r_6 (hA.2 _ (by omega) (by omega)) (fun vy_10 hvy_10 => ⟨rfl, ?_⟩))
        show WP 3 152 43 [vR m, vI s, vI a] [vI vy_10] (Mr5, S) Q
        exact WP.ret rfl rfl rfl trivial (k _ _ fr_8 _ ho5 (by omega) (by omega) (by first | exact Or.inl ⟨by omega, by omega⟩ | exact Or.inr (Or.inl ⟨by omega, by omega, by omega⟩) | exact Or.inr (Or.inr ⟨by omega, by omega, by omega, by assumption⟩)))
      · have p_5 := (hb_5.resolve_right (fun h => by omega)).2
        refine WP.blk 2 ?_
        show WP 3 152 43 [vR m, vI s, vI a] [vI 0] (Mr5, S) Q
        exact WP.ret rfl rfl rfl trivial (k _ _ fr_8 _ ho5 (by omega) (by omega) (by first | exact Or.inl ⟨by omega, by omega⟩ | exact Or.inr (Or.inl ⟨by omega, by omega, by omega⟩) | exact Or.inr (Or.inr ⟨by omega, by omega, by omega, by assumption⟩)))
    · have p_3 := (hb_3.resolve_right (fun h => by omega)).2
      refine WP.blk 2 ?_
      show WP 3 152 27 [vR m, vI s, vI a] [vI 0, vR m] (M, S) Q
      refine WP.cl (a := [vR m, vI 0]) (rest := []) rfl rfl rfl rfl ⟨hS.1.1, trivial⟩ (by decide) (r_refused hS hf ho (fun b_11 Mr11 fr11 o11 ho11 h511 hk11 hb_11 => ⟨rfl, ?_⟩))
      show WP 3 152 30 [vR m, vI s, vI a] [vI b_11] (Mr11, S) Q
      have r_12 : Mr11 (m + 1) = f := (fr11 _ (by omega)).trans hf
      have fr_14 : ∀ r, r ≠ m → Mr11 r = M r := fun r q0 => (fr11 r q0).trans ((fun _ _ => rfl) r q0)
      have t411 := hk11 4 (by omega)
      have t711 := hk11 7 (by omega)
      refine WP.blk 1 ?_
      show WP 3 152 (if cnd .eq b_11 0 = true then 37 else 33) [vR m, vI s, vI a] [] (Mr11, S) Q
      refine br_eq (fun c_15 => ?_) (fun c_15 => ?_)
      · have p_11 := (hb_11.resolve_left (fun h => by omega)).2
        refine WP.blk 3 ?_
        show WP 3 152 40 [vR m, vI s, vI a] [vI a, vI s, vR m] (Mr11, S) Q
        refine WP.cl (a := [vR m, vI s, vI a]) (rest := []) rfl rfl rfl rfl ⟨hS.1.1, trivial⟩ (by decide) (r_tellStamp hS r_12 (hA.2 _ (by omega) (by omega)) (fun vy_16 hvy_16 => ⟨rfl, ?_⟩))
        show WP 3 152 43 [vR m, vI s, vI a] [vI vy_16] (Mr11, S) Q
        exact WP.ret rfl rfl rfl trivial (k _ _ fr_14 _ ho11 (by omega) (by omega) (by first | exact Or.inl ⟨by omega, by omega⟩ | exact Or.inr (Or.inl ⟨by omega, by omega, by omega⟩) | exact Or.inr (Or.inr ⟨by omega, by omega, by omega, by assumption⟩)))
      · have p_11 := (hb_11.resolve_right (fun h => by omega)).2
        refine WP.blk 2 ?_
        show WP 3 152 43 [vR m, vI s, vI a] [vI 0] (Mr11, S) Q
        exact WP.ret rfl rfl rfl trivial (k _ _ fr_14 _ ho11 (by omega) (by omega) (by first | exact Or.inl ⟨by omega, by omega⟩ | exact Or.inr (Or.inl ⟨by omega, by omega, by omega⟩) | exact Or.inr (Or.inr ⟨by omega, by omega, by omega, by assumption⟩)))
  · have p_1 := (hb_1.resolve_left (fun h => by omega)).2
    refine WP.blk 2 ?_
    show WP 3 152 27 [vR m, vI s, vI a] [vI 1, vR m] (M, S) Q
    refine WP.cl (a := [vR m, vI 1]) (rest := []) rfl rfl rfl rfl ⟨hS.1.1, trivial⟩ (by decide) (r_refused hS hf ho (fun b_17 Mr17 fr17 o17 ho17 h517 hk17 hb_17 => ⟨rfl, ?_⟩))
    show WP 3 152 30 [vR m, vI s, vI a] [vI b_17] (Mr17, S) Q
    have r_18 : Mr17 (m + 1) = f := (fr17 _ (by omega)).trans hf
    have fr_20 : ∀ r, r ≠ m → Mr17 r = M r := fun r q0 => (fr17 r q0).trans ((fun _ _ => rfl) r q0)
    have t417 := hk17 4 (by omega)
    have t717 := hk17 7 (by omega)
    refine WP.blk 1 ?_
    show WP 3 152 (if cnd .eq b_17 0 = true then 37 else 33) [vR m, vI s, vI a] [] (Mr17, S) Q
    refine br_eq (fun c_21 => ?_) (fun c_21 => ?_)
    · have p_17 := (hb_17.resolve_left (fun h => by omega)).2
      refine WP.blk 3 ?_
      show WP 3 152 40 [vR m, vI s, vI a] [vI a, vI s, vR m] (Mr17, S) Q
      refine WP.cl (a := [vR m, vI s, vI a]) (rest := []) rfl rfl rfl rfl ⟨hS.1.1, trivial⟩ (by decide) (r_tellStamp hS r_18 (hA.2 _ (by omega) (by omega)) (fun vy_22 hvy_22 => ⟨rfl, ?_⟩))
      show WP 3 152 43 [vR m, vI s, vI a] [vI vy_22] (Mr17, S) Q
      exact WP.ret rfl rfl rfl trivial (k _ _ fr_20 _ ho17 (by omega) (by omega) (by first | exact Or.inl ⟨by omega, by omega⟩ | exact Or.inr (Or.inl ⟨by omega, by omega, by omega⟩) | exact Or.inr (Or.inr ⟨by omega, by omega, by omega, by assumption⟩)))
    · have p_17 := (hb_17.resolve_right (fun h => by omega)).2
      refine WP.blk 2 ?_
      show WP 3 152 43 [vR m, vI s, vI a] [vI 0] (Mr17, S) Q
      exact WP.ret rfl rfl rfl trivial (k _ _ fr_20 _ ho17 (by omega) (by omega) (by first | exact Or.inl ⟨by omega, by omega⟩ | exact Or.inr (Or.inl ⟨by omega, by omega, by omega⟩) | exact Or.inr (Or.inr ⟨by omega, by omega, by omega, by assumption⟩)))
set_option maxHeartbeats 4000000 in
theorem r_print {S : SD} {M : Nat → Int → Int} {m : Nat} {f : Int → Int} {o : Int → Int} {s i t B : Int} (hS : isMod S m) (hf : M (m + 1) = f) (ho : M m = o) (hR : RowOk B f) {Q : Res → Wd → Prop} (k : ∀ (v : Int) (M2 : Nat → Int → Int), (∀ r, r ≠ m → M2 r = M r) → ∀ o2, M2 m = o2 → o2 4 = o 4 → o2 7 = o 7 → (o2 5 = 1 ∧ ¬ ((0 ≤ s ∧ s < f 0) ∧ 0 ≤ i ∧ i < f (7 + 9 * s))) ∨ (o2 5 = 0 ∧ ((0 ≤ s ∧ s < f 0) ∧ 0 ≤ i ∧ i < f (7 + 9 * s)) ∧ ¬ t = 0 ∧ ¬ CanT f s ∧ v = -1) ∨ (o2 5 = 0 ∧ ((0 ≤ s ∧ s < f 0) ∧ 0 ≤ i ∧ i < f (7 + 9 * s)) ∧ (¬ t = 0 → CanT f s) ∧ v = prL f s i t) → Q (0, vI v) (M2, S)) : EvQ 3 153 [vR m, vI s, vI i, vI t] (M, S) Q := by
  refine EvQ.enter (ls := [vR m, vI s, vI i, vI t]) (Nat.le_of_ble_eq_true rfl) rfl ?_
  have hA := hR.1
  have hA1 := hA.1
  have hWA := hR.2.1
  have hW1 := hWA.1
  have hI := hR.2.2
  have hI2 := hI.2.1
  have hI3 := hI.2.2.1
  have hA9 : (0 ≤ s ∧ s < f 0) → 1 ≤ f (7 + 9 * s) ∧ f (7 + 9 * s) ≤ 5 := fun h => ⟨(hA.2 s h.1 h.2).2.2.1, (hA.2 s h.1 h.2).2.2.2.1⟩
  refine WP.blk 3 ?_
  show WP 2 153 3 [vR m, vI s, vI i, vI t] [vI s, vR m, vR m] (M, S) Q
  refine WP.cl (a := [vR m, vI s]) (rest := [vR m]) rfl rfl rfl rfl ⟨hS.1.1, trivial⟩ (by decide) (r_isStamp hS hf (by omega) (fun b_1 hb_1 => ⟨rfl, ?_⟩))
  show WP 2 153 6 [vR m, vI s, vI i, vI t] [vI b_1, vR m] (M, S) Q
  refine WP.blk 1 ?_
  show WP 2 153 (if cnd .eq b_1 0 = true then 32 else 9) [vR m, vI s, vI i, vI t] [vR m] (M, S) Q
  refine br_eq (fun c_2 => ?_) (fun c_2 => ?_)
  · have p_1 := (hb_1.resolve_left (fun h => by omega)).2
    refine WP.blk 1 ?_
    show WP 2 153 33 [vR m, vI s, vI i, vI t] [vI 1, vR m] (M, S) Q
    refine WP.cl (a := [vR m, vI 1]) (rest := []) rfl rfl rfl rfl ⟨hS.1.1, trivial⟩ (by decide) (r_refused hS hf ho (fun b_3 Mr3 fr3 o3 ho3 h53 hk3 hb_3 => ⟨rfl, ?_⟩))
    show WP 2 153 36 [vR m, vI s, vI i, vI t] [vI b_3] (Mr3, S) Q
    have r_4 : Mr3 (m + 1) = f := (fr3 _ (by omega)).trans hf
    have fr_6 : ∀ r, r ≠ m → Mr3 r = M r := fun r q0 => (fr3 r q0).trans ((fun _ _ => rfl) r q0)
    have t43 := hk3 4 (by omega)
    have t73 := hk3 7 (by omega)
    refine WP.blk 1 ?_
    show WP 2 153 (if cnd .eq b_3 0 = true then 41 else 39) [vR m, vI s, vI i, vI t] [] (Mr3, S) Q
    refine br_eq (fun c_7 => ?_) (fun c_7 => ?_)
    · have p_3 := (hb_3.resolve_left (fun h => by omega)).2
      refine WP.blk 2 ?_
      show WP 2 153 (if cnd .eq t 0 = true then 57 else 45) [vR m, vI s, vI i, vI t] [] (Mr3, S) Q
      refine br_eq (fun c_8 => ?_) (fun c_8 => ?_)
      · refine WP.blk 4 ?_
        show WP 2 153 61 [vR m, vI s, vI i, vI t] [vI t, vI i, vI s, vR m] (Mr3, S) Q
        refine WP.cl (a := [vR m, vI s, vI i, vI t]) (rest := []) rfl rfl rfl rfl ⟨hS.1.1, trivial⟩ (by decide) (r_printed hS r_4 (hA.2 _ (by omega) (by omega)) (by omega) ⟨rfl, ?_⟩)
        show WP 2 153 64 [vR m, vI s, vI i, vI t] [vI (prL f s i t)] (Mr3, S) Q
        exact WP.ret rfl rfl rfl trivial (k _ _ fr_6 _ ho3 (by omega) (by omega) (by first | exact Or.inl ⟨by omega, by omega⟩ | exact Or.inr (Or.inl ⟨by omega, by omega, by omega, by assumption, rfl⟩) | exact Or.inr (Or.inr ⟨by omega, by omega, (fun h => by first | assumption | omega), rfl⟩)))
      · refine WP.blk 2 ?_
        show WP 2 153 47 [vR m, vI s, vI i, vI t] [vI s, vR m] (Mr3, S) Q
        refine WP.cl (a := [vR m, vI s]) (rest := []) rfl rfl rfl rfl ⟨hS.1.1, trivial⟩ (by decide) (r_canTurn hS r_4 (hA.2 _ (by omega) (by omega)) (fun b_9 hb_9 => ⟨rfl, ?_⟩))
        show WP 2 153 50 [vR m, vI s, vI i, vI t] [vI b_9] (Mr3, S) Q
        refine WP.blk 1 ?_
        show WP 2 153 (if cnd .ne b_9 0 = true then 57 else 53) [vR m, vI s, vI i, vI t] [] (Mr3, S) Q
        refine br_ne (fun c_10 => ?_) (fun c_10 => ?_)
        · have p_9 := (hb_9.resolve_right (fun h => by omega)).2
          refine WP.blk 4 ?_
          show WP 2 153 61 [vR m, vI s, vI i, vI t] [vI t, vI i, vI s, vR m] (Mr3, S) Q
          refine WP.cl (a := [vR m, vI s, vI i, vI t]) (rest := []) rfl rfl rfl rfl ⟨hS.1.1, trivial⟩ (by decide) (r_printed hS r_4 (hA.2 _ (by omega) (by omega)) (by omega) ⟨rfl, ?_⟩)
          show WP 2 153 64 [vR m, vI s, vI i, vI t] [vI (prL f s i t)] (Mr3, S) Q
          exact WP.ret rfl rfl rfl trivial (k _ _ fr_6 _ ho3 (by omega) (by omega) (by first | exact Or.inl ⟨by omega, by omega⟩ | exact Or.inr (Or.inl ⟨by omega, by omega, by omega, by assumption, rfl⟩) | exact Or.inr (Or.inr ⟨by omega, by omega, (fun h => by first | assumption | omega), rfl⟩)))
        · have p_9 := (hb_9.resolve_left (fun h => by omega)).2
          refine WP.blk 2 ?_
          show WP 2 153 64 [vR m, vI s, vI i, vI t] [vI (-1)] (Mr3, S) Q
          exact WP.ret rfl rfl rfl trivial (k _ _ fr_6 _ ho3 (by omega) (by omega) (by first | exact Or.inl ⟨by omega, by omega⟩ | exact Or.inr (Or.inl ⟨by omega, by omega, by omega, by assumption, rfl⟩) | exact Or.inr (Or.inr ⟨by omega, by omega, (fun h => by first | assumption | omega), rfl⟩)))
    · have p_3 := (hb_3.resolve_right (fun h => by omega)).2
      refine WP.blk 1 ?_
      show WP 2 153 40 [vR m, vI s, vI i, vI t] [vI 0] (Mr3, S) Q
      exact WP.ret rfl rfl rfl trivial (k _ _ fr_6 _ ho3 (by omega) (by omega) (by first | exact Or.inl ⟨by omega, by omega⟩ | exact Or.inr (Or.inl ⟨by omega, by omega, by omega, by assumption, rfl⟩) | exact Or.inr (Or.inr ⟨by omega, by omega, (fun h => by first | assumption | omega), rfl⟩)))
  · have p_1 := (hb_1.resolve_right (fun h => by omega)).2
    refine WP.blk 4 ?_
    show (sT S m = 10 ∧ sR S m 0 ≠ 0) ∧ WP 2 153 15 [vR m, vI s, vI i, vI t] [vR (sR S m 0), vI 0, vI i, vR m] (M, S) Q
    refine ⟨⟨hS.1.1, by rw [hS.1.2.1]; omega⟩, ?_⟩
    rw [hS.1.2.1]
    refine WP.blk 1 ?_
    show WP 2 153 16 [vR m, vI s, vI i, vI t] [vI s, vR (m + 1), vI 0, vI i, vR m] (M, S) Q
    refine WP.cl (a := [vI s]) (rest := [vR (m + 1), vI 0, vI i, vR m]) rfl rfl rfl rfl trivial (by decide) (q_stampAt (by omega) ⟨rfl, ?_⟩)
    show WP 2 153 19 [vR m, vI s, vI i, vI t] [vI (7 + 9 * s), vR (m + 1), vI 0, vI i, vR m] (M, S) Q
    refine WP.blk 3 ?_
    show ((sT S (m + 1) = 11 ∨ sT S (m + 1) = 16 ∨ sT S (m + 1) = 17) ∧ 0 ≤ (7 + 9 * s) ∧ (7 + 9 * s) < (sN S (m + 1) : Int)) ∧ ir ((M (m + 1) (7 + 9 * s)) - 1) ∧ WP 2 153 22 [vR m, vI s, vI i, vI t] [vI ((M (m + 1) (7 + 9 * s)) - 1), vI 0, vI i, vR m] (M, S) Q
    rw [hf]
    refine ⟨⟨Or.inl hS.2.1.1, by omega, by rw [hS.2.2.1]; omega⟩, (by unfold ir; omega), ?_⟩
    refine WP.cl (a := [vI i, vI 0, vI ((f (7 + 9 * s)) - 1)]) (rest := [vR m]) rfl rfl rfl rfl trivial (by decide) (q_in  (fun b_11 hb_11 => ⟨rfl, ?_⟩))
    show WP 2 153 25 [vR m, vI s, vI i, vI t] [vI b_11, vR m] (M, S) Q
    refine WP.blk 1 ?_
    show WP 2 153 (if cnd .eq b_11 0 = true then 32 else 28) [vR m, vI s, vI i, vI t] [vR m] (M, S) Q
    refine br_eq (fun c_12 => ?_) (fun c_12 => ?_)
    · have p_11 := (hb_11.resolve_left (fun h => by omega)).2
      refine WP.blk 1 ?_
      show WP 2 153 33 [vR m, vI s, vI i, vI t] [vI 1, vR m] (M, S) Q
      refine WP.cl (a := [vR m, vI 1]) (rest := []) rfl rfl rfl rfl ⟨hS.1.1, trivial⟩ (by decide) (r_refused hS hf ho (fun b_13 Mr13 fr13 o13 ho13 h513 hk13 hb_13 => ⟨rfl, ?_⟩))
      show WP 2 153 36 [vR m, vI s, vI i, vI t] [vI b_13] (Mr13, S) Q
      have r_14 : Mr13 (m + 1) = f := (fr13 _ (by omega)).trans hf
      have fr_16 : ∀ r, r ≠ m → Mr13 r = M r := fun r q0 => (fr13 r q0).trans ((fun _ _ => rfl) r q0)
      have t413 := hk13 4 (by omega)
      have t713 := hk13 7 (by omega)
      refine WP.blk 1 ?_
      show WP 2 153 (if cnd .eq b_13 0 = true then 41 else 39) [vR m, vI s, vI i, vI t] [] (Mr13, S) Q
      refine br_eq (fun c_17 => ?_) (fun c_17 => ?_)
      · have p_13 := (hb_13.resolve_left (fun h => by omega)).2
        refine WP.blk 2 ?_
        show WP 2 153 (if cnd .eq t 0 = true then 57 else 45) [vR m, vI s, vI i, vI t] [] (Mr13, S) Q
        refine br_eq (fun c_18 => ?_) (fun c_18 => ?_)
        · refine WP.blk 4 ?_
          show WP 2 153 61 [vR m, vI s, vI i, vI t] [vI t, vI i, vI s, vR m] (Mr13, S) Q
          refine WP.cl (a := [vR m, vI s, vI i, vI t]) (rest := []) rfl rfl rfl rfl ⟨hS.1.1, trivial⟩ (by decide) (r_printed hS r_14 (hA.2 _ (by omega) (by omega)) (by omega) ⟨rfl, ?_⟩)
          show WP 2 153 64 [vR m, vI s, vI i, vI t] [vI (prL f s i t)] (Mr13, S) Q
          exact WP.ret rfl rfl rfl trivial (k _ _ fr_16 _ ho13 (by omega) (by omega) (by first | exact Or.inl ⟨by omega, by omega⟩ | exact Or.inr (Or.inl ⟨by omega, by omega, by omega, by assumption, rfl⟩) | exact Or.inr (Or.inr ⟨by omega, by omega, (fun h => by first | assumption | omega), rfl⟩)))
        · refine WP.blk 2 ?_
          show WP 2 153 47 [vR m, vI s, vI i, vI t] [vI s, vR m] (Mr13, S) Q
          refine WP.cl (a := [vR m, vI s]) (rest := []) rfl rfl rfl rfl ⟨hS.1.1, trivial⟩ (by decide) (r_canTurn hS r_14 (hA.2 _ (by omega) (by omega)) (fun b_19 hb_19 => ⟨rfl, ?_⟩))
          show WP 2 153 50 [vR m, vI s, vI i, vI t] [vI b_19] (Mr13, S) Q
          refine WP.blk 1 ?_
          show WP 2 153 (if cnd .ne b_19 0 = true then 57 else 53) [vR m, vI s, vI i, vI t] [] (Mr13, S) Q
          refine br_ne (fun c_20 => ?_) (fun c_20 => ?_)
          · have p_19 := (hb_19.resolve_right (fun h => by omega)).2
            refine WP.blk 4 ?_
            show WP 2 153 61 [vR m, vI s, vI i, vI t] [vI t, vI i, vI s, vR m] (Mr13, S) Q
            refine WP.cl (a := [vR m, vI s, vI i, vI t]) (rest := []) rfl rfl rfl rfl ⟨hS.1.1, trivial⟩ (by decide) (r_printed hS r_14 (hA.2 _ (by omega) (by omega)) (by omega) ⟨rfl, ?_⟩)
            show WP 2 153 64 [vR m, vI s, vI i, vI t] [vI (prL f s i t)] (Mr13, S) Q
            exact WP.ret rfl rfl rfl trivial (k _ _ fr_16 _ ho13 (by omega) (by omega) (by first | exact Or.inl ⟨by omega, by omega⟩ | exact Or.inr (Or.inl ⟨by omega, by omega, by omega, by assumption, rfl⟩) | exact Or.inr (Or.inr ⟨by omega, by omega, (fun h => by first | assumption | omega), rfl⟩)))
          · have p_19 := (hb_19.resolve_left (fun h => by omega)).2
            refine WP.blk 2 ?_
            show WP 2 153 64 [vR m, vI s, vI i, vI t] [vI (-1)] (Mr13, S) Q
            exact WP.ret rfl rfl rfl trivial (k _ _ fr_16 _ ho13 (by omega) (by omega) (by first | exact Or.inl ⟨by omega, by omega⟩ | exact Or.inr (Or.inl ⟨by omega, by omega, by omega, by assumption, rfl⟩) | exact Or.inr (Or.inr ⟨by omega, by omega, (fun h => by first | assumption | omega), rfl⟩)))
      · have p_13 := (hb_13.resolve_right (fun h => by omega)).2
        refine WP.blk 1 ?_
        show WP 2 153 40 [vR m, vI s, vI i, vI t] [vI 0] (Mr13, S) Q
        exact WP.ret rfl rfl rfl trivial (k _ _ fr_16 _ ho13 (by omega) (by omega) (by first | exact Or.inl ⟨by omega, by omega⟩ | exact Or.inr (Or.inl ⟨by omega, by omega, by omega, by assumption, rfl⟩) | exact Or.inr (Or.inr ⟨by omega, by omega, (fun h => by first | assumption | omega), rfl⟩)))
    · have p_11 := (hb_11.resolve_right (fun h => by omega)).2
      refine WP.blk 2 ?_
      show WP 2 153 33 [vR m, vI s, vI i, vI t] [vI 0, vR m] (M, S) Q
      refine WP.cl (a := [vR m, vI 0]) (rest := []) rfl rfl rfl rfl ⟨hS.1.1, trivial⟩ (by decide) (r_refused hS hf ho (fun b_21 Mr21 fr21 o21 ho21 h521 hk21 hb_21 => ⟨rfl, ?_⟩))
      show WP 2 153 36 [vR m, vI s, vI i, vI t] [vI b_21] (Mr21, S) Q
      have r_22 : Mr21 (m + 1) = f := (fr21 _ (by omega)).trans hf
      have fr_24 : ∀ r, r ≠ m → Mr21 r = M r := fun r q0 => (fr21 r q0).trans ((fun _ _ => rfl) r q0)
      have t421 := hk21 4 (by omega)
      have t721 := hk21 7 (by omega)
      refine WP.blk 1 ?_
      show WP 2 153 (if cnd .eq b_21 0 = true then 41 else 39) [vR m, vI s, vI i, vI t] [] (Mr21, S) Q
      refine br_eq (fun c_25 => ?_) (fun c_25 => ?_)
      · have p_21 := (hb_21.resolve_left (fun h => by omega)).2
        refine WP.blk 2 ?_
        show WP 2 153 (if cnd .eq t 0 = true then 57 else 45) [vR m, vI s, vI i, vI t] [] (Mr21, S) Q
        refine br_eq (fun c_26 => ?_) (fun c_26 => ?_)
        · refine WP.blk 4 ?_
          show WP 2 153 61 [vR m, vI s, vI i, vI t] [vI t, vI i, vI s, vR m] (Mr21, S) Q
          refine WP.cl (a := [vR m, vI s, vI i, vI t]) (rest := []) rfl rfl rfl rfl ⟨hS.1.1, trivial⟩ (by decide) (r_printed hS r_22 (hA.2 _ (by omega) (by omega)) (by omega) ⟨rfl, ?_⟩)
          show WP 2 153 64 [vR m, vI s, vI i, vI t] [vI (prL f s i t)] (Mr21, S) Q
          exact WP.ret rfl rfl rfl trivial (k _ _ fr_24 _ ho21 (by omega) (by omega) (by first | exact Or.inl ⟨by omega, by omega⟩ | exact Or.inr (Or.inl ⟨by omega, by omega, by omega, by assumption, rfl⟩) | exact Or.inr (Or.inr ⟨by omega, by omega, (fun h => by first | assumption | omega), rfl⟩)))
        · refine WP.blk 2 ?_
          show WP 2 153 47 [vR m, vI s, vI i, vI t] [vI s, vR m] (Mr21, S) Q
          refine WP.cl (a := [vR m, vI s]) (rest := []) rfl rfl rfl rfl ⟨hS.1.1, trivial⟩ (by decide) (r_canTurn hS r_22 (hA.2 _ (by omega) (by omega)) (fun b_27 hb_27 => ⟨rfl, ?_⟩))
          show WP 2 153 50 [vR m, vI s, vI i, vI t] [vI b_27] (Mr21, S) Q
          refine WP.blk 1 ?_
          show WP 2 153 (if cnd .ne b_27 0 = true then 57 else 53) [vR m, vI s, vI i, vI t] [] (Mr21, S) Q
          refine br_ne (fun c_28 => ?_) (fun c_28 => ?_)
          · have p_27 := (hb_27.resolve_right (fun h => by omega)).2
            refine WP.blk 4 ?_
            show WP 2 153 61 [vR m, vI s, vI i, vI t] [vI t, vI i, vI s, vR m] (Mr21, S) Q
            refine WP.cl (a := [vR m, vI s, vI i, vI t]) (rest := []) rfl rfl rfl rfl ⟨hS.1.1, trivial⟩ (by decide) (r_printed hS r_22 (hA.2 _ (by omega) (by omega)) (by omega) ⟨rfl, ?_⟩)
            show WP 2 153 64 [vR m, vI s, vI i, vI t] [vI (prL f s i t)] (Mr21, S) Q
            exact WP.ret rfl rfl rfl trivial (k _ _ fr_24 _ ho21 (by omega) (by omega) (by first | exact Or.inl ⟨by omega, by omega⟩ | exact Or.inr (Or.inl ⟨by omega, by omega, by omega, by assumption, rfl⟩) | exact Or.inr (Or.inr ⟨by omega, by omega, (fun h => by first | assumption | omega), rfl⟩)))
          · have p_27 := (hb_27.resolve_left (fun h => by omega)).2
            refine WP.blk 2 ?_
            show WP 2 153 64 [vR m, vI s, vI i, vI t] [vI (-1)] (Mr21, S) Q
            exact WP.ret rfl rfl rfl trivial (k _ _ fr_24 _ ho21 (by omega) (by omega) (by first | exact Or.inl ⟨by omega, by omega⟩ | exact Or.inr (Or.inl ⟨by omega, by omega, by omega, by assumption, rfl⟩) | exact Or.inr (Or.inr ⟨by omega, by omega, (fun h => by first | assumption | omega), rfl⟩)))
      · have p_21 := (hb_21.resolve_right (fun h => by omega)).2
        refine WP.blk 1 ?_
        show WP 2 153 40 [vR m, vI s, vI i, vI t] [vI 0] (Mr21, S) Q
        exact WP.ret rfl rfl rfl trivial (k _ _ fr_24 _ ho21 (by omega) (by omega) (by first | exact Or.inl ⟨by omega, by omega⟩ | exact Or.inr (Or.inl ⟨by omega, by omega, by omega, by assumption, rfl⟩) | exact Or.inr (Or.inr ⟨by omega, by omega, (fun h => by first | assumption | omega), rfl⟩)))
set_option maxHeartbeats 4000000 in
theorem r_letter {S : SD} {M : Nat → Int → Int} {m : Nat} {f : Int → Int} {o : Int → Int} {w i B : Int} (hS : isMod S m) (hf : M (m + 1) = f) (ho : M m = o) (hR : RowOk B f) {Q : Res → Wd → Prop} (k : ∀ (v : Int) (M2 : Nat → Int → Int), (∀ r, r ≠ m → M2 r = M r) → ∀ o2, M2 m = o2 → o2 4 = o 4 → o2 7 = o 7 → (o2 5 = 1 ∧ ¬ ((0 ≤ w ∧ w < f 1) ∧ 0 ≤ i ∧ i < f (97 + 14 * w))) ∨ (o2 5 = 0 ∧ ((0 ≤ w ∧ w < f 1) ∧ 0 ≤ i ∧ i < f (97 + 14 * w)) ∧ v = f (97 + 14 * w + 2 + i)) → Q (0, vI v) (M2, S)) : EvQ 3 157 [vR m, vI w, vI i] (M, S) Q := by
  refine EvQ.enter (ls := [vR m, vI w, vI i]) (Nat.le_of_ble_eq_true rfl) rfl ?_
  have hA := hR.1
  have hA1 := hA.1
  have hWA := hR.2.1
  have hW1 := hWA.1
  have hI := hR.2.2
  have hI2 := hI.2.1
  have hI3 := hI.2.2.1
  have hW9 : (0 ≤ w ∧ w < f 1) → 1 ≤ f (97 + 14 * w) ∧ f (97 + 14 * w) ≤ 12 := fun h => ⟨(hWA.2 w h.1 h.2).1.2.2.1, (hWA.2 w h.1 h.2).1.2.2.2.1⟩
  refine WP.blk 3 ?_
  show WP 2 157 3 [vR m, vI w, vI i] [vI w, vR m, vR m] (M, S) Q
  refine WP.cl (a := [vR m, vI w]) (rest := [vR m]) rfl rfl rfl rfl ⟨hS.1.1, trivial⟩ (by decide) (r_isWord hS hf (by omega) (fun b_1 hb_1 => ⟨rfl, ?_⟩))
  show WP 2 157 6 [vR m, vI w, vI i] [vI b_1, vR m] (M, S) Q
  refine WP.blk 1 ?_
  show WP 2 157 (if cnd .eq b_1 0 = true then 32 else 9) [vR m, vI w, vI i] [vR m] (M, S) Q
  refine br_eq (fun c_2 => ?_) (fun c_2 => ?_)
  · have p_1 := (hb_1.resolve_left (fun h => by omega)).2
    refine WP.blk 1 ?_
    show WP 2 157 33 [vR m, vI w, vI i] [vI 1, vR m] (M, S) Q
    refine WP.cl (a := [vR m, vI 1]) (rest := []) rfl rfl rfl rfl ⟨hS.1.1, trivial⟩ (by decide) (r_refused hS hf ho (fun b_3 Mr3 fr3 o3 ho3 h53 hk3 hb_3 => ⟨rfl, ?_⟩))
    show WP 2 157 36 [vR m, vI w, vI i] [vI b_3] (Mr3, S) Q
    have r_4 : Mr3 (m + 1) = f := (fr3 _ (by omega)).trans hf
    have fr_6 : ∀ r, r ≠ m → Mr3 r = M r := fun r q0 => (fr3 r q0).trans ((fun _ _ => rfl) r q0)
    have t43 := hk3 4 (by omega)
    have t73 := hk3 7 (by omega)
    refine WP.blk 1 ?_
    show WP 2 157 (if cnd .eq b_3 0 = true then 43 else 39) [vR m, vI w, vI i] [] (Mr3, S) Q
    refine br_eq (fun c_7 => ?_) (fun c_7 => ?_)
    · have p_3 := (hb_3.resolve_left (fun h => by omega)).2
      refine WP.blk 2 ?_
      show (sT S m = 10 ∧ sR S m 0 ≠ 0) ∧ WP 2 157 47 [vR m, vI w, vI i] [vR (sR S m 0)] (Mr3, S) Q
      refine ⟨⟨hS.1.1, by rw [hS.1.2.1]; omega⟩, ?_⟩
      rw [hS.1.2.1]
      refine WP.blk 1 ?_
      show WP 2 157 48 [vR m, vI w, vI i] [vI w, vR (m + 1)] (Mr3, S) Q
      refine WP.cl (a := [vI w]) (rest := [vR (m + 1)]) rfl rfl rfl rfl trivial (by decide) (q_wordAt (by omega) ⟨rfl, ?_⟩)
      show WP 2 157 51 [vR m, vI w, vI i] [vI (97 + 14 * w), vR (m + 1)] (Mr3, S) Q
      refine WP.blk 5 ?_
      show ir ((97 + 14 * w) + 2) ∧ ir (((97 + 14 * w) + 2) + i) ∧ ((sT S (m + 1) = 11 ∨ sT S (m + 1) = 16 ∨ sT S (m + 1) = 17) ∧ 0 ≤ (((97 + 14 * w) + 2) + i) ∧ (((97 + 14 * w) + 2) + i) < (sN S (m + 1) : Int)) ∧ WP 2 157 56 [vR m, vI w, vI i] [vI (Mr3 (m + 1) (((97 + 14 * w) + 2) + i))] (Mr3, S) Q
      rw [r_4]
      refine ⟨(by unfold ir; omega), (by unfold ir; omega), ⟨Or.inl hS.2.1.1, by omega, by rw [hS.2.2.1]; omega⟩, ?_⟩
      exact WP.ret rfl rfl rfl trivial (k _ _ fr_6 _ ho3 (by omega) (by omega) (by first | exact Or.inl ⟨by omega, by omega⟩ | exact Or.inr ⟨by omega, by omega, by omega⟩))
    · have p_3 := (hb_3.resolve_right (fun h => by omega)).2
      refine WP.blk 2 ?_
      show WP 2 157 56 [vR m, vI w, vI i] [vI 0] (Mr3, S) Q
      exact WP.ret rfl rfl rfl trivial (k _ _ fr_6 _ ho3 (by omega) (by omega) (by first | exact Or.inl ⟨by omega, by omega⟩ | exact Or.inr ⟨by omega, by omega, by omega⟩))
  · have p_1 := (hb_1.resolve_right (fun h => by omega)).2
    refine WP.blk 4 ?_
    show (sT S m = 10 ∧ sR S m 0 ≠ 0) ∧ WP 2 157 15 [vR m, vI w, vI i] [vR (sR S m 0), vI 0, vI i, vR m] (M, S) Q
    refine ⟨⟨hS.1.1, by rw [hS.1.2.1]; omega⟩, ?_⟩
    rw [hS.1.2.1]
    refine WP.blk 1 ?_
    show WP 2 157 16 [vR m, vI w, vI i] [vI w, vR (m + 1), vI 0, vI i, vR m] (M, S) Q
    refine WP.cl (a := [vI w]) (rest := [vR (m + 1), vI 0, vI i, vR m]) rfl rfl rfl rfl trivial (by decide) (q_wordAt (by omega) ⟨rfl, ?_⟩)
    show WP 2 157 19 [vR m, vI w, vI i] [vI (97 + 14 * w), vR (m + 1), vI 0, vI i, vR m] (M, S) Q
    refine WP.blk 3 ?_
    show ((sT S (m + 1) = 11 ∨ sT S (m + 1) = 16 ∨ sT S (m + 1) = 17) ∧ 0 ≤ (97 + 14 * w) ∧ (97 + 14 * w) < (sN S (m + 1) : Int)) ∧ ir ((M (m + 1) (97 + 14 * w)) - 1) ∧ WP 2 157 22 [vR m, vI w, vI i] [vI ((M (m + 1) (97 + 14 * w)) - 1), vI 0, vI i, vR m] (M, S) Q
    rw [hf]
    refine ⟨⟨Or.inl hS.2.1.1, by omega, by rw [hS.2.2.1]; omega⟩, (by unfold ir; omega), ?_⟩
    refine WP.cl (a := [vI i, vI 0, vI ((f (97 + 14 * w)) - 1)]) (rest := [vR m]) rfl rfl rfl rfl trivial (by decide) (q_in  (fun b_8 hb_8 => ⟨rfl, ?_⟩))
    show WP 2 157 25 [vR m, vI w, vI i] [vI b_8, vR m] (M, S) Q
    refine WP.blk 1 ?_
    show WP 2 157 (if cnd .eq b_8 0 = true then 32 else 28) [vR m, vI w, vI i] [vR m] (M, S) Q
    refine br_eq (fun c_9 => ?_) (fun c_9 => ?_)
    · have p_8 := (hb_8.resolve_left (fun h => by omega)).2
      refine WP.blk 1 ?_
      show WP 2 157 33 [vR m, vI w, vI i] [vI 1, vR m] (M, S) Q
      refine WP.cl (a := [vR m, vI 1]) (rest := []) rfl rfl rfl rfl ⟨hS.1.1, trivial⟩ (by decide) (r_refused hS hf ho (fun b_10 Mr10 fr10 o10 ho10 h510 hk10 hb_10 => ⟨rfl, ?_⟩))
      show WP 2 157 36 [vR m, vI w, vI i] [vI b_10] (Mr10, S) Q
      have r_11 : Mr10 (m + 1) = f := (fr10 _ (by omega)).trans hf
      have fr_13 : ∀ r, r ≠ m → Mr10 r = M r := fun r q0 => (fr10 r q0).trans ((fun _ _ => rfl) r q0)
      have t410 := hk10 4 (by omega)
      have t710 := hk10 7 (by omega)
      refine WP.blk 1 ?_
      show WP 2 157 (if cnd .eq b_10 0 = true then 43 else 39) [vR m, vI w, vI i] [] (Mr10, S) Q
      refine br_eq (fun c_14 => ?_) (fun c_14 => ?_)
      · have p_10 := (hb_10.resolve_left (fun h => by omega)).2
        refine WP.blk 2 ?_
        show (sT S m = 10 ∧ sR S m 0 ≠ 0) ∧ WP 2 157 47 [vR m, vI w, vI i] [vR (sR S m 0)] (Mr10, S) Q
        refine ⟨⟨hS.1.1, by rw [hS.1.2.1]; omega⟩, ?_⟩
        rw [hS.1.2.1]
        refine WP.blk 1 ?_
        show WP 2 157 48 [vR m, vI w, vI i] [vI w, vR (m + 1)] (Mr10, S) Q
        refine WP.cl (a := [vI w]) (rest := [vR (m + 1)]) rfl rfl rfl rfl trivial (by decide) (q_wordAt (by omega) ⟨rfl, ?_⟩)
        show WP 2 157 51 [vR m, vI w, vI i] [vI (97 + 14 * w), vR (m + 1)] (Mr10, S) Q
        refine WP.blk 5 ?_
        show ir ((97 + 14 * w) + 2) ∧ ir (((97 + 14 * w) + 2) + i) ∧ ((sT S (m + 1) = 11 ∨ sT S (m + 1) = 16 ∨ sT S (m + 1) = 17) ∧ 0 ≤ (((97 + 14 * w) + 2) + i) ∧ (((97 + 14 * w) + 2) + i) < (sN S (m + 1) : Int)) ∧ WP 2 157 56 [vR m, vI w, vI i] [vI (Mr10 (m + 1) (((97 + 14 * w) + 2) + i))] (Mr10, S) Q
        rw [r_11]
        refine ⟨(by unfold ir; omega), (by unfold ir; omega), ⟨Or.inl hS.2.1.1, by omega, by rw [hS.2.2.1]; omega⟩, ?_⟩
        exact WP.ret rfl rfl rfl trivial (k _ _ fr_13 _ ho10 (by omega) (by omega) (by first | exact Or.inl ⟨by omega, by omega⟩ | exact Or.inr ⟨by omega, by omega, by omega⟩))
      · have p_10 := (hb_10.resolve_right (fun h => by omega)).2
        refine WP.blk 2 ?_
        show WP 2 157 56 [vR m, vI w, vI i] [vI 0] (Mr10, S) Q
        exact WP.ret rfl rfl rfl trivial (k _ _ fr_13 _ ho10 (by omega) (by omega) (by first | exact Or.inl ⟨by omega, by omega⟩ | exact Or.inr ⟨by omega, by omega, by omega⟩))
    · have p_8 := (hb_8.resolve_right (fun h => by omega)).2
      refine WP.blk 2 ?_
      show WP 2 157 33 [vR m, vI w, vI i] [vI 0, vR m] (M, S) Q
      refine WP.cl (a := [vR m, vI 0]) (rest := []) rfl rfl rfl rfl ⟨hS.1.1, trivial⟩ (by decide) (r_refused hS hf ho (fun b_15 Mr15 fr15 o15 ho15 h515 hk15 hb_15 => ⟨rfl, ?_⟩))
      show WP 2 157 36 [vR m, vI w, vI i] [vI b_15] (Mr15, S) Q
      have r_16 : Mr15 (m + 1) = f := (fr15 _ (by omega)).trans hf
      have fr_18 : ∀ r, r ≠ m → Mr15 r = M r := fun r q0 => (fr15 r q0).trans ((fun _ _ => rfl) r q0)
      have t415 := hk15 4 (by omega)
      have t715 := hk15 7 (by omega)
      refine WP.blk 1 ?_
      show WP 2 157 (if cnd .eq b_15 0 = true then 43 else 39) [vR m, vI w, vI i] [] (Mr15, S) Q
      refine br_eq (fun c_19 => ?_) (fun c_19 => ?_)
      · have p_15 := (hb_15.resolve_left (fun h => by omega)).2
        refine WP.blk 2 ?_
        show (sT S m = 10 ∧ sR S m 0 ≠ 0) ∧ WP 2 157 47 [vR m, vI w, vI i] [vR (sR S m 0)] (Mr15, S) Q
        refine ⟨⟨hS.1.1, by rw [hS.1.2.1]; omega⟩, ?_⟩
        rw [hS.1.2.1]
        refine WP.blk 1 ?_
        show WP 2 157 48 [vR m, vI w, vI i] [vI w, vR (m + 1)] (Mr15, S) Q
        refine WP.cl (a := [vI w]) (rest := [vR (m + 1)]) rfl rfl rfl rfl trivial (by decide) (q_wordAt (by omega) ⟨rfl, ?_⟩)
        show WP 2 157 51 [vR m, vI w, vI i] [vI (97 + 14 * w), vR (m + 1)] (Mr15, S) Q
        refine WP.blk 5 ?_
        show ir ((97 + 14 * w) + 2) ∧ ir (((97 + 14 * w) + 2) + i) ∧ ((sT S (m + 1) = 11 ∨ sT S (m + 1) = 16 ∨ sT S (m + 1) = 17) ∧ 0 ≤ (((97 + 14 * w) + 2) + i) ∧ (((97 + 14 * w) + 2) + i) < (sN S (m + 1) : Int)) ∧ WP 2 157 56 [vR m, vI w, vI i] [vI (Mr15 (m + 1) (((97 + 14 * w) + 2) + i))] (Mr15, S) Q
        rw [r_16]
        refine ⟨(by unfold ir; omega), (by unfold ir; omega), ⟨Or.inl hS.2.1.1, by omega, by rw [hS.2.2.1]; omega⟩, ?_⟩
        exact WP.ret rfl rfl rfl trivial (k _ _ fr_18 _ ho15 (by omega) (by omega) (by first | exact Or.inl ⟨by omega, by omega⟩ | exact Or.inr ⟨by omega, by omega, by omega⟩))
      · have p_15 := (hb_15.resolve_right (fun h => by omega)).2
        refine WP.blk 2 ?_
        show WP 2 157 56 [vR m, vI w, vI i] [vI 0] (Mr15, S) Q
        exact WP.ret rfl rfl rfl trivial (k _ _ fr_18 _ ho15 (by omega) (by omega) (by first | exact Or.inl ⟨by omega, by omega⟩ | exact Or.inr ⟨by omega, by omega, by omega⟩))
