set_option maxHeartbeats 4000000 in
theorem r_mix {S : SD} {M : Nat → Int → Int} {m : Nat} {o : Int → Int} {v : Int} (hS : isMod S m) (ho : M m = o) {Q : Res → Wd → Prop} (k : ∀ M2 : Nat → Int → Int, (∀ r, r ≠ m → M2 r = M r) → ∀ o2, M2 m = o2 → o2 = uf o 17 (31 * o 17 + v) → Q (0, none) (M2, S)) : EvQ 1 176 [vR m, vI v] (M, S) Q := by
  refine EvQ.enter (ls := [vR m, vI v]) (Nat.le_of_ble_eq_true rfl) rfl ?_
  refine WP.blk 9 ?_
  show sT S m = 10 ∧ sT S m = 10 ∧ WP 0 176 15 [vR m, vI v] [] (up M m 17 ((31 * (M m 17)) + v), S) Q
  rw [ho]
  refine ⟨hS.1.1, hS.1.1, ?_⟩
  generalize hM_1 : up M m 17 ((31 * (o 17)) + v) = M_1
  obtain ⟨g_3, hg_3⟩ : ∃ y9, y9 = uf o 17 ((31 * (o 17)) + v) := ⟨_, rfl⟩
  have r_2 : M_1 m = g_3 := by rw [← hM_1, hg_3, up_self, ho]
  have fr_4 : ∀ r, r ≠ m → M_1 r = M r := fun r q0 => by rw [← hM_1]; exact (up_row q0).trans ((fun _ _ => rfl) r q0)
  exact WP.ret rfl rfl rfl trivial (k _ fr_4 _ r_2 hg_3)
set_option maxHeartbeats 4000000 in
theorem r_isAt {S : SD} {M : Nat → Int → Int} {m : Nat} {o t : Int → Int} {a b : Int} (hS : isMod S m) (ho : M m = o) (ht : M (m + 5) = t) (hl : 0 ≤ o 8 ∧ o 7 ≤ 150) {Q : Res → Wd → Prop} (k : ∀ x : Int, (x = 1 ∧ o 8 < o 7 ∧ a ≤ t (o 8) ∧ t (o 8) ≤ b) ∨ (x = 0 ∧ ¬ (o 8 < o 7 ∧ a ≤ t (o 8) ∧ t (o 8) ≤ b)) → Q (0, vI x) (M, S)) : EvQ 2 128 [vR m, vI a, vI b] (M, S) Q := by
  refine EvQ.enter (ls := [vR m, vI a, vI b]) (Nat.le_of_ble_eq_true rfl) rfl ?_
  refine WP.blk 5 ?_
  show sT S m = 10 ∧ sT S m = 10 ∧ WP 1 128 (if cnd .ge (M m 8) (M m 7) = true then 32 else 11) [vR m, vI a, vI b] [] (M, S) Q
  rw [ho]
  refine ⟨hS.1.1, hS.1.1, ?_⟩
  refine br_ge (fun c_1 => ?_) (fun c_1 => ?_)
  · refine WP.blk 1 ?_
    show WP 1 128 33 [vR m, vI a, vI b] [vI 0] (M, S) Q
    exact WP.ret rfl rfl rfl ⟨by omega, trivial⟩ (k _ (by omega))
  · refine WP.blk 2 ?_
    show (sT S m = 10 ∧ sR S m 6 ≠ 0) ∧ WP 1 128 15 [vR m, vI a, vI b] [vR (sR S m 6)] (M, S) Q
    refine ⟨⟨hS.1.1, by rw [hS.1.2.2.2.2.2.1]; omega⟩, ?_⟩
    rw [hS.1.2.2.2.2.2.1]
    refine WP.blk 5 ?_
    show sT S m = 10 ∧ ((sT S (m + 5) = 11 ∨ sT S (m + 5) = 16 ∨ sT S (m + 5) = 17) ∧ 0 ≤ (M m 8) ∧ (M m 8) < (sN S (m + 5) : Int)) ∧ WP 1 128 22 [vR m, vI a, vI b] [vI b, vI a, vI (M (m + 5) (M m 8))] (M, S) Q
    rw [ho]
    rw [ht]
    refine ⟨hS.1.1, ⟨Or.inl hS.2.1.2.2.2.2.1, by omega, by rw [hS.2.2.2.2.2.2.1]; omega⟩, ?_⟩
    refine WP.cl (a := [vI (t (o 8)), vI a, vI b]) (rest := []) rfl rfl rfl rfl trivial (by decide) (q_in  (fun b_2 hb_2 => ⟨rfl, ?_⟩))
    show WP 1 128 25 [vR m, vI a, vI b] [vI b_2] (M, S) Q
    refine WP.blk 1 ?_
    show WP 1 128 (if cnd .eq b_2 0 = true then 32 else 28) [vR m, vI a, vI b] [] (M, S) Q
    refine br_eq (fun c_3 => ?_) (fun c_3 => ?_)
    · have p_2 := (hb_2.resolve_left (fun h => by omega)).2
      refine WP.blk 1 ?_
      show WP 1 128 33 [vR m, vI a, vI b] [vI 0] (M, S) Q
      exact WP.ret rfl rfl rfl ⟨by omega, trivial⟩ (k _ (by omega))
    · have p_2 := (hb_2.resolve_right (fun h => by omega)).2
      refine WP.blk 2 ?_
      show WP 1 128 33 [vR m, vI a, vI b] [vI 1] (M, S) Q
      exact WP.ret rfl rfl rfl ⟨by omega, trivial⟩ (k _ (by omega))
