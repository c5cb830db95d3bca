set_option maxHeartbeats 4000000 in
theorem k_colorOf {S : SD} {M : Nat → Int → Int} {k1 : Nat} {f : Int → Int} {w : Int} (hS : isSheet S k1) (hco : ColR M (k1 + 7) f) (hw : 0 ≤ w ∧ w < f 1) (h7 : f 1 ≤ 7) {Q : Res → Wd → Prop} (k : Q (0, vI (f (97 + 14 * w + 1))) (M, S)) : EvQ 1 53 [vR k1, vI w] (M, S) Q := by
  refine EvQ.enter (ls := [vR k1, vI w]) (Nat.le_of_ble_eq_true rfl) rfl ?_
  refine WP.blk 2 ?_
  show WP 0 53 (if cnd .lt w 0 = true then 19 else 4) [vR k1, vI w] [] (M, S) Q
  refine br_lt (fun c_1 => ?_) (fun c_1 => ?_)
  · refine WP.blk 1 ?_
    show WP 0 53 20 [vR k1, vI w] [vI (-1)] (M, S) Q
    exact WP.ret rfl rfl rfl trivial (by exfalso; omega)
  · refine WP.blk 3 ?_
    show WP 0 53 (if cnd .ge w 7 = true then 19 else 10) [vR k1, vI w] [] (M, S) Q
    refine br_ge (fun c_2 => ?_) (fun c_2 => ?_)
    · refine WP.blk 1 ?_
      show WP 0 53 20 [vR k1, vI w] [vI (-1)] (M, S) Q
      exact WP.ret rfl rfl rfl trivial (by exfalso; omega)
    · refine WP.blk 2 ?_
      show (sT S k1 = 8 ∧ sR S k1 2 ≠ 0) ∧ WP 0 53 14 [vR k1, vI w] [vR (sR S k1 2)] (M, S) Q
      refine ⟨⟨hS.1, by rw [(show sR S k1 2 = k1 + 7 from hS.2.2.2.1)]; omega⟩, ?_⟩
      rw [(show sR S k1 2 = k1 + 7 from hS.2.2.2.1)]
      refine WP.blk 3 ?_
      show ((sT S (k1 + 7) = 11 ∨ sT S (k1 + 7) = 16 ∨ sT S (k1 + 7) = 17) ∧ 0 ≤ w ∧ w < (sN S (k1 + 7) : Int)) ∧ WP 0 53 20 [vR k1, vI w] [vI (M (k1 + 7) w)] (M, S) Q
      refine ⟨⟨Or.inl hS.2.2.2.2.2.2.2.1, by omega, by rw [(show sN S (k1 + 7) = 7 from hS.2.2.2.2.2.2.2.2.1)]; omega⟩, ?_⟩
      exact WP.ret rfl rfl rfl trivial (by rw [hco w hw.1 hw.2]; exact k)
set_option maxHeartbeats 4000000 in
theorem k_paint {S : SD} {M : Nat → Int → Int} {k1 : Nat} {w v : Int} (hS : isSheet S k1) (hw : 0 ≤ w ∧ w ≤ 6) {Q : Res → Wd → Prop} (k : ∀ M2 : Nat → Int → Int, (∀ q9, q9 ≠ k1 + 7 → M2 q9 = M q9) → M2 (k1 + 7) = uf (M (k1 + 7)) w v → Q (0, none) (M2, S)) : EvQ 1 54 [vR k1, vI w, vI v] (M, S) Q := by
  refine EvQ.enter (ls := [vR k1, vI w, vI v]) (Nat.le_of_ble_eq_true rfl) rfl ?_
  obtain ⟨c, hc⟩ : ∃ y9, M (k1 + 7) = y9 := ⟨_, rfl⟩
  refine WP.blk 2 ?_
  show WP 0 54 (if cnd .lt w 0 = true then 17 else 4) [vR k1, vI w, vI v] [] (M, S) Q
  refine br_lt (fun c_1 => ?_) (fun c_1 => ?_)
  · exact WP.ret rfl rfl rfl trivial (by exfalso; omega)
  · refine WP.blk 3 ?_
    show WP 0 54 (if cnd .ge w 7 = true then 17 else 10) [vR k1, vI w, vI v] [] (M, S) Q
    refine br_ge (fun c_2 => ?_) (fun c_2 => ?_)
    · exact WP.ret rfl rfl rfl trivial (by exfalso; omega)
    · refine WP.blk 2 ?_
      show (sT S k1 = 8 ∧ sR S k1 2 ≠ 0) ∧ WP 0 54 14 [vR k1, vI w, vI v] [vR (sR S k1 2)] (M, S) Q
      refine ⟨⟨hS.1, by rw [(show sR S k1 2 = k1 + 7 from hS.2.2.2.1)]; omega⟩, ?_⟩
      rw [(show sR S k1 2 = k1 + 7 from hS.2.2.2.1)]
      refine WP.blk 3 ?_
      show (sT S (k1 + 7) = 11 ∧ 0 ≤ w ∧ w < (sN S (k1 + 7) : Int)) ∧ WP 0 54 17 [vR k1, vI w, vI v] [] (up M (k1 + 7) w v, S) Q
      refine ⟨⟨hS.2.2.2.2.2.2.2.1, by omega, by rw [(show sN S (k1 + 7) = 7 from hS.2.2.2.2.2.2.2.2.1)]; omega⟩, ?_⟩
      generalize hM_3 : up M (k1 + 7) w v = M_3
      obtain ⟨g_5, hg_5⟩ : ∃ y9, y9 = uf c w v := ⟨_, rfl⟩
      have r_4 : M_3 (k1 + 7) = g_5 := by rw [← hM_3, hg_5, up_self, hc]
      have fr_6 : (∀ q9, q9 ≠ k1 + 7 → M_3 q9 = M q9) := fun q9 q0 => by rw [← hM_3]; exact (up_row (by omega)).trans ((fun _ _ => rfl) q9 q0)
      exact WP.ret rfl rfl rfl trivial (k _ fr_6 (by rw [r_4, hg_5, hc]))
set_option maxHeartbeats 4000000 in
theorem k_empty {S : SD} {M : Nat → Int → Int} {k1 : Nat} (hS : isSheet S k1) {Q : Res → Wd → Prop} (k : ∀ M2 : Nat → Int → Int, (∀ q9, q9 ≠ k1 + 1 → q9 ≠ k1 + 4 → M2 q9 = M q9) → M2 (k1 + 1) = uf (M (k1 + 1)) 4 0 → M2 (k1 + 4) = uf (M (k1 + 4)) 4 0 → Q (0, none) (M2, S)) : EvQ 1 52 [vR k1] (M, S) Q := by
  refine EvQ.enter (ls := [vR k1]) (Nat.le_of_ble_eq_true rfl) rfl ?_
  obtain ⟨a, ha⟩ : ∃ y9, M (k1 + 1) = y9 := ⟨_, rfl⟩
  obtain ⟨b, hb⟩ : ∃ y9, M (k1 + 4) = y9 := ⟨_, rfl⟩
  refine WP.blk 2 ?_
  show (sT S k1 = 8 ∧ sR S k1 0 ≠ 0) ∧ WP 0 52 4 [vR k1] [vR (sR S k1 0)] (M, S) Q
  refine ⟨⟨hS.1, by rw [(show sR S k1 0 = k1 + 1 from hS.2.1)]; omega⟩, ?_⟩
  rw [(show sR S k1 0 = k1 + 1 from hS.2.1)]
  refine WP.blk 2 ?_
  show sT S (k1 + 1) = 7 ∧ WP 0 52 8 [vR k1] [] (up M (k1 + 1) 4 0, S) Q
  refine ⟨hS.2.2.2.2.2.1.1, ?_⟩
  generalize hM_1 : up M (k1 + 1) 4 0 = M_1
  obtain ⟨g_3, hg_3⟩ : ∃ y9, y9 = uf a 4 0 := ⟨_, rfl⟩
  have r_2 : M_1 (k1 + 1) = g_3 := by rw [← hM_1, hg_3, up_self, ha]
  have r_4 : M_1 (k1 + 4) = b := by rw [← hM_1]; exact (up_row (by omega)).trans hb
  have fr_5 : (∀ q9, q9 ≠ k1 + 1 → q9 ≠ k1 + 4 → M_1 q9 = M q9) := fun q9 q0 q1 => by rw [← hM_1]; exact (up_row (by omega)).trans ((fun _ _ _ => rfl) q9 q0 q1)
  refine WP.blk 2 ?_
  show (sT S k1 = 8 ∧ sR S k1 1 ≠ 0) ∧ WP 0 52 12 [vR k1] [vR (sR S k1 1)] (M_1, S) Q
  refine ⟨⟨hS.1, by rw [(show sR S k1 1 = k1 + 4 from hS.2.2.1)]; omega⟩, ?_⟩
  rw [(show sR S k1 1 = k1 + 4 from hS.2.2.1)]
  refine WP.blk 2 ?_
  show sT S (k1 + 4) = 7 ∧ WP 0 52 16 [vR k1] [] (up M_1 (k1 + 4) 4 0, S) Q
  refine ⟨hS.2.2.2.2.2.2.1.1, ?_⟩
  generalize hM_6 : up M_1 (k1 + 4) 4 0 = M_6
  have r_7 : M_6 (k1 + 1) = g_3 := by rw [← hM_6]; exact (up_row (by omega)).trans r_2
  obtain ⟨g_9, hg_9⟩ : ∃ y9, y9 = uf b 4 0 := ⟨_, rfl⟩
  have r_8 : M_6 (k1 + 4) = g_9 := by rw [← hM_6, hg_9, up_self, r_4]
  have fr_10 : (∀ q9, q9 ≠ k1 + 1 → q9 ≠ k1 + 4 → M_6 q9 = M q9) := fun q9 q0 q1 => by rw [← hM_6]; exact (up_row (by omega)).trans (fr_5 q9 q0 q1)
  exact WP.ret rfl rfl rfl trivial (k _ fr_10 (by rw [r_7, hg_3, ha]) (by rw [r_8, hg_9, hb]))
set_option maxHeartbeats 4000000 in
theorem k_isWornOut {S : SD} {M : Nat → Int → Int} {k1 : Nat} {f : Int → Int} {j : Nat} {s : Int} (hS : isSheet S k1) (hS2 : isInks S j) (hli : LimR M k1 f) (hik : InkR M j f) (hs : 0 ≤ s ∧ s < f 0) (h0 : f 0 ≤ 10) {Q : Res → Wd → Prop} (k : ∀ b : Int, (b = 1 ∧ f 2 ≤ f (7 + 9 * s + 8)) ∨ (b = 0 ∧ ¬ (f 2 ≤ f (7 + 9 * s + 8))) → Q (0, vI b) (M, S)) : EvQ 3 58 [vR k1, vR j, vI s] (M, S) Q := by
  refine EvQ.enter (ls := [vR k1, vR j, vI s]) (Nat.le_of_ble_eq_true rfl) rfl ?_
  refine WP.blk 2 ?_
  show WP 2 58 2 [vR k1, vR j, vI s] [vI s, vR j] (M, S) Q
  refine WP.cl (a := [vR j, vI s]) (rest := []) rfl rfl rfl rfl ⟨hS2.1, trivial⟩ (by decide) (k_wearOf hS2 hik hs h0 ⟨rfl, ?_⟩)
  show WP 2 58 5 [vR k1, vR j, vI s] [vI (f (7 + 9 * s + 8))] (M, S) Q
  refine WP.blk 3 ?_
  show sT S k1 = 8 ∧ WP 2 58 (if cnd .lt (f (7 + 9 * s + 8)) (M k1 4) = true then 16 else 12) [vR k1, vR j, vI s] [] (M, S) Q
  rw [hli.1]
  refine ⟨hS.1, ?_⟩
  refine br_lt (fun c_1 => ?_) (fun c_1 => ?_)
  · refine WP.blk 1 ?_
    show WP 2 58 17 [vR k1, vR j, vI s] [vI 0] (M, S) Q
    exact WP.ret rfl rfl rfl ⟨by omega, trivial⟩ (k _ (by omega))
  · refine WP.blk 2 ?_
    show WP 2 58 17 [vR k1, vR j, vI s] [vI 1] (M, S) Q
    exact WP.ret rfl rfl rfl ⟨by omega, trivial⟩ (k _ (by omega))
set_option maxHeartbeats 4000000 in
theorem k_pressesOf {S : SD} {M : Nat → Int → Int} {s : Int} (hs : 0 ≤ s ∧ s ≤ 1000) {Q : Res → Wd → Prop} (k : Q (0, vI (iL 3 (2 * s))) (M, S)) : EvQ 1 101 [vI s] (M, S) Q := by
  refine EvQ.enter (ls := [vI s]) (Nat.le_of_ble_eq_true rfl) rfl ?_
  refine WP.blk 5 ?_
  show ir (2 * s) ∧ WP 0 101 5 [vI s] [vI (iL 3 (2 * s))] (M, S) Q
  refine ⟨(by unfold ir; omega), ?_⟩
  exact WP.ret rfl rfl rfl trivial k
set_option maxHeartbeats 4000000 in
theorem k_pressesLeft {S : SD} {M : Nat → Int → Int} {k1 : Nat} {f : Int → Int} {j : Nat} (hS : isSheet S k1) (hS2 : isInks S j) (hst : StR M (k1 + 1) f) (hli : LimR M k1 f) (hik : InkR M j f) (h0 : 0 ≤ f 0 ∧ f 0 ≤ 10) {Q : Res → Wd → Prop} (k : ∀ u : Int, PLB f (f 0) u → Q (0, vI u) (M, S)) : EvQ 4 59 [vR k1, vR j] (M, S) Q := by
  refine EvQ.enter (ls := [vR k1, vR j, none, none]) (Nat.le_of_ble_eq_true rfl) rfl ?_
  refine WP.blk 4 ?_
  show WP 3 59 4 [vR k1, vR j, vI 0, vI 0] [] (M, S) Q
  have hl_4 : ∀ (n_4 : Nat) (i : Int) (u : Int), 0 ≤ i ∧ i ≤ f 0 → PLB f i u → (f 0 - i).toNat < n_4 → WP 3 59 4 [vR k1, vR j, vI u, vI i] [] (M, S) Q := by
    intro n_4
    induction n_4 with
    | zero => intro i u h1 h2 hm_4; exact absurd hm_4 (Nat.not_lt_zero _)
    | succ n_4 ih_4 =>
      intro i u h1 h2 hm_4
      refine WP.blk 3 ?_
      show (sT S k1 = 8 ∧ sR S k1 0 ≠ 0) ∧ WP 3 59 9 [vR k1, vR j, vI u, vI i] [vR (sR S k1 0), vI i] (M, S) Q
      refine ⟨⟨hS.1, by rw [(show sR S k1 0 = k1 + 1 from hS.2.1)]; omega⟩, ?_⟩
      rw [(show sR S k1 0 = k1 + 1 from hS.2.1)]
      refine WP.blk 2 ?_
      show sT S (k1 + 1) = 7 ∧ WP 3 59 (if cnd .ge i (M (k1 + 1) 4) = true then 37 else 15) [vR k1, vR j, vI u, vI i] [] (M, S) Q
      rw [hst.1.2.2]
      refine ⟨hS.2.2.2.2.2.1.1, ?_⟩
      refine br_ge (fun c_1 => ?_) (fun c_1 => ?_)
      · refine WP.blk 1 ?_
        show WP 3 59 38 [vR k1, vR j, vI u, vI i] [vI u] (M, S) Q
        exact WP.ret rfl rfl rfl trivial (k _ (by rw [show i = f 0 by omega] at h2; exact h2))
      · refine WP.blk 3 ?_
        show WP 3 59 18 [vR k1, vR j, vI u, vI i] [vI i, vR j, vR k1] (M, S) Q
        refine WP.cl (a := [vR k1, vR j, vI i]) (rest := []) rfl rfl rfl rfl ⟨hS.1, trivial⟩ (by decide) (k_isWornOut hS hS2 hli hik (by omega) (by omega) (fun b_2 hb_2 => ⟨rfl, ?_⟩))
        show WP 3 59 21 [vR k1, vR j, vI u, vI i] [vI b_2] (M, S) Q
        refine WP.blk 1 ?_
        show WP 3 59 (if cnd .ne b_2 0 = true then 31 else 24) [vR k1, vR j, vI u, vI i] [] (M, S) Q
        refine br_ne (fun c_3 => ?_) (fun c_3 => ?_)
        · have p_2 := (hb_2.resolve_right (fun h => by omega)).2
          refine WP.blk 2 ?_
          show ir (i + 1) ∧ WP 3 59 4 [vR k1, vR j, vI u, vI (i + 1)] [] (M, S) Q
          refine ⟨(by unfold ir; omega), ?_⟩
          exact ih_4 (i + 1) u (by omega) (PLB_2 h2 (by omega))  (by omega)
        · have p_2 := (hb_2.resolve_left (fun h => by omega)).2
          refine WP.blk 2 ?_
          show WP 3 59 26 [vR k1, vR j, vI u, vI i] [vI i, vI u] (M, S) Q
          refine WP.cl (a := [vI i]) (rest := [vI u]) rfl rfl rfl rfl trivial (by decide) (k_pressesOf (by omega) ⟨rfl, ?_⟩)
          show WP 3 59 29 [vR k1, vR j, vI u, vI i] [vI (iL 3 (2 * i)), vI u] (M, S) Q
          refine WP.blk 4 ?_
          show ir (i + 1) ∧ WP 3 59 4 [vR k1, vR j, vI (iO u (iL 3 (2 * i))), vI (i + 1)] [] (M, S) Q
          refine ⟨(by unfold ir; omega), ?_⟩
          exact ih_4 (i + 1) (iO u (iL 3 (2 * i))) (by omega) (PLB_1 h2 (by omega) (by omega))  (by omega)
  exact hl_4 _ 0 0 (by omega) PLB_0  (Nat.lt_succ_self _)
set_option maxHeartbeats 4000000 in
theorem k_pressesOfSet {S : SD} {M : Nat → Int → Int} {x : Int} (hx : 0 ≤ x ∧ x < 1024) {Q : Res → Wd → Prop} (k : ∀ u : Int, Ux x u → Q (0, vI u) (M, S)) : EvQ 2 100 [vI x] (M, S) Q := by
  refine EvQ.enter (ls := [vI x, none, none]) (Nat.le_of_ble_eq_true rfl) rfl ?_
  refine WP.blk 4 ?_
  show WP 1 100 4 [vI x, vI 0, vI 0] [] (M, S) Q
  have hl_4 : ∀ (n_4 : Nat) (i : Int) (u : Int), 0 ≤ i ∧ i ≤ 10 → USB x i u → (10 - i).toNat < n_4 → WP 1 100 4 [vI x, vI u, vI i] [] (M, S) Q := by
    intro n_4
    induction n_4 with
    | zero => intro i u h1 h2 hm_4; exact absurd hm_4 (Nat.not_lt_zero _)
    | succ n_4 ih_4 =>
      intro i u h1 h2 hm_4
      have e1 := fun (h : i < 10) => bs_bit (x := x) (s := i) (by omega) (by omega)
      refine WP.blk 3 ?_
      show WP 1 100 (if cnd .ge i 10 = true then 31 else 10) [vI x, vI u, vI i] [] (M, S) Q
      refine br_ge (fun c_1 => ?_) (fun c_1 => ?_)
      · refine WP.blk 1 ?_
        show WP 1 100 32 [vI x, vI u, vI i] [vI u] (M, S) Q
        exact WP.ret rfl rfl rfl trivial (k _ (by rw [show i = 10 by omega] at h2; exact USB_e h2))
      · refine WP.blk 6 ?_
        show WP 1 100 (if cnd .eq (iA (iR x i) 1) 0 = true then 25 else 18) [vI x, vI u, vI i] [] (M, S) Q
        refine br_eq (fun c_2 => ?_) (fun c_2 => ?_)
        · refine WP.blk 2 ?_
          show ir (i + 1) ∧ WP 1 100 4 [vI x, vI u, vI (i + 1)] [] (M, S) Q
          refine ⟨(by unfold ir; omega), ?_⟩
          exact ih_4 (i + 1) u (by omega) (USB_2 h2 (fun h => by have := (e1 (by omega)).1 h; omega))  (by omega)
        · refine WP.blk 2 ?_
          show WP 1 100 20 [vI x, vI u, vI i] [vI i, vI u] (M, S) Q
          refine WP.cl (a := [vI i]) (rest := [vI u]) rfl rfl rfl rfl trivial (by decide) (k_pressesOf (by omega) ⟨rfl, ?_⟩)
          show WP 1 100 23 [vI x, vI u, vI i] [vI (iL 3 (2 * i)), vI u] (M, S) Q
          refine WP.blk 4 ?_
          show ir (i + 1) ∧ WP 1 100 4 [vI x, vI (iO u (iL 3 (2 * i))), vI (i + 1)] [] (M, S) Q
          refine ⟨(by unfold ir; omega), ?_⟩
          exact ih_4 (i + 1) (iO u (iL 3 (2 * i))) (by omega) (USB_1 h2 (by omega) ((e1 (by omega)).2.1 (by have := (e1 (by omega)).2.2; omega)))  (by omega)
  exact hl_4 _ 0 0 (by omega) USB_0  (Nat.lt_succ_self _)
theorem k_open {S : SD} {M : Nat → Int → Int} {r : Nat} {mr ml n : Int} {len : Int → Int} {lt : Int → Int → Int} (hS : isRows S r) (h : RowsR M r mr ml n len lt) (hm : mr ≤ 10) (hml : 0 ≤ ml) {Q : Res → Wd → Prop} (k : ∀ (b : Int) (M2 : Nat → Int → Int), (∀ q9, q9 ≠ r → q9 ≠ r + 1 → M2 q9 = M q9) → (b = 1 ∧ n < mr ∧ RowsR M2 r mr ml (n + 1) (uf len n 0) lt) ∨ (b = 0 ∧ n = mr ∧ M2 = M) → Q (0, vI b) (M2, S)) : EvQ 1 47 [vR r] (M, S) Q := by
  have hh := h
  obtain ⟨⟨e0, e1, e4⟩, e5, e6⟩ := h
  refine q_open hS (by omega) (fun b M2 hb => ?_)
  rcases hb with ⟨g1, g2, g3⟩ | ⟨g1, g2, g3⟩
  · subst g3
    refine k b _ (fun q a c => by rw [up_row a, up_row c]) (Or.inl ⟨g1, by omega, ?_⟩)
    unfold RowsR at hh ⊢
    rw [← e4] at hh ⊢
    rw [up_self, up_row (show r ≠ r + 1 by omega), up_row (show r + 1 ≠ r by omega), up_self, up_row (show r + 2 ≠ r by omega), up_row (show r + 2 ≠ r + 1 by omega)]
    exact rowsF_open hh (by omega) hml
  · subst g3
    exact k b _ (fun q a c => rfl) (Or.inr ⟨g1, by omega, rfl⟩)
set_option maxHeartbeats 4000000 in
theorem k_addPart {S : SD} {M : Nat → Int → Int} {k1 : Nat} {f : Int → Int} {w p n : Int} (hS : isSheet S k1) (hst : StR M (k1 + 1) f) (hwd : WdR M (k1 + 4) f) (hco : ColR M (k1 + 7) f) (hli : LimR M k1 f) (hik : InkR M (k1 + 8) f) (h0 : 0 ≤ f 0 ∧ f 0 ≤ 9) (hc : Cd f 5 w p n) (hl : ∀ s, 0 ≤ s → s < f 0 → f (7 + 9 * s) ≤ 5) {Q : Res → Wd → Prop} (k : ∀ M2 : Nat → Int → Int, (∀ q9, (q9 < k1 ∨ k1 + 12 ≤ q9) → M2 q9 = M q9) → Sht M2 k1 (cutR f w p n) → Q (0, none) (M2, S)) : EvQ 3 55 [vR k1, vI w, vI p, vI n] (M, S) Q := by
  refine EvQ.enter (ls := [vR k1, vI w, vI p, vI n, none]) (Nat.le_of_ble_eq_true rfl) rfl ?_
  obtain ⟨⟨hc1, hc2⟩, ⟨hc3, hc4⟩, ⟨hc5, hc6⟩, hc7⟩ := hc
  have hw12 := ((hwd.2.2 w hc1 hc2).1).2.2
  have hw12 : f (97 + 14 * w) ≤ 12 := hw12
  refine WP.blk 2 ?_
  show (sT S k1 = 8 ∧ sR S k1 0 ≠ 0) ∧ WP 2 55 4 [vR k1, vI w, vI p, vI n, none] [vR (sR S k1 0)] (M, S) Q
  refine ⟨⟨hS.1, by rw [(show sR S k1 0 = k1 + 1 from hS.2.1)]; omega⟩, ?_⟩
  rw [(show sR S k1 0 = k1 + 1 from hS.2.1)]
  refine WP.cl (a := [vR (k1 + 1)]) (rest := []) rfl rfl rfl rfl ⟨hS.2.2.2.2.2.1.1, trivial⟩ (by decide) (k_open hS.2.2.2.2.2.1 hst (by omega) (by omega) (fun b_1 M1 fr1 hb_1 => ⟨rfl, ?_⟩))
  show WP 2 55 7 [vR k1, vI w, vI p, vI n, none] [vI b_1] (M1, S) Q
  have F_2 : WdR M1 (k1 + 4) f := WdR_fr (fun r9 h8 h9 => fr1 r9 (by omega) (by omega)) hwd
  have F_3 : ColR M1 (k1 + 7) f := ColR_fr (fun r9 h8 h9 => fr1 r9 (by omega) (by omega)) hco
  have F_4 : LimR M1 k1 f := LimR_fr (fun r9 h8 h9 => fr1 r9 (by omega) (by omega)) hli
  have F_5 : InkR M1 (k1 + 8) f := InkR_fr (fun r9 h8 h9 => fr1 r9 (by omega) (by omega)) hik
  have fr_6 : (∀ q9, (q9 < k1 ∨ k1 + 12 ≤ q9) → M1 q9 = M q9) := fun q9 q0 => (fr1 q9 (by omega) (by omega)).trans ((fun _ _ => rfl) q9 q0)
  refine WP.blk 1 ?_
  show WP 2 55 (if cnd .ne b_1 0 = true then 11 else 10) [vR k1, vI w, vI p, vI n, none] [] (M1, S) Q
  refine br_ne (fun c_7 => ?_) (fun c_7 => ?_)
  · have p_1 := (hb_1.resolve_right (fun h => by omega)).2
    have hq := ltC_0 (w := w) (p := p) (hb_1.resolve_right (fun h9 => by omega)).2.2
    refine WP.blk 2 ?_
    show WP 2 55 14 [vR k1, vI w, vI p, vI n, vI 0] [] (M1, S) Q
    have hl_14 : ∀ (n_14 : Nat) (i : Int) (M1 : Nat → Int → Int), 0 ≤ i ∧ i ≤ n → RowsR M1 (k1 + 1) 10 5 (f 0 + 1) (lenC f i) (ltC f w p i) → WdR M1 (k1 + 4) f → ColR M1 (k1 + 7) f → LimR M1 k1 f → InkR M1 (k1 + 8) f → (∀ q9, (q9 < k1 ∨ k1 + 12 ≤ q9) → M1 q9 = M q9) → (n - i).toNat < n_14 → WP 2 55 14 [vR k1, vI w, vI p, vI n, vI i] [] (M1, S) Q := by
      intro n_14
      induction n_14 with
      | zero => intro i M1 h1 hq F_14_wd F_14_co F_14_li F_14_ik fr_14 hm_14; exact absurd hm_14 (Nat.not_lt_zero _)
      | succ n_14 ih_14 =>
        intro i M1 h1 hq F_14_wd F_14_co F_14_li F_14_ik fr_14 hm_14
        refine WP.blk 3 ?_
        show WP 2 55 (if cnd .ge i n = true then 52 else 20) [vR k1, vI w, vI p, vI n, vI i] [] (M1, S) Q
        refine br_ge (fun c_8 => ?_) (fun c_8 => ?_)
        · refine WP.blk 2 ?_
          show (sT S k1 = 8 ∧ sR S k1 3 ≠ 0) ∧ WP 2 55 56 [vR k1, vI w, vI p, vI n, vI i] [vR (sR S k1 3)] (M1, S) Q
          refine ⟨⟨hS.1, by rw [(show sR S k1 3 = k1 + 8 from hS.2.2.2.2.1)]; omega⟩, ?_⟩
          rw [(show sR S k1 3 = k1 + 8 from hS.2.2.2.2.1)]
          refine WP.blk 2 ?_
          show (sT S k1 = 8 ∧ sR S k1 0 ≠ 0) ∧ WP 2 55 60 [vR k1, vI w, vI p, vI n, vI i] [vR (sR S k1 0), vR (k1 + 8)] (M1, S) Q
          refine ⟨⟨hS.1, by rw [(show sR S k1 0 = k1 + 1 from hS.2.1)]; omega⟩, ?_⟩
          rw [(show sR S k1 0 = k1 + 1 from hS.2.1)]
          refine WP.blk 3 ?_
          show sT S (k1 + 1) = 7 ∧ ir ((M1 (k1 + 1) 4) - 1) ∧ WP 2 55 65 [vR k1, vI w, vI p, vI n, vI i] [vI ((M1 (k1 + 1) 4) - 1), vR (k1 + 8)] (M1, S) Q
          rw [hq.1.2.2]
          refine ⟨hS.2.2.2.2.2.1.1, (by unfold ir; omega), ?_⟩
          refine WP.cl (a := [vR (k1 + 8), vI (((f 0 + 1)) - 1)]) (rest := []) rfl rfl rfl rfl ⟨hS.2.2.2.2.2.2.2.2.2.1, trivial⟩ (by decide) (k_renew (v := w) (p := p) (n := n) hS.2.2.2.2.2.2.2.2.2 F_14_ik (by omega) (by omega) (by omega) (fun My_9 fry_9 hky_9 => ⟨rfl, ?_⟩))
          show WP 2 55 68 [vR k1, vI w, vI p, vI n, vI i] [] (My_9, S) Q
          have F_10 : WdR My_9 (k1 + 4) f := WdR_fr (fun r9 h8 h9 => fry_9 r9 (by omega)) F_14_wd
          have F_11 : ColR My_9 (k1 + 7) f := ColR_fr (fun r9 h8 h9 => fry_9 r9 (by omega)) F_14_co
          have F_12 : LimR My_9 k1 f := LimR_fr (fun r9 h8 h9 => fry_9 r9 (by omega)) F_14_li
          have fr_13 : (∀ q9, (q9 < k1 ∨ k1 + 12 ≤ q9) → My_9 q9 = M q9) := fun q9 q0 => (fry_9 q9 (by omega)).trans (fr_14 q9 q0)
          have hqy_9 := RowsR_fr (fun r9 h8 h9 => fry_9 r9 (by omega)) hq
          exact WP.ret rfl rfl rfl trivial (k _ fr_13 ⟨⟨ltC_e (by omega) (by omega) hl (by rw [show n = i by omega]; exact hqy_9), wdr_c (cutR_lo (by omega) (by omega)) (fun k9 h9 => cutR_hi (by omega) (by omega) h9) F_10, col_c (cutR_lo (by omega) (by omega)) (fun k9 h9 => cutR_hi (by omega) (by omega) h9) F_11, lim_c (cutR_lo (by omega) (by omega)) (cutR_lo (by omega) (by omega)) F_12⟩, hky_9⟩)
        · refine WP.blk 3 ?_
          show WP 2 55 (if cnd .ge i 5 = true then 52 else 26) [vR k1, vI w, vI p, vI n, vI i] [] (M1, S) Q
          refine br_ge (fun c_14 => ?_) (fun c_14 => ?_)
          · refine WP.blk 2 ?_
            show (sT S k1 = 8 ∧ sR S k1 3 ≠ 0) ∧ WP 2 55 56 [vR k1, vI w, vI p, vI n, vI i] [vR (sR S k1 3)] (M1, S) Q
            refine ⟨⟨hS.1, by rw [(show sR S k1 3 = k1 + 8 from hS.2.2.2.2.1)]; omega⟩, ?_⟩
            rw [(show sR S k1 3 = k1 + 8 from hS.2.2.2.2.1)]
            refine WP.blk 2 ?_
            show (sT S k1 = 8 ∧ sR S k1 0 ≠ 0) ∧ WP 2 55 60 [vR k1, vI w, vI p, vI n, vI i] [vR (sR S k1 0), vR (k1 + 8)] (M1, S) Q
            refine ⟨⟨hS.1, by rw [(show sR S k1 0 = k1 + 1 from hS.2.1)]; omega⟩, ?_⟩
            rw [(show sR S k1 0 = k1 + 1 from hS.2.1)]
            refine WP.blk 3 ?_
            show sT S (k1 + 1) = 7 ∧ ir ((M1 (k1 + 1) 4) - 1) ∧ WP 2 55 65 [vR k1, vI w, vI p, vI n, vI i] [vI ((M1 (k1 + 1) 4) - 1), vR (k1 + 8)] (M1, S) Q
            rw [hq.1.2.2]
            refine ⟨hS.2.2.2.2.2.1.1, (by unfold ir; omega), ?_⟩
            refine WP.cl (a := [vR (k1 + 8), vI (((f 0 + 1)) - 1)]) (rest := []) rfl rfl rfl rfl ⟨hS.2.2.2.2.2.2.2.2.2.1, trivial⟩ (by decide) (k_renew (v := w) (p := p) (n := n) hS.2.2.2.2.2.2.2.2.2 F_14_ik (by omega) (by omega) (by omega) (fun My_15 fry_15 hky_15 => ⟨rfl, ?_⟩))
            show WP 2 55 68 [vR k1, vI w, vI p, vI n, vI i] [] (My_15, S) Q
            have F_16 : WdR My_15 (k1 + 4) f := WdR_fr (fun r9 h8 h9 => fry_15 r9 (by omega)) F_14_wd
            have F_17 : ColR My_15 (k1 + 7) f := ColR_fr (fun r9 h8 h9 => fry_15 r9 (by omega)) F_14_co
            have F_18 : LimR My_15 k1 f := LimR_fr (fun r9 h8 h9 => fry_15 r9 (by omega)) F_14_li
            have fr_19 : (∀ q9, (q9 < k1 ∨ k1 + 12 ≤ q9) → My_15 q9 = M q9) := fun q9 q0 => (fry_15 q9 (by omega)).trans (fr_14 q9 q0)
            have hqy_15 := RowsR_fr (fun r9 h8 h9 => fry_15 r9 (by omega)) hq
            exact WP.ret rfl rfl rfl trivial (k _ fr_19 ⟨⟨ltC_e (by omega) (by omega) hl (by rw [show n = i by omega]; exact hqy_15), wdr_c (cutR_lo (by omega) (by omega)) (fun k9 h9 => cutR_hi (by omega) (by omega) h9) F_16, col_c (cutR_lo (by omega) (by omega)) (fun k9 h9 => cutR_hi (by omega) (by omega) h9) F_17, lim_c (cutR_lo (by omega) (by omega)) (cutR_lo (by omega) (by omega)) F_18⟩, hky_15⟩)
          · refine WP.blk 2 ?_
            show (sT S k1 = 8 ∧ sR S k1 0 ≠ 0) ∧ WP 2 55 30 [vR k1, vI w, vI p, vI n, vI i] [vR (sR S k1 0)] (M1, S) Q
            refine ⟨⟨hS.1, by rw [(show sR S k1 0 = k1 + 1 from hS.2.1)]; omega⟩, ?_⟩
            rw [(show sR S k1 0 = k1 + 1 from hS.2.1)]
            refine WP.blk 2 ?_
            show (sT S k1 = 8 ∧ sR S k1 1 ≠ 0) ∧ WP 2 55 34 [vR k1, vI w, vI p, vI n, vI i] [vR (sR S k1 1), vR (k1 + 1)] (M1, S) Q
            refine ⟨⟨hS.1, by rw [(show sR S k1 1 = k1 + 4 from hS.2.2.1)]; omega⟩, ?_⟩
            rw [(show sR S k1 1 = k1 + 4 from hS.2.2.1)]
            refine WP.blk 4 ?_
            show ir (p + i) ∧ WP 2 55 39 [vR k1, vI w, vI p, vI n, vI i] [vI (p + i), vI w, vR (k1 + 4), vR (k1 + 1)] (M1, S) Q
            refine ⟨(by unfold ir; omega), ?_⟩
            refine WP.cl (a := [vR (k1 + 4), vI w, vI (p + i)]) (rest := [vR (k1 + 1)]) rfl rfl rfl rfl ⟨hS.2.2.2.2.2.2.1.1, trivial⟩ (by decide) (k_let hS.2.2.2.2.2.2.1 F_14_wd (by omega) (by omega) (by omega) (show 0 ≤ p + i ∧ p + i < f (97 + 14 * w) by omega) ⟨rfl, ?_⟩)
            show WP 2 55 42 [vR k1, vI w, vI p, vI n, vI i] [vI (f (97 + 14 * w + 2 + (p + i))), vR (k1 + 1)] (M1, S) Q
            refine WP.cl (a := [vR (k1 + 1), vI (f (97 + 14 * w + 2 + (p + i)))]) (rest := []) rfl rfl rfl rfl ⟨hS.2.2.2.2.2.1.1, trivial⟩ (by decide) (k_addLetter hS.2.2.2.2.2.1 hq (by omega) (by omega) (by omega) (fun b_20 M20 fr20 hb_20 => ⟨rfl, ?_⟩))
            show WP 2 55 45 [vR k1, vI w, vI p, vI n, vI i] [vI b_20] (M20, S) Q
            have F_21 : WdR M20 (k1 + 4) f := WdR_fr (fun r9 h8 h9 => fr20 r9 (by omega) (by omega)) F_14_wd
            have F_22 : ColR M20 (k1 + 7) f := ColR_fr (fun r9 h8 h9 => fr20 r9 (by omega) (by omega)) F_14_co
            have F_23 : LimR M20 k1 f := LimR_fr (fun r9 h8 h9 => fr20 r9 (by omega) (by omega)) F_14_li
            have F_24 : InkR M20 (k1 + 8) f := InkR_fr (fun r9 h8 h9 => fr20 r9 (by omega) (by omega)) F_14_ik
            have fr_25 : (∀ q9, (q9 < k1 ∨ k1 + 12 ≤ q9) → M20 q9 = M q9) := fun q9 q0 => (fr20 q9 (by omega) (by omega)).trans (fr_14 q9 q0)
            have hq20 := (hb_20.resolve_right (fun h9 => by have h8 := h9.2.1; rw [show f 0 + 1 - 1 = f 0 by omega, lenC_n] at h8; omega)).2.2
            refine WP.blk 3 ?_
            show ir (i + 1) ∧ WP 2 55 14 [vR k1, vI w, vI p, vI n, vI (i + 1)] [] (M20, S) Q
            refine ⟨(by unfold ir; omega), ?_⟩
            exact ih_14 (i + 1) M20 (by omega) (ltC_s h1.1 (by congr 1; omega) hq20) F_21 F_22 F_23 F_24 fr_25 (by omega)
    exact hl_14 _ 0 M1 (by omega) hq F_2 F_3 F_4 F_5 fr_6 (Nat.lt_succ_self _)
  · have p_1 := (hb_1.resolve_left (fun h => by omega)).2
    exact WP.ret rfl rfl rfl trivial (by exfalso; omega)
set_option maxHeartbeats 4000000 in
theorem k_takeOutStamp {S : SD} {M : Nat → Int → Int} {k1 : Nat} {f : Int → Int} {s : Int} (hS : isSheet S k1) (hst : StR M (k1 + 1) f) (hwd : WdR M (k1 + 4) f) (hco : ColR M (k1 + 7) f) (hli : LimR M k1 f) (hik : InkR M (k1 + 8) f) (h0 : f 0 ≤ 10) (hs : 0 ≤ s ∧ s < f 0) (hl : ∀ s, 0 ≤ s → s < f 0 → f (7 + 9 * s) ≤ 5) {Q : Res → Wd → Prop} (k : ∀ M2 : Nat → Int → Int, (∀ q9, (q9 < k1 ∨ k1 + 12 ≤ q9) → M2 q9 = M q9) → Sht M2 k1 (remR f s) → Q (0, none) (M2, S)) : EvQ 3 56 [vR k1, vI s] (M, S) Q := by
  refine EvQ.enter (ls := [vR k1, vI s]) (Nat.le_of_ble_eq_true rfl) rfl ?_
  refine WP.blk 2 ?_
  show (sT S k1 = 8 ∧ sR S k1 0 ≠ 0) ∧ WP 2 56 4 [vR k1, vI s] [vR (sR S k1 0)] (M, S) Q
  refine ⟨⟨hS.1, by rw [(show sR S k1 0 = k1 + 1 from hS.2.1)]; omega⟩, ?_⟩
  rw [(show sR S k1 0 = k1 + 1 from hS.2.1)]
  refine WP.blk 1 ?_
  show WP 2 56 5 [vR k1, vI s] [vI s, vR (k1 + 1)] (M, S) Q
  refine WP.cl (a := [vR (k1 + 1), vI s]) (rest := []) rfl rfl rfl rfl ⟨hS.2.2.2.2.2.1.1, trivial⟩ (by decide) (k_takeOut hS.2.2.2.2.2.1 hst (by omega) (by omega) hs (fun My_1 fry_1 hky_1 => ⟨rfl, ?_⟩))
  show WP 2 56 8 [vR k1, vI s] [] (My_1, S) Q
  have F_2 : WdR My_1 (k1 + 4) f := WdR_fr (fun r9 h8 h9 => fry_1 r9 (by omega)) hwd
  have F_3 : ColR My_1 (k1 + 7) f := ColR_fr (fun r9 h8 h9 => fry_1 r9 (by omega)) hco
  have F_4 : LimR My_1 k1 f := LimR_fr (fun r9 h8 h9 => fry_1 r9 (by omega)) hli
  have F_5 : InkR My_1 (k1 + 8) f := InkR_fr (fun r9 h8 h9 => fry_1 r9 (by omega)) hik
  have fr_6 : (∀ q9, (q9 < k1 ∨ k1 + 12 ≤ q9) → My_1 q9 = M q9) := fun q9 q0 => (fry_1 q9 (by omega)).trans ((fun _ _ => rfl) q9 q0)
  refine WP.blk 2 ?_
  show (sT S k1 = 8 ∧ sR S k1 3 ≠ 0) ∧ WP 2 56 12 [vR k1, vI s] [vR (sR S k1 3)] (My_1, S) Q
  refine ⟨⟨hS.1, by rw [(show sR S k1 3 = k1 + 8 from hS.2.2.2.2.1)]; omega⟩, ?_⟩
  rw [(show sR S k1 3 = k1 + 8 from hS.2.2.2.2.1)]
  refine WP.blk 1 ?_
  show WP 2 56 13 [vR k1, vI s] [vI s, vR (k1 + 8)] (My_1, S) Q
  refine WP.cl (a := [vR (k1 + 8), vI s]) (rest := []) rfl rfl rfl rfl ⟨hS.2.2.2.2.2.2.2.2.2.1, trivial⟩ (by decide) (k_takeInk hS.2.2.2.2.2.2.2.2.2 F_5 hs (by omega) (fun My_7 fry_7 hky_7 => ⟨rfl, ?_⟩))
  show WP 2 56 16 [vR k1, vI s] [] (My_7, S) Q
  have F_8 : WdR My_7 (k1 + 4) f := WdR_fr (fun r9 h8 h9 => fry_7 r9 (by omega)) F_2
  have F_9 : ColR My_7 (k1 + 7) f := ColR_fr (fun r9 h8 h9 => fry_7 r9 (by omega)) F_3
  have F_10 : LimR My_7 k1 f := LimR_fr (fun r9 h8 h9 => fry_7 r9 (by omega)) F_4
  have fr_11 : (∀ q9, (q9 < k1 ∨ k1 + 12 ≤ q9) → My_7 q9 = M q9) := fun q9 q0 => (fry_7 q9 (by omega)).trans (fr_6 q9 q0)
  have hry_7 := RowsR_fr (fun r9 h8 h9 => fry_7 r9 (by omega)) hky_1
  exact WP.ret rfl rfl rfl trivial (k _ fr_11 ⟨⟨rem_st hs hl hry_7, wdr_c (remR_lo (by omega) (by omega)) (fun k9 h9 => remR_hi (by omega) (by omega)) F_8, col_c (remR_lo (by omega) (by omega)) (fun k9 h9 => remR_hi (by omega) (by omega)) F_9, lim_c (remR_lo (by omega) (by omega)) (remR_lo (by omega) (by omega)) F_10⟩, hky_7⟩)
set_option maxHeartbeats 4000000 in
theorem k_takeOutWord {S : SD} {M : Nat → Int → Int} {k1 : Nat} {f : Int → Int} {s : Int} (hS : isSheet S k1) (hst : StR M (k1 + 1) f) (hwd : WdR M (k1 + 4) f) (hco : ColR M (k1 + 7) f) (hli : LimR M k1 f) (hik : InkR M (k1 + 8) f) (h7 : f 1 ≤ 7) (h10 : f 0 ≤ 10) (hs : 0 ≤ s ∧ s < f 1) (hl : ∀ s, 0 ≤ s → s < f 1 → f (97 + 14 * s) ≤ 12) (hl5 : ∀ s, 0 ≤ s → s < f 0 → f (7 + 9 * s) ≤ 5) {Q : Res → Wd → Prop} (k : ∀ M2 : Nat → Int → Int, (∀ q9, (q9 < k1 ∨ k1 + 12 ≤ q9) → M2 q9 = M q9) → Sht M2 k1 (dropR f s) → Q (0, none) (M2, S)) : EvQ 3 57 [vR k1, vI s] (M, S) Q := by
  refine EvQ.enter (ls := [vR k1, vI s]) (Nat.le_of_ble_eq_true rfl) rfl ?_
  obtain ⟨c, hc⟩ : ∃ y9, M (k1 + 7) = y9 := ⟨_, rfl⟩
  refine WP.blk 2 ?_
  show (sT S k1 = 8 ∧ sR S k1 1 ≠ 0) ∧ WP 2 57 4 [vR k1, vI s] [vR (sR S k1 1)] (M, S) Q
  refine ⟨⟨hS.1, by rw [(show sR S k1 1 = k1 + 4 from hS.2.2.1)]; omega⟩, ?_⟩
  rw [(show sR S k1 1 = k1 + 4 from hS.2.2.1)]
  refine WP.blk 1 ?_
  show WP 2 57 5 [vR k1, vI s] [vI s, vR (k1 + 4)] (M, S) Q
  refine WP.cl (a := [vR (k1 + 4), vI s]) (rest := []) rfl rfl rfl rfl ⟨hS.2.2.2.2.2.2.1.1, trivial⟩ (by decide) (k_takeOut hS.2.2.2.2.2.2.1 hwd (by omega) (by omega) hs (fun My_1 fry_1 hky_1 => ⟨rfl, ?_⟩))
  show WP 2 57 8 [vR k1, vI s] [] (My_1, S) Q
  have r_2 : My_1 (k1 + 7) = c := (fry_1 _ (by omega)).trans hc
  have F_3 : StR My_1 (k1 + 1) f := StR_fr (fun r9 h8 h9 => fry_1 r9 (by omega)) hst
  have F_4 : LimR My_1 k1 f := LimR_fr (fun r9 h8 h9 => fry_1 r9 (by omega)) hli
  have F_5 : InkR My_1 (k1 + 8) f := InkR_fr (fun r9 h8 h9 => fry_1 r9 (by omega)) hik
  have fr_6 : (∀ q9, (q9 < k1 ∨ k1 + 12 ≤ q9) → My_1 q9 = M q9) := fun q9 q0 => (fry_1 q9 (by omega)).trans ((fun _ _ => rfl) q9 q0)
  refine WP.blk 2 ?_
  show WP 2 57 (if cnd .lt s 0 = true then 37 else 12) [vR k1, vI s] [] (My_1, S) Q
  refine br_lt (fun c_7 => ?_) (fun c_7 => ?_)
  · exact WP.ret rfl rfl rfl trivial (by exfalso; omega)
  · refine WP.blk 3 ?_
    show WP 2 57 (if cnd .ge s 7 = true then 37 else 18) [vR k1, vI s] [] (My_1, S) Q
    refine br_ge (fun c_8 => ?_) (fun c_8 => ?_)
    · exact WP.ret rfl rfl rfl trivial (by exfalso; omega)
    · refine WP.blk 2 ?_
      show (sT S k1 = 8 ∧ sR S k1 2 ≠ 0) ∧ WP 2 57 22 [vR k1, vI s] [vR (sR S k1 2)] (My_1, S) Q
      refine ⟨⟨hS.1, by rw [(show sR S k1 2 = k1 + 7 from hS.2.2.2.1)]; omega⟩, ?_⟩
      rw [(show sR S k1 2 = k1 + 7 from hS.2.2.2.1)]
      refine WP.blk 5 ?_
      show ir (s + 1) ∧ (sT S k1 = 8 ∧ sR S k1 2 ≠ 0) ∧ WP 2 57 29 [vR k1, vI s] [vR (sR S k1 2), vI (s + 1), vR (k1 + 7)] (My_1, S) Q
      refine ⟨(by unfold ir; omega), ⟨hS.1, by rw [(show sR S k1 2 = k1 + 7 from hS.2.2.2.1)]; omega⟩, ?_⟩
      rw [(show sR S k1 2 = k1 + 7 from hS.2.2.2.1)]
      refine WP.blk 5 ?_
      show ir (6 - s) ∧ (sT S (k1 + 7) = 11 ∧ sT S (k1 + 7) = 11 ∧ 0 ≤ (s + 1) ∧ 0 ≤ s ∧ 0 ≤ (6 - s) ∧ (s + 1) + (6 - s) ≤ (sN S (k1 + 7) : Int) ∧ s + (6 - s) ≤ (sN S (k1 + 7) : Int)) ∧ WP 2 57 37 [vR k1, vI s] [] (cpy My_1 (k1 + 7) (s + 1) (k1 + 7) s (6 - s), S) Q
      refine ⟨(by unfold ir; omega), ⟨hS.2.2.2.2.2.2.2.1, hS.2.2.2.2.2.2.2.1, by omega, by omega, by omega, by rw [(show sN S (k1 + 7) = 7 from hS.2.2.2.2.2.2.2.2.1)]; omega, by rw [(show sN S (k1 + 7) = 7 from hS.2.2.2.2.2.2.2.2.1)]; omega⟩, ?_⟩
      generalize hM_9 : cpy My_1 (k1 + 7) (s + 1) (k1 + 7) s (6 - s) = M_9
      obtain ⟨g_11, hg_11⟩ : ∃ y9, y9 = rcp c (s + 1) c s (6 - s) := ⟨_, rfl⟩
      have r_10 : M_9 (k1 + 7) = g_11 := by rw [← hM_9, hg_11, cpy_self, r_2]
      have F_12 : StR M_9 (k1 + 1) f := StR_fr (fun r9 h8 h9 => by rw [← hM_9]; exact cpy_row (by omega)) F_3
      have F_13 : LimR M_9 k1 f := LimR_fr (fun r9 h8 h9 => by rw [← hM_9]; exact cpy_row (by omega)) F_4
      have F_14 : InkR M_9 (k1 + 8) f := InkR_fr (fun r9 h8 h9 => by rw [← hM_9]; exact cpy_row (by omega)) F_5
      have fr_15 : (∀ q9, (q9 < k1 ∨ k1 + 12 ≤ q9) → M_9 q9 = M q9) := fun q9 q0 => by rw [← hM_9]; exact (cpy_row (by omega)).trans (fr_6 q9 q0)
      exact WP.ret rfl rfl rfl trivial (k _ fr_15 ⟨⟨str_c (dropR_lo (by omega) (by omega)) hl5 (fun s9 k9 a b c d => dropR_lo (by omega) (by omega)) F_12, drop_wd hs hl (RowsR_fr (fun r9 h8 h9 => by rw [← hM_9]; exact cpy_row (by omega)) hky_1), drop_col hs h7 (by unfold ColR at hco; rw [hc] at hco; exact hco) (by rw [r_10, hg_11]), lim_c (dropR_lo (by omega) (by omega)) (dropR_lo (by omega) (by omega)) F_13⟩, ink_c (dropR_lo (by omega) (by omega)) (fun s9 a b j9 c d => dropR_lo (by omega) (by omega)) (dropR_lo (by omega) (by omega)) (dropR_lo (by omega) (by omega)) (dropR_lo (by omega) (by omega)) F_14⟩)
set_option maxHeartbeats 4000000 in
theorem k_takeItems {S : SD} {M : Nat → Int → Int} {k1 q : Nat} {f : Int → Int} (hS : isSheet S k1) (hS2 : isSheet S q) (hd : k1 + 12 ≤ q ∨ q + 12 ≤ k1) (hc0 : M (k1 + 1) 0 = 10) (hc1 : M (k1 + 1) 1 = 5) (hc2 : M (k1 + 4) 0 = 7) (hc3 : M (k1 + 4) 1 = 12) (hst : StR M (q + 1) f) (hwd : WdR M (q + 4) f) (hco : ColR M (q + 7) f) (hik : InkR M (q + 8) f) (h0 : f 0 ≤ 10) (h7 : f 1 ≤ 7) {Q : Res → Wd → Prop} (k : ∀ M2 : Nat → Int → Int, (∀ q9, (q9 < k1 + 1 ∨ k1 + 12 ≤ q9) → M2 q9 = M q9) → StR M2 (k1 + 1) f → WdR M2 (k1 + 4) f → ColR M2 (k1 + 7) f → InkR M2 (k1 + 8) f → Q (0, none) (M2, S)) : EvQ 2 60 [vR k1, vR q] (M, S) Q := by
  refine EvQ.enter (ls := [vR k1, vR q]) (Nat.le_of_ble_eq_true rfl) rfl ?_
  obtain ⟨c, hc⟩ : ∃ y9, M (k1 + 7) = y9 := ⟨_, rfl⟩
  obtain ⟨c9, hc9⟩ : ∃ y9, M (q + 7) = y9 := ⟨_, rfl⟩
  unfold ColR at hco
  rw [hc9] at hco
  refine WP.blk 2 ?_
  show (sT S k1 = 8 ∧ sR S k1 0 ≠ 0) ∧ WP 1 60 4 [vR k1, vR q] [vR (sR S k1 0)] (M, S) Q
  refine ⟨⟨hS.1, by rw [(show sR S k1 0 = k1 + 1 from hS.2.1)]; omega⟩, ?_⟩
  rw [(show sR S k1 0 = k1 + 1 from hS.2.1)]
  refine WP.blk 2 ?_
  show (sT S q = 8 ∧ sR S q 0 ≠ 0) ∧ WP 1 60 8 [vR k1, vR q] [vR (sR S q 0), vR (k1 + 1)] (M, S) Q
  refine ⟨⟨hS2.1, by rw [(show sR S q 0 = q + 1 from hS2.2.1)]; omega⟩, ?_⟩
  rw [(show sR S q 0 = q + 1 from hS2.2.1)]
  refine WP.cl (a := [vR (k1 + 1), vR (q + 1)]) (rest := []) rfl rfl rfl rfl ⟨hS.2.2.2.2.2.1.1, trivial⟩ (by decide) (k_copyRows hS.2.2.2.2.2.1 hS2.2.2.2.2.2.1 (by omega) hst hc0 hc1 (by omega) (by omega) (fun My_1 fry_1 hky_1 => ⟨rfl, ?_⟩))
  show WP 1 60 11 [vR k1, vR q] [] (My_1, S) Q
  have r_2 : My_1 (k1 + 7) = c := (fry_1 _ (by omega)).trans hc
  have r_3 : My_1 (q + 7) = c9 := (fry_1 _ (by omega)).trans hc9
  have F_4 : StR My_1 (q + 1) f := StR_fr (fun r9 h8 h9 => fry_1 r9 (by omega)) hst
  have F_5 : WdR My_1 (q + 4) f := WdR_fr (fun r9 h8 h9 => fry_1 r9 (by omega)) hwd
  have F_6 : InkR My_1 (q + 8) f := InkR_fr (fun r9 h8 h9 => fry_1 r9 (by omega)) hik
  have fr_7 : (∀ q9, (q9 < k1 + 1 ∨ k1 + 12 ≤ q9) → My_1 q9 = M q9) := fun q9 q0 => (fry_1 q9 (by omega)).trans ((fun _ _ => rfl) q9 q0)
  have hc2y_1 := (congrFun (fry_1 (k1 + 4) (by omega)) 0).trans hc2
  have hc3y_1 := (congrFun (fry_1 (k1 + 4) (by omega)) 1).trans hc3
  have hAy_1 : StR My_1 (k1 + 1) f := hky_1
  refine WP.blk 2 ?_
  show (sT S k1 = 8 ∧ sR S k1 1 ≠ 0) ∧ WP 1 60 15 [vR k1, vR q] [vR (sR S k1 1)] (My_1, S) Q
  refine ⟨⟨hS.1, by rw [(show sR S k1 1 = k1 + 4 from hS.2.2.1)]; omega⟩, ?_⟩
  rw [(show sR S k1 1 = k1 + 4 from hS.2.2.1)]
  refine WP.blk 2 ?_
  show (sT S q = 8 ∧ sR S q 1 ≠ 0) ∧ WP 1 60 19 [vR k1, vR q] [vR (sR S q 1), vR (k1 + 4)] (My_1, S) Q
  refine ⟨⟨hS2.1, by rw [(show sR S q 1 = q + 4 from hS2.2.2.1)]; omega⟩, ?_⟩
  rw [(show sR S q 1 = q + 4 from hS2.2.2.1)]
  refine WP.cl (a := [vR (k1 + 4), vR (q + 4)]) (rest := []) rfl rfl rfl rfl ⟨hS.2.2.2.2.2.2.1.1, trivial⟩ (by decide) (k_copyRows hS.2.2.2.2.2.2.1 hS2.2.2.2.2.2.2.1 (by omega) F_5 hc2y_1 hc3y_1 (by omega) (by omega) (fun My_8 fry_8 hky_8 => ⟨rfl, ?_⟩))
  show WP 1 60 22 [vR k1, vR q] [] (My_8, S) Q
  have r_9 : My_8 (k1 + 7) = c := (fry_8 _ (by omega)).trans r_2
  have r_10 : My_8 (q + 7) = c9 := (fry_8 _ (by omega)).trans r_3
  have F_11 : StR My_8 (q + 1) f := StR_fr (fun r9 h8 h9 => fry_8 r9 (by omega)) F_4
  have F_12 : WdR My_8 (q + 4) f := WdR_fr (fun r9 h8 h9 => fry_8 r9 (by omega)) F_5
  have F_13 : InkR My_8 (q + 8) f := InkR_fr (fun r9 h8 h9 => fry_8 r9 (by omega)) F_6
  have fr_14 : (∀ q9, (q9 < k1 + 1 ∨ k1 + 12 ≤ q9) → My_8 q9 = M q9) := fun q9 q0 => (fry_8 q9 (by omega)).trans (fr_7 q9 q0)
  have hBy_8 : WdR My_8 (k1 + 4) f := hky_8
  have hAy_8 := StR_fr (fun r9 h8 h9 => fry_8 r9 (by omega)) hAy_1
  refine WP.blk 2 ?_
  show (sT S q = 8 ∧ sR S q 2 ≠ 0) ∧ WP 1 60 26 [vR k1, vR q] [vR (sR S q 2)] (My_8, S) Q
  refine ⟨⟨hS2.1, by rw [(show sR S q 2 = q + 7 from hS2.2.2.2.1)]; omega⟩, ?_⟩
  rw [(show sR S q 2 = q + 7 from hS2.2.2.2.1)]
  refine WP.blk 3 ?_
  show (sT S k1 = 8 ∧ sR S k1 2 ≠ 0) ∧ WP 1 60 31 [vR k1, vR q] [vR (sR S k1 2), vI 0, vR (q + 7)] (My_8, S) Q
  refine ⟨⟨hS.1, by rw [(show sR S k1 2 = k1 + 7 from hS.2.2.2.1)]; omega⟩, ?_⟩
  rw [(show sR S k1 2 = k1 + 7 from hS.2.2.2.1)]
  refine WP.blk 3 ?_
  show (sT S (q + 7) = 11 ∧ sT S (k1 + 7) = 11 ∧ 0 ≤ 0 ∧ 0 ≤ 0 ∧ 0 ≤ 7 ∧ 0 + 7 ≤ (sN S (q + 7) : Int) ∧ 0 + 7 ≤ (sN S (k1 + 7) : Int)) ∧ WP 1 60 37 [vR k1, vR q] [] (cpy My_8 (q + 7) 0 (k1 + 7) 0 7, S) Q
  refine ⟨⟨hS2.2.2.2.2.2.2.2.1, hS.2.2.2.2.2.2.2.1, by omega, by omega, by omega, by rw [(show sN S (q + 7) = 7 from hS2.2.2.2.2.2.2.2.2.1)]; omega, by rw [(show sN S (k1 + 7) = 7 from hS.2.2.2.2.2.2.2.2.1)]; omega⟩, ?_⟩
  generalize hM_15 : cpy My_8 (q + 7) 0 (k1 + 7) 0 7 = M_15
  obtain ⟨g_17, hg_17⟩ : ∃ y9, y9 = rcp c9 0 c 0 7 := ⟨_, rfl⟩
  have r_16 : M_15 (k1 + 7) = g_17 := by rw [← hM_15, hg_17, cpy_self, r_9, r_10]
  have r_18 : M_15 (q + 7) = c9 := by rw [← hM_15]; exact (cpy_row (by omega)).trans r_10
  have F_19 : StR M_15 (q + 1) f := StR_fr (fun r9 h8 h9 => by rw [← hM_15]; exact cpy_row (by omega)) F_11
  have F_20 : WdR M_15 (q + 4) f := WdR_fr (fun r9 h8 h9 => by rw [← hM_15]; exact cpy_row (by omega)) F_12
  have F_21 : InkR M_15 (q + 8) f := InkR_fr (fun r9 h8 h9 => by rw [← hM_15]; exact cpy_row (by omega)) F_13
  have fr_22 : (∀ q9, (q9 < k1 + 1 ∨ k1 + 12 ≤ q9) → M_15 q9 = M q9) := fun q9 q0 => by rw [← hM_15]; exact (cpy_row (by omega)).trans (fr_14 q9 q0)
  refine WP.blk 2 ?_
  show (sT S k1 = 8 ∧ sR S k1 3 ≠ 0) ∧ WP 1 60 41 [vR k1, vR q] [vR (sR S k1 3)] (M_15, S) Q
  refine ⟨⟨hS.1, by rw [(show sR S k1 3 = k1 + 8 from hS.2.2.2.2.1)]; omega⟩, ?_⟩
  rw [(show sR S k1 3 = k1 + 8 from hS.2.2.2.2.1)]
  refine WP.blk 2 ?_
  show (sT S q = 8 ∧ sR S q 3 ≠ 0) ∧ WP 1 60 45 [vR k1, vR q] [vR (sR S q 3), vR (k1 + 8)] (M_15, S) Q
  refine ⟨⟨hS2.1, by rw [(show sR S q 3 = q + 8 from hS2.2.2.2.2.1)]; omega⟩, ?_⟩
  rw [(show sR S q 3 = q + 8 from hS2.2.2.2.2.1)]
  refine WP.cl (a := [vR (k1 + 8), vR (q + 8)]) (rest := []) rfl rfl rfl rfl ⟨hS.2.2.2.2.2.2.2.2.2.1, trivial⟩ (by decide) (k_copyInks hS.2.2.2.2.2.2.2.2.2 hS2.2.2.2.2.2.2.2.2.2 (by omega) F_21 (by omega) (fun My_23 fry_23 hky_23 => ⟨rfl, ?_⟩))
  show WP 1 60 48 [vR k1, vR q] [] (My_23, S) Q
  have r_24 : My_23 (k1 + 7) = g_17 := (fry_23 _ (by omega)).trans r_16
  have r_25 : My_23 (q + 7) = c9 := (fry_23 _ (by omega)).trans r_18
  have F_26 : StR My_23 (q + 1) f := StR_fr (fun r9 h8 h9 => fry_23 r9 (by omega)) F_19
  have F_27 : WdR My_23 (q + 4) f := WdR_fr (fun r9 h8 h9 => fry_23 r9 (by omega)) F_20
  have F_28 : InkR My_23 (q + 8) f := InkR_fr (fun r9 h8 h9 => fry_23 r9 (by omega)) F_21
  have fr_29 : (∀ q9, (q9 < k1 + 1 ∨ k1 + 12 ≤ q9) → My_23 q9 = M q9) := fun q9 q0 => (fry_23 q9 (by omega)).trans (fr_22 q9 q0)
  have hAy_23 := StR_fr (fun r9 h8 h9 => (fry_23 r9 (by omega)).trans (by rw [← hM_15]; exact cpy_row (by omega))) hAy_8
  have hBy_23 := WdR_fr (fun r9 h8 h9 => (fry_23 r9 (by omega)).trans (by rw [← hM_15]; exact cpy_row (by omega))) hBy_8
  exact WP.ret rfl rfl rfl trivial (k _ fr_29 hAy_23 hBy_23 (fun w9 a b => by rw [r_24, hg_17, rcp_in (by omega), show 0 + (w9 - 0) = w9 by omega]; exact hco w9 a b) hky_23)
set_option maxHeartbeats 4000000 in
theorem k_copyFrom {S : SD} {M : Nat → Int → Int} {k1 q : Nat} {f : Int → Int} (hS : isSheet S k1) (hS2 : isSheet S q) (hd : k1 + 12 ≤ q ∨ q + 12 ≤ k1) (hc0 : M (k1 + 1) 0 = 10) (hc1 : M (k1 + 1) 1 = 5) (hc2 : M (k1 + 4) 0 = 7) (hc3 : M (k1 + 4) 1 = 12) (hst : StR M (q + 1) f) (hwd : WdR M (q + 4) f) (hco : ColR M (q + 7) f) (hli : LimR M q f) (hik : InkR M (q + 8) f) (h0 : f 0 ≤ 10) (h7 : f 1 ≤ 7) {Q : Res → Wd → Prop} (k : ∀ M2 : Nat → Int → Int, (∀ q9, (q9 < k1 ∨ k1 + 12 ≤ q9) → M2 q9 = M q9) → Sht M2 k1 f → Q (0, none) (M2, S)) : EvQ 3 61 [vR k1, vR q] (M, S) Q := by
  refine EvQ.enter (ls := [vR k1, vR q]) (Nat.le_of_ble_eq_true rfl) rfl ?_
  obtain ⟨a, ha⟩ : ∃ y9, M k1 = y9 := ⟨_, rfl⟩
  refine WP.blk 2 ?_
  show WP 2 61 2 [vR k1, vR q] [vR q, vR k1] (M, S) Q
  refine WP.cl (a := [vR k1, vR q]) (rest := []) rfl rfl rfl rfl ⟨hS.1, trivial⟩ (by decide) (k_takeItems hS hS2 hd hc0 hc1 hc2 hc3 hst hwd hco hik h0 h7 (fun My_1 fry_1 hay_1 hby_1 hcy_1 hdy_1 => ⟨rfl, ?_⟩))
  show WP 2 61 5 [vR k1, vR q] [] (My_1, S) Q
  have r_2 : My_1 k1 = a := (fry_1 _ (by omega)).trans ha
  have F_3 : StR My_1 (q + 1) f := StR_fr (fun r9 h8 h9 => fry_1 r9 (by omega)) hst
  have F_4 : WdR My_1 (q + 4) f := WdR_fr (fun r9 h8 h9 => fry_1 r9 (by omega)) hwd
  have F_5 : ColR My_1 (q + 7) f := ColR_fr (fun r9 h8 h9 => fry_1 r9 (by omega)) hco
  have F_6 : LimR My_1 q f := LimR_fr (fun r9 h8 h9 => fry_1 r9 (by omega)) hli
  have F_7 : InkR My_1 (q + 8) f := InkR_fr (fun r9 h8 h9 => fry_1 r9 (by omega)) hik
  have fr_8 : (∀ q9, (q9 < k1 ∨ k1 + 12 ≤ q9) → My_1 q9 = M q9) := fun q9 q0 => (fry_1 q9 (by omega)).trans ((fun _ _ => rfl) q9 q0)
  refine WP.blk 4 ?_
  show sT S q = 8 ∧ sT S k1 = 8 ∧ WP 2 61 13 [vR k1, vR q] [] (up My_1 k1 4 (My_1 q 4), S) Q
  rw [F_6.1]
  refine ⟨hS2.1, hS.1, ?_⟩
  generalize hM_9 : up My_1 k1 4 ((f 2)) = M_9
  obtain ⟨g_11, hg_11⟩ : ∃ y9, y9 = uf a 4 (f 2) := ⟨_, rfl⟩
  have r_10 : M_9 k1 = g_11 := by rw [← hM_9, hg_11, up_self, r_2]
  have F_12 : StR M_9 (q + 1) f := StR_fr (fun r9 h8 h9 => by rw [← hM_9]; exact up_row (by omega)) F_3
  have F_13 : WdR M_9 (q + 4) f := WdR_fr (fun r9 h8 h9 => by rw [← hM_9]; exact up_row (by omega)) F_4
  have F_14 : ColR M_9 (q + 7) f := ColR_fr (fun r9 h8 h9 => by rw [← hM_9]; exact up_row (by omega)) F_5
  have F_15 : LimR M_9 q f := LimR_fr (fun r9 h8 h9 => by rw [← hM_9]; exact up_row (by omega)) F_6
  have F_16 : InkR M_9 (q + 8) f := InkR_fr (fun r9 h8 h9 => by rw [← hM_9]; exact up_row (by omega)) F_7
  have fr_17 : (∀ q9, (q9 < k1 ∨ k1 + 12 ≤ q9) → M_9 q9 = M q9) := fun q9 q0 => by rw [← hM_9]; exact (up_row (by omega)).trans (fr_8 q9 q0)
  refine WP.blk 4 ?_
  show sT S q = 8 ∧ sT S k1 = 8 ∧ WP 2 61 21 [vR k1, vR q] [] (up M_9 k1 5 (M_9 q 5), S) Q
  rw [F_15.2]
  refine ⟨hS2.1, hS.1, ?_⟩
  generalize hM_18 : up M_9 k1 5 ((f 3)) = M_18
  obtain ⟨g_20, hg_20⟩ : ∃ y9, y9 = uf g_11 5 (f 3) := ⟨_, rfl⟩
  have r_19 : M_18 k1 = g_20 := by rw [← hM_18, hg_20, up_self, r_10]
  have F_21 : StR M_18 (q + 1) f := StR_fr (fun r9 h8 h9 => by rw [← hM_18]; exact up_row (by omega)) F_12
  have F_22 : WdR M_18 (q + 4) f := WdR_fr (fun r9 h8 h9 => by rw [← hM_18]; exact up_row (by omega)) F_13
  have F_23 : ColR M_18 (q + 7) f := ColR_fr (fun r9 h8 h9 => by rw [← hM_18]; exact up_row (by omega)) F_14
  have F_24 : LimR M_18 q f := LimR_fr (fun r9 h8 h9 => by rw [← hM_18]; exact up_row (by omega)) F_15
  have F_25 : InkR M_18 (q + 8) f := InkR_fr (fun r9 h8 h9 => by rw [← hM_18]; exact up_row (by omega)) F_16
  have fr_26 : (∀ q9, (q9 < k1 ∨ k1 + 12 ≤ q9) → M_18 q9 = M q9) := fun q9 q0 => by rw [← hM_18]; exact (up_row (by omega)).trans (fr_17 q9 q0)
  exact WP.ret rfl rfl rfl trivial (k _ fr_26 ⟨⟨(StR_fr (fun r9 h8 h9 => by rw [← hM_18, up_row (by omega), ← hM_9, up_row (by omega)]) hay_1), (WdR_fr (fun r9 h8 h9 => by rw [← hM_18, up_row (by omega), ← hM_9, up_row (by omega)]) hby_1), (ColR_fr (fun r9 h8 h9 => by rw [← hM_18, up_row (by omega), ← hM_9, up_row (by omega)]) hcy_1), ⟨by rw [r_19, hg_20, uf_ne (by omega), hg_11, uf_eq], by rw [r_19, hg_20, uf_eq]⟩⟩, (InkR_fr (fun r9 h8 h9 => by rw [← hM_18, up_row (by omega), ← hM_9, up_row (by omega)]) hdy_1)⟩)
