def fillR (g : Int → Int) (v n : Int) : Int → Int := fun q => if 0 ≤ q ∧ q < n then v else g q
theorem fill_s {g : Int → Int} {v i : Int} (hi : 0 ≤ i) : uf (fillR g v i) i v = fillR g v (i + 1) := by
  funext q
  unfold uf fillR
  by_cases h : q = i
  · rw [if_pos h, if_pos (by omega)]
  · rw [if_neg h]
    by_cases h2 : 0 ≤ q ∧ q < i
    · rw [if_pos h2, if_pos (by omega)]
    · rw [if_neg h2, if_neg (by omega)]
set_option maxHeartbeats 4000000 in
theorem j_fill {S : SD} {M : Nat → Int → Int} {r n : Nat} {v : Int} (hT : sT S r = 11) (hN : sN S r = n) (hn : n ≤ 100000) {Q : Res → Wd → Prop} (k : ∀ M2 : Nat → Int → Int, (∀ q9, q9 ≠ r → M2 q9 = M q9) → M2 r = fillR (M r) v n → Q (0, none) (M2, S)) : EvQ 1 106 [vR r, vI v] (M, S) Q := by
  refine EvQ.enter (ls := [vR r, vI v, none, none]) (Nat.le_of_ble_eq_true rfl) rfl ?_
  obtain ⟨g, hg⟩ : ∃ y9, M r = y9 := ⟨_, rfl⟩
  refine WP.blk 5 ?_
  show (sT S r = 11 ∨ sT S r = 16 ∨ sT S r = 17) ∧ WP 0 106 5 [vR r, vI v, vI 0, vI (sN S r : Int)] [] (M, S) Q
  refine ⟨(Or.inl hT), ?_⟩
  have hl_5 : ∀ (n_5 : Nat) (i : Int) (M1 : Nat → Int → Int) (g1 : Int → Int), 0 ≤ i ∧ i ≤ n → g1 = fillR g v i → M1 r = g1 → (∀ q9, q9 ≠ r → M1 q9 = M q9) → ((n : Int) - i).toNat < n_5 → WP 0 106 5 [vR r, vI v, vI i, vI (sN S r : Int)] [] (M1, S) Q := by
    intro n_5
    induction n_5 with
    | zero => intro i M1 g1 h0 h1 z_5_0 fr_5 hm_5; exact absurd hm_5 (Nat.not_lt_zero _)
    | succ n_5 ih_5 =>
      intro i M1 g1 h0 h1 z_5_0 fr_5 hm_5
      refine WP.blk 3 ?_
      show WP 0 106 (if cnd .ge i (sN S r : Int) = true then 20 else 10) [vR r, vI v, vI i, vI (sN S r : Int)] [] (M1, S) Q
      refine br_ge (fun c_1 => ?_) (fun c_1 => ?_)
      · exact WP.ret rfl rfl rfl trivial (k _ fr_5 (by rw [z_5_0, h1, show i = n by omega, hg]))
      · refine WP.blk 4 ?_
        show (sT S r = 11 ∧ 0 ≤ i ∧ i < (sN S r : Int)) ∧ WP 0 106 14 [vR r, vI v, vI i, vI (sN S r : Int)] [] (up M1 r i v, S) Q
        refine ⟨⟨hT, by first | omega | (rw [hN] at *; omega), by rw [hN]; first | omega | (rw [hN] at *; omega)⟩, ?_⟩
        generalize hM_2 : up M1 r i v = M_2
        obtain ⟨g_4, hg_4⟩ : ∃ y9, y9 = uf g1 i v := ⟨_, rfl⟩
        have r_3 : M_2 r = g_4 := by rw [← hM_2, hg_4, up_self, z_5_0]
        have fr_5 : (∀ q9, q9 ≠ r → M_2 q9 = M q9) := fun q9 q0 => by rw [← hM_2]; exact (up_row (by omega)).trans (fr_5 q9 q0)
        refine WP.blk 2 ?_
        show ir (i + 1) ∧ WP 0 106 5 [vR r, vI v, vI (i + 1), vI (sN S r : Int)] [] (M_2, S) Q
        refine ⟨(by unfold ir; first | omega | (rw [hN] at *; omega)), ?_⟩
        exact ih_5 (i + 1) M_2 g_4 (by omega) (by rw [hg_4, h1]; exact fill_s h0.1) r_3 fr_5 (by omega)
  exact hl_5 _ 0 M g (by omega) (by funext q; unfold fillR; rw [if_neg (by omega)]) hg (fun _ _ => rfl) (Nat.lt_succ_self _)
set_option maxHeartbeats 4000000 in
theorem k_addLetter {S : SD} {M : Nat → Int → Int} {r : Nat} {mr ml n : Int} {len : Int → Int} {lt : Int → Int → Int} {v : Int} (hS : isRows S r) (h : RowsR M r mr ml n len lt) (hm : mr ≤ 10) (hml : ml ≤ 12) (hn : 1 ≤ n) {Q : Res → Wd → Prop} (k : ∀ (b : Int) (M2 : Nat → Int → Int), (∀ q9, q9 ≠ r + 1 → q9 ≠ r + 2 → M2 q9 = M q9) → (b = 1 ∧ len (n - 1) < ml ∧ RowsR M2 r mr ml n (uf len (n - 1) (len (n - 1) + 1)) (fun i j => if i = n - 1 ∧ j = len (n - 1) then v else lt i j)) ∨ (b = 0 ∧ ml ≤ len (n - 1) ∧ M2 = M) → Q (0, vI b) (M2, S)) : EvQ 2 48 [vR r, vI v] (M, S) Q := by
  refine EvQ.enter (ls := [vR r, vI v, none, none]) (Nat.le_of_ble_eq_true rfl) rfl ?_
  obtain ⟨c, hc⟩ : ∃ y9, M r = y9 := ⟨_, rfl⟩
  obtain ⟨l, hl⟩ : ∃ y9, M (r + 1) = y9 := ⟨_, rfl⟩
  obtain ⟨t, ht⟩ : ∃ y9, M (r + 2) = y9 := ⟨_, rfl⟩
  unfold RowsR at h
  rw [hc, hl, ht] at h
  have hh := h
  obtain ⟨⟨e0, e1, e4⟩, e5, e6⟩ := h
  subst e4
  have e7 := (e6 (c 4 - 1) (by omega) (by omega)).1
  refine WP.blk 7 ?_
  show sT S r = 7 ∧ ir ((M r 4) - 1) ∧ WP 1 48 9 [vR r, vI v, vI ((M r 4) - 1), none] [vI ((M r 4) - 1), vR r] (M, S) Q
  rw [hc]
  refine ⟨hS.1, (by unfold ir; omega), ?_⟩
  refine WP.cl (a := [vR r, vI ((c 4) - 1)]) (rest := []) rfl rfl rfl rfl ⟨hS.1, trivial⟩ (by decide) (q_has hS (fun b_1 hb_1 => ⟨rfl, ?_⟩))
  show WP 1 48 12 [vR r, vI v, vI ((c 4) - 1), none] [vI b_1] (M, S) Q
  rw [hc] at hb_1
  refine WP.blk 1 ?_
  show WP 1 48 (if cnd .ne b_1 0 = true then 17 else 15) [vR r, vI v, vI ((c 4) - 1), none] [] (M, S) Q
  refine br_ne (fun c_2 => ?_) (fun c_2 => ?_)
  · have p_1 := (hb_1.resolve_right (fun h => by omega)).2
    refine WP.blk 2 ?_
    show (sT S r = 7 ∧ sR S r 2 ≠ 0) ∧ WP 1 48 21 [vR r, vI v, vI ((c 4) - 1), none] [vR (sR S r 2)] (M, S) Q
    refine ⟨⟨hS.1, by rw [(show sR S r 2 = r + 1 from hS.2.1)]; omega⟩, ?_⟩
    rw [(show sR S r 2 = r + 1 from hS.2.1)]
    refine WP.blk 5 ?_
    show ((sT S (r + 1) = 11 ∨ sT S (r + 1) = 16 ∨ sT S (r + 1) = 17) ∧ 0 ≤ ((c 4) - 1) ∧ ((c 4) - 1) < (sN S (r + 1) : Int)) ∧ WP 1 48 (if cnd .lt (M (r + 1) ((c 4) - 1)) 0 = true then 36 else 28) [vR r, vI v, vI ((c 4) - 1), vI (M (r + 1) ((c 4) - 1))] [] (M, S) Q
    rw [hl]
    refine ⟨⟨Or.inl hS.2.2.2.1, by omega, by rw [(show sN S (r + 1) = 10 from hS.2.2.2.2.1)]; omega⟩, ?_⟩
    refine br_lt (fun c_3 => ?_) (fun c_3 => ?_)
    · refine WP.blk 1 ?_
      show WP 1 48 37 [vR r, vI v, vI ((c 4) - 1), vI (l ((c 4) - 1))] [vI 0] (M, S) Q
      exact WP.ret rfl rfl rfl ⟨by omega, trivial⟩ (k _ _ (fun _ _ _ => rfl) (Or.inr ⟨rfl, by omega, rfl⟩))
    · refine WP.blk 4 ?_
      show sT S r = 7 ∧ WP 1 48 (if cnd .lt (l ((c 4) - 1)) (M r 1) = true then 38 else 36) [vR r, vI v, vI ((c 4) - 1), vI (l ((c 4) - 1))] [] (M, S) Q
      rw [hc]
      refine ⟨hS.1, ?_⟩
      refine br_lt (fun c_4 => ?_) (fun c_4 => ?_)
      · refine WP.blk 2 ?_
        show (sT S r = 7 ∧ sR S r 3 ≠ 0) ∧ WP 1 48 42 [vR r, vI v, vI ((c 4) - 1), vI (l ((c 4) - 1))] [vR (sR S r 3)] (M, S) Q
        refine ⟨⟨hS.1, by rw [(show sR S r 3 = r + 2 from hS.2.2.1)]; omega⟩, ?_⟩
        rw [(show sR S r 3 = r + 2 from hS.2.2.1)]
        refine WP.blk 7 ?_
        show ir (((c 4) - 1) * 12) ∧ ir ((((c 4) - 1) * 12) + (l ((c 4) - 1))) ∧ (sT S (r + 2) = 11 ∧ 0 ≤ ((((c 4) - 1) * 12) + (l ((c 4) - 1))) ∧ ((((c 4) - 1) * 12) + (l ((c 4) - 1))) < (sN S (r + 2) : Int)) ∧ WP 1 48 50 [vR r, vI v, vI ((c 4) - 1), vI (l ((c 4) - 1))] [] (up M (r + 2) ((((c 4) - 1) * 12) + (l ((c 4) - 1))) v, S) Q
        refine ⟨(by unfold ir; omega), (by unfold ir; omega), ⟨hS.2.2.2.2.2.1, by omega, by rw [(show sN S (r + 2) = 120 from hS.2.2.2.2.2.2)]; omega⟩, ?_⟩
        generalize hM_5 : up M (r + 2) ((((c 4) - 1) * 12) + (l ((c 4) - 1))) v = M_5
        have r_6 : M_5 r = c := by rw [← hM_5]; exact (up_row (by omega)).trans hc
        have r_7 : M_5 (r + 1) = l := by rw [← hM_5]; exact (up_row (by omega)).trans hl
        obtain ⟨g_9, hg_9⟩ : ∃ y9, y9 = uf t ((((c 4) - 1) * 12) + (l ((c 4) - 1))) v := ⟨_, rfl⟩
        have r_8 : M_5 (r + 2) = g_9 := by rw [← hM_5, hg_9, up_self, ht]
        have fr_10 : (∀ q9, q9 ≠ r + 1 → q9 ≠ r + 2 → M_5 q9 = M q9) := fun q9 q0 q1 => by rw [← hM_5]; exact (up_row (by omega)).trans ((fun _ _ _ => rfl) q9 q0 q1)
        refine WP.blk 2 ?_
        show (sT S r = 7 ∧ sR S r 2 ≠ 0) ∧ WP 1 48 54 [vR r, vI v, vI ((c 4) - 1), vI (l ((c 4) - 1))] [vR (sR S r 2)] (M_5, S) Q
        refine ⟨⟨hS.1, by rw [(show sR S r 2 = r + 1 from hS.2.1)]; omega⟩, ?_⟩
        rw [(show sR S r 2 = r + 1 from hS.2.1)]
        refine WP.blk 5 ?_
        show ir ((l ((c 4) - 1)) + 1) ∧ (sT S (r + 1) = 11 ∧ 0 ≤ ((c 4) - 1) ∧ ((c 4) - 1) < (sN S (r + 1) : Int)) ∧ WP 1 48 59 [vR r, vI v, vI ((c 4) - 1), vI (l ((c 4) - 1))] [] (up M_5 (r + 1) ((c 4) - 1) ((l ((c 4) - 1)) + 1), S) Q
        refine ⟨(by unfold ir; omega), ⟨hS.2.2.2.1, by omega, by rw [(show sN S (r + 1) = 10 from hS.2.2.2.2.1)]; omega⟩, ?_⟩
        generalize hM_11 : up M_5 (r + 1) ((c 4) - 1) ((l ((c 4) - 1)) + 1) = M_11
        have r_12 : M_11 r = c := by rw [← hM_11]; exact (up_row (by omega)).trans r_6
        obtain ⟨g_14, hg_14⟩ : ∃ y9, y9 = uf l ((c 4) - 1) ((l ((c 4) - 1)) + 1) := ⟨_, rfl⟩
        have r_13 : M_11 (r + 1) = g_14 := by rw [← hM_11, hg_14, up_self, r_7]
        have r_15 : M_11 (r + 2) = g_9 := by rw [← hM_11]; exact (up_row (by omega)).trans r_8
        have fr_16 : (∀ q9, q9 ≠ r + 1 → q9 ≠ r + 2 → M_11 q9 = M q9) := fun q9 q0 q1 => by rw [← hM_11]; exact (up_row (by omega)).trans (fr_10 q9 q0 q1)
        refine WP.blk 1 ?_
        show WP 1 48 60 [vR r, vI v, vI ((c 4) - 1), vI (l ((c 4) - 1))] [vI 1] (M_11, S) Q
        exact WP.ret rfl rfl rfl ⟨by omega, trivial⟩ (k _ _ fr_16 (Or.inl ⟨rfl, by omega, by unfold RowsR; rw [r_12, r_13, r_15, hg_14, hg_9]; exact rowsF_add hh hn hml (by omega)⟩))
      · refine WP.blk 1 ?_
        show WP 1 48 37 [vR r, vI v, vI ((c 4) - 1), vI (l ((c 4) - 1))] [vI 0] (M, S) Q
        exact WP.ret rfl rfl rfl ⟨by omega, trivial⟩ (k _ _ (fun _ _ _ => rfl) (Or.inr ⟨rfl, by omega, rfl⟩))
  · have p_1 := (hb_1.resolve_left (fun h => by omega)).2
    refine WP.blk 1 ?_
    show WP 1 48 16 [vR r, vI v, vI ((c 4) - 1), none] [vI 0] (M, S) Q
    exact WP.ret rfl rfl rfl ⟨by omega, trivial⟩ (k _ _ (fun _ _ _ => rfl) (Or.inr ⟨rfl, by omega, rfl⟩))
set_option maxHeartbeats 4000000 in
theorem k_takeOut {S : SD} {M : Nat → Int → Int} {r : Nat} {mr ml n : Int} {len : Int → Int} {lt : Int → Int → Int} {s : Int} (hS : isRows S r) (h : RowsR M r mr ml n len lt) (hm : mr ≤ 10) (hml : ml ≤ 12) (hs : 0 ≤ s ∧ s < n) {Q : Res → Wd → Prop} (k : ∀ (M2 : Nat → Int → Int), (∀ q9, (q9 < r ∨ r + 3 ≤ q9) → M2 q9 = M q9) → RowsR M2 r mr ml (n - 1) (fun i => if i < s then len i else len (i + 1)) (fun i j => if i < s then lt i j else lt (i + 1) j) → Q (0, none) (M2, S)) : EvQ 2 49 [vR r, vI s] (M, S) Q := by
  refine EvQ.enter (ls := [vR r, vI s, none, none]) (Nat.le_of_ble_eq_true rfl) rfl ?_
  obtain ⟨c, hc⟩ : ∃ y9, M r = y9 := ⟨_, rfl⟩
  obtain ⟨l, hl⟩ : ∃ y9, M (r + 1) = y9 := ⟨_, rfl⟩
  obtain ⟨t, ht⟩ : ∃ y9, M (r + 2) = y9 := ⟨_, rfl⟩
  unfold RowsR at h
  rw [hc, hl, ht] at h
  have hh := h
  obtain ⟨⟨e0, e1, e4⟩, e5, e6⟩ := h
  subst e4
  refine WP.blk 2 ?_
  show WP 1 49 2 [vR r, vI s, none, none] [vI s, vR r] (M, S) Q
  refine WP.cl (a := [vR r, vI s]) (rest := []) rfl rfl rfl rfl ⟨hS.1, trivial⟩ (by decide) (q_has hS (fun b_1 hb_1 => ⟨rfl, ?_⟩))
  show WP 1 49 5 [vR r, vI s, none, none] [vI b_1] (M, S) Q
  rw [hc] at hb_1
  refine WP.blk 1 ?_
  show WP 1 49 (if cnd .ne b_1 0 = true then 9 else 8) [vR r, vI s, none, none] [] (M, S) Q
  refine br_ne (fun c_2 => ?_) (fun c_2 => ?_)
  · have p_1 := (hb_1.resolve_right (fun h => by omega)).2
    refine WP.blk 11 ?_
    show ir (s + 1) ∧ sT S r = 7 ∧ ir ((M r 4) - (s + 1)) ∧ (sT S r = 7 ∧ sR S r 2 ≠ 0) ∧ WP 1 49 24 [vR r, vI s, vI (s + 1), vI ((M r 4) - (s + 1))] [vR (sR S r 2)] (M, S) Q
    rw [hc]
    refine ⟨(by unfold ir; omega), hS.1, (by unfold ir; omega), ⟨hS.1, by rw [(show sR S r 2 = r + 1 from hS.2.1)]; omega⟩, ?_⟩
    rw [(show sR S r 2 = r + 1 from hS.2.1)]
    refine WP.blk 3 ?_
    show (sT S r = 7 ∧ sR S r 2 ≠ 0) ∧ WP 1 49 29 [vR r, vI s, vI (s + 1), vI ((c 4) - (s + 1))] [vR (sR S r 2), vI (s + 1), vR (r + 1)] (M, S) Q
    refine ⟨⟨hS.1, by rw [(show sR S r 2 = r + 1 from hS.2.1)]; omega⟩, ?_⟩
    rw [(show sR S r 2 = r + 1 from hS.2.1)]
    refine WP.blk 3 ?_
    show (sT S (r + 1) = 11 ∧ sT S (r + 1) = 11 ∧ 0 ≤ (s + 1) ∧ 0 ≤ s ∧ 0 ≤ ((c 4) - (s + 1)) ∧ (s + 1) + ((c 4) - (s + 1)) ≤ (sN S (r + 1) : Int) ∧ s + ((c 4) - (s + 1)) ≤ (sN S (r + 1) : Int)) ∧ WP 1 49 34 [vR r, vI s, vI (s + 1), vI ((c 4) - (s + 1))] [] (cpy M (r + 1) (s + 1) (r + 1) s ((c 4) - (s + 1)), S) Q
    refine ⟨⟨hS.2.2.2.1, hS.2.2.2.1, by omega, by omega, by omega, by rw [(show sN S (r + 1) = 10 from hS.2.2.2.2.1)]; omega, by rw [(show sN S (r + 1) = 10 from hS.2.2.2.2.1)]; omega⟩, ?_⟩
    generalize hM_3 : cpy M (r + 1) (s + 1) (r + 1) s ((c 4) - (s + 1)) = M_3
    have r_4 : M_3 r = c := by rw [← hM_3]; exact (cpy_row (by omega)).trans hc
    obtain ⟨g_6, hg_6⟩ : ∃ y9, y9 = rcp l (s + 1) l s ((c 4) - (s + 1)) := ⟨_, rfl⟩
    have r_5 : M_3 (r + 1) = g_6 := by rw [← hM_3, hg_6, cpy_self, hl]
    have r_7 : M_3 (r + 2) = t := by rw [← hM_3]; exact (cpy_row (by omega)).trans ht
    have fr_8 : (∀ q9, (q9 < r ∨ r + 3 ≤ q9) → M_3 q9 = M q9) := fun q9 q0 => by rw [← hM_3]; exact (cpy_row (by omega)).trans ((fun _ _ => rfl) q9 q0)
    refine WP.blk 2 ?_
    show (sT S r = 7 ∧ sR S r 3 ≠ 0) ∧ WP 1 49 38 [vR r, vI s, vI (s + 1), vI ((c 4) - (s + 1))] [vR (sR S r 3)] (M_3, S) Q
    refine ⟨⟨hS.1, by rw [(show sR S r 3 = r + 2 from hS.2.2.1)]; omega⟩, ?_⟩
    rw [(show sR S r 3 = r + 2 from hS.2.2.1)]
    refine WP.blk 5 ?_
    show ir ((s + 1) * 12) ∧ (sT S r = 7 ∧ sR S r 3 ≠ 0) ∧ WP 1 49 46 [vR r, vI s, vI (s + 1), vI ((c 4) - (s + 1))] [vR (sR S r 3), vI ((s + 1) * 12), vR (r + 2)] (M_3, S) Q
    refine ⟨(by unfold ir; omega), ⟨hS.1, by rw [(show sR S r 3 = r + 2 from hS.2.2.1)]; omega⟩, ?_⟩
    rw [(show sR S r 3 = r + 2 from hS.2.2.1)]
    refine WP.blk 7 ?_
    show ir (s * 12) ∧ ir (((c 4) - (s + 1)) * 12) ∧ (sT S (r + 2) = 11 ∧ sT S (r + 2) = 11 ∧ 0 ≤ ((s + 1) * 12) ∧ 0 ≤ (s * 12) ∧ 0 ≤ (((c 4) - (s + 1)) * 12) ∧ ((s + 1) * 12) + (((c 4) - (s + 1)) * 12) ≤ (sN S (r + 2) : Int) ∧ (s * 12) + (((c 4) - (s + 1)) * 12) ≤ (sN S (r + 2) : Int)) ∧ WP 1 49 57 [vR r, vI s, vI (s + 1), vI ((c 4) - (s + 1))] [] (cpy M_3 (r + 2) ((s + 1) * 12) (r + 2) (s * 12) (((c 4) - (s + 1)) * 12), S) Q
    refine ⟨(by unfold ir; omega), (by unfold ir; omega), ⟨hS.2.2.2.2.2.1, hS.2.2.2.2.2.1, by omega, by omega, by omega, by rw [(show sN S (r + 2) = 120 from hS.2.2.2.2.2.2)]; omega, by rw [(show sN S (r + 2) = 120 from hS.2.2.2.2.2.2)]; omega⟩, ?_⟩
    generalize hM_9 : cpy M_3 (r + 2) ((s + 1) * 12) (r + 2) (s * 12) (((c 4) - (s + 1)) * 12) = M_9
    have r_10 : M_9 r = c := by rw [← hM_9]; exact (cpy_row (by omega)).trans r_4
    have r_11 : M_9 (r + 1) = g_6 := by rw [← hM_9]; exact (cpy_row (by omega)).trans r_5
    obtain ⟨g_13, hg_13⟩ : ∃ y9, y9 = rcp t ((s + 1) * 12) t (s * 12) (((c 4) - (s + 1)) * 12) := ⟨_, rfl⟩
    have r_12 : M_9 (r + 2) = g_13 := by rw [← hM_9, hg_13, cpy_self, r_7]
    have fr_14 : (∀ q9, (q9 < r ∨ r + 3 ≤ q9) → M_9 q9 = M q9) := fun q9 q0 => by rw [← hM_9]; exact (cpy_row (by omega)).trans (fr_8 q9 q0)
    refine WP.blk 6 ?_
    show sT S r = 7 ∧ ir ((M_9 r 4) - 1) ∧ sT S r = 7 ∧ WP 1 49 67 [vR r, vI s, vI (s + 1), vI ((c 4) - (s + 1))] [] (up M_9 r 4 ((M_9 r 4) - 1), S) Q
    rw [r_10]
    refine ⟨hS.1, (by unfold ir; omega), hS.1, ?_⟩
    generalize hM_15 : up M_9 r 4 ((c 4) - 1) = M_15
    obtain ⟨g_17, hg_17⟩ : ∃ y9, y9 = uf c 4 ((c 4) - 1) := ⟨_, rfl⟩
    have r_16 : M_15 r = g_17 := by rw [← hM_15, hg_17, up_self, r_10]
    have r_18 : M_15 (r + 1) = g_6 := by rw [← hM_15]; exact (up_row (by omega)).trans r_11
    have r_19 : M_15 (r + 2) = g_13 := by rw [← hM_15]; exact (up_row (by omega)).trans r_12
    have fr_20 : (∀ q9, (q9 < r ∨ r + 3 ≤ q9) → M_15 q9 = M q9) := fun q9 q0 => by rw [← hM_15]; exact (up_row (by omega)).trans (fr_14 q9 q0)
    exact WP.ret rfl rfl rfl trivial (k _ fr_20 (by unfold RowsR; rw [r_16, r_18, r_19, hg_17, hg_6, hg_13]; exact rowsF_out hh hml hs))
  · have p_1 := (hb_1.resolve_left (fun h => by omega)).2
    exact WP.ret rfl rfl rfl trivial (by exfalso; omega)
set_option maxHeartbeats 4000000 in
theorem k_copyRows {S : SD} {M : Nat → Int → Int} {r : Nat} {mr ml n : Int} {len : Int → Int} {lt : Int → Int → Int} {q : Nat} (hS : isRows S r) (hS2 : isRows S q) (hd : r + 3 ≤ q ∨ q + 3 ≤ r) (h : RowsR M q mr ml n len lt) (h0 : M r 0 = mr) (h1 : M r 1 = ml) (hm : mr ≤ 10) (hml : ml ≤ 12) {Q : Res → Wd → Prop} (k : ∀ (M2 : Nat → Int → Int), (∀ q9, (q9 < r ∨ r + 3 ≤ q9) → M2 q9 = M q9) → RowsR M2 r mr ml n len lt → Q (0, none) (M2, S)) : EvQ 1 50 [vR r, vR q] (M, S) Q := by
  refine EvQ.enter (ls := [vR r, vR q]) (Nat.le_of_ble_eq_true rfl) rfl ?_
  obtain ⟨c, hc⟩ : ∃ y9, M r = y9 := ⟨_, rfl⟩
  obtain ⟨l, hl⟩ : ∃ y9, M (r + 1) = y9 := ⟨_, rfl⟩
  obtain ⟨t, ht⟩ : ∃ y9, M (r + 2) = y9 := ⟨_, rfl⟩
  obtain ⟨c2, hc2⟩ : ∃ y9, M q = y9 := ⟨_, rfl⟩
  obtain ⟨l2, hl2⟩ : ∃ y9, M (q + 1) = y9 := ⟨_, rfl⟩
  obtain ⟨t2, ht2⟩ : ∃ y9, M (q + 2) = y9 := ⟨_, rfl⟩
  unfold RowsR at h
  rw [hc2, hl2, ht2] at h
  rw [hc] at h0 h1
  refine WP.blk 2 ?_
  show (sT S q = 7 ∧ sR S q 2 ≠ 0) ∧ WP 0 50 4 [vR r, vR q] [vR (sR S q 2)] (M, S) Q
  refine ⟨⟨hS2.1, by rw [(show sR S q 2 = q + 1 from hS2.2.1)]; omega⟩, ?_⟩
  rw [(show sR S q 2 = q + 1 from hS2.2.1)]
  refine WP.blk 3 ?_
  show (sT S r = 7 ∧ sR S r 2 ≠ 0) ∧ WP 0 50 9 [vR r, vR q] [vR (sR S r 2), vI 0, vR (q + 1)] (M, S) Q
  refine ⟨⟨hS.1, by rw [(show sR S r 2 = r + 1 from hS.2.1)]; omega⟩, ?_⟩
  rw [(show sR S r 2 = r + 1 from hS.2.1)]
  refine WP.blk 3 ?_
  show (sT S (q + 1) = 11 ∧ sT S (r + 1) = 11 ∧ 0 ≤ 0 ∧ 0 ≤ 0 ∧ 0 ≤ 10 ∧ 0 + 10 ≤ (sN S (q + 1) : Int) ∧ 0 + 10 ≤ (sN S (r + 1) : Int)) ∧ WP 0 50 15 [vR r, vR q] [] (cpy M (q + 1) 0 (r + 1) 0 10, S) Q
  refine ⟨⟨hS2.2.2.2.1, hS.2.2.2.1, by omega, by omega, by omega, by rw [(show sN S (q + 1) = 10 from hS2.2.2.2.2.1)]; omega, by rw [(show sN S (r + 1) = 10 from hS.2.2.2.2.1)]; omega⟩, ?_⟩
  generalize hM_1 : cpy M (q + 1) 0 (r + 1) 0 10 = M_1
  have r_2 : M_1 r = c := by rw [← hM_1]; exact (cpy_row (by omega)).trans hc
  obtain ⟨g_4, hg_4⟩ : ∃ y9, y9 = rcp l2 0 l 0 10 := ⟨_, rfl⟩
  have r_3 : M_1 (r + 1) = g_4 := by rw [← hM_1, hg_4, cpy_self, hl, hl2]
  have r_5 : M_1 (r + 2) = t := by rw [← hM_1]; exact (cpy_row (by omega)).trans ht
  have r_6 : M_1 q = c2 := by rw [← hM_1]; exact (cpy_row (by omega)).trans hc2
  have r_7 : M_1 (q + 1) = l2 := by rw [← hM_1]; exact (cpy_row (by omega)).trans hl2
  have r_8 : M_1 (q + 2) = t2 := by rw [← hM_1]; exact (cpy_row (by omega)).trans ht2
  have fr_9 : (∀ q9, (q9 < r ∨ r + 3 ≤ q9) → M_1 q9 = M q9) := fun q9 q0 => by rw [← hM_1]; exact (cpy_row (by omega)).trans ((fun _ _ => rfl) q9 q0)
  refine WP.blk 2 ?_
  show (sT S q = 7 ∧ sR S q 3 ≠ 0) ∧ WP 0 50 19 [vR r, vR q] [vR (sR S q 3)] (M_1, S) Q
  refine ⟨⟨hS2.1, by rw [(show sR S q 3 = q + 2 from hS2.2.2.1)]; omega⟩, ?_⟩
  rw [(show sR S q 3 = q + 2 from hS2.2.2.1)]
  refine WP.blk 3 ?_
  show (sT S r = 7 ∧ sR S r 3 ≠ 0) ∧ WP 0 50 24 [vR r, vR q] [vR (sR S r 3), vI 0, vR (q + 2)] (M_1, S) Q
  refine ⟨⟨hS.1, by rw [(show sR S r 3 = r + 2 from hS.2.2.1)]; omega⟩, ?_⟩
  rw [(show sR S r 3 = r + 2 from hS.2.2.1)]
  refine WP.blk 3 ?_
  show (sT S (q + 2) = 11 ∧ sT S (r + 2) = 11 ∧ 0 ≤ 0 ∧ 0 ≤ 0 ∧ 0 ≤ 120 ∧ 0 + 120 ≤ (sN S (q + 2) : Int) ∧ 0 + 120 ≤ (sN S (r + 2) : Int)) ∧ WP 0 50 30 [vR r, vR q] [] (cpy M_1 (q + 2) 0 (r + 2) 0 120, S) Q
  refine ⟨⟨hS2.2.2.2.2.2.1, hS.2.2.2.2.2.1, by omega, by omega, by omega, by rw [(show sN S (q + 2) = 120 from hS2.2.2.2.2.2.2)]; omega, by rw [(show sN S (r + 2) = 120 from hS.2.2.2.2.2.2)]; omega⟩, ?_⟩
  generalize hM_10 : cpy M_1 (q + 2) 0 (r + 2) 0 120 = M_10
  have r_11 : M_10 r = c := by rw [← hM_10]; exact (cpy_row (by omega)).trans r_2
  have r_12 : M_10 (r + 1) = g_4 := by rw [← hM_10]; exact (cpy_row (by omega)).trans r_3
  obtain ⟨g_14, hg_14⟩ : ∃ y9, y9 = rcp t2 0 t 0 120 := ⟨_, rfl⟩
  have r_13 : M_10 (r + 2) = g_14 := by rw [← hM_10, hg_14, cpy_self, r_5, r_8]
  have r_15 : M_10 q = c2 := by rw [← hM_10]; exact (cpy_row (by omega)).trans r_6
  have r_16 : M_10 (q + 1) = l2 := by rw [← hM_10]; exact (cpy_row (by omega)).trans r_7
  have r_17 : M_10 (q + 2) = t2 := by rw [← hM_10]; exact (cpy_row (by omega)).trans r_8
  have fr_18 : (∀ q9, (q9 < r ∨ r + 3 ≤ q9) → M_10 q9 = M q9) := fun q9 q0 => by rw [← hM_10]; exact (cpy_row (by omega)).trans (fr_9 q9 q0)
  refine WP.blk 4 ?_
  show sT S q = 7 ∧ sT S r = 7 ∧ WP 0 50 38 [vR r, vR q] [] (up M_10 r 4 (M_10 q 4), S) Q
  rw [r_15]
  refine ⟨hS2.1, hS.1, ?_⟩
  generalize hM_19 : up M_10 r 4 (c2 4) = M_19
  obtain ⟨g_21, hg_21⟩ : ∃ y9, y9 = uf c 4 (c2 4) := ⟨_, rfl⟩
  have r_20 : M_19 r = g_21 := by rw [← hM_19, hg_21, up_self, r_11]
  have r_22 : M_19 (r + 1) = g_4 := by rw [← hM_19]; exact (up_row (by omega)).trans r_12
  have r_23 : M_19 (r + 2) = g_14 := by rw [← hM_19]; exact (up_row (by omega)).trans r_13
  have r_24 : M_19 q = c2 := by rw [← hM_19]; exact (up_row (by omega)).trans r_15
  have r_25 : M_19 (q + 1) = l2 := by rw [← hM_19]; exact (up_row (by omega)).trans r_16
  have r_26 : M_19 (q + 2) = t2 := by rw [← hM_19]; exact (up_row (by omega)).trans r_17
  have fr_27 : (∀ q9, (q9 < r ∨ r + 3 ≤ q9) → M_19 q9 = M q9) := fun q9 q0 => by rw [← hM_19]; exact (up_row (by omega)).trans (fr_18 q9 q0)
  exact WP.ret rfl rfl rfl trivial (k _ fr_27 (by unfold RowsR; rw [r_20, r_22, r_23, hg_21, hg_4, hg_14]; exact rowsF_cp h h0 h1 hm hml))
set_option maxHeartbeats 4000000 in
theorem k_isNumber {S : SD} {M : Nat → Int → Int} {s : Int}  {Q : Res → Wd → Prop} (k : ∀ b : Int, (b = 1 ∧ 0 ≤ s ∧ s < 10) ∨ (b = 0 ∧ ¬ (0 ≤ s ∧ s < 10)) → Q (0, vI b) (M, S)) : EvQ 1 17 [vI s] (M, S) Q := by
  refine EvQ.enter (ls := [vI s]) (Nat.le_of_ble_eq_true rfl) rfl ?_
  refine WP.blk 2 ?_
  show WP 0 17 (if cnd .lt s 0 = true then 14 else 4) [vI s] [] (M, S) Q
  refine br_lt (fun c_1 => ?_) (fun c_1 => ?_)
  · refine WP.blk 1 ?_
    show WP 0 17 15 [vI s] [vI 0] (M, S) Q
    exact WP.ret rfl rfl rfl ⟨by omega, trivial⟩ (k _ (by omega))
  · refine WP.blk 3 ?_
    show WP 0 17 (if cnd .ge s 10 = true then 14 else 10) [vI s] [] (M, S) Q
    refine br_ge (fun c_2 => ?_) (fun c_2 => ?_)
    · refine WP.blk 1 ?_
      show WP 0 17 15 [vI s] [vI 0] (M, S) Q
      exact WP.ret rfl rfl rfl ⟨by omega, trivial⟩ (k _ (by omega))
    · refine WP.blk 2 ?_
      show WP 0 17 15 [vI s] [vI 1] (M, S) Q
      exact WP.ret rfl rfl rfl ⟨by omega, trivial⟩ (k _ (by omega))
set_option maxHeartbeats 4000000 in
theorem k_inkOf {S : SD} {M : Nat → Int → Int} {k1 : Nat} {f : Int → Int} {s : Int} (hS : isInks S k1) (h : InkR M k1 f) (hs : 0 ≤ s ∧ s < f 0) (h0 : f 0 ≤ 10) {Q : Res → Wd → Prop} (k : Q (0, vI (f (7 + 9 * s + 6))) (M, S)) : EvQ 2 18 [vR k1, vI s] (M, S) Q := by
  refine EvQ.enter (ls := [vR k1, vI s]) (Nat.le_of_ble_eq_true rfl) rfl ?_
  obtain ⟨b, hb⟩ : ∃ y9, M k1 = y9 := ⟨_, rfl⟩
  obtain ⟨i, hi⟩ : ∃ y9, M (k1 + 1) = y9 := ⟨_, rfl⟩
  obtain ⟨a, ha⟩ : ∃ y9, M (k1 + 2) = y9 := ⟨_, rfl⟩
  obtain ⟨w, hw⟩ : ∃ y9, M (k1 + 3) = y9 := ⟨_, rfl⟩
  unfold InkR at h
  rw [hb, hi, ha, hw] at h
  have hh := h
  obtain ⟨⟨e3, e4, e5⟩, e6⟩ := h
  obtain ⟨e7, e8, e9⟩ := e6 s hs.1 hs.2
  refine WP.blk 1 ?_
  show WP 1 18 1 [vR k1, vI s] [vI s] (M, S) Q
  refine WP.cl (a := [vI s]) (rest := []) rfl rfl rfl rfl trivial (by decide) (k_isNumber  (fun b_1 hb_1 => ⟨rfl, ?_⟩))
  show WP 1 18 4 [vR k1, vI s] [vI b_1] (M, S) Q
  refine WP.blk 1 ?_
  show WP 1 18 (if cnd .eq b_1 0 = true then 16 else 7) [vR k1, vI s] [] (M, S) Q
  refine br_eq (fun c_2 => ?_) (fun c_2 => ?_)
  · have p_1 := (hb_1.resolve_left (fun h => by omega)).2
    refine WP.blk 1 ?_
    show WP 1 18 17 [vR k1, vI s] [vI (-1)] (M, S) Q
    exact WP.ret rfl rfl rfl trivial (by exfalso; omega)
  · have p_1 := (hb_1.resolve_right (fun h => by omega)).2
    refine WP.blk 2 ?_
    show (sT S k1 = 4 ∧ sR S k1 0 ≠ 0) ∧ WP 1 18 11 [vR k1, vI s] [vR (sR S k1 0)] (M, S) Q
    refine ⟨⟨hS.1, by rw [(show sR S k1 0 = k1 + 1 from hS.2.1)]; omega⟩, ?_⟩
    rw [(show sR S k1 0 = k1 + 1 from hS.2.1)]
    refine WP.blk 3 ?_
    show ((sT S (k1 + 1) = 11 ∨ sT S (k1 + 1) = 16 ∨ sT S (k1 + 1) = 17) ∧ 0 ≤ s ∧ s < (sN S (k1 + 1) : Int)) ∧ WP 1 18 17 [vR k1, vI s] [vI (M (k1 + 1) s)] (M, S) Q
    rw [hi]
    refine ⟨⟨Or.inl hS.2.2.2.2.1, by omega, by rw [(show sN S (k1 + 1) = 10 from hS.2.2.2.2.2.1)]; omega⟩, ?_⟩
    exact WP.ret rfl rfl rfl trivial (by rw [e7]; exact k)
set_option maxHeartbeats 4000000 in
theorem k_amountOf {S : SD} {M : Nat → Int → Int} {k1 : Nat} {f : Int → Int} {s : Int} (hS : isInks S k1) (h : InkR M k1 f) (hs : 0 ≤ s ∧ s < f 0) (h0 : f 0 ≤ 10) {Q : Res → Wd → Prop} (k : Q (0, vI (f (7 + 9 * s + 7))) (M, S)) : EvQ 2 19 [vR k1, vI s] (M, S) Q := by
  refine EvQ.enter (ls := [vR k1, vI s]) (Nat.le_of_ble_eq_true rfl) rfl ?_
  obtain ⟨b, hb⟩ : ∃ y9, M k1 = y9 := ⟨_, rfl⟩
  obtain ⟨i, hi⟩ : ∃ y9, M (k1 + 1) = y9 := ⟨_, rfl⟩
  obtain ⟨a, ha⟩ : ∃ y9, M (k1 + 2) = y9 := ⟨_, rfl⟩
  obtain ⟨w, hw⟩ : ∃ y9, M (k1 + 3) = y9 := ⟨_, rfl⟩
  unfold InkR at h
  rw [hb, hi, ha, hw] at h
  have hh := h
  obtain ⟨⟨e3, e4, e5⟩, e6⟩ := h
  obtain ⟨e7, e8, e9⟩ := e6 s hs.1 hs.2
  refine WP.blk 1 ?_
  show WP 1 19 1 [vR k1, vI s] [vI s] (M, S) Q
  refine WP.cl (a := [vI s]) (rest := []) rfl rfl rfl rfl trivial (by decide) (k_isNumber  (fun b_1 hb_1 => ⟨rfl, ?_⟩))
  show WP 1 19 4 [vR k1, vI s] [vI b_1] (M, S) Q
  refine WP.blk 1 ?_
  show WP 1 19 (if cnd .eq b_1 0 = true then 16 else 7) [vR k1, vI s] [] (M, S) Q
  refine br_eq (fun c_2 => ?_) (fun c_2 => ?_)
  · have p_1 := (hb_1.resolve_left (fun h => by omega)).2
    refine WP.blk 1 ?_
    show WP 1 19 17 [vR k1, vI s] [vI 0] (M, S) Q
    exact WP.ret rfl rfl rfl trivial (by exfalso; omega)
  · have p_1 := (hb_1.resolve_right (fun h => by omega)).2
    refine WP.blk 2 ?_
    show (sT S k1 = 4 ∧ sR S k1 1 ≠ 0) ∧ WP 1 19 11 [vR k1, vI s] [vR (sR S k1 1)] (M, S) Q
    refine ⟨⟨hS.1, by rw [(show sR S k1 1 = k1 + 2 from hS.2.2.1)]; omega⟩, ?_⟩
    rw [(show sR S k1 1 = k1 + 2 from hS.2.2.1)]
    refine WP.blk 3 ?_
    show ((sT S (k1 + 2) = 11 ∨ sT S (k1 + 2) = 16 ∨ sT S (k1 + 2) = 17) ∧ 0 ≤ s ∧ s < (sN S (k1 + 2) : Int)) ∧ WP 1 19 17 [vR k1, vI s] [vI (M (k1 + 2) s)] (M, S) Q
    rw [ha]
    refine ⟨⟨Or.inl hS.2.2.2.2.2.2.1, by omega, by rw [(show sN S (k1 + 2) = 10 from hS.2.2.2.2.2.2.2.1)]; omega⟩, ?_⟩
    exact WP.ret rfl rfl rfl trivial (by rw [e8]; exact k)
set_option maxHeartbeats 4000000 in
theorem k_wearOf {S : SD} {M : Nat → Int → Int} {k1 : Nat} {f : Int → Int} {s : Int} (hS : isInks S k1) (h : InkR M k1 f) (hs : 0 ≤ s ∧ s < f 0) (h0 : f 0 ≤ 10) {Q : Res → Wd → Prop} (k : Q (0, vI (f (7 + 9 * s + 8))) (M, S)) : EvQ 2 20 [vR k1, vI s] (M, S) Q := by
  refine EvQ.enter (ls := [vR k1, vI s]) (Nat.le_of_ble_eq_true rfl) rfl ?_
  obtain ⟨b, hb⟩ : ∃ y9, M k1 = y9 := ⟨_, rfl⟩
  obtain ⟨i, hi⟩ : ∃ y9, M (k1 + 1) = y9 := ⟨_, rfl⟩
  obtain ⟨a, ha⟩ : ∃ y9, M (k1 + 2) = y9 := ⟨_, rfl⟩
  obtain ⟨w, hw⟩ : ∃ y9, M (k1 + 3) = y9 := ⟨_, rfl⟩
  unfold InkR at h
  rw [hb, hi, ha, hw] at h
  have hh := h
  obtain ⟨⟨e3, e4, e5⟩, e6⟩ := h
  obtain ⟨e7, e8, e9⟩ := e6 s hs.1 hs.2
  refine WP.blk 1 ?_
  show WP 1 20 1 [vR k1, vI s] [vI s] (M, S) Q
  refine WP.cl (a := [vI s]) (rest := []) rfl rfl rfl rfl trivial (by decide) (k_isNumber  (fun b_1 hb_1 => ⟨rfl, ?_⟩))
  show WP 1 20 4 [vR k1, vI s] [vI b_1] (M, S) Q
  refine WP.blk 1 ?_
  show WP 1 20 (if cnd .eq b_1 0 = true then 16 else 7) [vR k1, vI s] [] (M, S) Q
  refine br_eq (fun c_2 => ?_) (fun c_2 => ?_)
  · have p_1 := (hb_1.resolve_left (fun h => by omega)).2
    refine WP.blk 1 ?_
    show WP 1 20 17 [vR k1, vI s] [vI 0] (M, S) Q
    exact WP.ret rfl rfl rfl trivial (by exfalso; omega)
  · have p_1 := (hb_1.resolve_right (fun h => by omega)).2
    refine WP.blk 2 ?_
    show (sT S k1 = 4 ∧ sR S k1 2 ≠ 0) ∧ WP 1 20 11 [vR k1, vI s] [vR (sR S k1 2)] (M, S) Q
    refine ⟨⟨hS.1, by rw [(show sR S k1 2 = k1 + 3 from hS.2.2.2.1)]; omega⟩, ?_⟩
    rw [(show sR S k1 2 = k1 + 3 from hS.2.2.2.1)]
    refine WP.blk 3 ?_
    show ((sT S (k1 + 3) = 11 ∨ sT S (k1 + 3) = 16 ∨ sT S (k1 + 3) = 17) ∧ 0 ≤ s ∧ s < (sN S (k1 + 3) : Int)) ∧ WP 1 20 17 [vR k1, vI s] [vI (M (k1 + 3) s)] (M, S) Q
    rw [hw]
    refine ⟨⟨Or.inl hS.2.2.2.2.2.2.2.2.1, by omega, by rw [(show sN S (k1 + 3) = 10 from hS.2.2.2.2.2.2.2.2.2)]; omega⟩, ?_⟩
    exact WP.ret rfl rfl rfl trivial (by rw [e9]; exact k)
set_option maxHeartbeats 4000000 in
theorem k_renew {S : SD} {M : Nat → Int → Int} {k1 : Nat} {f : Int → Int} {s : Int} {v p n : Int} (hS : isInks S k1) (h : InkR M k1 f) (h0 : 0 ≤ f 0 ∧ f 0 ≤ 9) (hs : s = f 0) (hn : n ≤ 5) {Q : Res → Wd → Prop} (k : ∀ (M2 : Nat → Int → Int), (∀ q9, (q9 < k1 ∨ k1 + 4 ≤ q9) → M2 q9 = M q9) → InkR M2 k1 (cutR f v p n) → Q (0, none) (M2, S)) : EvQ 2 21 [vR k1, vI s] (M, S) Q := by
  refine EvQ.enter (ls := [vR k1, vI s]) (Nat.le_of_ble_eq_true rfl) rfl ?_
  obtain ⟨b, hb⟩ : ∃ y9, M k1 = y9 := ⟨_, rfl⟩
  obtain ⟨i, hi⟩ : ∃ y9, M (k1 + 1) = y9 := ⟨_, rfl⟩
  obtain ⟨a, ha⟩ : ∃ y9, M (k1 + 2) = y9 := ⟨_, rfl⟩
  obtain ⟨w, hw⟩ : ∃ y9, M (k1 + 3) = y9 := ⟨_, rfl⟩
  unfold InkR at h
  rw [hb, hi, ha, hw] at h
  refine WP.blk 1 ?_
  show WP 1 21 1 [vR k1, vI s] [vI s] (M, S) Q
  refine WP.cl (a := [vI s]) (rest := []) rfl rfl rfl rfl trivial (by decide) (k_isNumber  (fun b_1 hb_1 => ⟨rfl, ?_⟩))
  show WP 1 21 4 [vR k1, vI s] [vI b_1] (M, S) Q
  refine WP.blk 1 ?_
  show WP 1 21 (if cnd .eq b_1 0 = true then 28 else 7) [vR k1, vI s] [] (M, S) Q
  refine br_eq (fun c_2 => ?_) (fun c_2 => ?_)
  · have p_1 := (hb_1.resolve_left (fun h => by omega)).2
    exact WP.ret rfl rfl rfl trivial (by exfalso; omega)
  · have p_1 := (hb_1.resolve_right (fun h => by omega)).2
    refine WP.blk 2 ?_
    show (sT S k1 = 4 ∧ sR S k1 0 ≠ 0) ∧ WP 1 21 11 [vR k1, vI s] [vR (sR S k1 0)] (M, S) Q
    refine ⟨⟨hS.1, by rw [(show sR S k1 0 = k1 + 1 from hS.2.1)]; omega⟩, ?_⟩
    rw [(show sR S k1 0 = k1 + 1 from hS.2.1)]
    refine WP.blk 3 ?_
    show (sT S (k1 + 1) = 11 ∧ 0 ≤ s ∧ s < (sN S (k1 + 1) : Int)) ∧ WP 1 21 14 [vR k1, vI s] [] (up M (k1 + 1) s (-1), S) Q
    refine ⟨⟨hS.2.2.2.2.1, by omega, by rw [(show sN S (k1 + 1) = 10 from hS.2.2.2.2.2.1)]; omega⟩, ?_⟩
    generalize hM_3 : up M (k1 + 1) s (-1) = M_3
    have r_4 : M_3 k1 = b := by rw [← hM_3]; exact (up_row (by omega)).trans hb
    obtain ⟨g_6, hg_6⟩ : ∃ y9, y9 = uf i s (-1) := ⟨_, rfl⟩
    have r_5 : M_3 (k1 + 1) = g_6 := by rw [← hM_3, hg_6, up_self, hi]
    have r_7 : M_3 (k1 + 2) = a := by rw [← hM_3]; exact (up_row (by omega)).trans ha
    have r_8 : M_3 (k1 + 3) = w := by rw [← hM_3]; exact (up_row (by omega)).trans hw
    have fr_9 : (∀ q9, (q9 < k1 ∨ k1 + 4 ≤ q9) → M_3 q9 = M q9) := fun q9 q0 => by rw [← hM_3]; exact (up_row (by omega)).trans ((fun _ _ => rfl) q9 q0)
    refine WP.blk 2 ?_
    show (sT S k1 = 4 ∧ sR S k1 1 ≠ 0) ∧ WP 1 21 18 [vR k1, vI s] [vR (sR S k1 1)] (M_3, S) Q
    refine ⟨⟨hS.1, by rw [(show sR S k1 1 = k1 + 2 from hS.2.2.1)]; omega⟩, ?_⟩
    rw [(show sR S k1 1 = k1 + 2 from hS.2.2.1)]
    refine WP.blk 3 ?_
    show (sT S (k1 + 2) = 11 ∧ 0 ≤ s ∧ s < (sN S (k1 + 2) : Int)) ∧ WP 1 21 21 [vR k1, vI s] [] (up M_3 (k1 + 2) s 0, S) Q
    refine ⟨⟨hS.2.2.2.2.2.2.1, by omega, by rw [(show sN S (k1 + 2) = 10 from hS.2.2.2.2.2.2.2.1)]; omega⟩, ?_⟩
    generalize hM_10 : up M_3 (k1 + 2) s 0 = M_10
    have r_11 : M_10 k1 = b := by rw [← hM_10]; exact (up_row (by omega)).trans r_4
    have r_12 : M_10 (k1 + 1) = g_6 := by rw [← hM_10]; exact (up_row (by omega)).trans r_5
    obtain ⟨g_14, hg_14⟩ : ∃ y9, y9 = uf a s 0 := ⟨_, rfl⟩
    have r_13 : M_10 (k1 + 2) = g_14 := by rw [← hM_10, hg_14, up_self, r_7]
    have r_15 : M_10 (k1 + 3) = w := by rw [← hM_10]; exact (up_row (by omega)).trans r_8
    have fr_16 : (∀ q9, (q9 < k1 ∨ k1 + 4 ≤ q9) → M_10 q9 = M q9) := fun q9 q0 => by rw [← hM_10]; exact (up_row (by omega)).trans (fr_9 q9 q0)
    refine WP.blk 2 ?_
    show (sT S k1 = 4 ∧ sR S k1 2 ≠ 0) ∧ WP 1 21 25 [vR k1, vI s] [vR (sR S k1 2)] (M_10, S) Q
    refine ⟨⟨hS.1, by rw [(show sR S k1 2 = k1 + 3 from hS.2.2.2.1)]; omega⟩, ?_⟩
    rw [(show sR S k1 2 = k1 + 3 from hS.2.2.2.1)]
    refine WP.blk 3 ?_
    show (sT S (k1 + 3) = 11 ∧ 0 ≤ s ∧ s < (sN S (k1 + 3) : Int)) ∧ WP 1 21 28 [vR k1, vI s] [] (up M_10 (k1 + 3) s 0, S) Q
    refine ⟨⟨hS.2.2.2.2.2.2.2.2.1, by omega, by rw [(show sN S (k1 + 3) = 10 from hS.2.2.2.2.2.2.2.2.2)]; omega⟩, ?_⟩
    generalize hM_17 : up M_10 (k1 + 3) s 0 = M_17
    have r_18 : M_17 k1 = b := by rw [← hM_17]; exact (up_row (by omega)).trans r_11
    have r_19 : M_17 (k1 + 1) = g_6 := by rw [← hM_17]; exact (up_row (by omega)).trans r_12
    have r_20 : M_17 (k1 + 2) = g_14 := by rw [← hM_17]; exact (up_row (by omega)).trans r_13
    obtain ⟨g_22, hg_22⟩ : ∃ y9, y9 = uf w s 0 := ⟨_, rfl⟩
    have r_21 : M_17 (k1 + 3) = g_22 := by rw [← hM_17, hg_22, up_self, r_15]
    have fr_23 : (∀ q9, (q9 < k1 ∨ k1 + 4 ≤ q9) → M_17 q9 = M q9) := fun q9 q0 => by rw [← hM_17]; exact (up_row (by omega)).trans (fr_16 q9 q0)
    exact WP.ret rfl rfl rfl trivial (k _ fr_23 (by unfold InkR; rw [r_18, r_19, r_20, r_21, hg_6, hg_14, hg_22, hs]; exact inkF_new h h0 hn))
set_option maxHeartbeats 4000000 in
theorem k_takeInk {S : SD} {M : Nat → Int → Int} {k1 : Nat} {f : Int → Int} {s : Int} (hS : isInks S k1) (h : InkR M k1 f) (hs : 0 ≤ s ∧ s < f 0) (h0 : f 0 ≤ 10) {Q : Res → Wd → Prop} (k : ∀ (M2 : Nat → Int → Int), (∀ q9, (q9 < k1 ∨ k1 + 4 ≤ q9) → M2 q9 = M q9) → InkR M2 k1 (remR f s) → Q (0, none) (M2, S)) : EvQ 2 22 [vR k1, vI s] (M, S) Q := by
  refine EvQ.enter (ls := [vR k1, vI s, none]) (Nat.le_of_ble_eq_true rfl) rfl ?_
  obtain ⟨b, hb⟩ : ∃ y9, M k1 = y9 := ⟨_, rfl⟩
  obtain ⟨i, hi⟩ : ∃ y9, M (k1 + 1) = y9 := ⟨_, rfl⟩
  obtain ⟨a, ha⟩ : ∃ y9, M (k1 + 2) = y9 := ⟨_, rfl⟩
  obtain ⟨w, hw⟩ : ∃ y9, M (k1 + 3) = y9 := ⟨_, rfl⟩
  unfold InkR at h
  rw [hb, hi, ha, hw] at h
  refine WP.blk 1 ?_
  show WP 1 22 1 [vR k1, vI s, none] [vI s] (M, S) Q
  refine WP.cl (a := [vI s]) (rest := []) rfl rfl rfl rfl trivial (by decide) (k_isNumber  (fun b_1 hb_1 => ⟨rfl, ?_⟩))
  show WP 1 22 4 [vR k1, vI s, none] [vI b_1] (M, S) Q
  refine WP.blk 1 ?_
  show WP 1 22 (if cnd .eq b_1 0 = true then 60 else 7) [vR k1, vI s, none] [] (M, S) Q
  refine br_eq (fun c_2 => ?_) (fun c_2 => ?_)
  · have p_1 := (hb_1.resolve_left (fun h => by omega)).2
    exact WP.ret rfl rfl rfl trivial (by exfalso; omega)
  · have p_1 := (hb_1.resolve_right (fun h => by omega)).2
    refine WP.blk 6 ?_
    show ir (9 - s) ∧ (sT S k1 = 4 ∧ sR S k1 0 ≠ 0) ∧ WP 1 22 16 [vR k1, vI s, vI (9 - s)] [vR (sR S k1 0)] (M, S) Q
    refine ⟨(by unfold ir; omega), ⟨hS.1, by rw [(show sR S k1 0 = k1 + 1 from hS.2.1)]; omega⟩, ?_⟩
    rw [(show sR S k1 0 = k1 + 1 from hS.2.1)]
    refine WP.blk 5 ?_
    show ir (s + 1) ∧ (sT S k1 = 4 ∧ sR S k1 0 ≠ 0) ∧ WP 1 22 23 [vR k1, vI s, vI (9 - s)] [vR (sR S k1 0), vI (s + 1), vR (k1 + 1)] (M, S) Q
    refine ⟨(by unfold ir; omega), ⟨hS.1, by rw [(show sR S k1 0 = k1 + 1 from hS.2.1)]; omega⟩, ?_⟩
    rw [(show sR S k1 0 = k1 + 1 from hS.2.1)]
    refine WP.blk 3 ?_
    show (sT S (k1 + 1) = 11 ∧ sT S (k1 + 1) = 11 ∧ 0 ≤ (s + 1) ∧ 0 ≤ s ∧ 0 ≤ (9 - s) ∧ (s + 1) + (9 - s) ≤ (sN S (k1 + 1) : Int) ∧ s + (9 - s) ≤ (sN S (k1 + 1) : Int)) ∧ WP 1 22 28 [vR k1, vI s, vI (9 - s)] [] (cpy M (k1 + 1) (s + 1) (k1 + 1) s (9 - s), S) Q
    refine ⟨⟨hS.2.2.2.2.1, hS.2.2.2.2.1, by omega, by omega, by omega, by rw [(show sN S (k1 + 1) = 10 from hS.2.2.2.2.2.1)]; omega, by rw [(show sN S (k1 + 1) = 10 from hS.2.2.2.2.2.1)]; omega⟩, ?_⟩
    generalize hM_3 : cpy M (k1 + 1) (s + 1) (k1 + 1) s (9 - s) = M_3
    have r_4 : M_3 k1 = b := by rw [← hM_3]; exact (cpy_row (by omega)).trans hb
    obtain ⟨g_6, hg_6⟩ : ∃ y9, y9 = rcp i (s + 1) i s (9 - s) := ⟨_, rfl⟩
    have r_5 : M_3 (k1 + 1) = g_6 := by rw [← hM_3, hg_6, cpy_self, hi]
    have r_7 : M_3 (k1 + 2) = a := by rw [← hM_3]; exact (cpy_row (by omega)).trans ha
    have r_8 : M_3 (k1 + 3) = w := by rw [← hM_3]; exact (cpy_row (by omega)).trans hw
    have fr_9 : (∀ q9, (q9 < k1 ∨ k1 + 4 ≤ q9) → M_3 q9 = M q9) := fun q9 q0 => by rw [← hM_3]; exact (cpy_row (by omega)).trans ((fun _ _ => rfl) q9 q0)
    refine WP.blk 2 ?_
    show (sT S k1 = 4 ∧ sR S k1 1 ≠ 0) ∧ WP 1 22 32 [vR k1, vI s, vI (9 - s)] [vR (sR S k1 1)] (M_3, S) Q
    refine ⟨⟨hS.1, by rw [(show sR S k1 1 = k1 + 2 from hS.2.2.1)]; omega⟩, ?_⟩
    rw [(show sR S k1 1 = k1 + 2 from hS.2.2.1)]
    refine WP.blk 5 ?_
    show ir (s + 1) ∧ (sT S k1 = 4 ∧ sR S k1 1 ≠ 0) ∧ WP 1 22 39 [vR k1, vI s, vI (9 - s)] [vR (sR S k1 1), vI (s + 1), vR (k1 + 2)] (M_3, S) Q
    refine ⟨(by unfold ir; omega), ⟨hS.1, by rw [(show sR S k1 1 = k1 + 2 from hS.2.2.1)]; omega⟩, ?_⟩
    rw [(show sR S k1 1 = k1 + 2 from hS.2.2.1)]
    refine WP.blk 3 ?_
    show (sT S (k1 + 2) = 11 ∧ sT S (k1 + 2) = 11 ∧ 0 ≤ (s + 1) ∧ 0 ≤ s ∧ 0 ≤ (9 - s) ∧ (s + 1) + (9 - s) ≤ (sN S (k1 + 2) : Int) ∧ s + (9 - s) ≤ (sN S (k1 + 2) : Int)) ∧ WP 1 22 44 [vR k1, vI s, vI (9 - s)] [] (cpy M_3 (k1 + 2) (s + 1) (k1 + 2) s (9 - s), S) Q
    refine ⟨⟨hS.2.2.2.2.2.2.1, hS.2.2.2.2.2.2.1, by omega, by omega, by omega, by rw [(show sN S (k1 + 2) = 10 from hS.2.2.2.2.2.2.2.1)]; omega, by rw [(show sN S (k1 + 2) = 10 from hS.2.2.2.2.2.2.2.1)]; omega⟩, ?_⟩
    generalize hM_10 : cpy M_3 (k1 + 2) (s + 1) (k1 + 2) s (9 - s) = M_10
    have r_11 : M_10 k1 = b := by rw [← hM_10]; exact (cpy_row (by omega)).trans r_4
    have r_12 : M_10 (k1 + 1) = g_6 := by rw [← hM_10]; exact (cpy_row (by omega)).trans r_5
    obtain ⟨g_14, hg_14⟩ : ∃ y9, y9 = rcp a (s + 1) a s (9 - s) := ⟨_, rfl⟩
    have r_13 : M_10 (k1 + 2) = g_14 := by rw [← hM_10, hg_14, cpy_self, r_7]
    have r_15 : M_10 (k1 + 3) = w := by rw [← hM_10]; exact (cpy_row (by omega)).trans r_8
    have fr_16 : (∀ q9, (q9 < k1 ∨ k1 + 4 ≤ q9) → M_10 q9 = M q9) := fun q9 q0 => by rw [← hM_10]; exact (cpy_row (by omega)).trans (fr_9 q9 q0)
    refine WP.blk 2 ?_
    show (sT S k1 = 4 ∧ sR S k1 2 ≠ 0) ∧ WP 1 22 48 [vR k1, vI s, vI (9 - s)] [vR (sR S k1 2)] (M_10, S) Q
    refine ⟨⟨hS.1, by rw [(show sR S k1 2 = k1 + 3 from hS.2.2.2.1)]; omega⟩, ?_⟩
    rw [(show sR S k1 2 = k1 + 3 from hS.2.2.2.1)]
    refine WP.blk 5 ?_
    show ir (s + 1) ∧ (sT S k1 = 4 ∧ sR S k1 2 ≠ 0) ∧ WP 1 22 55 [vR k1, vI s, vI (9 - s)] [vR (sR S k1 2), vI (s + 1), vR (k1 + 3)] (M_10, S) Q
    refine ⟨(by unfold ir; omega), ⟨hS.1, by rw [(show sR S k1 2 = k1 + 3 from hS.2.2.2.1)]; omega⟩, ?_⟩
    rw [(show sR S k1 2 = k1 + 3 from hS.2.2.2.1)]
    refine WP.blk 3 ?_
    show (sT S (k1 + 3) = 11 ∧ sT S (k1 + 3) = 11 ∧ 0 ≤ (s + 1) ∧ 0 ≤ s ∧ 0 ≤ (9 - s) ∧ (s + 1) + (9 - s) ≤ (sN S (k1 + 3) : Int) ∧ s + (9 - s) ≤ (sN S (k1 + 3) : Int)) ∧ WP 1 22 60 [vR k1, vI s, vI (9 - s)] [] (cpy M_10 (k1 + 3) (s + 1) (k1 + 3) s (9 - s), S) Q
    refine ⟨⟨hS.2.2.2.2.2.2.2.2.1, hS.2.2.2.2.2.2.2.2.1, by omega, by omega, by omega, by rw [(show sN S (k1 + 3) = 10 from hS.2.2.2.2.2.2.2.2.2)]; omega, by rw [(show sN S (k1 + 3) = 10 from hS.2.2.2.2.2.2.2.2.2)]; omega⟩, ?_⟩
    generalize hM_17 : cpy M_10 (k1 + 3) (s + 1) (k1 + 3) s (9 - s) = M_17
    have r_18 : M_17 k1 = b := by rw [← hM_17]; exact (cpy_row (by omega)).trans r_11
    have r_19 : M_17 (k1 + 1) = g_6 := by rw [← hM_17]; exact (cpy_row (by omega)).trans r_12
    have r_20 : M_17 (k1 + 2) = g_14 := by rw [← hM_17]; exact (cpy_row (by omega)).trans r_13
    obtain ⟨g_22, hg_22⟩ : ∃ y9, y9 = rcp w (s + 1) w s (9 - s) := ⟨_, rfl⟩
    have r_21 : M_17 (k1 + 3) = g_22 := by rw [← hM_17, hg_22, cpy_self, r_15]
    have fr_23 : (∀ q9, (q9 < k1 ∨ k1 + 4 ≤ q9) → M_17 q9 = M q9) := fun q9 q0 => by rw [← hM_17]; exact (cpy_row (by omega)).trans (fr_16 q9 q0)
    exact WP.ret rfl rfl rfl trivial (k _ fr_23 (by unfold InkR; rw [r_18, r_19, r_20, r_21, hg_6, hg_14, hg_22]; exact inkF_out h hs h0))
set_option maxHeartbeats 4000000 in
theorem k_wash {S : SD} {M : Nat → Int → Int} {k1 : Nat} {f : Int → Int} {s : Int} (hS : isInks S k1) (h : InkR M k1 f) (hs : 0 ≤ s ∧ s < f 0) (h0 : f 0 ≤ 10) (hB : 0 ≤ f 6 ∧ f 6 ≤ 1000000000) {Q : Res → Wd → Prop} (k : ∀ (v : Int) (M2 : Nat → Int → Int), (∀ q9, (q9 < k1 ∨ k1 + 4 ≤ q9) → M2 q9 = M q9) → InkR M2 k1 (cleanR f s) → v = (if f (7 + 9 * s + 6) = -1 then 0 else 1) → Q (0, vI v) (M2, S)) : EvQ 2 23 [vR k1, vI s] (M, S) Q := by
  refine EvQ.enter (ls := [vR k1, vI s, none]) (Nat.le_of_ble_eq_true rfl) rfl ?_
  obtain ⟨b, hb⟩ : ∃ y9, M k1 = y9 := ⟨_, rfl⟩
  obtain ⟨i, hi⟩ : ∃ y9, M (k1 + 1) = y9 := ⟨_, rfl⟩
  obtain ⟨a, ha⟩ : ∃ y9, M (k1 + 2) = y9 := ⟨_, rfl⟩
  obtain ⟨w, hw⟩ : ∃ y9, M (k1 + 3) = y9 := ⟨_, rfl⟩
  unfold InkR at h
  rw [hb, hi, ha, hw] at h
  have hh := h
  obtain ⟨⟨e3, e4, e5⟩, e6⟩ := h
  obtain ⟨e7, e8, e9⟩ := e6 s hs.1 hs.2
  refine WP.blk 1 ?_
  show WP 1 23 1 [vR k1, vI s, none] [vI s] (M, S) Q
  refine WP.cl (a := [vI s]) (rest := []) rfl rfl rfl rfl trivial (by decide) (k_isNumber  (fun b_1 hb_1 => ⟨rfl, ?_⟩))
  show WP 1 23 4 [vR k1, vI s, none] [vI b_1] (M, S) Q
  refine WP.blk 1 ?_
  show WP 1 23 (if cnd .ne b_1 0 = true then 9 else 7) [vR k1, vI s, none] [] (M, S) Q
  refine br_ne (fun c_2 => ?_) (fun c_2 => ?_)
  · have p_1 := (hb_1.resolve_right (fun h => by omega)).2
    refine WP.blk 2 ?_
    show (sT S k1 = 4 ∧ sR S k1 0 ≠ 0) ∧ WP 1 23 13 [vR k1, vI s, none] [vR (sR S k1 0)] (M, S) Q
    refine ⟨⟨hS.1, by rw [(show sR S k1 0 = k1 + 1 from hS.2.1)]; omega⟩, ?_⟩
    rw [(show sR S k1 0 = k1 + 1 from hS.2.1)]
    refine WP.blk 4 ?_
    show ((sT S (k1 + 1) = 11 ∨ sT S (k1 + 1) = 16 ∨ sT S (k1 + 1) = 17) ∧ 0 ≤ s ∧ s < (sN S (k1 + 1) : Int)) ∧ WP 1 23 (if cnd .eq (M (k1 + 1) s) (-1) = true then 23 else 19) [vR k1, vI s, none] [] (M, S) Q
    rw [hi]
    refine ⟨⟨Or.inl hS.2.2.2.2.1, by omega, by rw [(show sN S (k1 + 1) = 10 from hS.2.2.2.2.2.1)]; omega⟩, ?_⟩
    refine br_eq (fun c_3 => ?_) (fun c_3 => ?_)
    · refine WP.blk 6 ?_
      show (sT S k1 = 4 ∧ sR S k1 0 ≠ 0) ∧ WP 1 23 43 [vR k1, vI s, vI 0] [vR (sR S k1 0)] (M, S) Q
      refine ⟨⟨hS.1, by rw [(show sR S k1 0 = k1 + 1 from hS.2.1)]; omega⟩, ?_⟩
      rw [(show sR S k1 0 = k1 + 1 from hS.2.1)]
      refine WP.blk 3 ?_
      show (sT S (k1 + 1) = 11 ∧ 0 ≤ s ∧ s < (sN S (k1 + 1) : Int)) ∧ WP 1 23 46 [vR k1, vI s, vI 0] [] (up M (k1 + 1) s (-1), S) Q
      refine ⟨⟨hS.2.2.2.2.1, by omega, by rw [(show sN S (k1 + 1) = 10 from hS.2.2.2.2.2.1)]; omega⟩, ?_⟩
      generalize hM_4 : up M (k1 + 1) s (-1) = M_4
      have r_5 : M_4 k1 = b := by rw [← hM_4]; exact (up_row (by omega)).trans hb
      obtain ⟨g_7, hg_7⟩ : ∃ y9, y9 = uf i s (-1) := ⟨_, rfl⟩
      have r_6 : M_4 (k1 + 1) = g_7 := by rw [← hM_4, hg_7, up_self, hi]
      have r_8 : M_4 (k1 + 2) = a := by rw [← hM_4]; exact (up_row (by omega)).trans ha
      have r_9 : M_4 (k1 + 3) = w := by rw [← hM_4]; exact (up_row (by omega)).trans hw
      have fr_10 : (∀ q9, (q9 < k1 ∨ k1 + 4 ≤ q9) → M_4 q9 = M q9) := fun q9 q0 => by rw [← hM_4]; exact (up_row (by omega)).trans ((fun _ _ => rfl) q9 q0)
      refine WP.blk 2 ?_
      show (sT S k1 = 4 ∧ sR S k1 1 ≠ 0) ∧ WP 1 23 50 [vR k1, vI s, vI 0] [vR (sR S k1 1)] (M_4, S) Q
      refine ⟨⟨hS.1, by rw [(show sR S k1 1 = k1 + 2 from hS.2.2.1)]; omega⟩, ?_⟩
      rw [(show sR S k1 1 = k1 + 2 from hS.2.2.1)]
      refine WP.blk 3 ?_
      show (sT S (k1 + 2) = 11 ∧ 0 ≤ s ∧ s < (sN S (k1 + 2) : Int)) ∧ WP 1 23 53 [vR k1, vI s, vI 0] [] (up M_4 (k1 + 2) s 0, S) Q
      refine ⟨⟨hS.2.2.2.2.2.2.1, by omega, by rw [(show sN S (k1 + 2) = 10 from hS.2.2.2.2.2.2.2.1)]; omega⟩, ?_⟩
      generalize hM_11 : up M_4 (k1 + 2) s 0 = M_11
      have r_12 : M_11 k1 = b := by rw [← hM_11]; exact (up_row (by omega)).trans r_5
      have r_13 : M_11 (k1 + 1) = g_7 := by rw [← hM_11]; exact (up_row (by omega)).trans r_6
      obtain ⟨g_15, hg_15⟩ : ∃ y9, y9 = uf a s 0 := ⟨_, rfl⟩
      have r_14 : M_11 (k1 + 2) = g_15 := by rw [← hM_11, hg_15, up_self, r_8]
      have r_16 : M_11 (k1 + 3) = w := by rw [← hM_11]; exact (up_row (by omega)).trans r_9
      have fr_17 : (∀ q9, (q9 < k1 ∨ k1 + 4 ≤ q9) → M_11 q9 = M q9) := fun q9 q0 => by rw [← hM_11]; exact (up_row (by omega)).trans (fr_10 q9 q0)
      refine WP.blk 1 ?_
      show WP 1 23 54 [vR k1, vI s, vI 0] [vI 0] (M_11, S) Q
      exact WP.ret rfl rfl rfl ⟨by omega, trivial⟩ (k _ _ fr_17 (by unfold InkR; rw [r_12, r_13, r_14, r_16, hg_7, hg_15, show b = uf b 5 (b 5) from (by funext q; unfold uf; split; (rename_i e; rw [e]); rfl)]; exact inkF_cln hh hs (by rw [if_pos (by omega)]; omega)) (by rw [if_pos (by omega)]))
    · refine WP.blk 11 ?_
      show sT S k1 = 4 ∧ ir ((M k1 5) + 1) ∧ sT S k1 = 4 ∧ WP 1 23 39 [vR k1, vI s, vI 1] [] (up M k1 5 ((M k1 5) + 1), S) Q
      rw [hb]
      refine ⟨hS.1, (by unfold ir; omega), hS.1, ?_⟩
      generalize hM_18 : up M k1 5 ((b 5) + 1) = M_18
      obtain ⟨g_20, hg_20⟩ : ∃ y9, y9 = uf b 5 ((b 5) + 1) := ⟨_, rfl⟩
      have r_19 : M_18 k1 = g_20 := by rw [← hM_18, hg_20, up_self, hb]
      have t_21 : g_20 5 = (b 5) + 1 := by rw [hg_20]; exact uf_at _ _ (by omega)
      have r_22 : M_18 (k1 + 1) = i := by rw [← hM_18]; exact (up_row (by omega)).trans hi
      have r_23 : M_18 (k1 + 2) = a := by rw [← hM_18]; exact (up_row (by omega)).trans ha
      have r_24 : M_18 (k1 + 3) = w := by rw [← hM_18]; exact (up_row (by omega)).trans hw
      have fr_25 : (∀ q9, (q9 < k1 ∨ k1 + 4 ≤ q9) → M_18 q9 = M q9) := fun q9 q0 => by rw [← hM_18]; exact (up_row (by omega)).trans ((fun _ _ => rfl) q9 q0)
      refine WP.blk 2 ?_
      show (sT S k1 = 4 ∧ sR S k1 0 ≠ 0) ∧ WP 1 23 43 [vR k1, vI s, vI 1] [vR (sR S k1 0)] (M_18, S) Q
      refine ⟨⟨hS.1, by rw [(show sR S k1 0 = k1 + 1 from hS.2.1)]; omega⟩, ?_⟩
      rw [(show sR S k1 0 = k1 + 1 from hS.2.1)]
      refine WP.blk 3 ?_
      show (sT S (k1 + 1) = 11 ∧ 0 ≤ s ∧ s < (sN S (k1 + 1) : Int)) ∧ WP 1 23 46 [vR k1, vI s, vI 1] [] (up M_18 (k1 + 1) s (-1), S) Q
      refine ⟨⟨hS.2.2.2.2.1, by omega, by rw [(show sN S (k1 + 1) = 10 from hS.2.2.2.2.2.1)]; omega⟩, ?_⟩
      generalize hM_26 : up M_18 (k1 + 1) s (-1) = M_26
      have r_27 : M_26 k1 = g_20 := by rw [← hM_26]; exact (up_row (by omega)).trans r_19
      obtain ⟨g_29, hg_29⟩ : ∃ y9, y9 = uf i s (-1) := ⟨_, rfl⟩
      have r_28 : M_26 (k1 + 1) = g_29 := by rw [← hM_26, hg_29, up_self, r_22]
      have r_30 : M_26 (k1 + 2) = a := by rw [← hM_26]; exact (up_row (by omega)).trans r_23
      have r_31 : M_26 (k1 + 3) = w := by rw [← hM_26]; exact (up_row (by omega)).trans r_24
      have fr_32 : (∀ q9, (q9 < k1 ∨ k1 + 4 ≤ q9) → M_26 q9 = M q9) := fun q9 q0 => by rw [← hM_26]; exact (up_row (by omega)).trans (fr_25 q9 q0)
      refine WP.blk 2 ?_
      show (sT S k1 = 4 ∧ sR S k1 1 ≠ 0) ∧ WP 1 23 50 [vR k1, vI s, vI 1] [vR (sR S k1 1)] (M_26, S) Q
      refine ⟨⟨hS.1, by rw [(show sR S k1 1 = k1 + 2 from hS.2.2.1)]; omega⟩, ?_⟩
      rw [(show sR S k1 1 = k1 + 2 from hS.2.2.1)]
      refine WP.blk 3 ?_
      show (sT S (k1 + 2) = 11 ∧ 0 ≤ s ∧ s < (sN S (k1 + 2) : Int)) ∧ WP 1 23 53 [vR k1, vI s, vI 1] [] (up M_26 (k1 + 2) s 0, S) Q
      refine ⟨⟨hS.2.2.2.2.2.2.1, by omega, by rw [(show sN S (k1 + 2) = 10 from hS.2.2.2.2.2.2.2.1)]; omega⟩, ?_⟩
      generalize hM_33 : up M_26 (k1 + 2) s 0 = M_33
      have r_34 : M_33 k1 = g_20 := by rw [← hM_33]; exact (up_row (by omega)).trans r_27
      have r_35 : M_33 (k1 + 1) = g_29 := by rw [← hM_33]; exact (up_row (by omega)).trans r_28
      obtain ⟨g_37, hg_37⟩ : ∃ y9, y9 = uf a s 0 := ⟨_, rfl⟩
      have r_36 : M_33 (k1 + 2) = g_37 := by rw [← hM_33, hg_37, up_self, r_30]
      have r_38 : M_33 (k1 + 3) = w := by rw [← hM_33]; exact (up_row (by omega)).trans r_31
      have fr_39 : (∀ q9, (q9 < k1 ∨ k1 + 4 ≤ q9) → M_33 q9 = M q9) := fun q9 q0 => by rw [← hM_33]; exact (up_row (by omega)).trans (fr_32 q9 q0)
      refine WP.blk 1 ?_
      show WP 1 23 54 [vR k1, vI s, vI 1] [vI 1] (M_33, S) Q
      exact WP.ret rfl rfl rfl ⟨by omega, trivial⟩ (k _ _ fr_39 (by unfold InkR; rw [r_34, r_35, r_36, r_38, hg_20, hg_29, hg_37]; exact inkF_cln hh hs (by rw [if_neg (by omega)])) (by rw [if_neg (by omega)]))
  · have p_1 := (hb_1.resolve_left (fun h => by omega)).2
    refine WP.blk 1 ?_
    show WP 1 23 8 [vR k1, vI s, none] [vI 0] (M, S) Q
    exact WP.ret rfl rfl rfl ⟨by omega, trivial⟩ (by exfalso; omega)
set_option maxHeartbeats 4000000 in
theorem k_press {S : SD} {M : Nat → Int → Int} {k1 : Nat} {f : Int → Int} {s : Int} {B col ld : Int} (hS : isInks S k1) (h : InkR M k1 f) (hs : 0 ≤ s ∧ s < f 0) (h0 : f 0 ≤ 10) (hI : InkOk B f) (hB : 0 ≤ B ∧ B ≤ 1000000000) (hcol : 0 ≤ col ∧ col ≤ 3) (hld : ld = f 3) {Q : Res → Wd → Prop} (k : ∀ (M2 : Nat → Int → Int), (∀ q9, (q9 < k1 ∨ k1 + 4 ≤ q9) → M2 q9 = M q9) → InkR M2 k1 (prs1 col s f) → Q (0, none) (M2, S)) : EvQ 2 24 [vR k1, vI s, vI col, vI ld] (M, S) Q := by
  refine EvQ.enter (ls := [vR k1, vI s, vI col, vI ld]) (Nat.le_of_ble_eq_true rfl) rfl ?_
  obtain ⟨b, hb⟩ : ∃ y9, M k1 = y9 := ⟨_, rfl⟩
  obtain ⟨i, hi⟩ : ∃ y9, M (k1 + 1) = y9 := ⟨_, rfl⟩
  obtain ⟨a, ha⟩ : ∃ y9, M (k1 + 2) = y9 := ⟨_, rfl⟩
  obtain ⟨w, hw⟩ : ∃ y9, M (k1 + 3) = y9 := ⟨_, rfl⟩
  unfold InkR at h
  rw [hb, hi, ha, hw] at h
  have hh := h
  obtain ⟨⟨e3, e4, e5⟩, e6⟩ := h
  obtain ⟨e7, e8, e9⟩ := e6 s hs.1 hs.2
  obtain ⟨hI1, hI2, hI3, hI4, hI5, hI6⟩ := hI
  obtain ⟨hJ1, hJ2, hJ3, hJ4⟩ := hI1 s hs.1 hs.2
  refine WP.blk 1 ?_
  show WP 1 24 1 [vR k1, vI s, vI col, vI ld] [vI s] (M, S) Q
  refine WP.cl (a := [vI s]) (rest := []) rfl rfl rfl rfl trivial (by decide) (k_isNumber  (fun b_1 hb_1 => ⟨rfl, ?_⟩))
  show WP 1 24 4 [vR k1, vI s, vI col, vI ld] [vI b_1] (M, S) Q
  refine WP.blk 1 ?_
  show WP 1 24 (if cnd .ne b_1 0 = true then 8 else 7) [vR k1, vI s, vI col, vI ld] [] (M, S) Q
  refine br_ne (fun c_2 => ?_) (fun c_2 => ?_)
  · have p_1 := (hb_1.resolve_right (fun h => by omega)).2
    refine WP.blk 2 ?_
    show (sT S k1 = 4 ∧ sR S k1 0 ≠ 0) ∧ WP 1 24 12 [vR k1, vI s, vI col, vI ld] [vR (sR S k1 0)] (M, S) Q
    refine ⟨⟨hS.1, by rw [(show sR S k1 0 = k1 + 1 from hS.2.1)]; omega⟩, ?_⟩
    rw [(show sR S k1 0 = k1 + 1 from hS.2.1)]
    refine WP.blk 4 ?_
    show ((sT S (k1 + 1) = 11 ∨ sT S (k1 + 1) = 16 ∨ sT S (k1 + 1) = 17) ∧ 0 ≤ s ∧ s < (sN S (k1 + 1) : Int)) ∧ WP 1 24 (if cnd .eq (M (k1 + 1) s) col = true then 38 else 18) [vR k1, vI s, vI col, vI ld] [] (M, S) Q
    rw [hi]
    refine ⟨⟨Or.inl hS.2.2.2.2.1, by omega, by rw [(show sN S (k1 + 1) = 10 from hS.2.2.2.2.2.1)]; omega⟩, ?_⟩
    refine br_eq (fun c_3 => ?_) (fun c_3 => ?_)
    · refine WP.blk 2 ?_
      show (sT S k1 = 4 ∧ sR S k1 0 ≠ 0) ∧ WP 1 24 42 [vR k1, vI s, vI col, vI ld] [vR (sR S k1 0)] (M, S) Q
      refine ⟨⟨hS.1, by rw [(show sR S k1 0 = k1 + 1 from hS.2.1)]; omega⟩, ?_⟩
      rw [(show sR S k1 0 = k1 + 1 from hS.2.1)]
      refine WP.blk 4 ?_
      show ((sT S (k1 + 1) = 11 ∨ sT S (k1 + 1) = 16 ∨ sT S (k1 + 1) = 17) ∧ 0 ≤ s ∧ s < (sN S (k1 + 1) : Int)) ∧ WP 1 24 (if cnd .ne (M (k1 + 1) s) col = true then 57 else 48) [vR k1, vI s, vI col, vI ld] [] (M, S) Q
      rw [hi]
      refine ⟨⟨Or.inl hS.2.2.2.2.1, by omega, by rw [(show sN S (k1 + 1) = 10 from hS.2.2.2.2.2.1)]; omega⟩, ?_⟩
      refine br_ne (fun c_4 => ?_) (fun c_4 => ?_)
      · refine WP.blk 6 ?_
        show sT S k1 = 4 ∧ ir ((M k1 4) + 1) ∧ sT S k1 = 4 ∧ WP 1 24 67 [vR k1, vI s, vI col, vI ld] [] (up M k1 4 ((M k1 4) + 1), S) Q
        rw [hb]
        refine ⟨hS.1, (by unfold ir; omega), hS.1, ?_⟩
        generalize hM_5 : up M k1 4 ((b 4) + 1) = M_5
        obtain ⟨g_7, hg_7⟩ : ∃ y9, y9 = uf b 4 ((b 4) + 1) := ⟨_, rfl⟩
        have r_6 : M_5 k1 = g_7 := by rw [← hM_5, hg_7, up_self, hb]
        have t_8 : g_7 3 = b 3 := by rw [hg_7]; exact uf_ne (by omega)
        have t_9 : g_7 4 = (b 4) + 1 := by rw [hg_7]; exact uf_at _ _ (by omega)
        have t_10 : g_7 5 = b 5 := by rw [hg_7]; exact uf_ne (by omega)
        have r_11 : M_5 (k1 + 1) = i := by rw [← hM_5]; exact (up_row (by omega)).trans hi
        have r_12 : M_5 (k1 + 2) = a := by rw [← hM_5]; exact (up_row (by omega)).trans ha
        have r_13 : M_5 (k1 + 3) = w := by rw [← hM_5]; exact (up_row (by omega)).trans hw
        have fr_14 : (∀ q9, (q9 < k1 ∨ k1 + 4 ≤ q9) → M_5 q9 = M q9) := fun q9 q0 => by rw [← hM_5]; exact (up_row (by omega)).trans ((fun _ _ => rfl) q9 q0)
        refine WP.blk 2 ?_
        show (sT S k1 = 4 ∧ sR S k1 0 ≠ 0) ∧ WP 1 24 71 [vR k1, vI s, vI col, vI ld] [vR (sR S k1 0)] (M_5, S) Q
        refine ⟨⟨hS.1, by rw [(show sR S k1 0 = k1 + 1 from hS.2.1)]; omega⟩, ?_⟩
        rw [(show sR S k1 0 = k1 + 1 from hS.2.1)]
        refine WP.blk 3 ?_
        show (sT S (k1 + 1) = 11 ∧ 0 ≤ s ∧ s < (sN S (k1 + 1) : Int)) ∧ WP 1 24 74 [vR k1, vI s, vI col, vI ld] [] (up M_5 (k1 + 1) s col, S) Q
        refine ⟨⟨hS.2.2.2.2.1, by omega, by rw [(show sN S (k1 + 1) = 10 from hS.2.2.2.2.2.1)]; omega⟩, ?_⟩
        generalize hM_15 : up M_5 (k1 + 1) s col = M_15
        have r_16 : M_15 k1 = g_7 := by rw [← hM_15]; exact (up_row (by omega)).trans r_6
        obtain ⟨g_18, hg_18⟩ : ∃ y9, y9 = uf i s col := ⟨_, rfl⟩
        have r_17 : M_15 (k1 + 1) = g_18 := by rw [← hM_15, hg_18, up_self, r_11]
        have t_19 : g_18 s = col := by rw [hg_18]; exact uf_at _ _ (by omega)
        have r_20 : M_15 (k1 + 2) = a := by rw [← hM_15]; exact (up_row (by omega)).trans r_12
        have r_21 : M_15 (k1 + 3) = w := by rw [← hM_15]; exact (up_row (by omega)).trans r_13
        have fr_22 : (∀ q9, (q9 < k1 ∨ k1 + 4 ≤ q9) → M_15 q9 = M q9) := fun q9 q0 => by rw [← hM_15]; exact (up_row (by omega)).trans (fr_14 q9 q0)
        refine WP.blk 2 ?_
        show (sT S k1 = 4 ∧ sR S k1 1 ≠ 0) ∧ WP 1 24 78 [vR k1, vI s, vI col, vI ld] [vR (sR S k1 1)] (M_15, S) Q
        refine ⟨⟨hS.1, by rw [(show sR S k1 1 = k1 + 2 from hS.2.2.1)]; omega⟩, ?_⟩
        rw [(show sR S k1 1 = k1 + 2 from hS.2.2.1)]
        refine WP.blk 3 ?_
        show (sT S (k1 + 2) = 11 ∧ 0 ≤ s ∧ s < (sN S (k1 + 2) : Int)) ∧ WP 1 24 81 [vR k1, vI s, vI col, vI ld] [] (up M_15 (k1 + 2) s ld, S) Q
        refine ⟨⟨hS.2.2.2.2.2.2.1, by omega, by rw [(show sN S (k1 + 2) = 10 from hS.2.2.2.2.2.2.2.1)]; omega⟩, ?_⟩
        generalize hM_23 : up M_15 (k1 + 2) s ld = M_23
        have r_24 : M_23 k1 = g_7 := by rw [← hM_23]; exact (up_row (by omega)).trans r_16
        have r_25 : M_23 (k1 + 1) = g_18 := by rw [← hM_23]; exact (up_row (by omega)).trans r_17
        obtain ⟨g_27, hg_27⟩ : ∃ y9, y9 = uf a s ld := ⟨_, rfl⟩
        have r_26 : M_23 (k1 + 2) = g_27 := by rw [← hM_23, hg_27, up_self, r_20]
        have t_28 : g_27 s = ld := by rw [hg_27]; exact uf_at _ _ (by omega)
        have r_29 : M_23 (k1 + 3) = w := by rw [← hM_23]; exact (up_row (by omega)).trans r_21
        have fr_30 : (∀ q9, (q9 < k1 ∨ k1 + 4 ≤ q9) → M_23 q9 = M q9) := fun q9 q0 => by rw [← hM_23]; exact (up_row (by omega)).trans (fr_22 q9 q0)
        refine WP.blk 2 ?_
        show (sT S k1 = 4 ∧ sR S k1 1 ≠ 0) ∧ WP 1 24 85 [vR k1, vI s, vI col, vI ld] [vR (sR S k1 1)] (M_23, S) Q
        refine ⟨⟨hS.1, by rw [(show sR S k1 1 = k1 + 2 from hS.2.2.1)]; omega⟩, ?_⟩
        rw [(show sR S k1 1 = k1 + 2 from hS.2.2.1)]
        refine WP.blk 6 ?_
        show ((sT S (k1 + 2) = 11 ∨ sT S (k1 + 2) = 16 ∨ sT S (k1 + 2) = 17) ∧ 0 ≤ s ∧ s < (sN S (k1 + 2) : Int)) ∧ ir ((M_23 (k1 + 2) s) - 1) ∧ (sT S (k1 + 2) = 11 ∧ 0 ≤ s ∧ s < (sN S (k1 + 2) : Int)) ∧ WP 1 24 91 [vR k1, vI s, vI col, vI ld] [] (up M_23 (k1 + 2) s ((M_23 (k1 + 2) s) - 1), S) Q
        rw [r_26]
        refine ⟨⟨Or.inl hS.2.2.2.2.2.2.1, by omega, by rw [(show sN S (k1 + 2) = 10 from hS.2.2.2.2.2.2.2.1)]; omega⟩, (by unfold ir; omega), ⟨hS.2.2.2.2.2.2.1, by omega, by rw [(show sN S (k1 + 2) = 10 from hS.2.2.2.2.2.2.2.1)]; omega⟩, ?_⟩
        generalize hM_31 : up M_23 (k1 + 2) s ((g_27 s) - 1) = M_31
        have r_32 : M_31 k1 = g_7 := by rw [← hM_31]; exact (up_row (by omega)).trans r_24
        have r_33 : M_31 (k1 + 1) = g_18 := by rw [← hM_31]; exact (up_row (by omega)).trans r_25
        obtain ⟨g_35, hg_35⟩ : ∃ y9, y9 = uf g_27 s ((g_27 s) - 1) := ⟨_, rfl⟩
        have r_34 : M_31 (k1 + 2) = g_35 := by rw [← hM_31, hg_35, up_self, r_26]
        have t_36 : g_35 s = (g_27 s) - 1 := by rw [hg_35]; exact uf_at _ _ (by omega)
        have r_37 : M_31 (k1 + 3) = w := by rw [← hM_31]; exact (up_row (by omega)).trans r_29
        have fr_38 : (∀ q9, (q9 < k1 ∨ k1 + 4 ≤ q9) → M_31 q9 = M q9) := fun q9 q0 => by rw [← hM_31]; exact (up_row (by omega)).trans (fr_30 q9 q0)
        refine WP.blk 2 ?_
        show (sT S k1 = 4 ∧ sR S k1 2 ≠ 0) ∧ WP 1 24 95 [vR k1, vI s, vI col, vI ld] [vR (sR S k1 2)] (M_31, S) Q
        refine ⟨⟨hS.1, by rw [(show sR S k1 2 = k1 + 3 from hS.2.2.2.1)]; omega⟩, ?_⟩
        rw [(show sR S k1 2 = k1 + 3 from hS.2.2.2.1)]
        refine WP.blk 6 ?_
        show ((sT S (k1 + 3) = 11 ∨ sT S (k1 + 3) = 16 ∨ sT S (k1 + 3) = 17) ∧ 0 ≤ s ∧ s < (sN S (k1 + 3) : Int)) ∧ ir ((M_31 (k1 + 3) s) + 1) ∧ (sT S (k1 + 3) = 11 ∧ 0 ≤ s ∧ s < (sN S (k1 + 3) : Int)) ∧ WP 1 24 101 [vR k1, vI s, vI col, vI ld] [] (up M_31 (k1 + 3) s ((M_31 (k1 + 3) s) + 1), S) Q
        rw [r_37]
        refine ⟨⟨Or.inl hS.2.2.2.2.2.2.2.2.1, by omega, by rw [(show sN S (k1 + 3) = 10 from hS.2.2.2.2.2.2.2.2.2)]; omega⟩, (by unfold ir; omega), ⟨hS.2.2.2.2.2.2.2.2.1, by omega, by rw [(show sN S (k1 + 3) = 10 from hS.2.2.2.2.2.2.2.2.2)]; omega⟩, ?_⟩
        generalize hM_39 : up M_31 (k1 + 3) s ((w s) + 1) = M_39
        have r_40 : M_39 k1 = g_7 := by rw [← hM_39]; exact (up_row (by omega)).trans r_32
        have r_41 : M_39 (k1 + 1) = g_18 := by rw [← hM_39]; exact (up_row (by omega)).trans r_33
        have r_42 : M_39 (k1 + 2) = g_35 := by rw [← hM_39]; exact (up_row (by omega)).trans r_34
        obtain ⟨g_44, hg_44⟩ : ∃ y9, y9 = uf w s ((w s) + 1) := ⟨_, rfl⟩
        have r_43 : M_39 (k1 + 3) = g_44 := by rw [← hM_39, hg_44, up_self, r_37]
        have t_45 : g_44 s = (w s) + 1 := by rw [hg_44]; exact uf_at _ _ (by omega)
        have fr_46 : (∀ q9, (q9 < k1 ∨ k1 + 4 ≤ q9) → M_39 q9 = M q9) := fun q9 q0 => by rw [← hM_39]; exact (up_row (by omega)).trans (fr_38 q9 q0)
        refine WP.blk 6 ?_
        show sT S k1 = 4 ∧ ir ((M_39 k1 3) + 1) ∧ sT S k1 = 4 ∧ WP 1 24 111 [vR k1, vI s, vI col, vI ld] [] (up M_39 k1 3 ((M_39 k1 3) + 1), S) Q
        rw [r_40]
        refine ⟨hS.1, (by unfold ir; omega), hS.1, ?_⟩
        generalize hM_47 : up M_39 k1 3 ((g_7 3) + 1) = M_47
        obtain ⟨g_49, hg_49⟩ : ∃ y9, y9 = uf g_7 3 ((g_7 3) + 1) := ⟨_, rfl⟩
        have r_48 : M_47 k1 = g_49 := by rw [← hM_47, hg_49, up_self, r_40]
        have t_50 : g_49 3 = (g_7 3) + 1 := by rw [hg_49]; exact uf_at _ _ (by omega)
        have t_51 : g_49 4 = g_7 4 := by rw [hg_49]; exact uf_ne (by omega)
        have t_52 : g_49 5 = g_7 5 := by rw [hg_49]; exact uf_ne (by omega)
        have r_53 : M_47 (k1 + 1) = g_18 := by rw [← hM_47]; exact (up_row (by omega)).trans r_41
        have r_54 : M_47 (k1 + 2) = g_35 := by rw [← hM_47]; exact (up_row (by omega)).trans r_42
        have r_55 : M_47 (k1 + 3) = g_44 := by rw [← hM_47]; exact (up_row (by omega)).trans r_43
        have fr_56 : (∀ q9, (q9 < k1 ∨ k1 + 4 ≤ q9) → M_47 q9 = M q9) := fun q9 q0 => by rw [← hM_47]; exact (up_row (by omega)).trans (fr_46 q9 q0)
        exact WP.ret rfl rfl rfl trivial (k _ fr_56 (by unfold InkR; rw [r_48, r_53, r_54, r_55]; exact inkF_prs hh hs hld (by omega) (by split <;> omega) (by split <;> omega) (fun q => by by_cases e : q = s; (rw [e, if_pos rfl]; first | omega | (split <;> omega)); (rw [if_neg e, hg_18, uf_ne e])) (fun q => by by_cases e : q = s; (rw [e, if_pos rfl]; first | omega | (split <;> omega)); (rw [if_neg e, hg_35, uf_ne e, hg_27, uf_ne e])) (fun q => by by_cases e : q = s; (rw [e, if_pos rfl]; first | omega | (split <;> omega)); (rw [if_neg e, hg_44, uf_ne e]))))
      · refine WP.blk 2 ?_
        show (sT S k1 = 4 ∧ sR S k1 1 ≠ 0) ∧ WP 1 24 52 [vR k1, vI s, vI col, vI ld] [vR (sR S k1 1)] (M, S) Q
        refine ⟨⟨hS.1, by rw [(show sR S k1 1 = k1 + 2 from hS.2.2.1)]; omega⟩, ?_⟩
        rw [(show sR S k1 1 = k1 + 2 from hS.2.2.1)]
        refine WP.blk 3 ?_
        show ((sT S (k1 + 2) = 11 ∨ sT S (k1 + 2) = 16 ∨ sT S (k1 + 2) = 17) ∧ 0 ≤ s ∧ s < (sN S (k1 + 2) : Int)) ∧ WP 1 24 (if cnd .ne (M (k1 + 2) s) 0 = true then 81 else 57) [vR k1, vI s, vI col, vI ld] [] (M, S) Q
        rw [ha]
        refine ⟨⟨Or.inl hS.2.2.2.2.2.2.1, by omega, by rw [(show sN S (k1 + 2) = 10 from hS.2.2.2.2.2.2.2.1)]; omega⟩, ?_⟩
        refine br_ne (fun c_57 => ?_) (fun c_57 => ?_)
        · refine WP.blk 2 ?_
          show (sT S k1 = 4 ∧ sR S k1 1 ≠ 0) ∧ WP 1 24 85 [vR k1, vI s, vI col, vI ld] [vR (sR S k1 1)] (M, S) Q
          refine ⟨⟨hS.1, by rw [(show sR S k1 1 = k1 + 2 from hS.2.2.1)]; omega⟩, ?_⟩
          rw [(show sR S k1 1 = k1 + 2 from hS.2.2.1)]
          refine WP.blk 6 ?_
          show ((sT S (k1 + 2) = 11 ∨ sT S (k1 + 2) = 16 ∨ sT S (k1 + 2) = 17) ∧ 0 ≤ s ∧ s < (sN S (k1 + 2) : Int)) ∧ ir ((M (k1 + 2) s) - 1) ∧ (sT S (k1 + 2) = 11 ∧ 0 ≤ s ∧ s < (sN S (k1 + 2) : Int)) ∧ WP 1 24 91 [vR k1, vI s, vI col, vI ld] [] (up M (k1 + 2) s ((M (k1 + 2) s) - 1), S) Q
          rw [ha]
          refine ⟨⟨Or.inl hS.2.2.2.2.2.2.1, by omega, by rw [(show sN S (k1 + 2) = 10 from hS.2.2.2.2.2.2.2.1)]; omega⟩, (by unfold ir; omega), ⟨hS.2.2.2.2.2.2.1, by omega, by rw [(show sN S (k1 + 2) = 10 from hS.2.2.2.2.2.2.2.1)]; omega⟩, ?_⟩
          generalize hM_58 : up M (k1 + 2) s ((a s) - 1) = M_58
          have r_59 : M_58 k1 = b := by rw [← hM_58]; exact (up_row (by omega)).trans hb
          have r_60 : M_58 (k1 + 1) = i := by rw [← hM_58]; exact (up_row (by omega)).trans hi
          obtain ⟨g_62, hg_62⟩ : ∃ y9, y9 = uf a s ((a s) - 1) := ⟨_, rfl⟩
          have r_61 : M_58 (k1 + 2) = g_62 := by rw [← hM_58, hg_62, up_self, ha]
          have t_63 : g_62 s = (a s) - 1 := by rw [hg_62]; exact uf_at _ _ (by omega)
          have r_64 : M_58 (k1 + 3) = w := by rw [← hM_58]; exact (up_row (by omega)).trans hw
          have fr_65 : (∀ q9, (q9 < k1 ∨ k1 + 4 ≤ q9) → M_58 q9 = M q9) := fun q9 q0 => by rw [← hM_58]; exact (up_row (by omega)).trans ((fun _ _ => rfl) q9 q0)
          refine WP.blk 2 ?_
          show (sT S k1 = 4 ∧ sR S k1 2 ≠ 0) ∧ WP 1 24 95 [vR k1, vI s, vI col, vI ld] [vR (sR S k1 2)] (M_58, S) Q
          refine ⟨⟨hS.1, by rw [(show sR S k1 2 = k1 + 3 from hS.2.2.2.1)]; omega⟩, ?_⟩
          rw [(show sR S k1 2 = k1 + 3 from hS.2.2.2.1)]
          refine WP.blk 6 ?_
          show ((sT S (k1 + 3) = 11 ∨ sT S (k1 + 3) = 16 ∨ sT S (k1 + 3) = 17) ∧ 0 ≤ s ∧ s < (sN S (k1 + 3) : Int)) ∧ ir ((M_58 (k1 + 3) s) + 1) ∧ (sT S (k1 + 3) = 11 ∧ 0 ≤ s ∧ s < (sN S (k1 + 3) : Int)) ∧ WP 1 24 101 [vR k1, vI s, vI col, vI ld] [] (up M_58 (k1 + 3) s ((M_58 (k1 + 3) s) + 1), S) Q
          rw [r_64]
          refine ⟨⟨Or.inl hS.2.2.2.2.2.2.2.2.1, by omega, by rw [(show sN S (k1 + 3) = 10 from hS.2.2.2.2.2.2.2.2.2)]; omega⟩, (by unfold ir; omega), ⟨hS.2.2.2.2.2.2.2.2.1, by omega, by rw [(show sN S (k1 + 3) = 10 from hS.2.2.2.2.2.2.2.2.2)]; omega⟩, ?_⟩
          generalize hM_66 : up M_58 (k1 + 3) s ((w s) + 1) = M_66
          have r_67 : M_66 k1 = b := by rw [← hM_66]; exact (up_row (by omega)).trans r_59
          have r_68 : M_66 (k1 + 1) = i := by rw [← hM_66]; exact (up_row (by omega)).trans r_60
          have r_69 : M_66 (k1 + 2) = g_62 := by rw [← hM_66]; exact (up_row (by omega)).trans r_61
          obtain ⟨g_71, hg_71⟩ : ∃ y9, y9 = uf w s ((w s) + 1) := ⟨_, rfl⟩
          have r_70 : M_66 (k1 + 3) = g_71 := by rw [← hM_66, hg_71, up_self, r_64]
          have t_72 : g_71 s = (w s) + 1 := by rw [hg_71]; exact uf_at _ _ (by omega)
          have fr_73 : (∀ q9, (q9 < k1 ∨ k1 + 4 ≤ q9) → M_66 q9 = M q9) := fun q9 q0 => by rw [← hM_66]; exact (up_row (by omega)).trans (fr_65 q9 q0)
          refine WP.blk 6 ?_
          show sT S k1 = 4 ∧ ir ((M_66 k1 3) + 1) ∧ sT S k1 = 4 ∧ WP 1 24 111 [vR k1, vI s, vI col, vI ld] [] (up M_66 k1 3 ((M_66 k1 3) + 1), S) Q
          rw [r_67]
          refine ⟨hS.1, (by unfold ir; omega), hS.1, ?_⟩
          generalize hM_74 : up M_66 k1 3 ((b 3) + 1) = M_74
          obtain ⟨g_76, hg_76⟩ : ∃ y9, y9 = uf b 3 ((b 3) + 1) := ⟨_, rfl⟩
          have r_75 : M_74 k1 = g_76 := by rw [← hM_74, hg_76, up_self, r_67]
          have t_77 : g_76 3 = (b 3) + 1 := by rw [hg_76]; exact uf_at _ _ (by omega)
          have t_78 : g_76 4 = b 4 := by rw [hg_76]; exact uf_ne (by omega)
          have t_79 : g_76 5 = b 5 := by rw [hg_76]; exact uf_ne (by omega)
          have r_80 : M_74 (k1 + 1) = i := by rw [← hM_74]; exact (up_row (by omega)).trans r_68
          have r_81 : M_74 (k1 + 2) = g_62 := by rw [← hM_74]; exact (up_row (by omega)).trans r_69
          have r_82 : M_74 (k1 + 3) = g_71 := by rw [← hM_74]; exact (up_row (by omega)).trans r_70
          have fr_83 : (∀ q9, (q9 < k1 ∨ k1 + 4 ≤ q9) → M_74 q9 = M q9) := fun q9 q0 => by rw [← hM_74]; exact (up_row (by omega)).trans (fr_73 q9 q0)
          exact WP.ret rfl rfl rfl trivial (k _ fr_83 (by unfold InkR; rw [r_75, r_80, r_81, r_82]; exact inkF_prs hh hs hld (by omega) (by split <;> omega) (by split <;> omega) (fun q => by by_cases e : q = s; (rw [e, if_pos rfl]; first | omega | (split <;> omega)); (rw [if_neg e])) (fun q => by by_cases e : q = s; (rw [e, if_pos rfl]; first | omega | (split <;> omega)); (rw [if_neg e, hg_62, uf_ne e])) (fun q => by by_cases e : q = s; (rw [e, if_pos rfl]; first | omega | (split <;> omega)); (rw [if_neg e, hg_71, uf_ne e]))))
        · refine WP.blk 6 ?_
          show sT S k1 = 4 ∧ ir ((M k1 4) + 1) ∧ sT S k1 = 4 ∧ WP 1 24 67 [vR k1, vI s, vI col, vI ld] [] (up M k1 4 ((M k1 4) + 1), S) Q
          rw [hb]
          refine ⟨hS.1, (by unfold ir; omega), hS.1, ?_⟩
          generalize hM_84 : up M k1 4 ((b 4) + 1) = M_84
          obtain ⟨g_86, hg_86⟩ : ∃ y9, y9 = uf b 4 ((b 4) + 1) := ⟨_, rfl⟩
          have r_85 : M_84 k1 = g_86 := by rw [← hM_84, hg_86, up_self, hb]
          have t_87 : g_86 3 = b 3 := by rw [hg_86]; exact uf_ne (by omega)
          have t_88 : g_86 4 = (b 4) + 1 := by rw [hg_86]; exact uf_at _ _ (by omega)
          have t_89 : g_86 5 = b 5 := by rw [hg_86]; exact uf_ne (by omega)
          have r_90 : M_84 (k1 + 1) = i := by rw [← hM_84]; exact (up_row (by omega)).trans hi
          have r_91 : M_84 (k1 + 2) = a := by rw [← hM_84]; exact (up_row (by omega)).trans ha
          have r_92 : M_84 (k1 + 3) = w := by rw [← hM_84]; exact (up_row (by omega)).trans hw
          have fr_93 : (∀ q9, (q9 < k1 ∨ k1 + 4 ≤ q9) → M_84 q9 = M q9) := fun q9 q0 => by rw [← hM_84]; exact (up_row (by omega)).trans ((fun _ _ => rfl) q9 q0)
          refine WP.blk 2 ?_
          show (sT S k1 = 4 ∧ sR S k1 0 ≠ 0) ∧ WP 1 24 71 [vR k1, vI s, vI col, vI ld] [vR (sR S k1 0)] (M_84, S) Q
          refine ⟨⟨hS.1, by rw [(show sR S k1 0 = k1 + 1 from hS.2.1)]; omega⟩, ?_⟩
          rw [(show sR S k1 0 = k1 + 1 from hS.2.1)]
          refine WP.blk 3 ?_
          show (sT S (k1 + 1) = 11 ∧ 0 ≤ s ∧ s < (sN S (k1 + 1) : Int)) ∧ WP 1 24 74 [vR k1, vI s, vI col, vI ld] [] (up M_84 (k1 + 1) s col, S) Q
          refine ⟨⟨hS.2.2.2.2.1, by omega, by rw [(show sN S (k1 + 1) = 10 from hS.2.2.2.2.2.1)]; omega⟩, ?_⟩
          generalize hM_94 : up M_84 (k1 + 1) s col = M_94
          have r_95 : M_94 k1 = g_86 := by rw [← hM_94]; exact (up_row (by omega)).trans r_85
          obtain ⟨g_97, hg_97⟩ : ∃ y9, y9 = uf i s col := ⟨_, rfl⟩
          have r_96 : M_94 (k1 + 1) = g_97 := by rw [← hM_94, hg_97, up_self, r_90]
          have t_98 : g_97 s = col := by rw [hg_97]; exact uf_at _ _ (by omega)
          have r_99 : M_94 (k1 + 2) = a := by rw [← hM_94]; exact (up_row (by omega)).trans r_91
          have r_100 : M_94 (k1 + 3) = w := by rw [← hM_94]; exact (up_row (by omega)).trans r_92
          have fr_101 : (∀ q9, (q9 < k1 ∨ k1 + 4 ≤ q9) → M_94 q9 = M q9) := fun q9 q0 => by rw [← hM_94]; exact (up_row (by omega)).trans (fr_93 q9 q0)
          refine WP.blk 2 ?_
          show (sT S k1 = 4 ∧ sR S k1 1 ≠ 0) ∧ WP 1 24 78 [vR k1, vI s, vI col, vI ld] [vR (sR S k1 1)] (M_94, S) Q
          refine ⟨⟨hS.1, by rw [(show sR S k1 1 = k1 + 2 from hS.2.2.1)]; omega⟩, ?_⟩
          rw [(show sR S k1 1 = k1 + 2 from hS.2.2.1)]
          refine WP.blk 3 ?_
          show (sT S (k1 + 2) = 11 ∧ 0 ≤ s ∧ s < (sN S (k1 + 2) : Int)) ∧ WP 1 24 81 [vR k1, vI s, vI col, vI ld] [] (up M_94 (k1 + 2) s ld, S) Q
          refine ⟨⟨hS.2.2.2.2.2.2.1, by omega, by rw [(show sN S (k1 + 2) = 10 from hS.2.2.2.2.2.2.2.1)]; omega⟩, ?_⟩
          generalize hM_102 : up M_94 (k1 + 2) s ld = M_102
          have r_103 : M_102 k1 = g_86 := by rw [← hM_102]; exact (up_row (by omega)).trans r_95
          have r_104 : M_102 (k1 + 1) = g_97 := by rw [← hM_102]; exact (up_row (by omega)).trans r_96
          obtain ⟨g_106, hg_106⟩ : ∃ y9, y9 = uf a s ld := ⟨_, rfl⟩
          have r_105 : M_102 (k1 + 2) = g_106 := by rw [← hM_102, hg_106, up_self, r_99]
          have t_107 : g_106 s = ld := by rw [hg_106]; exact uf_at _ _ (by omega)
          have r_108 : M_102 (k1 + 3) = w := by rw [← hM_102]; exact (up_row (by omega)).trans r_100
          have fr_109 : (∀ q9, (q9 < k1 ∨ k1 + 4 ≤ q9) → M_102 q9 = M q9) := fun q9 q0 => by rw [← hM_102]; exact (up_row (by omega)).trans (fr_101 q9 q0)
          refine WP.blk 2 ?_
          show (sT S k1 = 4 ∧ sR S k1 1 ≠ 0) ∧ WP 1 24 85 [vR k1, vI s, vI col, vI ld] [vR (sR S k1 1)] (M_102, S) Q
          refine ⟨⟨hS.1, by rw [(show sR S k1 1 = k1 + 2 from hS.2.2.1)]; omega⟩, ?_⟩
          rw [(show sR S k1 1 = k1 + 2 from hS.2.2.1)]
          refine WP.blk 6 ?_
          show ((sT S (k1 + 2) = 11 ∨ sT S (k1 + 2) = 16 ∨ sT S (k1 + 2) = 17) ∧ 0 ≤ s ∧ s < (sN S (k1 + 2) : Int)) ∧ ir ((M_102 (k1 + 2) s) - 1) ∧ (sT S (k1 + 2) = 11 ∧ 0 ≤ s ∧ s < (sN S (k1 + 2) : Int)) ∧ WP 1 24 91 [vR k1, vI s, vI col, vI ld] [] (up M_102 (k1 + 2) s ((M_102 (k1 + 2) s) - 1), S) Q
          rw [r_105]
          refine ⟨⟨Or.inl hS.2.2.2.2.2.2.1, by omega, by rw [(show sN S (k1 + 2) = 10 from hS.2.2.2.2.2.2.2.1)]; omega⟩, (by unfold ir; omega), ⟨hS.2.2.2.2.2.2.1, by omega, by rw [(show sN S (k1 + 2) = 10 from hS.2.2.2.2.2.2.2.1)]; omega⟩, ?_⟩
          generalize hM_110 : up M_102 (k1 + 2) s ((g_106 s) - 1) = M_110
          have r_111 : M_110 k1 = g_86 := by rw [← hM_110]; exact (up_row (by omega)).trans r_103
          have r_112 : M_110 (k1 + 1) = g_97 := by rw [← hM_110]; exact (up_row (by omega)).trans r_104
          obtain ⟨g_114, hg_114⟩ : ∃ y9, y9 = uf g_106 s ((g_106 s) - 1) := ⟨_, rfl⟩
          have r_113 : M_110 (k1 + 2) = g_114 := by rw [← hM_110, hg_114, up_self, r_105]
          have t_115 : g_114 s = (g_106 s) - 1 := by rw [hg_114]; exact uf_at _ _ (by omega)
          have r_116 : M_110 (k1 + 3) = w := by rw [← hM_110]; exact (up_row (by omega)).trans r_108
          have fr_117 : (∀ q9, (q9 < k1 ∨ k1 + 4 ≤ q9) → M_110 q9 = M q9) := fun q9 q0 => by rw [← hM_110]; exact (up_row (by omega)).trans (fr_109 q9 q0)
          refine WP.blk 2 ?_
          show (sT S k1 = 4 ∧ sR S k1 2 ≠ 0) ∧ WP 1 24 95 [vR k1, vI s, vI col, vI ld] [vR (sR S k1 2)] (M_110, S) Q
          refine ⟨⟨hS.1, by rw [(show sR S k1 2 = k1 + 3 from hS.2.2.2.1)]; omega⟩, ?_⟩
          rw [(show sR S k1 2 = k1 + 3 from hS.2.2.2.1)]
          refine WP.blk 6 ?_
          show ((sT S (k1 + 3) = 11 ∨ sT S (k1 + 3) = 16 ∨ sT S (k1 + 3) = 17) ∧ 0 ≤ s ∧ s < (sN S (k1 + 3) : Int)) ∧ ir ((M_110 (k1 + 3) s) + 1) ∧ (sT S (k1 + 3) = 11 ∧ 0 ≤ s ∧ s < (sN S (k1 + 3) : Int)) ∧ WP 1 24 101 [vR k1, vI s, vI col, vI ld] [] (up M_110 (k1 + 3) s ((M_110 (k1 + 3) s) + 1), S) Q
          rw [r_116]
          refine ⟨⟨Or.inl hS.2.2.2.2.2.2.2.2.1, by omega, by rw [(show sN S (k1 + 3) = 10 from hS.2.2.2.2.2.2.2.2.2)]; omega⟩, (by unfold ir; omega), ⟨hS.2.2.2.2.2.2.2.2.1, by omega, by rw [(show sN S (k1 + 3) = 10 from hS.2.2.2.2.2.2.2.2.2)]; omega⟩, ?_⟩
          generalize hM_118 : up M_110 (k1 + 3) s ((w s) + 1) = M_118
          have r_119 : M_118 k1 = g_86 := by rw [← hM_118]; exact (up_row (by omega)).trans r_111
          have r_120 : M_118 (k1 + 1) = g_97 := by rw [← hM_118]; exact (up_row (by omega)).trans r_112
          have r_121 : M_118 (k1 + 2) = g_114 := by rw [← hM_118]; exact (up_row (by omega)).trans r_113
          obtain ⟨g_123, hg_123⟩ : ∃ y9, y9 = uf w s ((w s) + 1) := ⟨_, rfl⟩
          have r_122 : M_118 (k1 + 3) = g_123 := by rw [← hM_118, hg_123, up_self, r_116]
          have t_124 : g_123 s = (w s) + 1 := by rw [hg_123]; exact uf_at _ _ (by omega)
          have fr_125 : (∀ q9, (q9 < k1 ∨ k1 + 4 ≤ q9) → M_118 q9 = M q9) := fun q9 q0 => by rw [← hM_118]; exact (up_row (by omega)).trans (fr_117 q9 q0)
          refine WP.blk 6 ?_
          show sT S k1 = 4 ∧ ir ((M_118 k1 3) + 1) ∧ sT S k1 = 4 ∧ WP 1 24 111 [vR k1, vI s, vI col, vI ld] [] (up M_118 k1 3 ((M_118 k1 3) + 1), S) Q
          rw [r_119]
          refine ⟨hS.1, (by unfold ir; omega), hS.1, ?_⟩
          generalize hM_126 : up M_118 k1 3 ((g_86 3) + 1) = M_126
          obtain ⟨g_128, hg_128⟩ : ∃ y9, y9 = uf g_86 3 ((g_86 3) + 1) := ⟨_, rfl⟩
          have r_127 : M_126 k1 = g_128 := by rw [← hM_126, hg_128, up_self, r_119]
          have t_129 : g_128 3 = (g_86 3) + 1 := by rw [hg_128]; exact uf_at _ _ (by omega)
          have t_130 : g_128 4 = g_86 4 := by rw [hg_128]; exact uf_ne (by omega)
          have t_131 : g_128 5 = g_86 5 := by rw [hg_128]; exact uf_ne (by omega)
          have r_132 : M_126 (k1 + 1) = g_97 := by rw [← hM_126]; exact (up_row (by omega)).trans r_120
          have r_133 : M_126 (k1 + 2) = g_114 := by rw [← hM_126]; exact (up_row (by omega)).trans r_121
          have r_134 : M_126 (k1 + 3) = g_123 := by rw [← hM_126]; exact (up_row (by omega)).trans r_122
          have fr_135 : (∀ q9, (q9 < k1 ∨ k1 + 4 ≤ q9) → M_126 q9 = M q9) := fun q9 q0 => by rw [← hM_126]; exact (up_row (by omega)).trans (fr_125 q9 q0)
          exact WP.ret rfl rfl rfl trivial (k _ fr_135 (by unfold InkR; rw [r_127, r_132, r_133, r_134]; exact inkF_prs hh hs hld (by omega) (by split <;> omega) (by split <;> omega) (fun q => by by_cases e : q = s; (rw [e, if_pos rfl]; first | omega | (split <;> omega)); (rw [if_neg e, hg_97, uf_ne e])) (fun q => by by_cases e : q = s; (rw [e, if_pos rfl]; first | omega | (split <;> omega)); (rw [if_neg e, hg_114, uf_ne e, hg_106, uf_ne e])) (fun q => by by_cases e : q = s; (rw [e, if_pos rfl]; first | omega | (split <;> omega)); (rw [if_neg e, hg_123, uf_ne e]))))
    · refine WP.blk 2 ?_
      show (sT S k1 = 4 ∧ sR S k1 0 ≠ 0) ∧ WP 1 24 22 [vR k1, vI s, vI col, vI ld] [vR (sR S k1 0)] (M, S) Q
      refine ⟨⟨hS.1, by rw [(show sR S k1 0 = k1 + 1 from hS.2.1)]; omega⟩, ?_⟩
      rw [(show sR S k1 0 = k1 + 1 from hS.2.1)]
      refine WP.blk 4 ?_
      show ((sT S (k1 + 1) = 11 ∨ sT S (k1 + 1) = 16 ∨ sT S (k1 + 1) = 17) ∧ 0 ≤ s ∧ s < (sN S (k1 + 1) : Int)) ∧ WP 1 24 (if cnd .eq (M (k1 + 1) s) (-1) = true then 38 else 28) [vR k1, vI s, vI col, vI ld] [] (M, S) Q
      rw [hi]
      refine ⟨⟨Or.inl hS.2.2.2.2.1, by omega, by rw [(show sN S (k1 + 1) = 10 from hS.2.2.2.2.2.1)]; omega⟩, ?_⟩
      refine br_eq (fun c_136 => ?_) (fun c_136 => ?_)
      · refine WP.blk 2 ?_
        show (sT S k1 = 4 ∧ sR S k1 0 ≠ 0) ∧ WP 1 24 42 [vR k1, vI s, vI col, vI ld] [vR (sR S k1 0)] (M, S) Q
        refine ⟨⟨hS.1, by rw [(show sR S k1 0 = k1 + 1 from hS.2.1)]; omega⟩, ?_⟩
        rw [(show sR S k1 0 = k1 + 1 from hS.2.1)]
        refine WP.blk 4 ?_
        show ((sT S (k1 + 1) = 11 ∨ sT S (k1 + 1) = 16 ∨ sT S (k1 + 1) = 17) ∧ 0 ≤ s ∧ s < (sN S (k1 + 1) : Int)) ∧ WP 1 24 (if cnd .ne (M (k1 + 1) s) col = true then 57 else 48) [vR k1, vI s, vI col, vI ld] [] (M, S) Q
        rw [hi]
        refine ⟨⟨Or.inl hS.2.2.2.2.1, by omega, by rw [(show sN S (k1 + 1) = 10 from hS.2.2.2.2.2.1)]; omega⟩, ?_⟩
        refine br_ne (fun c_137 => ?_) (fun c_137 => ?_)
        · refine WP.blk 6 ?_
          show sT S k1 = 4 ∧ ir ((M k1 4) + 1) ∧ sT S k1 = 4 ∧ WP 1 24 67 [vR k1, vI s, vI col, vI ld] [] (up M k1 4 ((M k1 4) + 1), S) Q
          rw [hb]
          refine ⟨hS.1, (by unfold ir; omega), hS.1, ?_⟩
          generalize hM_138 : up M k1 4 ((b 4) + 1) = M_138
          obtain ⟨g_140, hg_140⟩ : ∃ y9, y9 = uf b 4 ((b 4) + 1) := ⟨_, rfl⟩
          have r_139 : M_138 k1 = g_140 := by rw [← hM_138, hg_140, up_self, hb]
          have t_141 : g_140 3 = b 3 := by rw [hg_140]; exact uf_ne (by omega)
          have t_142 : g_140 4 = (b 4) + 1 := by rw [hg_140]; exact uf_at _ _ (by omega)
          have t_143 : g_140 5 = b 5 := by rw [hg_140]; exact uf_ne (by omega)
          have r_144 : M_138 (k1 + 1) = i := by rw [← hM_138]; exact (up_row (by omega)).trans hi
          have r_145 : M_138 (k1 + 2) = a := by rw [← hM_138]; exact (up_row (by omega)).trans ha
          have r_146 : M_138 (k1 + 3) = w := by rw [← hM_138]; exact (up_row (by omega)).trans hw
          have fr_147 : (∀ q9, (q9 < k1 ∨ k1 + 4 ≤ q9) → M_138 q9 = M q9) := fun q9 q0 => by rw [← hM_138]; exact (up_row (by omega)).trans ((fun _ _ => rfl) q9 q0)
          refine WP.blk 2 ?_
          show (sT S k1 = 4 ∧ sR S k1 0 ≠ 0) ∧ WP 1 24 71 [vR k1, vI s, vI col, vI ld] [vR (sR S k1 0)] (M_138, S) Q
          refine ⟨⟨hS.1, by rw [(show sR S k1 0 = k1 + 1 from hS.2.1)]; omega⟩, ?_⟩
          rw [(show sR S k1 0 = k1 + 1 from hS.2.1)]
          refine WP.blk 3 ?_
          show (sT S (k1 + 1) = 11 ∧ 0 ≤ s ∧ s < (sN S (k1 + 1) : Int)) ∧ WP 1 24 74 [vR k1, vI s, vI col, vI ld] [] (up M_138 (k1 + 1) s col, S) Q
          refine ⟨⟨hS.2.2.2.2.1, by omega, by rw [(show sN S (k1 + 1) = 10 from hS.2.2.2.2.2.1)]; omega⟩, ?_⟩
          generalize hM_148 : up M_138 (k1 + 1) s col = M_148
          have r_149 : M_148 k1 = g_140 := by rw [← hM_148]; exact (up_row (by omega)).trans r_139
          obtain ⟨g_151, hg_151⟩ : ∃ y9, y9 = uf i s col := ⟨_, rfl⟩
          have r_150 : M_148 (k1 + 1) = g_151 := by rw [← hM_148, hg_151, up_self, r_144]
          have t_152 : g_151 s = col := by rw [hg_151]; exact uf_at _ _ (by omega)
          have r_153 : M_148 (k1 + 2) = a := by rw [← hM_148]; exact (up_row (by omega)).trans r_145
          have r_154 : M_148 (k1 + 3) = w := by rw [← hM_148]; exact (up_row (by omega)).trans r_146
          have fr_155 : (∀ q9, (q9 < k1 ∨ k1 + 4 ≤ q9) → M_148 q9 = M q9) := fun q9 q0 => by rw [← hM_148]; exact (up_row (by omega)).trans (fr_147 q9 q0)
          refine WP.blk 2 ?_
          show (sT S k1 = 4 ∧ sR S k1 1 ≠ 0) ∧ WP 1 24 78 [vR k1, vI s, vI col, vI ld] [vR (sR S k1 1)] (M_148, S) Q
          refine ⟨⟨hS.1, by rw [(show sR S k1 1 = k1 + 2 from hS.2.2.1)]; omega⟩, ?_⟩
          rw [(show sR S k1 1 = k1 + 2 from hS.2.2.1)]
          refine WP.blk 3 ?_
          show (sT S (k1 + 2) = 11 ∧ 0 ≤ s ∧ s < (sN S (k1 + 2) : Int)) ∧ WP 1 24 81 [vR k1, vI s, vI col, vI ld] [] (up M_148 (k1 + 2) s ld, S) Q
          refine ⟨⟨hS.2.2.2.2.2.2.1, by omega, by rw [(show sN S (k1 + 2) = 10 from hS.2.2.2.2.2.2.2.1)]; omega⟩, ?_⟩
          generalize hM_156 : up M_148 (k1 + 2) s ld = M_156
          have r_157 : M_156 k1 = g_140 := by rw [← hM_156]; exact (up_row (by omega)).trans r_149
          have r_158 : M_156 (k1 + 1) = g_151 := by rw [← hM_156]; exact (up_row (by omega)).trans r_150
          obtain ⟨g_160, hg_160⟩ : ∃ y9, y9 = uf a s ld := ⟨_, rfl⟩
          have r_159 : M_156 (k1 + 2) = g_160 := by rw [← hM_156, hg_160, up_self, r_153]
          have t_161 : g_160 s = ld := by rw [hg_160]; exact uf_at _ _ (by omega)
          have r_162 : M_156 (k1 + 3) = w := by rw [← hM_156]; exact (up_row (by omega)).trans r_154
          have fr_163 : (∀ q9, (q9 < k1 ∨ k1 + 4 ≤ q9) → M_156 q9 = M q9) := fun q9 q0 => by rw [← hM_156]; exact (up_row (by omega)).trans (fr_155 q9 q0)
          refine WP.blk 2 ?_
          show (sT S k1 = 4 ∧ sR S k1 1 ≠ 0) ∧ WP 1 24 85 [vR k1, vI s, vI col, vI ld] [vR (sR S k1 1)] (M_156, S) Q
          refine ⟨⟨hS.1, by rw [(show sR S k1 1 = k1 + 2 from hS.2.2.1)]; omega⟩, ?_⟩
          rw [(show sR S k1 1 = k1 + 2 from hS.2.2.1)]
          refine WP.blk 6 ?_
          show ((sT S (k1 + 2) = 11 ∨ sT S (k1 + 2) = 16 ∨ sT S (k1 + 2) = 17) ∧ 0 ≤ s ∧ s < (sN S (k1 + 2) : Int)) ∧ ir ((M_156 (k1 + 2) s) - 1) ∧ (sT S (k1 + 2) = 11 ∧ 0 ≤ s ∧ s < (sN S (k1 + 2) : Int)) ∧ WP 1 24 91 [vR k1, vI s, vI col, vI ld] [] (up M_156 (k1 + 2) s ((M_156 (k1 + 2) s) - 1), S) Q
          rw [r_159]
          refine ⟨⟨Or.inl hS.2.2.2.2.2.2.1, by omega, by rw [(show sN S (k1 + 2) = 10 from hS.2.2.2.2.2.2.2.1)]; omega⟩, (by unfold ir; omega), ⟨hS.2.2.2.2.2.2.1, by omega, by rw [(show sN S (k1 + 2) = 10 from hS.2.2.2.2.2.2.2.1)]; omega⟩, ?_⟩
          generalize hM_164 : up M_156 (k1 + 2) s ((g_160 s) - 1) = M_164
          have r_165 : M_164 k1 = g_140 := by rw [← hM_164]; exact (up_row (by omega)).trans r_157
          have r_166 : M_164 (k1 + 1) = g_151 := by rw [← hM_164]; exact (up_row (by omega)).trans r_158
          obtain ⟨g_168, hg_168⟩ : ∃ y9, y9 = uf g_160 s ((g_160 s) - 1) := ⟨_, rfl⟩
          have r_167 : M_164 (k1 + 2) = g_168 := by rw [← hM_164, hg_168, up_self, r_159]
          have t_169 : g_168 s = (g_160 s) - 1 := by rw [hg_168]; exact uf_at _ _ (by omega)
          have r_170 : M_164 (k1 + 3) = w := by rw [← hM_164]; exact (up_row (by omega)).trans r_162
          have fr_171 : (∀ q9, (q9 < k1 ∨ k1 + 4 ≤ q9) → M_164 q9 = M q9) := fun q9 q0 => by rw [← hM_164]; exact (up_row (by omega)).trans (fr_163 q9 q0)
          refine WP.blk 2 ?_
          show (sT S k1 = 4 ∧ sR S k1 2 ≠ 0) ∧ WP 1 24 95 [vR k1, vI s, vI col, vI ld] [vR (sR S k1 2)] (M_164, S) Q
          refine ⟨⟨hS.1, by rw [(show sR S k1 2 = k1 + 3 from hS.2.2.2.1)]; omega⟩, ?_⟩
          rw [(show sR S k1 2 = k1 + 3 from hS.2.2.2.1)]
          refine WP.blk 6 ?_
          show ((sT S (k1 + 3) = 11 ∨ sT S (k1 + 3) = 16 ∨ sT S (k1 + 3) = 17) ∧ 0 ≤ s ∧ s < (sN S (k1 + 3) : Int)) ∧ ir ((M_164 (k1 + 3) s) + 1) ∧ (sT S (k1 + 3) = 11 ∧ 0 ≤ s ∧ s < (sN S (k1 + 3) : Int)) ∧ WP 1 24 101 [vR k1, vI s, vI col, vI ld] [] (up M_164 (k1 + 3) s ((M_164 (k1 + 3) s) + 1), S) Q
          rw [r_170]
          refine ⟨⟨Or.inl hS.2.2.2.2.2.2.2.2.1, by omega, by rw [(show sN S (k1 + 3) = 10 from hS.2.2.2.2.2.2.2.2.2)]; omega⟩, (by unfold ir; omega), ⟨hS.2.2.2.2.2.2.2.2.1, by omega, by rw [(show sN S (k1 + 3) = 10 from hS.2.2.2.2.2.2.2.2.2)]; omega⟩, ?_⟩
          generalize hM_172 : up M_164 (k1 + 3) s ((w s) + 1) = M_172
          have r_173 : M_172 k1 = g_140 := by rw [← hM_172]; exact (up_row (by omega)).trans r_165
          have r_174 : M_172 (k1 + 1) = g_151 := by rw [← hM_172]; exact (up_row (by omega)).trans r_166
          have r_175 : M_172 (k1 + 2) = g_168 := by rw [← hM_172]; exact (up_row (by omega)).trans r_167
          obtain ⟨g_177, hg_177⟩ : ∃ y9, y9 = uf w s ((w s) + 1) := ⟨_, rfl⟩
          have r_176 : M_172 (k1 + 3) = g_177 := by rw [← hM_172, hg_177, up_self, r_170]
          have t_178 : g_177 s = (w s) + 1 := by rw [hg_177]; exact uf_at _ _ (by omega)
          have fr_179 : (∀ q9, (q9 < k1 ∨ k1 + 4 ≤ q9) → M_172 q9 = M q9) := fun q9 q0 => by rw [← hM_172]; exact (up_row (by omega)).trans (fr_171 q9 q0)
          refine WP.blk 6 ?_
          show sT S k1 = 4 ∧ ir ((M_172 k1 3) + 1) ∧ sT S k1 = 4 ∧ WP 1 24 111 [vR k1, vI s, vI col, vI ld] [] (up M_172 k1 3 ((M_172 k1 3) + 1), S) Q
          rw [r_173]
          refine ⟨hS.1, (by unfold ir; omega), hS.1, ?_⟩
          generalize hM_180 : up M_172 k1 3 ((g_140 3) + 1) = M_180
          obtain ⟨g_182, hg_182⟩ : ∃ y9, y9 = uf g_140 3 ((g_140 3) + 1) := ⟨_, rfl⟩
          have r_181 : M_180 k1 = g_182 := by rw [← hM_180, hg_182, up_self, r_173]
          have t_183 : g_182 3 = (g_140 3) + 1 := by rw [hg_182]; exact uf_at _ _ (by omega)
          have t_184 : g_182 4 = g_140 4 := by rw [hg_182]; exact uf_ne (by omega)
          have t_185 : g_182 5 = g_140 5 := by rw [hg_182]; exact uf_ne (by omega)
          have r_186 : M_180 (k1 + 1) = g_151 := by rw [← hM_180]; exact (up_row (by omega)).trans r_174
          have r_187 : M_180 (k1 + 2) = g_168 := by rw [← hM_180]; exact (up_row (by omega)).trans r_175
          have r_188 : M_180 (k1 + 3) = g_177 := by rw [← hM_180]; exact (up_row (by omega)).trans r_176
          have fr_189 : (∀ q9, (q9 < k1 ∨ k1 + 4 ≤ q9) → M_180 q9 = M q9) := fun q9 q0 => by rw [← hM_180]; exact (up_row (by omega)).trans (fr_179 q9 q0)
          exact WP.ret rfl rfl rfl trivial (k _ fr_189 (by unfold InkR; rw [r_181, r_186, r_187, r_188]; exact inkF_prs hh hs hld (by omega) (by split <;> omega) (by split <;> omega) (fun q => by by_cases e : q = s; (rw [e, if_pos rfl]; first | omega | (split <;> omega)); (rw [if_neg e, hg_151, uf_ne e])) (fun q => by by_cases e : q = s; (rw [e, if_pos rfl]; first | omega | (split <;> omega)); (rw [if_neg e, hg_168, uf_ne e, hg_160, uf_ne e])) (fun q => by by_cases e : q = s; (rw [e, if_pos rfl]; first | omega | (split <;> omega)); (rw [if_neg e, hg_177, uf_ne e]))))
        · refine WP.blk 2 ?_
          show (sT S k1 = 4 ∧ sR S k1 1 ≠ 0) ∧ WP 1 24 52 [vR k1, vI s, vI col, vI ld] [vR (sR S k1 1)] (M, S) Q
          refine ⟨⟨hS.1, by rw [(show sR S k1 1 = k1 + 2 from hS.2.2.1)]; omega⟩, ?_⟩
          rw [(show sR S k1 1 = k1 + 2 from hS.2.2.1)]
          refine WP.blk 3 ?_
          show ((sT S (k1 + 2) = 11 ∨ sT S (k1 + 2) = 16 ∨ sT S (k1 + 2) = 17) ∧ 0 ≤ s ∧ s < (sN S (k1 + 2) : Int)) ∧ WP 1 24 (if cnd .ne (M (k1 + 2) s) 0 = true then 81 else 57) [vR k1, vI s, vI col, vI ld] [] (M, S) Q
          rw [ha]
          refine ⟨⟨Or.inl hS.2.2.2.2.2.2.1, by omega, by rw [(show sN S (k1 + 2) = 10 from hS.2.2.2.2.2.2.2.1)]; omega⟩, ?_⟩
          refine br_ne (fun c_190 => ?_) (fun c_190 => ?_)
          · refine WP.blk 2 ?_
            show (sT S k1 = 4 ∧ sR S k1 1 ≠ 0) ∧ WP 1 24 85 [vR k1, vI s, vI col, vI ld] [vR (sR S k1 1)] (M, S) Q
            refine ⟨⟨hS.1, by rw [(show sR S k1 1 = k1 + 2 from hS.2.2.1)]; omega⟩, ?_⟩
            rw [(show sR S k1 1 = k1 + 2 from hS.2.2.1)]
            refine WP.blk 6 ?_
            show ((sT S (k1 + 2) = 11 ∨ sT S (k1 + 2) = 16 ∨ sT S (k1 + 2) = 17) ∧ 0 ≤ s ∧ s < (sN S (k1 + 2) : Int)) ∧ ir ((M (k1 + 2) s) - 1) ∧ (sT S (k1 + 2) = 11 ∧ 0 ≤ s ∧ s < (sN S (k1 + 2) : Int)) ∧ WP 1 24 91 [vR k1, vI s, vI col, vI ld] [] (up M (k1 + 2) s ((M (k1 + 2) s) - 1), S) Q
            rw [ha]
            refine ⟨⟨Or.inl hS.2.2.2.2.2.2.1, by omega, by rw [(show sN S (k1 + 2) = 10 from hS.2.2.2.2.2.2.2.1)]; omega⟩, (by unfold ir; omega), ⟨hS.2.2.2.2.2.2.1, by omega, by rw [(show sN S (k1 + 2) = 10 from hS.2.2.2.2.2.2.2.1)]; omega⟩, ?_⟩
            generalize hM_191 : up M (k1 + 2) s ((a s) - 1) = M_191
            have r_192 : M_191 k1 = b := by rw [← hM_191]; exact (up_row (by omega)).trans hb
            have r_193 : M_191 (k1 + 1) = i := by rw [← hM_191]; exact (up_row (by omega)).trans hi
            obtain ⟨g_195, hg_195⟩ : ∃ y9, y9 = uf a s ((a s) - 1) := ⟨_, rfl⟩
            have r_194 : M_191 (k1 + 2) = g_195 := by rw [← hM_191, hg_195, up_self, ha]
            have t_196 : g_195 s = (a s) - 1 := by rw [hg_195]; exact uf_at _ _ (by omega)
            have r_197 : M_191 (k1 + 3) = w := by rw [← hM_191]; exact (up_row (by omega)).trans hw
            have fr_198 : (∀ q9, (q9 < k1 ∨ k1 + 4 ≤ q9) → M_191 q9 = M q9) := fun q9 q0 => by rw [← hM_191]; exact (up_row (by omega)).trans ((fun _ _ => rfl) q9 q0)
            refine WP.blk 2 ?_
            show (sT S k1 = 4 ∧ sR S k1 2 ≠ 0) ∧ WP 1 24 95 [vR k1, vI s, vI col, vI ld] [vR (sR S k1 2)] (M_191, S) Q
            refine ⟨⟨hS.1, by rw [(show sR S k1 2 = k1 + 3 from hS.2.2.2.1)]; omega⟩, ?_⟩
            rw [(show sR S k1 2 = k1 + 3 from hS.2.2.2.1)]
            refine WP.blk 6 ?_
            show ((sT S (k1 + 3) = 11 ∨ sT S (k1 + 3) = 16 ∨ sT S (k1 + 3) = 17) ∧ 0 ≤ s ∧ s < (sN S (k1 + 3) : Int)) ∧ ir ((M_191 (k1 + 3) s) + 1) ∧ (sT S (k1 + 3) = 11 ∧ 0 ≤ s ∧ s < (sN S (k1 + 3) : Int)) ∧ WP 1 24 101 [vR k1, vI s, vI col, vI ld] [] (up M_191 (k1 + 3) s ((M_191 (k1 + 3) s) + 1), S) Q
            rw [r_197]
            refine ⟨⟨Or.inl hS.2.2.2.2.2.2.2.2.1, by omega, by rw [(show sN S (k1 + 3) = 10 from hS.2.2.2.2.2.2.2.2.2)]; omega⟩, (by unfold ir; omega), ⟨hS.2.2.2.2.2.2.2.2.1, by omega, by rw [(show sN S (k1 + 3) = 10 from hS.2.2.2.2.2.2.2.2.2)]; omega⟩, ?_⟩
            generalize hM_199 : up M_191 (k1 + 3) s ((w s) + 1) = M_199
            have r_200 : M_199 k1 = b := by rw [← hM_199]; exact (up_row (by omega)).trans r_192
            have r_201 : M_199 (k1 + 1) = i := by rw [← hM_199]; exact (up_row (by omega)).trans r_193
            have r_202 : M_199 (k1 + 2) = g_195 := by rw [← hM_199]; exact (up_row (by omega)).trans r_194
            obtain ⟨g_204, hg_204⟩ : ∃ y9, y9 = uf w s ((w s) + 1) := ⟨_, rfl⟩
            have r_203 : M_199 (k1 + 3) = g_204 := by rw [← hM_199, hg_204, up_self, r_197]
            have t_205 : g_204 s = (w s) + 1 := by rw [hg_204]; exact uf_at _ _ (by omega)
            have fr_206 : (∀ q9, (q9 < k1 ∨ k1 + 4 ≤ q9) → M_199 q9 = M q9) := fun q9 q0 => by rw [← hM_199]; exact (up_row (by omega)).trans (fr_198 q9 q0)
            refine WP.blk 6 ?_
            show sT S k1 = 4 ∧ ir ((M_199 k1 3) + 1) ∧ sT S k1 = 4 ∧ WP 1 24 111 [vR k1, vI s, vI col, vI ld] [] (up M_199 k1 3 ((M_199 k1 3) + 1), S) Q
            rw [r_200]
            refine ⟨hS.1, (by unfold ir; omega), hS.1, ?_⟩
            generalize hM_207 : up M_199 k1 3 ((b 3) + 1) = M_207
            obtain ⟨g_209, hg_209⟩ : ∃ y9, y9 = uf b 3 ((b 3) + 1) := ⟨_, rfl⟩
            have r_208 : M_207 k1 = g_209 := by rw [← hM_207, hg_209, up_self, r_200]
            have t_210 : g_209 3 = (b 3) + 1 := by rw [hg_209]; exact uf_at _ _ (by omega)
            have t_211 : g_209 4 = b 4 := by rw [hg_209]; exact uf_ne (by omega)
            have t_212 : g_209 5 = b 5 := by rw [hg_209]; exact uf_ne (by omega)
            have r_213 : M_207 (k1 + 1) = i := by rw [← hM_207]; exact (up_row (by omega)).trans r_201
            have r_214 : M_207 (k1 + 2) = g_195 := by rw [← hM_207]; exact (up_row (by omega)).trans r_202
            have r_215 : M_207 (k1 + 3) = g_204 := by rw [← hM_207]; exact (up_row (by omega)).trans r_203
            have fr_216 : (∀ q9, (q9 < k1 ∨ k1 + 4 ≤ q9) → M_207 q9 = M q9) := fun q9 q0 => by rw [← hM_207]; exact (up_row (by omega)).trans (fr_206 q9 q0)
            exact WP.ret rfl rfl rfl trivial (k _ fr_216 (by unfold InkR; rw [r_208, r_213, r_214, r_215]; exact inkF_prs hh hs hld (by omega) (by split <;> omega) (by split <;> omega) (fun q => by by_cases e : q = s; (rw [e, if_pos rfl]; first | omega | (split <;> omega)); (rw [if_neg e])) (fun q => by by_cases e : q = s; (rw [e, if_pos rfl]; first | omega | (split <;> omega)); (rw [if_neg e, hg_195, uf_ne e])) (fun q => by by_cases e : q = s; (rw [e, if_pos rfl]; first | omega | (split <;> omega)); (rw [if_neg e, hg_204, uf_ne e]))))
          · refine WP.blk 6 ?_
            show sT S k1 = 4 ∧ ir ((M k1 4) + 1) ∧ sT S k1 = 4 ∧ WP 1 24 67 [vR k1, vI s, vI col, vI ld] [] (up M k1 4 ((M k1 4) + 1), S) Q
            rw [hb]
            refine ⟨hS.1, (by unfold ir; omega), hS.1, ?_⟩
            generalize hM_217 : up M k1 4 ((b 4) + 1) = M_217
            obtain ⟨g_219, hg_219⟩ : ∃ y9, y9 = uf b 4 ((b 4) + 1) := ⟨_, rfl⟩
            have r_218 : M_217 k1 = g_219 := by rw [← hM_217, hg_219, up_self, hb]
            have t_220 : g_219 3 = b 3 := by rw [hg_219]; exact uf_ne (by omega)
            have t_221 : g_219 4 = (b 4) + 1 := by rw [hg_219]; exact uf_at _ _ (by omega)
            have t_222 : g_219 5 = b 5 := by rw [hg_219]; exact uf_ne (by omega)
            have r_223 : M_217 (k1 + 1) = i := by rw [← hM_217]; exact (up_row (by omega)).trans hi
            have r_224 : M_217 (k1 + 2) = a := by rw [← hM_217]; exact (up_row (by omega)).trans ha
            have r_225 : M_217 (k1 + 3) = w := by rw [← hM_217]; exact (up_row (by omega)).trans hw
            have fr_226 : (∀ q9, (q9 < k1 ∨ k1 + 4 ≤ q9) → M_217 q9 = M q9) := fun q9 q0 => by rw [← hM_217]; exact (up_row (by omega)).trans ((fun _ _ => rfl) q9 q0)
            refine WP.blk 2 ?_
            show (sT S k1 = 4 ∧ sR S k1 0 ≠ 0) ∧ WP 1 24 71 [vR k1, vI s, vI col, vI ld] [vR (sR S k1 0)] (M_217, S) Q
            refine ⟨⟨hS.1, by rw [(show sR S k1 0 = k1 + 1 from hS.2.1)]; omega⟩, ?_⟩
            rw [(show sR S k1 0 = k1 + 1 from hS.2.1)]
            refine WP.blk 3 ?_
            show (sT S (k1 + 1) = 11 ∧ 0 ≤ s ∧ s < (sN S (k1 + 1) : Int)) ∧ WP 1 24 74 [vR k1, vI s, vI col, vI ld] [] (up M_217 (k1 + 1) s col, S) Q
            refine ⟨⟨hS.2.2.2.2.1, by omega, by rw [(show sN S (k1 + 1) = 10 from hS.2.2.2.2.2.1)]; omega⟩, ?_⟩
            generalize hM_227 : up M_217 (k1 + 1) s col = M_227
            have r_228 : M_227 k1 = g_219 := by rw [← hM_227]; exact (up_row (by omega)).trans r_218
            obtain ⟨g_230, hg_230⟩ : ∃ y9, y9 = uf i s col := ⟨_, rfl⟩
            have r_229 : M_227 (k1 + 1) = g_230 := by rw [← hM_227, hg_230, up_self, r_223]
            have t_231 : g_230 s = col := by rw [hg_230]; exact uf_at _ _ (by omega)
            have r_232 : M_227 (k1 + 2) = a := by rw [← hM_227]; exact (up_row (by omega)).trans r_224
            have r_233 : M_227 (k1 + 3) = w := by rw [← hM_227]; exact (up_row (by omega)).trans r_225
            have fr_234 : (∀ q9, (q9 < k1 ∨ k1 + 4 ≤ q9) → M_227 q9 = M q9) := fun q9 q0 => by rw [← hM_227]; exact (up_row (by omega)).trans (fr_226 q9 q0)
            refine WP.blk 2 ?_
            show (sT S k1 = 4 ∧ sR S k1 1 ≠ 0) ∧ WP 1 24 78 [vR k1, vI s, vI col, vI ld] [vR (sR S k1 1)] (M_227, S) Q
            refine ⟨⟨hS.1, by rw [(show sR S k1 1 = k1 + 2 from hS.2.2.1)]; omega⟩, ?_⟩
            rw [(show sR S k1 1 = k1 + 2 from hS.2.2.1)]
            refine WP.blk 3 ?_
            show (sT S (k1 + 2) = 11 ∧ 0 ≤ s ∧ s < (sN S (k1 + 2) : Int)) ∧ WP 1 24 81 [vR k1, vI s, vI col, vI ld] [] (up M_227 (k1 + 2) s ld, S) Q
            refine ⟨⟨hS.2.2.2.2.2.2.1, by omega, by rw [(show sN S (k1 + 2) = 10 from hS.2.2.2.2.2.2.2.1)]; omega⟩, ?_⟩
            generalize hM_235 : up M_227 (k1 + 2) s ld = M_235
            have r_236 : M_235 k1 = g_219 := by rw [← hM_235]; exact (up_row (by omega)).trans r_228
            have r_237 : M_235 (k1 + 1) = g_230 := by rw [← hM_235]; exact (up_row (by omega)).trans r_229
            obtain ⟨g_239, hg_239⟩ : ∃ y9, y9 = uf a s ld := ⟨_, rfl⟩
            have r_238 : M_235 (k1 + 2) = g_239 := by rw [← hM_235, hg_239, up_self, r_232]
            have t_240 : g_239 s = ld := by rw [hg_239]; exact uf_at _ _ (by omega)
            have r_241 : M_235 (k1 + 3) = w := by rw [← hM_235]; exact (up_row (by omega)).trans r_233
            have fr_242 : (∀ q9, (q9 < k1 ∨ k1 + 4 ≤ q9) → M_235 q9 = M q9) := fun q9 q0 => by rw [← hM_235]; exact (up_row (by omega)).trans (fr_234 q9 q0)
            refine WP.blk 2 ?_
            show (sT S k1 = 4 ∧ sR S k1 1 ≠ 0) ∧ WP 1 24 85 [vR k1, vI s, vI col, vI ld] [vR (sR S k1 1)] (M_235, S) Q
            refine ⟨⟨hS.1, by rw [(show sR S k1 1 = k1 + 2 from hS.2.2.1)]; omega⟩, ?_⟩
            rw [(show sR S k1 1 = k1 + 2 from hS.2.2.1)]
            refine WP.blk 6 ?_
            show ((sT S (k1 + 2) = 11 ∨ sT S (k1 + 2) = 16 ∨ sT S (k1 + 2) = 17) ∧ 0 ≤ s ∧ s < (sN S (k1 + 2) : Int)) ∧ ir ((M_235 (k1 + 2) s) - 1) ∧ (sT S (k1 + 2) = 11 ∧ 0 ≤ s ∧ s < (sN S (k1 + 2) : Int)) ∧ WP 1 24 91 [vR k1, vI s, vI col, vI ld] [] (up M_235 (k1 + 2) s ((M_235 (k1 + 2) s) - 1), S) Q
            rw [r_238]
            refine ⟨⟨Or.inl hS.2.2.2.2.2.2.1, by omega, by rw [(show sN S (k1 + 2) = 10 from hS.2.2.2.2.2.2.2.1)]; omega⟩, (by unfold ir; omega), ⟨hS.2.2.2.2.2.2.1, by omega, by rw [(show sN S (k1 + 2) = 10 from hS.2.2.2.2.2.2.2.1)]; omega⟩, ?_⟩
            generalize hM_243 : up M_235 (k1 + 2) s ((g_239 s) - 1) = M_243
            have r_244 : M_243 k1 = g_219 := by rw [← hM_243]; exact (up_row (by omega)).trans r_236
            have r_245 : M_243 (k1 + 1) = g_230 := by rw [← hM_243]; exact (up_row (by omega)).trans r_237
            obtain ⟨g_247, hg_247⟩ : ∃ y9, y9 = uf g_239 s ((g_239 s) - 1) := ⟨_, rfl⟩
            have r_246 : M_243 (k1 + 2) = g_247 := by rw [← hM_243, hg_247, up_self, r_238]
            have t_248 : g_247 s = (g_239 s) - 1 := by rw [hg_247]; exact uf_at _ _ (by omega)
            have r_249 : M_243 (k1 + 3) = w := by rw [← hM_243]; exact (up_row (by omega)).trans r_241
            have fr_250 : (∀ q9, (q9 < k1 ∨ k1 + 4 ≤ q9) → M_243 q9 = M q9) := fun q9 q0 => by rw [← hM_243]; exact (up_row (by omega)).trans (fr_242 q9 q0)
            refine WP.blk 2 ?_
            show (sT S k1 = 4 ∧ sR S k1 2 ≠ 0) ∧ WP 1 24 95 [vR k1, vI s, vI col, vI ld] [vR (sR S k1 2)] (M_243, S) Q
            refine ⟨⟨hS.1, by rw [(show sR S k1 2 = k1 + 3 from hS.2.2.2.1)]; omega⟩, ?_⟩
            rw [(show sR S k1 2 = k1 + 3 from hS.2.2.2.1)]
            refine WP.blk 6 ?_
            show ((sT S (k1 + 3) = 11 ∨ sT S (k1 + 3) = 16 ∨ sT S (k1 + 3) = 17) ∧ 0 ≤ s ∧ s < (sN S (k1 + 3) : Int)) ∧ ir ((M_243 (k1 + 3) s) + 1) ∧ (sT S (k1 + 3) = 11 ∧ 0 ≤ s ∧ s < (sN S (k1 + 3) : Int)) ∧ WP 1 24 101 [vR k1, vI s, vI col, vI ld] [] (up M_243 (k1 + 3) s ((M_243 (k1 + 3) s) + 1), S) Q
            rw [r_249]
            refine ⟨⟨Or.inl hS.2.2.2.2.2.2.2.2.1, by omega, by rw [(show sN S (k1 + 3) = 10 from hS.2.2.2.2.2.2.2.2.2)]; omega⟩, (by unfold ir; omega), ⟨hS.2.2.2.2.2.2.2.2.1, by omega, by rw [(show sN S (k1 + 3) = 10 from hS.2.2.2.2.2.2.2.2.2)]; omega⟩, ?_⟩
            generalize hM_251 : up M_243 (k1 + 3) s ((w s) + 1) = M_251
            have r_252 : M_251 k1 = g_219 := by rw [← hM_251]; exact (up_row (by omega)).trans r_244
            have r_253 : M_251 (k1 + 1) = g_230 := by rw [← hM_251]; exact (up_row (by omega)).trans r_245
            have r_254 : M_251 (k1 + 2) = g_247 := by rw [← hM_251]; exact (up_row (by omega)).trans r_246
            obtain ⟨g_256, hg_256⟩ : ∃ y9, y9 = uf w s ((w s) + 1) := ⟨_, rfl⟩
            have r_255 : M_251 (k1 + 3) = g_256 := by rw [← hM_251, hg_256, up_self, r_249]
            have t_257 : g_256 s = (w s) + 1 := by rw [hg_256]; exact uf_at _ _ (by omega)
            have fr_258 : (∀ q9, (q9 < k1 ∨ k1 + 4 ≤ q9) → M_251 q9 = M q9) := fun q9 q0 => by rw [← hM_251]; exact (up_row (by omega)).trans (fr_250 q9 q0)
            refine WP.blk 6 ?_
            show sT S k1 = 4 ∧ ir ((M_251 k1 3) + 1) ∧ sT S k1 = 4 ∧ WP 1 24 111 [vR k1, vI s, vI col, vI ld] [] (up M_251 k1 3 ((M_251 k1 3) + 1), S) Q
            rw [r_252]
            refine ⟨hS.1, (by unfold ir; omega), hS.1, ?_⟩
            generalize hM_259 : up M_251 k1 3 ((g_219 3) + 1) = M_259
            obtain ⟨g_261, hg_261⟩ : ∃ y9, y9 = uf g_219 3 ((g_219 3) + 1) := ⟨_, rfl⟩
            have r_260 : M_259 k1 = g_261 := by rw [← hM_259, hg_261, up_self, r_252]
            have t_262 : g_261 3 = (g_219 3) + 1 := by rw [hg_261]; exact uf_at _ _ (by omega)
            have t_263 : g_261 4 = g_219 4 := by rw [hg_261]; exact uf_ne (by omega)
            have t_264 : g_261 5 = g_219 5 := by rw [hg_261]; exact uf_ne (by omega)
            have r_265 : M_259 (k1 + 1) = g_230 := by rw [← hM_259]; exact (up_row (by omega)).trans r_253
            have r_266 : M_259 (k1 + 2) = g_247 := by rw [← hM_259]; exact (up_row (by omega)).trans r_254
            have r_267 : M_259 (k1 + 3) = g_256 := by rw [← hM_259]; exact (up_row (by omega)).trans r_255
            have fr_268 : (∀ q9, (q9 < k1 ∨ k1 + 4 ≤ q9) → M_259 q9 = M q9) := fun q9 q0 => by rw [← hM_259]; exact (up_row (by omega)).trans (fr_258 q9 q0)
            exact WP.ret rfl rfl rfl trivial (k _ fr_268 (by unfold InkR; rw [r_260, r_265, r_266, r_267]; exact inkF_prs hh hs hld (by omega) (by split <;> omega) (by split <;> omega) (fun q => by by_cases e : q = s; (rw [e, if_pos rfl]; first | omega | (split <;> omega)); (rw [if_neg e, hg_230, uf_ne e])) (fun q => by by_cases e : q = s; (rw [e, if_pos rfl]; first | omega | (split <;> omega)); (rw [if_neg e, hg_247, uf_ne e, hg_239, uf_ne e])) (fun q => by by_cases e : q = s; (rw [e, if_pos rfl]; first | omega | (split <;> omega)); (rw [if_neg e, hg_256, uf_ne e]))))
      · refine WP.blk 6 ?_
        show sT S k1 = 4 ∧ ir ((M k1 5) + 1) ∧ sT S k1 = 4 ∧ WP 1 24 38 [vR k1, vI s, vI col, vI ld] [] (up M k1 5 ((M k1 5) + 1), S) Q
        rw [hb]
        refine ⟨hS.1, (by unfold ir; omega), hS.1, ?_⟩
        generalize hM_269 : up M k1 5 ((b 5) + 1) = M_269
        obtain ⟨g_271, hg_271⟩ : ∃ y9, y9 = uf b 5 ((b 5) + 1) := ⟨_, rfl⟩
        have r_270 : M_269 k1 = g_271 := by rw [← hM_269, hg_271, up_self, hb]
        have t_272 : g_271 3 = b 3 := by rw [hg_271]; exact uf_ne (by omega)
        have t_273 : g_271 4 = b 4 := by rw [hg_271]; exact uf_ne (by omega)
        have t_274 : g_271 5 = (b 5) + 1 := by rw [hg_271]; exact uf_at _ _ (by omega)
        have r_275 : M_269 (k1 + 1) = i := by rw [← hM_269]; exact (up_row (by omega)).trans hi
        have r_276 : M_269 (k1 + 2) = a := by rw [← hM_269]; exact (up_row (by omega)).trans ha
        have r_277 : M_269 (k1 + 3) = w := by rw [← hM_269]; exact (up_row (by omega)).trans hw
        have fr_278 : (∀ q9, (q9 < k1 ∨ k1 + 4 ≤ q9) → M_269 q9 = M q9) := fun q9 q0 => by rw [← hM_269]; exact (up_row (by omega)).trans ((fun _ _ => rfl) q9 q0)
        refine WP.blk 2 ?_
        show (sT S k1 = 4 ∧ sR S k1 0 ≠ 0) ∧ WP 1 24 42 [vR k1, vI s, vI col, vI ld] [vR (sR S k1 0)] (M_269, S) Q
        refine ⟨⟨hS.1, by rw [(show sR S k1 0 = k1 + 1 from hS.2.1)]; omega⟩, ?_⟩
        rw [(show sR S k1 0 = k1 + 1 from hS.2.1)]
        refine WP.blk 4 ?_
        show ((sT S (k1 + 1) = 11 ∨ sT S (k1 + 1) = 16 ∨ sT S (k1 + 1) = 17) ∧ 0 ≤ s ∧ s < (sN S (k1 + 1) : Int)) ∧ WP 1 24 (if cnd .ne (M_269 (k1 + 1) s) col = true then 57 else 48) [vR k1, vI s, vI col, vI ld] [] (M_269, S) Q
        rw [r_275]
        refine ⟨⟨Or.inl hS.2.2.2.2.1, by omega, by rw [(show sN S (k1 + 1) = 10 from hS.2.2.2.2.2.1)]; omega⟩, ?_⟩
        refine br_ne (fun c_279 => ?_) (fun c_279 => ?_)
        · refine WP.blk 6 ?_
          show sT S k1 = 4 ∧ ir ((M_269 k1 4) + 1) ∧ sT S k1 = 4 ∧ WP 1 24 67 [vR k1, vI s, vI col, vI ld] [] (up M_269 k1 4 ((M_269 k1 4) + 1), S) Q
          rw [r_270]
          refine ⟨hS.1, (by unfold ir; omega), hS.1, ?_⟩
          generalize hM_280 : up M_269 k1 4 ((g_271 4) + 1) = M_280
          obtain ⟨g_282, hg_282⟩ : ∃ y9, y9 = uf g_271 4 ((g_271 4) + 1) := ⟨_, rfl⟩
          have r_281 : M_280 k1 = g_282 := by rw [← hM_280, hg_282, up_self, r_270]
          have t_283 : g_282 3 = g_271 3 := by rw [hg_282]; exact uf_ne (by omega)
          have t_284 : g_282 4 = (g_271 4) + 1 := by rw [hg_282]; exact uf_at _ _ (by omega)
          have t_285 : g_282 5 = g_271 5 := by rw [hg_282]; exact uf_ne (by omega)
          have r_286 : M_280 (k1 + 1) = i := by rw [← hM_280]; exact (up_row (by omega)).trans r_275
          have r_287 : M_280 (k1 + 2) = a := by rw [← hM_280]; exact (up_row (by omega)).trans r_276
          have r_288 : M_280 (k1 + 3) = w := by rw [← hM_280]; exact (up_row (by omega)).trans r_277
          have fr_289 : (∀ q9, (q9 < k1 ∨ k1 + 4 ≤ q9) → M_280 q9 = M q9) := fun q9 q0 => by rw [← hM_280]; exact (up_row (by omega)).trans (fr_278 q9 q0)
          refine WP.blk 2 ?_
          show (sT S k1 = 4 ∧ sR S k1 0 ≠ 0) ∧ WP 1 24 71 [vR k1, vI s, vI col, vI ld] [vR (sR S k1 0)] (M_280, S) Q
          refine ⟨⟨hS.1, by rw [(show sR S k1 0 = k1 + 1 from hS.2.1)]; omega⟩, ?_⟩
          rw [(show sR S k1 0 = k1 + 1 from hS.2.1)]
          refine WP.blk 3 ?_
          show (sT S (k1 + 1) = 11 ∧ 0 ≤ s ∧ s < (sN S (k1 + 1) : Int)) ∧ WP 1 24 74 [vR k1, vI s, vI col, vI ld] [] (up M_280 (k1 + 1) s col, S) Q
          refine ⟨⟨hS.2.2.2.2.1, by omega, by rw [(show sN S (k1 + 1) = 10 from hS.2.2.2.2.2.1)]; omega⟩, ?_⟩
          generalize hM_290 : up M_280 (k1 + 1) s col = M_290
          have r_291 : M_290 k1 = g_282 := by rw [← hM_290]; exact (up_row (by omega)).trans r_281
          obtain ⟨g_293, hg_293⟩ : ∃ y9, y9 = uf i s col := ⟨_, rfl⟩
          have r_292 : M_290 (k1 + 1) = g_293 := by rw [← hM_290, hg_293, up_self, r_286]
          have t_294 : g_293 s = col := by rw [hg_293]; exact uf_at _ _ (by omega)
          have r_295 : M_290 (k1 + 2) = a := by rw [← hM_290]; exact (up_row (by omega)).trans r_287
          have r_296 : M_290 (k1 + 3) = w := by rw [← hM_290]; exact (up_row (by omega)).trans r_288
          have fr_297 : (∀ q9, (q9 < k1 ∨ k1 + 4 ≤ q9) → M_290 q9 = M q9) := fun q9 q0 => by rw [← hM_290]; exact (up_row (by omega)).trans (fr_289 q9 q0)
          refine WP.blk 2 ?_
          show (sT S k1 = 4 ∧ sR S k1 1 ≠ 0) ∧ WP 1 24 78 [vR k1, vI s, vI col, vI ld] [vR (sR S k1 1)] (M_290, S) Q
          refine ⟨⟨hS.1, by rw [(show sR S k1 1 = k1 + 2 from hS.2.2.1)]; omega⟩, ?_⟩
          rw [(show sR S k1 1 = k1 + 2 from hS.2.2.1)]
          refine WP.blk 3 ?_
          show (sT S (k1 + 2) = 11 ∧ 0 ≤ s ∧ s < (sN S (k1 + 2) : Int)) ∧ WP 1 24 81 [vR k1, vI s, vI col, vI ld] [] (up M_290 (k1 + 2) s ld, S) Q
          refine ⟨⟨hS.2.2.2.2.2.2.1, by omega, by rw [(show sN S (k1 + 2) = 10 from hS.2.2.2.2.2.2.2.1)]; omega⟩, ?_⟩
          generalize hM_298 : up M_290 (k1 + 2) s ld = M_298
          have r_299 : M_298 k1 = g_282 := by rw [← hM_298]; exact (up_row (by omega)).trans r_291
          have r_300 : M_298 (k1 + 1) = g_293 := by rw [← hM_298]; exact (up_row (by omega)).trans r_292
          obtain ⟨g_302, hg_302⟩ : ∃ y9, y9 = uf a s ld := ⟨_, rfl⟩
          have r_301 : M_298 (k1 + 2) = g_302 := by rw [← hM_298, hg_302, up_self, r_295]
          have t_303 : g_302 s = ld := by rw [hg_302]; exact uf_at _ _ (by omega)
          have r_304 : M_298 (k1 + 3) = w := by rw [← hM_298]; exact (up_row (by omega)).trans r_296
          have fr_305 : (∀ q9, (q9 < k1 ∨ k1 + 4 ≤ q9) → M_298 q9 = M q9) := fun q9 q0 => by rw [← hM_298]; exact (up_row (by omega)).trans (fr_297 q9 q0)
          refine WP.blk 2 ?_
          show (sT S k1 = 4 ∧ sR S k1 1 ≠ 0) ∧ WP 1 24 85 [vR k1, vI s, vI col, vI ld] [vR (sR S k1 1)] (M_298, S) Q
          refine ⟨⟨hS.1, by rw [(show sR S k1 1 = k1 + 2 from hS.2.2.1)]; omega⟩, ?_⟩
          rw [(show sR S k1 1 = k1 + 2 from hS.2.2.1)]
          refine WP.blk 6 ?_
          show ((sT S (k1 + 2) = 11 ∨ sT S (k1 + 2) = 16 ∨ sT S (k1 + 2) = 17) ∧ 0 ≤ s ∧ s < (sN S (k1 + 2) : Int)) ∧ ir ((M_298 (k1 + 2) s) - 1) ∧ (sT S (k1 + 2) = 11 ∧ 0 ≤ s ∧ s < (sN S (k1 + 2) : Int)) ∧ WP 1 24 91 [vR k1, vI s, vI col, vI ld] [] (up M_298 (k1 + 2) s ((M_298 (k1 + 2) s) - 1), S) Q
          rw [r_301]
          refine ⟨⟨Or.inl hS.2.2.2.2.2.2.1, by omega, by rw [(show sN S (k1 + 2) = 10 from hS.2.2.2.2.2.2.2.1)]; omega⟩, (by unfold ir; omega), ⟨hS.2.2.2.2.2.2.1, by omega, by rw [(show sN S (k1 + 2) = 10 from hS.2.2.2.2.2.2.2.1)]; omega⟩, ?_⟩
          generalize hM_306 : up M_298 (k1 + 2) s ((g_302 s) - 1) = M_306
          have r_307 : M_306 k1 = g_282 := by rw [← hM_306]; exact (up_row (by omega)).trans r_299
          have r_308 : M_306 (k1 + 1) = g_293 := by rw [← hM_306]; exact (up_row (by omega)).trans r_300
          obtain ⟨g_310, hg_310⟩ : ∃ y9, y9 = uf g_302 s ((g_302 s) - 1) := ⟨_, rfl⟩
          have r_309 : M_306 (k1 + 2) = g_310 := by rw [← hM_306, hg_310, up_self, r_301]
          have t_311 : g_310 s = (g_302 s) - 1 := by rw [hg_310]; exact uf_at _ _ (by omega)
          have r_312 : M_306 (k1 + 3) = w := by rw [← hM_306]; exact (up_row (by omega)).trans r_304
          have fr_313 : (∀ q9, (q9 < k1 ∨ k1 + 4 ≤ q9) → M_306 q9 = M q9) := fun q9 q0 => by rw [← hM_306]; exact (up_row (by omega)).trans (fr_305 q9 q0)
          refine WP.blk 2 ?_
          show (sT S k1 = 4 ∧ sR S k1 2 ≠ 0) ∧ WP 1 24 95 [vR k1, vI s, vI col, vI ld] [vR (sR S k1 2)] (M_306, S) Q
          refine ⟨⟨hS.1, by rw [(show sR S k1 2 = k1 + 3 from hS.2.2.2.1)]; omega⟩, ?_⟩
          rw [(show sR S k1 2 = k1 + 3 from hS.2.2.2.1)]
          refine WP.blk 6 ?_
          show ((sT S (k1 + 3) = 11 ∨ sT S (k1 + 3) = 16 ∨ sT S (k1 + 3) = 17) ∧ 0 ≤ s ∧ s < (sN S (k1 + 3) : Int)) ∧ ir ((M_306 (k1 + 3) s) + 1) ∧ (sT S (k1 + 3) = 11 ∧ 0 ≤ s ∧ s < (sN S (k1 + 3) : Int)) ∧ WP 1 24 101 [vR k1, vI s, vI col, vI ld] [] (up M_306 (k1 + 3) s ((M_306 (k1 + 3) s) + 1), S) Q
          rw [r_312]
          refine ⟨⟨Or.inl hS.2.2.2.2.2.2.2.2.1, by omega, by rw [(show sN S (k1 + 3) = 10 from hS.2.2.2.2.2.2.2.2.2)]; omega⟩, (by unfold ir; omega), ⟨hS.2.2.2.2.2.2.2.2.1, by omega, by rw [(show sN S (k1 + 3) = 10 from hS.2.2.2.2.2.2.2.2.2)]; omega⟩, ?_⟩
          generalize hM_314 : up M_306 (k1 + 3) s ((w s) + 1) = M_314
          have r_315 : M_314 k1 = g_282 := by rw [← hM_314]; exact (up_row (by omega)).trans r_307
          have r_316 : M_314 (k1 + 1) = g_293 := by rw [← hM_314]; exact (up_row (by omega)).trans r_308
          have r_317 : M_314 (k1 + 2) = g_310 := by rw [← hM_314]; exact (up_row (by omega)).trans r_309
          obtain ⟨g_319, hg_319⟩ : ∃ y9, y9 = uf w s ((w s) + 1) := ⟨_, rfl⟩
          have r_318 : M_314 (k1 + 3) = g_319 := by rw [← hM_314, hg_319, up_self, r_312]
          have t_320 : g_319 s = (w s) + 1 := by rw [hg_319]; exact uf_at _ _ (by omega)
          have fr_321 : (∀ q9, (q9 < k1 ∨ k1 + 4 ≤ q9) → M_314 q9 = M q9) := fun q9 q0 => by rw [← hM_314]; exact (up_row (by omega)).trans (fr_313 q9 q0)
          refine WP.blk 6 ?_
          show sT S k1 = 4 ∧ ir ((M_314 k1 3) + 1) ∧ sT S k1 = 4 ∧ WP 1 24 111 [vR k1, vI s, vI col, vI ld] [] (up M_314 k1 3 ((M_314 k1 3) + 1), S) Q
          rw [r_315]
          refine ⟨hS.1, (by unfold ir; omega), hS.1, ?_⟩
          generalize hM_322 : up M_314 k1 3 ((g_282 3) + 1) = M_322
          obtain ⟨g_324, hg_324⟩ : ∃ y9, y9 = uf g_282 3 ((g_282 3) + 1) := ⟨_, rfl⟩
          have r_323 : M_322 k1 = g_324 := by rw [← hM_322, hg_324, up_self, r_315]
          have t_325 : g_324 3 = (g_282 3) + 1 := by rw [hg_324]; exact uf_at _ _ (by omega)
          have t_326 : g_324 4 = g_282 4 := by rw [hg_324]; exact uf_ne (by omega)
          have t_327 : g_324 5 = g_282 5 := by rw [hg_324]; exact uf_ne (by omega)
          have r_328 : M_322 (k1 + 1) = g_293 := by rw [← hM_322]; exact (up_row (by omega)).trans r_316
          have r_329 : M_322 (k1 + 2) = g_310 := by rw [← hM_322]; exact (up_row (by omega)).trans r_317
          have r_330 : M_322 (k1 + 3) = g_319 := by rw [← hM_322]; exact (up_row (by omega)).trans r_318
          have fr_331 : (∀ q9, (q9 < k1 ∨ k1 + 4 ≤ q9) → M_322 q9 = M q9) := fun q9 q0 => by rw [← hM_322]; exact (up_row (by omega)).trans (fr_321 q9 q0)
          exact WP.ret rfl rfl rfl trivial (k _ fr_331 (by unfold InkR; rw [r_323, r_328, r_329, r_330]; exact inkF_prs hh hs hld (by omega) (by split <;> omega) (by split <;> omega) (fun q => by by_cases e : q = s; (rw [e, if_pos rfl]; first | omega | (split <;> omega)); (rw [if_neg e, hg_293, uf_ne e])) (fun q => by by_cases e : q = s; (rw [e, if_pos rfl]; first | omega | (split <;> omega)); (rw [if_neg e, hg_310, uf_ne e, hg_302, uf_ne e])) (fun q => by by_cases e : q = s; (rw [e, if_pos rfl]; first | omega | (split <;> omega)); (rw [if_neg e, hg_319, uf_ne e]))))
        · refine WP.blk 2 ?_
          show (sT S k1 = 4 ∧ sR S k1 1 ≠ 0) ∧ WP 1 24 52 [vR k1, vI s, vI col, vI ld] [vR (sR S k1 1)] (M_269, S) Q
          refine ⟨⟨hS.1, by rw [(show sR S k1 1 = k1 + 2 from hS.2.2.1)]; omega⟩, ?_⟩
          rw [(show sR S k1 1 = k1 + 2 from hS.2.2.1)]
          refine WP.blk 3 ?_
          show ((sT S (k1 + 2) = 11 ∨ sT S (k1 + 2) = 16 ∨ sT S (k1 + 2) = 17) ∧ 0 ≤ s ∧ s < (sN S (k1 + 2) : Int)) ∧ WP 1 24 (if cnd .ne (M_269 (k1 + 2) s) 0 = true then 81 else 57) [vR k1, vI s, vI col, vI ld] [] (M_269, S) Q
          rw [r_276]
          refine ⟨⟨Or.inl hS.2.2.2.2.2.2.1, by omega, by rw [(show sN S (k1 + 2) = 10 from hS.2.2.2.2.2.2.2.1)]; omega⟩, ?_⟩
          refine br_ne (fun c_332 => ?_) (fun c_332 => ?_)
          · refine WP.blk 2 ?_
            show (sT S k1 = 4 ∧ sR S k1 1 ≠ 0) ∧ WP 1 24 85 [vR k1, vI s, vI col, vI ld] [vR (sR S k1 1)] (M_269, S) Q
            refine ⟨⟨hS.1, by rw [(show sR S k1 1 = k1 + 2 from hS.2.2.1)]; omega⟩, ?_⟩
            rw [(show sR S k1 1 = k1 + 2 from hS.2.2.1)]
            refine WP.blk 6 ?_
            show ((sT S (k1 + 2) = 11 ∨ sT S (k1 + 2) = 16 ∨ sT S (k1 + 2) = 17) ∧ 0 ≤ s ∧ s < (sN S (k1 + 2) : Int)) ∧ ir ((M_269 (k1 + 2) s) - 1) ∧ (sT S (k1 + 2) = 11 ∧ 0 ≤ s ∧ s < (sN S (k1 + 2) : Int)) ∧ WP 1 24 91 [vR k1, vI s, vI col, vI ld] [] (up M_269 (k1 + 2) s ((M_269 (k1 + 2) s) - 1), S) Q
            rw [r_276]
            refine ⟨⟨Or.inl hS.2.2.2.2.2.2.1, by omega, by rw [(show sN S (k1 + 2) = 10 from hS.2.2.2.2.2.2.2.1)]; omega⟩, (by unfold ir; omega), ⟨hS.2.2.2.2.2.2.1, by omega, by rw [(show sN S (k1 + 2) = 10 from hS.2.2.2.2.2.2.2.1)]; omega⟩, ?_⟩
            generalize hM_333 : up M_269 (k1 + 2) s ((a s) - 1) = M_333
            have r_334 : M_333 k1 = g_271 := by rw [← hM_333]; exact (up_row (by omega)).trans r_270
            have r_335 : M_333 (k1 + 1) = i := by rw [← hM_333]; exact (up_row (by omega)).trans r_275
            obtain ⟨g_337, hg_337⟩ : ∃ y9, y9 = uf a s ((a s) - 1) := ⟨_, rfl⟩
            have r_336 : M_333 (k1 + 2) = g_337 := by rw [← hM_333, hg_337, up_self, r_276]
            have t_338 : g_337 s = (a s) - 1 := by rw [hg_337]; exact uf_at _ _ (by omega)
            have r_339 : M_333 (k1 + 3) = w := by rw [← hM_333]; exact (up_row (by omega)).trans r_277
            have fr_340 : (∀ q9, (q9 < k1 ∨ k1 + 4 ≤ q9) → M_333 q9 = M q9) := fun q9 q0 => by rw [← hM_333]; exact (up_row (by omega)).trans (fr_278 q9 q0)
            refine WP.blk 2 ?_
            show (sT S k1 = 4 ∧ sR S k1 2 ≠ 0) ∧ WP 1 24 95 [vR k1, vI s, vI col, vI ld] [vR (sR S k1 2)] (M_333, S) Q
            refine ⟨⟨hS.1, by rw [(show sR S k1 2 = k1 + 3 from hS.2.2.2.1)]; omega⟩, ?_⟩
            rw [(show sR S k1 2 = k1 + 3 from hS.2.2.2.1)]
            refine WP.blk 6 ?_
            show ((sT S (k1 + 3) = 11 ∨ sT S (k1 + 3) = 16 ∨ sT S (k1 + 3) = 17) ∧ 0 ≤ s ∧ s < (sN S (k1 + 3) : Int)) ∧ ir ((M_333 (k1 + 3) s) + 1) ∧ (sT S (k1 + 3) = 11 ∧ 0 ≤ s ∧ s < (sN S (k1 + 3) : Int)) ∧ WP 1 24 101 [vR k1, vI s, vI col, vI ld] [] (up M_333 (k1 + 3) s ((M_333 (k1 + 3) s) + 1), S) Q
            rw [r_339]
            refine ⟨⟨Or.inl hS.2.2.2.2.2.2.2.2.1, by omega, by rw [(show sN S (k1 + 3) = 10 from hS.2.2.2.2.2.2.2.2.2)]; omega⟩, (by unfold ir; omega), ⟨hS.2.2.2.2.2.2.2.2.1, by omega, by rw [(show sN S (k1 + 3) = 10 from hS.2.2.2.2.2.2.2.2.2)]; omega⟩, ?_⟩
            generalize hM_341 : up M_333 (k1 + 3) s ((w s) + 1) = M_341
            have r_342 : M_341 k1 = g_271 := by rw [← hM_341]; exact (up_row (by omega)).trans r_334
            have r_343 : M_341 (k1 + 1) = i := by rw [← hM_341]; exact (up_row (by omega)).trans r_335
            have r_344 : M_341 (k1 + 2) = g_337 := by rw [← hM_341]; exact (up_row (by omega)).trans r_336
            obtain ⟨g_346, hg_346⟩ : ∃ y9, y9 = uf w s ((w s) + 1) := ⟨_, rfl⟩
            have r_345 : M_341 (k1 + 3) = g_346 := by rw [← hM_341, hg_346, up_self, r_339]
            have t_347 : g_346 s = (w s) + 1 := by rw [hg_346]; exact uf_at _ _ (by omega)
            have fr_348 : (∀ q9, (q9 < k1 ∨ k1 + 4 ≤ q9) → M_341 q9 = M q9) := fun q9 q0 => by rw [← hM_341]; exact (up_row (by omega)).trans (fr_340 q9 q0)
            refine WP.blk 6 ?_
            show sT S k1 = 4 ∧ ir ((M_341 k1 3) + 1) ∧ sT S k1 = 4 ∧ WP 1 24 111 [vR k1, vI s, vI col, vI ld] [] (up M_341 k1 3 ((M_341 k1 3) + 1), S) Q
            rw [r_342]
            refine ⟨hS.1, (by unfold ir; omega), hS.1, ?_⟩
            generalize hM_349 : up M_341 k1 3 ((g_271 3) + 1) = M_349
            obtain ⟨g_351, hg_351⟩ : ∃ y9, y9 = uf g_271 3 ((g_271 3) + 1) := ⟨_, rfl⟩
            have r_350 : M_349 k1 = g_351 := by rw [← hM_349, hg_351, up_self, r_342]
            have t_352 : g_351 3 = (g_271 3) + 1 := by rw [hg_351]; exact uf_at _ _ (by omega)
            have t_353 : g_351 4 = g_271 4 := by rw [hg_351]; exact uf_ne (by omega)
            have t_354 : g_351 5 = g_271 5 := by rw [hg_351]; exact uf_ne (by omega)
            have r_355 : M_349 (k1 + 1) = i := by rw [← hM_349]; exact (up_row (by omega)).trans r_343
            have r_356 : M_349 (k1 + 2) = g_337 := by rw [← hM_349]; exact (up_row (by omega)).trans r_344
            have r_357 : M_349 (k1 + 3) = g_346 := by rw [← hM_349]; exact (up_row (by omega)).trans r_345
            have fr_358 : (∀ q9, (q9 < k1 ∨ k1 + 4 ≤ q9) → M_349 q9 = M q9) := fun q9 q0 => by rw [← hM_349]; exact (up_row (by omega)).trans (fr_348 q9 q0)
            exact WP.ret rfl rfl rfl trivial (k _ fr_358 (by unfold InkR; rw [r_350, r_355, r_356, r_357]; exact inkF_prs hh hs hld (by omega) (by split <;> omega) (by split <;> omega) (fun q => by by_cases e : q = s; (rw [e, if_pos rfl]; first | omega | (split <;> omega)); (rw [if_neg e])) (fun q => by by_cases e : q = s; (rw [e, if_pos rfl]; first | omega | (split <;> omega)); (rw [if_neg e, hg_337, uf_ne e])) (fun q => by by_cases e : q = s; (rw [e, if_pos rfl]; first | omega | (split <;> omega)); (rw [if_neg e, hg_346, uf_ne e]))))
          · refine WP.blk 6 ?_
            show sT S k1 = 4 ∧ ir ((M_269 k1 4) + 1) ∧ sT S k1 = 4 ∧ WP 1 24 67 [vR k1, vI s, vI col, vI ld] [] (up M_269 k1 4 ((M_269 k1 4) + 1), S) Q
            rw [r_270]
            refine ⟨hS.1, (by unfold ir; omega), hS.1, ?_⟩
            generalize hM_359 : up M_269 k1 4 ((g_271 4) + 1) = M_359
            obtain ⟨g_361, hg_361⟩ : ∃ y9, y9 = uf g_271 4 ((g_271 4) + 1) := ⟨_, rfl⟩
            have r_360 : M_359 k1 = g_361 := by rw [← hM_359, hg_361, up_self, r_270]
            have t_362 : g_361 3 = g_271 3 := by rw [hg_361]; exact uf_ne (by omega)
            have t_363 : g_361 4 = (g_271 4) + 1 := by rw [hg_361]; exact uf_at _ _ (by omega)
            have t_364 : g_361 5 = g_271 5 := by rw [hg_361]; exact uf_ne (by omega)
            have r_365 : M_359 (k1 + 1) = i := by rw [← hM_359]; exact (up_row (by omega)).trans r_275
            have r_366 : M_359 (k1 + 2) = a := by rw [← hM_359]; exact (up_row (by omega)).trans r_276
            have r_367 : M_359 (k1 + 3) = w := by rw [← hM_359]; exact (up_row (by omega)).trans r_277
            have fr_368 : (∀ q9, (q9 < k1 ∨ k1 + 4 ≤ q9) → M_359 q9 = M q9) := fun q9 q0 => by rw [← hM_359]; exact (up_row (by omega)).trans (fr_278 q9 q0)
            refine WP.blk 2 ?_
            show (sT S k1 = 4 ∧ sR S k1 0 ≠ 0) ∧ WP 1 24 71 [vR k1, vI s, vI col, vI ld] [vR (sR S k1 0)] (M_359, S) Q
            refine ⟨⟨hS.1, by rw [(show sR S k1 0 = k1 + 1 from hS.2.1)]; omega⟩, ?_⟩
            rw [(show sR S k1 0 = k1 + 1 from hS.2.1)]
            refine WP.blk 3 ?_
            show (sT S (k1 + 1) = 11 ∧ 0 ≤ s ∧ s < (sN S (k1 + 1) : Int)) ∧ WP 1 24 74 [vR k1, vI s, vI col, vI ld] [] (up M_359 (k1 + 1) s col, S) Q
            refine ⟨⟨hS.2.2.2.2.1, by omega, by rw [(show sN S (k1 + 1) = 10 from hS.2.2.2.2.2.1)]; omega⟩, ?_⟩
            generalize hM_369 : up M_359 (k1 + 1) s col = M_369
            have r_370 : M_369 k1 = g_361 := by rw [← hM_369]; exact (up_row (by omega)).trans r_360
            obtain ⟨g_372, hg_372⟩ : ∃ y9, y9 = uf i s col := ⟨_, rfl⟩
            have r_371 : M_369 (k1 + 1) = g_372 := by rw [← hM_369, hg_372, up_self, r_365]
            have t_373 : g_372 s = col := by rw [hg_372]; exact uf_at _ _ (by omega)
            have r_374 : M_369 (k1 + 2) = a := by rw [← hM_369]; exact (up_row (by omega)).trans r_366
            have r_375 : M_369 (k1 + 3) = w := by rw [← hM_369]; exact (up_row (by omega)).trans r_367
            have fr_376 : (∀ q9, (q9 < k1 ∨ k1 + 4 ≤ q9) → M_369 q9 = M q9) := fun q9 q0 => by rw [← hM_369]; exact (up_row (by omega)).trans (fr_368 q9 q0)
            refine WP.blk 2 ?_
            show (sT S k1 = 4 ∧ sR S k1 1 ≠ 0) ∧ WP 1 24 78 [vR k1, vI s, vI col, vI ld] [vR (sR S k1 1)] (M_369, S) Q
            refine ⟨⟨hS.1, by rw [(show sR S k1 1 = k1 + 2 from hS.2.2.1)]; omega⟩, ?_⟩
            rw [(show sR S k1 1 = k1 + 2 from hS.2.2.1)]
            refine WP.blk 3 ?_
            show (sT S (k1 + 2) = 11 ∧ 0 ≤ s ∧ s < (sN S (k1 + 2) : Int)) ∧ WP 1 24 81 [vR k1, vI s, vI col, vI ld] [] (up M_369 (k1 + 2) s ld, S) Q
            refine ⟨⟨hS.2.2.2.2.2.2.1, by omega, by rw [(show sN S (k1 + 2) = 10 from hS.2.2.2.2.2.2.2.1)]; omega⟩, ?_⟩
            generalize hM_377 : up M_369 (k1 + 2) s ld = M_377
            have r_378 : M_377 k1 = g_361 := by rw [← hM_377]; exact (up_row (by omega)).trans r_370
            have r_379 : M_377 (k1 + 1) = g_372 := by rw [← hM_377]; exact (up_row (by omega)).trans r_371
            obtain ⟨g_381, hg_381⟩ : ∃ y9, y9 = uf a s ld := ⟨_, rfl⟩
            have r_380 : M_377 (k1 + 2) = g_381 := by rw [← hM_377, hg_381, up_self, r_374]
            have t_382 : g_381 s = ld := by rw [hg_381]; exact uf_at _ _ (by omega)
            have r_383 : M_377 (k1 + 3) = w := by rw [← hM_377]; exact (up_row (by omega)).trans r_375
            have fr_384 : (∀ q9, (q9 < k1 ∨ k1 + 4 ≤ q9) → M_377 q9 = M q9) := fun q9 q0 => by rw [← hM_377]; exact (up_row (by omega)).trans (fr_376 q9 q0)
            refine WP.blk 2 ?_
            show (sT S k1 = 4 ∧ sR S k1 1 ≠ 0) ∧ WP 1 24 85 [vR k1, vI s, vI col, vI ld] [vR (sR S k1 1)] (M_377, S) Q
            refine ⟨⟨hS.1, by rw [(show sR S k1 1 = k1 + 2 from hS.2.2.1)]; omega⟩, ?_⟩
            rw [(show sR S k1 1 = k1 + 2 from hS.2.2.1)]
            refine WP.blk 6 ?_
            show ((sT S (k1 + 2) = 11 ∨ sT S (k1 + 2) = 16 ∨ sT S (k1 + 2) = 17) ∧ 0 ≤ s ∧ s < (sN S (k1 + 2) : Int)) ∧ ir ((M_377 (k1 + 2) s) - 1) ∧ (sT S (k1 + 2) = 11 ∧ 0 ≤ s ∧ s < (sN S (k1 + 2) : Int)) ∧ WP 1 24 91 [vR k1, vI s, vI col, vI ld] [] (up M_377 (k1 + 2) s ((M_377 (k1 + 2) s) - 1), S) Q
            rw [r_380]
            refine ⟨⟨Or.inl hS.2.2.2.2.2.2.1, by omega, by rw [(show sN S (k1 + 2) = 10 from hS.2.2.2.2.2.2.2.1)]; omega⟩, (by unfold ir; omega), ⟨hS.2.2.2.2.2.2.1, by omega, by rw [(show sN S (k1 + 2) = 10 from hS.2.2.2.2.2.2.2.1)]; omega⟩, ?_⟩
            generalize hM_385 : up M_377 (k1 + 2) s ((g_381 s) - 1) = M_385
            have r_386 : M_385 k1 = g_361 := by rw [← hM_385]; exact (up_row (by omega)).trans r_378
            have r_387 : M_385 (k1 + 1) = g_372 := by rw [← hM_385]; exact (up_row (by omega)).trans r_379
            obtain ⟨g_389, hg_389⟩ : ∃ y9, y9 = uf g_381 s ((g_381 s) - 1) := ⟨_, rfl⟩
            have r_388 : M_385 (k1 + 2) = g_389 := by rw [← hM_385, hg_389, up_self, r_380]
            have t_390 : g_389 s = (g_381 s) - 1 := by rw [hg_389]; exact uf_at _ _ (by omega)
            have r_391 : M_385 (k1 + 3) = w := by rw [← hM_385]; exact (up_row (by omega)).trans r_383
            have fr_392 : (∀ q9, (q9 < k1 ∨ k1 + 4 ≤ q9) → M_385 q9 = M q9) := fun q9 q0 => by rw [← hM_385]; exact (up_row (by omega)).trans (fr_384 q9 q0)
            refine WP.blk 2 ?_
            show (sT S k1 = 4 ∧ sR S k1 2 ≠ 0) ∧ WP 1 24 95 [vR k1, vI s, vI col, vI ld] [vR (sR S k1 2)] (M_385, S) Q
            refine ⟨⟨hS.1, by rw [(show sR S k1 2 = k1 + 3 from hS.2.2.2.1)]; omega⟩, ?_⟩
            rw [(show sR S k1 2 = k1 + 3 from hS.2.2.2.1)]
            refine WP.blk 6 ?_
            show ((sT S (k1 + 3) = 11 ∨ sT S (k1 + 3) = 16 ∨ sT S (k1 + 3) = 17) ∧ 0 ≤ s ∧ s < (sN S (k1 + 3) : Int)) ∧ ir ((M_385 (k1 + 3) s) + 1) ∧ (sT S (k1 + 3) = 11 ∧ 0 ≤ s ∧ s < (sN S (k1 + 3) : Int)) ∧ WP 1 24 101 [vR k1, vI s, vI col, vI ld] [] (up M_385 (k1 + 3) s ((M_385 (k1 + 3) s) + 1), S) Q
            rw [r_391]
            refine ⟨⟨Or.inl hS.2.2.2.2.2.2.2.2.1, by omega, by rw [(show sN S (k1 + 3) = 10 from hS.2.2.2.2.2.2.2.2.2)]; omega⟩, (by unfold ir; omega), ⟨hS.2.2.2.2.2.2.2.2.1, by omega, by rw [(show sN S (k1 + 3) = 10 from hS.2.2.2.2.2.2.2.2.2)]; omega⟩, ?_⟩
            generalize hM_393 : up M_385 (k1 + 3) s ((w s) + 1) = M_393
            have r_394 : M_393 k1 = g_361 := by rw [← hM_393]; exact (up_row (by omega)).trans r_386
            have r_395 : M_393 (k1 + 1) = g_372 := by rw [← hM_393]; exact (up_row (by omega)).trans r_387
            have r_396 : M_393 (k1 + 2) = g_389 := by rw [← hM_393]; exact (up_row (by omega)).trans r_388
            obtain ⟨g_398, hg_398⟩ : ∃ y9, y9 = uf w s ((w s) + 1) := ⟨_, rfl⟩
            have r_397 : M_393 (k1 + 3) = g_398 := by rw [← hM_393, hg_398, up_self, r_391]
            have t_399 : g_398 s = (w s) + 1 := by rw [hg_398]; exact uf_at _ _ (by omega)
            have fr_400 : (∀ q9, (q9 < k1 ∨ k1 + 4 ≤ q9) → M_393 q9 = M q9) := fun q9 q0 => by rw [← hM_393]; exact (up_row (by omega)).trans (fr_392 q9 q0)
            refine WP.blk 6 ?_
            show sT S k1 = 4 ∧ ir ((M_393 k1 3) + 1) ∧ sT S k1 = 4 ∧ WP 1 24 111 [vR k1, vI s, vI col, vI ld] [] (up M_393 k1 3 ((M_393 k1 3) + 1), S) Q
            rw [r_394]
            refine ⟨hS.1, (by unfold ir; omega), hS.1, ?_⟩
            generalize hM_401 : up M_393 k1 3 ((g_361 3) + 1) = M_401
            obtain ⟨g_403, hg_403⟩ : ∃ y9, y9 = uf g_361 3 ((g_361 3) + 1) := ⟨_, rfl⟩
            have r_402 : M_401 k1 = g_403 := by rw [← hM_401, hg_403, up_self, r_394]
            have t_404 : g_403 3 = (g_361 3) + 1 := by rw [hg_403]; exact uf_at _ _ (by omega)
            have t_405 : g_403 4 = g_361 4 := by rw [hg_403]; exact uf_ne (by omega)
            have t_406 : g_403 5 = g_361 5 := by rw [hg_403]; exact uf_ne (by omega)
            have r_407 : M_401 (k1 + 1) = g_372 := by rw [← hM_401]; exact (up_row (by omega)).trans r_395
            have r_408 : M_401 (k1 + 2) = g_389 := by rw [← hM_401]; exact (up_row (by omega)).trans r_396
            have r_409 : M_401 (k1 + 3) = g_398 := by rw [← hM_401]; exact (up_row (by omega)).trans r_397
            have fr_410 : (∀ q9, (q9 < k1 ∨ k1 + 4 ≤ q9) → M_401 q9 = M q9) := fun q9 q0 => by rw [← hM_401]; exact (up_row (by omega)).trans (fr_400 q9 q0)
            exact WP.ret rfl rfl rfl trivial (k _ fr_410 (by unfold InkR; rw [r_402, r_407, r_408, r_409]; exact inkF_prs hh hs hld (by omega) (by split <;> omega) (by split <;> omega) (fun q => by by_cases e : q = s; (rw [e, if_pos rfl]; first | omega | (split <;> omega)); (rw [if_neg e, hg_372, uf_ne e])) (fun q => by by_cases e : q = s; (rw [e, if_pos rfl]; first | omega | (split <;> omega)); (rw [if_neg e, hg_389, uf_ne e, hg_381, uf_ne e])) (fun q => by by_cases e : q = s; (rw [e, if_pos rfl]; first | omega | (split <;> omega)); (rw [if_neg e, hg_398, uf_ne e]))))
  · have p_1 := (hb_1.resolve_left (fun h => by omega)).2
    exact WP.ret rfl rfl rfl trivial (by exfalso; omega)
set_option maxHeartbeats 4000000 in
theorem k_copyInks {S : SD} {M : Nat → Int → Int} {k1 q : Nat} {f : Int → Int} (hS : isInks S k1) (hS2 : isInks S q) (hd : k1 + 4 ≤ q ∨ q + 4 ≤ k1) (h : InkR M q f) (h0 : f 0 ≤ 10) {Q : Res → Wd → Prop} (k : ∀ (M2 : Nat → Int → Int), (∀ q9, (q9 < k1 ∨ k1 + 4 ≤ q9) → M2 q9 = M q9) → InkR M2 k1 f → Q (0, none) (M2, S)) : EvQ 1 25 [vR k1, vR q] (M, S) Q := by
  refine EvQ.enter (ls := [vR k1, vR q]) (Nat.le_of_ble_eq_true rfl) rfl ?_
  obtain ⟨b, hb⟩ : ∃ y9, M k1 = y9 := ⟨_, rfl⟩
  obtain ⟨i, hi⟩ : ∃ y9, M (k1 + 1) = y9 := ⟨_, rfl⟩
  obtain ⟨a, ha⟩ : ∃ y9, M (k1 + 2) = y9 := ⟨_, rfl⟩
  obtain ⟨w, hw⟩ : ∃ y9, M (k1 + 3) = y9 := ⟨_, rfl⟩
  obtain ⟨b2, hb2⟩ : ∃ y9, M q = y9 := ⟨_, rfl⟩
  obtain ⟨i2, hi2⟩ : ∃ y9, M (q + 1) = y9 := ⟨_, rfl⟩
  obtain ⟨a2, ha2⟩ : ∃ y9, M (q + 2) = y9 := ⟨_, rfl⟩
  obtain ⟨w2, hw2⟩ : ∃ y9, M (q + 3) = y9 := ⟨_, rfl⟩
  unfold InkR at h
  rw [hb2, hi2, ha2, hw2] at h
  refine WP.blk 2 ?_
  show (sT S q = 4 ∧ sR S q 0 ≠ 0) ∧ WP 0 25 4 [vR k1, vR q] [vR (sR S q 0)] (M, S) Q
  refine ⟨⟨hS2.1, by rw [(show sR S q 0 = q + 1 from hS2.2.1)]; omega⟩, ?_⟩
  rw [(show sR S q 0 = q + 1 from hS2.2.1)]
  refine WP.blk 3 ?_
  show (sT S k1 = 4 ∧ sR S k1 0 ≠ 0) ∧ WP 0 25 9 [vR k1, vR q] [vR (sR S k1 0), vI 0, vR (q + 1)] (M, S) Q
  refine ⟨⟨hS.1, by rw [(show sR S k1 0 = k1 + 1 from hS.2.1)]; omega⟩, ?_⟩
  rw [(show sR S k1 0 = k1 + 1 from hS.2.1)]
  refine WP.blk 3 ?_
  show (sT S (q + 1) = 11 ∧ sT S (k1 + 1) = 11 ∧ 0 ≤ 0 ∧ 0 ≤ 0 ∧ 0 ≤ 10 ∧ 0 + 10 ≤ (sN S (q + 1) : Int) ∧ 0 + 10 ≤ (sN S (k1 + 1) : Int)) ∧ WP 0 25 15 [vR k1, vR q] [] (cpy M (q + 1) 0 (k1 + 1) 0 10, S) Q
  refine ⟨⟨hS2.2.2.2.2.1, hS.2.2.2.2.1, by omega, by omega, by omega, by rw [(show sN S (q + 1) = 10 from hS2.2.2.2.2.2.1)]; omega, by rw [(show sN S (k1 + 1) = 10 from hS.2.2.2.2.2.1)]; omega⟩, ?_⟩
  generalize hM_1 : cpy M (q + 1) 0 (k1 + 1) 0 10 = M_1
  have r_2 : M_1 k1 = b := by rw [← hM_1]; exact (cpy_row (by omega)).trans hb
  obtain ⟨g_4, hg_4⟩ : ∃ y9, y9 = rcp i2 0 i 0 10 := ⟨_, rfl⟩
  have r_3 : M_1 (k1 + 1) = g_4 := by rw [← hM_1, hg_4, cpy_self, hi, hi2]
  have r_5 : M_1 (k1 + 2) = a := by rw [← hM_1]; exact (cpy_row (by omega)).trans ha
  have r_6 : M_1 (k1 + 3) = w := by rw [← hM_1]; exact (cpy_row (by omega)).trans hw
  have r_7 : M_1 q = b2 := by rw [← hM_1]; exact (cpy_row (by omega)).trans hb2
  have r_8 : M_1 (q + 1) = i2 := by rw [← hM_1]; exact (cpy_row (by omega)).trans hi2
  have r_9 : M_1 (q + 2) = a2 := by rw [← hM_1]; exact (cpy_row (by omega)).trans ha2
  have r_10 : M_1 (q + 3) = w2 := by rw [← hM_1]; exact (cpy_row (by omega)).trans hw2
  have fr_11 : (∀ q9, (q9 < k1 ∨ k1 + 4 ≤ q9) → M_1 q9 = M q9) := fun q9 q0 => by rw [← hM_1]; exact (cpy_row (by omega)).trans ((fun _ _ => rfl) q9 q0)
  refine WP.blk 2 ?_
  show (sT S q = 4 ∧ sR S q 1 ≠ 0) ∧ WP 0 25 19 [vR k1, vR q] [vR (sR S q 1)] (M_1, S) Q
  refine ⟨⟨hS2.1, by rw [(show sR S q 1 = q + 2 from hS2.2.2.1)]; omega⟩, ?_⟩
  rw [(show sR S q 1 = q + 2 from hS2.2.2.1)]
  refine WP.blk 3 ?_
  show (sT S k1 = 4 ∧ sR S k1 1 ≠ 0) ∧ WP 0 25 24 [vR k1, vR q] [vR (sR S k1 1), vI 0, vR (q + 2)] (M_1, S) Q
  refine ⟨⟨hS.1, by rw [(show sR S k1 1 = k1 + 2 from hS.2.2.1)]; omega⟩, ?_⟩
  rw [(show sR S k1 1 = k1 + 2 from hS.2.2.1)]
  refine WP.blk 3 ?_
  show (sT S (q + 2) = 11 ∧ sT S (k1 + 2) = 11 ∧ 0 ≤ 0 ∧ 0 ≤ 0 ∧ 0 ≤ 10 ∧ 0 + 10 ≤ (sN S (q + 2) : Int) ∧ 0 + 10 ≤ (sN S (k1 + 2) : Int)) ∧ WP 0 25 30 [vR k1, vR q] [] (cpy M_1 (q + 2) 0 (k1 + 2) 0 10, S) Q
  refine ⟨⟨hS2.2.2.2.2.2.2.1, hS.2.2.2.2.2.2.1, by omega, by omega, by omega, by rw [(show sN S (q + 2) = 10 from hS2.2.2.2.2.2.2.2.1)]; omega, by rw [(show sN S (k1 + 2) = 10 from hS.2.2.2.2.2.2.2.1)]; omega⟩, ?_⟩
  generalize hM_12 : cpy M_1 (q + 2) 0 (k1 + 2) 0 10 = M_12
  have r_13 : M_12 k1 = b := by rw [← hM_12]; exact (cpy_row (by omega)).trans r_2
  have r_14 : M_12 (k1 + 1) = g_4 := by rw [← hM_12]; exact (cpy_row (by omega)).trans r_3
  obtain ⟨g_16, hg_16⟩ : ∃ y9, y9 = rcp a2 0 a 0 10 := ⟨_, rfl⟩
  have r_15 : M_12 (k1 + 2) = g_16 := by rw [← hM_12, hg_16, cpy_self, r_5, r_9]
  have r_17 : M_12 (k1 + 3) = w := by rw [← hM_12]; exact (cpy_row (by omega)).trans r_6
  have r_18 : M_12 q = b2 := by rw [← hM_12]; exact (cpy_row (by omega)).trans r_7
  have r_19 : M_12 (q + 1) = i2 := by rw [← hM_12]; exact (cpy_row (by omega)).trans r_8
  have r_20 : M_12 (q + 2) = a2 := by rw [← hM_12]; exact (cpy_row (by omega)).trans r_9
  have r_21 : M_12 (q + 3) = w2 := by rw [← hM_12]; exact (cpy_row (by omega)).trans r_10
  have fr_22 : (∀ q9, (q9 < k1 ∨ k1 + 4 ≤ q9) → M_12 q9 = M q9) := fun q9 q0 => by rw [← hM_12]; exact (cpy_row (by omega)).trans (fr_11 q9 q0)
  refine WP.blk 2 ?_
  show (sT S q = 4 ∧ sR S q 2 ≠ 0) ∧ WP 0 25 34 [vR k1, vR q] [vR (sR S q 2)] (M_12, S) Q
  refine ⟨⟨hS2.1, by rw [(show sR S q 2 = q + 3 from hS2.2.2.2.1)]; omega⟩, ?_⟩
  rw [(show sR S q 2 = q + 3 from hS2.2.2.2.1)]
  refine WP.blk 3 ?_
  show (sT S k1 = 4 ∧ sR S k1 2 ≠ 0) ∧ WP 0 25 39 [vR k1, vR q] [vR (sR S k1 2), vI 0, vR (q + 3)] (M_12, S) Q
  refine ⟨⟨hS.1, by rw [(show sR S k1 2 = k1 + 3 from hS.2.2.2.1)]; omega⟩, ?_⟩
  rw [(show sR S k1 2 = k1 + 3 from hS.2.2.2.1)]
  refine WP.blk 3 ?_
  show (sT S (q + 3) = 11 ∧ sT S (k1 + 3) = 11 ∧ 0 ≤ 0 ∧ 0 ≤ 0 ∧ 0 ≤ 10 ∧ 0 + 10 ≤ (sN S (q + 3) : Int) ∧ 0 + 10 ≤ (sN S (k1 + 3) : Int)) ∧ WP 0 25 45 [vR k1, vR q] [] (cpy M_12 (q + 3) 0 (k1 + 3) 0 10, S) Q
  refine ⟨⟨hS2.2.2.2.2.2.2.2.2.1, hS.2.2.2.2.2.2.2.2.1, by omega, by omega, by omega, by rw [(show sN S (q + 3) = 10 from hS2.2.2.2.2.2.2.2.2.2)]; omega, by rw [(show sN S (k1 + 3) = 10 from hS.2.2.2.2.2.2.2.2.2)]; omega⟩, ?_⟩
  generalize hM_23 : cpy M_12 (q + 3) 0 (k1 + 3) 0 10 = M_23
  have r_24 : M_23 k1 = b := by rw [← hM_23]; exact (cpy_row (by omega)).trans r_13
  have r_25 : M_23 (k1 + 1) = g_4 := by rw [← hM_23]; exact (cpy_row (by omega)).trans r_14
  have r_26 : M_23 (k1 + 2) = g_16 := by rw [← hM_23]; exact (cpy_row (by omega)).trans r_15
  obtain ⟨g_28, hg_28⟩ : ∃ y9, y9 = rcp w2 0 w 0 10 := ⟨_, rfl⟩
  have r_27 : M_23 (k1 + 3) = g_28 := by rw [← hM_23, hg_28, cpy_self, r_17, r_21]
  have r_29 : M_23 q = b2 := by rw [← hM_23]; exact (cpy_row (by omega)).trans r_18
  have r_30 : M_23 (q + 1) = i2 := by rw [← hM_23]; exact (cpy_row (by omega)).trans r_19
  have r_31 : M_23 (q + 2) = a2 := by rw [← hM_23]; exact (cpy_row (by omega)).trans r_20
  have r_32 : M_23 (q + 3) = w2 := by rw [← hM_23]; exact (cpy_row (by omega)).trans r_21
  have fr_33 : (∀ q9, (q9 < k1 ∨ k1 + 4 ≤ q9) → M_23 q9 = M q9) := fun q9 q0 => by rw [← hM_23]; exact (cpy_row (by omega)).trans (fr_22 q9 q0)
  refine WP.blk 4 ?_
  show sT S q = 4 ∧ sT S k1 = 4 ∧ WP 0 25 53 [vR k1, vR q] [] (up M_23 k1 3 (M_23 q 3), S) Q
  rw [r_29]
  refine ⟨hS2.1, hS.1, ?_⟩
  generalize hM_34 : up M_23 k1 3 (b2 3) = M_34
  obtain ⟨g_36, hg_36⟩ : ∃ y9, y9 = uf b 3 (b2 3) := ⟨_, rfl⟩
  have r_35 : M_34 k1 = g_36 := by rw [← hM_34, hg_36, up_self, r_24]
  have r_37 : M_34 (k1 + 1) = g_4 := by rw [← hM_34]; exact (up_row (by omega)).trans r_25
  have r_38 : M_34 (k1 + 2) = g_16 := by rw [← hM_34]; exact (up_row (by omega)).trans r_26
  have r_39 : M_34 (k1 + 3) = g_28 := by rw [← hM_34]; exact (up_row (by omega)).trans r_27
  have r_40 : M_34 q = b2 := by rw [← hM_34]; exact (up_row (by omega)).trans r_29
  have r_41 : M_34 (q + 1) = i2 := by rw [← hM_34]; exact (up_row (by omega)).trans r_30
  have r_42 : M_34 (q + 2) = a2 := by rw [← hM_34]; exact (up_row (by omega)).trans r_31
  have r_43 : M_34 (q + 3) = w2 := by rw [← hM_34]; exact (up_row (by omega)).trans r_32
  have fr_44 : (∀ q9, (q9 < k1 ∨ k1 + 4 ≤ q9) → M_34 q9 = M q9) := fun q9 q0 => by rw [← hM_34]; exact (up_row (by omega)).trans (fr_33 q9 q0)
  refine WP.blk 4 ?_
  show sT S q = 4 ∧ sT S k1 = 4 ∧ WP 0 25 61 [vR k1, vR q] [] (up M_34 k1 4 (M_34 q 4), S) Q
  rw [r_40]
  refine ⟨hS2.1, hS.1, ?_⟩
  generalize hM_45 : up M_34 k1 4 (b2 4) = M_45
  obtain ⟨g_47, hg_47⟩ : ∃ y9, y9 = uf g_36 4 (b2 4) := ⟨_, rfl⟩
  have r_46 : M_45 k1 = g_47 := by rw [← hM_45, hg_47, up_self, r_35]
  have r_48 : M_45 (k1 + 1) = g_4 := by rw [← hM_45]; exact (up_row (by omega)).trans r_37
  have r_49 : M_45 (k1 + 2) = g_16 := by rw [← hM_45]; exact (up_row (by omega)).trans r_38
  have r_50 : M_45 (k1 + 3) = g_28 := by rw [← hM_45]; exact (up_row (by omega)).trans r_39
  have r_51 : M_45 q = b2 := by rw [← hM_45]; exact (up_row (by omega)).trans r_40
  have r_52 : M_45 (q + 1) = i2 := by rw [← hM_45]; exact (up_row (by omega)).trans r_41
  have r_53 : M_45 (q + 2) = a2 := by rw [← hM_45]; exact (up_row (by omega)).trans r_42
  have r_54 : M_45 (q + 3) = w2 := by rw [← hM_45]; exact (up_row (by omega)).trans r_43
  have fr_55 : (∀ q9, (q9 < k1 ∨ k1 + 4 ≤ q9) → M_45 q9 = M q9) := fun q9 q0 => by rw [← hM_45]; exact (up_row (by omega)).trans (fr_44 q9 q0)
  refine WP.blk 4 ?_
  show sT S q = 4 ∧ sT S k1 = 4 ∧ WP 0 25 69 [vR k1, vR q] [] (up M_45 k1 5 (M_45 q 5), S) Q
  rw [r_51]
  refine ⟨hS2.1, hS.1, ?_⟩
  generalize hM_56 : up M_45 k1 5 (b2 5) = M_56
  obtain ⟨g_58, hg_58⟩ : ∃ y9, y9 = uf g_47 5 (b2 5) := ⟨_, rfl⟩
  have r_57 : M_56 k1 = g_58 := by rw [← hM_56, hg_58, up_self, r_46]
  have r_59 : M_56 (k1 + 1) = g_4 := by rw [← hM_56]; exact (up_row (by omega)).trans r_48
  have r_60 : M_56 (k1 + 2) = g_16 := by rw [← hM_56]; exact (up_row (by omega)).trans r_49
  have r_61 : M_56 (k1 + 3) = g_28 := by rw [← hM_56]; exact (up_row (by omega)).trans r_50
  have r_62 : M_56 q = b2 := by rw [← hM_56]; exact (up_row (by omega)).trans r_51
  have r_63 : M_56 (q + 1) = i2 := by rw [← hM_56]; exact (up_row (by omega)).trans r_52
  have r_64 : M_56 (q + 2) = a2 := by rw [← hM_56]; exact (up_row (by omega)).trans r_53
  have r_65 : M_56 (q + 3) = w2 := by rw [← hM_56]; exact (up_row (by omega)).trans r_54
  have fr_66 : (∀ q9, (q9 < k1 ∨ k1 + 4 ≤ q9) → M_56 q9 = M q9) := fun q9 q0 => by rw [← hM_56]; exact (up_row (by omega)).trans (fr_55 q9 q0)
  exact WP.ret rfl rfl rfl trivial (k _ fr_66 (by unfold InkR; rw [r_57, r_59, r_60, r_61, hg_58, hg_47, hg_36, hg_4, hg_16, hg_28]; exact inkF_cp h h0))
