set_option maxHeartbeats 4000000 in
theorem k_turned {S : SD} {M : Nat → Int → Int} {a : Int} (hT2 : sT S 2 = 17 ∧ sN S 2 = 26) (htu : TurR M) (ha : 0 ≤ a ∧ a ≤ 25) {Q : Res → Wd → Prop} (k : Q (0, vI (tur a)) (M, S)) : EvQ 1 104 [vI a] (M, S) Q := by
  refine EvQ.enter (ls := [vI a]) (Nat.le_of_ble_eq_true rfl) rfl ?_
  have hT3 := hT2.2
  refine WP.blk 2 ?_
  show WP 0 104 (if cnd .lt a 0 = true then 20 else 4) [vI a] [] (M, S) Q
  refine br_lt (fun c_1 => ?_) (fun c_1 => ?_)
  · refine WP.blk 1 ?_
    show WP 0 104 21 [vI a] [vI (-1)] (M, S) Q
    exact WP.ret rfl rfl rfl trivial (by exfalso; omega)
  · refine WP.blk 4 ?_
    show (sT S 2 = 11 ∨ sT S 2 = 16 ∨ sT S 2 = 17) ∧ WP 0 104 (if cnd .ge a (sN S 2 : Int) = true then 20 else 12) [vI a] [] (M, S) Q
    refine ⟨(Or.inr (Or.inr hT2.1)), ?_⟩
    refine br_ge (fun c_2 => ?_) (fun c_2 => ?_)
    · refine WP.blk 1 ?_
      show WP 0 104 21 [vI a] [vI (-1)] (M, S) Q
      exact WP.ret rfl rfl rfl trivial (by exfalso; omega)
    · refine WP.blk 4 ?_
      show ((sT S 2 = 11 ∨ sT S 2 = 16 ∨ sT S 2 = 17) ∧ 0 ≤ a ∧ a < (sN S 2 : Int)) ∧ WP 0 104 21 [vI a] [vI (M 2 a)] (M, S) Q
      refine ⟨⟨Or.inr (Or.inr hT2.1), by omega, by rw [hT2.2]; omega⟩, ?_⟩
      exact WP.ret rfl rfl rfl trivial (by rw [htu a ha.1 (by omega)]; exact k)
set_option maxHeartbeats 4000000 in
theorem k_printed {S : SD} {M : Nat → Int → Int} {r1 : Nat} {f : Int → Int} {s i t : Int} (hS : isRows S r1) (hT2 : sT S 2 = 17 ∧ sN S 2 = 26) (htu : TurR M) (hst : StR M r1 f) (hs : StOk f s) (hs0 : s < f 0) (h0 : f 0 ≤ 10) (hi : 0 ≤ i ∧ i < f (7 + 9 * s)) {Q : Res → Wd → Prop} (k : Q (0, vI (prL f s i t)) (M, S)) : EvQ 3 103 [vR r1, vI s, vI i, vI t] (M, S) Q := by
  refine EvQ.enter (ls := [vR r1, vI s, vI i, vI t]) (Nat.le_of_ble_eq_true rfl) rfl ?_
  have hs1 := hs.1
  have hs3 := hs.2.2.1
  have hs4 := hs.2.2.2.1
  refine WP.blk 2 ?_
  show WP 2 103 (if cnd .ne t 0 = true then 11 else 4) [vR r1, vI s, vI i, vI t] [] (M, S) Q
  refine br_ne (fun c_1 => ?_) (fun c_1 => ?_)
  · refine WP.blk 4 ?_
    show WP 2 103 15 [vR r1, vI s, vI i, vI t] [vI s, vR r1, vI s, vR r1] (M, S) Q
    refine WP.cl (a := [vR r1, vI s]) (rest := [vI s, vR r1]) rfl rfl rfl rfl ⟨hS.1, trivial⟩ (by decide) (k_len hS hst (by omega) (by omega) ⟨rfl, ?_⟩)
    show WP 2 103 18 [vR r1, vI s, vI i, vI t] [vI (f (7 + 9 * s)), vI s, vR r1] (M, S) Q
    refine WP.blk 4 ?_
    show ir ((f (7 + 9 * s)) - 1) ∧ ir (((f (7 + 9 * s)) - 1) - i) ∧ WP 2 103 22 [vR r1, vI s, vI i, vI t] [vI (((f (7 + 9 * s)) - 1) - i), vI s, vR r1] (M, S) Q
    refine ⟨(by unfold ir; omega), (by unfold ir; omega), ?_⟩
    refine WP.cl (a := [vR r1, vI s, vI (((f (7 + 9 * s)) - 1) - i)]) (rest := []) rfl rfl rfl rfl ⟨hS.1, trivial⟩ (by decide) (k_let hS hst (by omega) (by omega) (by omega) (show _ ∧ _ < f (7 + 9 * s) by omega) ⟨rfl, ?_⟩)
    show WP 2 103 25 [vR r1, vI s, vI i, vI t] [vI (f (7 + 9 * s + 1 + (((f (7 + 9 * s)) - 1) - i)))] (M, S) Q
    refine WP.cl (a := [vI (f (7 + 9 * s + 1 + (((f (7 + 9 * s)) - 1) - i)))]) (rest := []) rfl rfl rfl rfl trivial (by decide) (k_turned hT2 htu (hs.2.2.2.2 (((f (7 + 9 * s)) - 1) - i) (by omega) (by omega)) ⟨rfl, ?_⟩)
    show WP 2 103 28 [vR r1, vI s, vI i, vI t] [vI (tur (f (7 + 9 * s + 1 + (((f (7 + 9 * s)) - 1) - i))))] (M, S) Q
    exact WP.ret rfl rfl rfl trivial (by unfold prL at k; first | (rw [if_pos (by assumption)] at k; exact k) | (rw [if_neg (by assumption), show 7 + 9 * s + f (7 + 9 * s) - i = 7 + 9 * s + 1 + (f (7 + 9 * s) - 1 - i) by omega] at k; exact k))
  · refine WP.blk 3 ?_
    show WP 2 103 7 [vR r1, vI s, vI i, vI t] [vI i, vI s, vR r1] (M, S) Q
    refine WP.cl (a := [vR r1, vI s, vI i]) (rest := []) rfl rfl rfl rfl ⟨hS.1, trivial⟩ (by decide) (k_let hS hst (by omega) (by omega) (by omega) (show _ ∧ _ < f (7 + 9 * s) by omega) ⟨rfl, ?_⟩)
    show WP 2 103 10 [vR r1, vI s, vI i, vI t] [vI (f (7 + 9 * s + 1 + i))] (M, S) Q
    exact WP.ret rfl rfl rfl trivial (by unfold prL at k; first | (rw [if_pos (by assumption)] at k; exact k) | (rw [if_neg (by assumption), show 7 + 9 * s + f (7 + 9 * s) - i = 7 + 9 * s + 1 + (f (7 + 9 * s) - 1 - i) by omega] at k; exact k))
set_option maxHeartbeats 4000000 in
theorem k_canTurn {S : SD} {M : Nat → Int → Int} {r1 : Nat} {f : Int → Int} {s : Int} (hS : isRows S r1) (hT2 : sT S 2 = 17 ∧ sN S 2 = 26) (htu : TurR M) (hst : StR M r1 f) (hs : StOk f s) (hs0 : s < f 0) (h0 : f 0 ≤ 10) {Q : Res → Wd → Prop} (k : ∀ b : Int, (b = 1 ∧ CanT f s) ∨ (b = 0 ∧ ¬ (CanT f s)) → Q (0, vI b) (M, S)) : EvQ 3 102 [vR r1, vI s] (M, S) Q := by
  refine EvQ.enter (ls := [vR r1, vI s, none, none]) (Nat.le_of_ble_eq_true rfl) rfl ?_
  have hs1 := hs.1
  have hs3 := hs.2.2.1
  have hs4 := hs.2.2.2.1
  refine WP.blk 2 ?_
  show WP 2 102 2 [vR r1, vI s, none, none] [vI s, vR r1] (M, S) Q
  refine WP.cl (a := [vR r1, vI s]) (rest := []) rfl rfl rfl rfl ⟨hS.1, trivial⟩ (by decide) (k_len hS hst (by omega) (by omega) ⟨rfl, ?_⟩)
  show WP 2 102 5 [vR r1, vI s, none, none] [vI (f (7 + 9 * s))] (M, S) Q
  refine WP.blk 3 ?_
  show WP 2 102 8 [vR r1, vI s, vI (f (7 + 9 * s)), vI 0] [] (M, S) Q
  have hl_8 : ∀ (n_8 : Nat) (i : Int), 0 ≤ i ∧ i ≤ f (7 + 9 * s) → (∀ j, 0 ≤ j → j < i → tur (f (7 + 9 * s + 1 + j)) ≠ -1) → (f (7 + 9 * s) - i).toNat < n_8 → WP 2 102 8 [vR r1, vI s, vI (f (7 + 9 * s)), vI i] [] (M, S) Q := by
    intro n_8
    induction n_8 with
    | zero => intro i h1 h2 hm_8; exact absurd hm_8 (Nat.not_lt_zero _)
    | succ n_8 ih_8 =>
      intro i h1 h2 hm_8
      refine WP.blk 3 ?_
      show WP 2 102 (if cnd .ge i (f (7 + 9 * s)) = true then 34 else 13) [vR r1, vI s, vI (f (7 + 9 * s)), vI i] [] (M, S) Q
      refine br_ge (fun c_1 => ?_) (fun c_1 => ?_)
      · refine WP.blk 1 ?_
        show WP 2 102 35 [vR r1, vI s, vI (f (7 + 9 * s)), vI i] [vI 1] (M, S) Q
        exact WP.ret rfl rfl rfl ⟨by omega, trivial⟩ (k _ (Or.inl ⟨rfl, fun j a b => h2 j a (by omega)⟩))
      · refine WP.blk 3 ?_
        show WP 2 102 16 [vR r1, vI s, vI (f (7 + 9 * s)), vI i] [vI i, vI s, vR r1] (M, S) Q
        refine WP.cl (a := [vR r1, vI s, vI i]) (rest := []) rfl rfl rfl rfl ⟨hS.1, trivial⟩ (by decide) (k_let hS hst (by omega) (by omega) (by omega) (show _ ∧ _ < f (7 + 9 * s) by omega) ⟨rfl, ?_⟩)
        show WP 2 102 19 [vR r1, vI s, vI (f (7 + 9 * s)), vI i] [vI (f (7 + 9 * s + 1 + i))] (M, S) Q
        refine WP.cl (a := [vI (f (7 + 9 * s + 1 + i))]) (rest := []) rfl rfl rfl rfl trivial (by decide) (k_turned hT2 htu (hs.2.2.2.2 i (by omega) (by omega)) ⟨rfl, ?_⟩)
        show WP 2 102 22 [vR r1, vI s, vI (f (7 + 9 * s)), vI i] [vI (tur (f (7 + 9 * s + 1 + i)))] (M, S) Q
        refine WP.blk 2 ?_
        show WP 2 102 (if cnd .ne (tur (f (7 + 9 * s + 1 + i))) (-1) = true then 28 else 26) [vR r1, vI s, vI (f (7 + 9 * s)), vI i] [] (M, S) Q
        refine br_ne (fun c_2 => ?_) (fun c_2 => ?_)
        · refine WP.blk 2 ?_
          show ir (i + 1) ∧ WP 2 102 8 [vR r1, vI s, vI (f (7 + 9 * s)), vI (i + 1)] [] (M, S) Q
          refine ⟨(by unfold ir; omega), ?_⟩
          exact ih_8 (i + 1) (by omega) (fun j a b => by by_cases e : j = i; (rw [e]; assumption); exact h2 j a (by omega))  (by omega)
        · refine WP.blk 1 ?_
          show WP 2 102 27 [vR r1, vI s, vI (f (7 + 9 * s)), vI i] [vI 0] (M, S) Q
          exact WP.ret rfl rfl rfl ⟨by omega, trivial⟩ (k _ (Or.inr ⟨rfl, fun h => absurd (by assumption) (h i h1.1 (by omega))⟩))
  exact hl_8 _ 0 (by omega) (fun j a b => by omega)  (Nat.lt_succ_self _)
set_option maxHeartbeats 4000000 in
theorem k_fitting {S : SD} {M : Nat → Int → Int} {k1 : Nat} {f : Int → Int} {s t w p : Int} (hS : isSheet S k1) (hT2 : sT S 2 = 17 ∧ sN S 2 = 26) (htu : TurR M) (hst : StR M (k1 + 1) f) (hwd : WdR M (k1 + 4) f) (hs : StOk f s) (hs0 : s < f 0) (h0 : f 0 ≤ 10) (ht : t = 0 ∨ t = 1) (hw : 0 ≤ w ∧ w < f 1) (h7 : f 1 ≤ 7) (hp : 0 ≤ p ∧ p + f (7 + 9 * s) ≤ f (97 + 14 * w)) (hl : f (97 + 14 * w) ≤ 12) {Q : Res → Wd → Prop} (k : ∀ x : Int, Ft f w p s t x → Q (0, vI x) (M, S)) : EvQ 4 10 [vR k1, vI s, vI t, vI w, vI p] (M, S) Q := by
  refine EvQ.enter (ls := [vR k1, vI s, vI t, vI w, vI p, none, none]) (Nat.le_of_ble_eq_true rfl) rfl ?_
  have hs1 := hs.1
  have hs3 := hs.2.2.1
  have hs4 := hs.2.2.2.1
  refine WP.blk 2 ?_
  show (sT S k1 = 8 ∧ sR S k1 0 ≠ 0) ∧ WP 3 10 4 [vR k1, vI s, vI t, vI w, vI p, none, none] [vR (sR S k1 0)] (M, S) Q
  refine ⟨⟨hS.1, by rw [(show sR S k1 0 = k1 + 1 from hS.2.1)]; omega⟩, ?_⟩
  rw [(show sR S k1 0 = k1 + 1 from hS.2.1)]
  refine WP.blk 1 ?_
  show WP 3 10 5 [vR k1, vI s, vI t, vI w, vI p, none, none] [vI s, vR (k1 + 1)] (M, S) Q
  refine WP.cl (a := [vR (k1 + 1), vI s]) (rest := []) rfl rfl rfl rfl ⟨hS.2.2.2.2.2.1.1, trivial⟩ (by decide) (k_len hS.2.2.2.2.2.1 hst (by omega) (by omega) ⟨rfl, ?_⟩)
  show WP 3 10 8 [vR k1, vI s, vI t, vI w, vI p, none, none] [vI (f (7 + 9 * s))] (M, S) Q
  refine WP.blk 3 ?_
  show WP 3 10 13 [vR k1, vI s, vI t, vI w, vI p, vI (f (7 + 9 * s)), vI 0] [] (M, S) Q
  have hl_13 : ∀ (n_13 : Nat) (i : Int), 0 ≤ i ∧ i ≤ f (7 + 9 * s) → (∀ j, 0 ≤ j → j < i → prL f s j t = f (97 + 14 * w + 2 + p + j)) → (f (7 + 9 * s) - i).toNat < n_13 → WP 3 10 13 [vR k1, vI s, vI t, vI w, vI p, vI (f (7 + 9 * s)), vI i] [] (M, S) Q := by
    intro n_13
    induction n_13 with
    | zero => intro i h1 h2 hm_13; exact absurd hm_13 (Nat.not_lt_zero _)
    | succ n_13 ih_13 =>
      intro i h1 h2 hm_13
      refine WP.blk 3 ?_
      show WP 3 10 (if cnd .ge i (f (7 + 9 * s)) = true then 55 else 20) [vR k1, vI s, vI t, vI w, vI p, vI (f (7 + 9 * s)), vI i] [] (M, S) Q
      refine br_ge (fun c_1 => ?_) (fun c_1 => ?_)
      · refine WP.blk 6 ?_
        show ir (2 * s) ∧ WP 3 10 (if cnd .eq t 0 = true then 67 else 63) [vR k1, vI s, vI t, vI w, vI p, vI (f (7 + 9 * s)), vI i] [vI (2 * s), vI 1] (M, S) Q
        refine ⟨(by unfold ir; omega), ?_⟩
        refine br_eq (fun c_2 => ?_) (fun c_2 => ?_)
        · refine WP.blk 3 ?_
          show ir ((2 * s) + 0) ∧ WP 3 10 70 [vR k1, vI s, vI t, vI w, vI p, vI (f (7 + 9 * s)), vI i] [vI (iL 1 ((2 * s) + 0))] (M, S) Q
          refine ⟨(by unfold ir; omega), ?_⟩
          exact WP.ret rfl rfl rfl trivial (k _ (Or.inl ⟨⟨by omega, fun j a b => h2 j a (by omega)⟩, by congr 1; omega⟩))
        · refine WP.blk 4 ?_
          show ir ((2 * s) + 1) ∧ WP 3 10 70 [vR k1, vI s, vI t, vI w, vI p, vI (f (7 + 9 * s)), vI i] [vI (iL 1 ((2 * s) + 1))] (M, S) Q
          refine ⟨(by unfold ir; omega), ?_⟩
          exact WP.ret rfl rfl rfl trivial (k _ (Or.inl ⟨⟨by omega, fun j a b => h2 j a (by omega)⟩, by congr 1; omega⟩))
      · refine WP.blk 2 ?_
        show (sT S k1 = 8 ∧ sR S k1 0 ≠ 0) ∧ WP 3 10 24 [vR k1, vI s, vI t, vI w, vI p, vI (f (7 + 9 * s)), vI i] [vR (sR S k1 0)] (M, S) Q
        refine ⟨⟨hS.1, by rw [(show sR S k1 0 = k1 + 1 from hS.2.1)]; omega⟩, ?_⟩
        rw [(show sR S k1 0 = k1 + 1 from hS.2.1)]
        refine WP.blk 3 ?_
        show WP 3 10 28 [vR k1, vI s, vI t, vI w, vI p, vI (f (7 + 9 * s)), vI i] [vI t, vI i, vI s, vR (k1 + 1)] (M, S) Q
        refine WP.cl (a := [vR (k1 + 1), vI s, vI i, vI t]) (rest := []) rfl rfl rfl rfl trivial (by decide) (k_printed hS.2.2.2.2.2.1 hT2 htu hst hs hs0 h0 (by omega) ⟨rfl, ?_⟩)
        show WP 3 10 31 [vR k1, vI s, vI t, vI w, vI p, vI (f (7 + 9 * s)), vI i] [vI (prL f s i t)] (M, S) Q
        refine WP.blk 2 ?_
        show (sT S k1 = 8 ∧ sR S k1 1 ≠ 0) ∧ WP 3 10 35 [vR k1, vI s, vI t, vI w, vI p, vI (f (7 + 9 * s)), vI i] [vR (sR S k1 1), vI (prL f s i t)] (M, S) Q
        refine ⟨⟨hS.1, by rw [(show sR S k1 1 = k1 + 4 from hS.2.2.1)]; omega⟩, ?_⟩
        rw [(show sR S k1 1 = k1 + 4 from hS.2.2.1)]
        refine WP.blk 4 ?_
        show ir (p + i) ∧ WP 3 10 41 [vR k1, vI s, vI t, vI w, vI p, vI (f (7 + 9 * s)), vI i] [vI (p + i), vI w, vR (k1 + 4), vI (prL f s i t)] (M, S) Q
        refine ⟨(by unfold ir; omega), ?_⟩
        refine WP.cl (a := [vR (k1 + 4), vI w, vI (p + i)]) (rest := [vI (prL f s i t)]) rfl rfl rfl rfl ⟨hS.2.2.2.2.2.2.1.1, trivial⟩ (by decide) (k_let hS.2.2.2.2.2.2.1 hwd (by omega) (by omega) (by omega) (show _ ∧ _ < f (97 + 14 * w) by omega) ⟨rfl, ?_⟩)
        show WP 3 10 44 [vR k1, vI s, vI t, vI w, vI p, vI (f (7 + 9 * s)), vI i] [vI (f (97 + 14 * w + 2 + (p + i))), vI (prL f s i t)] (M, S) Q
        refine WP.blk 1 ?_
        show WP 3 10 (if cnd .eq (prL f s i t) (f (97 + 14 * w + 2 + (p + i))) = true then 49 else 47) [vR k1, vI s, vI t, vI w, vI p, vI (f (7 + 9 * s)), vI i] [] (M, S) Q
        refine br_eq (fun c_3 => ?_) (fun c_3 => ?_)
        · refine WP.blk 2 ?_
          show ir (i + 1) ∧ WP 3 10 13 [vR k1, vI s, vI t, vI w, vI p, vI (f (7 + 9 * s)), vI (i + 1)] [] (M, S) Q
          refine ⟨(by unfold ir; omega), ?_⟩
          exact ih_13 (i + 1) (by omega) (fun j a b => by by_cases e : j = i; (rw [e, show 97 + 14 * w + 2 + p + i = 97 + 14 * w + 2 + (p + i) by omega]; assumption); exact h2 j a (by omega))  (by omega)
        · refine WP.blk 1 ?_
          show WP 3 10 48 [vR k1, vI s, vI t, vI w, vI p, vI (f (7 + 9 * s)), vI i] [vI 0] (M, S) Q
          exact WP.ret rfl rfl rfl trivial (k _ (Or.inr ⟨fun h => absurd (h.2 i h1.1 (by omega)) (by rw [show 97 + 14 * w + 2 + p + i = 97 + 14 * w + 2 + (p + i) by omega]; assumption), rfl⟩))
  exact hl_13 _ 0 (by omega) (fun j a b => by omega)  (Nat.lt_succ_self _)
set_option maxHeartbeats 4000000 in
theorem k_cell {S : SD} {M : Nat → Int → Int} {w p n : Int} (hw : 0 ≤ w ∧ w ≤ 6) (hp : 0 ≤ p ∧ p ≤ 12) (hn : 0 ≤ n ∧ n ≤ 12) {Q : Res → Wd → Prop} (k : Q (0, vI ((w * 12 + p) * 5 + n - 1)) (M, S)) : EvQ 1 6 [vI w, vI p, vI n] (M, S) Q := by
  refine EvQ.enter (ls := [vI w, vI p, vI n]) (Nat.le_of_ble_eq_true rfl) rfl ?_
  refine WP.blk 11 ?_
  show ir (w * 12) ∧ ir ((w * 12) + p) ∧ ir (((w * 12) + p) * 5) ∧ ir ((((w * 12) + p) * 5) + n) ∧ ir (((((w * 12) + p) * 5) + n) - 1) ∧ WP 0 6 12 [vI w, vI p, vI n] [vI (((((w * 12) + p) * 5) + n) - 1)] (M, S) Q
  refine ⟨(by unfold ir; omega), (by unfold ir; omega), (by unfold ir; omega), (by unfold ir; omega), (by unfold ir; omega), ?_⟩
  exact WP.ret rfl rfl rfl trivial k
set_option maxHeartbeats 4000000 in
theorem k_at {S : SD} {M : Nat → Int → Int} {g1 : Nat} {w p n : Int} (hS3 : isFits S g1) (hw : 0 ≤ w ∧ w ≤ 6) (hp : 0 ≤ p ∧ 1 ≤ n ∧ n ≤ 5 ∧ p + n ≤ 12) {Q : Res → Wd → Prop} (k : Q (0, vI (M (g1 + 1) ((w * 12 + p) * 5 + n - 1))) (M, S)) : EvQ 2 7 [vR g1, vI w, vI p, vI n] (M, S) Q := by
  refine EvQ.enter (ls := [vR g1, vI w, vI p, vI n, none]) (Nat.le_of_ble_eq_true rfl) rfl ?_
  refine WP.blk 3 ?_
  show WP 1 7 3 [vR g1, vI w, vI p, vI n, none] [vI n, vI p, vI w] (M, S) Q
  refine WP.cl (a := [vI w, vI p, vI n]) (rest := []) rfl rfl rfl rfl trivial (by decide) (k_cell (by omega) (by omega) (by omega) ⟨rfl, ?_⟩)
  show WP 1 7 6 [vR g1, vI w, vI p, vI n, none] [vI ((w * 12 + p) * 5 + n - 1)] (M, S) Q
  refine WP.blk 3 ?_
  show WP 1 7 (if cnd .lt ((w * 12 + p) * 5 + n - 1) 0 = true then 31 else 13) [vR g1, vI w, vI p, vI n, vI ((w * 12 + p) * 5 + n - 1)] [] (M, S) Q
  refine br_lt (fun c_1 => ?_) (fun c_1 => ?_)
  · refine WP.blk 1 ?_
    show WP 1 7 32 [vR g1, vI w, vI p, vI n, vI ((w * 12 + p) * 5 + n - 1)] [vI 0] (M, S) Q
    exact WP.ret rfl rfl rfl trivial (by exfalso; omega)
  · refine WP.blk 3 ?_
    show WP 1 7 (if cnd .ge ((w * 12 + p) * 5 + n - 1) 420 = true then 31 else 21) [vR g1, vI w, vI p, vI n, vI ((w * 12 + p) * 5 + n - 1)] [] (M, S) Q
    refine br_ge (fun c_2 => ?_) (fun c_2 => ?_)
    · refine WP.blk 1 ?_
      show WP 1 7 32 [vR g1, vI w, vI p, vI n, vI ((w * 12 + p) * 5 + n - 1)] [vI 0] (M, S) Q
      exact WP.ret rfl rfl rfl trivial (by exfalso; omega)
    · refine WP.blk 2 ?_
      show (sT S g1 = 2 ∧ sR S g1 0 ≠ 0) ∧ WP 1 7 25 [vR g1, vI w, vI p, vI n, vI ((w * 12 + p) * 5 + n - 1)] [vR (sR S g1 0)] (M, S) Q
      refine ⟨⟨hS3.1, by rw [(show sR S g1 0 = g1 + 1 from hS3.2.1)]; omega⟩, ?_⟩
      rw [(show sR S g1 0 = g1 + 1 from hS3.2.1)]
      refine WP.blk 3 ?_
      show ((sT S (g1 + 1) = 11 ∨ sT S (g1 + 1) = 16 ∨ sT S (g1 + 1) = 17) ∧ 0 ≤ ((w * 12 + p) * 5 + n - 1) ∧ ((w * 12 + p) * 5 + n - 1) < (sN S (g1 + 1) : Int)) ∧ WP 1 7 32 [vR g1, vI w, vI p, vI n, vI ((w * 12 + p) * 5 + n - 1)] [vI (M (g1 + 1) ((w * 12 + p) * 5 + n - 1))] (M, S) Q
      refine ⟨⟨Or.inl hS3.2.2.1, by omega, by rw [(show sN S (g1 + 1) = 420 from hS3.2.2.2)]; omega⟩, ?_⟩
      exact WP.ret rfl rfl rfl trivial k
set_option maxHeartbeats 4000000 in
theorem k_add {S : SD} {M : Nat → Int → Int} {k1 g1 : Nat} {f : Int → Int} {s : Int} (hS : isSheet S k1) (hS3 : isFits S g1) (hT2 : sT S 2 = 17 ∧ sN S 2 = 26) (hd : k1 + 12 ≤ g1 ∨ g1 + 2 ≤ k1) (hd2 : 3 ≤ g1) (hk3 : 3 ≤ k1) (htu : TurR M) (hst : StR M (k1 + 1) f) (hwd : WdR M (k1 + 4) f) (hs : StOk f s) (hs0 : s < f 0) (h0 : f 0 ≤ 10) (h7 : f 1 ≤ 7) (hl : ∀ w, 0 ≤ w → w < f 1 → f (97 + 14 * w) ≤ 12) (hf : FitR M g1 f s) {Q : Res → Wd → Prop} (k : ∀ M2 : Nat → Int → Int, (∀ q9, q9 ≠ g1 + 1 → M2 q9 = M q9) → FitR M2 g1 f (s + 1) → Q (0, none) (M2, S)) : EvQ 5 9 [vR g1, vR k1, vI s] (M, S) Q := by
  refine EvQ.enter (ls := [vR g1, vR k1, vI s, none, none, none, none, none]) (Nat.le_of_ble_eq_true rfl) rfl ?_
  have hs1 := hs.1
  have hs3 := hs.2.2.1
  have hs4 := hs.2.2.2.1
  obtain ⟨g, hg⟩ : ∃ y9, M (g1 + 1) = y9 := ⟨_, rfl⟩
  unfold FitR at hf
  rw [hg] at hf
  have hf1 : 0 ≤ f 1 := hwd.2.1.1
  refine WP.blk 2 ?_
  show (sT S k1 = 8 ∧ sR S k1 0 ≠ 0) ∧ WP 4 9 4 [vR g1, vR k1, vI s, none, none, none, none, none] [vR (sR S k1 0)] (M, S) Q
  refine ⟨⟨hS.1, by rw [(show sR S k1 0 = k1 + 1 from hS.2.1)]; omega⟩, ?_⟩
  rw [(show sR S k1 0 = k1 + 1 from hS.2.1)]
  refine WP.blk 1 ?_
  show WP 4 9 5 [vR g1, vR k1, vI s, none, none, none, none, none] [vI s, vR (k1 + 1)] (M, S) Q
  refine WP.cl (a := [vR (k1 + 1), vI s]) (rest := []) rfl rfl rfl rfl ⟨hS.2.2.2.2.2.1.1, trivial⟩ (by decide) (k_len hS.2.2.2.2.2.1 hst (by omega) (by omega) ⟨rfl, ?_⟩)
  show WP 4 9 8 [vR g1, vR k1, vI s, none, none, none, none, none] [vI (f (7 + 9 * s))] (M, S) Q
  refine WP.blk 3 ?_
  show WP 4 9 12 [vR g1, vR k1, vI s, vI (f (7 + 9 * s)), vI 0, none, none, none] [] (M, S) Q
  have hl_12 : ∀ (n_12 : Nat) (w : Int) (v5_12 : V) (v6_12 : V) (v7_12 : V) (Ma : Nat → Int → Int) (ga : Int → Int), 0 ≤ w ∧ w ≤ f 1 → AddG f s w 0 ga → Ma (g1 + 1) = ga → StR Ma (k1 + 1) f → WdR Ma (k1 + 4) f → TurR Ma → (∀ q9, q9 ≠ g1 + 1 → Ma q9 = M q9) → (f 1 - w).toNat < n_12 → WP 4 9 12 [vR g1, vR k1, vI s, vI (f (7 + 9 * s)), vI w, v5_12, v6_12, v7_12] [] (Ma, S) Q := by
    intro n_12
    induction n_12 with
    | zero => intro w v5_12 v6_12 v7_12 Ma ga h1 h2 z_12_0 F_12_st F_12_wd F_12_tu fr_12 hm_12; exact absurd hm_12 (Nat.not_lt_zero _)
    | succ n_12 ih_12 =>
      intro w v5_12 v6_12 v7_12 Ma ga h1 h2 z_12_0 F_12_st F_12_wd F_12_tu fr_12 hm_12
      have hl9 : w < f 1 → f (97 + 14 * w) ≤ 12 := fun h => hl w h1.1 h
      have hl8 : w < f 1 → 0 ≤ f (97 + 14 * w) := fun h => ((hwd.2.2 w h1.1 h).1).2.1
      refine WP.blk 3 ?_
      show (sT S k1 = 8 ∧ sR S k1 1 ≠ 0) ∧ WP 4 9 18 [vR g1, vR k1, vI s, vI (f (7 + 9 * s)), vI w, v5_12, v6_12, v7_12] [vR (sR S k1 1), vI w] (Ma, S) Q
      refine ⟨⟨hS.1, by rw [(show sR S k1 1 = k1 + 4 from hS.2.2.1)]; omega⟩, ?_⟩
      rw [(show sR S k1 1 = k1 + 4 from hS.2.2.1)]
      refine WP.blk 2 ?_
      show sT S (k1 + 4) = 7 ∧ WP 4 9 (if cnd .ge w (Ma (k1 + 4) 4) = true then 122 else 24) [vR g1, vR k1, vI s, vI (f (7 + 9 * s)), vI w, v5_12, v6_12, v7_12] [] (Ma, S) Q
      rw [F_12_wd.1.2.2]
      refine ⟨hS.2.2.2.2.2.2.1.1, ?_⟩
      refine br_ge (fun c_1 => ?_) (fun c_1 => ?_)
      · exact WP.ret rfl rfl rfl trivial (k _ fr_12 (by unfold FitR; rw [z_12_0]; exact AddG_e (by omega) h2))
      · refine WP.blk 2 ?_
        show (sT S k1 = 8 ∧ sR S k1 1 ≠ 0) ∧ WP 4 9 28 [vR g1, vR k1, vI s, vI (f (7 + 9 * s)), vI w, v5_12, v6_12, v7_12] [vR (sR S k1 1)] (Ma, S) Q
        refine ⟨⟨hS.1, by rw [(show sR S k1 1 = k1 + 4 from hS.2.2.1)]; omega⟩, ?_⟩
        rw [(show sR S k1 1 = k1 + 4 from hS.2.2.1)]
        refine WP.blk 1 ?_
        show WP 4 9 30 [vR g1, vR k1, vI s, vI (f (7 + 9 * s)), vI w, v5_12, v6_12, v7_12] [vI w, vR (k1 + 4)] (Ma, S) Q
        refine WP.cl (a := [vR (k1 + 4), vI w]) (rest := []) rfl rfl rfl rfl ⟨hS.2.2.2.2.2.2.1.1, trivial⟩ (by decide) (k_len hS.2.2.2.2.2.2.1 F_12_wd (by omega) (by omega) ⟨rfl, ?_⟩)
        show WP 4 9 33 [vR g1, vR k1, vI s, vI (f (7 + 9 * s)), vI w, v5_12, v6_12, v7_12] [vI (f (97 + 14 * w))] (Ma, S) Q
        refine WP.blk 5 ?_
        show ir ((f (97 + 14 * w)) - (f (7 + 9 * s))) ∧ WP 4 9 40 [vR g1, vR k1, vI s, vI (f (7 + 9 * s)), vI w, vI ((f (97 + 14 * w)) - (f (7 + 9 * s))), vI 0, v7_12] [] (Ma, S) Q
        refine ⟨(by unfold ir; omega), ?_⟩
        have hl_40 : ∀ (n_40 : Nat) (p : Int) (v7_40 : V) (Mb : Nat → Int → Int) (gb : Int → Int), 0 ≤ p ∧ p ≤ 13 → AddG f s w p gb → Mb (g1 + 1) = gb → StR Mb (k1 + 1) f → WdR Mb (k1 + 4) f → TurR Mb → (∀ q9, q9 ≠ g1 + 1 → Mb q9 = M q9) → (13 - p).toNat < n_40 → WP 4 9 40 [vR g1, vR k1, vI s, vI (f (7 + 9 * s)), vI w, vI ((f (97 + 14 * w)) - (f (7 + 9 * s))), vI p, v7_40] [] (Mb, S) Q := by
          intro n_40
          induction n_40 with
          | zero => intro p v7_40 Mb gb h3 h4 z_40_0 F_40_st F_40_wd F_40_tu fr_40 hm_40; exact absurd hm_40 (Nat.not_lt_zero _)
          | succ n_40 ih_40 =>
            intro p v7_40 Mb gb h3 h4 z_40_0 F_40_st F_40_wd F_40_tu fr_40 hm_40
            refine WP.blk 3 ?_
            show WP 4 9 (if cnd .gt p ((f (97 + 14 * w)) - (f (7 + 9 * s))) = true then 116 else 47) [vR g1, vR k1, vI s, vI (f (7 + 9 * s)), vI w, vI ((f (97 + 14 * w)) - (f (7 + 9 * s))), vI p, v7_40] [] (Mb, S) Q
            refine br_gt (fun c_2 => ?_) (fun c_2 => ?_)
            · refine WP.blk 2 ?_
              show ir (w + 1) ∧ WP 4 9 12 [vR g1, vR k1, vI s, vI (f (7 + 9 * s)), vI (w + 1), vI ((f (97 + 14 * w)) - (f (7 + 9 * s))), vI p, v7_40] [] (Mb, S) Q
              refine ⟨(by unfold ir; omega), ?_⟩
              exact ih_12 (w + 1) (vI ((f (97 + 14 * w)) - (f (7 + 9 * s)))) (vI p) (v7_40) Mb gb (by omega) (AddG_w (by omega) h4) z_40_0 F_40_st F_40_wd F_40_tu fr_40 (by omega)
            · refine WP.blk 3 ?_
              show WP 4 9 52 [vR g1, vR k1, vI s, vI (f (7 + 9 * s)), vI w, vI ((f (97 + 14 * w)) - (f (7 + 9 * s))), vI p, v7_40] [vI (f (7 + 9 * s)), vI p, vI w] (Mb, S) Q
              refine WP.cl (a := [vI w, vI p, vI (f (7 + 9 * s))]) (rest := []) rfl rfl rfl rfl trivial (by decide) (k_cell (by omega) (by omega) (by omega) ⟨rfl, ?_⟩)
              show WP 4 9 55 [vR g1, vR k1, vI s, vI (f (7 + 9 * s)), vI w, vI ((f (97 + 14 * w)) - (f (7 + 9 * s))), vI p, v7_40] [vI ((w * 12 + p) * 5 + (f (7 + 9 * s)) - 1)] (Mb, S) Q
              refine WP.blk 3 ?_
              show WP 4 9 (if cnd .lt ((w * 12 + p) * 5 + (f (7 + 9 * s)) - 1) 0 = true then 110 else 62) [vR g1, vR k1, vI s, vI (f (7 + 9 * s)), vI w, vI ((f (97 + 14 * w)) - (f (7 + 9 * s))), vI p, vI ((w * 12 + p) * 5 + (f (7 + 9 * s)) - 1)] [] (Mb, S) Q
              refine br_lt (fun c_3 => ?_) (fun c_3 => ?_)
              · refine WP.blk 2 ?_
                show ir (p + 1) ∧ WP 4 9 40 [vR g1, vR k1, vI s, vI (f (7 + 9 * s)), vI w, vI ((f (97 + 14 * w)) - (f (7 + 9 * s))), vI (p + 1), vI ((w * 12 + p) * 5 + (f (7 + 9 * s)) - 1)] [] (Mb, S) Q
                refine ⟨(by unfold ir; omega), ?_⟩
                exact ih_40 (p + 1) (vI ((w * 12 + p) * 5 + (f (7 + 9 * s)) - 1)) Mb gb (by exfalso; omega) (by exfalso; omega) z_40_0 F_40_st F_40_wd F_40_tu fr_40 (by omega)
              · refine WP.blk 3 ?_
                show WP 4 9 (if cnd .ge ((w * 12 + p) * 5 + (f (7 + 9 * s)) - 1) 420 = true then 110 else 70) [vR g1, vR k1, vI s, vI (f (7 + 9 * s)), vI w, vI ((f (97 + 14 * w)) - (f (7 + 9 * s))), vI p, vI ((w * 12 + p) * 5 + (f (7 + 9 * s)) - 1)] [] (Mb, S) Q
                refine br_ge (fun c_4 => ?_) (fun c_4 => ?_)
                · refine WP.blk 2 ?_
                  show ir (p + 1) ∧ WP 4 9 40 [vR g1, vR k1, vI s, vI (f (7 + 9 * s)), vI w, vI ((f (97 + 14 * w)) - (f (7 + 9 * s))), vI (p + 1), vI ((w * 12 + p) * 5 + (f (7 + 9 * s)) - 1)] [] (Mb, S) Q
                  refine ⟨(by unfold ir; omega), ?_⟩
                  exact ih_40 (p + 1) (vI ((w * 12 + p) * 5 + (f (7 + 9 * s)) - 1)) Mb gb (by exfalso; omega) (by exfalso; omega) z_40_0 F_40_st F_40_wd F_40_tu fr_40 (by omega)
                · refine WP.blk 2 ?_
                  show (sT S g1 = 2 ∧ sR S g1 0 ≠ 0) ∧ WP 4 9 74 [vR g1, vR k1, vI s, vI (f (7 + 9 * s)), vI w, vI ((f (97 + 14 * w)) - (f (7 + 9 * s))), vI p, vI ((w * 12 + p) * 5 + (f (7 + 9 * s)) - 1)] [vR (sR S g1 0)] (Mb, S) Q
                  refine ⟨⟨hS3.1, by rw [(show sR S g1 0 = g1 + 1 from hS3.2.1)]; omega⟩, ?_⟩
                  rw [(show sR S g1 0 = g1 + 1 from hS3.2.1)]
                  refine WP.blk 8 ?_
                  show ((sT S (g1 + 1) = 11 ∨ sT S (g1 + 1) = 16 ∨ sT S (g1 + 1) = 17) ∧ 0 ≤ ((w * 12 + p) * 5 + (f (7 + 9 * s)) - 1) ∧ ((w * 12 + p) * 5 + (f (7 + 9 * s)) - 1) < (sN S (g1 + 1) : Int)) ∧ WP 4 9 85 [vR g1, vR k1, vI s, vI (f (7 + 9 * s)), vI w, vI ((f (97 + 14 * w)) - (f (7 + 9 * s))), vI p, vI ((w * 12 + p) * 5 + (f (7 + 9 * s)) - 1)] [vI p, vI w, vI 0, vI s, vR k1, vI (Mb (g1 + 1) ((w * 12 + p) * 5 + (f (7 + 9 * s)) - 1)), vI ((w * 12 + p) * 5 + (f (7 + 9 * s)) - 1), vR (g1 + 1)] (Mb, S) Q
                  rw [z_40_0]
                  refine ⟨⟨Or.inl hS3.2.2.1, by omega, by rw [(show sN S (g1 + 1) = 420 from hS3.2.2.2)]; omega⟩, ?_⟩
                  refine WP.cl (a := [vR k1, vI s, vI 0, vI w, vI p]) (rest := [vI (gb ((w * 12 + p) * 5 + (f (7 + 9 * s)) - 1)), vI ((w * 12 + p) * 5 + (f (7 + 9 * s)) - 1), vR (g1 + 1)]) rfl rfl rfl rfl trivial (by decide) (k_fitting hS hT2 F_40_tu F_40_st F_40_wd hs hs0 h0 (by omega) (by omega) h7 (by omega) (hl w (by omega) (by omega)) (fun x_5 hx_5 => ⟨rfl, ?_⟩))
                  show WP 4 9 88 [vR g1, vR k1, vI s, vI (f (7 + 9 * s)), vI w, vI ((f (97 + 14 * w)) - (f (7 + 9 * s))), vI p, vI ((w * 12 + p) * 5 + (f (7 + 9 * s)) - 1)] [vI x_5, vI (gb ((w * 12 + p) * 5 + (f (7 + 9 * s)) - 1)), vI ((w * 12 + p) * 5 + (f (7 + 9 * s)) - 1), vR (g1 + 1)] (Mb, S) Q
                  have hUx_5 : U20 x_5 := by rcases hx_5 with h | h; (rw [h.2]; exact (bs1_20 (by omega)).1); (rw [h.2]; exact U20_0)
                  refine WP.blk 2 ?_
                  show (sT S (g1 + 1) = 11 ∧ 0 ≤ ((w * 12 + p) * 5 + (f (7 + 9 * s)) - 1) ∧ ((w * 12 + p) * 5 + (f (7 + 9 * s)) - 1) < (sN S (g1 + 1) : Int)) ∧ WP 4 9 90 [vR g1, vR k1, vI s, vI (f (7 + 9 * s)), vI w, vI ((f (97 + 14 * w)) - (f (7 + 9 * s))), vI p, vI ((w * 12 + p) * 5 + (f (7 + 9 * s)) - 1)] [] (up Mb (g1 + 1) ((w * 12 + p) * 5 + (f (7 + 9 * s)) - 1) (iO (gb ((w * 12 + p) * 5 + (f (7 + 9 * s)) - 1)) x_5), S) Q
                  refine ⟨⟨hS3.2.2.1, by omega, by rw [(show sN S (g1 + 1) = 420 from hS3.2.2.2)]; omega⟩, ?_⟩
                  generalize hM_6 : up Mb (g1 + 1) ((w * 12 + p) * 5 + (f (7 + 9 * s)) - 1) (iO (gb ((w * 12 + p) * 5 + (f (7 + 9 * s)) - 1)) x_5) = M_6
                  obtain ⟨g_8, hg_8⟩ : ∃ y9, y9 = uf gb ((w * 12 + p) * 5 + (f (7 + 9 * s)) - 1) (iO (gb ((w * 12 + p) * 5 + (f (7 + 9 * s)) - 1)) x_5) := ⟨_, rfl⟩
                  have r_7 : M_6 (g1 + 1) = g_8 := by rw [← hM_6, hg_8, up_self, z_40_0]
                  have F_9 : StR M_6 (k1 + 1) f := StR_fr (fun r9 h8 h9 => by rw [← hM_6]; exact up_row (by omega)) F_40_st
                  have F_10 : WdR M_6 (k1 + 4) f := WdR_fr (fun r9 h8 h9 => by rw [← hM_6]; exact up_row (by omega)) F_40_wd
                  have F_11 : TurR M_6 := TurR_fr (fun r9 h8 h9 => by rw [← hM_6]; exact up_row (by omega)) F_40_tu
                  have fr_12 : (∀ q9, q9 ≠ g1 + 1 → M_6 q9 = M q9) := fun q9 q0 => by rw [← hM_6]; exact (up_row (by omega)).trans (fr_40 q9 q0)
                  refine WP.blk 2 ?_
                  show (sT S g1 = 2 ∧ sR S g1 0 ≠ 0) ∧ WP 4 9 94 [vR g1, vR k1, vI s, vI (f (7 + 9 * s)), vI w, vI ((f (97 + 14 * w)) - (f (7 + 9 * s))), vI p, vI ((w * 12 + p) * 5 + (f (7 + 9 * s)) - 1)] [vR (sR S g1 0)] (M_6, S) Q
                  refine ⟨⟨hS3.1, by rw [(show sR S g1 0 = g1 + 1 from hS3.2.1)]; omega⟩, ?_⟩
                  rw [(show sR S g1 0 = g1 + 1 from hS3.2.1)]
                  refine WP.blk 8 ?_
                  show ((sT S (g1 + 1) = 11 ∨ sT S (g1 + 1) = 16 ∨ sT S (g1 + 1) = 17) ∧ 0 ≤ ((w * 12 + p) * 5 + (f (7 + 9 * s)) - 1) ∧ ((w * 12 + p) * 5 + (f (7 + 9 * s)) - 1) < (sN S (g1 + 1) : Int)) ∧ WP 4 9 105 [vR g1, vR k1, vI s, vI (f (7 + 9 * s)), vI w, vI ((f (97 + 14 * w)) - (f (7 + 9 * s))), vI p, vI ((w * 12 + p) * 5 + (f (7 + 9 * s)) - 1)] [vI p, vI w, vI 1, vI s, vR k1, vI (M_6 (g1 + 1) ((w * 12 + p) * 5 + (f (7 + 9 * s)) - 1)), vI ((w * 12 + p) * 5 + (f (7 + 9 * s)) - 1), vR (g1 + 1)] (M_6, S) Q
                  rw [r_7]
                  refine ⟨⟨Or.inl hS3.2.2.1, by omega, by rw [(show sN S (g1 + 1) = 420 from hS3.2.2.2)]; omega⟩, ?_⟩
                  refine WP.cl (a := [vR k1, vI s, vI 1, vI w, vI p]) (rest := [vI (g_8 ((w * 12 + p) * 5 + (f (7 + 9 * s)) - 1)), vI ((w * 12 + p) * 5 + (f (7 + 9 * s)) - 1), vR (g1 + 1)]) rfl rfl rfl rfl trivial (by decide) (k_fitting hS hT2 F_11 F_9 F_10 hs hs0 h0 (by omega) (by omega) h7 (by omega) (hl w (by omega) (by omega)) (fun x_13 hx_13 => ⟨rfl, ?_⟩))
                  show WP 4 9 108 [vR g1, vR k1, vI s, vI (f (7 + 9 * s)), vI w, vI ((f (97 + 14 * w)) - (f (7 + 9 * s))), vI p, vI ((w * 12 + p) * 5 + (f (7 + 9 * s)) - 1)] [vI x_13, vI (g_8 ((w * 12 + p) * 5 + (f (7 + 9 * s)) - 1)), vI ((w * 12 + p) * 5 + (f (7 + 9 * s)) - 1), vR (g1 + 1)] (M_6, S) Q
                  have hUx_13 : U20 x_13 := by rcases hx_13 with h | h; (rw [h.2]; exact (bs1_20 (by omega)).1); (rw [h.2]; exact U20_0)
                  refine WP.blk 2 ?_
                  show (sT S (g1 + 1) = 11 ∧ 0 ≤ ((w * 12 + p) * 5 + (f (7 + 9 * s)) - 1) ∧ ((w * 12 + p) * 5 + (f (7 + 9 * s)) - 1) < (sN S (g1 + 1) : Int)) ∧ WP 4 9 110 [vR g1, vR k1, vI s, vI (f (7 + 9 * s)), vI w, vI ((f (97 + 14 * w)) - (f (7 + 9 * s))), vI p, vI ((w * 12 + p) * 5 + (f (7 + 9 * s)) - 1)] [] (up M_6 (g1 + 1) ((w * 12 + p) * 5 + (f (7 + 9 * s)) - 1) (iO (g_8 ((w * 12 + p) * 5 + (f (7 + 9 * s)) - 1)) x_13), S) Q
                  refine ⟨⟨hS3.2.2.1, by omega, by rw [(show sN S (g1 + 1) = 420 from hS3.2.2.2)]; omega⟩, ?_⟩
                  generalize hM_14 : up M_6 (g1 + 1) ((w * 12 + p) * 5 + (f (7 + 9 * s)) - 1) (iO (g_8 ((w * 12 + p) * 5 + (f (7 + 9 * s)) - 1)) x_13) = M_14
                  obtain ⟨g_16, hg_16⟩ : ∃ y9, y9 = uf g_8 ((w * 12 + p) * 5 + (f (7 + 9 * s)) - 1) (iO (g_8 ((w * 12 + p) * 5 + (f (7 + 9 * s)) - 1)) x_13) := ⟨_, rfl⟩
                  have r_15 : M_14 (g1 + 1) = g_16 := by rw [← hM_14, hg_16, up_self, r_7]
                  have F_17 : StR M_14 (k1 + 1) f := StR_fr (fun r9 h8 h9 => by rw [← hM_14]; exact up_row (by omega)) F_9
                  have F_18 : WdR M_14 (k1 + 4) f := WdR_fr (fun r9 h8 h9 => by rw [← hM_14]; exact up_row (by omega)) F_10
                  have F_19 : TurR M_14 := TurR_fr (fun r9 h8 h9 => by rw [← hM_14]; exact up_row (by omega)) F_11
                  have fr_20 : (∀ q9, q9 ≠ g1 + 1 → M_14 q9 = M q9) := fun q9 q0 => by rw [← hM_14]; exact (up_row (by omega)).trans (fr_12 q9 q0)
                  refine WP.blk 2 ?_
                  show ir (p + 1) ∧ WP 4 9 40 [vR g1, vR k1, vI s, vI (f (7 + 9 * s)), vI w, vI ((f (97 + 14 * w)) - (f (7 + 9 * s))), vI (p + 1), vI ((w * 12 + p) * 5 + (f (7 + 9 * s)) - 1)] [] (M_14, S) Q
                  refine ⟨(by unfold ir; omega), ?_⟩
                  exact ih_40 (p + 1) (vI ((w * 12 + p) * 5 + (f (7 + 9 * s)) - 1)) M_14 g_16 (by omega) (AddG_p ⟨hs1, by omega⟩ ⟨hs3, hs4⟩ (by omega) (by omega) hl hx_5 hx_13 h4 (by rw [hg_16, uf_eq, hg_8, uf_eq]) (fun k9 h9 => by rw [hg_16, uf_ne h9, hg_8, uf_ne h9])) r_15 F_17 F_18 F_19 fr_20 (by omega)
        exact hl_40 _ 0 (v7_12) Ma ga (by omega) h2 z_12_0 F_12_st F_12_wd F_12_tu fr_12 (Nat.lt_succ_self _)
  exact hl_12 _ 0 (none) (none) (none) M g (by omega) (AddG_0 hf) hg hst hwd htu (fun _ _ => rfl) (Nat.lt_succ_self _)
set_option maxHeartbeats 4000000 in
theorem k_rebuild {S : SD} {M : Nat → Int → Int} {k1 g1 : Nat} {f : Int → Int} (hS : isSheet S k1) (hS3 : isFits S g1) (hT2 : sT S 2 = 17 ∧ sN S 2 = 26) (hd : k1 + 12 ≤ g1 ∨ g1 + 2 ≤ k1) (hd2 : 3 ≤ g1) (hk3 : 3 ≤ k1) (htu : TurR M) (hst : StR M (k1 + 1) f) (hwd : WdR M (k1 + 4) f) (hA : StAll f) (h7 : f 1 ≤ 7) (hl : ∀ w, 0 ≤ w → w < f 1 → f (97 + 14 * w) ≤ 12) {Q : Res → Wd → Prop} (k : ∀ M2 : Nat → Int → Int, (∀ q9, q9 ≠ g1 + 1 → M2 q9 = M q9) → FitR M2 g1 f (f 0) → Q (0, none) (M2, S)) : EvQ 6 8 [vR g1, vR k1] (M, S) Q := by
  refine EvQ.enter (ls := [vR g1, vR k1, none]) (Nat.le_of_ble_eq_true rfl) rfl ?_
  have hA1 := hA.1
  refine WP.blk 2 ?_
  show (sT S g1 = 2 ∧ sR S g1 0 ≠ 0) ∧ WP 5 8 4 [vR g1, vR k1, none] [vR (sR S g1 0)] (M, S) Q
  refine ⟨⟨hS3.1, by rw [(show sR S g1 0 = g1 + 1 from hS3.2.1)]; omega⟩, ?_⟩
  rw [(show sR S g1 0 = g1 + 1 from hS3.2.1)]
  refine WP.blk 1 ?_
  show WP 5 8 5 [vR g1, vR k1, none] [vI 0, vR (g1 + 1)] (M, S) Q
  refine WP.cl (a := [vR (g1 + 1), vI 0]) (rest := []) rfl rfl rfl rfl trivial (by decide) (j_fill (n := 420) hS3.2.2.1 hS3.2.2.2 (by omega) (fun My_1 fry_1 hky_1 => ⟨rfl, ?_⟩))
  show WP 5 8 8 [vR g1, vR k1, none] [] (My_1, S) Q
  have F_2 : StR My_1 (k1 + 1) f := StR_fr (fun r9 h8 h9 => fry_1 r9 (by omega)) hst
  have F_3 : WdR My_1 (k1 + 4) f := WdR_fr (fun r9 h8 h9 => fry_1 r9 (by omega)) hwd
  have F_4 : TurR My_1 := TurR_fr (fun r9 h8 h9 => fry_1 r9 (by omega)) htu
  have fr_5 : (∀ q9, q9 ≠ g1 + 1 → My_1 q9 = M q9) := fun q9 q0 => (fry_1 q9 (by omega)).trans ((fun _ _ => rfl) q9 q0)
  have hfy_1 : FitR My_1 g1 f 0 := fun w p n a b c d e i9 => by have hl9 := hl w a b; rw [hky_1]; unfold fillR; rw [if_pos (by omega)]; exact fitX_0
  refine WP.blk 2 ?_
  show WP 5 8 10 [vR g1, vR k1, vI 0] [] (My_1, S) Q
  have hl_10 : ∀ (n_10 : Nat) (i : Int) (Ma : Nat → Int → Int), 0 ≤ i ∧ i ≤ f 0 → FitR Ma g1 f i → StR Ma (k1 + 1) f → WdR Ma (k1 + 4) f → TurR Ma → (∀ q9, q9 ≠ g1 + 1 → Ma q9 = M q9) → (f 0 - i).toNat < n_10 → WP 5 8 10 [vR g1, vR k1, vI i] [] (Ma, S) Q := by
    intro n_10
    induction n_10 with
    | zero => intro i Ma h1 h2 F_10_st F_10_wd F_10_tu fr_10 hm_10; exact absurd hm_10 (Nat.not_lt_zero _)
    | succ n_10 ih_10 =>
      intro i Ma h1 h2 F_10_st F_10_wd F_10_tu fr_10 hm_10
      refine WP.blk 3 ?_
      show (sT S k1 = 8 ∧ sR S k1 0 ≠ 0) ∧ WP 5 8 15 [vR g1, vR k1, vI i] [vR (sR S k1 0), vI i] (Ma, S) Q
      refine ⟨⟨hS.1, by rw [(show sR S k1 0 = k1 + 1 from hS.2.1)]; omega⟩, ?_⟩
      rw [(show sR S k1 0 = k1 + 1 from hS.2.1)]
      refine WP.blk 2 ?_
      show sT S (k1 + 1) = 7 ∧ WP 5 8 (if cnd .ge i (Ma (k1 + 1) 4) = true then 33 else 21) [vR g1, vR k1, vI i] [] (Ma, S) Q
      rw [F_10_st.1.2.2]
      refine ⟨hS.2.2.2.2.2.1.1, ?_⟩
      refine br_ge (fun c_6 => ?_) (fun c_6 => ?_)
      · exact WP.ret rfl rfl rfl trivial (k _ fr_10 (by have e9 := h2; rw [show i = f 0 by omega] at e9; exact e9))
      · refine WP.blk 3 ?_
        show WP 5 8 24 [vR g1, vR k1, vI i] [vI i, vR k1, vR g1] (Ma, S) Q
        refine WP.cl (a := [vR g1, vR k1, vI i]) (rest := []) rfl rfl rfl rfl ⟨hS3.1, trivial⟩ (by decide) (k_add hS hS3 hT2 hd hd2 hk3 F_10_tu F_10_st F_10_wd (hA.2 i (by omega) (by omega)) (by omega) (by omega) h7 hl h2 (fun My_7 fry_7 hky_7 => ⟨rfl, ?_⟩))
        show WP 5 8 27 [vR g1, vR k1, vI i] [] (My_7, S) Q
        have F_8 : StR My_7 (k1 + 1) f := StR_fr (fun r9 h8 h9 => fry_7 r9 (by omega)) F_10_st
        have F_9 : WdR My_7 (k1 + 4) f := WdR_fr (fun r9 h8 h9 => fry_7 r9 (by omega)) F_10_wd
        have F_10 : TurR My_7 := TurR_fr (fun r9 h8 h9 => fry_7 r9 (by omega)) F_10_tu
        have fr_11 : (∀ q9, q9 ≠ g1 + 1 → My_7 q9 = M q9) := fun q9 q0 => (fry_7 q9 (by omega)).trans (fr_10 q9 q0)
        refine WP.blk 2 ?_
        show ir (i + 1) ∧ WP 5 8 10 [vR g1, vR k1, vI (i + 1)] [] (My_7, S) Q
        refine ⟨(by unfold ir; omega), ?_⟩
        exact ih_10 (i + 1) My_7 (by omega) hky_7 F_8 F_9 F_10 fr_11 (by omega)
  exact hl_10 _ 0 My_1 (by omega) hfy_1 F_2 F_3 F_4 fr_5 (Nat.lt_succ_self _)
set_option maxHeartbeats 4000000 in
theorem k_erase {S : SD} {M : Nat → Int → Int} {g1 : Nat} {s : Int} (hS3 : isFits S g1) (hs : 0 ≤ s ∧ s ≤ 9) {Q : Res → Wd → Prop} (k : ∀ M2 : Nat → Int → Int, (∀ q9, q9 ≠ g1 + 1 → M2 q9 = M q9) → (∀ q, 0 ≤ q → q < 420 → M2 (g1 + 1) q = iA (M (g1 + 1) q) (iX (iL 3 (2 * s)) (-1))) → Q (0, none) (M2, S)) : EvQ 2 11 [vR g1, vI s] (M, S) Q := by
  refine EvQ.enter (ls := [vR g1, vI s, none, none]) (Nat.le_of_ble_eq_true rfl) rfl ?_
  obtain ⟨g, hg⟩ : ∃ y9, M (g1 + 1) = y9 := ⟨_, rfl⟩
  refine WP.blk 1 ?_
  show WP 1 11 1 [vR g1, vI s, none, none] [vI s] (M, S) Q
  refine WP.cl (a := [vI s]) (rest := []) rfl rfl rfl rfl trivial (by decide) (k_pressesOf (by omega) ⟨rfl, ?_⟩)
  show WP 1 11 4 [vR g1, vI s, none, none] [vI (iL 3 (2 * s))] (M, S) Q
  refine WP.blk 5 ?_
  show WP 1 11 9 [vR g1, vI s, vI (iX (iL 3 (2 * s)) (-1)), vI 0] [] (M, S) Q
  have hl_9 : ∀ (n_9 : Nat) (i : Int) (Ma : Nat → Int → Int) (ga : Int → Int), 0 ≤ i ∧ i ≤ 420 → (∀ q, 0 ≤ q → q < 420 → ga q = if q < i then iA (g q) (iX (iL 3 (2 * s)) (-1)) else g q) → Ma (g1 + 1) = ga → (∀ q9, q9 ≠ g1 + 1 → Ma q9 = M q9) → (420 - i).toNat < n_9 → WP 1 11 9 [vR g1, vI s, vI (iX (iL 3 (2 * s)) (-1)), vI i] [] (Ma, S) Q := by
    intro n_9
    induction n_9 with
    | zero => intro i Ma ga h1 h2 z_9_0 fr_9 hm_9; exact absurd hm_9 (Nat.not_lt_zero _)
    | succ n_9 ih_9 =>
      intro i Ma ga h1 h2 z_9_0 fr_9 hm_9
      refine WP.blk 3 ?_
      show WP 1 11 (if cnd .ge i 420 = true then 32 else 16) [vR g1, vI s, vI (iX (iL 3 (2 * s)) (-1)), vI i] [] (Ma, S) Q
      refine br_ge (fun c_1 => ?_) (fun c_1 => ?_)
      · exact WP.ret rfl rfl rfl trivial (k _ fr_9 (fun q a b => by rw [z_9_0, h2 q a b, if_pos (by omega), hg]))
      · refine WP.blk 2 ?_
        show (sT S g1 = 2 ∧ sR S g1 0 ≠ 0) ∧ WP 1 11 20 [vR g1, vI s, vI (iX (iL 3 (2 * s)) (-1)), vI i] [vR (sR S g1 0)] (Ma, S) Q
        refine ⟨⟨hS3.1, by rw [(show sR S g1 0 = g1 + 1 from hS3.2.1)]; omega⟩, ?_⟩
        rw [(show sR S g1 0 = g1 + 1 from hS3.2.1)]
        refine WP.blk 6 ?_
        show ((sT S (g1 + 1) = 11 ∨ sT S (g1 + 1) = 16 ∨ sT S (g1 + 1) = 17) ∧ 0 ≤ i ∧ i < (sN S (g1 + 1) : Int)) ∧ (sT S (g1 + 1) = 11 ∧ 0 ≤ i ∧ i < (sN S (g1 + 1) : Int)) ∧ WP 1 11 26 [vR g1, vI s, vI (iX (iL 3 (2 * s)) (-1)), vI i] [] (up Ma (g1 + 1) i (iA (Ma (g1 + 1) i) (iX (iL 3 (2 * s)) (-1))), S) Q
        rw [z_9_0]
        refine ⟨⟨Or.inl hS3.2.2.1, by omega, by rw [(show sN S (g1 + 1) = 420 from hS3.2.2.2)]; omega⟩, ⟨hS3.2.2.1, by omega, by rw [(show sN S (g1 + 1) = 420 from hS3.2.2.2)]; omega⟩, ?_⟩
        generalize hM_2 : up Ma (g1 + 1) i (iA (ga i) (iX (iL 3 (2 * s)) (-1))) = M_2
        obtain ⟨g_4, hg_4⟩ : ∃ y9, y9 = uf ga i (iA (ga i) (iX (iL 3 (2 * s)) (-1))) := ⟨_, rfl⟩
        have r_3 : M_2 (g1 + 1) = g_4 := by rw [← hM_2, hg_4, up_self, z_9_0]
        have fr_5 : (∀ q9, q9 ≠ g1 + 1 → M_2 q9 = M q9) := fun q9 q0 => by rw [← hM_2]; exact (up_row (by omega)).trans (fr_9 q9 q0)
        refine WP.blk 2 ?_
        show ir (i + 1) ∧ WP 1 11 9 [vR g1, vI s, vI (iX (iL 3 (2 * s)) (-1)), vI (i + 1)] [] (M_2, S) Q
        refine ⟨(by unfold ir; omega), ?_⟩
        exact ih_9 (i + 1) M_2 g_4 (by omega) (fun q a b => by rw [hg_4]; by_cases e : q = i; (rw [e, uf_eq, if_pos (by omega), h2 i (by omega) (by omega), if_neg (by omega)]); (rw [uf_ne e, h2 q a b]; by_cases e2 : q < i; (rw [if_pos e2, if_pos (by omega)]); (rw [if_neg e2, if_neg (by omega)]))) r_3 fr_5 (by omega)
  exact hl_9 _ 0 M g (by omega) (fun q a b => by rw [if_neg (by omega)]) hg (fun _ _ => rfl) (Nat.lt_succ_self _)
