/-- the law's loop -/
theorem law_loop {x m u L : Nat} (G : Geo x m u) (hL : L ≤ 2048) : ∀ (n : Nat) (i : Int) (l5 l6 l7 l8 : V) (M : Nat → Int → Int) (S : SD), 0 ≤ i → i ≤ (L : Int) → (L : Int) - i < (n : Int) → LawI (21 * i) x m u L M S → (S.2.2.2.2.1 : Int) ≤ 184 + i → (S.2.2.2.2.2 : Int) ≤ 8000 + 6 * i → WP 20 199 23 [vR 1, vR x, vR m, vR u, vI i, l5, l6, l7, l8] [] (M, S) (fun r w' => r = (0, vI 1) ∧ uc w' ≤ 601024 ∧ us w' ≤ 7293034) := by
  intro n
  induction n with
  | zero => intro i l5 l6 l7 l8 M S h0 h1 h2; exfalso; omega
  | succ n ih =>
    intro i l5 l6 l7 l8 M S h0 h1 h2 hI hu hs
    have hS1 : sT S 1 = 16 ∧ sN S 1 = L := by
      obtain ⟨f, p, tx, t, sv, l, hC, hD⟩ := hI
      exact hC.1.2.1
    obtain ⟨Q, hQ⟩ : ∃ Q : Res → Wd → Prop, Q = (fun r w' => r = (0, vI 1) ∧ uc w' ≤ 601024 ∧ us w' ≤ 7293034) := ⟨_, rfl⟩
    rw [← hQ] at ih ⊢
    have fin : ∀ M2 S2, LawI (21 * i + 84) x m u L M2 S2 → LCn S S2 → i + 4 ≤ (L : Int) → ∀ l5 l6 l7 l8, WP 20 199 1416 [vR 1, vR x, vR m, vR u, vI i, l5, l6, l7, l8] [] (M2, S2) Q := by
      intro M2 S2 hI2 hc hi4 l5 l6 l7 l8
      refine WP.blk 1 ?_
      show ir (i + 4) ∧ WP 20 199 1419 [vR 1, vR x, vR m, vR u, vI (i + 4), l5, l6, l7, l8] [] (M2, S2) Q
      refine ⟨by unfold ir; omega, ?_⟩
      refine WP.blk 1 ?_
      show WP 20 199 23 [vR 1, vR x, vR m, vR u, vI (i + 4), l5, l6, l7, l8] [] (M2, S2) Q
      obtain ⟨hc1, hc2⟩ := hc
      exact ih (i + 4) l5 l6 l7 l8 M2 S2 (by omega) hi4 (by omega) (by rw [show 21 * (i + 4) = 21 * i + 84 by omega]; exact hI2) (by omega) (by omega)
    refine WP.blk 1 ?_
    show WP 20 199 25 [vR 1, vR x, vR m, vR u, vI i, l5, l6, l7, l8] [vI i] (M, S) Q
    refine WP.blk 1 ?_
    show WP 20 199 26 [vR 1, vR x, vR m, vR u, vI i, l5, l6, l7, l8] [vR 1, vI i] (M, S) Q
    refine WP.blk 1 ?_
    show (sT S 1 = 11 ∨ sT S 1 = 16 ∨ sT S 1 = 17) ∧ WP 20 199 27 [vR 1, vR x, vR m, vR u, vI i, l5, l6, l7, l8] [vI (sN S 1 : Int), vI i] (M, S) Q
    refine ⟨Or.inr (Or.inl hS1.1), ?_⟩
    rw [hS1.2]
    refine WP.blk 1 ?_
    show WP 20 199 28 [vR 1, vR x, vR m, vR u, vI i, l5, l6, l7, l8] [vI 4, vI (L : Int), vI i] (M, S) Q
    refine WP.blk 1 ?_
    show ir ((L : Int) - 4) ∧ WP 20 199 29 [vR 1, vR x, vR m, vR u, vI i, l5, l6, l7, l8] [vI ((L : Int) - 4), vI i] (M, S) Q
    refine ⟨by unfold ir; omega, ?_⟩
    refine WP.blk 1 ?_
    show WP 20 199 (if cnd .gt i ((L : Int) - 4) = true then 1422 else 32) [vR 1, vR x, vR m, vR u, vI i, l5, l6, l7, l8] [] (M, S) Q
    refine br_gt (fun hb => ?_) (fun hb => ?_)
    · refine WP.blk 1 ?_
      show WP 20 199 1423 [vR 1, vR x, vR m, vR u, vI i, l5, l6, l7, l8] [vI 1] (M, S) Q
      refine WP.ret rfl rfl rfl ⟨Or.inr rfl, trivial⟩ ?_
      rw [hQ]
      exact ⟨rfl, by show S.2.2.2.2.1 ≤ 601024; omega, by show S.2.2.2.2.2 ≤ 7293034; omega⟩
    · refine WP.blk 1 ?_
      show WP 20 199 33 [vR 1, vR x, vR m, vR u, vI i, l5, l6, l7, l8] [vR 1] (M, S) Q
      refine WP.blk 1 ?_
      show WP 20 199 35 [vR 1, vR x, vR m, vR u, vI i, l5, l6, l7, l8] [vI i, vR 1] (M, S) Q
      refine WP.blk 1 ?_
      show ((sT S 1 = 11 ∨ sT S 1 = 16 ∨ sT S 1 = 17) ∧ 0 ≤ i ∧ i < (sN S 1 : Int)) ∧ WP 20 199 36 [vR 1, vR x, vR m, vR u, vI i, l5, l6, l7, l8] [vI (M 1 i)] (M, S) Q
      refine ⟨⟨Or.inr (Or.inl hS1.1), h0, by rw [hS1.2]; omega⟩, ?_⟩
      refine WP.blk 1 ?_
      show WP 20 199 38 [vR 1, vR x, vR m, vR u, vI i, l5, l6, l7, l8] [vI 31, vI (M 1 i)] (M, S) Q
      refine WP.blk 1 ?_
      show WP 20 199 39 [vR 1, vR x, vR m, vR u, vI i, l5, l6, l7, l8] [vI (iA (M 1 i) 31)] (M, S) Q
      obtain ⟨a, ha⟩ : ∃ a, a = iA (M 1 i) 31 := ⟨_, rfl⟩
      rw [← ha]
      have hB : 0 ≤ 21 * i ∧ 21 * i ≤ 1000000000 - 400 := by omega
      have hi : 0 ≤ i ∧ i + 3 < (L : Int) ∧ L ≤ 2048 := by omega
      have hk : ∀ M2 S2, LawI (21 * i + 84) x m u L M2 S2 → LCn S S2 → ∀ l5 l6 l7 l8, WP 20 199 1416 [vR 1, vR x, vR m, vR u, vI i, l5, l6, l7, l8] [] (M2, S2) Q := fun M2 S2 h1 h2 => fin M2 S2 h1 h2 (by omega)
      refine WP.blk 1 ?_
      rcases (show (a < 0 ∨ 24 < a) ∨ a = 0 ∨ a = 1 ∨ a = 2 ∨ a = 3 ∨ a = 4 ∨ a = 5 ∨ a = 6 ∨ a = 7 ∨ a = 8 ∨ a = 9 ∨ a = 10 ∨ a = 11 ∨ a = 12 ∨ a = 13 ∨ a = 14 ∨ a = 15 ∨ a = 16 ∨ a = 17 ∨ a = 18 ∨ a = 19 ∨ a = 20 ∨ a = 21 ∨ a = 22 ∨ a = 23 ∨ a = 24 by omega) with h | h | h | h | h | h | h | h | h | h | h | h | h | h | h | h | h | h | h | h | h | h | h | h | h | h
      · show WP 20 199 (if a < 0 ∨ 24 < a then 1416 else _) [vR 1, vR x, vR m, vR u, vI i, l5, l6, l7, l8] [] (M, S) Q
        rw [if_pos h]
        obtain ⟨f, p, tx, t, sv, l, hC, hD⟩ := hI
        exact hk M S ⟨f, p, tx, t, sv, l, hC, di_le (by omega) hD⟩ (lcn_0 (S := S) (R2 := S.1)) l5 l6 l7 l8
      · rw [h]; exact l_append G hI hB hi hk
      · rw [h]; exact l_clearText G hI hB hi hk
      · rw [h]; exact l_parse G hI hB hi hk
      · rw [h]; exact l_cut G hI hB hi hk
      · rw [h]; exact l_remove G hI hB hi hk
      · rw [h]; exact l_drop G hI hB hi hk
      · rw [h]; exact l_setColor G hI hB hi hk
      · rw [h]; exact l_setLimits G hI hB hi hk
      · rw [h]; exact l_clean G hI hB hi hk
      · rw [h]; exact l_value G hI hB hi hk
      · rw [h]; exact l_stamp G hI hB hi hk
      · rw [h]; exact l_print G hI hB hi hk
      · rw [h]; exact l_word G hI hB hi hk
      · rw [h]; exact l_letter G hI hB hi hk
      · rw [h]; exact l_press G hI hB hi hk
      · rw [h]; exact l_write G hI hB hi hk
      · rw [h]; exact l_writeAll G hI hB hi hk
      · rw [h]; exact l_fewest G hI hB hi hk
      · rw [h]; exact l_needed G hI hB hi hk
      · rw [h]; exact l_order G hI hB hi hk
      · rw [h]; exact l_leastCleanings G hI hB hi hk
      · rw [h]; exact l_bestCut G hI hB hi hk
      · rw [h]; exact l_lettersPerPress G hI hB hi hk
      · rw [h]; exact l_undo G hI hB hi hk
      · rw [h]; exact l_digest G hI hB hi hk
