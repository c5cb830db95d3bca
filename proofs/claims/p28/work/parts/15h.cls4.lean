set_option maxHeartbeats 4000000 in
theorem k_measure0 {S : SD} {M : Nat → Int → Int} {p1 g1 : Nat} {f : Int → Int} {w x u : Int} (hS4 : isPlan S p1) (hS3 : isFits S g1) (hd : p1 + 4 ≤ g1 ∨ g1 + 2 ≤ p1) (hft : FitR M g1 f (f 0)) (hA : StAll f) (hw : WdOk f w) (hw7 : w < f 1) (hu : Ux x u) {Q : Res → Wd → Prop} (k : ∀ (v : Int) (M2 : Nat → Int → Int), (∀ q9, q9 ≠ p1 + 1 → M2 q9 = M q9) → ∀ g, M2 (p1 + 1) = g → Lst 1000 f w x 0 g → (v = -1 ∧ 1000 ≤ g 0) ∨ (v = g 0 ∧ g 0 < 1000) → Q (0, vI v) (M2, S)) : EvQ 3 33 [vR p1, vR g1, vI w, vI (f (97 + 14 * w)), vI u] (M, S) Q := by
  refine EvQ.enter (ls := [vR p1, vR g1, vI w, vI (f (97 + 14 * w)), vI u, none, none, none]) (Nat.le_of_ble_eq_true rfl) rfl ?_
  have hw1 := hw.1
  have hw2 := hw.2.1
  have hn1 := hw.2.2.1
  have hn2 := hw.2.2.2.1
  have hA1 := hA.1
  obtain ⟨l, hl⟩ : ∃ y9, M (p1 + 1) = y9 := ⟨_, rfl⟩
  refine WP.blk 2 ?_
  show WP 2 33 (if cnd .lt (f (97 + 14 * w)) 0 = true then 10 else 4) [vR p1, vR g1, vI w, vI (f (97 + 14 * w)), vI u, none, none, none] [] (M, S) Q
  refine br_lt (fun c_1 => ?_) (fun c_1 => ?_)
  · refine WP.blk 1 ?_
    show WP 2 33 11 [vR p1, vR g1, vI w, vI (f (97 + 14 * w)), vI u, none, none, none] [vI (-1)] (M, S) Q
    exact WP.ret rfl rfl rfl trivial (by exfalso; omega)
  · refine WP.blk 3 ?_
    show WP 2 33 (if cnd .le (f (97 + 14 * w)) 12 = true then 12 else 10) [vR p1, vR g1, vI w, vI (f (97 + 14 * w)), vI u, none, none, none] [] (M, S) Q
    refine br_le (fun c_2 => ?_) (fun c_2 => ?_)
    · refine WP.blk 2 ?_
      show (sT S p1 = 6 ∧ sR S p1 0 ≠ 0) ∧ WP 2 33 16 [vR p1, vR g1, vI w, vI (f (97 + 14 * w)), vI u, none, none, none] [vR (sR S p1 0)] (M, S) Q
      refine ⟨⟨hS4.1, by rw [(show sR S p1 0 = p1 + 1 from hS4.2.1)]; omega⟩, ?_⟩
      rw [(show sR S p1 0 = p1 + 1 from hS4.2.1)]
      refine WP.blk 3 ?_
      show (sT S (p1 + 1) = 11 ∧ 0 ≤ (f (97 + 14 * w)) ∧ (f (97 + 14 * w)) < (sN S (p1 + 1) : Int)) ∧ WP 2 33 19 [vR p1, vR g1, vI w, vI (f (97 + 14 * w)), vI u, none, none, none] [] (up M (p1 + 1) (f (97 + 14 * w)) 0, S) Q
      refine ⟨⟨hS4.2.2.2.2.1, by omega, by rw [(show sN S (p1 + 1) = 13 from hS4.2.2.2.2.2.1)]; omega⟩, ?_⟩
      generalize hM_3 : up M (p1 + 1) (f (97 + 14 * w)) 0 = M_3
      obtain ⟨g_5, hg_5⟩ : ∃ y9, y9 = uf l (f (97 + 14 * w)) 0 := ⟨_, rfl⟩
      have r_4 : M_3 (p1 + 1) = g_5 := by rw [← hM_3, hg_5, up_self, hl]
      have F_6 : FitR M_3 g1 f (f 0) := FitR_fr (fun r9 h8 h9 => by rw [← hM_3]; exact up_row (by omega)) hft
      have fr_7 : (∀ q9, q9 ≠ p1 + 1 → M_3 q9 = M q9) := fun q9 q0 => by rw [← hM_3]; exact (up_row (by omega)).trans ((fun _ _ => rfl) q9 q0)
      refine WP.blk 4 ?_
      show ir ((f (97 + 14 * w)) - 1) ∧ WP 2 33 24 [vR p1, vR g1, vI w, vI (f (97 + 14 * w)), vI u, vI ((f (97 + 14 * w)) - 1), none, none] [] (M_3, S) Q
      refine ⟨(by unfold ir; omega), ?_⟩
      have hl_24 : ∀ (n_24 : Nat) (p : Int) (v6_24 : V) (v7_24 : V) (Ma : Nat → Int → Int) (l1 : Int → Int), -1 ≤ p ∧ p ≤ f (97 + 14 * w) - 1 → Lst 1000 f w x (p + 1) l1 → Ma (p1 + 1) = l1 → FitR Ma g1 f (f 0) → (∀ q9, q9 ≠ p1 + 1 → Ma q9 = M q9) → (p + 1).toNat < n_24 → WP 2 33 24 [vR p1, vR g1, vI w, vI (f (97 + 14 * w)), vI u, vI p, v6_24, v7_24] [] (Ma, S) Q := by
        intro n_24
        induction n_24 with
        | zero => intro p v6_24 v7_24 Ma l1 h1 h2 z_24_0 F_24_ft fr_24 hm_24; exact absurd hm_24 (Nat.not_lt_zero _)
        | succ n_24 ih_24 =>
          intro p v6_24 v7_24 Ma l1 h1 h2 z_24_0 F_24_ft fr_24 hm_24
          refine WP.blk 2 ?_
          show WP 2 33 (if cnd .lt p 0 = true then 107 else 29) [vR p1, vR g1, vI w, vI (f (97 + 14 * w)), vI u, vI p, v6_24, v7_24] [] (Ma, S) Q
          refine br_lt (fun c_8 => ?_) (fun c_8 => ?_)
          · refine WP.blk 2 ?_
            show (sT S p1 = 6 ∧ sR S p1 0 ≠ 0) ∧ WP 2 33 111 [vR p1, vR g1, vI w, vI (f (97 + 14 * w)), vI u, vI p, v6_24, v7_24] [vR (sR S p1 0)] (Ma, S) Q
            refine ⟨⟨hS4.1, by rw [(show sR S p1 0 = p1 + 1 from hS4.2.1)]; omega⟩, ?_⟩
            rw [(show sR S p1 0 = p1 + 1 from hS4.2.1)]
            refine WP.blk 4 ?_
            show ((sT S (p1 + 1) = 11 ∨ sT S (p1 + 1) = 16 ∨ sT S (p1 + 1) = 17) ∧ 0 ≤ 0 ∧ 0 < (sN S (p1 + 1) : Int)) ∧ WP 2 33 (if cnd .ge (Ma (p1 + 1) 0) 1000 = true then 128 else 119) [vR p1, vR g1, vI w, vI (f (97 + 14 * w)), vI u, vI p, v6_24, v7_24] [] (Ma, S) Q
            rw [z_24_0]
            refine ⟨⟨Or.inl hS4.2.2.2.2.1, by omega, by rw [(show sN S (p1 + 1) = 13 from hS4.2.2.2.2.2.1)]; omega⟩, ?_⟩
            refine br_ge (fun c_9 => ?_) (fun c_9 => ?_)
            · refine WP.blk 1 ?_
              show WP 2 33 129 [vR p1, vR g1, vI w, vI (f (97 + 14 * w)), vI u, vI p, v6_24, v7_24] [vI (-1)] (Ma, S) Q
              exact WP.ret rfl rfl rfl trivial (k _ _ fr_24 _ z_24_0 (by rw [show (0 : Int) = p + 1 by omega]; exact h2) (by omega))
            · refine WP.blk 2 ?_
              show (sT S p1 = 6 ∧ sR S p1 0 ≠ 0) ∧ WP 2 33 123 [vR p1, vR g1, vI w, vI (f (97 + 14 * w)), vI u, vI p, v6_24, v7_24] [vR (sR S p1 0)] (Ma, S) Q
              refine ⟨⟨hS4.1, by rw [(show sR S p1 0 = p1 + 1 from hS4.2.1)]; omega⟩, ?_⟩
              rw [(show sR S p1 0 = p1 + 1 from hS4.2.1)]
              refine WP.blk 3 ?_
              show ((sT S (p1 + 1) = 11 ∨ sT S (p1 + 1) = 16 ∨ sT S (p1 + 1) = 17) ∧ 0 ≤ 0 ∧ 0 < (sN S (p1 + 1) : Int)) ∧ WP 2 33 129 [vR p1, vR g1, vI w, vI (f (97 + 14 * w)), vI u, vI p, v6_24, v7_24] [vI (Ma (p1 + 1) 0)] (Ma, S) Q
              rw [z_24_0]
              refine ⟨⟨Or.inl hS4.2.2.2.2.1, by omega, by rw [(show sN S (p1 + 1) = 13 from hS4.2.2.2.2.2.1)]; omega⟩, ?_⟩
              exact WP.ret rfl rfl rfl trivial (k _ _ fr_24 _ z_24_0 (by rw [show (0 : Int) = p + 1 by omega]; exact h2) (by omega))
          · refine WP.blk 4 ?_
            show WP 2 33 37 [vR p1, vR g1, vI w, vI (f (97 + 14 * w)), vI u, vI p, vI 1000, vI 1] [] (Ma, S) Q
            have hl_37 : ∀ (n_37 : Nat) (n : Int) (b : Int), 1 ≤ n ∧ n ≤ 6 → MsB f w x p n l1 b → (6 - n).toNat < n_37 → WP 2 33 37 [vR p1, vR g1, vI w, vI (f (97 + 14 * w)), vI u, vI p, vI b, vI n] [] (Ma, S) Q := by
              intro n_37
              induction n_37 with
              | zero => intro n b h3 h4 hm_37; exact absurd hm_37 (Nat.not_lt_zero _)
              | succ n_37 ih_37 =>
                intro n b h3 h4 hm_37
                have hr := lst_rng (by omega) hA h2 (p + n)
                refine WP.blk 3 ?_
                show WP 2 33 (if cnd .gt n 5 = true then 92 else 43) [vR p1, vR g1, vI w, vI (f (97 + 14 * w)), vI u, vI p, vI b, vI n] [] (Ma, S) Q
                refine br_gt (fun c_10 => ?_) (fun c_10 => ?_)
                · refine WP.blk 2 ?_
                  show (sT S p1 = 6 ∧ sR S p1 0 ≠ 0) ∧ WP 2 33 96 [vR p1, vR g1, vI w, vI (f (97 + 14 * w)), vI u, vI p, vI b, vI n] [vR (sR S p1 0)] (Ma, S) Q
                  refine ⟨⟨hS4.1, by rw [(show sR S p1 0 = p1 + 1 from hS4.2.1)]; omega⟩, ?_⟩
                  rw [(show sR S p1 0 = p1 + 1 from hS4.2.1)]
                  refine WP.blk 3 ?_
                  show (sT S (p1 + 1) = 11 ∧ 0 ≤ p ∧ p < (sN S (p1 + 1) : Int)) ∧ WP 2 33 101 [vR p1, vR g1, vI w, vI (f (97 + 14 * w)), vI u, vI p, vI b, vI n] [] (up Ma (p1 + 1) p b, S) Q
                  refine ⟨⟨hS4.2.2.2.2.1, by omega, by rw [(show sN S (p1 + 1) = 13 from hS4.2.2.2.2.2.1)]; omega⟩, ?_⟩
                  generalize hM_11 : up Ma (p1 + 1) p b = M_11
                  obtain ⟨g_13, hg_13⟩ : ∃ y9, y9 = uf l1 p b := ⟨_, rfl⟩
                  have r_12 : M_11 (p1 + 1) = g_13 := by rw [← hM_11, hg_13, up_self, z_24_0]
                  have F_14 : FitR M_11 g1 f (f 0) := FitR_fr (fun r9 h8 h9 => by rw [← hM_11]; exact up_row (by omega)) F_24_ft
                  have fr_15 : (∀ q9, q9 ≠ p1 + 1 → M_11 q9 = M q9) := fun q9 q0 => by rw [← hM_11]; exact (up_row (by omega)).trans (fr_24 q9 q0)
                  refine WP.blk 2 ?_
                  show ir (p + (-1)) ∧ WP 2 33 24 [vR p1, vR g1, vI w, vI (f (97 + 14 * w)), vI u, vI (p + (-1)), vI b, vI n] [] (M_11, S) Q
                  refine ⟨(by unfold ir; omega), ?_⟩
                  exact ih_24 (p + (-1)) (vI b) (vI n) M_11 g_13 (by omega) (by rw [show p + -1 + 1 = p by omega]; exact MsB_e hA (by omega) h2 h4 (by omega) hg_13) r_12 F_14 fr_15 (by omega)
                · refine WP.blk 5 ?_
                  show ir (p + n) ∧ WP 2 33 (if cnd .gt (p + n) (f (97 + 14 * w)) = true then 92 else 52) [vR p1, vR g1, vI w, vI (f (97 + 14 * w)), vI u, vI p, vI b, vI n] [] (Ma, S) Q
                  refine ⟨(by unfold ir; omega), ?_⟩
                  refine br_gt (fun c_16 => ?_) (fun c_16 => ?_)
                  · refine WP.blk 2 ?_
                    show (sT S p1 = 6 ∧ sR S p1 0 ≠ 0) ∧ WP 2 33 96 [vR p1, vR g1, vI w, vI (f (97 + 14 * w)), vI u, vI p, vI b, vI n] [vR (sR S p1 0)] (Ma, S) Q
                    refine ⟨⟨hS4.1, by rw [(show sR S p1 0 = p1 + 1 from hS4.2.1)]; omega⟩, ?_⟩
                    rw [(show sR S p1 0 = p1 + 1 from hS4.2.1)]
                    refine WP.blk 3 ?_
                    show (sT S (p1 + 1) = 11 ∧ 0 ≤ p ∧ p < (sN S (p1 + 1) : Int)) ∧ WP 2 33 101 [vR p1, vR g1, vI w, vI (f (97 + 14 * w)), vI u, vI p, vI b, vI n] [] (up Ma (p1 + 1) p b, S) Q
                    refine ⟨⟨hS4.2.2.2.2.1, by omega, by rw [(show sN S (p1 + 1) = 13 from hS4.2.2.2.2.2.1)]; omega⟩, ?_⟩
                    generalize hM_17 : up Ma (p1 + 1) p b = M_17
                    obtain ⟨g_19, hg_19⟩ : ∃ y9, y9 = uf l1 p b := ⟨_, rfl⟩
                    have r_18 : M_17 (p1 + 1) = g_19 := by rw [← hM_17, hg_19, up_self, z_24_0]
                    have F_20 : FitR M_17 g1 f (f 0) := FitR_fr (fun r9 h8 h9 => by rw [← hM_17]; exact up_row (by omega)) F_24_ft
                    have fr_21 : (∀ q9, q9 ≠ p1 + 1 → M_17 q9 = M q9) := fun q9 q0 => by rw [← hM_17]; exact (up_row (by omega)).trans (fr_24 q9 q0)
                    refine WP.blk 2 ?_
                    show ir (p + (-1)) ∧ WP 2 33 24 [vR p1, vR g1, vI w, vI (f (97 + 14 * w)), vI u, vI (p + (-1)), vI b, vI n] [] (M_17, S) Q
                    refine ⟨(by unfold ir; omega), ?_⟩
                    exact ih_24 (p + (-1)) (vI b) (vI n) M_17 g_19 (by omega) (by rw [show p + -1 + 1 = p by omega]; exact MsB_e hA (by omega) h2 h4 (by omega) hg_19) r_18 F_20 fr_21 (by omega)
                  · refine WP.blk 4 ?_
                    show WP 2 33 58 [vR p1, vR g1, vI w, vI (f (97 + 14 * w)), vI u, vI p, vI b, vI n] [vI n, vI p, vI w, vR g1] (Ma, S) Q
                    refine WP.cl (a := [vR g1, vI w, vI p, vI n]) (rest := []) rfl rfl rfl rfl ⟨hS3.1, trivial⟩ (by decide) (k_at hS3 (by omega) (by omega) ⟨rfl, ?_⟩)
                    show WP 2 33 61 [vR p1, vR g1, vI w, vI (f (97 + 14 * w)), vI u, vI p, vI b, vI n] [vI (Ma (g1 + 1) ((w * 12 + p) * 5 + n - 1))] (Ma, S) Q
                    refine WP.blk 3 ?_
                    show WP 2 33 (if cnd .eq (iA (Ma (g1 + 1) ((w * 12 + p) * 5 + n - 1)) u) 0 = true then 86 else 67) [vR p1, vR g1, vI w, vI (f (97 + 14 * w)), vI u, vI p, vI b, vI n] [] (Ma, S) Q
                    refine br_eq (fun c_22 => ?_) (fun c_22 => ?_)
                    · refine WP.blk 2 ?_
                      show ir (n + 1) ∧ WP 2 33 37 [vR p1, vR g1, vI w, vI (f (97 + 14 * w)), vI u, vI p, vI b, vI (n + 1)] [] (Ma, S) Q
                      refine ⟨(by unfold ir; omega), ?_⟩
                      exact ih_37 (n + 1) b (by omega) (MsB_f h4 (fun h9 => (fit_may hA hw (by omega) (by omega) (F_24_ft w p n (by omega) hw7 (by omega) (by omega) (by omega) (by omega)) hu).2 h9 (by assumption)))  (by omega)
                    · refine WP.blk 3 ?_
                      show (sT S p1 = 6 ∧ sR S p1 0 ≠ 0) ∧ WP 2 33 73 [vR p1, vR g1, vI w, vI (f (97 + 14 * w)), vI u, vI p, vI b, vI n] [vR (sR S p1 0), vI b] (Ma, S) Q
                      refine ⟨⟨hS4.1, by rw [(show sR S p1 0 = p1 + 1 from hS4.2.1)]; omega⟩, ?_⟩
                      rw [(show sR S p1 0 = p1 + 1 from hS4.2.1)]
                      refine WP.blk 10 ?_
                      show ir (p + n) ∧ ((sT S (p1 + 1) = 11 ∨ sT S (p1 + 1) = 16 ∨ sT S (p1 + 1) = 17) ∧ 0 ≤ (p + n) ∧ (p + n) < (sN S (p1 + 1) : Int)) ∧ ir ((Ma (p1 + 1) (p + n)) + 1) ∧ ir (n + 1) ∧ WP 2 33 37 [vR p1, vR g1, vI w, vI (f (97 + 14 * w)), vI u, vI p, vI (if ((Ma (p1 + 1) (p + n)) + 1) < b then ((Ma (p1 + 1) (p + n)) + 1) else b), vI (n + 1)] [] (Ma, S) Q
                      rw [z_24_0]
                      refine ⟨(by unfold ir; omega), ⟨Or.inl hS4.2.2.2.2.1, by omega, by rw [(show sN S (p1 + 1) = 13 from hS4.2.2.2.2.2.1)]; omega⟩, (by unfold ir; omega), (by unfold ir; omega), ?_⟩
                      exact ih_37 (n + 1) (if ((l1 (p + n)) + 1) < b then ((l1 (p + n)) + 1) else b) (by omega) (MsB_t h4 ((fit_may hA hw (by omega) (by omega) (F_24_ft w p n (by omega) hw7 (by omega) (by omega) (by omega) (by omega)) hu).1 (by assumption)))  (by omega)
            exact hl_37 _ 1 1000 (by omega) (MsB_0 hA)  (Nat.lt_succ_self _)
      exact hl_24 _ ((f (97 + 14 * w)) - 1) (none) (none) M_3 g_5 (by omega) (by rw [show f (97 + 14 * w) - 1 + 1 = f (97 + 14 * w) by omega]; exact Lst_n2 hg_5) r_4 F_6 fr_7 (Nat.lt_succ_self _)
    · refine WP.blk 1 ?_
      show WP 2 33 11 [vR p1, vR g1, vI w, vI (f (97 + 14 * w)), vI u, none, none, none] [vI (-1)] (M, S) Q
      exact WP.ret rfl rfl rfl trivial (by exfalso; omega)
theorem k_measure {S : SD} {M : Nat → Int → Int} {p1 g1 : Nat} {f : Int → Int} {w x u n : Int} (hS4 : isPlan S p1) (hS3 : isFits S g1) (hd : p1 + 4 ≤ g1 ∨ g1 + 2 ≤ p1) (hft : FitR M g1 f (f 0)) (hA : StAll f) (hw : WdOk f w) (hw7 : w < f 1) (hu : Ux x u) (hn : n = f (97 + 14 * w)) {Q : Res → Wd → Prop} (k : ∀ (v : Int) (M2 : Nat → Int → Int), (∀ q9, q9 ≠ p1 + 1 → M2 q9 = M q9) → MsV f w x v → Q (0, vI v) (M2, S)) : EvQ 3 33 [vR p1, vR g1, vI w, vI n, vI u] (M, S) Q := by
  subst hn
  exact k_measure0 hS4 hS3 hd hft hA hw hw7 hu (fun v M2 hfr g hg hL hv => k v M2 hfr (msV hA hw hL hv))
set_option maxHeartbeats 4000000 in
theorem k_lowest {S : SD} {M : Nat → Int → Int} {y : Int} (hy : U20 y) {Q : Res → Wd → Prop} (k : ∀ c : Int, (0 ≤ c ∧ c < 20 ∧ bs y c = true ∧ ∀ b, 0 ≤ b → b < c → ¬ bs y b = true) ∨ (c = -1 ∧ ∀ b, 0 ≤ b → b < 20 → ¬ bs y b = true) → Q (0, vI c) (M, S)) : EvQ 1 36 [vI y] (M, S) Q := by
  refine EvQ.enter (ls := [vI y, none]) (Nat.le_of_ble_eq_true rfl) rfl ?_
  refine WP.blk 2 ?_
  show WP 0 36 2 [vI y, vI 0] [] (M, S) Q
  have hl_2 : ∀ (n_2 : Nat) (i : Int), 0 ≤ i ∧ i ≤ 20 → (∀ b, 0 ≤ b → b < i → ¬ bs y b = true) → (20 - i).toNat < n_2 → WP 0 36 2 [vI y, vI i] [] (M, S) Q := by
    intro n_2
    induction n_2 with
    | zero => intro i h1 h2 hm_2; exact absurd hm_2 (Nat.not_lt_zero _)
    | succ n_2 ih_2 =>
      intro i h1 h2 hm_2
      have e1 := bs_bit (x := y) (s := i) (by unfold U20 at hy; omega) (by omega)
      refine WP.blk 3 ?_
      show WP 0 36 (if cnd .ge i 20 = true then 24 else 8) [vI y, vI i] [] (M, S) Q
      refine br_ge (fun c_1 => ?_) (fun c_1 => ?_)
      · refine WP.blk 1 ?_
        show WP 0 36 25 [vI y, vI i] [vI (-1)] (M, S) Q
        exact WP.ret rfl rfl rfl trivial (k _ (Or.inr ⟨rfl, fun b a c => h2 b a (by omega)⟩))
      · refine WP.blk 6 ?_
        show WP 0 36 (if cnd .eq (iA (iR y i) 1) 0 = true then 18 else 16) [vI y, vI i] [] (M, S) Q
        refine br_eq (fun c_2 => ?_) (fun c_2 => ?_)
        · refine WP.blk 2 ?_
          show ir (i + 1) ∧ WP 0 36 2 [vI y, vI (i + 1)] [] (M, S) Q
          refine ⟨(by unfold ir; omega), ?_⟩
          exact ih_2 (i + 1) (by omega) (fun b a c => by by_cases e : b = i; (rw [e]; intro h9; have := e1.1 h9; omega); exact h2 b a (by omega))  (by omega)
        · refine WP.blk 1 ?_
          show WP 0 36 17 [vI y, vI i] [vI i] (M, S) Q
          exact WP.ret rfl rfl rfl trivial (k _ (Or.inl ⟨by omega, by omega, e1.2.1 (by have := e1.2.2; omega), h2⟩))
  exact hl_2 _ 0 (by omega) (fun b a c => by omega)  (Nat.lt_succ_self _)
set_option maxHeartbeats 4000000 in
theorem k_shortest {S : SD} {M : Nat → Int → Int} {p1 g1 : Nat} {f l : Int → Int} {w p : Int} (hS4 : isPlan S p1) (hS3 : isFits S g1) (hft : FitR M g1 f (f 0)) (hA : StAll f) (hw : WdOk f w) (hw7 : w < f 1) (hl : M (p1 + 1) = l) (hp : 0 ≤ p ∧ p ≤ f (97 + 14 * w)) (hr : ∀ q, p ≤ q → q ≤ f (97 + 14 * w) → 0 ≤ l q ∧ l q ≤ 1000) {Q : Res → Wd → Prop} (k : ∀ y n : Int, ShB f w p n l y → (5 < n ∨ f (97 + 14 * w) < p + n) → Q (0, vI y) (M, S)) : EvQ 3 35 [vR p1, vR g1, vI w, vI p, vI (f (97 + 14 * w))] (M, S) Q := by
  refine EvQ.enter (ls := [vR p1, vR g1, vI w, vI p, vI (f (97 + 14 * w)), none, none]) (Nat.le_of_ble_eq_true rfl) rfl ?_
  have hw1 := hw.1
  have hw2 := hw.2.1
  have hn1 := hw.2.2.1
  have hn2 := hw.2.2.2.1
  have hA1 := hA.1
  have hr0 := hr p (by omega) (by omega)
  refine WP.blk 2 ?_
  show WP 2 35 (if cnd .lt p 0 = true then 17 else 4) [vR p1, vR g1, vI w, vI p, vI (f (97 + 14 * w)), none, none] [] (M, S) Q
  refine br_lt (fun c_1 => ?_) (fun c_1 => ?_)
  · refine WP.blk 1 ?_
    show WP 2 35 18 [vR p1, vR g1, vI w, vI p, vI (f (97 + 14 * w)), none, none] [vI 0] (M, S) Q
    exact WP.ret rfl rfl rfl trivial (by exfalso; omega)
  · refine WP.blk 3 ?_
    show WP 2 35 (if cnd .gt p (f (97 + 14 * w)) = true then 17 else 10) [vR p1, vR g1, vI w, vI p, vI (f (97 + 14 * w)), none, none] [] (M, S) Q
    refine br_gt (fun c_2 => ?_) (fun c_2 => ?_)
    · refine WP.blk 1 ?_
      show WP 2 35 18 [vR p1, vR g1, vI w, vI p, vI (f (97 + 14 * w)), none, none] [vI 0] (M, S) Q
      exact WP.ret rfl rfl rfl trivial (by exfalso; omega)
    · refine WP.blk 3 ?_
      show WP 2 35 (if cnd .le (f (97 + 14 * w)) 12 = true then 19 else 17) [vR p1, vR g1, vI w, vI p, vI (f (97 + 14 * w)), none, none] [] (M, S) Q
      refine br_le (fun c_3 => ?_) (fun c_3 => ?_)
      · refine WP.blk 4 ?_
        show WP 2 35 25 [vR p1, vR g1, vI w, vI p, vI (f (97 + 14 * w)), vI 0, vI 1] [] (M, S) Q
        have hl_25 : ∀ (n_25 : Nat) (n : Int) (y : Int), 1 ≤ n ∧ n ≤ 6 → ShB f w p n l y → (6 - n).toNat < n_25 → WP 2 35 25 [vR p1, vR g1, vI w, vI p, vI (f (97 + 14 * w)), vI y, vI n] [] (M, S) Q := by
          intro n_25
          induction n_25 with
          | zero => intro n y h3 h4 hm_25; exact absurd hm_25 (Nat.not_lt_zero _)
          | succ n_25 ih_25 =>
            intro n y h3 h4 hm_25
            have hr1 := hr (p + n)
            refine WP.blk 3 ?_
            show WP 2 35 (if cnd .gt n 5 = true then 79 else 31) [vR p1, vR g1, vI w, vI p, vI (f (97 + 14 * w)), vI y, vI n] [] (M, S) Q
            refine br_gt (fun c_4 => ?_) (fun c_4 => ?_)
            · refine WP.blk 1 ?_
              show WP 2 35 81 [vR p1, vR g1, vI w, vI p, vI (f (97 + 14 * w)), vI y, vI n] [vI y] (M, S) Q
              exact WP.ret rfl rfl rfl trivial (k _ _ h4 (by omega))
            · refine WP.blk 5 ?_
              show ir (p + n) ∧ WP 2 35 (if cnd .gt (p + n) (f (97 + 14 * w)) = true then 79 else 40) [vR p1, vR g1, vI w, vI p, vI (f (97 + 14 * w)), vI y, vI n] [] (M, S) Q
              refine ⟨(by unfold ir; omega), ?_⟩
              refine br_gt (fun c_5 => ?_) (fun c_5 => ?_)
              · refine WP.blk 1 ?_
                show WP 2 35 81 [vR p1, vR g1, vI w, vI p, vI (f (97 + 14 * w)), vI y, vI n] [vI y] (M, S) Q
                exact WP.ret rfl rfl rfl trivial (k _ _ h4 (by omega))
              · refine WP.blk 2 ?_
                show (sT S p1 = 6 ∧ sR S p1 0 ≠ 0) ∧ WP 2 35 44 [vR p1, vR g1, vI w, vI p, vI (f (97 + 14 * w)), vI y, vI n] [vR (sR S p1 0)] (M, S) Q
                refine ⟨⟨hS4.1, by rw [(show sR S p1 0 = p1 + 1 from hS4.2.1)]; omega⟩, ?_⟩
                rw [(show sR S p1 0 = p1 + 1 from hS4.2.1)]
                refine WP.blk 8 ?_
                show ir (p + n) ∧ ((sT S (p1 + 1) = 11 ∨ sT S (p1 + 1) = 16 ∨ sT S (p1 + 1) = 17) ∧ 0 ≤ (p + n) ∧ (p + n) < (sN S (p1 + 1) : Int)) ∧ ir ((M (p1 + 1) (p + n)) + 1) ∧ (sT S p1 = 6 ∧ sR S p1 0 ≠ 0) ∧ WP 2 35 55 [vR p1, vR g1, vI w, vI p, vI (f (97 + 14 * w)), vI y, vI n] [vR (sR S p1 0), vI ((M (p1 + 1) (p + n)) + 1)] (M, S) Q
                rw [hl]
                refine ⟨(by unfold ir; omega), ⟨Or.inl hS4.2.2.2.2.1, by omega, by rw [(show sN S (p1 + 1) = 13 from hS4.2.2.2.2.2.1)]; omega⟩, (by unfold ir; omega), ⟨hS4.1, by rw [(show sR S p1 0 = p1 + 1 from hS4.2.1)]; omega⟩, ?_⟩
                rw [(show sR S p1 0 = p1 + 1 from hS4.2.1)]
                refine WP.blk 3 ?_
                show ((sT S (p1 + 1) = 11 ∨ sT S (p1 + 1) = 16 ∨ sT S (p1 + 1) = 17) ∧ 0 ≤ p ∧ p < (sN S (p1 + 1) : Int)) ∧ WP 2 35 (if cnd .ne ((l (p + n)) + 1) (M (p1 + 1) p) = true then 73 else 60) [vR p1, vR g1, vI w, vI p, vI (f (97 + 14 * w)), vI y, vI n] [] (M, S) Q
                rw [hl]
                refine ⟨⟨Or.inl hS4.2.2.2.2.1, by omega, by rw [(show sN S (p1 + 1) = 13 from hS4.2.2.2.2.2.1)]; omega⟩, ?_⟩
                refine br_ne (fun c_6 => ?_) (fun c_6 => ?_)
                · refine WP.blk 2 ?_
                  show ir (n + 1) ∧ WP 2 35 25 [vR p1, vR g1, vI w, vI p, vI (f (97 + 14 * w)), vI y, vI (n + 1)] [] (M, S) Q
                  refine ⟨(by unfold ir; omega), ?_⟩
                  exact ih_25 (n + 1) y (by omega) (ShB_f h4 (by assumption))  (by omega)
                · refine WP.blk 5 ?_
                  show WP 2 35 67 [vR p1, vR g1, vI w, vI p, vI (f (97 + 14 * w)), vI y, vI n] [vI n, vI p, vI w, vR g1, vI y] (M, S) Q
                  refine WP.cl (a := [vR g1, vI w, vI p, vI n]) (rest := [vI y]) rfl rfl rfl rfl ⟨hS3.1, trivial⟩ (by decide) (k_at hS3 (by omega) (by omega) ⟨rfl, ?_⟩)
                  show WP 2 35 70 [vR p1, vR g1, vI w, vI p, vI (f (97 + 14 * w)), vI y, vI n] [vI (M (g1 + 1) ((w * 12 + p) * 5 + n - 1)), vI y] (M, S) Q
                  refine WP.blk 4 ?_
                  show ir (n + 1) ∧ WP 2 35 25 [vR p1, vR g1, vI w, vI p, vI (f (97 + 14 * w)), vI (iO y (M (g1 + 1) ((w * 12 + p) * 5 + n - 1))), vI (n + 1)] [] (M, S) Q
                  refine ⟨(by unfold ir; omega), ?_⟩
                  exact ih_25 (n + 1) (iO y (M (g1 + 1) ((w * 12 + p) * 5 + n - 1))) (by omega) (ShB_t h4 (by assumption) (by omega) (hft w p n (by omega) hw7 (by omega) (by omega) (by omega) (by omega)))  (by omega)
        exact hl_25 _ 1 0 (by omega) (ShB_0 hA)  (Nat.lt_succ_self _)
      · refine WP.blk 1 ?_
        show WP 2 35 18 [vR p1, vR g1, vI w, vI p, vI (f (97 + 14 * w)), none, none] [vI 0] (M, S) Q
        exact WP.ret rfl rfl rfl trivial (by exfalso; omega)
set_option maxHeartbeats 4000000 in
theorem k_codeAt {S : SD} {M : Nat → Int → Int} {p1 : Nat} {i : Int} (hS4 : isPlan S p1) (hi : 0 ≤ i ∧ i < M p1 3 ∧ i < 12) {Q : Res → Wd → Prop} (k : Q (0, vI (M (p1 + 2) i)) (M, S)) : EvQ 1 37 [vR p1, vI i] (M, S) Q := by
  refine EvQ.enter (ls := [vR p1, vI i]) (Nat.le_of_ble_eq_true rfl) rfl ?_
  obtain ⟨o, ho⟩ : ∃ y9, M p1 = y9 := ⟨_, rfl⟩
  obtain ⟨c, hc⟩ : ∃ y9, M (p1 + 2) = y9 := ⟨_, rfl⟩
  rw [ho] at hi
  rw [hc] at k
  refine WP.blk 2 ?_
  show WP 0 37 (if cnd .lt i 0 = true then 27 else 4) [vR p1, vI i] [] (M, S) Q
  refine br_lt (fun c_1 => ?_) (fun c_1 => ?_)
  · refine WP.blk 1 ?_
    show WP 0 37 28 [vR p1, vI i] [vI (-1)] (M, S) Q
    exact WP.ret rfl rfl rfl trivial (by exfalso; omega)
  · refine WP.blk 4 ?_
    show sT S p1 = 6 ∧ WP 0 37 (if cnd .ge i (M p1 3) = true then 27 else 12) [vR p1, vI i] [] (M, S) Q
    rw [ho]
    refine ⟨hS4.1, ?_⟩
    refine br_ge (fun c_2 => ?_) (fun c_2 => ?_)
    · refine WP.blk 1 ?_
      show WP 0 37 28 [vR p1, vI i] [vI (-1)] (M, S) Q
      exact WP.ret rfl rfl rfl trivial (by exfalso; omega)
    · refine WP.blk 3 ?_
      show WP 0 37 (if cnd .ge i 12 = true then 27 else 18) [vR p1, vI i] [] (M, S) Q
      refine br_ge (fun c_3 => ?_) (fun c_3 => ?_)
      · refine WP.blk 1 ?_
        show WP 0 37 28 [vR p1, vI i] [vI (-1)] (M, S) Q
        exact WP.ret rfl rfl rfl trivial (by exfalso; omega)
      · refine WP.blk 2 ?_
        show (sT S p1 = 6 ∧ sR S p1 1 ≠ 0) ∧ WP 0 37 22 [vR p1, vI i] [vR (sR S p1 1)] (M, S) Q
        refine ⟨⟨hS4.1, by rw [(show sR S p1 1 = p1 + 2 from hS4.2.2.1)]; omega⟩, ?_⟩
        rw [(show sR S p1 1 = p1 + 2 from hS4.2.2.1)]
        refine WP.blk 3 ?_
        show ((sT S (p1 + 2) = 11 ∨ sT S (p1 + 2) = 16 ∨ sT S (p1 + 2) = 17) ∧ 0 ≤ i ∧ i < (sN S (p1 + 2) : Int)) ∧ WP 0 37 28 [vR p1, vI i] [vI (M (p1 + 2) i)] (M, S) Q
        rw [hc]
        refine ⟨⟨Or.inl hS4.2.2.2.2.2.2.1, by omega, by rw [(show sN S (p1 + 2) = 12 from hS4.2.2.2.2.2.2.2.1)]; omega⟩, ?_⟩
        exact WP.ret rfl rfl rfl trivial k
set_option maxHeartbeats 4000000 in
theorem k_find {S : SD} {M : Nat → Int → Int} {p1 k1 g1 : Nat} {f : Int → Int} {w x u : Int} (hS4 : isPlan S p1) (hS : isSheet S k1) (hS3 : isFits S g1) (hd : p1 + 4 ≤ g1 ∨ g1 + 2 ≤ p1) (hd2 : p1 + 4 ≤ k1 ∨ k1 + 12 ≤ p1) (hst : StR M (k1 + 1) f) (hwd : WdR M (k1 + 4) f) (hft : FitR M g1 f (f 0)) (hA : StAll f) (hw : WdOk f w) (hw7 : w < f 1) (h7 : f 1 ≤ 7) (hu : Ux x u) {Q : Res → Wd → Prop} (k : ∀ (M2 : Nat → Int → Int), (∀ q9, (q9 < p1 ∨ p1 + 4 ≤ q9) → M2 q9 = M q9) → PlnR M2 p1 f w x → Q (0, none) (M2, S)) : EvQ 4 34 [vR p1, vR k1, vR g1, vI w, vI u] (M, S) Q := by
  refine EvQ.enter (ls := [vR p1, vR k1, vR g1, vI w, vI u, none, none, none, none, none]) (Nat.le_of_ble_eq_true rfl) rfl ?_
  have hw1 := hw.1
  have hw2 := hw.2.1
  have hn1 := hw.2.2.1
  have hn2 := hw.2.2.2.1
  have hA1 := hA.1
  obtain ⟨o, ho⟩ : ∃ y9, M p1 = y9 := ⟨_, rfl⟩
  obtain ⟨l, hl⟩ : ∃ y9, M (p1 + 1) = y9 := ⟨_, rfl⟩
  obtain ⟨c, hc⟩ : ∃ y9, M (p1 + 2) = y9 := ⟨_, rfl⟩
  obtain ⟨u3, hu3⟩ : ∃ y9, M (p1 + 3) = y9 := ⟨_, rfl⟩
  refine WP.blk 2 ?_
  show (sT S k1 = 8 ∧ sR S k1 1 ≠ 0) ∧ WP 3 34 4 [vR p1, vR k1, vR g1, vI w, vI u, none, none, none, none, none] [vR (sR S k1 1)] (M, S) Q
  refine ⟨⟨hS.1, by rw [(show sR S k1 1 = k1 + 4 from hS.2.2.1)]; omega⟩, ?_⟩
  rw [(show sR S k1 1 = k1 + 4 from hS.2.2.1)]
  refine WP.blk 1 ?_
  show WP 3 34 5 [vR p1, vR k1, vR g1, vI w, vI u, none, none, none, none, none] [vI w, vR (k1 + 4)] (M, S) Q
  refine WP.cl (a := [vR (k1 + 4), vI w]) (rest := []) rfl rfl rfl rfl ⟨hS.2.2.2.2.2.2.1.1, trivial⟩ (by decide) (k_len hS.2.2.2.2.2.2.1 hwd (by omega) (by omega) ⟨rfl, ?_⟩)
  show WP 3 34 8 [vR p1, vR k1, vR g1, vI w, vI u, none, none, none, none, none] [vI (f (97 + 14 * w))] (M, S) Q
  refine WP.blk 7 ?_
  show WP 3 34 18 [vR p1, vR k1, vR g1, vI w, vI u, vI (f (97 + 14 * w)), none, none, none, none] [vI u, vI (f (97 + 14 * w)), vI w, vR g1, vR p1, vR p1] (M, S) Q
  refine WP.cl (a := [vR p1, vR g1, vI w, vI (f (97 + 14 * w)), vI u]) (rest := [vR p1]) rfl rfl rfl rfl ⟨hS4.1, trivial⟩ (by decide) (k_measure0 hS4 hS3 hd hft hA hw hw7 hu (fun vy_1 My_1 fry_1 gy_1 hgy_1 hLy_1 hvy_1 => ⟨rfl, ?_⟩))
  show WP 3 34 21 [vR p1, vR k1, vR g1, vI w, vI u, vI (f (97 + 14 * w)), none, none, none, none] [vI vy_1, vR p1] (My_1, S) Q
  have r_2 : My_1 p1 = o := (fry_1 _ (by omega)).trans ho
  have r_4 : My_1 (p1 + 2) = c := (fry_1 _ (by omega)).trans hc
  have r_5 : My_1 (p1 + 3) = u3 := (fry_1 _ (by omega)).trans hu3
  have F_6 : StR My_1 (k1 + 1) f := StR_fr (fun r9 h8 h9 => fry_1 r9 (by omega)) hst
  have F_7 : WdR My_1 (k1 + 4) f := WdR_fr (fun r9 h8 h9 => fry_1 r9 (by omega)) hwd
  have F_8 : FitR My_1 g1 f (f 0) := FitR_fr (fun r9 h8 h9 => fry_1 r9 (by omega)) hft
  have fr_9 : (∀ q9, (q9 < p1 ∨ p1 + 4 ≤ q9) → My_1 q9 = M q9) := fun q9 q0 => (fry_1 q9 (by omega)).trans ((fun _ _ => rfl) q9 q0)
  obtain ⟨L, hL, hv⟩ := msV hA hw hLy_1 hvy_1
  have hrl := lst_rng (by omega) hA hLy_1
  refine WP.blk 1 ?_
  show sT S p1 = 6 ∧ WP 3 34 24 [vR p1, vR k1, vR g1, vI w, vI u, vI (f (97 + 14 * w)), none, none, none, none] [] (up My_1 p1 3 vy_1, S) Q
  refine ⟨hS4.1, ?_⟩
  generalize hM_10 : up My_1 p1 3 vy_1 = M_10
  obtain ⟨g_12, hg_12⟩ : ∃ y9, y9 = uf o 3 vy_1 := ⟨_, rfl⟩
  have r_11 : M_10 p1 = g_12 := by rw [← hM_10, hg_12, up_self, r_2]
  have t_13 : g_12 3 = vy_1 := by rw [hg_12]; exact uf_at _ _ (by omega)
  have r_14 : M_10 (p1 + 1) = gy_1 := by rw [← hM_10]; exact (up_row (by omega)).trans hgy_1
  have r_15 : M_10 (p1 + 2) = c := by rw [← hM_10]; exact (up_row (by omega)).trans r_4
  have r_16 : M_10 (p1 + 3) = u3 := by rw [← hM_10]; exact (up_row (by omega)).trans r_5
  have F_17 : StR M_10 (k1 + 1) f := StR_fr (fun r9 h8 h9 => by rw [← hM_10]; exact up_row (by omega)) F_6
  have F_18 : WdR M_10 (k1 + 4) f := WdR_fr (fun r9 h8 h9 => by rw [← hM_10]; exact up_row (by omega)) F_7
  have F_19 : FitR M_10 g1 f (f 0) := FitR_fr (fun r9 h8 h9 => by rw [← hM_10]; exact up_row (by omega)) F_8
  have fr_20 : (∀ q9, (q9 < p1 ∨ p1 + 4 ≤ q9) → M_10 q9 = M q9) := fun q9 q0 => by rw [← hM_10]; exact (up_row (by omega)).trans (fr_9 q9 q0)
  refine WP.blk 2 ?_
  show (sT S p1 = 6 ∧ sR S p1 2 ≠ 0) ∧ WP 3 34 28 [vR p1, vR k1, vR g1, vI w, vI u, vI (f (97 + 14 * w)), none, none, none, none] [vR (sR S p1 2)] (M_10, S) Q
  refine ⟨⟨hS4.1, by rw [(show sR S p1 2 = p1 + 3 from hS4.2.2.2.1)]; omega⟩, ?_⟩
  rw [(show sR S p1 2 = p1 + 3 from hS4.2.2.2.1)]
  refine WP.blk 1 ?_
  show WP 3 34 29 [vR p1, vR k1, vR g1, vI w, vI u, vI (f (97 + 14 * w)), none, none, none, none] [vI 0, vR (p1 + 3)] (M_10, S) Q
  refine WP.cl (a := [vR (p1 + 3), vI 0]) (rest := []) rfl rfl rfl rfl trivial (by decide) (j_fill (n := 10) hS4.2.2.2.2.2.2.2.2.1 hS4.2.2.2.2.2.2.2.2.2 (by omega) (fun My_21 fry_21 hky_21 => ⟨rfl, ?_⟩))
  show WP 3 34 32 [vR p1, vR k1, vR g1, vI w, vI u, vI (f (97 + 14 * w)), none, none, none, none] [] (My_21, S) Q
  obtain ⟨zy_21, hzy_21⟩ : ∃ y9, My_21 (p1 + 3) = y9 := ⟨_, rfl⟩
  rw [hzy_21] at hky_21
  have r_22 : My_21 p1 = g_12 := (fry_21 _ (by omega)).trans r_11
  have r_23 : My_21 (p1 + 1) = gy_1 := (fry_21 _ (by omega)).trans r_14
  have r_24 : My_21 (p1 + 2) = c := (fry_21 _ (by omega)).trans r_15
  have F_26 : StR My_21 (k1 + 1) f := StR_fr (fun r9 h8 h9 => fry_21 r9 (by omega)) F_17
  have F_27 : WdR My_21 (k1 + 4) f := WdR_fr (fun r9 h8 h9 => fry_21 r9 (by omega)) F_18
  have F_28 : FitR My_21 g1 f (f 0) := FitR_fr (fun r9 h8 h9 => fry_21 r9 (by omega)) F_19
  have fr_29 : (∀ q9, (q9 < p1 ∨ p1 + 4 ≤ q9) → My_21 q9 = M q9) := fun q9 q0 => (fry_21 q9 (by omega)).trans (fr_20 q9 q0)
  refine WP.blk 4 ?_
  show WP 3 34 38 [vR p1, vR k1, vR g1, vI w, vI u, vI (f (97 + 14 * w)), vI 0, vI 0, none, none] [] (My_21, S) Q
  have hl_38 : ∀ (n_38 : Nat) (i : Int) (p : Int) (v8_38 : V) (v9_38 : V) (Ma : Nat → Int → Int) (c1 : Int → Int) (u1 : Int → Int), 0 ≤ i ∧ i ≤ 12 → 0 ≤ p ∧ p ≤ 12 → (vy_1 = -1 ∧ i = 0) ∨ (vy_1 ≠ -1 ∧ i ≤ vy_1 ∧ PlnX f w x L c1 p i) → (∀ s, 0 ≤ s → s < 10 → u1 s = cnt c1 i s) → Ma p1 = g_12 → Ma (p1 + 1) = gy_1 → Ma (p1 + 2) = c1 → Ma (p1 + 3) = u1 → StR Ma (k1 + 1) f → WdR Ma (k1 + 4) f → FitR Ma g1 f (f 0) → (∀ q9, (q9 < p1 ∨ p1 + 4 ≤ q9) → Ma q9 = M q9) → (12 - i).toNat < n_38 → WP 3 34 38 [vR p1, vR k1, vR g1, vI w, vI u, vI (f (97 + 14 * w)), vI p, vI i, v8_38, v9_38] [] (Ma, S) Q := by
    intro n_38
    induction n_38 with
    | zero => intro i p v8_38 v9_38 Ma c1 u1 h0 h9 h1 h2 z_38_0 z_38_1 z_38_2 z_38_3 F_38_st F_38_wd F_38_ft fr_38 hm_38; exact absurd hm_38 (Nat.not_lt_zero _)
    | succ n_38 ih_38 =>
      intro i p v8_38 v9_38 Ma c1 u1 h0 h9 h1 h2 z_38_0 z_38_1 z_38_2 z_38_3 F_38_st F_38_wd F_38_ft fr_38 hm_38
      refine WP.blk 4 ?_
      show sT S p1 = 6 ∧ WP 3 34 (if cnd .ge i (Ma p1 3) = true then 126 else 47) [vR p1, vR k1, vR g1, vI w, vI u, vI (f (97 + 14 * w)), vI p, vI i, v8_38, v9_38] [] (Ma, S) Q
      rw [z_38_0]
      refine ⟨hS4.1, ?_⟩
      refine br_ge (fun c_30 => ?_) (fun c_30 => ?_)
      · refine WP.ret rfl rfl rfl trivial ?_
        refine k _ fr_38 ?_
        unfold PlnR
        rw [z_38_0, z_38_2, z_38_3, show g_12 3 = vy_1 by omega]
        rcases h1 with ⟨q1, q2⟩ | ⟨q1, q2, q3⟩
        · refine Or.inl ⟨q1, ⟨L, hL, by rcases hv with h8 | h8 <;> omega⟩, fun s a b => ?_⟩
          rw [h2 s a b, q2, cnt_0]
        · have hv2 := hv.resolve_left (fun h8 => q1 h8.1)
          have e9 : i = vy_1 := by omega
          subst e9
          exact Or.inr ⟨_, c1, PlnX_e hL hv2.2.1 q3 (plnx_ge hA hL hv2.2.1 q3 hv2.1), rfl, fun j a b => rfl, h2⟩
      · refine WP.blk 3 ?_
        show WP 3 34 (if cnd .ge i 12 = true then 126 else 54) [vR p1, vR k1, vR g1, vI w, vI u, vI (f (97 + 14 * w)), vI p, vI i, v8_38, v9_38] [] (Ma, S) Q
        refine br_ge (fun c_31 => ?_) (fun c_31 => ?_)
        · refine WP.ret rfl rfl rfl trivial ?_
          refine k _ fr_38 ?_
          unfold PlnR
          rw [z_38_0, z_38_2, z_38_3, show g_12 3 = vy_1 by omega]
          rcases h1 with ⟨q1, q2⟩ | ⟨q1, q2, q3⟩
          · refine Or.inl ⟨q1, ⟨L, hL, by rcases hv with h8 | h8 <;> omega⟩, fun s a b => ?_⟩
            rw [h2 s a b, q2, cnt_0]
          · have hv2 := hv.resolve_left (fun h8 => q1 h8.1)
            have e9 : i = vy_1 := by omega
            subst e9
            exact Or.inr ⟨_, c1, PlnX_e hL hv2.2.1 q3 (plnx_ge hA hL hv2.2.1 q3 hv2.1), rfl, fun j a b => rfl, h2⟩
        · have hpx := (h1.resolve_left (fun h => by omega)).2.2
          have hpl := plnx_lt hL hpx (by omega)
          have hpp := hpx.1
          refine WP.blk 5 ?_
          show WP 3 34 61 [vR p1, vR k1, vR g1, vI w, vI u, vI (f (97 + 14 * w)), vI p, vI i, v8_38, v9_38] [vI (f (97 + 14 * w)), vI p, vI w, vR g1, vR p1] (Ma, S) Q
          refine WP.cl (a := [vR p1, vR g1, vI w, vI p, vI (f (97 + 14 * w))]) (rest := []) rfl rfl rfl rfl ⟨hS4.1, trivial⟩ (by decide) (k_shortest hS4 hS3 F_38_ft hA hw hw7 z_38_1 (by omega) (fun q a b => hrl q (by omega) b) (fun yy_32 ny_32 hyy_32 hny_32 => ⟨rfl, ?_⟩))
          show WP 3 34 64 [vR p1, vR k1, vR g1, vI w, vI u, vI (f (97 + 14 * w)), vI p, vI i, v8_38, v9_38] [vI yy_32] (Ma, S) Q
          have hUy_32 := (bsA hyy_32.1 hu.1).1
          refine WP.blk 2 ?_
          show WP 3 34 67 [vR p1, vR k1, vR g1, vI w, vI u, vI (f (97 + 14 * w)), vI p, vI i, v8_38, v9_38] [vI (iA yy_32 u)] (Ma, S) Q
          refine WP.cl (a := [vI (iA yy_32 u)]) (rest := []) rfl rfl rfl rfl trivial (by decide) (k_lowest hUy_32 (fun c_33 hc_33 => ⟨rfl, ?_⟩))
          show WP 3 34 70 [vR p1, vR k1, vR g1, vI w, vI u, vI (f (97 + 14 * w)), vI p, vI i, v8_38, v9_38] [vI c_33] (Ma, S) Q
          have hlow := low_1 hA hw hLy_1 hL (by omega) (by omega) hyy_32 hny_32 hu hc_33
          have hl1 := hlow.1.1
          have hl2 := hlow.1.2.1
          have hl3 := hlow.1.2.2.2.1
          have hir : iR c_33 1 = c_33 / 2 := (iA1 (by omega)).2
          have hl4 := (hA.2 (c_33 / 2) (by omega) hl2).2.2.1
          have hl5 := (hA.2 (c_33 / 2) (by omega) hl2).2.2.2.1
          have hl6 := h2 (c_33 / 2) (by omega) (by omega)
          have hl7 := cnt_r (c := c1) (s := c_33 / 2) (show 0 ≤ i by omega)
          refine WP.blk 7 ?_
          show (sT S p1 = 6 ∧ sR S p1 1 ≠ 0) ∧ WP 3 34 82 [vR p1, vR k1, vR g1, vI w, vI u, vI (f (97 + 14 * w)), vI p, vI i, vI c_33, vI (iR c_33 1)] [vR (sR S p1 1)] (Ma, S) Q
          rw [hir]
          refine ⟨⟨hS4.1, by rw [(show sR S p1 1 = p1 + 2 from hS4.2.2.1)]; omega⟩, ?_⟩
          rw [(show sR S p1 1 = p1 + 2 from hS4.2.2.1)]
          refine WP.blk 3 ?_
          show (sT S (p1 + 2) = 11 ∧ 0 ≤ i ∧ i < (sN S (p1 + 2) : Int)) ∧ WP 3 34 87 [vR p1, vR k1, vR g1, vI w, vI u, vI (f (97 + 14 * w)), vI p, vI i, vI c_33, vI (c_33 / 2)] [] (up Ma (p1 + 2) i c_33, S) Q
          refine ⟨⟨hS4.2.2.2.2.2.2.1, by omega, by rw [(show sN S (p1 + 2) = 12 from hS4.2.2.2.2.2.2.2.1)]; omega⟩, ?_⟩
          generalize hM_34 : up Ma (p1 + 2) i c_33 = M_34
          have r_35 : M_34 p1 = g_12 := by rw [← hM_34]; exact (up_row (by omega)).trans z_38_0
          have r_36 : M_34 (p1 + 1) = gy_1 := by rw [← hM_34]; exact (up_row (by omega)).trans z_38_1
          obtain ⟨g_38, hg_38⟩ : ∃ y9, y9 = uf c1 i c_33 := ⟨_, rfl⟩
          have r_37 : M_34 (p1 + 2) = g_38 := by rw [← hM_34, hg_38, up_self, z_38_2]
          have r_39 : M_34 (p1 + 3) = u1 := by rw [← hM_34]; exact (up_row (by omega)).trans z_38_3
          have F_40 : StR M_34 (k1 + 1) f := StR_fr (fun r9 h8 h9 => by rw [← hM_34]; exact up_row (by omega)) F_38_st
          have F_41 : WdR M_34 (k1 + 4) f := WdR_fr (fun r9 h8 h9 => by rw [← hM_34]; exact up_row (by omega)) F_38_wd
          have F_42 : FitR M_34 g1 f (f 0) := FitR_fr (fun r9 h8 h9 => by rw [← hM_34]; exact up_row (by omega)) F_38_ft
          have fr_43 : (∀ q9, (q9 < p1 ∨ p1 + 4 ≤ q9) → M_34 q9 = M q9) := fun q9 q0 => by rw [← hM_34]; exact (up_row (by omega)).trans (fr_38 q9 q0)
          refine WP.blk 1 ?_
          show WP 3 34 89 [vR p1, vR k1, vR g1, vI w, vI u, vI (f (97 + 14 * w)), vI p, vI i, vI c_33, vI (c_33 / 2)] [vI (c_33 / 2)] (M_34, S) Q
          refine WP.cl (a := [vI (c_33 / 2)]) (rest := []) rfl rfl rfl rfl trivial (by decide) (k_isNumber  (fun b_44 hb_44 => ⟨rfl, ?_⟩))
          show WP 3 34 92 [vR p1, vR k1, vR g1, vI w, vI u, vI (f (97 + 14 * w)), vI p, vI i, vI c_33, vI (c_33 / 2)] [vI b_44] (M_34, S) Q
          refine WP.blk 1 ?_
          show WP 3 34 (if cnd .eq b_44 0 = true then 106 else 95) [vR p1, vR k1, vR g1, vI w, vI u, vI (f (97 + 14 * w)), vI p, vI i, vI c_33, vI (c_33 / 2)] [] (M_34, S) Q
          refine br_eq (fun c_45 => ?_) (fun c_45 => ?_)
          · have p_44 := (hb_44.resolve_left (fun h => by omega)).2
            refine WP.blk 3 ?_
            show (sT S k1 = 8 ∧ sR S k1 0 ≠ 0) ∧ WP 3 34 112 [vR p1, vR k1, vR g1, vI w, vI u, vI (f (97 + 14 * w)), vI p, vI i, vI c_33, vI (c_33 / 2)] [vR (sR S k1 0), vI p] (M_34, S) Q
            refine ⟨⟨hS.1, by rw [(show sR S k1 0 = k1 + 1 from hS.2.1)]; omega⟩, ?_⟩
            rw [(show sR S k1 0 = k1 + 1 from hS.2.1)]
            refine WP.blk 1 ?_
            show WP 3 34 114 [vR p1, vR k1, vR g1, vI w, vI u, vI (f (97 + 14 * w)), vI p, vI i, vI c_33, vI (c_33 / 2)] [vI (c_33 / 2), vR (k1 + 1), vI p] (M_34, S) Q
            refine WP.cl (a := [vR (k1 + 1), vI (c_33 / 2)]) (rest := [vI p]) rfl rfl rfl rfl ⟨hS.2.2.2.2.2.1.1, trivial⟩ (by decide) (k_len hS.2.2.2.2.2.1 F_40 (by omega) (by omega) ⟨rfl, ?_⟩)
            show WP 3 34 117 [vR p1, vR k1, vR g1, vI w, vI u, vI (f (97 + 14 * w)), vI p, vI i, vI c_33, vI (c_33 / 2)] [vI (f (7 + 9 * (c_33 / 2))), vI p] (M_34, S) Q
            refine WP.blk 4 ?_
            show ir (p + (f (7 + 9 * (c_33 / 2)))) ∧ ir (i + 1) ∧ WP 3 34 38 [vR p1, vR k1, vR g1, vI w, vI u, vI (f (97 + 14 * w)), vI (p + (f (7 + 9 * (c_33 / 2)))), vI (i + 1), vI c_33, vI (c_33 / 2)] [] (M_34, S) Q
            refine ⟨(by unfold ir; omega), (by unfold ir; omega), ?_⟩
            exact ih_38 (i + 1) (p + (f (7 + 9 * (c_33 / 2)))) (vI c_33) (vI (c_33 / 2)) M_34 g_38 u1 (by exfalso; omega) (by exfalso; omega) (by exfalso; omega) (by exfalso; omega) r_35 r_36 r_37 r_39 F_40 F_41 F_42 fr_43 (by omega)
          · have p_44 := (hb_44.resolve_right (fun h => by omega)).2
            refine WP.blk 2 ?_
            show (sT S p1 = 6 ∧ sR S p1 2 ≠ 0) ∧ WP 3 34 99 [vR p1, vR k1, vR g1, vI w, vI u, vI (f (97 + 14 * w)), vI p, vI i, vI c_33, vI (c_33 / 2)] [vR (sR S p1 2)] (M_34, S) Q
            refine ⟨⟨hS4.1, by rw [(show sR S p1 2 = p1 + 3 from hS4.2.2.2.1)]; omega⟩, ?_⟩
            rw [(show sR S p1 2 = p1 + 3 from hS4.2.2.2.1)]
            refine WP.blk 6 ?_
            show ((sT S (p1 + 3) = 11 ∨ sT S (p1 + 3) = 16 ∨ sT S (p1 + 3) = 17) ∧ 0 ≤ (c_33 / 2) ∧ (c_33 / 2) < (sN S (p1 + 3) : Int)) ∧ ir ((M_34 (p1 + 3) (c_33 / 2)) + 1) ∧ (sT S (p1 + 3) = 11 ∧ 0 ≤ (c_33 / 2) ∧ (c_33 / 2) < (sN S (p1 + 3) : Int)) ∧ WP 3 34 106 [vR p1, vR k1, vR g1, vI w, vI u, vI (f (97 + 14 * w)), vI p, vI i, vI c_33, vI (c_33 / 2)] [] (up M_34 (p1 + 3) (c_33 / 2) ((M_34 (p1 + 3) (c_33 / 2)) + 1), S) Q
            rw [r_39]
            refine ⟨⟨Or.inl hS4.2.2.2.2.2.2.2.2.1, by omega, by rw [(show sN S (p1 + 3) = 10 from hS4.2.2.2.2.2.2.2.2.2)]; omega⟩, (by unfold ir; omega), ⟨hS4.2.2.2.2.2.2.2.2.1, by omega, by rw [(show sN S (p1 + 3) = 10 from hS4.2.2.2.2.2.2.2.2.2)]; omega⟩, ?_⟩
            generalize hM_46 : up M_34 (p1 + 3) (c_33 / 2) ((u1 (c_33 / 2)) + 1) = M_46
            have r_47 : M_46 p1 = g_12 := by rw [← hM_46]; exact (up_row (by omega)).trans r_35
            have r_48 : M_46 (p1 + 1) = gy_1 := by rw [← hM_46]; exact (up_row (by omega)).trans r_36
            have r_49 : M_46 (p1 + 2) = g_38 := by rw [← hM_46]; exact (up_row (by omega)).trans r_37
            obtain ⟨g_51, hg_51⟩ : ∃ y9, y9 = uf u1 (c_33 / 2) ((u1 (c_33 / 2)) + 1) := ⟨_, rfl⟩
            have r_50 : M_46 (p1 + 3) = g_51 := by rw [← hM_46, hg_51, up_self, r_39]
            have F_52 : StR M_46 (k1 + 1) f := StR_fr (fun r9 h8 h9 => by rw [← hM_46]; exact up_row (by omega)) F_40
            have F_53 : WdR M_46 (k1 + 4) f := WdR_fr (fun r9 h8 h9 => by rw [← hM_46]; exact up_row (by omega)) F_41
            have F_54 : FitR M_46 g1 f (f 0) := FitR_fr (fun r9 h8 h9 => by rw [← hM_46]; exact up_row (by omega)) F_42
            have fr_55 : (∀ q9, (q9 < p1 ∨ p1 + 4 ≤ q9) → M_46 q9 = M q9) := fun q9 q0 => by rw [← hM_46]; exact (up_row (by omega)).trans (fr_43 q9 q0)
            refine WP.blk 3 ?_
            show (sT S k1 = 8 ∧ sR S k1 0 ≠ 0) ∧ WP 3 34 112 [vR p1, vR k1, vR g1, vI w, vI u, vI (f (97 + 14 * w)), vI p, vI i, vI c_33, vI (c_33 / 2)] [vR (sR S k1 0), vI p] (M_46, S) Q
            refine ⟨⟨hS.1, by rw [(show sR S k1 0 = k1 + 1 from hS.2.1)]; omega⟩, ?_⟩
            rw [(show sR S k1 0 = k1 + 1 from hS.2.1)]
            refine WP.blk 1 ?_
            show WP 3 34 114 [vR p1, vR k1, vR g1, vI w, vI u, vI (f (97 + 14 * w)), vI p, vI i, vI c_33, vI (c_33 / 2)] [vI (c_33 / 2), vR (k1 + 1), vI p] (M_46, S) Q
            refine WP.cl (a := [vR (k1 + 1), vI (c_33 / 2)]) (rest := [vI p]) rfl rfl rfl rfl ⟨hS.2.2.2.2.2.1.1, trivial⟩ (by decide) (k_len hS.2.2.2.2.2.1 F_52 (by omega) (by omega) ⟨rfl, ?_⟩)
            show WP 3 34 117 [vR p1, vR k1, vR g1, vI w, vI u, vI (f (97 + 14 * w)), vI p, vI i, vI c_33, vI (c_33 / 2)] [vI (f (7 + 9 * (c_33 / 2))), vI p] (M_46, S) Q
            refine WP.blk 4 ?_
            show ir (p + (f (7 + 9 * (c_33 / 2)))) ∧ ir (i + 1) ∧ WP 3 34 38 [vR p1, vR k1, vR g1, vI w, vI u, vI (f (97 + 14 * w)), vI (p + (f (7 + 9 * (c_33 / 2)))), vI (i + 1), vI c_33, vI (c_33 / 2)] [] (M_46, S) Q
            refine ⟨(by unfold ir; omega), (by unfold ir; omega), ?_⟩
            exact ih_38 (i + 1) (p + (f (7 + 9 * (c_33 / 2)))) (vI c_33) (vI (c_33 / 2)) M_46 g_38 g_51 (by omega) (by omega) (Or.inr ⟨by omega, by omega, PlnX_s hA hpx hlow hg_38⟩) (uses_s (by omega) h2 hg_38 hg_51) r_47 r_48 r_49 r_50 F_52 F_53 F_54 fr_55 (by omega)
  exact hl_38 _ 0 0 (none) (none) My_21 c zy_21 (by omega) (by omega) (by rcases hv with h9 | h9; exact Or.inl ⟨h9.1, rfl⟩; exact Or.inr ⟨by omega, by omega, PlnX_0 hw⟩) (fun s a b => by rw [hky_21, cnt_0]; unfold fillR; rw [if_pos (by omega)]) r_22 r_23 r_24 hzy_21 F_26 F_27 F_28 fr_29 (Nat.lt_succ_self _)
set_option maxHeartbeats 4000000 in
theorem k_possible0 {S : SD} {M : Nat → Int → Int} {p1 j : Nat} {f : Int → Int} (hS4 : isPlan S p1) (hS2 : isInks S j) (hik : InkR M j f) (h0 : 0 ≤ f 0 ∧ f 0 ≤ 10) (hz : ∀ s, 0 ≤ s → s < 10 → (0 ≤ M (p1 + 3) s ∧ M (p1 + 3) s ≤ 12) ∧ (f 0 ≤ s → M (p1 + 3) s = 0)) (hWr : ∀ s, 0 ≤ s → s < f 0 → 0 ≤ f (7 + 9 * s + 8) ∧ f (7 + 9 * s + 8) ≤ 1000000000) {Q : Res → Wd → Prop} (k : ∀ b : Int, (b = 1 ∧ M p1 3 ≠ -1 ∧ ∀ s, 0 ≤ s → s < f 0 → f (7 + 9 * s + 8) + M (p1 + 3) s ≤ f 2 ∨ M (p1 + 3) s = 0) ∨ (b = 0 ∧ (M p1 3 = -1 ∨ ¬ ∀ s, 0 ≤ s → s < f 0 → f (7 + 9 * s + 8) + M (p1 + 3) s ≤ f 2 ∨ M (p1 + 3) s = 0)) → Q (0, vI b) (M, S)) : EvQ 3 38 [vR p1, vR j, vI (f 2)] (M, S) Q := by
  refine EvQ.enter (ls := [vR p1, vR j, vI (f 2), none]) (Nat.le_of_ble_eq_true rfl) rfl ?_
  obtain ⟨o, ho⟩ : ∃ y9, M p1 = y9 := ⟨_, rfl⟩
  obtain ⟨u3, hu3⟩ : ∃ y9, M (p1 + 3) = y9 := ⟨_, rfl⟩
  rw [hu3] at hz
  rw [ho, hu3] at k
  refine WP.blk 4 ?_
  show sT S p1 = 6 ∧ WP 2 38 (if cnd .ne (M p1 3) (-1) = true then 10 else 8) [vR p1, vR j, vI (f 2), none] [] (M, S) Q
  rw [ho]
  refine ⟨hS4.1, ?_⟩
  refine br_ne (fun c_1 => ?_) (fun c_1 => ?_)
  · refine WP.blk 2 ?_
    show WP 2 38 12 [vR p1, vR j, vI (f 2), vI 0] [] (M, S) Q
    have hl_12 : ∀ (n_12 : Nat) (i : Int), 0 ≤ i ∧ i ≤ 10 → (∀ s, 0 ≤ s → s < i → s < f 0 → f (7 + 9 * s + 8) + u3 s ≤ f 2 ∨ u3 s = 0) → (10 - i).toNat < n_12 → WP 2 38 12 [vR p1, vR j, vI (f 2), vI i] [] (M, S) Q := by
      intro n_12
      induction n_12 with
      | zero => intro i h1 h2 hm_12; exact absurd hm_12 (Nat.not_lt_zero _)
      | succ n_12 ih_12 =>
        intro i h1 h2 hm_12
        have hz1 := fun (h : i < 10) => hz i h1.1 h
        have hz2 := fun (h : i < f 0) => hWr i h1.1 h
        refine WP.blk 3 ?_
        show WP 2 38 (if cnd .ge i 10 = true then 51 else 18) [vR p1, vR j, vI (f 2), vI i] [] (M, S) Q
        refine br_ge (fun c_2 => ?_) (fun c_2 => ?_)
        · refine WP.blk 1 ?_
          show WP 2 38 52 [vR p1, vR j, vI (f 2), vI i] [vI 1] (M, S) Q
          exact WP.ret rfl rfl rfl ⟨by omega, trivial⟩ (k _ (Or.inl ⟨rfl, by omega, fun s a b => h2 s a (by omega) b⟩))
        · refine WP.blk 2 ?_
          show (sT S p1 = 6 ∧ sR S p1 2 ≠ 0) ∧ WP 2 38 22 [vR p1, vR j, vI (f 2), vI i] [vR (sR S p1 2)] (M, S) Q
          refine ⟨⟨hS4.1, by rw [(show sR S p1 2 = p1 + 3 from hS4.2.2.2.1)]; omega⟩, ?_⟩
          rw [(show sR S p1 2 = p1 + 3 from hS4.2.2.2.1)]
          refine WP.blk 3 ?_
          show ((sT S (p1 + 3) = 11 ∨ sT S (p1 + 3) = 16 ∨ sT S (p1 + 3) = 17) ∧ 0 ≤ i ∧ i < (sN S (p1 + 3) : Int)) ∧ WP 2 38 (if cnd .le (M (p1 + 3) i) 0 = true then 45 else 27) [vR p1, vR j, vI (f 2), vI i] [] (M, S) Q
          rw [hu3]
          refine ⟨⟨Or.inl hS4.2.2.2.2.2.2.2.2.1, by omega, by rw [(show sN S (p1 + 3) = 10 from hS4.2.2.2.2.2.2.2.2.2)]; omega⟩, ?_⟩
          refine br_le (fun c_3 => ?_) (fun c_3 => ?_)
          · refine WP.blk 2 ?_
            show ir (i + 1) ∧ WP 2 38 12 [vR p1, vR j, vI (f 2), vI (i + 1)] [] (M, S) Q
            refine ⟨(by unfold ir; omega), ?_⟩
            exact ih_12 (i + 1) (by omega) (fun s a b c => by by_cases e : s = i; (rw [e]; omega); exact h2 s a (by omega) c)  (by omega)
          · refine WP.blk 2 ?_
            show WP 2 38 29 [vR p1, vR j, vI (f 2), vI i] [vI i, vR j] (M, S) Q
            refine WP.cl (a := [vR j, vI i]) (rest := []) rfl rfl rfl rfl ⟨hS2.1, trivial⟩ (by decide) (k_wearOf hS2 hik (by omega) (by omega) ⟨rfl, ?_⟩)
            show WP 2 38 32 [vR p1, vR j, vI (f 2), vI i] [vI (f (7 + 9 * i + 8))] (M, S) Q
            refine WP.blk 2 ?_
            show (sT S p1 = 6 ∧ sR S p1 2 ≠ 0) ∧ WP 2 38 36 [vR p1, vR j, vI (f 2), vI i] [vR (sR S p1 2), vI (f (7 + 9 * i + 8))] (M, S) Q
            refine ⟨⟨hS4.1, by rw [(show sR S p1 2 = p1 + 3 from hS4.2.2.2.1)]; omega⟩, ?_⟩
            rw [(show sR S p1 2 = p1 + 3 from hS4.2.2.2.1)]
            refine WP.blk 5 ?_
            show ((sT S (p1 + 3) = 11 ∨ sT S (p1 + 3) = 16 ∨ sT S (p1 + 3) = 17) ∧ 0 ≤ i ∧ i < (sN S (p1 + 3) : Int)) ∧ ir ((f (7 + 9 * i + 8)) + (M (p1 + 3) i)) ∧ WP 2 38 (if cnd .le ((f (7 + 9 * i + 8)) + (M (p1 + 3) i)) (f 2) = true then 45 else 43) [vR p1, vR j, vI (f 2), vI i] [] (M, S) Q
            rw [hu3]
            refine ⟨⟨Or.inl hS4.2.2.2.2.2.2.2.2.1, by omega, by rw [(show sN S (p1 + 3) = 10 from hS4.2.2.2.2.2.2.2.2.2)]; omega⟩, (by unfold ir; omega), ?_⟩
            refine br_le (fun c_4 => ?_) (fun c_4 => ?_)
            · refine WP.blk 2 ?_
              show ir (i + 1) ∧ WP 2 38 12 [vR p1, vR j, vI (f 2), vI (i + 1)] [] (M, S) Q
              refine ⟨(by unfold ir; omega), ?_⟩
              exact ih_12 (i + 1) (by omega) (fun s a b c => by by_cases e : s = i; (rw [e]; omega); exact h2 s a (by omega) c)  (by omega)
            · refine WP.blk 1 ?_
              show WP 2 38 44 [vR p1, vR j, vI (f 2), vI i] [vI 0] (M, S) Q
              exact WP.ret rfl rfl rfl ⟨by omega, trivial⟩ (k _ (Or.inr ⟨rfl, Or.inr (fun h => by have h9 := h i (by omega) (by omega); omega)⟩))
    exact hl_12 _ 0 (by omega) (fun s a b c => by omega)  (Nat.lt_succ_self _)
  · refine WP.blk 1 ?_
    show WP 2 38 9 [vR p1, vR j, vI (f 2), none] [vI 0] (M, S) Q
    exact WP.ret rfl rfl rfl ⟨by omega, trivial⟩ (k _ (Or.inr ⟨rfl, Or.inl (by omega)⟩))
theorem k_possible {S : SD} {M : Nat → Int → Int} {p1 j : Nat} {f : Int → Int} {w x l : Int} (hS4 : isPlan S p1) (hS2 : isInks S j) (hik : InkR M j f) (hA : StAll f) (hw : WdOk f w) (hx : Fresh f x) (hp : PlnR M p1 f w x) (hl : l = f 2) (hWr : ∀ s, 0 ≤ s → s < f 0 → 0 ≤ f (7 + 9 * s + 8) ∧ f (7 + 9 * s + 8) ≤ 1000000000) {Q : Res → Wd → Prop} (k : ∀ b : Int, (b = 1 ∧ ∃ n c, Wrt f w c n ∧ M p1 3 = n ∧ ∀ i, 0 ≤ i → i < n → M (p1 + 2) i = c i) ∨ (b = 0 ∧ ∀ c n, ¬ Wrt f w c n) → Q (0, vI b) (M, S)) : EvQ 3 38 [vR p1, vR j, vI l] (M, S) Q := by
  subst hl
  exact k_possible0 hS4 hS2 hik hA.1 (uses_r hA hw hp).2 hWr (fun b hb => k b (wrt_i hA hw hx hp hb))
set_option maxHeartbeats 4000000 in
theorem k_carryOut {S : SD} {M : Nat → Int → Int} {p1 j : Nat} {f cc : Int → Int} {col ld B n : Int} (hS4 : isPlan S p1) (hS2 : isInks S j) (hd : p1 + 4 ≤ j ∨ j + 4 ≤ p1) (hik : InkR M j f) (hR : RowOk B f) (hB : 0 ≤ B ∧ B ≤ 1000000000 - 200) (hcol : 0 ≤ col ∧ col ≤ 3) (hld : ld = f 3) (hn : M p1 3 = n) (hn2 : 0 ≤ n ∧ n ≤ 12) (hcc : ∀ i, 0 ≤ i → i < n → M (p1 + 2) i = cc i) (hp : ∀ i, 0 ≤ i → i < n → 0 ≤ cc i ∧ cc i / 2 < f 0) {Q : Res → Wd → Prop} (k : ∀ (M2 : Nat → Int → Int), (∀ q9, (q9 < j ∨ j + 4 ≤ q9) → M2 q9 = M q9) → InkR M2 j (car col cc f n) → Q (0, none) (M2, S)) : EvQ 3 39 [vR p1, vR j, vI col, vI ld] (M, S) Q := by
  refine EvQ.enter (ls := [vR p1, vR j, vI col, vI ld, none]) (Nat.le_of_ble_eq_true rfl) rfl ?_
  obtain ⟨o, ho⟩ : ∃ y9, M p1 = y9 := ⟨_, rfl⟩
  obtain ⟨c, hc⟩ : ∃ y9, M (p1 + 2) = y9 := ⟨_, rfl⟩
  rw [ho] at hn
  rw [hc] at hcc
  have hA1 := hR.1.1
  refine WP.blk 2 ?_
  show WP 2 39 3 [vR p1, vR j, vI col, vI ld, vI 0] [] (M, S) Q
  have hl_3 : ∀ (n_3 : Nat) (i : Int) (Ma : Nat → Int → Int), 0 ≤ i ∧ i ≤ n → InkR Ma j (car col cc f i) → Ma p1 = o → Ma (p1 + 2) = c → (∀ q9, (q9 < j ∨ j + 4 ≤ q9) → Ma q9 = M q9) → (n - i).toNat < n_3 → WP 2 39 3 [vR p1, vR j, vI col, vI ld, vI i] [] (Ma, S) Q := by
    intro n_3
    induction n_3 with
    | zero => intro i Ma h1 h2 z_3_0 z_3_1 fr_3 hm_3; exact absurd hm_3 (Nat.not_lt_zero _)
    | succ n_3 ih_3 =>
      intro i Ma h1 h2 z_3_0 z_3_1 fr_3 hm_3
      obtain ⟨hiO, hio⟩ := car_1 hR hB.1 hcol h1 hp
      refine WP.blk 4 ?_
      show sT S p1 = 6 ∧ WP 2 39 (if cnd .ge i (Ma p1 3) = true then 40 else 12) [vR p1, vR j, vI col, vI ld, vI i] [] (Ma, S) Q
      rw [z_3_0]
      refine ⟨hS4.1, ?_⟩
      refine br_ge (fun c_1 => ?_) (fun c_1 => ?_)
      · exact WP.ret rfl rfl rfl trivial (k _ fr_3 (by rw [show n = i by omega]; exact h2))
      · refine WP.blk 3 ?_
        show WP 2 39 (if cnd .ge i 12 = true then 40 else 19) [vR p1, vR j, vI col, vI ld, vI i] [] (Ma, S) Q
        refine br_ge (fun c_2 => ?_) (fun c_2 => ?_)
        · exact WP.ret rfl rfl rfl trivial (k _ fr_3 (by rw [show n = i by omega]; exact h2))
        · have hc1 := hcc i (by omega) (by omega)
          have hp1 := hp i (by omega) (by omega)
          have hir : iR (c i) 1 = c i / 2 := (iA1 (by omega)).2
          refine WP.blk 3 ?_
          show (sT S p1 = 6 ∧ sR S p1 1 ≠ 0) ∧ WP 2 39 24 [vR p1, vR j, vI col, vI ld, vI i] [vR (sR S p1 1), vR j] (Ma, S) Q
          refine ⟨⟨hS4.1, by rw [(show sR S p1 1 = p1 + 2 from hS4.2.2.1)]; omega⟩, ?_⟩
          rw [(show sR S p1 1 = p1 + 2 from hS4.2.2.1)]
          refine WP.blk 6 ?_
          show ((sT S (p1 + 2) = 11 ∨ sT S (p1 + 2) = 16 ∨ sT S (p1 + 2) = 17) ∧ 0 ≤ i ∧ i < (sN S (p1 + 2) : Int)) ∧ WP 2 39 31 [vR p1, vR j, vI col, vI ld, vI i] [vI ld, vI col, vI (iR (Ma (p1 + 2) i) 1), vR j] (Ma, S) Q
          rw [z_3_1]
          rw [hir]
          refine ⟨⟨Or.inl hS4.2.2.2.2.2.2.1, by omega, by rw [(show sN S (p1 + 2) = 12 from hS4.2.2.2.2.2.2.2.1)]; omega⟩, ?_⟩
          refine WP.cl (a := [vR j, vI (c i / 2), vI col, vI ld]) (rest := []) rfl rfl rfl rfl ⟨hS2.1, trivial⟩ (by decide) (k_press (B := B + i) hS2 h2 ⟨by omega, by rw [hio.1]; omega⟩ (by rw [hio.1]; omega) hiO (by omega) hcol (by rw [hio.2.2.2.1]; exact hld) (fun My_3 fry_3 hky_3 => ⟨rfl, ?_⟩))
          show WP 2 39 34 [vR p1, vR j, vI col, vI ld, vI i] [] (My_3, S) Q
          have r_4 : My_3 p1 = o := (fry_3 _ (by omega)).trans z_3_0
          have r_5 : My_3 (p1 + 2) = c := (fry_3 _ (by omega)).trans z_3_1
          have fr_6 : (∀ q9, (q9 < j ∨ j + 4 ≤ q9) → My_3 q9 = M q9) := fun q9 q0 => (fry_3 q9 (by omega)).trans (fr_3 q9 q0)
          refine WP.blk 2 ?_
          show ir (i + 1) ∧ WP 2 39 3 [vR p1, vR j, vI col, vI ld, vI (i + 1)] [] (My_3, S) Q
          refine ⟨(by unfold ir; omega), ?_⟩
          exact ih_3 (i + 1) My_3 (by omega) (by rw [car_s h1.1, ← hcc i (by omega) (by omega)]; exact hky_3) r_4 r_5 fr_6 (by omega)
  exact hl_3 _ 0 M (by omega) hik ho hc (fun _ _ => rfl) (Nat.lt_succ_self _)
