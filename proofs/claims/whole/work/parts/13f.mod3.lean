set_option maxHeartbeats 4000000 in
theorem q_fits {S : SD} {M : Nat → Int → Int} {m : Nat} {w p s t : Int} (hS : isMod S m) (hs : StOk (M (m + 1)) s) (hw : WdOk (M (m + 1)) w) (hp : 0 ≤ p ∧ p ≤ 12) {Q : Res → Wd → Prop} (k : ∀ b : Int, (b = 1 ∧ Fit (M (m + 1)) w p s t) ∨ (b = 0 ∧ ¬ Fit (M (m + 1)) w p s t) → Q (0, vI b) (M, S)) : EvQ 3 141 [vR m, vI w, vI p, vI s, vI t] (M, S) Q := by
  refine EvQ.enter (ls := [vR m, vI w, vI p, vI s, vI t, none, none, none]) (Nat.le_of_ble_eq_true rfl) rfl ?_
  have hs1 := hs.1
  have hs2 := hs.2.1
  have hs3 := hs.2.2.1
  have hs4 := hs.2.2.2.1
  have hw1 := hw.1
  have hw2 := hw.2.1
  have hw3 := hw.2.2.1
  have hw4 := hw.2.2.2.1
  refine WP.blk 2 ?_
  show (sT S m = 10 ∧ sR S m 0 ≠ 0) ∧ WP 2 141 4 [vR m, vI w, vI p, vI s, vI t, none, none, none] [vR (sR S m 0)] (M, S) Q
  refine ⟨⟨hS.1.1, by rw [hS.1.2.1]; omega⟩, ?_⟩
  rw [hS.1.2.1]
  refine WP.blk 1 ?_
  show WP 2 141 5 [vR m, vI w, vI p, vI s, vI t, none, none, none] [vI s, vR (m + 1)] (M, S) Q
  refine WP.cl (a := [vI s]) (rest := [vR (m + 1)]) rfl rfl rfl rfl trivial (by decide) (q_stampAt (by omega) ⟨rfl, ?_⟩)
  show WP 2 141 8 [vR m, vI w, vI p, vI s, vI t, none, none, none] [vI (7 + 9 * s), vR (m + 1)] (M, S) Q
  refine WP.blk 7 ?_
  show ((sT S (m + 1) = 11 ∨ sT S (m + 1) = 16 ∨ sT S (m + 1) = 17) ∧ 0 ≤ (7 + 9 * s) ∧ (7 + 9 * s) < (sN S (m + 1) : Int)) ∧ ir (p + (M (m + 1) (7 + 9 * s))) ∧ (sT S m = 10 ∧ sR S m 0 ≠ 0) ∧ WP 2 141 19 [vR m, vI w, vI p, vI s, vI t, vI (M (m + 1) (7 + 9 * s)), none, none] [vR (sR S m 0), vI (p + (M (m + 1) (7 + 9 * s)))] (M, S) Q
  refine ⟨⟨Or.inl hS.2.1.1, by first | omega | exact AllB_b h1, by rw [hS.2.2.1]; first | omega | exact AllB_b h1⟩, (by unfold ir; first | omega | exact AllB_b h1), ⟨hS.1.1, by rw [hS.1.2.1]; omega⟩, ?_⟩
  rw [hS.1.2.1]
  refine WP.blk 1 ?_
  show WP 2 141 20 [vR m, vI w, vI p, vI s, vI t, vI (M (m + 1) (7 + 9 * s)), none, none] [vI w, vR (m + 1), vI (p + (M (m + 1) (7 + 9 * s)))] (M, S) Q
  refine WP.cl (a := [vI w]) (rest := [vR (m + 1), vI (p + (M (m + 1) (7 + 9 * s)))]) rfl rfl rfl rfl trivial (by decide) (q_wordAt (by omega) ⟨rfl, ?_⟩)
  show WP 2 141 23 [vR m, vI w, vI p, vI s, vI t, vI (M (m + 1) (7 + 9 * s)), none, none] [vI (97 + 14 * w), vR (m + 1), vI (p + (M (m + 1) (7 + 9 * s)))] (M, S) Q
  refine WP.blk 2 ?_
  show ((sT S (m + 1) = 11 ∨ sT S (m + 1) = 16 ∨ sT S (m + 1) = 17) ∧ 0 ≤ (97 + 14 * w) ∧ (97 + 14 * w) < (sN S (m + 1) : Int)) ∧ WP 2 141 (if cnd .le (p + (M (m + 1) (7 + 9 * s))) (M (m + 1) (97 + 14 * w)) = true then 29 else 27) [vR m, vI w, vI p, vI s, vI t, vI (M (m + 1) (7 + 9 * s)), none, none] [] (M, S) Q
  refine ⟨⟨Or.inl hS.2.1.1, by first | omega | exact AllB_b h1, by rw [hS.2.2.1]; first | omega | exact AllB_b h1⟩, ?_⟩
  refine br_le (fun c_1 => ?_) (fun c_1 => ?_)
  · refine WP.blk 4 ?_
    show WP 2 141 35 [vR m, vI w, vI p, vI s, vI t, vI (M (m + 1) (7 + 9 * s)), vI 1, vI 0] [] (M, S) Q
    have hl_35 : ∀ (n_35 : Nat) (i : Int) (c : Int), 0 ≤ i ∧ i ≤ M (m + 1) (7 + 9 * s) → AllB (fun j => prL (M (m + 1)) s j t = M (m + 1) (97 + 14 * w + 2 + p + j)) i c → (M (m + 1) (7 + 9 * s) - i).toNat < n_35 → WP 2 141 35 [vR m, vI w, vI p, vI s, vI t, vI (M (m + 1) (7 + 9 * s)), vI c, vI i] [] (M, S) Q := by
      intro n_35
      induction n_35 with
      | zero => intro i c h0 h1 hm_35; exact absurd hm_35 (Nat.not_lt_zero _)
      | succ n_35 ih_35 =>
        intro i c h0 h1 hm_35
        refine WP.blk 3 ?_
        show WP 2 141 (if cnd .ge i (M (m + 1) (7 + 9 * s)) = true then 88 else 42) [vR m, vI w, vI p, vI s, vI t, vI (M (m + 1) (7 + 9 * s)), vI c, vI i] [] (M, S) Q
        refine br_ge (fun c_2 => ?_) (fun c_2 => ?_)
        · refine WP.blk 1 ?_
          show WP 2 141 90 [vR m, vI w, vI p, vI s, vI t, vI (M (m + 1) (7 + 9 * s)), vI c, vI i] [vI c] (M, S) Q
          refine WP.ret rfl rfl rfl ⟨by first | omega | exact AllB_b h1, trivial⟩ ?_
          refine k _ ?_
          rcases h1 with ⟨g1, g2⟩ | ⟨g1, j, g2, g3, g4⟩
          · exact Or.inl ⟨g1, by omega, fun j g3 g4 => g2 j g3 (by omega)⟩
          · exact Or.inr ⟨g1, fun h => g4 (h.2 j g2 (by omega))⟩
        · refine WP.blk 2 ?_
          show WP 2 141 (if cnd .eq c 0 = true then 88 else 47) [vR m, vI w, vI p, vI s, vI t, vI (M (m + 1) (7 + 9 * s)), vI c, vI i] [] (M, S) Q
          refine br_eq (fun c_3 => ?_) (fun c_3 => ?_)
          · refine WP.blk 1 ?_
            show WP 2 141 90 [vR m, vI w, vI p, vI s, vI t, vI (M (m + 1) (7 + 9 * s)), vI c, vI i] [vI c] (M, S) Q
            refine WP.ret rfl rfl rfl ⟨by first | omega | exact AllB_b h1, trivial⟩ ?_
            refine k _ ?_
            rcases h1 with ⟨g1, g2⟩ | ⟨g1, j, g2, g3, g4⟩
            · exact Or.inl ⟨g1, by omega, fun j g3 g4 => g2 j g3 (by omega)⟩
            · exact Or.inr ⟨g1, fun h => g4 (h.2 j g2 (by omega))⟩
          · refine WP.blk 4 ?_
            show WP 2 141 53 [vR m, vI w, vI p, vI s, vI t, vI (M (m + 1) (7 + 9 * s)), vI c, vI i] [vI t, vI i, vI s, vR m] (M, S) Q
            refine WP.cl (a := [vR m, vI s, vI i, vI t]) (rest := []) rfl rfl rfl rfl ⟨hS.1.1, trivial⟩ (by decide) (q_printed hS hs (by omega) ⟨rfl, ?_⟩)
            show WP 2 141 56 [vR m, vI w, vI p, vI s, vI t, vI (M (m + 1) (7 + 9 * s)), vI c, vI i] [vI (prL (M (m + 1)) s i t)] (M, S) Q
            refine WP.blk 2 ?_
            show (sT S m = 10 ∧ sR S m 0 ≠ 0) ∧ WP 2 141 60 [vR m, vI w, vI p, vI s, vI t, vI (M (m + 1) (7 + 9 * s)), vI c, vI i] [vR (sR S m 0), vI (prL (M (m + 1)) s i t)] (M, S) Q
            refine ⟨⟨hS.1.1, by rw [hS.1.2.1]; omega⟩, ?_⟩
            rw [hS.1.2.1]
            refine WP.blk 1 ?_
            show WP 2 141 61 [vR m, vI w, vI p, vI s, vI t, vI (M (m + 1) (7 + 9 * s)), vI c, vI i] [vI w, vR (m + 1), vI (prL (M (m + 1)) s i t)] (M, S) Q
            refine WP.cl (a := [vI w]) (rest := [vR (m + 1), vI (prL (M (m + 1)) s i t)]) rfl rfl rfl rfl trivial (by decide) (q_wordAt (by omega) ⟨rfl, ?_⟩)
            show WP 2 141 64 [vR m, vI w, vI p, vI s, vI t, vI (M (m + 1) (7 + 9 * s)), vI c, vI i] [vI (97 + 14 * w), vR (m + 1), vI (prL (M (m + 1)) s i t)] (M, S) Q
            refine WP.blk 8 ?_
            show ir ((97 + 14 * w) + 2) ∧ ir (((97 + 14 * w) + 2) + p) ∧ ir ((((97 + 14 * w) + 2) + p) + i) ∧ ((sT S (m + 1) = 11 ∨ sT S (m + 1) = 16 ∨ sT S (m + 1) = 17) ∧ 0 ≤ ((((97 + 14 * w) + 2) + p) + i) ∧ ((((97 + 14 * w) + 2) + p) + i) < (sN S (m + 1) : Int)) ∧ WP 2 141 (if cnd .ne (prL (M (m + 1)) s i t) (M (m + 1) ((((97 + 14 * w) + 2) + p) + i)) = true then 79 else 75) [vR m, vI w, vI p, vI s, vI t, vI (M (m + 1) (7 + 9 * s)), vI c, vI i] [] (M, S) Q
            refine ⟨(by unfold ir; first | omega | exact AllB_b h1), (by unfold ir; first | omega | exact AllB_b h1), (by unfold ir; first | omega | exact AllB_b h1), ⟨Or.inl hS.2.1.1, by first | omega | exact AllB_b h1, by rw [hS.2.2.1]; first | omega | exact AllB_b h1⟩, ?_⟩
            refine br_ne (fun c_4 => ?_) (fun c_4 => ?_)
            · refine WP.blk 4 ?_
              show ir (i + 1) ∧ WP 2 141 35 [vR m, vI w, vI p, vI s, vI t, vI (M (m + 1) (7 + 9 * s)), vI 0, vI (i + 1)] [] (M, S) Q
              refine ⟨(by unfold ir; first | omega | exact AllB_b h1), ?_⟩
              exact ih_35 (i + 1) 0 (by omega) (by first | exact AllB_2 h1 (by assumption) | exact AllB_3 (by omega) (by assumption)) (by omega)
            · refine WP.blk 5 ?_
              show ir (i + 1) ∧ WP 2 141 35 [vR m, vI w, vI p, vI s, vI t, vI (M (m + 1) (7 + 9 * s)), vI 1, vI (i + 1)] [] (M, S) Q
              refine ⟨(by unfold ir; first | omega | exact AllB_b h1), ?_⟩
              exact ih_35 (i + 1) 1 (by omega) (AllB_1 h1 (by omega) (by assumption)) (by omega)
    exact hl_35 _ 0 1 (by omega) AllB_0 (Nat.lt_succ_self _)
  · refine WP.blk 1 ?_
    show WP 2 141 28 [vR m, vI w, vI p, vI s, vI t, vI (M (m + 1) (7 + 9 * s)), none, none] [vI 0] (M, S) Q
    exact WP.ret rfl rfl rfl ⟨by first | omega | exact AllB_b h1, trivial⟩ (k _ (Or.inr ⟨rfl, fun h => by have := h.1; omega⟩))
/-- the stamps below i that are not worn out -/
def FrB (f : Int → Int) (i x : Int) : Prop := 0 ≤ x ∧ x < 1024 ∧ ∀ s, 0 ≤ s → s < 10 → (bs x s = true ↔ s < i ∧ f (7 + 9 * s + 8) < f 2)
theorem FrB_0 {f : Int → Int} : FrB f 0 0 := ⟨by omega, by omega, fun s h1 h2 => by
  constructor
  · intro h
    unfold bs at h
    rw [show (0 : Int).toNat = 0 from rfl, Nat.zero_testBit] at h
    cases h
  · intro h; omega⟩
theorem FrB_1 {f : Int → Int} {i x : Int} (h : FrB f i x) (hi : 0 ≤ i ∧ i < 10) (hw : f (7 + 9 * i + 8) < f 2) : FrB f (i + 1) (iO x (iL 1 i)) := by
  obtain ⟨h1, h2, h3⟩ := h
  obtain ⟨g1, g2, g3⟩ := bs_or ⟨h1, h2⟩ hi
  refine ⟨g1, g2, fun s h4 h5 => ?_⟩
  rw [g3 s h4 h5, h3 s h4 h5]
  constructor
  · rintro (h | rfl)
    · exact ⟨by omega, h.2⟩
    · exact ⟨by omega, hw⟩
  · intro h
    by_cases e : s = i
    · exact Or.inr e
    · exact Or.inl ⟨by omega, h.2⟩
theorem iO_0 {x : Int} (h : 0 ≤ x ∧ x < 1024) : iO x 0 = x := by
  obtain ⟨n, rfl⟩ := Int.eq_ofNat_of_zero_le h.1
  have := iO_n (a := n) (b := 0) (by omega) (by omega)
  rw [Nat.or_zero] at this
  exact this
theorem FrB_2 {f : Int → Int} {i x : Int} (h : FrB f i x) (hi : 0 ≤ i ∧ i < 10) (hw : f 2 ≤ f (7 + 9 * i + 8)) : FrB f (i + 1) (iO x 0) := by
  rw [iO_0 ⟨h.1, h.2.1⟩]
  refine ⟨h.1, h.2.1, fun s h4 h5 => ?_⟩
  rw [h.2.2 s h4 h5]
  constructor
  · intro h; exact ⟨by omega, h.2⟩
  · intro h
    by_cases e : s = i
    · subst e; omega
    · exact ⟨by omega, h.2⟩
set_option maxHeartbeats 4000000 in
theorem q_fresh {S : SD} {M : Nat → Int → Int} {m : Nat} (hS : isMod S m) (hn : 0 ≤ M (m + 1) 0 ∧ M (m + 1) 0 ≤ 10) {Q : Res → Wd → Prop} (k : ∀ x : Int, Fresh (M (m + 1)) x → Q (0, vI x) (M, S)) : EvQ 3 142 [vR m] (M, S) Q := by
  refine EvQ.enter (ls := [vR m, none, none]) (Nat.le_of_ble_eq_true rfl) rfl ?_
  refine WP.blk 4 ?_
  show WP 2 142 4 [vR m, vI 0, vI 0] [] (M, S) Q
  have hl_4 : ∀ (n_4 : Nat) (i : Int) (x : Int), 0 ≤ i ∧ i ≤ M (m + 1) 0 → FrB (M (m + 1)) i x → (M (m + 1) 0 - i).toNat < n_4 → WP 2 142 4 [vR m, vI x, vI i] [] (M, S) Q := by
    intro n_4
    induction n_4 with
    | zero => intro i x h0 h1 hm_4; exact absurd hm_4 (Nat.not_lt_zero _)
    | succ n_4 ih_4 =>
      intro i x h0 h1 hm_4
      refine WP.blk 3 ?_
      show (sT S m = 10 ∧ sR S m 0 ≠ 0) ∧ WP 2 142 9 [vR m, vI x, vI i] [vR (sR S m 0), vI i] (M, S) Q
      refine ⟨⟨hS.1.1, by rw [hS.1.2.1]; omega⟩, ?_⟩
      rw [hS.1.2.1]
      refine WP.blk 3 ?_
      show ((sT S (m + 1) = 11 ∨ sT S (m + 1) = 16 ∨ sT S (m + 1) = 17) ∧ 0 ≤ 0 ∧ 0 < (sN S (m + 1) : Int)) ∧ WP 2 142 (if cnd .ge i (M (m + 1) 0) = true then 38 else 14) [vR m, vI x, vI i] [] (M, S) Q
      refine ⟨⟨Or.inl hS.2.1.1, by omega, by rw [hS.2.2.1]; omega⟩, ?_⟩
      refine br_ge (fun c_1 => ?_) (fun c_1 => ?_)
      · refine WP.blk 1 ?_
        show WP 2 142 39 [vR m, vI x, vI i] [vI x] (M, S) Q
        exact WP.ret rfl rfl rfl trivial (k _ (by rw [show i = M (m + 1) 0 by omega] at h1; exact h1))
      · refine WP.blk 3 ?_
        show WP 2 142 17 [vR m, vI x, vI i] [vI i, vR m, vI x] (M, S) Q
        refine WP.cl (a := [vR m, vI i]) (rest := [vI x]) rfl rfl rfl rfl ⟨hS.1.1, trivial⟩ (by decide) (q_isWorn hS (by omega) (fun b_2 hb_2 => ⟨rfl, ?_⟩))
        show WP 2 142 20 [vR m, vI x, vI i] [vI b_2, vI x] (M, S) Q
        refine WP.blk 1 ?_
        show WP 2 142 (if cnd .eq b_2 0 = true then 27 else 23) [vR m, vI x, vI i] [vI x] (M, S) Q
        refine br_eq (fun c_3 => ?_) (fun c_3 => ?_)
        · refine WP.blk 7 ?_
          show ir (i + 1) ∧ WP 2 142 4 [vR m, vI (iO x (iL 1 i)), vI (i + 1)] [] (M, S) Q
          refine ⟨(by unfold ir; omega), ?_⟩
          exact ih_4 (i + 1) (iO x (iL 1 i)) (by omega) (FrB_1 h1 (by omega) (by omega)) (by omega)
        · refine WP.blk 6 ?_
          show ir (i + 1) ∧ WP 2 142 4 [vR m, vI (iO x 0), vI (i + 1)] [] (M, S) Q
          refine ⟨(by unfold ir; omega), ?_⟩
          exact ih_4 (i + 1) (iO x 0) (by omega) (FrB_2 h1 (by omega) (by omega)) (by omega)
  exact hl_4 _ 0 0 (by omega) FrB_0 (Nat.lt_succ_self _)
