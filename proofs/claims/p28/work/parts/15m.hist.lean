/-! the history -/
def CstR (M : Nat → Int → Int) (k : Nat) : Prop := M (k + 1) 0 = 10 ∧ M (k + 1) 1 = 5 ∧ M (k + 4) 0 = 7 ∧ M (k + 4) 1 = 12
theorem CstR_fr {M M2 : Nat → Int → Int} {k : Nat} (h : ∀ q, k ≤ q → q < k + 12 → M2 q = M q) (hr : CstR M k) : CstR M2 k := by
  unfold CstR at hr ⊢
  rw [h (k + 1) (by omega) (by omega), h (k + 4) (by omega) (by omega)]
  exact hr
theorem sht_cst {M : Nat → Int → Int} {k : Nat} {f : Int → Int} (h : Sht M k f) : CstR M k := ⟨h.1.1.1.1, h.1.1.1.2.1, h.1.2.1.1.1, h.1.2.1.1.2.1⟩
theorem Sht_c {M : Nat → Int → Int} {k : Nat} {f g : Int → Int} (h0 : f 0 ≤ 10) (h7 : f 1 ≤ 7) (hk : ∀ q, 0 ≤ q → q < 195 → g q = f q) (h : Sht M k f) : Sht M k g := by
  obtain ⟨⟨h1, h2, h3, h4⟩, h5⟩ := h
  have e0 := hk 0 (by omega) (by omega)
  have e1 := hk 1 (by omega) (by omega)
  have hl : ∀ s, 0 ≤ s → s < f 0 → f (7 + 9 * s) ≤ 5 := fun s a b => (h1.2.2 s a b).1.2.2
  refine ⟨⟨str_c e0 hl (fun s q a b c d => hk _ (by omega) (by omega)) h1, ?_, fun w a b => ?_, lim_c (hk 2 (by omega) (by omega)) (hk 3 (by omega) (by omega)) h4⟩, ink_c e0 (fun s a b j c d => hk _ (by omega) (by omega)) (hk 4 (by omega) (by omega)) (hk 5 (by omega) (by omega)) (hk 6 (by omega) (by omega)) h5⟩
  · have hl2 : ∀ s, 0 ≤ s → s < f 1 → f (97 + 14 * s) ≤ 12 := fun s a b => (h2.2.2 s a b).1.2.2
    unfold WdR at h2 ⊢
    rw [e1]
    exact RowsR_c (fun i a b => (hk _ (by omega) (by omega)).symm) (fun i j a b c d => by
      have d : j < f (97 + 14 * i) := d
      have := hl2 i a b
      exact (hk _ (by omega) (by omega)).symm) h2
  · rw [e1] at b
    rw [hk _ (by omega) (by omega)]
    exact h3 w a b
def prw (p : Int → Int) (j : Int) : Int → Int := fun k => p (195 * j + k)
def HisF (M : Nat → Int → Int) (S : SD) (h : Nat) (p : Int → Int) (sv : Int) : Prop := (M h 1 = sv ∧ 0 ≤ sv ∧ sv ≤ 4) ∧ (CstR M (h + 2) ∧ CstR M (h + 14) ∧ CstR M (h + 26) ∧ CstR M (h + 38)) ∧ ∀ j : Int, 0 ≤ j → j < sv → (Sht M (sR S (h + 1) j) (prw p j) ∧ prw p j 0 ≤ 10 ∧ prw p j 1 ≤ 7)
theorem hist_k {S : SD} {h : Nat} (hS : isHist S h) {i : Int} (h0 : 0 ≤ i) (h4 : i < 4) : isSheet S (sR S (h + 1) i) ∧ (sR S (h + 1) i = h + 2 ∨ sR S (h + 1) i = h + 14 ∨ sR S (h + 1) i = h + 26 ∨ sR S (h + 1) i = h + 38) := by
  have h1 := hS.2.2.1 i h0 h4
  refine ⟨?_, h1⟩
  rcases h1 with e | e | e | e
  · rw [e]; exact hS.2.1.1
  · rw [e]; exact hS.2.1.2.1
  · rw [e]; exact hS.2.1.2.2.1
  · rw [e]; exact hS.2.1.2.2.2
theorem his_cst {M : Nat → Int → Int} {h K : Nat} (hc : CstR M (h + 2) ∧ CstR M (h + 14) ∧ CstR M (h + 26) ∧ CstR M (h + 38)) (hK : K = h + 2 ∨ K = h + 14 ∨ K = h + 26 ∨ K = h + 38) : CstR M K := by
  rcases hK with e | e | e | e
  · rw [e]; exact hc.1
  · rw [e]; exact hc.2.1
  · rw [e]; exact hc.2.2.1
  · rw [e]; exact hc.2.2.2
theorem HisF_fr {M M2 : Nat → Int → Int} {S : SD} {h : Nat} {p : Int → Int} {sv : Int} (hS : isHist S h) (hq : ∀ q, h ≤ q → q < h + 50 → M2 q = M q) (hr : HisF M S h p sv) : HisF M2 S h p sv := by
  obtain ⟨h1, ⟨c1, c2, c3, c4⟩, h3⟩ := hr
  refine ⟨by rw [hq h (by omega) (by omega)]; exact h1, ⟨CstR_fr (fun q a b => hq q (by omega) (by omega)) c1, CstR_fr (fun q a b => hq q (by omega) (by omega)) c2, CstR_fr (fun q a b => hq q (by omega) (by omega)) c3, CstR_fr (fun q a b => hq q (by omega) (by omega)) c4⟩, fun j a b => ?_⟩
  have hk := (hist_k hS a (by omega)).2
  obtain ⟨g1, g2⟩ := h3 j a b
  exact ⟨Sht_fr (fun q a b => hq q (by omega) (by omega)) g1, g2⟩
/-- one round of forgetOldest's loop -/
theorem fg_step {M : Nat → Int → Int} {R : Nat → Int → Nat} {T : (Nat → Nat) × ((Nat → Nat) × (Nat × (Nat × Nat)))} {h a : Nat} {i : Int} {Q : Res → Wd → Prop} (h1 : T.1 h = 3) (h2 : R h 0 = h + 1) (h3 : T.1 (h + 1) = 13) (h4 : T.2.1 (h + 1) = 4) (hi : 1 ≤ i ∧ i ≤ 3) (hz : R (h + 1) i ≠ 0) (ht : T.1 (R (h + 1) i) = 8) (k : WP 0 14 9 [vR h, vR a, vI (i + 1)] [] (M, ((fun r k => if r = h + 1 ∧ k = i - 1 then R (h + 1) i else R r k), T)) Q) : WP 0 14 9 [vR h, vR a, vI i] [] (M, (R, T)) Q := by
  refine WP.blk 3 ?_
  show WP 0 14 (if cnd .ge i 4 = true then 34 else 14) [vR h, vR a, vI i] [] (M, (R, T)) Q
  refine br_ge (fun c => ?_) (fun c => ?_)
  · exfalso; omega
  · refine WP.blk 2 ?_
    show (T.1 h = 3 ∧ R h 0 ≠ 0) ∧ WP 0 14 18 [vR h, vR a, vI i] [vR (R h 0)] (M, (R, T)) Q
    refine ⟨⟨h1, by rw [h2]; omega⟩, ?_⟩
    rw [h2]
    refine WP.blk 5 ?_
    show ir (i - 1) ∧ (T.1 h = 3 ∧ R h 0 ≠ 0) ∧ WP 0 14 25 [vR h, vR a, vI i] [vR (R h 0), vI (i - 1), vR (h + 1)] (M, (R, T)) Q
    refine ⟨by unfold ir; omega, ⟨h1, by rw [h2]; omega⟩, ?_⟩
    rw [h2]
    refine WP.blk 3 ?_
    show (ref3 (T.1 (h + 1)) ∧ 0 ≤ i ∧ i < (T.2.1 (h + 1) : Int) ∧ R (h + 1) i ≠ 0) ∧ (ref3 (T.1 (h + 1)) ∧ 0 ≤ i - 1 ∧ i - 1 < (T.2.1 (h + 1) : Int) ∧ T.1 (R (h + 1) i) = el3 (T.1 (h + 1))) ∧ WP 0 14 28 [vR h, vR a, vI i] [] (M, ((fun r k => if r = h + 1 ∧ k = i - 1 then R (h + 1) i else R r k), T)) Q
    refine ⟨⟨Or.inl h3, by omega, by rw [h4]; omega, hz⟩, ⟨Or.inl h3, by omega, by rw [h4]; omega, by rw [h3]; exact ht⟩, ?_⟩
    refine WP.blk 2 ?_
    show ir (i + 1) ∧ WP 0 14 9 [vR h, vR a, vI (i + 1)] [] (M, ((fun r k => if r = h + 1 ∧ k = i - 1 then R (h + 1) i else R r k), T)) Q
    exact ⟨by unfold ir; omega, k⟩
theorem k_forget {S : SD} {M : Nat → Int → Int} {h : Nat} (hS : isHist S h) {Q : Res → Wd → Prop} (k : ∀ (M2 : Nat → Int → Int) (R2 : Nat → Int → Nat), (∀ q9, q9 ≠ h → M2 q9 = M q9) → M2 h = uf (M h) 1 3 → (∀ r k, r ≠ h + 1 → R2 r k = sR S r k) → R2 (h + 1) 0 = sR S (h + 1) 1 → R2 (h + 1) 1 = sR S (h + 1) 2 → R2 (h + 1) 2 = sR S (h + 1) 3 → R2 (h + 1) 3 = sR S (h + 1) 0 → Q (0, none) (M2, (R2, S.2))) : EvQ 1 14 [vR h] (M, S) Q := by
  have k0 := hist_k hS (i := 0) (by omega) (by omega)
  have k1 := hist_k hS (i := 1) (by omega) (by omega)
  have k2 := hist_k hS (i := 2) (by omega) (by omega)
  have k3 := hist_k hS (i := 3) (by omega) (by omega)
  obtain ⟨R, T⟩ := S
  have t0 : T.1 (R (h + 1) 0) = 8 := k0.1.1
  have t1 : T.1 (R (h + 1) 1) = 8 := k1.1.1
  have t2 : T.1 (R (h + 1) 2) = 8 := k2.1.1
  have t3 : T.1 (R (h + 1) 3) = 8 := k3.1.1
  have z0 : R (h + 1) 0 ≠ 0 := by have : R (h + 1) 0 = h + 2 ∨ R (h + 1) 0 = h + 14 ∨ R (h + 1) 0 = h + 26 ∨ R (h + 1) 0 = h + 38 := k0.2; omega
  have z1 : R (h + 1) 1 ≠ 0 := by have : R (h + 1) 1 = h + 2 ∨ R (h + 1) 1 = h + 14 ∨ R (h + 1) 1 = h + 26 ∨ R (h + 1) 1 = h + 38 := k1.2; omega
  have z2 : R (h + 1) 2 ≠ 0 := by have : R (h + 1) 2 = h + 2 ∨ R (h + 1) 2 = h + 14 ∨ R (h + 1) 2 = h + 26 ∨ R (h + 1) 2 = h + 38 := k2.2; omega
  have z3 : R (h + 1) 3 ≠ 0 := by have : R (h + 1) 3 = h + 2 ∨ R (h + 1) 3 = h + 14 ∨ R (h + 1) 3 = h + 26 ∨ R (h + 1) 3 = h + 38 := k3.2; omega
  have h1 : T.1 h = 3 := hS.1.1
  have h2 : R h 0 = h + 1 := hS.1.2.1
  have h3 : T.1 (h + 1) = 13 := hS.1.2.2.1
  have h4 : T.2.1 (h + 1) = 4 := hS.1.2.2.2
  refine EvQ.enter (ls := [vR h, none, none]) (Nat.le_of_ble_eq_true rfl) rfl ?_
  refine WP.blk 2 ?_
  show (T.1 h = 3 ∧ R h 0 ≠ 0) ∧ WP 0 14 4 [vR h, none, none] [vR (R h 0)] (M, (R, T)) Q
  refine ⟨⟨h1, by rw [h2]; omega⟩, ?_⟩
  rw [h2]
  refine WP.blk 5 ?_
  show (ref3 (T.1 (h + 1)) ∧ 0 ≤ (0 : Int) ∧ (0 : Int) < (T.2.1 (h + 1) : Int) ∧ R (h + 1) 0 ≠ 0) ∧ WP 0 14 9 [vR h, vR (R (h + 1) 0), vI 1] [] (M, (R, T)) Q
  refine ⟨⟨Or.inl h3, by omega, by rw [h4]; omega, z0⟩, ?_⟩
  refine fg_step h1 h2 h3 h4 (by omega) z1 t1 ?_
  obtain ⟨R1, e1⟩ : ∃ R1 : Nat → Int → Nat, R1 = fun r k => if r = h + 1 ∧ k = 1 - 1 then R (h + 1) 1 else R r k := ⟨_, rfl⟩
  rw [← e1, show (1 : Int) + 1 = 2 by omega]
  have a1 : ∀ r k, ¬ (r = h + 1 ∧ k = 0) → R1 r k = R r k := fun r k q => by rw [e1]; exact if_neg (by omega)
  have b1 : R1 (h + 1) 0 = R (h + 1) 1 := by rw [e1]; exact if_pos (by omega)
  have q1 := a1 (h + 1) 2 (by omega)
  refine fg_step h1 (by rw [a1 h 0 (by omega)]; exact h2) h3 h4 (by omega) (by rw [q1]; exact z2) (by rw [q1]; exact t2) ?_
  rw [q1]
  obtain ⟨R2, e2⟩ : ∃ R2 : Nat → Int → Nat, R2 = fun r k => if r = h + 1 ∧ k = 2 - 1 then R (h + 1) 2 else R1 r k := ⟨_, rfl⟩
  rw [← e2, show (2 : Int) + 1 = 3 by omega]
  have a2 : ∀ r k, ¬ (r = h + 1 ∧ k = 1) → R2 r k = R1 r k := fun r k q => by rw [e2]; exact if_neg (by omega)
  have b2 : R2 (h + 1) 1 = R (h + 1) 2 := by rw [e2]; exact if_pos (by omega)
  have q2 : R2 (h + 1) 3 = R (h + 1) 3 := by rw [a2 _ _ (by omega), a1 _ _ (by omega)]
  refine fg_step h1 (by rw [a2 h 0 (by omega), a1 h 0 (by omega)]; exact h2) h3 h4 (by omega) (by rw [q2]; exact z3) (by rw [q2]; exact t3) ?_
  rw [q2]
  obtain ⟨R3, e3⟩ : ∃ R3 : Nat → Int → Nat, R3 = fun r k => if r = h + 1 ∧ k = 3 - 1 then R (h + 1) 3 else R2 r k := ⟨_, rfl⟩
  rw [← e3, show (3 : Int) + 1 = 4 by omega]
  have a3 : ∀ r k, ¬ (r = h + 1 ∧ k = 2) → R3 r k = R2 r k := fun r k q => by rw [e3]; exact if_neg (by omega)
  have b3 : R3 (h + 1) 2 = R (h + 1) 3 := by rw [e3]; exact if_pos (by omega)
  have h0 : R3 h 0 = h + 1 := by rw [a3 h 0 (by omega), a2 h 0 (by omega), a1 h 0 (by omega)]; exact h2
  refine WP.blk 3 ?_
  show WP 0 14 (if cnd .ge 4 4 = true then 34 else 14) [vR h, vR (R (h + 1) 0), vI 4] [] (M, (R3, T)) Q
  refine br_ge (fun c => ?_) (fun c => ?_)
  · refine WP.blk 2 ?_
    show (T.1 h = 3 ∧ R3 h 0 ≠ 0) ∧ WP 0 14 38 [vR h, vR (R (h + 1) 0), vI 4] [vR (R3 h 0)] (M, (R3, T)) Q
    refine ⟨⟨h1, by rw [h0]; omega⟩, ?_⟩
    rw [h0]
    refine WP.blk 3 ?_
    show (ref3 (T.1 (h + 1)) ∧ 0 ≤ (3 : Int) ∧ (3 : Int) < (T.2.1 (h + 1) : Int) ∧ T.1 (R (h + 1) 0) = el3 (T.1 (h + 1))) ∧ WP 0 14 41 [vR h, vR (R (h + 1) 0), vI 4] [] (M, ((fun r k => if r = h + 1 ∧ k = 3 then R (h + 1) 0 else R3 r k), T)) Q
    refine ⟨⟨Or.inl h3, by omega, by rw [h4]; omega, by rw [h3]; exact t0⟩, ?_⟩
    obtain ⟨R4, e4⟩ : ∃ R4 : Nat → Int → Nat, R4 = fun r k => if r = h + 1 ∧ k = 3 then R (h + 1) 0 else R3 r k := ⟨_, rfl⟩
    rw [← e4]
    have a4 : ∀ r k, ¬ (r = h + 1 ∧ k = 3) → R4 r k = R3 r k := fun r k q => by rw [e4]; exact if_neg (by omega)
    have b4 : R4 (h + 1) 3 = R (h + 1) 0 := by rw [e4]; exact if_pos (by omega)
    refine WP.blk 3 ?_
    show T.1 h = 3 ∧ WP 0 14 46 [vR h, vR (R (h + 1) 0), vI 4] [] (up M h 1 3, (R4, T)) Q
    refine ⟨h1, ?_⟩
    refine WP.ret rfl rfl rfl trivial (k _ R4 (fun q hq => up_row hq) up_self (fun r k' hr => ?_) ?_ ?_ ?_ b4)
    · rw [a4 _ _ (by omega), a3 _ _ (by omega), a2 _ _ (by omega), a1 _ _ (by omega)]
      rfl
    · rw [a4 _ _ (by omega), a3 _ _ (by omega), a2 _ _ (by omega)]
      exact b1
    · rw [a4 _ _ (by omega), a3 _ _ (by omega)]
      exact b2
    · rw [a4 _ _ (by omega)]
      exact b3
  · exfalso; omega
/-! objects stay where references elsewhere change -/
theorem rows_s {S : SD} {R2 : Nat → Int → Nat} {k : Nat} (hR : ∀ r i, k ≤ r → r < k + 3 → R2 r i = sR S r i) (h : isRows S k) : isRows (R2, S.2) k := by
  obtain ⟨h1, h2, h3, h4⟩ := h
  exact ⟨h1, (hR k 2 (by omega) (by omega)).trans h2, (hR k 3 (by omega) (by omega)).trans h3, h4⟩
theorem inks_s {S : SD} {R2 : Nat → Int → Nat} {k : Nat} (hR : ∀ r i, k ≤ r → r < k + 4 → R2 r i = sR S r i) (h : isInks S k) : isInks (R2, S.2) k := by
  obtain ⟨h1, h2, h3, h4, h5⟩ := h
  exact ⟨h1, (hR k 0 (by omega) (by omega)).trans h2, (hR k 1 (by omega) (by omega)).trans h3, (hR k 2 (by omega) (by omega)).trans h4, h5⟩
theorem plan_s {S : SD} {R2 : Nat → Int → Nat} {k : Nat} (hR : ∀ r i, k ≤ r → r < k + 4 → R2 r i = sR S r i) (h : isPlan S k) : isPlan (R2, S.2) k := by
  obtain ⟨h1, h2, h3, h4, h5⟩ := h
  exact ⟨h1, (hR k 0 (by omega) (by omega)).trans h2, (hR k 1 (by omega) (by omega)).trans h3, (hR k 2 (by omega) (by omega)).trans h4, h5⟩
theorem fits_s {S : SD} {R2 : Nat → Int → Nat} {k : Nat} (hR : ∀ r i, k ≤ r → r < k + 2 → R2 r i = sR S r i) (h : isFits S k) : isFits (R2, S.2) k := by
  obtain ⟨h1, h2, h3⟩ := h
  exact ⟨h1, (hR k 0 (by omega) (by omega)).trans h2, h3⟩
theorem sheet_s {S : SD} {R2 : Nat → Int → Nat} {k : Nat} (hR : ∀ r i, k ≤ r → r < k + 12 → R2 r i = sR S r i) (h : isSheet S k) : isSheet (R2, S.2) k := by
  obtain ⟨h1, h2, h3, h4, h5, h6, h7, h8, h9, h10⟩ := h
  exact ⟨h1, (hR k 0 (by omega) (by omega)).trans h2, (hR k 1 (by omega) (by omega)).trans h3, (hR k 2 (by omega) (by omega)).trans h4, (hR k 3 (by omega) (by omega)).trans h5, rows_s (fun r i a b => hR r i (by omega) (by omega)) h6, rows_s (fun r i a b => hR r i (by omega) (by omega)) h7, h8, h9, inks_s (fun r i a b => hR r i (by omega) (by omega)) h10⟩
theorem ord_s {S : SD} {R2 : Nat → Int → Nat} {k : Nat} (hR : ∀ r i, k ≤ r → R2 r i = sR S r i) (h : isOrd S k) : isOrd (R2, S.2) k := by
  obtain ⟨⟨h1, h2, h3, h4, h5, h6⟩, h7, h8, h9⟩ := h
  refine ⟨⟨h1, (hR k 0 (by omega)).trans h2, (hR k 1 (by omega)).trans h3, (hR k 2 (by omega)).trans h4, (hR k 3 (by omega)).trans h5, (hR k 4 (by omega)).trans h6⟩, h7, fun d hd => ?_, fun w hw => ?_⟩
  · obtain ⟨a, b⟩ := h8 d hd
    exact ⟨(hR _ _ (by omega)).trans a, inks_s (fun r i a b => hR r i (by omega)) b⟩
  · obtain ⟨a, b⟩ := h9 w hw
    exact ⟨(hR _ _ (by omega)).trans a, plan_s (fun r i a b => hR r i (by omega)) b⟩
theorem cut_s {S : SD} {R2 : Nat → Int → Nat} {k : Nat} (hR : ∀ r i, k ≤ r → R2 r i = sR S r i) (h : isCut S k) : isCut (R2, S.2) k := by
  obtain ⟨⟨h1, h2, h3, h4⟩, h5, h6, h7⟩ := h
  exact ⟨⟨h1, (hR k 0 (by omega)).trans h2, (hR k 1 (by omega)).trans h3, (hR k 2 (by omega)).trans h4⟩, sheet_s (fun r i a b => hR r i (by omega)) h5, fits_s (fun r i a b => hR r i (by omega)) h6, plan_s (fun r i a b => hR r i (by omega)) h7⟩
theorem mod_s {S : SD} {R2 : Nat → Int → Nat} {m : Nat} (hR : ∀ i, R2 m i = sR S m i) (h : isMod S m) : isMod (R2, S.2) m := by
  obtain ⟨⟨h0, h1, h2, h3, h4, h5, h6, h7, h8, h9, h10, h11⟩, h12⟩ := h
  exact ⟨⟨h0, (hR _).trans h1, (hR _).trans h2, (hR _).trans h3, (hR _).trans h4, (hR _).trans h5, (hR _).trans h6, (hR _).trans h7, (hR _).trans h8, (hR _).trans h9, (hR _).trans h10, (hR _).trans h11⟩, h12⟩
theorem rub_s {S : SD} {R2 : Nat → Int → Nat} {x : Nat} (hR : ∀ r i, r ≠ x + 27 → R2 r i = sR S r i) (hh : isHist (R2, S.2) (x + 26)) (h : isRub S x) : isRub (R2, S.2) x := by
  obtain ⟨⟨h0, h1, h2, h3, h4, h5, h6, h7, h8, h9, h10, h11⟩, g1, g2, g3, g4, g5, g6, g7, g8, g9⟩ := h
  exact ⟨⟨h0, (hR _ _ (by omega)).trans h1, (hR _ _ (by omega)).trans h2, (hR _ _ (by omega)).trans h3, (hR _ _ (by omega)).trans h4, (hR _ _ (by omega)).trans h5, (hR _ _ (by omega)).trans h6, (hR _ _ (by omega)).trans h7, (hR _ _ (by omega)).trans h8, (hR _ _ (by omega)).trans h9, h10, h11⟩,
    sheet_s (fun r i a b => hR r i (by omega)) g1, sheet_s (fun r i a b => hR r i (by omega)) g2, hh, fits_s (fun r i a b => hR r i (by omega)) g4, plan_s (fun r i a b => hR r i (by omega)) g5, inks_s (fun r i a b => hR r i (by omega)) g6, ord_s (fun r i a => hR r i (by omega)) g7, cut_s (fun r i a => hR r i (by omega)) g8, g9⟩
/-- the history's sheets once the oldest is last -/
theorem hist_rot {S : SD} {R2 : Nat → Int → Nat} {h : Nat} (hS : isHist S h) (hR : ∀ r i, r ≠ h + 1 → R2 r i = sR S r i) (e0 : R2 (h + 1) 0 = sR S (h + 1) 1) (e1 : R2 (h + 1) 1 = sR S (h + 1) 2) (e2 : R2 (h + 1) 2 = sR S (h + 1) 3) (e3 : R2 (h + 1) 3 = sR S (h + 1) 0) : isHist (R2, S.2) h := by
  obtain ⟨⟨h0, h1, h2, h3⟩, ⟨g1, g2, g3, g4⟩, g5, g6⟩ := hS
  have key : ∀ i : Int, 0 ≤ i → i < 4 → ∃ j : Int, (0 ≤ j ∧ j < 4) ∧ j = (if i = 3 then 0 else i + 1) ∧ R2 (h + 1) i = sR S (h + 1) j := by
    intro i a b
    rcases (show i = 0 ∨ i = 1 ∨ i = 2 ∨ i = 3 by omega) with e | e | e | e
    · subst e; exact ⟨1, by omega, by decide, e0⟩
    · subst e; exact ⟨2, by omega, by decide, e1⟩
    · subst e; exact ⟨3, by omega, by decide, e2⟩
    · subst e; exact ⟨0, by omega, by decide, e3⟩
  refine ⟨⟨h0, (hR _ _ (by omega)).trans h1, h2, h3⟩, ⟨sheet_s (fun r i a b => hR r i (by omega)) g1, sheet_s (fun r i a b => hR r i (by omega)) g2, sheet_s (fun r i a b => hR r i (by omega)) g3, sheet_s (fun r i a b => hR r i (by omega)) g4⟩, fun i a b => ?_, fun i j a b c d hij => ?_⟩
  · obtain ⟨j, hj, -, e⟩ := key i a b
    show R2 (h + 1) i = h + 2 ∨ R2 (h + 1) i = h + 14 ∨ R2 (h + 1) i = h + 26 ∨ R2 (h + 1) i = h + 38
    rw [e]
    exact g5 j hj.1 hj.2
  · obtain ⟨i', hi1, hi2, ei⟩ := key i a b
    obtain ⟨j', hj1, hj2, ej⟩ := key j c d
    show R2 (h + 1) i ≠ R2 (h + 1) j
    rw [ei, ej]
    refine g6 i' j' hi1.1 hi1.2 hj1.1 hj1.2 ?_
    rw [hi2, hj2]
    split <;> split <;> omega
/-- what push leaves: the history of every list of saved rows with the row f put last -/
def HisN (M : Nat → Int → Int) (S : SD) (h : Nat) (p : Int → Int) (sv : Int) (f : Int → Int) : Prop := ∀ p' sv', SavedP p sv f p' sv' → HisF M S h p' sv'
theorem HisN_fr {M M2 : Nat → Int → Int} {S : SD} {h : Nat} {p : Int → Int} {sv : Int} {f : Int → Int} (hS : isHist S h) (hq : ∀ q, h ≤ q → q < h + 50 → M2 q = M q) (hr : HisN M S h p sv f) : HisN M2 S h p sv f := fun p' sv' hs => HisF_fr hS hq (hr p' sv' hs)
/-- kept rows, the last written anew -/
theorem his_push {M M2 : Nat → Int → Int} {S : SD} {h : Nat} {p p0 : Int → Int} {sv c : Int} {f : Int → Int} (hS : isHist S h) (hc : 0 ≤ c ∧ c ≤ 3) (hcst : CstR M (h + 2) ∧ CstR M (h + 14) ∧ CstR M (h + 26) ∧ CstR M (h + 38)) (hfr : ∀ q9, (q9 < sR S (h + 1) c ∨ sR S (h + 1) c + 12 ≤ q9) → q9 ≠ h → M2 q9 = M q9) (hn : Sht M2 (sR S (h + 1) c) f) (h0 : f 0 ≤ 10) (h7 : f 1 ≤ 7) (hcnt : M2 h 1 = c + 1) (hold : ∀ j : Int, 0 ≤ j → j < c → (Sht M (sR S (h + 1) j) (prw p0 j) ∧ prw p0 j 0 ≤ 10 ∧ prw p0 j 1 ≤ 7)) (hp : ∀ p' sv', SavedP p sv f p' sv' → sv' = c + 1 ∧ (∀ k, 0 ≤ k → k < 195 → prw p' c k = f k) ∧ ∀ j, 0 ≤ j → j < c → ∀ k, 0 ≤ k → k < 195 → prw p' j k = prw p0 j k) : HisN M2 S h p sv f := by
  intro p' sv' hsv
  obtain ⟨e1, e2, e3⟩ := hp p' sv' hsv
  have hk := hist_k hS hc.1 (by omega)
  have cc : ∀ q, (q = h + 2 ∨ q = h + 14 ∨ q = h + 26 ∨ q = h + 38) → CstR M q → CstR M2 q := fun q hq hcq => by
    by_cases e : q = sR S (h + 1) c
    · rw [e]; exact sht_cst hn
    · have hk2 := hk.2
      exact CstR_fr (fun r a b => hfr r (by omega) (by omega)) hcq
  refine ⟨⟨by omega, by omega, by omega⟩, ⟨cc _ (by omega) hcst.1, cc _ (by omega) hcst.2.1, cc _ (by omega) hcst.2.2.1, cc _ (by omega) hcst.2.2.2⟩, fun j a b => ?_⟩
  by_cases e : j = c
  · subst e
    have q0 := e2 0 (by omega) (by omega)
    have q1 := e2 1 (by omega) (by omega)
    exact ⟨Sht_c h0 h7 e2 hn, by omega, by omega⟩
  · obtain ⟨k1, k2, k3⟩ := hold j a (by omega)
    have e4 := e3 j a (by omega)
    have q0 := e4 0 (by omega) (by omega)
    have q1 := e4 1 (by omega) (by omega)
    have hj := (hist_k hS a (by omega)).2
    have hk2 := hk.2
    have hne := hS.2.2.2 j c a (by omega) hc.1 (by omega) e
    exact ⟨Sht_c k2 k3 e4 (Sht_fr (fun r a b => hfr r (by omega) (by omega)) k1), by omega, by omega⟩
