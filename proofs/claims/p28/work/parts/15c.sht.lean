/-! sheets whose letters change -/
theorem RowsR_c {M : Nat → Int → Int} {r : Nat} {mr ml n : Int} {len len' : Int → Int} {lt lt' : Int → Int → Int} (hl : ∀ i, 0 ≤ i → i < n → len i = len' i) (ht : ∀ i j, 0 ≤ i → i < n → 0 ≤ j → j < len i → lt i j = lt' i j) (h : RowsR M r mr ml n len lt) : RowsR M r mr ml n len' lt' := by
  obtain ⟨h1, h2, h3⟩ := h
  refine ⟨h1, h2, fun i a b => ?_⟩
  obtain ⟨g1, g2⟩ := h3 i a b
  rw [← hl i a b]
  exact ⟨g1, fun j c d => by rw [← ht i j a b c d]; exact g2 j c d⟩
theorem LimR_fr {M M2 : Nat → Int → Int} {k : Nat} {f : Int → Int} (h : ∀ q, k ≤ q → q < k + 1 → M2 q = M q) (hr : LimR M k f) : LimR M2 k f := by
  unfold LimR at hr ⊢
  rw [h k (by omega) (by omega)]
  exact hr
theorem wdr_c {M : Nat → Int → Int} {r : Nat} {f g : Int → Int} (h1 : g 1 = f 1) (hk : ∀ k, 97 ≤ k → g k = f k) (h : WdR M r f) : WdR M r g := by
  unfold WdR at h ⊢
  rw [h1]
  exact RowsR_c (fun i a b => (hk _ (by omega)).symm) (fun i j a b c d => (hk _ (by omega)).symm) h
theorem col_c {M : Nat → Int → Int} {r : Nat} {f g : Int → Int} (h1 : g 1 = f 1) (hk : ∀ k, 97 ≤ k → g k = f k) (h : ColR M r f) : ColR M r g := fun w a b => by
  rw [h1] at b
  rw [hk _ (by omega)]
  exact h w a b
theorem str_c {M : Nat → Int → Int} {r : Nat} {f g : Int → Int} (h0 : g 0 = f 0) (hl : ∀ s, 0 ≤ s → s < f 0 → f (7 + 9 * s) ≤ 5) (hk : ∀ s k, 0 ≤ s → s < f 0 → 0 ≤ k → k ≤ 5 → g (7 + 9 * s + k) = f (7 + 9 * s + k)) (h : StR M r f) : StR M r g := by
  unfold StR at h ⊢
  rw [h0]
  refine RowsR_c (fun i a b => ?_) (fun i j a b c d => ?_) h
  · have e := hk i 0 a b (by omega) (by omega)
    rw [Int.add_zero] at e
    exact e.symm
  · have e9 := hl i a b
    have d : j < f (7 + 9 * i) := d
    have e := hk i (1 + j) a b (by omega) (by omega)
    rw [show 7 + 9 * i + (1 + j) = 7 + 9 * i + 1 + j by omega] at e
    exact e.symm
theorem lim_c {M : Nat → Int → Int} {k : Nat} {f g : Int → Int} (h2 : g 2 = f 2) (h3 : g 3 = f 3) (h : LimR M k f) : LimR M k g := ⟨h.1.trans h2.symm, h.2.trans h3.symm⟩
def lenC (f : Int → Int) (i : Int) : Int → Int := uf (fun s => f (7 + 9 * s)) (f 0) i
def ltC (f : Int → Int) (w p i : Int) : Int → Int → Int := fun s j => if s = f 0 ∧ j < i then f (97 + 14 * w + 2 + p + j) else f (7 + 9 * s + 1 + j)
theorem lenC_n {f : Int → Int} {i : Int} : lenC f i (f 0) = i := uf_eq _ _ _
theorem ltC_0 {f : Int → Int} {M : Nat → Int → Int} {r : Nat} {w p : Int} (h : RowsR M r 10 5 (f 0 + 1) (uf (fun s => f (7 + 9 * s)) (f 0) 0) (fun s j => f (7 + 9 * s + 1 + j))) : RowsR M r 10 5 (f 0 + 1) (lenC f 0) (ltC f w p 0) :=
  RowsR_c (fun i a b => rfl) (fun i j a b c d => by unfold ltC; rw [if_neg (by omega)]) h
theorem ltC_s {f : Int → Int} {M : Nat → Int → Int} {r : Nat} {w p i v : Int} (hi : 0 ≤ i) (hv : v = f (97 + 14 * w + 2 + p + i)) (h : RowsR M r 10 5 (f 0 + 1) (uf (lenC f i) (f 0 + 1 - 1) (lenC f i (f 0 + 1 - 1) + 1)) (fun s j => if s = f 0 + 1 - 1 ∧ j = lenC f i (f 0 + 1 - 1) then v else ltC f w p i s j)) : RowsR M r 10 5 (f 0 + 1) (lenC f (i + 1)) (ltC f w p (i + 1)) := by
  rw [show f 0 + 1 - 1 = f 0 by omega] at h
  refine RowsR_c (fun s a b => ?_) (fun s j a b c d => ?_) h
  · rw [lenC_n]
    unfold lenC uf
    split <;> rfl
  · rw [lenC_n] at d ⊢
    unfold ltC
    by_cases e : s = f 0
    · subst e
      rw [uf_eq] at d
      by_cases e2 : j = i
      · rw [if_pos ⟨rfl, e2⟩, if_pos ⟨rfl, by omega⟩, hv, e2]
      · rw [if_neg (fun z => e2 z.2), if_pos ⟨rfl, by omega⟩, if_pos ⟨rfl, by omega⟩]
    · rw [if_neg (fun z => e z.1), if_neg (fun z => e z.1), if_neg (fun z => e z.1)]
theorem ltC_e {f : Int → Int} {M : Nat → Int → Int} {r : Nat} {w p n : Int} (h0 : 0 ≤ f 0 ∧ f 0 ≤ 9) (hn : 1 ≤ n ∧ n ≤ 5) (hl : ∀ s, 0 ≤ s → s < f 0 → f (7 + 9 * s) ≤ 5) (h : RowsR M r 10 5 (f 0 + 1) (lenC f n) (ltC f w p n)) : StR M r (cutR f w p n) := by
  unfold StR
  rw [cutR_0]
  refine RowsR_c (fun s a b => ?_) (fun s j a b c d => ?_) h
  · show lenC f n s = cutR f w p n (7 + 9 * s)
    unfold lenC
    by_cases e : s = f 0
    · subst e
      rw [uf_eq]
      unfold cutR
      rw [if_neg (by omega), if_pos rfl]
    · rw [uf_ne e]
      exact (cutR_lo (by omega) (by omega)).symm
  · show ltC f w p n s j = cutR f w p n (7 + 9 * s + 1 + j)
    unfold lenC at d
    unfold ltC
    by_cases e : s = f 0
    · subst e
      rw [uf_eq] at d
      rw [if_pos ⟨rfl, d⟩]
      unfold cutR
      rw [if_neg (by omega), if_neg (by omega), if_pos (by omega)]
      congr 1; omega
    · rw [uf_ne e] at d
      have := hl s a (by omega)
      have d : j < f (7 + 9 * s) := d
      rw [if_neg (fun z => e z.1)]
      exact (cutR_lo (by omega) (by omega)).symm
theorem rem_st {f : Int → Int} {M : Nat → Int → Int} {r : Nat} {s : Int} (hs : 0 ≤ s ∧ s < f 0) (hl : ∀ s, 0 ≤ s → s < f 0 → f (7 + 9 * s) ≤ 5) (h : RowsR M r 10 5 (f 0 - 1) (fun i => if i < s then f (7 + 9 * i) else f (7 + 9 * (i + 1))) (fun i j => if i < s then f (7 + 9 * i + 1 + j) else f (7 + 9 * (i + 1) + 1 + j))) : StR M r (remR f s) := by
  unfold StR
  rw [remR_0]
  refine RowsR_c (fun i a b => ?_) (fun i j a b c d => ?_) h
  · show (if i < s then f (7 + 9 * i) else f (7 + 9 * (i + 1))) = remR f s (7 + 9 * i)
    by_cases e : i < s
    · rw [if_pos e]; exact (remR_lo (by omega) (by omega)).symm
    · rw [if_neg e, remR_in (by omega) (by omega)]; congr 1; omega
  · have d : j < if i < s then f (7 + 9 * i) else f (7 + 9 * (i + 1)) := d
    show (if i < s then f (7 + 9 * i + 1 + j) else f (7 + 9 * (i + 1) + 1 + j)) = remR f s (7 + 9 * i + 1 + j)
    by_cases e : i < s
    · rw [if_pos e] at d
      have := hl i a (by omega)
      rw [if_pos e]; exact (remR_lo (by omega) (by omega)).symm
    · rw [if_neg e] at d
      have := hl (i + 1) (by omega) (by omega)
      rw [if_neg e, remR_in (by omega) (by omega)]; congr 1; omega
theorem dropR_1 {f : Int → Int} {w : Int} : dropR f w 1 = f 1 - 1 := if_pos rfl
theorem dropR_lo {f : Int → Int} {w k : Int} (h0 : k ≠ 1) (hk : k < 97 + 14 * w) : dropR f w k = f k := by
  unfold dropR
  rw [if_neg h0, if_neg (by omega)]
theorem dropR_in {f : Int → Int} {w k : Int} (h0 : k ≠ 1) (hk : 97 + 14 * w ≤ k ∧ k < 97 + 14 * (f 1 - 1)) : dropR f w k = f (k + 14) := by
  unfold dropR
  rw [if_neg h0, if_pos hk]
theorem drop_wd {f : Int → Int} {M : Nat → Int → Int} {r : Nat} {s : Int} (hs : 0 ≤ s ∧ s < f 1) (hl : ∀ s, 0 ≤ s → s < f 1 → f (97 + 14 * s) ≤ 12) (h : RowsR M r 7 12 (f 1 - 1) (fun i => if i < s then f (97 + 14 * i) else f (97 + 14 * (i + 1))) (fun i j => if i < s then f (97 + 14 * i + 2 + j) else f (97 + 14 * (i + 1) + 2 + j))) : WdR M r (dropR f s) := by
  unfold WdR
  rw [dropR_1]
  refine RowsR_c (fun i a b => ?_) (fun i j a b c d => ?_) h
  · show (if i < s then f (97 + 14 * i) else f (97 + 14 * (i + 1))) = dropR f s (97 + 14 * i)
    by_cases e : i < s
    · rw [if_pos e]; exact (dropR_lo (by omega) (by omega)).symm
    · rw [if_neg e, dropR_in (by omega) (by omega)]; congr 1; omega
  · have d : j < if i < s then f (97 + 14 * i) else f (97 + 14 * (i + 1)) := d
    show (if i < s then f (97 + 14 * i + 2 + j) else f (97 + 14 * (i + 1) + 2 + j)) = dropR f s (97 + 14 * i + 2 + j)
    by_cases e : i < s
    · rw [if_pos e] at d
      have := hl i a (by omega)
      rw [if_pos e]; exact (dropR_lo (by omega) (by omega)).symm
    · rw [if_neg e] at d
      have := hl (i + 1) (by omega) (by omega)
      rw [if_neg e, dropR_in (by omega) (by omega)]; congr 1; omega
theorem drop_col {f : Int → Int} {M : Nat → Int → Int} {r : Nat} {s : Int} {c : Int → Int} (hs : 0 ≤ s ∧ s < f 1) (h7 : f 1 ≤ 7) (h : ∀ w, 0 ≤ w → w < f 1 → c w = f (97 + 14 * w + 1)) (hM : M r = rcp c (s + 1) c s (6 - s)) : ColR M r (dropR f s) := fun w a b => by
  rw [dropR_1] at b
  rw [hM]
  by_cases e : w < s
  · rw [rcp_out (by omega), dropR_lo (by omega) (by omega)]
    exact h w a (by omega)
  · rw [rcp_in (by omega), dropR_in (by omega) (by omega), show s + 1 + (w - s) = w + 1 by omega, h (w + 1) (by omega) (by omega)]
    congr 1; omega
theorem ink_c {M : Nat → Int → Int} {k : Nat} {f g : Int → Int} (h0 : g 0 = f 0) (hk : ∀ s, 0 ≤ s → s < f 0 → ∀ j, 6 ≤ j → j ≤ 8 → g (7 + 9 * s + j) = f (7 + 9 * s + j)) (h4 : g 4 = f 4) (h5 : g 5 = f 5) (h6 : g 6 = f 6) (h : InkR M k f) : InkR M k g := by
  obtain ⟨⟨a1, a2, a3⟩, b⟩ := h
  refine ⟨⟨a1.trans h4.symm, a2.trans h5.symm, a3.trans h6.symm⟩, fun s c d => ?_⟩
  rw [h0] at d
  obtain ⟨b1, b2, b3⟩ := b s c d
  exact ⟨b1.trans (hk s c d 6 (by omega) (by omega)).symm, b2.trans (hk s c d 7 (by omega) (by omega)).symm, b3.trans (hk s c d 8 (by omega) (by omega)).symm⟩
/-! sets of presses -/
def U20 (x : Int) : Prop := 0 ≤ x ∧ x < 1048576
theorem bs20_ext {x y : Int} (hx : U20 x) (hy : U20 y) (h : ∀ c, 0 ≤ c → c < 20 → (bs x c = true ↔ bs y c = true)) : x = y := by
  unfold U20 at hx hy
  have e : x.toNat = y.toNat := by
    apply Nat.eq_of_testBit_eq
    intro i
    by_cases hi : i < 20
    · have h1 := h (i : Int) (by omega) (by omega)
      unfold bs at h1
      rw [Int.toNat_natCast] at h1
      exact Bool.eq_iff_iff.mpr h1
    · have h1 : x.toNat < 2 ^ i := Nat.lt_of_lt_of_le (show x.toNat < 2 ^ 20 by omega) (Nat.pow_le_pow_right (by decide) (by omega))
      have h2 : y.toNat < 2 ^ i := Nat.lt_of_lt_of_le (show y.toNat < 2 ^ 20 by omega) (Nat.pow_le_pow_right (by decide) (by omega))
      rw [Nat.testBit_lt_two_pow h1, Nat.testBit_lt_two_pow h2]
  omega
theorem bsO {x y : Int} (hx : U20 x) (hy : U20 y) : U20 (iO x y) ∧ ∀ c, 0 ≤ c → (bs (iO x y) c = true ↔ bs x c = true ∨ bs y c = true) := by
  unfold U20 at hx hy ⊢
  obtain ⟨a, rfl⟩ := Int.eq_ofNat_of_zero_le hx.1
  obtain ⟨b, rfl⟩ := Int.eq_ofNat_of_zero_le hy.1
  rw [iO_n (by omega) (by omega)]
  have h20 : a ||| b < 2 ^ 20 := Nat.or_lt_two_pow (by omega) (by omega)
  refine ⟨by omega, fun c hc => ?_⟩
  unfold bs
  rw [Int.toNat_natCast, Int.toNat_natCast, Int.toNat_natCast, Nat.testBit_or, Bool.or_eq_true]
theorem bsA {x y : Int} (hx : U20 x) (hy : U20 y) : U20 (iA x y) ∧ ∀ c, 0 ≤ c → (bs (iA x y) c = true ↔ bs x c = true ∧ bs y c = true) := by
  unfold U20 at hx hy ⊢
  obtain ⟨a, rfl⟩ := Int.eq_ofNat_of_zero_le hx.1
  obtain ⟨b, rfl⟩ := Int.eq_ofNat_of_zero_le hy.1
  rw [iA_n (by omega)]
  have h20 : a &&& b ≤ a := Nat.and_le_left
  refine ⟨by omega, fun c hc => ?_⟩
  unfold bs
  rw [Int.toNat_natCast, Int.toNat_natCast, Int.toNat_natCast, Nat.testBit_and, Bool.and_eq_true]
theorem iAN20 {x y : Nat} (hx : x < 1048576) (hy : y < 1048576) : iA x (iX y (-1)) = ((x &&& (1048575 ^^^ y) : Nat) : Int) := by
  unfold iA iX
  have hz : x &&& (1048575 ^^^ y) < 2 ^ 31 := Nat.lt_of_le_of_lt Nat.and_le_left (by omega)
  have h : Int32.ofInt (x : Int) &&& Int32.ofInt ((Int32.ofInt (y : Int) ^^^ Int32.ofInt (-1)).toInt) = nI (x &&& (1048575 ^^^ y)) := by
    rw [Int32.ofInt_toInt, ofi_n, ofi_n, ← Int32.toBitVec_inj, Int32.toBitVec_and, Int32.toBitVec_xor, nI_bv, nI_bv, nI_bv]
    apply BitVec.eq_of_getLsbD_eq
    intro i hi
    have e : (Int32.ofInt (-1)).toBitVec.getLsbD i = true := by
      rw [show (Int32.ofInt (-1)).toBitVec = BitVec.allOnes 32 by decide, BitVec.getLsbD_allOnes]
      exact decide_eq_true hi
    rw [BitVec.getLsbD_and, BitVec.getLsbD_xor, e, BitVec.getLsbD_ofNat, BitVec.getLsbD_ofNat, BitVec.getLsbD_ofNat, Nat.testBit_and, Nat.testBit_xor, decide_eq_true hi]
    by_cases h10 : i < 20
    · have e2 : Nat.testBit 1048575 i = true := by
        have : ∀ i, i < 20 → Nat.testBit 1048575 i = true := by decide +kernel
        exact this i h10
      rw [e2]
      cases x.testBit i <;> cases y.testBit i <;> rfl
    · have e3 : x.testBit i = false := Nat.testBit_lt_two_pow (Nat.lt_of_lt_of_le (show x < 2 ^ 20 by omega) (Nat.pow_le_pow_right (by decide) (by omega)))
      rw [e3]
      rfl
  rw [h, nI_toInt hz]
/-- presses without those of another set -/
theorem bsN {x y : Int} (hx : U20 x) (hy : U20 y) : U20 (iA x (iX y (-1))) ∧ ∀ c, 0 ≤ c → c < 20 → (bs (iA x (iX y (-1))) c = true ↔ bs x c = true ∧ ¬ bs y c = true) := by
  unfold U20 at hx hy ⊢
  obtain ⟨n, rfl⟩ := Int.eq_ofNat_of_zero_le hx.1
  obtain ⟨k, rfl⟩ := Int.eq_ofNat_of_zero_le hy.1
  have hz : n &&& (1048575 ^^^ k) ≤ n := Nat.and_le_left
  rw [iAN20 (by omega) (by omega)]
  refine ⟨by omega, fun t h1 h2 => ?_⟩
  obtain ⟨i, rfl⟩ := Int.eq_ofNat_of_zero_le h1
  unfold bs
  simp only [Int.toNat_natCast]
  rw [Nat.testBit_and, Nat.testBit_xor]
  have e2 : Nat.testBit 1048575 i = true := by
    have : ∀ i, i < 20 → Nat.testBit 1048575 i = true := by decide +kernel
    exact this i (by omega)
  rw [e2]
  cases n.testBit i <;> cases k.testBit i <;> decide
theorem bs3_all : ∀ s : Nat, s < 10 → (0 ≤ iL 3 (2 * (s : Int)) ∧ iL 3 (2 * (s : Int)) < 1048576) ∧ ∀ c : Nat, c < 20 → ((bs (iL 3 (2 * (s : Int))) (c : Int) = true) = (c / 2 = s)) := by
  have h : ∀ s : Nat, s < 10 → iL 3 (2 * (s : Int)) = ((3 * 4 ^ s : Nat) : Int) := by decide +kernel
  have h2 : ∀ s : Nat, s < 10 → (3 * 4 ^ s < 1048576) ∧ ∀ c : Nat, c < 20 → ((3 * 4 ^ s).testBit c = decide (c / 2 = s)) := by decide +kernel
  intro s hs
  rw [h s hs]
  refine ⟨by have := (h2 s hs).1; omega, fun c hc => ?_⟩
  unfold bs
  rw [Int.toNat_natCast, Int.toNat_natCast, (h2 s hs).2 c hc, decide_eq_true_eq]
theorem bs3 {s : Int} (hs : 0 ≤ s ∧ s < 10) : U20 (iL 3 (2 * s)) ∧ ∀ c, 0 ≤ c → c < 20 → (bs (iL 3 (2 * s)) c = true ↔ c / 2 = s) := by
  obtain ⟨n, rfl⟩ := Int.eq_ofNat_of_zero_le hs.1
  obtain ⟨h1, h2⟩ := bs3_all n (by omega)
  refine ⟨h1, fun c a b => ?_⟩
  obtain ⟨i, rfl⟩ := Int.eq_ofNat_of_zero_le a
  rw [h2 i (by omega)]
  omega
theorem bs1_20 {s : Int} (hs : 0 ≤ s ∧ s < 20) : U20 (iL 1 s) ∧ ∀ c, 0 ≤ c → (bs (iL 1 s) c = true ↔ c = s) := by
  obtain ⟨j, rfl⟩ := Int.eq_ofNat_of_zero_le hs.1
  have hp : 2 ^ j < 2 ^ 20 := Nat.pow_lt_pow_right (by decide) (by omega)
  rw [iL_1 j (by omega)]
  refine ⟨⟨Int.natCast_nonneg _, Int.ofNat_lt.mpr hp⟩, fun t h1 => ?_⟩
  obtain ⟨i, rfl⟩ := Int.eq_ofNat_of_zero_le h1
  unfold bs
  simp only [Int.toNat_natCast]
  rw [Nat.testBit_two_pow, decide_eq_true_eq]
  omega
theorem U20_0 : U20 0 := ⟨by omega, by omega⟩
theorem iO20_0 {x : Int} (hx : U20 x) : iO x 0 = x := by
  obtain ⟨h1, h2⟩ := bsO hx U20_0
  exact bs20_ext h1 hx (fun c a b => by rw [h2 c a]; exact ⟨fun h => h.elim id (fun h => absurd h bs_0), Or.inl⟩)
/-- the presses of the first i stamps that are not worn out -/
def PLB (f : Int → Int) (i u : Int) : Prop := U20 u ∧ ∀ c, 0 ≤ c → c < 20 → (bs u c = true ↔ c / 2 < i ∧ f (7 + 9 * (c / 2) + 8) < f 2)
theorem PLB_0 {f : Int → Int} : PLB f 0 0 := ⟨U20_0, fun c a b => ⟨fun h => absurd h bs_0, fun h => by omega⟩⟩
theorem PLB_1 {f : Int → Int} {i u : Int} (h : PLB f i u) (hi : 0 ≤ i ∧ i < 10) (hw : f (7 + 9 * i + 8) < f 2) : PLB f (i + 1) (iO u (iL 3 (2 * i))) := by
  obtain ⟨h1, h2⟩ := bsO h.1 (bs3 hi).1
  refine ⟨h1, fun c a b => ?_⟩
  rw [h2 c a, h.2 c a b, (bs3 hi).2 c a b]
  constructor
  · rintro (h | h)
    · exact ⟨by omega, h.2⟩
    · rw [h]; exact ⟨by omega, hw⟩
  · intro h
    by_cases e : c / 2 = i
    · exact Or.inr e
    · exact Or.inl ⟨by omega, h.2⟩
theorem PLB_2 {f : Int → Int} {i u : Int} (h : PLB f i u) (hw : f 2 ≤ f (7 + 9 * i + 8)) : PLB f (i + 1) u := by
  refine ⟨h.1, fun c a b => ?_⟩
  rw [h.2 c a b]
  constructor
  · intro h; exact ⟨by omega, h.2⟩
  · intro h
    by_cases e : c / 2 = i
    · rw [e] at h; omega
    · exact ⟨by omega, h.2⟩
/-- the presses u of the stamps x -/
def Ux (x u : Int) : Prop := U20 u ∧ ∀ c, 0 ≤ c → c < 20 → (bs u c = true ↔ bs x (c / 2) = true)
theorem PL_ux {f : Int → Int} {x u : Int} (hx : Fresh f x) (h : PLB f (f 0) u) : Ux x u := ⟨h.1, fun c a b => by rw [h.2 c a b, hx.2.2 (c / 2) (by omega) (by omega)]⟩
theorem ux_u {x u u' : Int} (h : Ux x u) (h' : Ux x u') : u = u' := bs20_ext h.1 h'.1 (fun c a b => by rw [h.2 c a b, h'.2 c a b])
/-- the presses of the first i stamps of a set -/
def USB (x i u : Int) : Prop := U20 u ∧ ∀ c, 0 ≤ c → c < 20 → (bs u c = true ↔ c / 2 < i ∧ bs x (c / 2) = true)
theorem USB_0 {x : Int} : USB x 0 0 := ⟨U20_0, fun c a b => ⟨fun h => absurd h bs_0, fun h => by omega⟩⟩
theorem USB_1 {x i u : Int} (h : USB x i u) (hi : 0 ≤ i ∧ i < 10) (hw : bs x i = true) : USB x (i + 1) (iO u (iL 3 (2 * i))) := by
  obtain ⟨h1, h2⟩ := bsO h.1 (bs3 hi).1
  refine ⟨h1, fun c a b => ?_⟩
  rw [h2 c a, h.2 c a b, (bs3 hi).2 c a b]
  constructor
  · rintro (h | h)
    · exact ⟨by omega, h.2⟩
    · rw [h]; exact ⟨by omega, hw⟩
  · intro h
    by_cases e : c / 2 = i
    · exact Or.inr e
    · exact Or.inl ⟨by omega, h.2⟩
theorem USB_2 {x i u : Int} (h : USB x i u) (hw : ¬ bs x i = true) : USB x (i + 1) u := by
  refine ⟨h.1, fun c a b => ?_⟩
  rw [h.2 c a b]
  constructor
  · intro h; exact ⟨by omega, h.2⟩
  · intro h
    by_cases e : c / 2 = i
    · rw [e] at h; exact absurd h.2 hw
    · exact ⟨by omega, h.2⟩
theorem USB_e {x u : Int} (h : USB x 10 u) : Ux x u := ⟨h.1, fun c a b => by rw [h.2 c a b]; exact ⟨fun h => h.2, fun h => ⟨by omega, h⟩⟩⟩
