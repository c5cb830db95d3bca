/-! small sets of stamps -/
theorem iAN {x y : Nat} (hx : x < 1024) (hy : y < 1024) : iA x (iX y (-1)) = ((x &&& (1023 ^^^ y) : Nat) : Int) := by
  unfold iA iX
  have hz : x &&& (1023 ^^^ y) < 2 ^ 31 := Nat.lt_of_le_of_lt Nat.and_le_left (by omega)
  have h : Int32.ofInt (x : Int) &&& Int32.ofInt ((Int32.ofInt (y : Int) ^^^ Int32.ofInt (-1)).toInt) = nI (x &&& (1023 ^^^ y)) := by
    rw [Int32.ofInt_toInt, ofi_n, ofi_n, ← Int32.toBitVec_inj, Int32.toBitVec_and, Int32.toBitVec_xor, nI_bv, nI_bv, nI_bv]
    apply BitVec.eq_of_getLsbD_eq
    intro i hi
    have e : (Int32.ofInt (-1)).toBitVec.getLsbD i = true := by
      rw [show (Int32.ofInt (-1)).toBitVec = BitVec.allOnes 32 by decide, BitVec.getLsbD_allOnes]
      exact decide_eq_true hi
    rw [BitVec.getLsbD_and, BitVec.getLsbD_xor, e, BitVec.getLsbD_ofNat, BitVec.getLsbD_ofNat, BitVec.getLsbD_ofNat, Nat.testBit_and, Nat.testBit_xor, decide_eq_true hi]
    by_cases h10 : i < 10
    · have e2 : Nat.testBit 1023 i = true := by
        have : ∀ i, i < 10 → Nat.testBit 1023 i = true := by decide
        exact this i h10
      rw [e2]
      cases x.testBit i <;> cases y.testBit i <;> rfl
    · have e3 : x.testBit i = false := Nat.testBit_lt_two_pow (Nat.lt_of_lt_of_le (show x < 2 ^ 10 by omega) (Nat.pow_le_pow_right (by decide) (by omega)))
      rw [e3]
      rfl
  rw [h, nI_toInt hz]
/-- a set without the places of another -/
theorem bs_sub {x y : Int} (hx : 0 ≤ x ∧ x < 1024) (hy : 0 ≤ y ∧ y < 1024) : 0 ≤ iA x (iX y (-1)) ∧ iA x (iX y (-1)) < 1024 ∧ ∀ t, 0 ≤ t → t < 10 → (bs (iA x (iX y (-1))) t = true ↔ bs x t = true ∧ ¬ bs y t = true) := by
  obtain ⟨n, rfl⟩ := Int.eq_ofNat_of_zero_le hx.1
  obtain ⟨k, rfl⟩ := Int.eq_ofNat_of_zero_le hy.1
  have hz : n &&& (1023 ^^^ k) ≤ n := Nat.and_le_left
  rw [iAN (by omega) (by omega)]
  refine ⟨by omega, by omega, fun t h1 h2 => ?_⟩
  obtain ⟨i, rfl⟩ := Int.eq_ofNat_of_zero_le h1
  unfold bs
  simp only [Int.toNat_natCast]
  rw [Nat.testBit_and, Nat.testBit_xor]
  have e2 : Nat.testBit 1023 i = true := by
    have : ∀ i, i < 10 → Nat.testBit 1023 i = true := by decide
    exact this i (by omega)
  rw [e2]
  cases n.testBit i <;> cases k.testBit i <;> decide
theorem bs_0 {t : Int} : ¬ bs 0 t = true := by
  unfold bs
  rw [show (0 : Int).toNat = 0 from rfl, Nat.zero_testBit]
  decide
/-- one set within another -/
def Sub (u x : Int) : Prop := ∀ t, 0 ≤ t → t < 10 → bs u t = true → bs x t = true
theorem sub_iff {u x : Int} (hu : 0 ≤ u ∧ u < 1024) (hx : 0 ≤ x ∧ x < 1024) : (iA u (iX x (-1)) = 0 → Sub u x) ∧ (Sub u x → iA u (iX x (-1)) = 0) := by
  obtain ⟨h1, h2, h3⟩ := bs_sub hu hx
  refine ⟨fun h t a b c => ?_, fun h => ?_⟩
  · have h4 := h3 t a b
    rw [h] at h4
    rcases Bool.eq_false_or_eq_true (bs x t) with e | e
    · exact e
    · exact absurd (h4.mpr ⟨c, by rw [e]; decide⟩) bs_0
  · refine bs_ext ⟨h1, h2⟩ (by omega) (fun t a b => ?_)
    rw [h3 t a b]
    exact ⟨fun g => absurd (h t a b g.1) g.2, fun g => absurd g bs_0⟩
/-- how many places a set has -/
def pop (u : Int) : Int := ((List.range 10).map (fun i => if u.toNat.testBit i then (1 : Int) else 0)).sum
theorem pop_all : ∀ n : Nat, n < 1024 → (pop (n : Int) = (n : Int) % 2 + pop ((n : Int) / 2) ∧ 0 ≤ pop (n : Int) ∧ pop (n : Int) ≤ 10) := by decide +kernel
theorem pop_s {u : Int} (h : 0 ≤ u ∧ u < 1024) : pop u = u % 2 + pop (u / 2) ∧ 0 ≤ pop u ∧ pop u ≤ 10 := by
  obtain ⟨n, rfl⟩ := Int.eq_ofNat_of_zero_le h.1
  exact pop_all n (by omega)
theorem pop_0 : pop 0 = 0 := by decide +kernel
theorem iA1 {u : Int} (h : 0 ≤ u ∧ u < 1024) : iA u 1 = u % 2 ∧ iR u 1 = u / 2 := by
  obtain ⟨n, rfl⟩ := Int.eq_ofNat_of_zero_le h.1
  have a := iA_n (a := n) (b := 1) (by omega)
  have b := iR_n (a := n) (s := 1) (by omega) (by omega)
  rw [Nat.and_one_is_mod] at a
  refine ⟨?_, ?_⟩
  · rw [show (1 : Int) = ((1 : Nat) : Int) from rfl, a]; omega
  · rw [show (1 : Int) = ((1 : Nat) : Int) from rfl, b]
    show ((n / 2 : Nat) : Int) = _
    omega
theorem iL1 : ∀ n : Nat, n < 11 → 1 ≤ iL 1 (n : Int) ∧ iL 1 (n : Int) ≤ 1024 := by decide +kernel
theorem iL_r {n : Int} (h : 0 ≤ n ∧ n ≤ 10) : 1 ≤ iL 1 n ∧ iL 1 n ≤ 1024 := by
  obtain ⟨k, rfl⟩ := Int.eq_ofNat_of_zero_le h.1
  exact iL1 k (by omega)
def HasX (f : Int → Int) (w x : Int) : Prop := ∃ L, Lst 100 f w x 0 L ∧ L 0 ≠ 100
theorem hasX_no {f : Int → Int} {w x : Int} {L : Int → Int} (hA : StAll f) (hw : WdOk f w) (h : Lst 100 f w x 0 L) (h0 : L 0 = 100) : ¬ HasX f w x := by
  rintro ⟨L', g2, g3⟩
  have hw3 := hw.2.2.1
  rcases lst_u (by omega) (by omega) hA hw h g2 0 (by omega) (by omega) with h | h
  · omega
  · omega
def AllW (f : Int → Int) (x : Int) : Prop := ∀ w, 0 ≤ w → w < f 1 → HasX f w x
