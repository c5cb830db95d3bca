/-! what the reference's row says: letters, prints, plans -/
/-- a letter after half a turn; -1 for none -/
def tur (x : Int) : Int := if x = 1 then 16 else if x = 16 then 1 else if x = 3 then 15 else if x = 15 then 3 else if x = 12 then 22 else if x = 22 then 12 else if x = 13 then 20 else if x = 20 then 13 else if x = 11 then 11 else if x = 14 then 14 else if x = 18 then 18 else if x = 23 then 23 else if x = 25 then 25 else -1
def StOk (f : Int → Int) (s : Int) : Prop := 0 ≤ s ∧ s ≤ 9 ∧ 1 ≤ f (7 + 9 * s) ∧ f (7 + 9 * s) ≤ 5 ∧ ∀ k, 0 ≤ k → k < f (7 + 9 * s) → 0 ≤ f (7 + 9 * s + 1 + k) ∧ f (7 + 9 * s + 1 + k) ≤ 25
def WdOk (f : Int → Int) (w : Int) : Prop := 0 ≤ w ∧ w ≤ 6 ∧ 1 ≤ f (97 + 14 * w) ∧ f (97 + 14 * w) ≤ 12 ∧ ∀ k, 0 ≤ k → k < f (97 + 14 * w) → 0 ≤ f (97 + 14 * w + 2 + k) ∧ f (97 + 14 * w + 2 + k) ≤ 25
def CanT (f : Int → Int) (s : Int) : Prop := ∀ k, 0 ≤ k → k < f (7 + 9 * s) → tur (f (7 + 9 * s + 1 + k)) ≠ -1
/-- a letter of a print: t 0 straight, else turned -/
def prL (f : Int → Int) (s k t : Int) : Int := if t = 0 then f (7 + 9 * s + 1 + k) else tur (f (7 + 9 * s + f (7 + 9 * s) - k))
def SameP (f : Int → Int) (s : Int) : Prop := ∀ k, 0 ≤ k → k < f (7 + 9 * s) → prL f s k 1 = prL f s k 0
def Cnt (f : Int → Int) (s : Int) : Prop := CanT f s ∧ ¬ SameP f s
def Fit (f : Int → Int) (w p s t : Int) : Prop := p + f (7 + 9 * s) ≤ f (97 + 14 * w) ∧ ∀ k, 0 ≤ k → k < f (7 + 9 * s) → prL f s k t = f (97 + 14 * w + 2 + p + k)
/-- a loop that asks something of each number below i -/
def AllB (P : Int → Prop) (i b : Int) : Prop := (b = 1 ∧ ∀ j, 0 ≤ j → j < i → P j) ∨ (b = 0 ∧ ∃ j, 0 ≤ j ∧ j < i ∧ ¬ P j)
theorem AllB_0 {P : Int → Prop} : AllB P 0 1 := Or.inl ⟨rfl, fun _ h1 h2 => absurd h2 (by omega)⟩
theorem AllB_1 {P : Int → Prop} {i b : Int} (h : AllB P i b) (hb : ¬ b = 0) (hp : P i) : AllB P (i + 1) 1 := by
  rcases h with ⟨-, h⟩ | ⟨h, -⟩
  · refine Or.inl ⟨rfl, fun j h1 h2 => ?_⟩
    by_cases hj : j = i
    · rw [hj]; exact hp
    · exact h j h1 (by omega)
  · exact absurd h hb
theorem AllB_2 {P : Int → Prop} {i b : Int} (h : AllB P i b) (hb : b = 0) : AllB P (i + 1) 0 := by
  rcases h with ⟨h, -⟩ | ⟨-, j, h1, h2, h3⟩
  · omega
  · exact Or.inr ⟨rfl, j, h1, by omega, h3⟩
theorem AllB_3 {P : Int → Prop} {i : Int} (hi : 0 ≤ i) (hp : ¬ P i) : AllB P (i + 1) 0 := Or.inr ⟨rfl, i, hi, by omega, hp⟩
theorem AllB_e {P : Int → Prop} {n b : Int} (h : AllB P n b) : (b = 1 ∧ ∀ j, 0 ≤ j → j < n → P j) ∨ (b = 0 ∧ ¬ ∀ j, 0 ≤ j → j < n → P j) := by
  rcases h with h | ⟨h, j, h1, h2, h3⟩
  · exact Or.inl h
  · exact Or.inr ⟨h, fun h4 => h3 (h4 j h1 h2)⟩
theorem AllB_b {P : Int → Prop} {n b : Int} (h : AllB P n b) : b = 0 ∨ b = 1 := by
  rcases h with h | h
  · exact Or.inr h.1
  · exact Or.inl h.1
/-! bits of small sets -/
theorem ofi_n (n : Nat) : Int32.ofInt (n : Int) = nI n := by
  rw [← Int32.toBitVec_inj]
  show BitVec.ofInt 32 (n : Int) = BitVec.ofNat 32 n
  exact BitVec.ofInt_natCast 32 n
theorem nI_bv (n : Nat) : (nI n).toBitVec = BitVec.ofNat 32 n := rfl
theorem iO_n {a b : Nat} (ha : a < 2 ^ 31) (hb : b < 2 ^ 31) : iO a b = ((a ||| b : Nat) : Int) := by
  unfold iO
  have h : nI a ||| nI b = nI (a ||| b) := by
    rw [← Int32.toBitVec_inj, Int32.toBitVec_or, nI_bv, nI_bv, nI_bv]
    exact (BitVec.ofNat_or).symm
  rw [ofi_n, ofi_n, h, nI_toInt (Nat.or_lt_two_pow ha hb)]
theorem iA_n {a b : Nat} (ha : a < 2 ^ 31) : iA a b = ((a &&& b : Nat) : Int) := by
  unfold iA
  have h : nI a &&& nI b = nI (a &&& b) := by
    rw [← Int32.toBitVec_inj, Int32.toBitVec_and, nI_bv, nI_bv, nI_bv]
    exact (BitVec.ofNat_and).symm
  rw [ofi_n, ofi_n, h, nI_toInt (Nat.lt_of_le_of_lt Nat.and_le_left ha)]
theorem iL_1 : ∀ s, s < 31 → iL 1 (s : Nat) = ((2 ^ s : Nat) : Int) := by decide +kernel
theorem iR_n {a s : Nat} (ha : a < 2 ^ 31) (hs : s < 31) : iR a s = ((a / 2 ^ s : Nat) : Int) := by
  unfold iR
  have e : ∀ s, s < 31 → ((Int32.ofInt ((s : Nat) : Int) &&& 31).toBitVec.smod 32).toNat = s := by decide +kernel
  rw [ofi_n a, pk_shrN ha _ s (e s hs), nI_toInt (Nat.lt_of_le_of_lt (Nat.div_le_self _ _) ha)]
/-- place s of the set x -/
def bs (x s : Int) : Bool := x.toNat.testBit s.toNat
def Fresh (f : Int → Int) (x : Int) : Prop := 0 ≤ x ∧ x < 1024 ∧ ∀ s, 0 ≤ s → s < 10 → (bs x s = true ↔ s < f 0 ∧ f (7 + 9 * s + 8) < f 2)
theorem bs_ext {x y : Int} (hx : 0 ≤ x ∧ x < 1024) (hy : 0 ≤ y ∧ y < 1024) (h : ∀ s, 0 ≤ s → s < 10 → (bs x s = true ↔ bs y s = true)) : x = y := by
  have e : x.toNat = y.toNat := by
    apply Nat.eq_of_testBit_eq
    intro i
    by_cases hi : i < 10
    · have h1 := h (i : Int) (by omega) (by omega)
      unfold bs at h1
      rw [Int.toNat_natCast] at h1
      exact Bool.eq_iff_iff.mpr h1
    · have h1 : x.toNat < 2 ^ i := Nat.lt_of_lt_of_le (show x.toNat < 2 ^ 10 by omega) (Nat.pow_le_pow_right (by decide) (by omega))
      have h2 : y.toNat < 2 ^ i := Nat.lt_of_lt_of_le (show y.toNat < 2 ^ 10 by omega) (Nat.pow_le_pow_right (by decide) (by omega))
      rw [Nat.testBit_lt_two_pow h1, Nat.testBit_lt_two_pow h2]
  omega
theorem fresh_1 {f : Int → Int} {x y : Int} (hx : Fresh f x) (hy : Fresh f y) : x = y := bs_ext ⟨hx.1, hx.2.1⟩ ⟨hy.1, hy.2.1⟩ (fun s h1 h2 => (hx.2.2 s h1 h2).trans (hy.2.2 s h1 h2).symm)
/-- a place added to a set -/
theorem bs_or {x s : Int} (hx : 0 ≤ x ∧ x < 1024) (hs : 0 ≤ s ∧ s < 10) : 0 ≤ iO x (iL 1 s) ∧ iO x (iL 1 s) < 1024 ∧ ∀ t, 0 ≤ t → t < 10 → (bs (iO x (iL 1 s)) t = true ↔ bs x t = true ∨ t = s) := by
  obtain ⟨n, rfl⟩ := Int.eq_ofNat_of_zero_le hx.1
  obtain ⟨j, rfl⟩ := Int.eq_ofNat_of_zero_le hs.1
  have hj : j < 10 := by omega
  have hn : n < 1024 := by omega
  have hp : 2 ^ j < 2 ^ 10 := Nat.pow_lt_pow_right (by decide) hj
  rw [iL_1 j (by omega), iO_n (by omega) (by omega)]
  have h10 : n ||| 2 ^ j < 2 ^ 10 := Nat.or_lt_two_pow hn hp
  refine ⟨by omega, by omega, fun t h1 h2 => ?_⟩
  obtain ⟨i, rfl⟩ := Int.eq_ofNat_of_zero_le h1
  unfold bs
  rw [Int.toNat_natCast, Int.toNat_natCast, Int.toNat_natCast, Nat.testBit_or, Nat.testBit_two_pow, Bool.or_eq_true, decide_eq_true_eq]
  constructor
  · rintro (h | h)
    · exact Or.inl h
    · exact Or.inr (by omega)
  · rintro (h | h)
    · exact Or.inl h
    · exact Or.inr (by omega)
