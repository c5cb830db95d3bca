/-! the table of the fewest presses, entry by entry -/
theorem bs_bit {x s : Int} (hx : 0 ≤ x ∧ x < 1073741824) (hs : 0 ≤ s ∧ s < 30) : (bs x s = true → iA (iR x s) 1 = 1) ∧ (iA (iR x s) 1 = 1 → bs x s = true) ∧ (iA (iR x s) 1 = 1 ∨ iA (iR x s) 1 = 0) := by
  obtain ⟨n, rfl⟩ := Int.eq_ofNat_of_zero_le hx.1
  obtain ⟨j, rfl⟩ := Int.eq_ofNat_of_zero_le hs.1
  have hn : n < 2 ^ 31 := by omega
  have hd : n / 2 ^ j < 2 ^ 31 := Nat.lt_of_le_of_lt (Nat.div_le_self _ _) hn
  rw [iR_n hn (by omega), show (1 : Int) = ((1 : Nat) : Int) from rfl, iA_n hd, Nat.and_one_is_mod]
  unfold bs
  rw [Int.toNat_natCast, Int.toNat_natCast, Nat.testBit_eq_decide_div_mod_eq]
  refine ⟨fun h => ?_, fun h => ?_, ?_⟩
  · have := of_decide_eq_true h; omega
  · exact decide_eq_true (by omega)
  · omega
def LstB (f : Int → Int) (w x p s : Int) (g : Int → Int) : Prop := Lst 100 f w x (p + 1) g ∧ (g p = 100 ∨ ∃ t, t < s ∧ May f w x p t ∧ g p = g (p + f (7 + 9 * t)) + 1) ∧ g p ≤ 100 ∧ ∀ t, t < s → May f w x p t → g p ≤ g (p + f (7 + 9 * t)) + 1
theorem may_len {f : Int → Int} {w x p s : Int} (hA : StAll f) (h : May f w x p s) : 1 ≤ f (7 + 9 * s) ∧ p + f (7 + 9 * s) ≤ f (97 + 14 * w) := ⟨(hA.2 s h.1 h.2.1).2.2.1, h.2.2.2.1⟩
theorem lst_uf {f : Int → Int} {w x p v : Int} {g : Int → Int} (hA : StAll f) (hp : p < f (97 + 14 * w)) (h : Lst 100 f w x (p + 1) g) : Lst 100 f w x (p + 1) (uf g p v) := by
  refine ⟨by rw [uf_ne (by omega)]; exact h.1, fun q h1 h2 => ?_⟩
  obtain ⟨a1, a2, a3⟩ := h.2 q h1 h2
  have e : uf g p v q = g q := uf_ne (by omega)
  rw [e]
  refine ⟨?_, a2, fun s hs => ?_⟩
  · rcases a1 with a1 | ⟨s, hs, a1⟩
    · exact Or.inl a1
    · have := (may_len hA hs).1
      exact Or.inr ⟨s, hs, by rw [uf_ne (by omega)]; exact a1⟩
  · have := (may_len hA hs).1
    rw [uf_ne (by omega)]
    exact a3 s hs
theorem LstB_0 {f : Int → Int} {w x p : Int} {g g' : Int → Int} (hA : StAll f) (hp : p < f (97 + 14 * w)) (h : Lst 100 f w x (p + 1) g) (hg : g' = uf g p 100) : LstB f w x p 0 g' := by
  subst hg
  refine ⟨lst_uf hA hp h, Or.inl (uf_eq _ _ _), by rw [uf_eq]; exact Int.le_refl _, fun t ht hm => ?_⟩
  have := hm.1
  omega
theorem LstB_skip {f : Int → Int} {w x p s : Int} {g : Int → Int} (h : LstB f w x p s g) (hn : May f w x p s → g p ≤ g (p + f (7 + 9 * s)) + 1) : LstB f w x p (s + 1) g := by
  obtain ⟨h1, h2, h3, h4⟩ := h
  refine ⟨h1, ?_, h3, fun t ht hm => ?_⟩
  · rcases h2 with h2 | ⟨t, ht, h2⟩
    · exact Or.inl h2
    · exact Or.inr ⟨t, Int.lt_trans ht (Int.lt_succ s), h2⟩
  · by_cases e : t = s
    · subst e; exact hn hm
    · exact h4 t (by omega) hm
theorem LstB_set {f : Int → Int} {w x p s : Int} {g g' : Int → Int} (hA : StAll f) (hp : p < f (97 + 14 * w)) (h : LstB f w x p s g) (hm : May f w x p s) (hl : g (p + f (7 + 9 * s)) + 1 < g p) (hg : g' = uf g p (g (p + f (7 + 9 * s)) + 1)) : LstB f w x p (s + 1) g' := by
  subst hg
  obtain ⟨h1, h2, h3, h4⟩ := h
  have ne : ∀ t, May f w x p t → uf g p (g (p + f (7 + 9 * s)) + 1) (p + f (7 + 9 * t)) = g (p + f (7 + 9 * t)) := fun t ht => by
    have := (may_len hA ht).1
    exact uf_ne (by omega)
  refine ⟨lst_uf hA hp h1, Or.inr ⟨s, Int.lt_succ s, hm, by rw [uf_eq, ne s hm]⟩, by rw [uf_eq]; omega, fun t ht ht2 => ?_⟩
  rw [uf_eq, ne t ht2]
  by_cases e : t = s
  · subst e; exact Int.le_refl _
  · have := h4 t (by omega) ht2
    omega
theorem LstB_e {f : Int → Int} {w x p : Int} {g : Int → Int} (h : LstB f w x p (f 0) g) : Lst 100 f w x p g := by
  obtain ⟨h1, h2, h3, h4⟩ := h
  refine ⟨h1.1, fun q h5 h6 => ?_⟩
  by_cases e : q = p
  · subst e
    refine ⟨?_, h3, fun s hs => h4 s hs.2.1 hs⟩
    rcases h2 with h2 | ⟨t, -, h2⟩
    · exact Or.inl h2
    · exact Or.inr ⟨t, h2⟩
  · exact h1.2 q (by omega) h6
theorem Lst_n {f : Int → Int} {w x : Int} {g g' : Int → Int} (hg : g' = uf g (f (97 + 14 * w)) 0) : Lst 100 f w x (f (97 + 14 * w)) g' := by
  subst hg
  exact ⟨uf_eq _ _ _, fun p h1 h2 => absurd h2 (by omega)⟩
theorem lst_rng {N : Int} (hN : 0 ≤ N) {f : Int → Int} {w x i : Int} {L : Int → Int} (hA : StAll f) (h : Lst N f w x i L) : ∀ q, i ≤ q → q ≤ f (97 + 14 * w) → 0 ≤ L q ∧ L q ≤ N := by
  have key : ∀ (k : Nat) (q : Int), i ≤ q → q ≤ f (97 + 14 * w) → (f (97 + 14 * w) - q).toNat < k → 0 ≤ L q ∧ L q ≤ N := by
    intro k
    induction k with
    | zero => intro q _ _ hk; omega
    | succ k ih =>
      intro q h1 h2 hk
      by_cases e : q = f (97 + 14 * w)
      · have := h.1
        rw [← e] at this
        omega
      · obtain ⟨a1, a2, -⟩ := h.2 q h1 (by omega)
        rcases a1 with a1 | ⟨s, hs, a1⟩
        · omega
        · have h3 := may_len hA hs
          have h4 := ih (q + f (7 + 9 * s)) (by omega) h3.2 (by omega)
          omega
  intro q h1 h2
  exact key _ q h1 h2 (Nat.lt_succ_self _)
