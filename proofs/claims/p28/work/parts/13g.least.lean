/-! the fewest presses, and the best plan, of a word of a row -/
/-- stamp s prints the letters of word w from p on by a press that counts -/
def Prs (f : Int → Int) (w p s : Int) : Prop := Fit f w p s 0 ∨ (Cnt f s ∧ Fit f w p s 1)
/-- a stamp of the set x that may stand at p -/
def May (f : Int → Int) (w x p s : Int) : Prop := 0 ≤ s ∧ s < f 0 ∧ bs x s = true ∧ p + f (7 + 9 * s) ≤ f (97 + 14 * w) ∧ Prs f w p s
/-- L p: the fewest presses from p on; N where there are none -/
def Lst (N : Int) (f : Int → Int) (w x : Int) (i : Int) (L : Int → Int) : Prop := L (f (97 + 14 * w)) = 0 ∧ ∀ p, i ≤ p → p < f (97 + 14 * w) → (L p = N ∨ ∃ s, May f w x p s ∧ L p = L (p + f (7 + 9 * s)) + 1) ∧ L p ≤ N ∧ ∀ s, May f w x p s → L p ≤ L (p + f (7 + 9 * s)) + 1
def StAll (f : Int → Int) : Prop := (0 ≤ f 0 ∧ f 0 ≤ 10) ∧ ∀ s, 0 ≤ s → s < f 0 → StOk f s
theorem lst_u {N N' : Int} (hN : 12 < N) (hN' : 12 < N') {f : Int → Int} {w x : Int} (hA : StAll f) (hw : WdOk f w) {L L' : Int → Int} (h : Lst N f w x 0 L) (h' : Lst N' f w x 0 L') : ∀ p, 0 ≤ p → p ≤ f (97 + 14 * w) → (L p = N ∧ L' p = N') ∨ (L p = L' p ∧ 0 ≤ L p ∧ L p ≤ f (97 + 14 * w) - p) := by
  have hw4 := hw.2.2.2.1
  have key : ∀ (k : Nat) (p : Int), 0 ≤ p → p ≤ f (97 + 14 * w) → (f (97 + 14 * w) - p).toNat < k → (L p = N ∧ L' p = N') ∨ (L p = L' p ∧ 0 ≤ L p ∧ L p ≤ f (97 + 14 * w) - p) := by
    intro k
    induction k with
    | zero => intro p _ _ hk; omega
    | succ k ih =>
      intro p h0 h1 hk
      by_cases hp : p = f (97 + 14 * w)
      · subst hp
        have e1 := h.1
        have e2 := h'.1
        exact Or.inr ⟨by omega, by omega, by omega⟩
      · have st : ∀ s, May f w x p s → 1 ≤ f (7 + 9 * s) ∧ ((L (p + f (7 + 9 * s)) = N ∧ L' (p + f (7 + 9 * s)) = N') ∨ (L (p + f (7 + 9 * s)) = L' (p + f (7 + 9 * s)) ∧ 0 ≤ L (p + f (7 + 9 * s)) ∧ L (p + f (7 + 9 * s)) ≤ f (97 + 14 * w) - (p + f (7 + 9 * s)))) := by
          intro s hs
          have h3 := (hA.2 s hs.1 hs.2.1).2.2.1
          have h4 := hs.2.2.2.1
          exact ⟨h3, ih (p + f (7 + 9 * s)) (by omega) h4 (by omega)⟩
        obtain ⟨a1, a2, a3⟩ := h.2 p h0 (by omega)
        obtain ⟨b1, b2, b3⟩ := h'.2 p h0 (by omega)
        rcases a1 with a1 | ⟨s, hs, a1⟩
        · rcases b1 with b1 | ⟨s', hs', b1⟩
          · exact Or.inl ⟨a1, b1⟩
          · have a4 := a3 s' hs'
            obtain ⟨q1, q2⟩ := st s' hs'
            rcases q2 with q2 | q2
            · omega
            · omega
        · obtain ⟨q1, q2⟩ := st s hs
          have b4 := b3 s hs
          rcases q2 with q2 | q2
          · omega
          · rcases b1 with b1 | ⟨s', hs', b1⟩
            · omega
            · obtain ⟨q3, q4⟩ := st s' hs'
              have a4 := a3 s' hs'
              rcases q4 with q4 | q4
              · omega
              · exact Or.inr ⟨by omega, by omega, by omega⟩
  intro p h0 h1
  exact key _ p h0 h1 (Nat.lt_succ_self _)
/-- a larger set has no more presses -/
theorem lst_mono {N : Int} {f : Int → Int} {w x x' : Int} (hA : StAll f) (hx : ∀ s, 0 ≤ s → s < f 0 → bs x s = true → bs x' s = true) {L L' : Int → Int} (h : Lst N f w x 0 L) (h' : Lst N f w x' 0 L') : ∀ p, 0 ≤ p → p ≤ f (97 + 14 * w) → L' p ≤ L p := by
  have key : ∀ (k : Nat) (p : Int), 0 ≤ p → p ≤ f (97 + 14 * w) → (f (97 + 14 * w) - p).toNat < k → L' p ≤ L p := by
    intro k
    induction k with
    | zero => intro p _ _ hk; omega
    | succ k ih =>
      intro p h0 h1 hk
      by_cases hp : p = f (97 + 14 * w)
      · subst hp
        rw [h.1, h'.1]; exact Int.le_refl _
      · obtain ⟨a1, a2, a3⟩ := h.2 p h0 (by omega)
        obtain ⟨-, b2, b3⟩ := h'.2 p h0 (by omega)
        rcases a1 with a1 | ⟨s, hs, a1⟩
        · omega
        · have h3 := (hA.2 s hs.1 hs.2.1).2.2.1
          have h4 := hs.2.2.2.1
          have h5 := ih (p + f (7 + 9 * s)) (by omega) h4 (by omega)
          have h6 := b3 s ⟨hs.1, hs.2.1, hx s hs.1 hs.2.1 hs.2.2.1, h4, hs.2.2.2.2⟩
          omega
  intro p h0 h1
  exact key _ p h0 h1 (Nat.lt_succ_self _)
/-- the number of presses; -1 for none -/
def Pno (f : Int → Int) (w x v : Int) : Prop := ∃ L, Lst 100 f w x 0 L ∧ v = if L 0 = 100 then -1 else L 0
theorem pno_u {f : Int → Int} {w x v v' : Int} (hA : StAll f) (hw : WdOk f w) (h : Pno f w x v) (h' : Pno f w x v') : v = v' := by
  obtain ⟨L, h1, rfl⟩ := h
  obtain ⟨L', h2, rfl⟩ := h'
  have h3 := hw.2.2.1
  rcases lst_u (by omega) (by omega) hA hw h1 h2 0 (by omega) (by omega) with h | h
  · rw [if_pos h.1, if_pos h.2]
  · rw [h.1]
/-- a press that may come next at p -/
def Ok1 (f : Int → Int) (w x : Int) (L : Int → Int) (p c : Int) : Prop := 0 ≤ c ∧ c / 2 < f 0 ∧ bs x (c / 2) = true ∧ p + f (7 + 9 * (c / 2)) ≤ f (97 + 14 * w) ∧ L (p + f (7 + 9 * (c / 2))) = L p - 1 ∧ (c % 2 = 1 → Cnt f (c / 2)) ∧ Fit f w p (c / 2) (c % 2)
def Low1 (f : Int → Int) (w x : Int) (L : Int → Int) (p c : Int) : Prop := Ok1 f w x L p c ∧ ∀ b, 0 ≤ b → b < c → ¬ Ok1 f w x L p b
/-- the first i presses c of the best plan lead to the places q -/
def PlnI (f : Int → Int) (w x : Int) (L c q : Int → Int) (i : Int) : Prop := q 0 = 0 ∧ ∀ j, 0 ≤ j → j < i → Low1 f w x L (q j) (c j) ∧ q (j + 1) = q j + f (7 + 9 * (c j / 2))
/-- the best plan c of n presses -/
def Pln (f : Int → Int) (w x : Int) (c : Int → Int) (n : Int) : Prop := ∃ L q, Lst 100 f w x 0 L ∧ L 0 = n ∧ n ≠ 100 ∧ PlnI f w x L c q n ∧ q n = f (97 + 14 * w)
theorem ok1_L {f : Int → Int} {w x : Int} {L L' : Int → Int} (hA : StAll f) (hw : WdOk f w) (h : Lst 100 f w x 0 L) (h' : Lst 100 f w x 0 L') {p c : Int} (hp : 0 ≤ p ∧ p ≤ f (97 + 14 * w)) (ho : Ok1 f w x L p c) : Ok1 f w x L' p c := by
  obtain ⟨h1, h2, h3, h4, h5, h6, h7⟩ := ho
  have h8 := (hA.2 (c / 2) (by omega) h2).2.2.1
  have e : ∀ p, 0 ≤ p → p ≤ f (97 + 14 * w) → L p = L' p := by
    intro p a1 a2
    rcases lst_u (by omega) (by omega) hA hw h h' p a1 a2 with h | h
    · omega
    · exact h.1
  exact ⟨h1, h2, h3, h4, by rw [← e _ (by omega) h4, ← e p hp.1 hp.2]; exact h5, h6, h7⟩
theorem pln_u {f : Int → Int} {w x n n' : Int} {c c' : Int → Int} (hA : StAll f) (hw : WdOk f w) (h : Pln f w x c n) (h' : Pln f w x c' n') : n = n' ∧ ∀ i, 0 ≤ i → i < n → c i = c' i := by
  obtain ⟨L, q, h1, h2, h3, ⟨h4, h5⟩, h6⟩ := h
  obtain ⟨L', q', g1, g2, g3, ⟨g4, g5⟩, g6⟩ := h'
  have hw3 := hw.2.2.1
  have en : n = n' := by
    rcases lst_u (by omega) (by omega) hA hw h1 g1 0 (by omega) (by omega) with h | h
    · omega
    · omega
  refine ⟨en, ?_⟩
  subst en
  have low : ∀ i, 0 ≤ i → i < n → q i = q' i → (0 ≤ q i ∧ q i ≤ f (97 + 14 * w)) → c i = c' i := by
    intro i a1 a2 a3 a4
    have b1 := (h5 i a1 a2).1
    have b2 := (g5 i a1 a2).1
    rw [← a3] at b2
    rcases Int.lt_trichotomy (c i) (c' i) with h | h | h
    · exact absurd (ok1_L hA hw h1 g1 a4 b1.1) (b2.2 _ b1.1.1 h)
    · exact h
    · exact absurd (ok1_L hA hw g1 h1 a4 b2.1) (b1.2 _ b2.1.1 h)
  have key : ∀ (k : Nat), (k : Int) ≤ n → q k = q' k ∧ 0 ≤ q k ∧ q k ≤ f (97 + 14 * w) := by
    intro k
    induction k with
    | zero => intro _; rw [show ((0 : Nat) : Int) = 0 from rfl]; exact ⟨by omega, by omega, by omega⟩
    | succ k ih =>
      intro hk
      obtain ⟨a1, a2, a3⟩ := ih (by omega)
      have b1 := h5 k (by omega) (by omega)
      have b2 := g5 k (by omega) (by omega)
      have e := low k (by omega) (by omega) a1 ⟨a2, a3⟩
      have b3 := b1.1.1.2.2.2.1
      have b4 := (hA.2 (c k / 2) (by have := b1.1.1.1; omega) b1.1.1.2.1).2.2.1
      rw [show ((k + 1 : Nat) : Int) = (k : Int) + 1 by omega, b1.2, b2.2, a1, e]
      rw [a1, e] at b3
      rw [e] at b4
      exact ⟨rfl, by omega, b3⟩
  intro i h0 hi
  obtain ⟨k, rfl⟩ := Int.eq_ofNat_of_zero_le h0
  obtain ⟨a1, a2, a3⟩ := key k (by omega)
  exact low _ h0 hi a1 ⟨a2, a3⟩
