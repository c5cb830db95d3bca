/-! orders of the words -/
noncomputable def sqN (f t : Int → Int) : Nat → Int → Int
  | 0 => f
  | k + 1 => wrote (sqN f t k) (t k)
/-- the row once the first p words of t are written -/
noncomputable def sq (f t : Int → Int) (p : Int) : Int → Int := sqN f t p.toNat
theorem sq_0 {f t : Int → Int} : sq f t 0 = f := rfl
theorem sq_s {f t : Int → Int} {k : Int} (h : 0 ≤ k) : sq f t (k + 1) = wrote (sq f t k) (t k) := by
  obtain ⟨n, rfl⟩ := Int.eq_ofNat_of_zero_le h
  rfl
theorem sqN_c {f t t' : Int → Int} : ∀ n : Nat, (∀ i : Int, 0 ≤ i → i < n → t i = t' i) → sqN f t n = sqN f t' n
  | 0, _ => rfl
  | n + 1, h => by
    show wrote (sqN f t n) (t n) = wrote (sqN f t' n) (t' n)
    rw [sqN_c n (fun i a b => h i a (by omega)), h n (by omega) (by omega)]
theorem sq_c {f t t' : Int → Int} {p : Int} (h : ∀ i, 0 ≤ i → i < p → t i = t' i) : sq f t p = sq f t' p := sqN_c _ (fun i a b => h i a (by omega))
theorem car_6 {col : Int} {f c : Int → Int} : ∀ n : Nat, (∀ i : Int, 0 ≤ i → i < n → 0 ≤ c i) → f 6 ≤ carN col c f n 6
  | 0, _ => Int.le_refl _
  | n + 1, h => by
    have h1 := car_6 (col := col) (f := f) (c := c) n (fun i a b => h i a (by omega))
    have h2 := h n (by omega) (by omega)
    have e : prs1 col (c n / 2) (carN col c f n) 6 = carN col c f n 6 + (if carN col c f n (7 + 9 * (c n / 2) + 6) ≠ col ∧ carN col c f n (7 + 9 * (c n / 2) + 6) ≠ -1 then 1 else 0) := by
      unfold prs1
      rw [if_neg (by omega), if_neg (by omega), if_neg (by omega), if_neg (by omega), if_neg (by omega), if_pos rfl]
    show f 6 ≤ prs1 col (c n / 2) (carN col c f n) 6
    rw [e]
    split <;> omega
theorem wrote_6 {B w : Int} {f : Int → Int} (hR : RowOk B f) (hw : 0 ≤ w ∧ w < f 1) : f 6 ≤ wrote f w 6 := by
  have h1 := hR.2.1.2 w hw.1 hw.2
  by_cases h : Can f w
  · obtain ⟨z, hz⟩ := h
    rw [wrote_t hR.1 h1.1 hz]
    have h2 := wrt_pl hR.1 h1.1 hz
    exact car_6 _ (fun i a b => (h2.2 i a (by omega)).1)
  · rw [wrote_f h]
    exact Int.le_refl _
theorem wrote_out {B w : Int} {f : Int → Int} (hR : RowOk B f) (hw : 0 ≤ w ∧ w < f 1) {k : Int} (hk : ¬ (0 ≤ k ∧ k < 195)) : wrote f w k = f k := by
  have h1 := hR.2.1.2 w hw.1 hw.2
  by_cases h : Can f w
  · obtain ⟨z, hz⟩ := h
    rw [wrote_t hR.1 h1.1 hz]
    have h2 := wrt_pl hR.1 h1.1 hz
    exact car_out (B := B) h2.2 hR.1.1.2 h2.1.1 k hk
  · rw [wrote_f h]
theorem sq_row {B p : Int} {f t : Int → Int} (hR : RowOk B f) (hB : 0 ≤ B) (ht : ∀ k, 0 ≤ k → k < p → 0 ≤ t k ∧ t k < f 1) : ∀ k, 0 ≤ k → k ≤ p → RowOk (B + 12 * k) (sq f t k) ∧ InkOnly f (sq f t k) ∧ ∀ q, ¬ (0 ≤ q ∧ q < 195) → sq f t k q = f q := by
  intro k h0
  obtain ⟨n, rfl⟩ := Int.eq_ofNat_of_zero_le h0
  clear h0
  induction n with
  | zero => intro _; exact ⟨row_le (by omega) hR, InkOnly.rf, fun _ _ => rfl⟩
  | succ n ih =>
    intro hk
    obtain ⟨g1, g2, g3⟩ := ih (by omega)
    have h1 := ht n (by omega) (by omega)
    rw [show ((n + 1 : Nat) : Int) = (n : Int) + 1 by omega, sq_s (by omega)]
    have hw : 0 ≤ t n ∧ t n < sq f t n 1 := ⟨h1.1, by rw [g2.2.1]; exact h1.2⟩
    have h2 := wrote_row g1 (by omega) hw
    exact ⟨row_le (by omega) h2.1, g2.tr h2.2, fun q hq => (wrote_out g1 hw hq).trans (g3 q hq)⟩
theorem sq_6 {B p : Int} {f t : Int → Int} (hR : RowOk B f) (hB : 0 ≤ B) (ht : ∀ k, 0 ≤ k → k < p → 0 ≤ t k ∧ t k < f 1) {j : Int} (hj : 0 ≤ j) : ∀ k, j ≤ k → k ≤ p → sq f t j 6 ≤ sq f t k 6 := by
  intro k hk
  obtain ⟨n, hn⟩ := Int.eq_ofNat_of_zero_le (show 0 ≤ k - j by omega)
  have e : k = j + n := by omega
  subst e
  clear hk hn
  induction n with
  | zero => intro _; rw [show j + ((0 : Nat) : Int) = j by omega]; exact Int.le_refl _
  | succ n ih =>
    intro h
    have h1 := ih (by omega)
    have h2 := ht (j + n) (by omega) (by omega)
    obtain ⟨g1, g2, -⟩ := sq_row hR hB ht (j + n) (by omega) (by omega)
    rw [show j + ((n + 1 : Nat) : Int) = j + (n : Int) + 1 by omega, sq_s (by omega)]
    have h3 := wrote_6 g1 (w := t (j + n)) ⟨h2.1, by rw [g2.2.1]; exact h2.2⟩
    omega
/-- the first p words of t can be written one after the other -/
def OrdP (f t : Int → Int) (p : Int) : Prop := ∀ k, 0 ≤ k → k < p → (0 ≤ t k ∧ t k < f 1) ∧ (∀ j, 0 ≤ j → j < k → ¬ t j = t k) ∧ Can (sq f t k) (t k)
theorem OrdP_c {f t t' : Int → Int} {p : Int} (h : ∀ i, 0 ≤ i → i < p → t i = t' i) (ho : OrdP f t p) : OrdP f t' p := by
  intro k h1 h2
  obtain ⟨a1, a2, a3⟩ := ho k h1 h2
  rw [sq_c (fun i a b => h i a (by omega)), h k h1 h2] at a3
  rw [h k h1 h2] at a1
  exact ⟨a1, fun j b1 b2 => by rw [← h j b1 (by omega), ← h k h1 h2]; exact a2 j b1 b2, a3⟩
noncomputable def cst (f t : Int → Int) : Int := sq f t (f 1) 6 - f 6
/-- s comes ahead of the place (t, p, u) -/
def Bef (s t : Int → Int) (p u : Int) : Prop := (∃ j, 0 ≤ j ∧ j < p ∧ (∀ i, 0 ≤ i → i < j → s i = t i) ∧ s j < t j) ∨ ((∀ i, 0 ≤ i → i < p → s i = t i) ∧ s p < u)
def LexL (s t : Int → Int) (n : Int) : Prop := ∃ j, 0 ≤ j ∧ j < n ∧ (∀ i, 0 ≤ i → i < j → s i = t i) ∧ s j < t j
/-- b is the best order ahead of the place (t, p, u), of c cleanings; c -1: there is none -/
def StO (f t : Int → Int) (p u : Int) (b : Int → Int) (c : Int) : Prop := (c = -1 ∧ ∀ s, OrdP f s (f 1) → ¬ Bef s t p u) ∨ (0 ≤ c ∧ OrdP f b (f 1) ∧ Bef b t p u ∧ c = cst f b ∧ ∀ s, OrdP f s (f 1) → Bef s t p u → c ≤ cst f s ∧ (cst f s = c → ¬ LexL s b (f 1)))
theorem bef_c {s t t' : Int → Int} {p u : Int} (h : ∀ i, 0 ≤ i → i < p → t i = t' i) (hb : Bef s t p u) : Bef s t' p u := by
  rcases hb with ⟨j, h1, h2, h3, h4⟩ | ⟨h1, h2⟩
  · exact Or.inl ⟨j, h1, h2, fun i a b => (h3 i a b).trans (h i a (by omega)), by rw [← h j h1 h2]; exact h4⟩
  · exact Or.inr ⟨fun i a b => (h1 i a b).trans (h i a b), h2⟩
theorem StO_mv {f t t' : Int → Int} {p u p' u' c : Int} {b : Int → Int} (h1 : ∀ s, OrdP f s (f 1) → (Bef s t p u ↔ Bef s t' p' u')) (h : StO f t p u b c) : StO f t' p' u' b c := by
  rcases h with ⟨a1, a2⟩ | ⟨a1, a2, a3, a4, a5⟩
  · exact Or.inl ⟨a1, fun s hs hb => a2 s hs ((h1 s hs).mpr hb)⟩
  · exact Or.inr ⟨a1, a2, (h1 b a2).mp a3, a4, fun s hs hb => a5 s hs ((h1 s hs).mpr hb)⟩
theorem StO_c {f t t' : Int → Int} {p u c : Int} {b : Int → Int} (h : ∀ i, 0 ≤ i → i < p → t i = t' i) (hs : StO f t p u b c) : StO f t' p u b c :=
  StO_mv (fun _ _ => ⟨bef_c h, bef_c (fun i a b => (h i a b).symm)⟩) hs
/-- down into the place behind -/
theorem StO_dn {f t : Int → Int} {p u c : Int} {b : Int → Int} (hp : 0 ≤ p ∧ p + 1 < f 1) (hu : t p = u) (h : StO f t p u b c) : StO f t (p + 1) 0 b c := by
  refine StO_mv (fun s hs => ⟨fun hb => ?_, fun hb => ?_⟩) h
  · rcases hb with ⟨j, h1, h2, h3, h4⟩ | ⟨h1, h2⟩
    · exact Or.inl ⟨j, h1, by omega, h3, h4⟩
    · exact Or.inl ⟨p, hp.1, by omega, h1, by omega⟩
  · rcases hb with ⟨j, h1, h2, h3, h4⟩ | ⟨h1, h2⟩
    · by_cases e : j = p
      · subst e; exact Or.inr ⟨h3, by omega⟩
      · exact Or.inl ⟨j, h1, by omega, h3, h4⟩
    · have := (hs (p + 1) (by omega) hp.2).1
      omega
/-- back from the place behind -/
theorem StO_up {f t : Int → Int} {p u c : Int} {b : Int → Int} (hp : 0 ≤ p ∧ p + 1 < f 1) (hu : t p = u) (h : StO f t (p + 1) (f 1) b c) : StO f t p (u + 1) b c := by
  refine StO_mv (fun s hs => ⟨fun hb => ?_, fun hb => ?_⟩) h
  · rcases hb with ⟨j, h1, h2, h3, h4⟩ | ⟨h1, h2⟩
    · by_cases e : j = p
      · subst e; exact Or.inr ⟨h3, by omega⟩
      · exact Or.inl ⟨j, h1, by omega, h3, h4⟩
    · exact Or.inr ⟨fun i a b => h1 i a (by omega), by rw [h1 p hp.1 (by omega)]; omega⟩
  · rcases hb with ⟨j, h1, h2, h3, h4⟩ | ⟨h1, h2⟩
    · exact Or.inl ⟨j, h1, by omega, h3, h4⟩
    · by_cases e : s p = u
      · refine Or.inr ⟨fun i a b => ?_, ((hs (p + 1) (by omega) hp.2).1).2⟩
        by_cases e2 : i = p
        · subst e2; omega
        · exact h1 i a (by omega)
      · exact Or.inl ⟨p, hp.1, by omega, h1, by omega⟩
theorem bef_s {s t : Int → Int} {p u : Int} (hb : Bef s t p (u + 1)) : Bef s t p u ∨ ((∀ i, 0 ≤ i → i < p → s i = t i) ∧ s p = u) := by
  rcases hb with h | ⟨h1, h2⟩
  · exact Or.inl (Or.inl h)
  · by_cases e : s p = u
    · exact Or.inr ⟨h1, e⟩
    · exact Or.inl (Or.inr ⟨h1, by omega⟩)
theorem bef_1 {s t : Int → Int} {p u : Int} (hb : Bef s t p u) : Bef s t p (u + 1) := by
  rcases hb with h | ⟨h1, h2⟩
  · exact Or.inl h
  · exact Or.inr ⟨h1, by omega⟩
theorem bef_lex {b s t : Int → Int} {p u n : Int} (hp : 0 ≤ p) (hb : Bef b t p u) (h1 : ∀ i, 0 ≤ i → i < p → s i = t i) (h2 : u ≤ s p) : ¬ LexL s b n := by
  rintro ⟨j, a1, a2, a3, a4⟩
  rcases hb with ⟨q, b1, b2, b3, b4⟩ | ⟨b1, b2⟩
  · rcases Int.lt_trichotomy j q with h | h | h
    · have e1 := b3 j a1 h
      have e2 := h1 j a1 (by omega)
      omega
    · subst h
      have e2 := h1 j a1 b2
      omega
    · have e1 := a3 q b1 h
      have e2 := h1 q b1 b2
      omega
  · rcases Int.lt_trichotomy j p with h | h | h
    · have e1 := b1 j a1 h
      have e2 := h1 j a1 h
      omega
    · subst h; omega
    · have e1 := a3 p hp h
      omega
/-- the word u at place p leads to no better order -/
theorem StO_skip {f t : Int → Int} {p u c : Int} {b : Int → Int} (hp : 0 ≤ p) (h : StO f t p u b c) (hn : ∀ s, OrdP f s (f 1) → (∀ i, 0 ≤ i → i < p → s i = t i) → s p = u → c ≠ -1 ∧ c ≤ cst f s) : StO f t p (u + 1) b c := by
  rcases h with ⟨a1, a2⟩ | ⟨a1, a2, a3, a4, a5⟩
  · refine Or.inl ⟨a1, fun s hs hb => ?_⟩
    rcases bef_s hb with hb | ⟨hb1, hb2⟩
    · exact a2 s hs hb
    · exact (hn s hs hb1 hb2).1 a1
  · refine Or.inr ⟨a1, a2, bef_1 a3, a4, fun s hs hb => ?_⟩
    rcases bef_s hb with hb | ⟨hb1, hb2⟩
    · exact a5 s hs hb
    · exact ⟨(hn s hs hb1 hb2).2, fun _ => bef_lex hp a3 hb1 (by omega)⟩
/-- the word u at the last place makes a better order -/
theorem StO_new {f t : Int → Int} {p u c c' : Int} {b b' : Int → Int} (hp : 0 ≤ p ∧ p + 1 = f 1) (h : StO f t p u b c) (ho : OrdP f b' (f 1)) (hb' : ∀ i, 0 ≤ i → i < p → b' i = t i) (hu : b' p = u) (hc : c' = cst f b') (h0 : 0 ≤ c') (hl : c = -1 ∨ c' < c) : StO f t p (u + 1) b' c' := by
  refine Or.inr ⟨h0, ho, Or.inr ⟨hb', by omega⟩, hc, fun s hs hb => ?_⟩
  rcases bef_s hb with hb | ⟨hb1, hb2⟩
  · rcases h with ⟨a1, a2⟩ | ⟨a1, a2, a3, a4, a5⟩
    · exact absurd hb (a2 s hs)
    · have := (a5 s hs hb).1
      exact ⟨by omega, fun e => by omega⟩
  · have e : ∀ i, 0 ≤ i → i < f 1 → s i = b' i := fun i a b => by
      by_cases e : i = p
      · subst e; omega
      · rw [hb1 i a (by omega), hb' i a (by omega)]
    have e2 : cst f s = cst f b' := by
      unfold cst
      rw [sq_c e]
    exact ⟨by omega, fun _ => fun ⟨j, q1, q2, q3, q4⟩ => by have := e j q1 q2; omega⟩
theorem StO_0 {f t b : Int → Int} (hn : 0 < f 1) : StO f t 0 0 b (-1) := by
  refine Or.inl ⟨rfl, fun s hs hb => ?_⟩
  rcases hb with ⟨j, h1, h2, h3, h4⟩ | ⟨h1, h2⟩
  · omega
  · have := (hs 0 (by omega) hn).1
    omega
/-- the best order b, of c cleanings; c -1: there is no order -/
def BestO (f b : Int → Int) (c : Int) : Prop := (c = -1 ∧ ∀ s, ¬ OrdP f s (f 1)) ∨ (0 ≤ c ∧ OrdP f b (f 1) ∧ c = cst f b ∧ ∀ s, OrdP f s (f 1) → c ≤ cst f s ∧ (cst f s = c → ¬ LexL s b (f 1)))
theorem StO_e {f t b : Int → Int} {c : Int} (hn : 0 < f 1) (h : StO f t 0 (f 1) b c) : BestO f b c := by
  have key : ∀ s, OrdP f s (f 1) → Bef s t 0 (f 1) := fun s hs => Or.inr ⟨fun i a b => by omega, ((hs 0 (by omega) hn).1).2⟩
  rcases h with ⟨a1, a2⟩ | ⟨a1, a2, a3, a4, a5⟩
  · exact Or.inl ⟨a1, fun s hs => a2 s hs (key s hs)⟩
  · exact Or.inr ⟨a1, a2, a4, fun s hs => a5 s hs (key s hs)⟩
theorem BestO_0 {f b : Int → Int} (hn : f 1 = 0) : BestO f b 0 := by
  have h0 : ∀ s, cst f s = 0 := fun s => by
    unfold cst
    rw [hn, sq_0]
    omega
  exact Or.inr ⟨by omega, fun k h1 h2 => by omega, (h0 b).symm, fun s _ => ⟨by rw [h0]; omega, fun _ => fun ⟨j, q1, q2, _⟩ => by omega⟩⟩
theorem lex_eq {s t : Int → Int} {n : Int} (h1 : ¬ LexL s t n) (h2 : ¬ LexL t s n) : ∀ i, 0 ≤ i → i < n → s i = t i := by
  have key : ∀ k : Nat, ∀ i : Int, 0 ≤ i → i < k → i < n → s i = t i := by
    intro k
    induction k with
    | zero => intro i a b _; omega
    | succ k ih =>
      intro i a b c
      by_cases e : i = k
      · rcases Int.lt_trichotomy (s i) (t i) with h | h | h
        · exact absurd ⟨i, a, c, fun j q1 q2 => ih j q1 (by omega) (by omega), h⟩ h1
        · exact h
        · exact absurd ⟨i, a, c, fun j q1 q2 => (ih j q1 (by omega) (by omega)).symm, h⟩ h2
      · exact ih i a (by omega) c
  intro i a b
  exact key (i.toNat + 1) i a (by omega) b
theorem bestO_u {f b b' : Int → Int} {c c' : Int} (h : BestO f b c) (h' : BestO f b' c') : c = c' ∧ (c ≠ -1 → ∀ i, 0 ≤ i → i < f 1 → b i = b' i) := by
  rcases h with ⟨a1, a2⟩ | ⟨a1, a2, a3, a4⟩
  · rcases h' with ⟨g1, g2⟩ | ⟨g1, g2, g3, g4⟩
    · exact ⟨by omega, fun h => absurd a1 h⟩
    · exact absurd g2 (a2 _)
  · rcases h' with ⟨g1, g2⟩ | ⟨g1, g2, g3, g4⟩
    · exact absurd a2 (g2 _)
    · have e1 := a4 _ g2
      have e2 := g4 _ a2
      have e : c = c' := by omega
      exact ⟨e, fun _ => lex_eq (e2.2 (by omega)) (e1.2 (by omega))⟩
/-! the reference's search, step by step -/
def OI (f t : Int → Int) (p : Int) (h : Int → Int) : Prop := OrdP f t p ∧ ∀ q k, 0 ≤ q → q ≤ p → 0 ≤ k → k < 195 → h (195 * q + k) = sq f t q k
def OSt (f t h b : Int → Int) (c p : Int) : Prop := (p = -1 ∧ StO f t 0 (f 1) b c) ∨ ((0 ≤ p ∧ p < f 1) ∧ (-1 ≤ t p ∧ t p < f 1) ∧ OI f t p h ∧ StO f t p (t p + 1) b c)
def OSu (f t h b : Int → Int) (c p : Int) : Prop := (0 ≤ p ∧ p < f 1) ∧ (0 ≤ t p ∧ t p ≤ f 1) ∧ OI f t p h ∧ StO f t p (t p) b c
theorem OI_c {f t t' : Int → Int} {p : Int} {h : Int → Int} (e : ∀ i, 0 ≤ i → i < p → t i = t' i) (ho : OI f t p h) : OI f t' p h :=
  ⟨OrdP_c e ho.1, fun q k a b c d => by rw [ho.2 q k a b c d, sq_c (fun i a b => e i a (by omega))]⟩
theorem ost_up {f t t' h b : Int → Int} {c p : Int} (hs : OSt f t h b c p) (hp : 0 ≤ p) (ht : t' = uf t p (t p + 1)) : OSu f t' h b c p := by
  rcases hs with ⟨a1, -⟩ | ⟨a1, a2, a3, a4⟩
  · omega
  · have e : ∀ i, 0 ≤ i → i < p → t i = t' i := fun i a b => by rw [ht, uf_ne (by omega)]
    have e2 : t' p = t p + 1 := by rw [ht]; exact uf_eq _ _ _
    refine ⟨a1, by omega, OI_c e a3, ?_⟩
    rw [e2]
    exact StO_c e a4
theorem osu_pop {f t h b : Int → Int} {c p p' : Int} (hs : OSu f t h b c p) (hu : t p = f 1) (hp : p' = p - 1) : OSt f t h b c p' := by
  subst hp
  obtain ⟨a1, a2, a3, a4⟩ := hs
  rw [hu] at a4
  by_cases e : p = 0
  · subst e
    exact Or.inl ⟨rfl, a4⟩
  · have h1 := a3.1 (p - 1) (by omega) (by omega)
    refine Or.inr ⟨by omega, by omega, ⟨fun k q1 q2 => a3.1 k q1 (by omega), fun q k q1 q2 => a3.2 q k q1 (by omega)⟩, ?_⟩
    rw [show p = p - 1 + 1 by omega] at a4
    exact StO_up (by omega) rfl a4
theorem osu_used {f t h b : Int → Int} {c p : Int} (hs : OSu f t h b c p) (hu : ¬ t p = f 1) (hn : ¬ ∀ j, 0 ≤ j → j < p → ¬ t j = t p) : OSt f t h b c p := by
  obtain ⟨a1, a2, a3, a4⟩ := hs
  refine Or.inr ⟨a1, by omega, a3, StO_skip a1.1 a4 (fun s q1 q2 q3 => absurd (fun j b1 b2 => ?_) hn)⟩
  have h1 := (q1 p a1.1 a1.2).2.1 j b1 b2
  rw [q2 j b1 b2, q3] at h1
  exact h1
theorem osu_cant {f t h b : Int → Int} {c p : Int} (hs : OSu f t h b c p) (hu : ¬ t p = f 1) (hn : ¬ Can (sq f t p) (t p)) : OSt f t h b c p := by
  obtain ⟨a1, a2, a3, a4⟩ := hs
  refine Or.inr ⟨a1, by omega, a3, StO_skip a1.1 a4 (fun s q1 q2 q3 => absurd ?_ hn)⟩
  have h1 := (q1 p a1.1 a1.2).2.2
  rw [q3, sq_c q2] at h1
  exact h1
theorem ord_rng {f t : Int → Int} {p : Int} (h : OrdP f t p) : ∀ k, 0 ≤ k → k < p → 0 ≤ t k ∧ t k < f 1 := fun k a b => (h k a b).1
theorem osu_ord {f t h b : Int → Int} {c p : Int} (hs : OSu f t h b c p) (hu : ¬ t p = f 1) (hd : ∀ j, 0 ≤ j → j < p → ¬ t j = t p) (hn : Can (sq f t p) (t p)) : OrdP f t (p + 1) := by
  obtain ⟨a1, a2, a3, a4⟩ := hs
  intro k b1 b2
  by_cases e : k = p
  · subst e
    exact ⟨by omega, hd, hn⟩
  · exact a3.1 k b1 (by omega)
theorem osu_cut {f t h b : Int → Int} {c p B : Int} (hR : RowOk B f) (hB : 0 ≤ B) (hs : OSu f t h b c p) (hu : ¬ t p = f 1) (h0 : c ≠ -1) (hc : c ≤ sq f t (p + 1) 6 - f 6) : OSt f t h b c p := by
  obtain ⟨a1, a2, a3, a4⟩ := hs
  refine Or.inr ⟨a1, by omega, a3, StO_skip a1.1 a4 (fun s q1 q2 q3 => ⟨h0, ?_⟩)⟩
  have h1 := sq_6 hR hB (ord_rng q1) (show 0 ≤ p + 1 by omega) (f 1) (by omega) (Int.le_refl _)
  rw [sq_c (p := p + 1) (t' := t) (fun i b1 b2 => by
    by_cases e : i = p
    · subst e; exact q3
    · exact q2 i b1 (by omega))] at h1
  unfold cst
  omega
theorem osu_best {f t h b b' : Int → Int} {c c' p B : Int} (hR : RowOk B f) (hB : 0 ≤ B) (hs : OSu f t h b c p) (ho : OrdP f t (p + 1)) (hp : p = f 1 - 1) (hb : ∀ i, 0 ≤ i → i < f 1 → b' i = t i) (hc : c' = sq f t (p + 1) 6 - f 6) (hl : c = -1 ∨ c' < c) : OSt f t h b' c' p := by
  obtain ⟨a1, a2, a3, a4⟩ := hs
  have h2 := (ho p a1.1 (by omega)).1
  rw [show p + 1 = f 1 by omega] at ho hc
  have h1 := sq_6 hR hB (ord_rng ho) (show (0 : Int) ≤ 0 by omega) (f 1) (by omega) (Int.le_refl _)
  rw [sq_0] at h1
  refine Or.inr ⟨a1, by omega, a3, StO_new (by omega) a4 (OrdP_c (fun i q1 q2 => (hb i q1 q2).symm) ho) (fun i q1 q2 => hb i q1 (by omega)) (hb p a1.1 a1.2) ?_ (by omega) hl⟩
  unfold cst
  rw [hc, sq_c hb]
theorem osu_push {f t t' h h' b : Int → Int} {c p p' : Int} (hs : OSu f t h b c p) (ho : OrdP f t (p + 1)) (hp : ¬ p = f 1 - 1) (hp' : p' = p + 1) (ht : t' = uf t p' (-1)) (hh : h' = rcp (sq f t (p + 1)) 0 h (195 * p') 195) : OSt f t' h' b c p' := by
  subst hp'
  obtain ⟨a1, a2, a3, a4⟩ := hs
  have e : ∀ i, 0 ≤ i → i < p + 1 → t i = t' i := fun i q1 q2 => by rw [ht, uf_ne (by omega)]
  have e2 : t' (p + 1) = -1 := by rw [ht]; exact uf_eq _ _ _
  refine Or.inr ⟨by omega, by omega, ⟨OrdP_c e ho, fun q k q1 q2 q3 q4 => ?_⟩, ?_⟩
  · rw [← sq_c (t := t) (fun i b1 b2 => e i b1 (by omega)), hh]
    by_cases e3 : q = p + 1
    · subst e3
      rw [rcp_in (by omega)]
      congr 1; omega
    · rw [rcp_out (by omega)]
      exact a3.2 q k q1 (by omega) q3 q4
  · rw [e2]
    exact StO_dn (by omega) (by rw [← e p a1.1 (by omega)]) (StO_c (fun i q1 q2 => e i q1 (by omega)) a4)
/-- the row that is picked -/
theorem osu_row {f t h b g : Int → Int} {c p B : Int} (hR : RowOk B f) (hB : 0 ≤ B) (hs : OSu f t h b c p) (hg : ∀ k, ¬ (0 ≤ k ∧ k < 195) → g k = f k) : rcp h (195 * p) g 0 195 = sq f t p := by
  obtain ⟨a1, a2, a3, a4⟩ := hs
  have h1 := (sq_row hR hB (ord_rng a3.1) p a1.1 (Int.le_refl _)).2.2
  funext k
  by_cases hk : 0 ≤ k ∧ k < 195
  · rw [rcp_in (by omega), show 195 * p + (k - 0) = 195 * p + k by omega]
    exact a3.2 p k a1.1 (Int.le_refl _) hk.1 hk.2
  · rw [rcp_out (by omega), hg k hk, h1 k hk]
/-- how far the search is -/
def msN (n : Int) (t : Int → Int) : Nat → Nat
  | 0 => 0
  | k + 1 => msN n t k + (n - t k).toNat * 9 ^ (7 - k)
def ms (n : Int) (t : Int → Int) (p : Int) : Nat := msN n t (p + 1).toNat
theorem msN_c {n : Int} {t t' : Int → Int} : ∀ k : Nat, (∀ i : Int, 0 ≤ i → i < k → t i = t' i) → msN n t k = msN n t' k
  | 0, _ => rfl
  | k + 1, h => by
    show msN n t k + (n - t k).toNat * 9 ^ (7 - k) = msN n t' k + (n - t' k).toNat * 9 ^ (7 - k)
    rw [msN_c k (fun i a b => h i a (by omega)), h k (by omega) (by omega)]
theorem ms_up {n p : Int} {t t' : Int → Int} (hp : 0 ≤ p ∧ p ≤ 6) (ht : t' = uf t p (t p + 1)) (hn : t p < n) : ms n t' p + 9 ^ (7 - p.toNat) = ms n t p := by
  obtain ⟨k, rfl⟩ := Int.eq_ofNat_of_zero_le hp.1
  unfold ms
  rw [show ((k : Int) + 1).toNat = k + 1 by omega, Int.toNat_natCast]
  show msN n t' k + (n - t' k).toNat * 9 ^ (7 - k) + 9 ^ (7 - k) = msN n t k + (n - t k).toNat * 9 ^ (7 - k)
  have e : ∀ i : Int, 0 ≤ i → i < k → t' i = t i := fun i a b => by rw [ht, uf_ne (by omega)]
  have e2 : t' k = t k + 1 := by rw [ht]; exact uf_eq _ _ _
  rw [msN_c k e, e2, show (n - t k).toNat = (n - (t k + 1)).toNat + 1 by omega, Nat.add_mul]
  omega
theorem ms_lt {n p : Int} {t t' : Int → Int} (hp : 0 ≤ p ∧ p ≤ 6) (ht : t' = uf t p (t p + 1)) (hn : t p < n) : ms n t' p < ms n t p := by
  have := ms_up hp ht hn
  have h2 : 0 < 9 ^ (7 - p.toNat) := Nat.pow_pos (by decide)
  omega
theorem ms_pop {n p p' : Int} {t t' : Int → Int} (hp : 0 ≤ p ∧ p ≤ 6) (ht : t' = uf t p (t p + 1)) (hn : t p < n) (hp' : p' = p - 1) : ms n t' p' < ms n t p := by
  have h1 := ms_lt hp ht hn
  subst hp'
  obtain ⟨k, rfl⟩ := Int.eq_ofNat_of_zero_le hp.1
  have h2 : ms n t' ((k : Int) - 1) ≤ ms n t' k := by
    unfold ms
    rw [show ((k : Int) + 1).toNat = k + 1 by omega, show ((k : Int) - 1 + 1).toNat = k by omega]
    show msN n t' k ≤ msN n t' k + (n - t' k).toNat * 9 ^ (7 - k)
    omega
  omega
theorem ms_push {n p p' : Int} {t t' t2 : Int → Int} (hp : 0 ≤ p ∧ p ≤ 5) (ht : t' = uf t p (t p + 1)) (hn : t p < n) (hn7 : n ≤ 7) (hp' : p' = p + 1) (ht2 : t2 = uf t' p' (-1)) : ms n t2 p' < ms n t p := by
  have h1 := ms_up ⟨hp.1, by omega⟩ ht hn
  subst hp'
  obtain ⟨k, rfl⟩ := Int.eq_ofNat_of_zero_le hp.1
  have e : ∀ i : Int, 0 ≤ i → i < ((k + 1 : Nat) : Int) → t2 i = t' i := fun i a b => by rw [ht2, uf_ne (by omega)]
  have e2 : t2 ((k + 1 : Nat) : Int) = -1 := by rw [ht2]; exact uf_at _ _ (by omega)
  have h2 : ms n t2 ((k : Int) + 1) = ms n t' k + (n + 1).toNat * 9 ^ (7 - (k + 1)) := by
    unfold ms
    rw [show ((k : Int) + 1 + 1).toNat = k + 1 + 1 by omega, show ((k : Int) + 1).toNat = k + 1 by omega]
    show msN n t2 (k + 1) + (n - t2 ((k + 1 : Nat) : Int)).toNat * 9 ^ (7 - (k + 1)) = _
    rw [msN_c (k + 1) e, e2, show n - -1 = n + 1 by omega]
  have h3 : 9 ^ (7 - ((k : Int)).toNat) = 9 * 9 ^ (7 - (k + 1)) := by
    rw [Int.toNat_natCast, show 7 - k = (7 - (k + 1)) + 1 by omega, Nat.pow_succ, Nat.mul_comm]
  have h4 : 0 < 9 ^ (7 - (k + 1)) := Nat.pow_pos (by decide)
  have h5 : (n + 1).toNat * 9 ^ (7 - (k + 1)) ≤ 8 * 9 ^ (7 - (k + 1)) := Nat.mul_le_mul_right _ (by omega)
  omega
