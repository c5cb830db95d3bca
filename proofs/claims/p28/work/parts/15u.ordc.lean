/-! the class's search for an order -/
theorem prL_io {f g : Int → Int} (io : InkOnly f g) {s : Int} (hs : 0 ≤ s ∧ s ≤ 9) : ∀ k, 0 ≤ k → k ≤ 5 → g (7 + 9 * s + k) = f (7 + 9 * s + k) := fun k a b => io.2.2.2.2.1 s k hs.1 hs.2 a b
theorem io_sym {f g : Int → Int} (io : InkOnly f g) : InkOnly g f := ⟨io.1.symm, io.2.1.symm, io.2.2.1.symm, io.2.2.2.1.symm, fun s k a b c d => (io.2.2.2.2.1 s k a b c d).symm, fun k a => (io.2.2.2.2.2 k a).symm⟩
theorem io_7 {f g : Int → Int} (io : InkOnly f g) {s : Int} (hs : 0 ≤ s ∧ s ≤ 9) : g (7 + 9 * s) = f (7 + 9 * s) := by
  have := io.2.2.2.2.1 s 0 hs.1 hs.2 (by omega) (by omega)
  rwa [Int.add_zero] at this
theorem may_io {f g : Int → Int} {w x p s : Int} (io : InkOnly f g) (hA : StAll f) (hw : WdOk f w) (hp : 0 ≤ p) (h : May f w x p s) : May g w x p s := by
  obtain ⟨h1, h2, h3, h4, h5⟩ := h
  have hA1 := hA.1
  have hs := (hA.2 s h1 h2).2.2.2.1
  exact ⟨h1, by rw [io.1]; exact h2, h3, by rw [io_7 io (by omega), io.2.2.2.2.2 _ (by have := hw.1; omega)]; exact h4, prs_c (prL_io io (by omega)) hs (fun k a b => io.2.2.2.2.2 _ (by have := hw.1; omega)) hw.2.2.2.1 hp h5⟩
theorem lst_io {N : Int} {f g : Int → Int} {w x : Int} {L : Int → Int} (io : InkOnly f g) (hA : StAll f) (hw : WdOk f w) (h : Lst N f w x 0 L) : Lst N g w x 0 L := by
  have hAg := io_st io hA
  have hwg : WdOk g w := WdOk_c (fun k a b => io.2.2.2.2.2 _ (by have := hw.1; omega)) hw
  have hA1 := hA.1
  have e97 : g (97 + 14 * w) = f (97 + 14 * w) := io.2.2.2.2.2 _ (by have := hw.1; omega)
  unfold Lst
  rw [e97]
  refine ⟨h.1, fun p a b => ?_⟩
  obtain ⟨h1, h2, h3⟩ := h.2 p a b
  refine ⟨?_, h2, fun s hs => ?_⟩
  · rcases h1 with h1 | ⟨s, hs, h1⟩
    · exact Or.inl h1
    · have := hs.1
      have := hs.2.1
      exact Or.inr ⟨s, may_io io hA hw a hs, by rw [io_7 io (by omega)]; exact h1⟩
  · have h4 := may_io (io_sym io) hAg hwg a hs
    have := h4.1
    have := h4.2.1
    rw [io_7 io (by omega)]
    exact h3 s h4
theorem cnt_io {f g : Int → Int} {s : Int} (io : InkOnly f g) (hs : StOk f s) (h : Cnt f s) : Cnt g s := cnt_st (prL_io io ⟨hs.1, hs.2.1⟩) hs.2.2.2.1 h
theorem ok1_io {f g : Int → Int} {w x p c : Int} {L : Int → Int} (io : InkOnly f g) (hA : StAll f) (hw : WdOk f w) (hp : 0 ≤ p) (h : Ok1 f w x L p c) : Ok1 g w x L p c := by
  obtain ⟨h1, h2, h3, h4, h5, h6, h7⟩ := h
  have hA1 := hA.1
  have hs := hA.2 (c / 2) (by omega) h2
  have e7 := io_7 io (s := c / 2) (by omega)
  have hw1 := hw.1
  have e97 : g (97 + 14 * w) = f (97 + 14 * w) := io.2.2.2.2.2 _ (by omega)
  exact ⟨h1, by rw [io.1]; exact h2, h3, by omega, by rw [e7]; exact h5, fun q => cnt_io io hs (h6 q), fit_c (prL_io io (by omega)) hs.2.2.2.1 (fun k a b => io.2.2.2.2.2 _ (by omega)) hw.2.2.2.1 hp h7⟩
theorem low1_io {f g : Int → Int} {w x p c : Int} {L : Int → Int} (io : InkOnly f g) (hA : StAll f) (hw : WdOk f w) (hp : 0 ≤ p) (h : Low1 f w x L p c) : Low1 g w x L p c :=
  ⟨ok1_io io hA hw hp h.1, fun b b1 b2 hb => h.2 b b1 b2 (ok1_io (io_sym io) (io_st io hA) (WdOk_c (fun k a b => io.2.2.2.2.2 _ (by have := hw.1; omega)) hw) hp hb)⟩
theorem pln_io {f g : Int → Int} {w x n : Int} {c : Int → Int} (io : InkOnly f g) (hA : StAll f) (hw : WdOk f w) (h : Pln f w x c n) : Pln g w x c n := by
  obtain ⟨L, q, h1, h2, h3, ⟨h4, h5⟩, h6⟩ := h
  have hw1 := hw.1
  have hA1 := hA.1
  have hq : ∀ k : Nat, (k : Int) ≤ n → 0 ≤ q k := by
    intro k
    induction k with
    | zero => intro _; rw [show ((0 : Nat) : Int) = 0 from rfl, h4]; exact Int.le_refl _
    | succ k ih =>
      intro hk
      have a := ih (by omega)
      have b := h5 k (by omega) (by omega)
      have b1 := b.1.1.1
      have b2 := b.1.1.2.1
      have d := (hA.2 (c k / 2) (by omega) b2).2.2.1
      rw [show ((k + 1 : Nat) : Int) = (k : Int) + 1 by omega, b.2]
      omega
  refine ⟨L, q, lst_io io hA hw h1, h2, h3, ⟨h4, fun j a b => ?_⟩, by rw [io.2.2.2.2.2 _ (by omega)]; exact h6⟩
  obtain ⟨k, rfl⟩ := Int.eq_ofNat_of_zero_le a
  have hj := h5 k a b
  have c1 := hj.1.1.1
  have c2 := hj.1.1.2.1
  exact ⟨low1_io io hA hw (hq k (by omega)) hj.1, by rw [io_7 io (by omega)]; exact hj.2⟩
theorem plnR_io {M : Nat → Int → Int} {p : Nat} {f g : Int → Int} {w x : Int} (io : InkOnly f g) (hA : StAll f) (hw : WdOk f w) (h : PlnR M p f w x) : PlnR M p g w x := by
  rcases h with ⟨h1, ⟨L, h2, h3⟩, h4⟩ | ⟨n, c, h1, h2⟩
  · exact Or.inl ⟨h1, ⟨L, lst_io io hA hw h2, h3⟩, h4⟩
  · exact Or.inr ⟨n, c, pln_io io hA hw h1, h2⟩
theorem ux_x {x y u : Int} (hx : 0 ≤ x ∧ x < 1024) (hy : 0 ≤ y ∧ y < 1024) (h : Ux x u) (h' : Ux y u) : x = y := bs_ext hx hy (fun s a b => by
  have e1 := h.2 (2 * s) (by omega) (by omega)
  have e2 := h'.2 (2 * s) (by omega) (by omega)
  rw [show 2 * s / 2 = s by omega] at e1 e2
  rw [← e1, ← e2])
/-- a word's plan that is kept, for the presses that were usable when it was found -/
def PlF (M : Nat → Int → Int) (x : Nat) (f : Int → Int) (w : Int) : Prop := M (x + 89) w = -1 ∨ ∃ y, (0 ≤ y ∧ y < 1024) ∧ Ux y (M (x + 89) w) ∧ PlnR M (x + 124 + 4 * w.toNat) f w y
def OTk (M : Nat → Int → Int) (x : Nat) (d : Int) (t : Int → Int) : Prop := (0 ≤ M (x + 86) 5 ∧ M (x + 86) 5 < 128) ∧ ∀ w, 0 ≤ w → w < 7 → (bs (M (x + 86) 5) w = true ↔ ∃ j, (0 ≤ j ∧ j < d) ∧ t j = w)
def OInk (M : Nat → Int → Int) (x : Nat) (f : Int → Int) (d : Int) (t : Int → Int) : Prop := ∀ k, 0 ≤ k → k ≤ d → InkR M (x + 92 + 4 * k.toNat) (sq f t k)
/-- the search below the words t 0 .. t (d - 1) -/
def OS (M : Nat → Int → Int) (x : Nat) (f : Int → Int) (d : Int) (t : Int → Int) : Prop := (∀ k, 0 ≤ k → k < d → M (x + 90) k = t k) ∧ OrdP f t d ∧ OInk M x f d t ∧ OTk M x d t ∧ ∀ w, 0 ≤ w → w < f 1 → PlF M x f w
def bcv (c h : Int) : Int := if c = -1 then -1 else c - h
/-- why a word doesn't come next -/
def AdvN (f t : Int → Int) (d w c : Int) : Prop := (¬ ∀ j, 0 ≤ j → j < d → ¬ t j = w) ∨ ¬ Can (sq f t d) w ∨ (¬ c = -1 ∧ c ≤ wrote (sq f t d) w 6)
theorem otk_n {M : Nat → Int → Int} {x : Nat} {d w : Int} {t : Int → Int} (h : OTk M x d t) (hw : 0 ≤ w ∧ w < 7) : (iA (iR (M (x + 86) 5) w) 1 ≠ 0 → ¬ ∀ j, 0 ≤ j → j < d → ¬ t j = w) ∧ (iA (iR (M (x + 86) 5) w) 1 = 0 → ∀ j, 0 ≤ j → j < d → ¬ t j = w) := by
  obtain ⟨h1, h2⟩ := h
  obtain ⟨b1, b2, b3⟩ := bs_bit (x := M (x + 86) 5) (s := w) (by omega) (by omega)
  refine ⟨fun h3 h4 => ?_, fun h3 j a b e => ?_⟩
  · obtain ⟨j, hj, e⟩ := (h2 w hw.1 hw.2).mp (b2 (by omega))
    exact h4 j hj.1 hj.2 e
  · have := b1 ((h2 w hw.1 hw.2).mpr ⟨j, ⟨a, b⟩, e⟩)
    omega
theorem otk_add {M M2 : Nat → Int → Int} {x : Nat} {d w : Int} {t : Int → Int} (h : OTk M x d t) (hd : 0 ≤ d) (hw : 0 ≤ w ∧ w < 7) (h2 : M2 (x + 86) 5 = iO (M (x + 86) 5) (iL 1 w)) : OTk M2 x (d + 1) (uf t d w) := by
  obtain ⟨h1, h3⟩ := h
  obtain ⟨g1, g2, g3⟩ := bs_or (x := M (x + 86) 5) (s := w) (by omega) (by omega)
  have e128 : iO (M (x + 86) 5) (iL 1 w) < 128 := by
    obtain ⟨a, ha⟩ := Int.eq_ofNat_of_zero_le h1.1
    obtain ⟨b, hb⟩ := Int.eq_ofNat_of_zero_le hw.1
    have hp : 2 ^ b < 2 ^ 7 := Nat.pow_lt_pow_right (by decide) (by omega)
    rw [ha, hb, iL_1 b (by omega), iO_n (by omega) (by omega)]
    have : a ||| 2 ^ b < 2 ^ 7 := Nat.or_lt_two_pow (by omega) hp
    omega
  refine ⟨by rw [h2]; omega, fun v a b => ?_⟩
  rw [h2, g3 v a (by omega), h3 v a b]
  constructor
  · rintro (⟨j, hj, e⟩ | e)
    · exact ⟨j, by omega, by rw [uf_ne (by omega)]; exact e⟩
    · exact ⟨d, by omega, by rw [uf_eq, e]⟩
  · rintro ⟨j, hj, e⟩
    by_cases q : j = d
    · subst q
      rw [uf_eq] at e
      exact Or.inr e.symm
    · rw [uf_ne q] at e
      exact Or.inl ⟨j, by omega, e⟩
theorem otk_del {M M2 : Nat → Int → Int} {x : Nat} {d w : Int} {t : Int → Int} (h : OTk M x (d + 1) (uf t d w)) (hd : 0 ≤ d) (hw : 0 ≤ w ∧ w < 7) (hn : ∀ j, 0 ≤ j → j < d → ¬ t j = w) (h2 : M2 (x + 86) 5 = iA (M (x + 86) 5) (iX (iL 1 w) (-1))) : OTk M2 x d t := by
  obtain ⟨h1, h3⟩ := h
  have hb := bs_1 (s := w) (by omega)
  obtain ⟨g1, g2, g3⟩ := bs_sub (x := M (x + 86) 5) (y := iL 1 w) (by omega) ⟨hb.1, hb.2.1⟩
  have e128 : iA (M (x + 86) 5) (iX (iL 1 w) (-1)) < 128 := by
    obtain ⟨a, ha⟩ := Int.eq_ofNat_of_zero_le h1.1
    obtain ⟨b, hb2⟩ := Int.eq_ofNat_of_zero_le (show 0 ≤ iL 1 w from hb.1)
    rw [ha, hb2, iAN (by omega) (by have := hb.2.1; omega)]
    have : a &&& (1023 ^^^ b) ≤ a := Nat.and_le_left
    omega
  refine ⟨by rw [h2]; omega, fun v a b => ?_⟩
  rw [h2, g3 v a (by omega), h3 v a b, hb.2.2 v a (by omega)]
  constructor
  · rintro ⟨⟨j, hj, e⟩, q⟩
    by_cases q2 : j = d
    · subst q2
      rw [uf_eq] at e
      exact absurd e.symm q
    · rw [uf_ne q2] at e
      exact ⟨j, by omega, e⟩
  · rintro ⟨j, hj, e⟩
    exact ⟨⟨j, by omega, by rw [uf_ne (by omega)]; exact e⟩, fun q => hn j hj.1 hj.2 (e.trans q)⟩
theorem otk_c {M M2 : Nat → Int → Int} {x : Nat} {d : Int} {t : Int → Int} (h2 : M2 (x + 86) 5 = M (x + 86) 5) (h : OTk M x d t) : OTk M2 x d t := by
  unfold OTk at h ⊢
  rw [h2]
  exact h
theorem oink_fr {M M2 : Nat → Int → Int} {x : Nat} {f : Int → Int} {d : Int} {t : Int → Int} (hq : ∀ q, x + 92 ≤ q → q < x + 96 + 4 * d.toNat → M2 q = M q) (h : OInk M x f d t) : OInk M2 x f d t := fun k a b => InkR_fr (fun q c e => hq q (by omega) (by omega)) (h k a b)
theorem oink_c {M : Nat → Int → Int} {x : Nat} {f : Int → Int} {d : Int} {t t' : Int → Int} (e : ∀ i, 0 ≤ i → i < d → t i = t' i) (h : OInk M x f d t) : OInk M x f d t' := fun k a b => by
  rw [← sq_c (t := t) (fun i c q => e i c (by omega))]
  exact h k a b
theorem oink_add {M : Nat → Int → Int} {x : Nat} {f : Int → Int} {d w : Int} {t : Int → Int} (hd : 0 ≤ d) (h : OInk M x f d t) (hn : InkR M (x + 96 + 4 * d.toNat) (wrote (sq f t d) w)) : OInk M x f (d + 1) (uf t d w) := fun k a b => by
  by_cases e : k = d + 1
  · subst e
    rw [sq_s hd, uf_eq, sq_c (t' := t) (fun i a b => by rw [uf_ne (by omega)]), show x + 92 + 4 * (d + 1).toNat = x + 96 + 4 * d.toNat by omega]
    exact hn
  · rw [sq_c (t' := t) (fun i a b => by rw [uf_ne (by omega)])]
    exact h k a (by omega)
theorem plF_fr {M M2 : Nat → Int → Int} {x : Nat} {f : Int → Int} {w : Int} (h1 : M2 (x + 89) w = M (x + 89) w) (h2 : ∀ q, x + 124 + 4 * w.toNat ≤ q → q < x + 128 + 4 * w.toNat → M2 q = M q) (h : PlF M x f w) : PlF M2 x f w := by
  rcases h with h | ⟨y, a, b, c⟩
  · exact Or.inl (h1.trans h)
  · exact Or.inr ⟨y, a, by rw [h1]; exact b, PlnR_fr (fun q d e => h2 q d (by omega)) c⟩
theorem ordp_uf {f t : Int → Int} {d w : Int} (h : OrdP f t d) (hw : 0 ≤ w ∧ w < f 1) (hn : ∀ j, 0 ≤ j → j < d → ¬ t j = w) (hc : Can (sq f t d) w) : OrdP f (uf t d w) (d + 1) := by
  have e : ∀ i, 0 ≤ i → i < d → t i = uf t d w i := fun i a b => by rw [uf_ne (by omega)]
  intro k a b
  by_cases q : k = d
  · subst q
    rw [uf_eq, ← sq_c e]
    exact ⟨hw, fun j c r => by rw [uf_ne (by omega)]; exact hn j c r, hc⟩
  · exact OrdP_c e h k a (by omega)
/-- the cursor ahead of, and behind, the words t 0 .. t (d - 1) -/
def CurA (f t : Int → Int) (d : Int) (b : Int → Int) (c : Int) : Prop := (d = 0 ∧ c = -1) ∨ (0 < d ∧ StO f t (d - 1) (t (d - 1)) b c)
def CurZ (f t : Int → Int) (d : Int) (b : Int → Int) (c : Int) : Prop := (d = 0 ∧ BestO f b c) ∨ (0 < d ∧ StO f t (d - 1) (t (d - 1) + 1) b c)
theorem curA_in {f t b : Int → Int} {d c : Int} (hd : 0 ≤ d ∧ d < f 1) (h : CurA f t d b c) : StO f t d 0 b c := by
  rcases h with ⟨rfl, rfl⟩ | ⟨h1, h2⟩
  · exact StO_0 (by omega)
  · have := StO_dn (by omega) rfl h2
    rwa [show d - 1 + 1 = d by omega] at this
theorem curZ_out {f t b : Int → Int} {d c : Int} (hd : 0 ≤ d ∧ d < f 1) (h : StO f t d (f 1) b c) : CurZ f t d b c := by
  by_cases e : d = 0
  · subst e
    exact Or.inl ⟨rfl, StO_e (by omega) h⟩
  · refine Or.inr ⟨by omega, StO_up (by omega) rfl ?_⟩
    rw [show d - 1 + 1 = d by omega]
    exact h
/-- a whole order, better than the best so far -/
theorem curZ_leaf {f t b b' : Int → Int} {d c c' B : Int} (hR : RowOk B f) (hB : 0 ≤ B) (hd : d = f 1) (ho : OrdP f t d) (h : CurA f t d b c) (hb : ∀ i, 0 ≤ i → i < f 1 → b' i = t i) (hc : c' = sq f t d 6 - f 6) (hl : c = -1 ∨ c' < c) : CurZ f t d b' c' := by
  subst hd
  rcases h with ⟨h1, h2⟩ | ⟨h1, h2⟩
  · refine Or.inl ⟨h1, ?_⟩
    rw [h1, sq_0] at hc
    rw [show c' = 0 by omega]
    exact BestO_0 h1
  · refine Or.inr ⟨h1, StO_new (by omega) h2 (OrdP_c (fun i a e => (hb i a e).symm) ho) (fun i a e => hb i a (by omega)) (hb _ (by omega) (by omega)) ?_ ?_ hl⟩
    · unfold cst
      rw [hc, sq_c hb]
    · have := sq_6 hR hB (ord_rng ho) (show (0 : Int) ≤ 0 by omega) (f 1) (by omega) (Int.le_refl _)
      rw [sq_0] at this
      omega
/-- a word that doesn't come next is passed over -/
theorem sto_no {f t b : Int → Int} {d w c B : Int} (hR : RowOk B f) (hB : 0 ≤ B) (hd : 0 ≤ d ∧ d < f 1) (hw : 0 ≤ w ∧ w < f 1) (hs : StO f t d w b (bcv c (f 6))) (hc0 : c = -1 ∨ f 6 ≤ c) (hn : AdvN f t d w c) (hbig : wrote (sq f t d) w 6 < 2147483647) : StO f t d (w + 1) b (bcv c (f 6)) := by
  refine StO_skip hd.1 hs (fun s q1 q2 q3 => ?_)
  have e1 := q1 d hd.1 hd.2
  rcases hn with hn | hn | hn
  · exact absurd (fun j a b => by have := e1.2.1 j a b; rw [q2 j a b, q3] at this; exact this) hn
  · have := e1.2.2
    rw [q3, sq_c q2] at this
    exact absurd this hn
  · have h1 := sq_6 hR hB (ord_rng q1) (show 0 ≤ d + 1 by omega) (f 1) (by omega) (Int.le_refl _)
    rw [sq_s hd.1, q3, sq_c q2] at h1
    have hc : ¬ c = -1 := hn.1
    have h3 : bcv c (f 6) = c - f 6 := if_neg hc
    rw [h3]
    unfold cst
    exact ⟨by omega, by omega⟩
/-- the bounds of the rows within the search -/
theorem sq_big {f t : Int → Int} {d w B : Int} (hR : RowOk B f) (hB : 0 ≤ B ∧ B ≤ 1000000000 - 400) (h7 : f 1 ≤ 7) (hd : 0 ≤ d ∧ d < f 1) (ho : OrdP f t d) (hw : 0 ≤ w ∧ w < f 1) : RowOk (B + 12 * d) (sq f t d) ∧ InkOnly f (sq f t d) ∧ f 6 ≤ wrote (sq f t d) w 6 ∧ wrote (sq f t d) w 6 < 2147483647 := by
  obtain ⟨h1, h2, -⟩ := sq_row hR hB.1 (ord_rng ho) d hd.1 (Int.le_refl _)
  have h3 := sq_6 hR hB.1 (ord_rng ho) (show (0 : Int) ≤ 0 by omega) d hd.1 (Int.le_refl _)
  rw [sq_0] at h3
  have hw2 : 0 ≤ w ∧ w < sq f t d 1 := by rw [h2.2.1]; exact hw
  have h4 := wrote_6 h1 hw2
  have h5 := (wrote_row h1 (by omega) hw2).1.2.2.2.2.2.2.2
  exact ⟨h1, h2, by omega, by omega⟩
