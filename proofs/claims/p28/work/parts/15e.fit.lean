/-! which presses print where, as the class keeps them -/
def TurR (M : Nat → Int → Int) : Prop := ∀ i, 0 ≤ i → i < 26 → M 2 i = tur i
theorem TurR_fr {M M2 : Nat → Int → Int} (h : ∀ q, 2 ≤ q → q < 3 → M2 q = M q) (hr : TurR M) : TurR M2 := fun i a b => by
  rw [h 2 (by omega) (by omega)]
  exact hr i a b
theorem prs_iff {f : Int → Int} {w p s : Int} (hs : StOk f s) (hw : WdOk f w) (hp : 0 ≤ p) : Prs f w p s ↔ Fit f w p s 0 ∨ Fit f w p s 1 := by
  constructor
  · rintro (h | h)
    · exact Or.inl h
    · exact Or.inr h.2
  · rintro (h | h)
    · exact Or.inl h
    · by_cases e : SameP f s
      · refine Or.inl ⟨h.1, fun k a b => ?_⟩
        rw [← e k a b]
        exact h.2 k a b
      · refine Or.inr ⟨⟨fun k a b => ?_, e⟩, h⟩
        have h1 := h.2 (f (7 + 9 * s) - 1 - k) (by omega) (by omega)
        have h2 := hw.2.2.2.2 (p + (f (7 + 9 * s) - 1 - k)) (by omega) (by have := h.1; omega)
        rw [show 97 + 14 * w + 2 + (p + (f (7 + 9 * s) - 1 - k)) = 97 + 14 * w + 2 + p + (f (7 + 9 * s) - 1 - k) by omega, ← h1] at h2
        unfold prL at h2
        rw [if_neg (by omega), show 7 + 9 * s + f (7 + 9 * s) - (f (7 + 9 * s) - 1 - k) = 7 + 9 * s + 1 + k by omega] at h2
        omega
/-- the presses of the stamps below K, of n letters, that print word w from p on -/
def FitX (f : Int → Int) (w p n K x : Int) : Prop := U20 x ∧ ∀ c, 0 ≤ c → c < 20 → (bs x c = true ↔ c / 2 < K ∧ f (7 + 9 * (c / 2)) = n ∧ Fit f w p (c / 2) (c % 2))
def FitG (f : Int → Int) (K : Int) (g : Int → Int) : Prop := ∀ w p n, 0 ≤ w → w < f 1 → 0 ≤ p → 1 ≤ n → n ≤ 5 → p + n ≤ f (97 + 14 * w) → FitX f w p n K (g ((w * 12 + p) * 5 + n - 1))
def FitR (M : Nat → Int → Int) (r : Nat) (f : Int → Int) (K : Int) : Prop := FitG f K (M (r + 1))
theorem FitR_fr {M M2 : Nat → Int → Int} {r : Nat} {f : Int → Int} {K : Int} (h : ∀ q, r ≤ q → q < r + 2 → M2 q = M q) (hr : FitR M r f K) : FitR M2 r f K := by
  unfold FitR at hr ⊢
  rw [h (r + 1) (by omega) (by omega)]
  exact hr
theorem fitX_0 {f : Int → Int} {w p n : Int} : FitX f w p n 0 0 := ⟨U20_0, fun c a b => ⟨fun h => absurd h bs_0, fun h => by omega⟩⟩
theorem fitX_ne {f : Int → Int} {w p n K x : Int} (h : FitX f w p n K x) (hn : ¬ f (7 + 9 * K) = n) : FitX f w p n (K + 1) x := ⟨h.1, fun c a b => by
  rw [h.2 c a b]
  constructor
  · intro g; exact ⟨by omega, g.2⟩
  · intro g
    by_cases e : c / 2 = K
    · rw [e] at g; exact absurd g.2.1 hn
    · exact ⟨by omega, g.2⟩⟩
/-- what fitting tells -/
def Ft (f : Int → Int) (w p s t x : Int) : Prop := (Fit f w p s t ∧ x = iL 1 (2 * s + t)) ∨ (¬ Fit f w p s t ∧ x = 0)
theorem ft_b {f : Int → Int} {w p s t x : Int} (hs : 0 ≤ s ∧ s < 10) (ht : t = 0 ∨ t = 1) (h : Ft f w p s t x) : U20 x ∧ ∀ c, 0 ≤ c → (bs x c = true ↔ c = 2 * s + t ∧ Fit f w p s t) := by
  rcases h with ⟨h1, h2⟩ | ⟨h1, h2⟩
  · subst h2
    obtain ⟨g1, g2⟩ := bs1_20 (s := 2 * s + t) (by omega)
    exact ⟨g1, fun c a => by rw [g2 c a]; exact ⟨fun h => ⟨h, h1⟩, fun h => h.1⟩⟩
  · subst h2
    exact ⟨U20_0, fun c a => ⟨fun h => absurd h bs_0, fun h => absurd h.2 h1⟩⟩
theorem fitX_or {f : Int → Int} {w p n K x a b : Int} (h : FitX f w p n K x) (hK : 0 ≤ K ∧ K < 10) (hn : f (7 + 9 * K) = n) (ha : Ft f w p K 0 a) (hb : Ft f w p K 1 b) : FitX f w p n (K + 1) (iO (iO x a) b) := by
  obtain ⟨a1, a2⟩ := ft_b hK (Or.inl rfl) ha
  obtain ⟨b1, b2⟩ := ft_b hK (Or.inr rfl) hb
  obtain ⟨c1, c2⟩ := bsO h.1 a1
  obtain ⟨d1, d2⟩ := bsO c1 b1
  refine ⟨d1, fun c q1 q2 => ?_⟩
  rw [d2 c q1, c2 c q1, h.2 c q1 q2, a2 c q1, b2 c q1]
  constructor
  · rintro ((g | g) | g)
    · exact ⟨by omega, g.2⟩
    · obtain ⟨g1, g2⟩ := g
      rw [show c / 2 = K by omega, show c % 2 = 0 by omega]
      exact ⟨by omega, hn, g2⟩
    · obtain ⟨g1, g2⟩ := g
      rw [show c / 2 = K by omega, show c % 2 = 1 by omega]
      exact ⟨by omega, hn, g2⟩
  · rintro ⟨g1, g2, g3⟩
    by_cases e : c / 2 = K
    · rw [e] at g3
      rcases (show c % 2 = 0 ∨ c % 2 = 1 by omega) with e2 | e2
      · rw [e2] at g3
        exact Or.inl (Or.inr ⟨by omega, g3⟩)
      · rw [e2] at g3
        exact Or.inr ⟨by omega, g3⟩
    · exact Or.inl (Or.inl ⟨by omega, g2, g3⟩)
/-- stamp s being added, as far as place p of word w -/
def AddG (f : Int → Int) (s w p : Int) (g : Int → Int) : Prop := ∀ w' p' n, 0 ≤ w' → w' < f 1 → 0 ≤ p' → 1 ≤ n → n ≤ 5 → p' + n ≤ f (97 + 14 * w') → FitX f w' p' n (if w' < w ∨ (w' = w ∧ p' < p) then s + 1 else s) (g ((w' * 12 + p') * 5 + n - 1))
theorem AddG_0 {f g : Int → Int} {s : Int} (h : FitG f s g) : AddG f s 0 0 g := fun w p n a b c d e i => by
  rw [if_neg (by omega)]
  exact h w p n a b c d e i
theorem AddG_e {f g : Int → Int} {s w p : Int} (hw : f 1 ≤ w) (h : AddG f s w p g) : FitG f (s + 1) g := fun w' p' n a b c d e i => by
  have h1 := h w' p' n a b c d e i
  rw [if_pos (by omega)] at h1
  exact h1
theorem AddG_w {f g : Int → Int} {s w p : Int} (hp : f (97 + 14 * w) - f (7 + 9 * s) < p) (h : AddG f s w p g) : AddG f s (w + 1) 0 g := fun w' p' n a b c d e i => by
  have h1 := h w' p' n a b c d e i
  by_cases q : w' < w ∨ (w' = w ∧ p' < p)
  · rw [if_pos q] at h1
    rw [if_pos (by omega)]
    exact h1
  · rw [if_neg q] at h1
    by_cases q2 : w' = w
    · rw [if_pos (by omega)]
      subst q2
      exact fitX_ne h1 (by omega)
    · rw [if_neg (by omega)]
      exact h1
theorem AddG_p {f g g' : Int → Int} {s w p a b : Int} (hs : 0 ≤ s ∧ s < 10) (hn : 1 ≤ f (7 + 9 * s) ∧ f (7 + 9 * s) ≤ 5) (hw : 0 ≤ w ∧ w < f 1) (hp : 0 ≤ p ∧ p ≤ f (97 + 14 * w) - f (7 + 9 * s)) (hl : ∀ w, 0 ≤ w → w < f 1 → f (97 + 14 * w) ≤ 12) (ha : Ft f w p s 0 a) (hb : Ft f w p s 1 b) (h : AddG f s w p g) (hv : g' ((w * 12 + p) * 5 + f (7 + 9 * s) - 1) = iO (iO (g ((w * 12 + p) * 5 + f (7 + 9 * s) - 1)) a) b) (ho : ∀ k, k ≠ (w * 12 + p) * 5 + f (7 + 9 * s) - 1 → g' k = g k) : AddG f s w (p + 1) g' := fun w' p' n c1 c2 c3 c4 c5 c6 => by
  have h1 := h w' p' n c1 c2 c3 c4 c5 c6
  have hl1 := hl w' c1 c2
  have hl2 := hl w hw.1 hw.2
  by_cases q : w' = w ∧ p' = p
  · obtain ⟨rfl, rfl⟩ := q
    rw [if_neg (by omega)] at h1
    rw [if_pos (by omega)]
    by_cases q2 : n = f (7 + 9 * s)
    · rw [q2, hv]
      rw [q2] at h1
      exact fitX_or h1 hs rfl ha hb
    · rw [ho _ (by omega)]
      exact fitX_ne h1 (by omega)
  · rw [ho _ (by omega)]
    by_cases q3 : w' < w ∨ (w' = w ∧ p' < p)
    · rw [if_pos q3] at h1
      rw [if_pos (by omega)]
      exact h1
    · rw [if_neg q3] at h1
      rw [if_neg (by omega)]
      exact h1
/-- the table of another row with the same stamps and words -/
theorem fitX_c {f g : Int → Int} {w p n K x : Int} (hs : ∀ s k, 0 ≤ s → s < K → 0 ≤ k → k ≤ 5 → g (7 + 9 * s + k) = f (7 + 9 * s + k)) (hl : ∀ s, 0 ≤ s → s < K → f (7 + 9 * s) ≤ 5) (hw : ∀ k, 0 ≤ k → k ≤ 13 → g (97 + 14 * w + k) = f (97 + 14 * w + k)) (hwl : f (97 + 14 * w) ≤ 12) (hp : 0 ≤ p) (h : FitX f w p n K x) : FitX g w p n K x := ⟨h.1, fun c a b => by
  rw [h.2 c a b]
  have e0 : c / 2 < K → g (7 + 9 * (c / 2)) = f (7 + 9 * (c / 2)) := fun q => by
    have := hs (c / 2) 0 (by omega) q (by omega) (by omega)
    rwa [Int.add_zero] at this
  have ew : g (97 + 14 * w) = f (97 + 14 * w) := by
    have := hw 0 (by omega) (by omega)
    rwa [Int.add_zero] at this
  constructor
  · rintro ⟨q1, q2, q3⟩
    exact ⟨q1, by rw [e0 q1]; exact q2, fit_c (fun k d e => hs _ k (by omega) q1 d e) (hl _ (by omega) q1) hw hwl hp q3⟩
  · rintro ⟨q1, q2, q3⟩
    rw [e0 q1] at q2
    exact ⟨q1, q2, fit_c (f := g) (g := f) (fun k d e => (hs _ k (by omega) q1 d e).symm) (by rw [e0 q1]; exact hl _ (by omega) q1) (fun k d e => (hw k d e).symm) (by rw [ew]; exact hwl) hp q3⟩⟩
theorem fitG_c {f g g9 : Int → Int} {K : Int} (h1 : g 1 = f 1) (hs : ∀ s k, 0 ≤ s → s < K → 0 ≤ k → k ≤ 5 → g (7 + 9 * s + k) = f (7 + 9 * s + k)) (hl : ∀ s, 0 ≤ s → s < K → f (7 + 9 * s) ≤ 5) (hw : ∀ w k, 0 ≤ w → w < f 1 → 0 ≤ k → k ≤ 13 → g (97 + 14 * w + k) = f (97 + 14 * w + k)) (hwl : ∀ w, 0 ≤ w → w < f 1 → f (97 + 14 * w) ≤ 12) (h : FitG f K g9) : FitG g K g9 := fun w p n a b c d e i => by
  rw [h1] at b
  have ew := hw w 0 a b (by omega) (by omega)
  rw [Int.add_zero] at ew
  exact fitX_c hs hl (fun k q1 q2 => hw w k a b q1 q2) (hwl w a b) c (h w p n a b c d e (by omega))
/-- a stamp's presses taken out -/
theorem fitG_er {f g g' : Int → Int} {K : Int} (hK : 0 ≤ K ∧ K < 10) (h1 : f 1 ≤ 7) (hwl : ∀ w, 0 ≤ w → w < f 1 → f (97 + 14 * w) ≤ 12) (h : FitG f (K + 1) g) (hg : ∀ k, 0 ≤ k → k < 420 → g' k = iA (g k) (iX (iL 3 (2 * K)) (-1))) : FitG f K g' := fun w p n a b c d e i => by
  have hl := hwl w a b
  obtain ⟨u1, u2⟩ := h w p n a b c d e i
  obtain ⟨b1, b2⟩ := bs3 (s := K) (by omega)
  rw [hg _ (by omega) (by omega)]
  obtain ⟨n1, n2⟩ := bsN u1 b1
  refine ⟨n1, fun z q1 q2 => ?_⟩
  rw [n2 z q1 q2, u2 z q1 q2, b2 z q1 q2]
  constructor
  · rintro ⟨⟨k1, k2⟩, k3⟩
    exact ⟨by omega, k2⟩
  · rintro ⟨k1, k2⟩
    exact ⟨⟨by omega, k2⟩, by omega⟩
/-- presses at a place among the usable ones: a stamp that may stand there -/
theorem fit_may {f : Int → Int} {w p n x u y : Int} (hA : StAll f) (hw : WdOk f w) (hp : 0 ≤ p) (hn : p + n ≤ f (97 + 14 * w)) (h : FitX f w p n (f 0) y) (hu : Ux x u) : (iA y u ≠ 0 → ∃ s, May f w x p s ∧ f (7 + 9 * s) = n) ∧ ((∃ s, May f w x p s ∧ f (7 + 9 * s) = n) → iA y u ≠ 0) := by
  have hA1 := hA.1
  obtain ⟨a1, a2⟩ := bsA h.1 hu.1
  constructor
  · intro hne
    apply Classical.byContradiction
    intro hno
    refine hne (bs20_ext a1 U20_0 (fun c q1 q2 => ⟨fun hb => ?_, fun hb => absurd hb bs_0⟩))
    have h3 := (a2 c q1).mp hb
    have h4 := (h.2 c q1 q2).mp h3.1
    have h5 := (hu.2 c q1 q2).mp h3.2
    refine absurd ⟨c / 2, ⟨by omega, h4.1, h5, by omega, (prs_iff (hA.2 _ (by omega) h4.1) hw hp).mpr ?_⟩, h4.2.1⟩ hno
    rcases (show c % 2 = 0 ∨ c % 2 = 1 by omega) with e | e
    · rw [e] at h4; exact Or.inl h4.2.2
    · rw [e] at h4; exact Or.inr h4.2.2
  · rintro ⟨s, ⟨m1, m2, m3, m4, m5⟩, hs⟩ hz
    have key : ∀ t, t = 0 ∨ t = 1 → Fit f w p s t → False := fun t ht hf => by
      have h3 := (h.2 (2 * s + t) (by omega) (by omega)).mpr ⟨by omega, by rw [show (2 * s + t) / 2 = s by omega]; exact hs, by rw [show (2 * s + t) / 2 = s by omega, show (2 * s + t) % 2 = t by omega]; exact hf⟩
      have h4 := (hu.2 (2 * s + t) (by omega) (by omega)).mpr (by rw [show (2 * s + t) / 2 = s by omega]; exact m3)
      have h5 := (a2 (2 * s + t) (by omega)).mpr ⟨h3, h4⟩
      rw [hz] at h5
      exact bs_0 h5
    rcases (prs_iff (hA.2 s m1 m2) hw hp).mp m5 with h6 | h6
    · exact key 0 (Or.inl rfl) h6
    · exact key 1 (Or.inr rfl) h6
/-- the fewest presses at a place, as far as stamps of fewer than n letters -/
def MsB (f : Int → Int) (w x p n : Int) (g : Int → Int) (b : Int) : Prop := (b = 1000 ∨ ∃ s, May f w x p s ∧ f (7 + 9 * s) < n ∧ b = g (p + f (7 + 9 * s)) + 1) ∧ b ≤ 1000 ∧ ∀ s, May f w x p s → f (7 + 9 * s) < n → b ≤ g (p + f (7 + 9 * s)) + 1
theorem MsB_0 {f g : Int → Int} {w x p : Int} (hA : StAll f) : MsB f w x p 1 g 1000 := ⟨Or.inl rfl, Int.le_refl _, fun s hm hl => by have := (may_len hA hm).1; omega⟩
theorem MsB_f {f g : Int → Int} {w x p n b : Int} (h : MsB f w x p n g b) (hn : ¬ ∃ s, May f w x p s ∧ f (7 + 9 * s) = n) : MsB f w x p (n + 1) g b := by
  refine ⟨?_, h.2.1, fun s hm hl => ?_⟩
  · rcases h.1 with h1 | ⟨s, h1, h2, h3⟩
    · exact Or.inl h1
    · exact Or.inr ⟨s, h1, by omega, h3⟩
  · by_cases e : f (7 + 9 * s) = n
    · exact absurd ⟨s, hm, e⟩ hn
    · exact h.2.2 s hm (by omega)
theorem MsB_t {f g : Int → Int} {w x p n b : Int} (h : MsB f w x p n g b) (hn : ∃ s, May f w x p s ∧ f (7 + 9 * s) = n) : MsB f w x p (n + 1) g (if g (p + n) + 1 < b then g (p + n) + 1 else b) := by
  obtain ⟨h1, h2, h3⟩ := h
  by_cases e : g (p + n) + 1 < b
  · rw [if_pos e]
    obtain ⟨s, m1, m2⟩ := hn
    refine ⟨Or.inr ⟨s, m1, by omega, by rw [m2]⟩, by omega, fun s' hm hl => ?_⟩
    by_cases e2 : f (7 + 9 * s') = n
    · rw [e2]; exact Int.le_refl _
    · have := h3 s' hm (by omega)
      omega
  · rw [if_neg e]
    refine ⟨?_, h2, fun s' hm hl => ?_⟩
    · rcases h1 with h1 | ⟨s, g1, g2, g3⟩
      · exact Or.inl h1
      · exact Or.inr ⟨s, g1, by omega, g3⟩
    · by_cases e2 : f (7 + 9 * s') = n
      · rw [e2]; omega
      · exact h3 s' hm (by omega)
theorem MsB_e {f g g' : Int → Int} {w x p n b : Int} (hA : StAll f) (hp : p < f (97 + 14 * w)) (hL : Lst 1000 f w x (p + 1) g) (h : MsB f w x p n g b) (hn : 5 < n ∨ f (97 + 14 * w) < p + n) (hg : g' = uf g p b) : Lst 1000 f w x p g' := by
  subst hg
  obtain ⟨h1, h2, h3⟩ := h
  have ne : ∀ s q, p ≤ q → May f w x q s → uf g p b (q + f (7 + 9 * s)) = g (q + f (7 + 9 * s)) := fun s q hq hm => by
    have := (may_len hA hm).1
    exact uf_ne (by omega)
  refine ⟨by rw [uf_ne (by omega)]; exact hL.1, fun q a1 a2 => ?_⟩
  by_cases e : q = p
  · subst e
    rw [uf_eq]
    refine ⟨?_, h2, fun s hm => ?_⟩
    · rcases h1 with h1 | ⟨s, g1, g2, g3⟩
      · exact Or.inl h1
      · exact Or.inr ⟨s, g1, by rw [ne s q a1 g1]; exact g3⟩
    · have h4 := may_len hA hm
      have h5 := (hA.2 s hm.1 hm.2.1).2.2.2.1
      rw [ne s q a1 hm]
      exact h3 s hm (by omega)
  · obtain ⟨b1, b2, b3⟩ := hL.2 q (by omega) a2
    rw [uf_ne e]
    refine ⟨?_, b2, fun s hm => by rw [ne s q a1 hm]; exact b3 s hm⟩
    rcases b1 with b1 | ⟨s, g1, g2⟩
    · exact Or.inl b1
    · exact Or.inr ⟨s, g1, by rw [ne s q a1 g1]; exact g2⟩
theorem Lst_n2 {f : Int → Int} {w x : Int} {g g' : Int → Int} (hg : g' = uf g (f (97 + 14 * w)) 0) : Lst 1000 f w x (f (97 + 14 * w)) g' := by
  subst hg
  exact ⟨uf_eq _ _ _, fun p h1 h2 => absurd h2 (by omega)⟩
/-- what measure tells -/
def MsV (f : Int → Int) (w x v : Int) : Prop := ∃ L, Lst 100 f w x 0 L ∧ ((v = -1 ∧ L 0 = 100) ∨ (v = L 0 ∧ L 0 ≠ 100 ∧ 0 ≤ v ∧ v ≤ 12))
theorem msV {f : Int → Int} {w x v : Int} {g : Int → Int} (hA : StAll f) (hw : WdOk f w) (hL : Lst 1000 f w x 0 g) (hv : (v = -1 ∧ 1000 ≤ g 0) ∨ (v = g 0 ∧ g 0 < 1000)) : MsV f w x v := by
  obtain ⟨L, h1⟩ := lst_ex (x := x) hA hw
  have h3 := hw.2.2.1
  have h4 := hw.2.2.2.1
  refine ⟨L, h1, ?_⟩
  rcases lst_u (by omega) (by omega) hA hw h1 hL 0 (by omega) (by omega) with h | h
  · exact Or.inl ⟨by omega, h.1⟩
  · exact Or.inr ⟨by omega, by omega, by omega, by omega⟩
/-- the presses with which a plan stays a shortest one, of the stamps of fewer than n letters -/
def ShB (f : Int → Int) (w p n : Int) (g : Int → Int) (y : Int) : Prop := U20 y ∧ ∀ c, 0 ≤ c → c < 20 → (bs y c = true ↔ c / 2 < f 0 ∧ f (7 + 9 * (c / 2)) < n ∧ p + f (7 + 9 * (c / 2)) ≤ f (97 + 14 * w) ∧ g (p + f (7 + 9 * (c / 2))) + 1 = g p ∧ Fit f w p (c / 2) (c % 2))
theorem ShB_0 {f g : Int → Int} {w p : Int} (hA : StAll f) : ShB f w p 1 g 0 := ⟨U20_0, fun c a b => ⟨fun h => absurd h bs_0, fun h => by
  have := (hA.2 (c / 2) (by omega) h.1).2.2.1
  have := h.2.1
  omega⟩⟩
theorem ShB_f {f g : Int → Int} {w p n y : Int} (h : ShB f w p n g y) (hn : ¬ g (p + n) + 1 = g p) : ShB f w p (n + 1) g y := ⟨h.1, fun c a b => by
  rw [h.2 c a b]
  constructor
  · intro q; exact ⟨q.1, by omega, q.2.2⟩
  · intro q
    by_cases e : f (7 + 9 * (c / 2)) = n
    · have := q.2.2.2.1; rw [e] at this; exact absurd this hn
    · exact ⟨q.1, by omega, q.2.2⟩⟩
theorem ShB_t {f g : Int → Int} {w p n y z : Int} (h : ShB f w p n g y) (hn : g (p + n) + 1 = g p) (hpn : p + n ≤ f (97 + 14 * w)) (hz : FitX f w p n (f 0) z) : ShB f w p (n + 1) g (iO y z) := by
  obtain ⟨a1, a2⟩ := bsO h.1 hz.1
  refine ⟨a1, fun c a b => ?_⟩
  rw [a2 c a, h.2 c a b, hz.2 c a b]
  constructor
  · rintro (q | q)
    · exact ⟨q.1, by omega, q.2.2⟩
    · exact ⟨q.1, by omega, by rw [q.2.1]; exact hpn, by rw [q.2.1]; exact hn, q.2.2⟩
  · intro q
    by_cases e : f (7 + 9 * (c / 2)) = n
    · exact Or.inr ⟨q.1, e, q.2.2.2.2⟩
    · exact Or.inl ⟨q.1, by omega, q.2.2⟩
/-- the lowest of the usable presses that keep a plan a shortest one is the plan's next press -/
theorem low_1 {f g L : Int → Int} {w p n x u y c : Int} (hA : StAll f) (hw : WdOk f w) (hg : Lst 1000 f w x 0 g) (hL : Lst 100 f w x 0 L) (hp : 0 ≤ p ∧ p < f (97 + 14 * w)) (hfin : L p ≠ 100) (h : ShB f w p n g y) (hn : 5 < n ∨ f (97 + 14 * w) < p + n) (hu : Ux x u) (hc : (0 ≤ c ∧ c < 20 ∧ bs (iA y u) c = true ∧ ∀ b, 0 ≤ b → b < c → ¬ bs (iA y u) b = true) ∨ (c = -1 ∧ ∀ b, 0 ≤ b → b < 20 → ¬ bs (iA y u) b = true)) : Low1 f w x L p c := by
  have hA1 := hA.1
  obtain ⟨a1, a2⟩ := bsA h.1 hu.1
  have eq : ∀ q, 0 ≤ q → q ≤ f (97 + 14 * w) → (L q = 100 ∧ g q = 1000) ∨ (L q = g q ∧ 0 ≤ L q ∧ L q ≤ f (97 + 14 * w) - q) := fun q q1 q2 => lst_u (by omega) (by omega) hA hw hL hg q q1 q2
  have hwl := hw.2.2.2.1
  -- a press c is among them just when it may come next, but for prints that are the same both ways
  have inn : ∀ b, 0 ≤ b → b < 20 → bs (iA y u) b = true → b / 2 < f 0 ∧ bs x (b / 2) = true ∧ p + f (7 + 9 * (b / 2)) ≤ f (97 + 14 * w) ∧ L (p + f (7 + 9 * (b / 2))) = L p - 1 ∧ Fit f w p (b / 2) (b % 2) := fun b b1 b2 hb => by
    have h1 := (a2 b b1).mp hb
    obtain ⟨k1, k2, k3, k4, k5⟩ := (h.2 b b1 b2).mp h1.1
    have k6 := (hu.2 b b1 b2).mp h1.2
    have k7 := (hA.2 (b / 2) (by omega) k1).2.2.1
    have e1 := eq p hp.1 (by omega)
    have e2 := eq (p + f (7 + 9 * (b / 2))) (by omega) k3
    exact ⟨k1, k6, k3, by omega, k5⟩
  have out : ∀ b, Ok1 f w x L p b → b < 20 ∧ bs (iA y u) b = true := fun b hb => by
    obtain ⟨k1, k2, k3, k4, k5, k6, k7⟩ := hb
    have k8 := (hA.2 (b / 2) (by omega) k2).2.2.1
    have k9 := (hA.2 (b / 2) (by omega) k2).2.2.2.1
    have e1 := eq p hp.1 (by omega)
    have e2 := eq (p + f (7 + 9 * (b / 2))) (by omega) k4
    refine ⟨by omega, (a2 b k1).mpr ⟨(h.2 b k1 (by omega)).mpr ⟨k2, by omega, k4, by omega, k7⟩, (hu.2 b k1 (by omega)).mpr k3⟩⟩
  rcases hc with ⟨c1, c2, c3, c4⟩ | ⟨c1, c2⟩
  · obtain ⟨k1, k2, k3, k4, k5⟩ := inn c c1 c2 c3
    refine ⟨⟨c1, k1, k2, k3, k4, fun ho => ?_, k5⟩, fun b b1 b2 hb => c4 b b1 b2 (out b hb).2⟩
    have hs := hA.2 (c / 2) (by omega) k1
    rw [ho] at k5
    rcases (prs_iff hs hw hp.1).mpr (Or.inr k5) with h6 | h6
    · have h9 : Ok1 f w x L p (c - 1) := ⟨by omega, by omega, by rw [show (c - 1) / 2 = c / 2 by omega]; exact k2, by rw [show (c - 1) / 2 = c / 2 by omega]; exact k3, by rw [show (c - 1) / 2 = c / 2 by omega]; exact k4, fun h => by omega, by rw [show (c - 1) / 2 = c / 2 by omega, show (c - 1) % 2 = 0 by omega]; exact h6⟩
      exact absurd (out _ h9).2 (c4 (c - 1) (by omega) (by omega))
    · exact h6.1
  · exfalso
    obtain ⟨b1, -, -⟩ := hL.2 p hp.1 hp.2
    rcases b1 with b1 | ⟨s, hm, b1⟩
    · exact hfin b1
    · obtain ⟨m1, m2, m3, m4, m5⟩ := hm
      have key : ∀ t, t = 0 ∨ t = 1 → (t = 1 → Cnt f s) → Fit f w p s t → False := fun t ht hcn hf => by
        have e1 : (2 * s + t) / 2 = s := by omega
        have h9 : Ok1 f w x L p (2 * s + t) := ⟨by omega, by omega, by rw [e1]; exact m3, by rw [e1]; exact m4, by rw [e1]; omega, fun h => by rw [e1]; exact hcn (by omega), by rw [e1, show (2 * s + t) % 2 = t by omega]; exact hf⟩
        have := out _ h9
        exact c2 (2 * s + t) (by omega) this.1 this.2
      rcases m5 with h6 | h6
      · exact key 0 (Or.inl rfl) (fun h => by omega) h6
      · exact key 1 (Or.inr rfl) (fun _ => h6.1) h6.2
