/-! the best plan, press by press -/
def NoP (f : Int → Int) (w x : Int) : Prop := ∃ L, Lst 100 f w x 0 L ∧ L 0 = 100
theorem lst_fin {f : Int → Int} {w x : Int} (hA : StAll f) (hw : WdOk f w) {L : Int → Int} (h : Lst 100 f w x 0 L) {p : Int} (h0 : 0 ≤ p) (h1 : p ≤ f (97 + 14 * w)) (h2 : L p ≠ 100) : 0 ≤ L p ∧ L p ≤ f (97 + 14 * w) - p := by
  rcases lst_u (by omega) (by omega) hA hw h h p h0 h1 with h | h
  · exact absurd h.1 h2
  · exact h.2
def PlnX (f : Int → Int) (w x : Int) (L c : Int → Int) (p i : Int) : Prop := (0 ≤ p ∧ p ≤ f (97 + 14 * w) ∧ 0 ≤ i ∧ L p = L 0 - i) ∧ ∃ q, PlnI f w x L c q i ∧ q i = p
theorem PlnX_0 {f : Int → Int} {w x : Int} {L c : Int → Int} (hw : WdOk f w) : PlnX f w x L c 0 0 := by
  have := hw.2.2.1
  exact ⟨⟨by omega, by omega, by omega, by omega⟩, fun _ => 0, ⟨rfl, fun j h1 h2 => absurd h2 (by omega)⟩, rfl⟩
theorem PlnX_s {f : Int → Int} {w x p i u : Int} {L c c' : Int → Int} (hA : StAll f) (h : PlnX f w x L c p i) (hu : Low1 f w x L p u) (hc : c' = uf c i u) : PlnX f w x L c' (p + f (7 + 9 * (u / 2))) (i + 1) := by
  subst hc
  obtain ⟨⟨h1, h2, h3, h4⟩, q, ⟨h5, h6⟩, h7⟩ := h
  obtain ⟨a1, a2, a3, a4, a5, a6, a7⟩ := hu.1
  have h8 := (hA.2 (u / 2) (by omega) a2).2.2.1
  refine ⟨⟨by omega, a4, by omega, by omega⟩, uf q (i + 1) (p + f (7 + 9 * (u / 2))), ⟨by rw [uf_ne (by omega)]; exact h5, fun j g1 g2 => ?_⟩, uf_eq _ _ _⟩
  by_cases e : j = i
  · subst e
    rw [uf_eq, uf_ne (show j ≠ j + 1 by omega), h7, uf_eq]
    exact ⟨hu, rfl⟩
  · have g3 := h6 j g1 (by omega)
    rw [uf_ne (show j ≠ i + 1 by omega), uf_ne (show j + 1 ≠ i + 1 by omega), uf_ne e]
    exact g3
theorem PlnX_f {f : Int → Int} {w x p i : Int} {L c : Int → Int} (hA : StAll f) (hw : WdOk f w) (hL : Lst 100 f w x 0 L) (h0 : L 0 ≠ 100) (h : PlnX f w x L c p i) (hp : p < f (97 + 14 * w)) : i < 12 ∧ ∃ u, Ok1 f w x L p u ∧ u < 2 * f 0 := by
  obtain ⟨⟨h1, h2, h3, h4⟩, -⟩ := h
  have hw3 := hw.2.2.1
  have hw4 := hw.2.2.2.1
  have h5 := lst_fin hA hw hL (show (0 : Int) ≤ 0 by omega) (by omega) h0
  have h6 := lst_fin hA hw hL h1 h2 (by omega)
  obtain ⟨a1, -, -⟩ := hL.2 p h1 hp
  rcases a1 with a1 | ⟨s, hs, a1⟩
  · omega
  · have h7 := may_len hA hs
    have h9 := lst_rng (by omega) hA hL (p + f (7 + 9 * s)) (by omega) h7.2
    refine ⟨by omega, ?_⟩
    obtain ⟨k1, k2, k3, k4, k5⟩ := hs
    rcases k5 with k5 | ⟨k5, k6⟩
    · refine ⟨2 * s, ⟨by omega, ?_⟩, by omega⟩
      rw [show 2 * s / 2 = s by omega, show 2 * s % 2 = 0 by omega]
      exact ⟨k2, k3, k4, by omega, fun h => absurd h (by omega), k5⟩
    · refine ⟨2 * s + 1, ⟨by omega, ?_⟩, by omega⟩
      rw [show (2 * s + 1) / 2 = s by omega, show (2 * s + 1) % 2 = 1 by omega]
      exact ⟨k2, k3, k4, by omega, fun _ => k5, k6⟩
theorem PlnX_e {f : Int → Int} {w x p i : Int} {L c : Int → Int} (hL : Lst 100 f w x 0 L) (h0 : L 0 ≠ 100) (h : PlnX f w x L c p i) (hp : f (97 + 14 * w) ≤ p) : Pln f w x c i := by
  obtain ⟨⟨h1, h2, h3, h4⟩, q, h5, h6⟩ := h
  have e : p = f (97 + 14 * w) := by omega
  have h7 := hL.1
  rw [← e] at h7
  have e2 : L 0 = i := by omega
  exact ⟨L, q, hL, e2, by rw [← e2]; exact h0, h5, by rw [h6, e]⟩
/-- the search for the lowest press -/
def Srch (f : Int → Int) (w x : Int) (L : Int → Int) (p u b : Int) : Prop := (b = 0 ∧ ∀ c, 0 ≤ c → c < u → ¬ Ok1 f w x L p c) ∨ (b = 1 ∧ 1 ≤ u ∧ Low1 f w x L p (u - 1))
theorem Srch_i {f : Int → Int} {w x p : Int} {L : Int → Int} : Srch f w x L p 0 0 := Or.inl ⟨rfl, fun _ h1 h2 => absurd h2 (by omega)⟩
theorem Srch_b {f : Int → Int} {w x p u b : Int} {L : Int → Int} (h : Srch f w x L p u b) : b = 0 ∨ b = 1 := h.elim (fun h => Or.inl h.1) (fun h => Or.inr h.1)
theorem Srch_le {f : Int → Int} {w x p u b v : Int} {L : Int → Int} (h : Srch f w x L p u b) (hv : Ok1 f w x L p v) : u ≤ v + 1 ∧ (b = 0 → u ≤ v) := by
  rcases h with ⟨h1, h2⟩ | ⟨h1, h2, h3, h4⟩
  · have : u ≤ v := by
      rcases (show v < u ∨ u ≤ v by omega) with h | h
      · exact absurd hv (h2 v hv.1 h)
      · exact h
    exact ⟨by omega, fun _ => this⟩
  · have : u - 1 ≤ v := by
      rcases (show v < u - 1 ∨ u - 1 ≤ v by omega) with h | h
      · exact absurd hv (h4 v hv.1 h)
      · exact h
    exact ⟨by omega, fun h => by omega⟩
theorem Srch_0 {f : Int → Int} {w x p u b : Int} {L : Int → Int} (h : Srch f w x L p u b) (hb : b = 0) (hn : ¬ Ok1 f w x L p u) : Srch f w x L p (u + 1) 0 := by
  rcases h with ⟨h1, h2⟩ | ⟨h1, h2⟩
  · refine Or.inl ⟨rfl, fun c h3 h4 => ?_⟩
    by_cases e : c = u
    · subst e; exact hn
    · exact h2 c h3 (by omega)
  · omega
theorem Srch_1 {f : Int → Int} {w x p u b : Int} {L : Int → Int} (h : Srch f w x L p u b) (hb : b = 0) (ho : Ok1 f w x L p u) : Srch f w x L p (u + 1) 1 := by
  rcases h with ⟨h1, h2⟩ | ⟨h1, h2⟩
  · refine Or.inr ⟨rfl, by have := ho.1; omega, ?_⟩
    rw [show u + 1 - 1 = u by omega]
    exact ⟨ho, h2⟩
  · omega
theorem Srch_e {f : Int → Int} {w x p u b : Int} {L : Int → Int} (h : Srch f w x L p u b) (hb : ¬ b = 0) : 1 ≤ u ∧ Low1 f w x L p (u - 1) := by
  rcases h with ⟨h1, h2⟩ | ⟨h1, h2⟩
  · omega
  · exact h2
