/-! the part of a word that saves the most presses -/
theorem prL_c {f g : Int → Int} {s k t : Int} (h : ∀ k, 0 ≤ k → k ≤ 5 → g (7 + 9 * s + k) = f (7 + 9 * s + k)) (hl : f (7 + 9 * s) ≤ 5) (hk : 0 ≤ k ∧ k < f (7 + 9 * s)) : prL g s k t = prL f s k t := by
  have e0 := h 0 (by omega) (by omega)
  rw [Int.add_zero] at e0
  unfold prL
  rw [e0]
  by_cases ht : t = 0
  · rw [if_pos ht, if_pos ht]
    have e := h (1 + k) (by omega) (by omega)
    rw [show 7 + 9 * s + (1 + k) = 7 + 9 * s + 1 + k by omega] at e
    exact e
  · rw [if_neg ht, if_neg ht]
    have e := h (f (7 + 9 * s) - k) (by omega) (by omega)
    rw [show 7 + 9 * s + (f (7 + 9 * s) - k) = 7 + 9 * s + f (7 + 9 * s) - k by omega] at e
    rw [e]
theorem canT_c {f g : Int → Int} {s : Int} (h : ∀ k, 0 ≤ k → k ≤ 5 → g (7 + 9 * s + k) = f (7 + 9 * s + k)) (hl : f (7 + 9 * s) ≤ 5) (hc : CanT f s) : CanT g s := by
  intro k h1 h2
  have e0 := h 0 (by omega) (by omega)
  rw [Int.add_zero] at e0
  have e := h (1 + k) (by omega) (by omega)
  rw [show 7 + 9 * s + (1 + k) = 7 + 9 * s + 1 + k by omega] at e
  rw [e]
  exact hc k h1 (by omega)
theorem cnt_st {f g : Int → Int} {s : Int} (h : ∀ k, 0 ≤ k → k ≤ 5 → g (7 + 9 * s + k) = f (7 + 9 * s + k)) (hl : f (7 + 9 * s) ≤ 5) (hc : Cnt f s) : Cnt g s := by
  refine ⟨canT_c h hl hc.1, fun h2 => hc.2 (fun k h3 h4 => ?_)⟩
  have e0 := h 0 (by omega) (by omega)
  rw [Int.add_zero] at e0
  rw [← prL_c h hl ⟨h3, h4⟩, ← prL_c h hl ⟨h3, h4⟩]
  exact h2 k h3 (by omega)
theorem fit_c {f g : Int → Int} {w p s t : Int} (h : ∀ k, 0 ≤ k → k ≤ 5 → g (7 + 9 * s + k) = f (7 + 9 * s + k)) (hl : f (7 + 9 * s) ≤ 5) (hw : ∀ k, 0 ≤ k → k ≤ 13 → g (97 + 14 * w + k) = f (97 + 14 * w + k)) (hwl : f (97 + 14 * w) ≤ 12) (hp : 0 ≤ p) (hf : Fit f w p s t) : Fit g w p s t := by
  have e0 := h 0 (by omega) (by omega)
  rw [Int.add_zero] at e0
  have e1 := hw 0 (by omega) (by omega)
  rw [Int.add_zero] at e1
  obtain ⟨h1, h2⟩ := hf
  refine ⟨by omega, fun k h3 h4 => ?_⟩
  have e2 := hw (2 + p + k) (by omega) (by omega)
  rw [show 97 + 14 * w + (2 + p + k) = 97 + 14 * w + 2 + p + k by omega] at e2
  rw [prL_c h hl ⟨h3, by omega⟩, e2]
  exact h2 k h3 (by omega)
theorem prs_c {f g : Int → Int} {w p s : Int} (h : ∀ k, 0 ≤ k → k ≤ 5 → g (7 + 9 * s + k) = f (7 + 9 * s + k)) (hl : f (7 + 9 * s) ≤ 5) (hw : ∀ k, 0 ≤ k → k ≤ 13 → g (97 + 14 * w + k) = f (97 + 14 * w + k)) (hwl : f (97 + 14 * w) ≤ 12) (hp : 0 ≤ p) (hf : Prs f w p s) : Prs g w p s := by
  rcases hf with h1 | ⟨h1, h2⟩
  · exact Or.inl (fit_c h hl hw hwl hp h1)
  · exact Or.inr ⟨cnt_st h hl h1, fit_c h hl hw hwl hp h2⟩
/-- more stamps that may stand: no more presses -/
theorem lst_more {f g : Int → Int} {w x x' : Int} (hA : StAll f) (hn : g (97 + 14 * w) = f (97 + 14 * w)) (hm : ∀ p s, 0 ≤ p → May f w x p s → May g w x' p s ∧ g (7 + 9 * s) = f (7 + 9 * s)) {L L' : Int → Int} (h : Lst 100 f w x 0 L) (h' : Lst 100 g w x' 0 L') : ∀ p, 0 ≤ p → p ≤ f (97 + 14 * w) → L' p ≤ L p := by
  have key : ∀ (k : Nat) (p : Int), 0 ≤ p → p ≤ f (97 + 14 * w) → (f (97 + 14 * w) - p).toNat < k → L' p ≤ L p := by
    intro k
    induction k with
    | zero => intro p _ _ hk; omega
    | succ k ih =>
      intro p h0 h1 hk
      by_cases hp : p = f (97 + 14 * w)
      · subst hp
        have e := h'.1
        rw [hn] at e
        rw [h.1, e]; exact Int.le_refl _
      · obtain ⟨a1, a2, a3⟩ := h.2 p h0 (by omega)
        obtain ⟨-, b2, b3⟩ := h'.2 p h0 (by omega)
        rcases a1 with a1 | ⟨s, hs, a1⟩
        · omega
        · have h3 := (hA.2 s hs.1 hs.2.1).2.2.1
          have h4 := hs.2.2.2.1
          have h5 := ih (p + f (7 + 9 * s)) (by omega) h4 (by omega)
          obtain ⟨g1, g2⟩ := hm p s h0 hs
          have h6 := b3 s g1
          rw [g2] at h6
          omega
  intro p h0 h1
  exact key _ p h0 h1 (Nat.lt_succ_self _)
theorem fresh_ex {f : Int → Int} (h0 : 0 ≤ f 0 ∧ f 0 ≤ 10) : ∃ x, Fresh f x := by
  have key : ∀ k : Nat, (k : Int) ≤ f 0 → ∃ x, FrB f k x := by
    intro k
    induction k with
    | zero => intro _; exact ⟨0, FrB_0⟩
    | succ k ih =>
      intro hk
      obtain ⟨x, hx⟩ := ih (by omega)
      rw [show ((k + 1 : Nat) : Int) = (k : Int) + 1 by omega]
      rcases (show f (7 + 9 * (k : Int) + 8) < f 2 ∨ f 2 ≤ f (7 + 9 * (k : Int) + 8) by omega) with h | h
      · exact ⟨_, FrB_1 hx ⟨by omega, by omega⟩ h⟩
      · exact ⟨_, FrB_2 hx ⟨by omega, by omega⟩ h⟩
  obtain ⟨x, hx⟩ := key (f 0).toNat (by omega)
  rw [show ((f 0).toNat : Int) = f 0 by omega] at hx
  exact ⟨x, hx⟩
theorem p1_eq {f : Int → Int} {w x : Int} {L : Int → Int} (hA : StAll f) (hw : WdOk f w) (hx : Fresh f x) (hL : Lst 100 f w x 0 L) : p1 f w = L 0 := by
  have hw3 := hw.2.2.1
  have hr := lst_rng (by omega) hA hL 0 (by omega) (by omega)
  unfold p1
  by_cases h : L 0 = 100
  · rw [pv_eq hA hw hx hL (Or.inl ⟨rfl, h⟩), if_pos rfl, h]
  · rw [pv_eq hA hw hx hL (Or.inr ⟨rfl, h⟩), if_neg (by omega)]
theorem cutR_0 {f : Int → Int} {w p n : Int} : cutR f w p n 0 = f 0 + 1 := if_pos rfl
theorem cutR_lo {f : Int → Int} {w p n k : Int} (h0 : k ≠ 0) (hk : k < 7 + 9 * f 0) : cutR f w p n k = f k := by
  unfold cutR
  rw [if_neg h0, if_neg (by omega), if_neg (by omega), if_neg (by omega), if_neg (by omega)]
theorem cutR_hi {f : Int → Int} {w p n k : Int} (h0 : 0 ≤ f 0 ∧ f 0 ≤ 9) (hn : n ≤ 5) (hk : 97 ≤ k) : cutR f w p n k = f k := by
  unfold cutR
  rw [if_neg (by omega), if_neg (by omega), if_neg (by omega), if_neg (by omega), if_neg (by omega)]
theorem cutR_out {f : Int → Int} {w p n k : Int} (h0 : 0 ≤ f 0 ∧ f 0 ≤ 9) (hn : n ≤ 5) (hk : ¬ (0 ≤ k ∧ k < 195)) : cutR f w p n k = f k := by
  rcases (show k < 0 ∨ 97 ≤ k by omega) with h | h
  · exact cutR_lo (by omega) (by omega)
  · exact cutR_hi h0 hn h
/-- a part of a word that may be cut -/
def Cd (f : Int → Int) (most w p n : Int) : Prop := (0 ≤ w ∧ w < f 1) ∧ (0 ≤ p ∧ p < f (97 + 14 * w)) ∧ (1 ≤ n ∧ n ≤ most) ∧ n ≤ f (97 + 14 * w) - p
theorem cut_row {B : Int} {f : Int → Int} {w p n : Int} (hR : RowOk B f) (hB : 0 ≤ B) (h10 : f 0 ≠ 10) (hc : Cd f 5 w p n) : RowOk B (cutR f w p n) := by
  obtain ⟨hA, hW, hI⟩ := hR
  have hA1 := hA.1
  obtain ⟨⟨c1, c2⟩, ⟨c3, c4⟩, ⟨c5, c6⟩, c7⟩ := hc
  have hw := (hW.2 w c1 c2).1
  have hw4 := hw.2.2.2.1
  have hW1 := hW.1
  have e0 : cutR f w p n 0 = f 0 + 1 := cutR_0
  have e1 : cutR f w p n 1 = f 1 := cutR_lo (by omega) (by omega)
  have e2 : cutR f w p n 2 = f 2 := cutR_lo (by omega) (by omega)
  have e3 : cutR f w p n 3 = f 3 := cutR_lo (by omega) (by omega)
  have e4 : cutR f w p n 4 = f 4 := cutR_lo (by omega) (by omega)
  have e5 : cutR f w p n 5 = f 5 := cutR_lo (by omega) (by omega)
  have e6 : cutR f w p n 6 = f 6 := cutR_lo (by omega) (by omega)
  have eL : cutR f w p n (7 + 9 * f 0) = n := by
    unfold cutR
    rw [if_neg (by omega), if_pos rfl]
  refine ⟨⟨by omega, fun s h1 h2 => ?_⟩, ⟨by omega, fun v h1 h2 => ?_⟩, ⟨fun s h1 h2 => ?_, ?_, ?_, ?_, ?_, ?_⟩⟩
  · rw [e0] at h2
    by_cases e : s = f 0
    · subst e
      refine ⟨by omega, by omega, by omega, by omega, fun k a b => ?_⟩
      rw [eL] at b
      have e9 : cutR f w p n (7 + 9 * f 0 + 1 + k) = f (97 + 14 * w + 2 + (p + k)) := by
        unfold cutR
        rw [if_neg (by omega), if_neg (by omega), if_pos (by omega)]
        congr 1; omega
      rw [e9]
      exact hw.2.2.2.2 (p + k) (by omega) (by omega)
    · exact StOk_c ⟨h1, by omega⟩ (fun k a b => cutR_lo (by omega) (by omega)) (hA.2 s h1 (by omega))
  · rw [e1] at h2
    have h3 := hW.2 v h1 h2
    refine ⟨WdOk_c (fun k a b => cutR_hi (by omega) c6 (by omega)) h3.1, ?_⟩
    rw [cutR_hi (by omega) c6 (by omega)]
    exact h3.2
  · rw [e0] at h2
    by_cases e : s = f 0
    · subst e
      have g6 : cutR f w p n (7 + 9 * f 0 + 6) = -1 := by
        unfold cutR
        rw [if_neg (by omega), if_neg (by omega), if_neg (by omega), if_pos rfl]
      have g7 : cutR f w p n (7 + 9 * f 0 + 7) = 0 := by
        unfold cutR
        rw [if_neg (by omega), if_neg (by omega), if_neg (by omega), if_neg (by omega), if_pos (by omega)]
      have g8 : cutR f w p n (7 + 9 * f 0 + 8) = 0 := by
        unfold cutR
        rw [if_neg (by omega), if_neg (by omega), if_neg (by omega), if_neg (by omega), if_pos (by omega)]
      rw [g6, g7, g8]
      omega
    · rw [cutR_lo (by omega) (by omega), cutR_lo (by omega) (by omega), cutR_lo (by omega) (by omega)]
      exact hI.1 s h1 (by omega)
  · rw [e2]; exact hI.2.1
  · rw [e3]; exact hI.2.2.1
  · rw [e4]; exact hI.2.2.2.1
  · rw [e5]; exact hI.2.2.2.2.1
  · rw [e6]; exact hI.2.2.2.2.2
theorem sm_le {P P' : Int → Int} {n : Int} (h : ∀ i, 0 ≤ i → i < n → P' i ≤ P i) : sm P' n ≤ sm P n := by
  have key : ∀ k : Nat, (k : Int) ≤ n → smN P' k ≤ smN P k := by
    intro k
    induction k with
    | zero => intro _; exact Int.le_refl _
    | succ k ih =>
      intro hk
      have h1 := ih (by omega)
      have h2 := h k (by omega) (by omega)
      show smN P' k + P' k ≤ smN P k + P k
      omega
  unfold sm
  rcases (show n < 0 ∨ 0 ≤ n by omega) with h0 | h0
  · rw [show n.toNat = 0 by omega]; exact Int.le_refl _
  · exact key n.toNat (by omega)
noncomputable def sav (f : Int → Int) (w p n : Int) : Int := allP f - allP (cutR f w p n)
theorem sav_0 {B : Int} {f : Int → Int} {w p n : Int} (hR : RowOk B f) (hB : 0 ≤ B) (h10 : f 0 ≠ 10) (hc : Cd f 5 w p n) : 0 ≤ sav f w p n := by
  have hR2 := cut_row hR hB h10 hc
  have hA1 := hR.1.1
  have c6 := hc.2.2.1.2
  have e1 : cutR f w p n 1 = f 1 := cutR_lo (by omega) (by omega)
  have h : allP (cutR f w p n) ≤ allP f := by
    unfold allP
    rw [e1]
    refine sm_le (fun i a b => ?_)
    obtain ⟨x, hx⟩ := fresh_ex hA1
    obtain ⟨x', hx'⟩ := fresh_ex hR2.1.1
    have hw := (hR.2.1.2 i a b).1
    have hw' := (hR2.2.1.2 i a (by rw [e1]; exact b)).1
    obtain ⟨L, hL⟩ := lst_ex (x := x) hR.1 hw
    obtain ⟨L', hL'⟩ := lst_ex (x := x') hR2.1 hw'
    rw [p1_eq hR.1 hw hx hL, p1_eq hR2.1 hw' hx' hL']
    have hw4 := hw.2.2.2.1
    have hw3 := hw.2.2.1
    have ew : ∀ k, 0 ≤ k → k ≤ 13 → cutR f w p n (97 + 14 * i + k) = f (97 + 14 * i + k) := fun k h1 h2 => cutR_hi (by omega) c6 (by omega)
    refine lst_more hR.1 (cutR_hi (by omega) c6 (by omega)) (fun q s hq hm => ?_) hL hL' 0 (by omega) (by omega)
    obtain ⟨m1, m2, m3, m4, m5⟩ := hm
    have es : ∀ k, 0 ≤ k → k ≤ 8 → cutR f w p n (7 + 9 * s + k) = f (7 + 9 * s + k) := fun k h1 h2 => cutR_lo (by omega) (by omega)
    have e7 := es 0 (by omega) (by omega)
    rw [Int.add_zero] at e7
    have e97 := ew 0 (by omega) (by omega)
    rw [Int.add_zero] at e97
    have hs5 := (hR.1.2 s m1 m2).2.2.2.1
    refine ⟨⟨m1, by rw [cutR_0]; omega, (hx'.2.2 s m1 (by omega)).mpr ⟨by rw [cutR_0]; omega, ?_⟩, by omega, prs_c (fun k h1 h2 => es k h1 (by omega)) hs5 ew hw4 hq m5⟩, e7⟩
    rw [es 8 (by omega) (by omega), cutR_lo (show (2 : Int) ≠ 0 by omega) (by omega)]
    exact ((hx.2.2 s m1 (by omega)).mp m3).2
  unfold sav
  omega
/-- one triple ahead of another -/
def Lx3 (a b c a' b' c' : Int) : Prop := a < a' ∨ (a = a' ∧ (b < b' ∨ (b = b' ∧ c < c')))
/-- the best part b of those ahead of (w, p, n); b3 -1: none -/
def BstI (f : Int → Int) (most w p n b0 b1 b2 b3 : Int) : Prop := (b3 = -1 ∧ ∀ w' p' n', Cd f most w' p' n' → Lx3 w' p' n' w p n → sav f w' p' n' ≤ -1) ∨ (Cd f most b0 b1 b2 ∧ Lx3 b0 b1 b2 w p n ∧ b3 = sav f b0 b1 b2 ∧ -1 < b3 ∧ ∀ w' p' n', Cd f most w' p' n' → Lx3 w' p' n' w p n → sav f w' p' n' ≤ b3 ∧ (sav f w' p' n' = b3 → ¬ Lx3 w' p' n' b0 b1 b2))
theorem BstI_mv {f : Int → Int} {most w p n w2 p2 n2 b0 b1 b2 b3 : Int} (h : BstI f most w p n b0 b1 b2 b3) (h1 : ∀ w' p' n', Cd f most w' p' n' → Lx3 w' p' n' w2 p2 n2 → Lx3 w' p' n' w p n) (h2 : Lx3 b0 b1 b2 w p n → Lx3 b0 b1 b2 w2 p2 n2) : BstI f most w2 p2 n2 b0 b1 b2 b3 := by
  rcases h with ⟨g1, g2⟩ | ⟨g1, g2, g3, g4, g5⟩
  · exact Or.inl ⟨g1, fun w' p' n' a b => g2 w' p' n' a (h1 _ _ _ a b)⟩
  · exact Or.inr ⟨g1, h2 g2, g3, g4, fun w' p' n' a b => g5 w' p' n' a (h1 _ _ _ a b)⟩
theorem BstI_0 {f : Int → Int} {most b0 b1 b2 : Int} : BstI f most 0 0 1 b0 b1 b2 (-1) := Or.inl ⟨rfl, fun w' p' n' a b => by
  obtain ⟨a1, a2, a3, a4⟩ := a
  unfold Lx3 at b
  omega⟩
theorem BstI_p {f : Int → Int} {most w p n b0 b1 b2 b3 : Int} (h : BstI f most w p n b0 b1 b2 b3) (hn : ∀ n', n ≤ n' → ¬ Cd f most w p n') : BstI f most w (p + 1) 1 b0 b1 b2 b3 := by
  refine BstI_mv h (fun w' p' n' a b => ?_) (fun b => by unfold Lx3 at b ⊢; omega)
  by_cases e : w' = w ∧ p' = p ∧ n ≤ n'
  · obtain ⟨rfl, rfl, e⟩ := e
    exact absurd a (hn _ e)
  · have a3 := a.2.2.1.1
    unfold Lx3 at b ⊢
    omega
theorem BstI_w {f : Int → Int} {most w p b0 b1 b2 b3 : Int} (h : BstI f most w p 1 b0 b1 b2 b3) (hn : f (97 + 14 * w) ≤ p) : BstI f most (w + 1) 0 1 b0 b1 b2 b3 := by
  refine BstI_mv h (fun w' p' n' a b => ?_) (fun b => by unfold Lx3 at b ⊢; omega)
  obtain ⟨a1, a2, a3, a4⟩ := a
  by_cases e : w' = w
  · subst e
    unfold Lx3 at b ⊢
    omega
  · unfold Lx3 at b ⊢
    omega
theorem BstI_n0 {f : Int → Int} {most w p n b0 b1 b2 b3 : Int} (h : BstI f most w p n b0 b1 b2 b3) (hs : sav f w p n ≤ b3) : BstI f most w p (n + 1) b0 b1 b2 b3 := by
  have sp : ∀ w' p' n', Lx3 w' p' n' w p (n + 1) → Lx3 w' p' n' w p n ∨ (w' = w ∧ p' = p ∧ n' = n) := fun w' p' n' b => by
    unfold Lx3 at b ⊢
    omega
  rcases h with ⟨g1, g2⟩ | ⟨g1, g2, g3, g4, g5⟩
  · refine Or.inl ⟨g1, fun w' p' n' a b => ?_⟩
    rcases sp _ _ _ b with b | ⟨rfl, rfl, rfl⟩
    · exact g2 _ _ _ a b
    · omega
  · refine Or.inr ⟨g1, by unfold Lx3 at g2 ⊢; omega, g3, g4, fun w' p' n' a b => ?_⟩
    rcases sp _ _ _ b with b | ⟨rfl, rfl, rfl⟩
    · exact g5 _ _ _ a b
    · exact ⟨hs, fun _ b2 => by unfold Lx3 at b2 g2; omega⟩
theorem BstI_n1 {f : Int → Int} {most w p n b0 b1 b2 b3 : Int} (h : BstI f most w p n b0 b1 b2 b3) (hc : Cd f most w p n) (hs : b3 < sav f w p n) : BstI f most w p (n + 1) w p n (sav f w p n) := by
  have sp : ∀ w' p' n', Lx3 w' p' n' w p (n + 1) → Lx3 w' p' n' w p n ∨ (w' = w ∧ p' = p ∧ n' = n) := fun w' p' n' b => by
    unfold Lx3 at b ⊢
    omega
  have h3 : -1 ≤ b3 ∧ ∀ w' p' n', Cd f most w' p' n' → Lx3 w' p' n' w p n → sav f w' p' n' ≤ b3 := by
    rcases h with ⟨g1, g2⟩ | ⟨g1, g2, g3, g4, g5⟩
    · exact ⟨by omega, fun w' p' n' a b => by have := g2 _ _ _ a b; omega⟩
    · exact ⟨by omega, fun w' p' n' a b => (g5 _ _ _ a b).1⟩
  refine Or.inr ⟨hc, by unfold Lx3; omega, rfl, by omega, fun w' p' n' a b => ?_⟩
  rcases sp _ _ _ b with b | ⟨rfl, rfl, rfl⟩
  · have h4 := h3.2 _ _ _ a b
    exact ⟨by omega, fun e => by omega⟩
  · exact ⟨Int.le_refl _, fun _ b2 => by unfold Lx3 at b2; omega⟩
/-- what bestCut tells -/
def PartV (f : Int → Int) (a most v : Int) : Prop := ((f 1 = 0 ∨ f 0 = 10) ∧ v = -1) ∨ ((f 1 ≠ 0 ∧ f 0 ≠ 10) ∧ ∃ b0 b1 b2 b3, BstI f most (f 1) 0 1 b0 b1 b2 b3 ∧ v = if a = 0 then b0 else if a = 1 then b1 else if a = 2 then b2 else b3)
theorem bstI_u {B : Int} {f : Int → Int} {most b0 b1 b2 b3 c0 c1 c2 c3 : Int} (hR : RowOk B f) (hB : 0 ≤ B) (h1 : f 1 ≠ 0) (h0 : f 0 ≠ 10) (hm : 1 ≤ most ∧ most ≤ 5) (h : BstI f most (f 1) 0 1 b0 b1 b2 b3) (h' : BstI f most (f 1) 0 1 c0 c1 c2 c3) : b0 = c0 ∧ b1 = c1 ∧ b2 = c2 ∧ b3 = c3 := by
  have hW1 := hR.2.1.1
  have hw0 := (hR.2.1.2 0 (by omega) (by omega)).1.2.2.1
  have hc : Cd f most 0 0 1 := ⟨by omega, by omega, by omega, by omega⟩
  have hc5 : Cd f 5 0 0 1 := ⟨by omega, by omega, by omega, by omega⟩
  have hs := sav_0 hR hB h0 hc5
  have hl : Lx3 0 0 1 (f 1) 0 1 := by unfold Lx3; omega
  have tr : ∀ {a0 a1 a2 d0 d1 d2 : Int}, ¬ Lx3 a0 a1 a2 d0 d1 d2 → ¬ Lx3 d0 d1 d2 a0 a1 a2 → a0 = d0 ∧ a1 = d1 ∧ a2 = d2 := fun p q => by
    unfold Lx3 at p q
    omega
  rcases h with ⟨g1, g2⟩ | ⟨g1, g2, g3, g4, g5⟩
  · have := g2 _ _ _ hc hl; omega
  · rcases h' with ⟨k1, k2⟩ | ⟨k1, k2, k3, k4, k5⟩
    · have := k2 _ _ _ hc hl; omega
    · have e1 := g5 _ _ _ k1 k2
      have e2 := k5 _ _ _ g1 g2
      have e3 : b3 = c3 := by omega
      obtain ⟨q1, q2, q3⟩ := tr (e2.2 (by omega)) (e1.2 (by omega))
      exact ⟨q1, q2, q3, e3⟩
theorem partV_u {B : Int} {f : Int → Int} {a most v v' : Int} (hR : RowOk B f) (hB : 0 ≤ B) (hm : 1 ≤ most ∧ most ≤ 5) (h : PartV f a most v) (h' : PartV f a most v') : v = v' := by
  rcases h with ⟨h1, h2⟩ | ⟨h1, b0, b1, b2, b3, h2, h3⟩
  · rcases h' with ⟨g1, g2⟩ | ⟨g1, g2⟩
    · omega
    · omega
  · rcases h' with ⟨g1, g2⟩ | ⟨g1, c0, c1, c2, c3, g2, g3⟩
    · omega
    · obtain ⟨rfl, rfl, rfl, rfl⟩ := bstI_u hR hB h1.1 h1.2 hm h2 g2
      rw [h3, g3]
