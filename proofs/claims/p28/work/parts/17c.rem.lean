/-! a stamp taken out: what the other stamps still do -/
theorem set_ex (P : Int → Prop) : ∃ u, (0 ≤ u ∧ u < 1024) ∧ ∀ t, 0 ≤ t → t < 10 → (bs u t = true ↔ P t) := by
  have key : ∀ n : Nat, n ≤ 10 → ∃ u, (0 ≤ u ∧ u < 1024) ∧ ∀ t, 0 ≤ t → t < 10 → (bs u t = true ↔ t < n ∧ P t) := by
    intro n
    induction n with
    | zero => intro _; exact ⟨0, by omega, fun t a b => ⟨fun h => absurd h bs_0, fun h => by omega⟩⟩
    | succ n ih =>
      intro hn
      obtain ⟨u, h1, h2⟩ := ih (by omega)
      by_cases hp : P n
      · obtain ⟨g1, g2, g3⟩ := bs_or (x := u) (s := n) h1 (by omega)
        refine ⟨_, ⟨g1, g2⟩, fun t a b => ?_⟩
        rw [g3 t a b, h2 t a b]
        constructor
        · rintro (h | h)
          · exact ⟨by omega, h.2⟩
          · rw [h]; exact ⟨by omega, hp⟩
        · intro h
          by_cases e : t = n
          · exact Or.inr e
          · exact Or.inl ⟨by omega, h.2⟩
      · refine ⟨u, h1, fun t a b => ?_⟩
        rw [h2 t a b]
        constructor
        · intro h; exact ⟨by omega, h.2⟩
        · intro h
          by_cases e : t = n
          · rw [e] at h; exact absurd h.2 hp
          · exact ⟨by omega, h.2⟩
  obtain ⟨u, h1, h2⟩ := key 10 (Nat.le_refl _)
  exact ⟨u, h1, fun t a b => by rw [h2 t a b]; exact ⟨fun h => h.2, fun h => ⟨by omega, h⟩⟩⟩
section MV
variable {f g : Int → Int} {s t w p : Int}
theorem prL_mv {k d : Int} (h : ∀ k, 0 ≤ k → k ≤ 5 → g (7 + 9 * t + k) = f (7 + 9 * s + k)) (hl : f (7 + 9 * s) ≤ 5) (hk : 0 ≤ k ∧ k < f (7 + 9 * s)) : prL g t k d = prL f s k d := by
  have e0 := h 0 (by omega) (by omega)
  rw [Int.add_zero, Int.add_zero] at e0
  unfold prL
  by_cases hd : d = 0
  · rw [if_pos hd, if_pos hd]
    have e := h (1 + k) (by omega) (by omega)
    rwa [show 7 + 9 * t + (1 + k) = 7 + 9 * t + 1 + k by omega, show 7 + 9 * s + (1 + k) = 7 + 9 * s + 1 + k by omega] at e
  · rw [if_neg hd, if_neg hd, e0]
    have e := h (f (7 + 9 * s) - k) (by omega) (by omega)
    rw [show 7 + 9 * t + f (7 + 9 * s) - k = 7 + 9 * t + (f (7 + 9 * s) - k) by omega, e, show 7 + 9 * s + f (7 + 9 * s) - k = 7 + 9 * s + (f (7 + 9 * s) - k) by omega]
theorem len_mv (h : ∀ k, 0 ≤ k → k ≤ 5 → g (7 + 9 * t + k) = f (7 + 9 * s + k)) : g (7 + 9 * t) = f (7 + 9 * s) := by
  have e0 := h 0 (by omega) (by omega)
  rwa [Int.add_zero, Int.add_zero] at e0
theorem canT_mv (h : ∀ k, 0 ≤ k → k ≤ 5 → g (7 + 9 * t + k) = f (7 + 9 * s + k)) (hl : f (7 + 9 * s) ≤ 5) (hc : CanT f s) : CanT g t := fun k a b => by
  rw [len_mv h] at b
  have e := h (1 + k) (by omega) (by omega)
  rw [show 7 + 9 * t + (1 + k) = 7 + 9 * t + 1 + k by omega, show 7 + 9 * s + (1 + k) = 7 + 9 * s + 1 + k by omega] at e
  rw [e]
  exact hc k a b
theorem sameP_mv (h : ∀ k, 0 ≤ k → k ≤ 5 → g (7 + 9 * t + k) = f (7 + 9 * s + k)) (hl : f (7 + 9 * s) ≤ 5) (hc : SameP f s) : SameP g t := fun k a b => by
  rw [len_mv h] at b
  rw [prL_mv h hl ⟨a, b⟩, prL_mv h hl ⟨a, b⟩]
  exact hc k a b
theorem cnt_mv (h : ∀ k, 0 ≤ k → k ≤ 5 → g (7 + 9 * t + k) = f (7 + 9 * s + k)) (hl : f (7 + 9 * s) ≤ 5) (hc : Cnt f s) : Cnt g t :=
  ⟨canT_mv h hl hc.1, fun hs => hc.2 (sameP_mv (fun k a b => (h k a b).symm) (by rw [len_mv h]; exact hl) hs)⟩
theorem fit_mv {d : Int} (h : ∀ k, 0 ≤ k → k ≤ 5 → g (7 + 9 * t + k) = f (7 + 9 * s + k)) (hl : f (7 + 9 * s) ≤ 5) (hw : ∀ k, 97 ≤ k → g k = f k) (h0 : 0 ≤ w) (hp : 0 ≤ p) (hf : Fit f w p s d) : Fit g w p t d := by
  obtain ⟨h1, h2⟩ := hf
  have e0 := len_mv h
  refine ⟨by rw [e0, hw _ (by omega)]; exact h1, fun k a b => ?_⟩
  rw [e0] at b
  rw [prL_mv h hl ⟨a, b⟩, hw _ (by omega)]
  exact h2 k a b
theorem may_mv {x y : Int} (h : ∀ k, 0 ≤ k → k ≤ 5 → g (7 + 9 * t + k) = f (7 + 9 * s + k)) (hl : f (7 + 9 * s) ≤ 5) (hw : ∀ k, 97 ≤ k → g k = f k) (h0 : 0 ≤ w) (hp : 0 ≤ p) (ht : 0 ≤ t ∧ t < g 0) (hb : bs y t = true) (hf : May f w x p s) : May g w y p t := by
  obtain ⟨h1, h2, h3, h4, h5⟩ := hf
  refine ⟨ht.1, ht.2, hb, by rw [len_mv h, hw _ (by omega)]; exact h4, ?_⟩
  rcases h5 with h5 | ⟨h5, h6⟩
  · exact Or.inl (fit_mv h hl hw h0 hp h5)
  · exact Or.inr ⟨cnt_mv h hl h5, fit_mv h hl hw h0 hp h6⟩
end MV
section REM
variable {B : Int} {f : Int → Int} {s w u u' : Int}
theorem rem_lo {t k : Int} (ht : 0 ≤ t ∧ t < s) (hk : 0 ≤ k ∧ k ≤ 8) : remR f s (7 + 9 * t + k) = f (7 + 9 * t + k) := remR_lo (by omega) (by omega)
theorem rem_hi {t k : Int} (hs : 0 ≤ s) (ht : s ≤ t ∧ t < f 0 - 1) (hk : 0 ≤ k ∧ k ≤ 8) : remR f s (7 + 9 * t + k) = f (7 + 9 * (t + 1) + k) := by
  rw [remR_in (by omega) (by omega)]
  congr 1; omega
theorem rem_wd {k : Int} (h0 : f 0 ≤ 10) (hk : 97 ≤ k) : remR f s k = f k := remR_hi (by omega) (by omega)
/-- the number that a stamp had ahead -/
def was9 (s t : Int) : Int := if t < s then t else t + 1
theorem was_st {t : Int} (hs : 0 ≤ s ∧ s < f 0) (ht : 0 ≤ t ∧ t < f 0 - 1) : ∀ k, 0 ≤ k → k ≤ 8 → remR f s (7 + 9 * t + k) = f (7 + 9 * was9 s t + k) := fun k a b => by
  unfold was9
  split
  · exact rem_lo ⟨ht.1, by omega⟩ ⟨a, b⟩
  · exact rem_hi hs.1 ⟨by omega, ht.2⟩ ⟨a, b⟩
theorem was_r {t : Int} (hs : 0 ≤ s ∧ s < f 0) (ht : 0 ≤ t ∧ t < f 0 - 1) : 0 ≤ was9 s t ∧ was9 s t < f 0 ∧ was9 s t ≠ s := by
  unfold was9
  split <;> omega
theorem was_ex {t : Int} (hs : 0 ≤ s ∧ s < f 0) (ht : 0 ≤ t ∧ t < f 0) (hn : t ≠ s) : ∃ t', (0 ≤ t' ∧ t' < f 0 - 1) ∧ was9 s t' = t := by
  by_cases h : t < s
  · exact ⟨t, by omega, by unfold was9; rw [if_pos h]⟩
  · exact ⟨t - 1, by omega, by unfold was9; rw [if_neg (by omega)]; omega⟩
theorem lst_rem {L : Int → Int} (hA : StAll f) (hs : 0 ≤ s ∧ s < f 0) (hw : 0 ≤ w) (hns : ¬ bs u s = true) (hb : ∀ t, 0 ≤ t → t < f 0 - 1 → (bs u' t = true ↔ bs u (was9 s t) = true)) (h : Lst 100 f w u 0 L) : Lst 100 (remR f s) w u' 0 L := by
  have h0 := hA.1
  obtain ⟨h1, h2⟩ := h
  have hwd : ∀ k, 97 ≤ k → remR f s k = f k := fun k a => rem_wd h0.2 a
  refine ⟨by rw [hwd _ (by omega)]; exact h1, fun p a b => ?_⟩
  rw [hwd _ (by omega)] at b
  obtain ⟨g1, g2, g3⟩ := h2 p a b
  refine ⟨?_, g2, fun t ht => ?_⟩
  · rcases g1 with g1 | ⟨t, ht, e⟩
    · exact Or.inl g1
    · obtain ⟨t', k1, k2⟩ := was_ex hs ⟨ht.1, ht.2.1⟩ (fun e => hns (by rw [← e]; exact ht.2.2.1))
      have hst := was_st hs k1
      rw [k2] at hst
      have hl := (hA.2 t ht.1 ht.2.1).2.2.2.1
      refine Or.inr ⟨t', may_mv (fun k a b => hst k a (by omega)) hl hwd hw a (by rw [remR_0]; exact k1) ((hb t' k1.1 k1.2).mpr (by rw [k2]; exact ht.2.2.1)) ht, ?_⟩
      rw [len_mv (fun k a b => hst k a (by omega))]
      exact e
  · have ht1 : t < f 0 - 1 := by have := ht.2.1; rwa [remR_0] at this
    have hst := was_st hs ⟨ht.1, ht1⟩
    have hr := was_r hs ⟨ht.1, ht1⟩
    have hl := (hA.2 _ hr.1 hr.2.1).2.2.2.1
    rw [len_mv (fun k a b => hst k a (by omega))]
    refine g3 _ (may_mv (f := remR f s) (s := t) (fun k a b => (hst k a (by omega)).symm) (by rw [len_mv (fun k a b => hst k a (by omega))]; exact hl) (fun k a => (hwd k a).symm) hw a ⟨hr.1, hr.2.1⟩ ((hb t ht.1 ht1).mp ht.2.2.1) ht)
theorem lst_back {L : Int → Int} (hA : StAll f) (hs : 0 ≤ s ∧ s < f 0) (hw : 0 ≤ w) (hns : ¬ bs u s = true) (hb : ∀ t, 0 ≤ t → t < f 0 - 1 → (bs u' t = true ↔ bs u (was9 s t) = true)) (h : Lst 100 (remR f s) w u' 0 L) : Lst 100 f w u 0 L := by
  have h0 := hA.1
  obtain ⟨h1, h2⟩ := h
  have hwd : ∀ k, 97 ≤ k → remR f s k = f k := fun k a => rem_wd h0.2 a
  rw [hwd _ (by omega)] at h1
  refine ⟨h1, fun p a b => ?_⟩
  obtain ⟨g1, g2, g3⟩ := h2 p a (by rw [hwd _ (by omega)]; exact b)
  refine ⟨?_, g2, fun t ht => ?_⟩
  · rcases g1 with g1 | ⟨t, ht, e⟩
    · exact Or.inl g1
    · have ht1 : t < f 0 - 1 := by have := ht.2.1; rwa [remR_0] at this
      have hst := was_st hs ⟨ht.1, ht1⟩
      have hr := was_r hs ⟨ht.1, ht1⟩
      have hl := (hA.2 _ hr.1 hr.2.1).2.2.2.1
      rw [len_mv (fun k a b => hst k a (by omega))] at e
      exact Or.inr ⟨_, may_mv (f := remR f s) (s := t) (fun k a b => (hst k a (by omega)).symm) (by rw [len_mv (fun k a b => hst k a (by omega))]; exact hl) (fun k a => (hwd k a).symm) hw a ⟨hr.1, hr.2.1⟩ ((hb t ht.1 ht1).mp ht.2.2.1) ht, e⟩
  · obtain ⟨t', k1, k2⟩ := was_ex hs ⟨ht.1, ht.2.1⟩ (fun e => hns (by rw [← e]; exact ht.2.2.1))
    have hst := was_st hs k1
    rw [k2] at hst
    have hl := (hA.2 t ht.1 ht.2.1).2.2.2.1
    have := g3 t' (may_mv (fun k a b => hst k a (by omega)) hl hwd hw a (by rw [remR_0]; exact k1) ((hb t' k1.1 k1.2).mpr (by rw [k2]; exact ht.2.2.1)) ht)
    rwa [len_mv (fun k a b => hst k a (by omega))] at this
theorem hasX_rem (hA : StAll f) (hs : 0 ≤ s ∧ s < f 0) (hw : 0 ≤ w) (hns : ¬ bs u s = true) (hb : ∀ t, 0 ≤ t → t < f 0 - 1 → (bs u' t = true ↔ bs u (was9 s t) = true)) : HasX (remR f s) w u' ↔ HasX f w u := by
  constructor
  · rintro ⟨L, h1, h2⟩
    exact ⟨L, lst_back hA hs hw hns hb h1, h2⟩
  · rintro ⟨L, h1, h2⟩
    exact ⟨L, lst_rem hA hs hw hns hb h1, h2⟩
theorem hasP_x {x : Int} (hx : Fresh f x) : HasP f w ↔ HasX f w x := by
  constructor
  · rintro ⟨y, h1, h2⟩
    rw [← fresh_1 h1 hx]; exact h2
  · exact fun h => ⟨x, hx, h⟩
theorem rem_has (hR : RowOk B f) (hs : 0 ≤ s ∧ s < f 0) (hw : 0 ≤ w ∧ w < f 1) : HasP (remR f s) w ↔ HasP f w ∧ ¬ NdW f s w := by
  have hA := hR.1
  have h0 := hA.1
  have hk := (hR.2.1.2 w hw.1 hw.2).1
  obtain ⟨x, hx⟩ := fresh_ex h0
  obtain ⟨x', hx'⟩ := fresh_ex (row_rem hR hs).1.1
  obtain ⟨y1, y2, y3⟩ := bs_sub (x := x) (y := iL 1 s) ⟨hx.1, hx.2.1⟩ ⟨(bs_1 (by omega)).1, (bs_1 (by omega)).2.1⟩
  have b1 := (bs_1 (s := s) (by omega)).2.2
  have hns : ¬ bs (iA x (iX (iL 1 s) (-1))) s = true := fun h => ((y3 s hs.1 (by omega)).mp h).2 ((b1 s hs.1 (by omega)).mpr rfl)
  have hb : ∀ t, 0 ≤ t → t < f 0 - 1 → (bs x' t = true ↔ bs (iA x (iX (iL 1 s) (-1))) (was9 s t) = true) := fun t a b => by
    have hr := was_r hs ⟨a, b⟩
    have hst := was_st hs ⟨a, b⟩ 8 (by omega) (by omega)
    rw [hx'.2.2 t a (by omega), y3 _ hr.1 (by omega), hx.2.2 _ hr.1 (by omega), b1 _ hr.1 (by omega), hst, remR_0, remR_lo (k := 2) (by omega) (by omega)]
    exact ⟨fun h => ⟨⟨hr.2.1, h.2⟩, hr.2.2⟩, fun h => ⟨b, h.1.2⟩⟩
  rw [hasP_x hx', hasX_rem hA hs hw.1 hns hb, hasP_x hx]
  constructor
  · intro h
    exact ⟨hasX_mono hA hk (fun t a b c => ((y3 t a b).mp c).1) h, nd_f2 hx h⟩
  · intro h
    exact Classical.byContradiction (fun g => h.2 ⟨x, hx, h.1, g⟩)
theorem rem_num (hR : RowOk B f) (hs : 0 ≤ s ∧ s < f 0) : num (HasP (remR f s)) (f 1) = num (HasP f) (f 1) - num (NdW f s) (f 1) :=
  num_sub (fun i a b h => by
    obtain ⟨x, h1, h2, -⟩ := h
    exact ⟨x, h1, h2⟩) (fun i a b => rem_has hR hs ⟨a, b⟩)
theorem nd_le (hR : RowOk B f) : num (NdW f s) (f 1) ≤ num (HasP f) (f 1) := num_le hR.2.1.1.1 (fun i a b h => by
  obtain ⟨x, h1, h2, -⟩ := h
  exact ⟨x, h1, h2⟩)
/-- a set of stamps that are not worn out, with which each word has a plan -/
def GS (f : Int → Int) (u : Int) : Prop := (0 ≤ u ∧ u < 1024) ∧ (∀ t, 0 ≤ t → t < 10 → bs u t = true → t < f 0 ∧ ¬ Worn f t) ∧ AllW f u
theorem gs_all (hR : RowOk B f) (h : GS f u) : num (HasP f) (f 1) = f 1 := by
  obtain ⟨x, hx⟩ := fresh_ex hR.1.1
  refine num_each hR.2.1.1.1 (fun i a b => ⟨x, hx, hasX_mono hR.1 (hR.2.1.2 i a b).1 (fun t c d e => ?_) (h.2.2 i a b)⟩)
  have h1 := h.2.1 t c d e
  unfold Worn at h1
  exact (hx.2.2 t c d).mpr ⟨h1.1, by omega⟩
theorem gs_rem (hR : RowOk B f) (hs : 0 ≤ s ∧ s < f 0) (h : GS f u) (hns : ¬ bs u s = true) : ∃ u', GS (remR f s) u' ∧ ∀ t, 0 ≤ t → t < s → (bs u' t = true ↔ bs u t = true) := by
  have h0 := hR.1.1
  obtain ⟨u', h1, h2⟩ := set_ex (fun t => t < f 0 - 1 ∧ bs u (was9 s t) = true)
  refine ⟨u', ⟨h1, fun t a b c => ?_, fun w a b => ?_⟩, fun t a b => ?_⟩
  · obtain ⟨c1, c2⟩ := (h2 t a b).mp c
    have hr := was_r hs ⟨a, c1⟩
    have hst := was_st hs ⟨a, c1⟩ 8 (by omega) (by omega)
    have h3 := h.2.1 _ hr.1 (by omega) c2
    refine ⟨by rw [remR_0]; exact c1, ?_⟩
    unfold Worn at h3 ⊢
    rw [hst, remR_lo (by omega) (by omega)]
    exact h3.2
  · rw [remR_lo (by omega) (by omega)] at b
    refine (hasX_rem hR.1 hs a hns (fun t c d => ?_)).mpr (h.2.2 w a b)
    rw [h2 t c (by omega)]
    exact ⟨fun h => h.2, fun h => ⟨d, h⟩⟩
  · rw [h2 t a (by omega)]
    unfold was9
    rw [if_pos b]
    exact ⟨fun h => h.2, fun h => ⟨by omega, h⟩⟩
theorem sml_gs (hR : RowOk B f) {v : Int} (h : Sml f v) : (v = -1 ∧ num (HasP f) (f 1) < f 1) ∨ (v ≠ -1 ∧ num (HasP f) (f 1) = f 1 ∧ GS f v ∧ ∀ s, 0 ≤ s → s < f 0 → num (NdW f s) (f 1) ≠ 0 → bs v s = true) := by
  have hA := hR.1
  have h0 := hA.1
  obtain ⟨x, hx, h⟩ := h
  rcases h with ⟨h1, h2⟩ | ⟨h1, h2⟩
  · refine Or.inl ⟨h1, ?_⟩
    have hr := num_r (P := HasP f) hR.2.1.1.1
    have hne : num (HasP f) (f 1) ≠ f 1 := fun e => by
      have hall := num_all hR.2.1.1.1 e
      refine h2 x ⟨⟨hx.1, ?_⟩, fun t a b c => c, fun w a b => (hasP_x hx).mp (hall w a b)⟩
      obtain ⟨n, hn⟩ := Int.eq_ofNat_of_zero_le h0.1
      obtain ⟨y, hy⟩ := Int.eq_ofNat_of_zero_le hx.1
      rw [hn, iL_1 n (by omega), hy]
      have hlt : y < 2 ^ n := by
        apply Nat.lt_pow_two_of_testBit
        intro i hi
        by_cases hi10 : i < 10
        · have h3 := hx.2.2 (i : Int) (by omega) (by omega)
          unfold bs at h3
          rw [hy, Int.toNat_natCast, Int.toNat_natCast] at h3
          cases hb : y.testBit i with
          | false => rfl
          | true => rw [hb] at h3; have := (h3.mp rfl).1; omega
        · have h3 := hx.2.1
          rw [hy] at h3
          exact Nat.testBit_lt_two_pow (Nat.lt_of_lt_of_le (show y < 2 ^ 10 by omega) (Nat.pow_le_pow_right (by decide) (by omega)))
      exact Int.ofNat_lt.mpr hlt
    omega
  · have hgr := good_r h0 h1
    have hg : GS f v := ⟨hgr, fun t a b c => by
      have := (hx.2.2 t a b).mp (h1.2.1 t a b c)
      unfold Worn
      exact ⟨this.1, by omega⟩, h1.2.2⟩
    refine Or.inr ⟨by omega, gs_all hR hg, hg, fun s a b c => ?_⟩
    obtain ⟨w, hw, y, hy, h3, h4⟩ := num_pos hR.2.1.1.1 c
    rcases Bool.eq_false_or_eq_true (bs v s) with e | e
    · exact e
    · exfalso
      rw [fresh_1 hy hx] at h4
      refine h4 (hasX_mono hA (hR.2.1.2 w hw.1 hw.2).1 (fun t c d e2 => ?_) (h1.2.2 w hw.1 hw.2))
      obtain ⟨y1, y2, y3⟩ := bs_sub (x := x) (y := iL 1 s) ⟨hx.1, hx.2.1⟩ ⟨(bs_1 (by omega)).1, (bs_1 (by omega)).2.1⟩
      refine (y3 t c d).mpr ⟨h1.2.1 t c d e2, fun h5 => ?_⟩
      have := ((bs_1 (s := s) (by omega)).2.2 t c d).mp h5
      rw [this, e] at e2
      cases e2
end REM
