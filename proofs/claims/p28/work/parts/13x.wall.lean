/-! writing, as a function of the row -/
theorem StOk_c {f g : Int → Int} {s : Int} (hs : 0 ≤ s ∧ s ≤ 9) (h : ∀ k, 0 ≤ k → k ≤ 5 → g (7 + 9 * s + k) = f (7 + 9 * s + k)) (hf : StOk f s) : StOk g s := by
  obtain ⟨h1, h2, h3, h4, h5⟩ := hf
  have e0 := h 0 (by omega) (by omega)
  rw [Int.add_zero] at e0
  refine ⟨h1, h2, by omega, by omega, fun k a b => ?_⟩
  have e := h (1 + k) (by omega) (by omega)
  rw [show 7 + 9 * s + (1 + k) = 7 + 9 * s + 1 + k by omega] at e
  rw [e]
  exact h5 k a (by omega)
theorem WdOk_c {f g : Int → Int} {w : Int} (h : ∀ k, 0 ≤ k → k ≤ 13 → g (97 + 14 * w + k) = f (97 + 14 * w + k)) (hf : WdOk f w) : WdOk g w := by
  obtain ⟨h1, h2, h3, h4, h5⟩ := hf
  have e0 := h 0 (by omega) (by omega)
  rw [Int.add_zero] at e0
  refine ⟨h1, h2, by omega, by omega, fun k a b => ?_⟩
  have e := h (2 + k) (by omega) (by omega)
  rw [show 97 + 14 * w + (2 + k) = 97 + 14 * w + 2 + k by omega] at e
  rw [e]
  exact h5 k a (by omega)
/-- a change of inks, wear and counters alone -/
def InkOnly (f g : Int → Int) : Prop := g 0 = f 0 ∧ g 1 = f 1 ∧ g 2 = f 2 ∧ g 3 = f 3 ∧ (∀ s k, 0 ≤ s → s ≤ 9 → 0 ≤ k → k ≤ 5 → g (7 + 9 * s + k) = f (7 + 9 * s + k)) ∧ ∀ k, 97 ≤ k → g k = f k
theorem InkOnly.rf {f : Int → Int} : InkOnly f f := ⟨rfl, rfl, rfl, rfl, fun _ _ _ _ _ _ => rfl, fun _ _ => rfl⟩
theorem InkOnly.tr {f g h : Int → Int} (a : InkOnly f g) (b : InkOnly g h) : InkOnly f h := ⟨b.1.trans a.1, b.2.1.trans a.2.1, b.2.2.1.trans a.2.2.1, b.2.2.2.1.trans a.2.2.2.1, fun s k h1 h2 h3 h4 => (b.2.2.2.2.1 s k h1 h2 h3 h4).trans (a.2.2.2.2.1 s k h1 h2 h3 h4), fun k h => (b.2.2.2.2.2 k h).trans (a.2.2.2.2.2 k h)⟩
theorem prs1_io {col s : Int} {f : Int → Int} (hs : 0 ≤ s ∧ s ≤ 9) : InkOnly f (prs1 col s f) := ⟨prs1_k (by omega) (by omega) (by omega) (by omega) (by omega) (by omega), prs1_k (by omega) (by omega) (by omega) (by omega) (by omega) (by omega), prs1_k (by omega) (by omega) (by omega) (by omega) (by omega) (by omega), prs1_k (by omega) (by omega) (by omega) (by omega) (by omega) (by omega), fun t k h1 h2 h3 h4 => prs1_k (by omega) (by omega) (by omega) (by omega) (by omega) (by omega), fun k h => prs1_k (by omega) (by omega) (by omega) (by omega) (by omega) (by omega)⟩
theorem carN_io {col : Int} {f c : Int → Int} : ∀ (n : Nat), (∀ i : Int, 0 ≤ i → i < n → 0 ≤ c i ∧ c i / 2 ≤ 9) → InkOnly f (carN col c f n)
  | 0, _ => InkOnly.rf
  | n + 1, h => by
    have g := h n (by omega) (by omega)
    exact (carN_io n (fun i a b => h i a (by omega))).tr (prs1_io ⟨by omega, g.2⟩)
theorem io_st {f g : Int → Int} (h : InkOnly f g) (hA : StAll f) : StAll g := by
  refine ⟨by rw [h.1]; exact hA.1, fun s h1 h2 => ?_⟩
  rw [h.1] at h2
  have h3 := hA.1
  exact StOk_c ⟨h1, by omega⟩ (fun k a b => h.2.2.2.2.1 s k h1 (by omega) a b) (hA.2 s h1 h2)
theorem io_wd {f g : Int → Int} (h : InkOnly f g) (hA : WdAll f) : WdAll g := by
  refine ⟨by rw [h.2.1]; exact hA.1, fun w h1 h2 => ?_⟩
  rw [h.2.1] at h2
  have h3 := hA.2 w h1 h2
  refine ⟨WdOk_c (fun k a b => h.2.2.2.2.2 _ (by omega)) h3.1, ?_⟩
  rw [h.2.2.2.2.2 _ (by omega)]
  exact h3.2
theorem car_row {B col n : Int} {f c : Int → Int} (hR : RowOk B f) (hB : 0 ≤ B) (hc : 0 ≤ col ∧ col ≤ 3) (hn : 0 ≤ n) (hp : ∀ i, 0 ≤ i → i < n → 0 ≤ c i ∧ c i / 2 < f 0) : RowOk (B + n) (car col c f n) ∧ InkOnly f (car col c f n) := by
  have h0 := hR.1.1
  have io : InkOnly f (car col c f n) := carN_io _ (fun i a b => ⟨(hp i a (by omega)).1, by have := (hp i a (by omega)).2; omega⟩)
  exact ⟨⟨io_st io hR.1, io_wd io hR.2.1, (car_ink hB hc h0.2 hp hR.2.2 hn).1⟩, io⟩
theorem ink_le {B B' : Int} {f : Int → Int} (hB : B ≤ B') (h : InkOk B f) : InkOk B' f := by
  obtain ⟨h1, h2, h3, h4, h5, h6⟩ := h
  exact ⟨fun s a b => ⟨(h1 s a b).1, (h1 s a b).2.1, (h1 s a b).2.2.1, by have := (h1 s a b).2.2.2; omega⟩, h2, h3, by omega, by omega, by omega⟩
theorem row_le {B B' : Int} {f : Int → Int} (hB : B ≤ B') (h : RowOk B f) : RowOk B' f := ⟨h.1, h.2.1, ink_le hB h.2.2⟩
theorem carN_c {col : Int} {f c c' : Int → Int} : ∀ n : Nat, (∀ i : Int, 0 ≤ i → i < n → c i = c' i) → carN col c f n = carN col c' f n
  | 0, _ => rfl
  | n + 1, h => by
    show prs1 col (c n / 2) (carN col c f n) = prs1 col (c' n / 2) (carN col c' f n)
    rw [carN_c n (fun i a b => h i a (by omega)), h n (by omega) (by omega)]
theorem car_c {col n : Int} {f c c' : Int → Int} (h : ∀ i, 0 ≤ i → i < n → c i = c' i) : car col c f n = car col c' f n := carN_c _ (fun i a b => h i a (by omega))
def Can (f : Int → Int) (w : Int) : Prop := ∃ z : (Int → Int) × Int, Wrt f w z.1 z.2
theorem can_i {f : Int → Int} {w n : Int} {c : Int → Int} (h : Wrt f w c n) : Can f w := ⟨(c, n), h⟩
theorem can_n {f : Int → Int} {w : Int} (h : ∀ c n, ¬ Wrt f w c n) : ¬ Can f w := fun h2 => h2.elim (fun z hz => h z.1 z.2 hz)
/-- the row once word w is written; as it was, where it can't be -/
noncomputable def wrote (f : Int → Int) (w : Int) : Int → Int := @dite _ (Can f w) (Classical.propDecidable _) (fun h => car (f (97 + 14 * w + 1)) (Classical.choose h).1 f (Classical.choose h).2) (fun _ => f)
theorem wrote_t {f : Int → Int} {w n : Int} {c : Int → Int} (hA : StAll f) (hw : WdOk f w) (h : Wrt f w c n) : wrote f w = car (f (97 + 14 * w + 1)) c f n := by
  have hc := can_i h
  unfold wrote
  rw [@dif_pos _ (Classical.propDecidable _) hc]
  have h2 := Classical.choose_spec hc
  obtain ⟨e1, e2⟩ := wrt_u hA hw h2 h
  rw [e1] at e2 ⊢
  exact car_c e2
theorem wrote_f {f : Int → Int} {w : Int} (h : ¬ Can f w) : wrote f w = f := by
  unfold wrote
  rw [@dif_neg _ (Classical.propDecidable _) h]
noncomputable def wallN (f : Int → Int) : Nat → Int → Int
  | 0 => f
  | k + 1 => wrote (wallN f k) k
noncomputable def wall (f : Int → Int) (n : Int) : Int → Int := wallN f n.toNat
theorem wall_0 {f : Int → Int} : wall f 0 = f := rfl
theorem wall_s {f : Int → Int} {k : Int} (h : 0 ≤ k) : wall f (k + 1) = wrote (wall f k) k := by
  obtain ⟨n, rfl⟩ := Int.eq_ofNat_of_zero_le h
  rfl
theorem wrote_row {B w : Int} {f : Int → Int} (hR : RowOk B f) (hB : 0 ≤ B) (hw : 0 ≤ w ∧ w < f 1) : RowOk (B + 12) (wrote f w) ∧ InkOnly f (wrote f w) := by
  have h1 := hR.2.1.2 w hw.1 hw.2
  by_cases h : Can f w
  · obtain ⟨z, hz⟩ := h
    rw [wrote_t hR.1 h1.1 hz]
    have h2 := wrt_pl hR.1 h1.1 hz
    have h3 := car_row hR hB h1.2 h2.1.1 h2.2
    exact ⟨row_le (by omega) h3.1, h3.2⟩
  · rw [wrote_f h]
    exact ⟨row_le (by omega) hR, InkOnly.rf⟩
theorem wall_row {B : Int} {f : Int → Int} (hR : RowOk B f) (hB : 0 ≤ B) : ∀ k : Int, 0 ≤ k → k ≤ f 1 → RowOk (B + 12 * k) (wall f k) ∧ InkOnly f (wall f k) := by
  intro k h0
  obtain ⟨n, rfl⟩ := Int.eq_ofNat_of_zero_le h0
  clear h0
  induction n with
  | zero => intro _; exact ⟨row_le (by omega) hR, InkOnly.rf⟩
  | succ n ih =>
    intro hk
    obtain ⟨g1, g2⟩ := ih (by omega)
    rw [show ((n + 1 : Nat) : Int) = (n : Int) + 1 by omega, wall_s (by omega)]
    have := wrote_row g1 (by omega) (w := n) ⟨by omega, by rw [g2.2.1]; omega⟩
    exact ⟨row_le (by omega) this.1, g2.tr this.2⟩
