/-! changed rows are rows -/
theorem RowOk_c {B : Int} {f g : Int → Int} (hk : ∀ q, 0 ≤ q → q < 195 → g q = f q) (h : RowOk B f) : RowOk B g := by
  obtain ⟨⟨a0, a1⟩, ⟨b0, b1⟩, c1, c2, c3, c4, c5, c6⟩ := h
  have e0 := hk 0 (by omega) (by omega)
  have e1 := hk 1 (by omega) (by omega)
  refine ⟨⟨by omega, fun s h1 h2 => ?_⟩, ⟨by omega, fun w h1 h2 => ?_⟩, fun s h1 h2 => ?_, by rw [hk 2 (by omega) (by omega)]; exact c2, by rw [hk 3 (by omega) (by omega)]; exact c3, by rw [hk 4 (by omega) (by omega)]; exact c4, by rw [hk 5 (by omega) (by omega)]; exact c5, by rw [hk 6 (by omega) (by omega)]; exact c6⟩
  · rw [e0] at h2
    exact StOk_c ⟨h1, by omega⟩ (fun k q1 q2 => hk _ (by omega) (by omega)) (a1 s h1 h2)
  · rw [e1] at h2
    obtain ⟨q1, q2⟩ := b1 w h1 h2
    exact ⟨WdOk_c (fun k q1 q2 => hk _ (by omega) (by omega)) q1, by rw [hk _ (by omega) (by omega)]; exact q2⟩
  · rw [e0] at h2
    rw [hk _ (by omega) (by omega), hk _ (by omega) (by omega), hk _ (by omega) (by omega)]
    exact c1 s h1 h2
theorem row_col {B w c : Int} {f : Int → Int} (hR : RowOk B f) (hw : 0 ≤ w ∧ w < f 1) (hc : 0 ≤ c ∧ c ≤ 3) : RowOk B (uf f (97 + 14 * w + 1) c) := by
  obtain ⟨⟨a0, a1⟩, ⟨b0, b1⟩, hI⟩ := hR
  have hk : ∀ k, k ≠ 97 + 14 * w + 1 → uf f (97 + 14 * w + 1) c k = f k := fun k h => uf_ne h
  have hv : uf f (97 + 14 * w + 1) c (97 + 14 * w + 1) = c := uf_eq _ _ _
  generalize uf f (97 + 14 * w + 1) c = g at hk hv ⊢
  have e0 := hk 0 (by omega)
  have e1 := hk 1 (by omega)
  obtain ⟨c1, c2, c3, c4, c5, c6⟩ := hI
  refine ⟨⟨by omega, fun s h1 h2 => ?_⟩, ⟨by omega, fun v h1 h2 => ?_⟩, fun s h1 h2 => ?_, by rw [hk 2 (by omega)]; exact c2, by rw [hk 3 (by omega)]; exact c3, by rw [hk 4 (by omega)]; exact c4, by rw [hk 5 (by omega)]; exact c5, by rw [hk 6 (by omega)]; exact c6⟩
  · rw [e0] at h2
    exact StOk_c ⟨h1, by omega⟩ (fun k q1 q2 => hk _ (by omega)) (a1 s h1 h2)
  · rw [e1] at h2
    obtain ⟨⟨p1, p2, p3, p4, p5⟩, q2⟩ := b1 v h1 h2
    refine ⟨⟨p1, p2, by rw [hk _ (by omega)]; exact p3, by rw [hk _ (by omega)]; exact p4, fun k q3 q4 => ?_⟩, ?_⟩
    · rw [hk _ (by omega)] at q4
      rw [hk _ (by omega)]
      exact p5 k q3 q4
    · by_cases e : v = w
      · rw [e, hv]; exact hc
      · rw [hk _ (by omega)]; exact q2
  · rw [e0] at h2
    rw [hk _ (by omega), hk _ (by omega), hk _ (by omega)]
    exact c1 s h1 h2
theorem row_lim {B a b : Int} {f : Int → Int} (hR : RowOk B f) (ha : 1 ≤ a ∧ a ≤ 200) (hb : 1 ≤ b ∧ b ≤ 20) : RowOk B (uf (uf f 2 a) 3 b) := by
  obtain ⟨⟨a0, a1⟩, ⟨b0, b1⟩, c1, c2, c3, c4, c5, c6⟩ := hR
  have hk : ∀ k, k ≠ 2 → k ≠ 3 → uf (uf f 2 a) 3 b k = f k := fun k h1 h2 => by rw [uf_ne h2, uf_ne h1]
  have h2 : uf (uf f 2 a) 3 b 2 = a := by rw [uf_ne (by omega), uf_eq]
  have h3 : uf (uf f 2 a) 3 b 3 = b := uf_eq _ _ _
  generalize uf (uf f 2 a) 3 b = g at hk h2 h3 ⊢
  have e0 := hk 0 (by omega) (by omega)
  have e1 := hk 1 (by omega) (by omega)
  refine ⟨⟨by omega, fun s h1 h2 => ?_⟩, ⟨by omega, fun v h1 h2 => ?_⟩, fun s h1 h2 => ?_, by omega, by omega, by rw [hk 4 (by omega) (by omega)]; exact c4, by rw [hk 5 (by omega) (by omega)]; exact c5, by rw [hk 6 (by omega) (by omega)]; exact c6⟩
  · rw [e0] at h2
    exact StOk_c ⟨h1, by omega⟩ (fun k q1 q2 => hk _ (by omega) (by omega)) (a1 s h1 h2)
  · rw [e1] at h2
    obtain ⟨q1, q2⟩ := b1 v h1 h2
    exact ⟨WdOk_c (fun k q1 q2 => hk _ (by omega) (by omega)) q1, by rw [hk _ (by omega) (by omega)]; exact q2⟩
  · rw [e0] at h2
    rw [hk _ (by omega) (by omega), hk _ (by omega) (by omega), hk _ (by omega) (by omega)]
    exact c1 s h1 h2
theorem clean_io {s : Int} {f : Int → Int} (hs : 0 ≤ s ∧ s ≤ 9) : InkOnly f (cleanR f s) := by
  have hk : ∀ k, k ≠ 6 → k ≠ 7 + 9 * s + 6 → k ≠ 7 + 9 * s + 7 → cleanR f s k = f k := fun k h1 h2 h3 => by
    unfold cleanR
    rw [uf_ne h3, uf_ne h2, uf_ne h1]
  exact ⟨hk _ (by omega) (by omega) (by omega), hk _ (by omega) (by omega) (by omega), hk _ (by omega) (by omega) (by omega), hk _ (by omega) (by omega) (by omega), fun t k a b c d => hk _ (by omega) (by omega) (by omega), fun k h => hk _ (by omega) (by omega) (by omega)⟩
theorem row_clean {B s : Int} {f : Int → Int} (hR : RowOk B f) (hB : 0 ≤ B) (hs : 0 ≤ s ∧ s < f 0) : RowOk (B + 1) (cleanR f s) := by
  have h0 := hR.1.1
  have io : InkOnly f (cleanR f s) := clean_io (by omega)
  refine ⟨io_st io hR.1, io_wd io hR.2.1, ?_⟩
  have hk : ∀ k, k ≠ 6 → k ≠ 7 + 9 * s + 6 → k ≠ 7 + 9 * s + 7 → cleanR f s k = f k := fun k h1 h2 h3 => by
    unfold cleanR
    rw [uf_ne h3, uf_ne h2, uf_ne h1]
  have k6 : cleanR f s 6 = f 6 + if f (7 + 9 * s + 6) = -1 then 0 else 1 := by
    unfold cleanR
    rw [uf_ne (by omega), uf_ne (by omega), uf_eq]
  have i6 : cleanR f s (7 + 9 * s + 6) = -1 := by
    unfold cleanR
    rw [uf_ne (by omega), uf_eq]
  have i7 : cleanR f s (7 + 9 * s + 7) = 0 := by
    unfold cleanR
    rw [uf_eq]
  generalize cleanR f s = g at hk k6 i6 i7 io ⊢
  obtain ⟨c1, c2, c3, c4, c5, c6⟩ := hR.2.2
  have e2 := hk 2 (by omega) (by omega) (by omega)
  have e3 := hk 3 (by omega) (by omega) (by omega)
  have e4 := hk 4 (by omega) (by omega) (by omega)
  have e5 := hk 5 (by omega) (by omega) (by omega)
  refine ⟨fun t h1 h2 => ?_, by omega, by omega, by omega, by omega, ?_⟩
  · rw [io.1] at h2
    have c := c1 t h1 h2
    by_cases e : t = s
    · subst e
      rw [i6, i7, hk _ (by omega) (by omega) (by omega)]
      omega
    · rw [hk _ (by omega) (by omega) (by omega), hk _ (by omega) (by omega) (by omega), hk _ (by omega) (by omega) (by omega)]
      omega
  · rw [k6]
    split <;> omega
theorem row_rem {B s : Int} {f : Int → Int} (hR : RowOk B f) (hs : 0 ≤ s ∧ s < f 0) : RowOk B (remR f s) := by
  obtain ⟨⟨a0, a1⟩, ⟨b0, b1⟩, c1, c2, c3, c4, c5, c6⟩ := hR
  have e0 : remR f s 0 = f 0 - 1 := remR_0
  have lo : ∀ k, k ≠ 0 → k < 7 + 9 * s → remR f s k = f k := fun k a b => remR_lo a b
  have hi : ∀ k, 97 ≤ k → remR f s k = f k := fun k a => remR_hi (by omega) (by omega)
  have mid : ∀ t k, 0 ≤ t → t < f 0 - 1 → 0 ≤ k → k ≤ 8 → remR f s (7 + 9 * t + k) = f (7 + 9 * (if t < s then t else t + 1) + k) := fun t k q1 q2 q3 q4 => by
    by_cases e : t < s
    · rw [if_pos e]; exact lo _ (by omega) (by omega)
    · rw [if_neg e, remR_in (by omega) (by omega)]; congr 1; omega
  generalize remR f s = g at e0 lo hi mid ⊢
  have e1 := lo 1 (by omega) (by omega)
  refine ⟨⟨by omega, fun t h1 h2 => ?_⟩, ⟨by omega, fun v h1 h2 => ?_⟩, fun t h1 h2 => ?_, by rw [lo 2 (by omega) (by omega)]; exact c2, by rw [lo 3 (by omega) (by omega)]; exact c3, by rw [lo 4 (by omega) (by omega)]; exact c4, by rw [lo 5 (by omega) (by omega)]; exact c5, by rw [lo 6 (by omega) (by omega)]; exact c6⟩
  · rw [e0] at h2
    have hu : 0 ≤ (if t < s then t else t + 1) ∧ (if t < s then t else t + 1) < f 0 := by split <;> omega
    obtain ⟨p1, p2, p3, p4, p5⟩ := a1 _ hu.1 hu.2
    have m0 := mid t 0 h1 h2 (by omega) (by omega)
    rw [Int.add_zero, Int.add_zero] at m0
    refine ⟨h1, by omega, by omega, by omega, fun k q1 q2 => ?_⟩
    have m1 := mid t (1 + k) h1 h2 (by omega) (by omega)
    rw [show 7 + 9 * t + (1 + k) = 7 + 9 * t + 1 + k by omega] at m1
    have p6 := p5 k q1 (by omega)
    rw [m1, show ∀ z : Int, 7 + 9 * z + (1 + k) = 7 + 9 * z + 1 + k from fun z => by omega]
    exact p6
  · rw [e1] at h2
    obtain ⟨q1, q2⟩ := b1 v h1 h2
    exact ⟨WdOk_c (fun k q1 q2 => hi _ (by omega)) q1, by rw [hi _ (by omega)]; exact q2⟩
  · rw [e0] at h2
    have hu : 0 ≤ (if t < s then t else t + 1) ∧ (if t < s then t else t + 1) < f 0 := by split <;> omega
    rw [mid t 6 h1 h2 (by omega) (by omega), mid t 7 h1 h2 (by omega) (by omega), mid t 8 h1 h2 (by omega) (by omega)]
    exact c1 _ hu.1 hu.2
theorem row_drop {B s : Int} {f : Int → Int} (hR : RowOk B f) (hs : 0 ≤ s ∧ s < f 1) : RowOk B (dropR f s) := by
  obtain ⟨⟨a0, a1⟩, ⟨b0, b1⟩, c1, c2, c3, c4, c5, c6⟩ := hR
  have e1 : dropR f s 1 = f 1 - 1 := dropR_1
  have lo : ∀ k, k ≠ 1 → k < 97 + 14 * s → dropR f s k = f k := fun k a b => dropR_lo a b
  have mid : ∀ t k, 0 ≤ t → t < f 1 - 1 → 0 ≤ k → k ≤ 13 → dropR f s (97 + 14 * t + k) = f (97 + 14 * (if t < s then t else t + 1) + k) := fun t k q1 q2 q3 q4 => by
    by_cases e : t < s
    · rw [if_pos e]; exact lo _ (by omega) (by omega)
    · rw [if_neg e, dropR_in (by omega) (by omega)]; congr 1; omega
  generalize dropR f s = g at e1 lo mid ⊢
  have e0 := lo 0 (by omega) (by omega)
  refine ⟨⟨by omega, fun t h1 h2 => ?_⟩, ⟨by omega, fun v h1 h2 => ?_⟩, fun t h1 h2 => ?_, by rw [lo 2 (by omega) (by omega)]; exact c2, by rw [lo 3 (by omega) (by omega)]; exact c3, by rw [lo 4 (by omega) (by omega)]; exact c4, by rw [lo 5 (by omega) (by omega)]; exact c5, by rw [lo 6 (by omega) (by omega)]; exact c6⟩
  · rw [e0] at h2
    exact StOk_c ⟨h1, by omega⟩ (fun k q1 q2 => lo _ (by omega) (by omega)) (a1 t h1 h2)
  · rw [e1] at h2
    have hu : 0 ≤ (if v < s then v else v + 1) ∧ (if v < s then v else v + 1) < f 1 := by split <;> omega
    obtain ⟨⟨p1, p2, p3, p4, p5⟩, p6⟩ := b1 _ hu.1 hu.2
    have m0 := mid v 0 h1 h2 (by omega) (by omega)
    rw [Int.add_zero, Int.add_zero] at m0
    have m9 := mid v 1 h1 h2 (by omega) (by omega)
    refine ⟨⟨h1, by omega, by omega, by omega, fun k q1 q2 => ?_⟩, by omega⟩
    have m1 := mid v (2 + k) h1 h2 (by omega) (by omega)
    rw [show 97 + 14 * v + (2 + k) = 97 + 14 * v + 2 + k by omega] at m1
    have p6 := p5 k q1 (by omega)
    rw [m1, show ∀ z : Int, 97 + 14 * z + (2 + k) = 97 + 14 * z + 2 + k from fun z => by omega]
    exact p6
  · rw [e0] at h2
    rw [lo _ (by omega) (by omega), lo _ (by omega) (by omega), lo _ (by omega) (by omega)]
    exact c1 t h1 h2
/-! the class's object over the changed row -/
theorem fitG_w {f g g9 : Int → Int} {K : Int} (h1 : g 1 = f 1) (hs : ∀ s k, 0 ≤ s → s < K → 0 ≤ k → k ≤ 5 → g (7 + 9 * s + k) = f (7 + 9 * s + k)) (hl : ∀ s, 0 ≤ s → s < K → f (7 + 9 * s) ≤ 5) (hw0 : ∀ w, 0 ≤ w → w < f 1 → g (97 + 14 * w) = f (97 + 14 * w)) (hw : ∀ w k, 0 ≤ w → w < f 1 → 2 ≤ k → k ≤ 13 → g (97 + 14 * w + k) = f (97 + 14 * w + k)) (hwl : ∀ w, 0 ≤ w → w < f 1 → f (97 + 14 * w) ≤ 12) (h : FitG f K g9) : FitG g K g9 := fun w p n a b c d e i => by
  rw [h1] at b
  have ew := hw0 w a b
  have hl2 := hwl w a b
  obtain ⟨u1, u2⟩ := h w p n a b c d e (by omega)
  refine ⟨u1, fun z z1 z2 => ?_⟩
  rw [u2 z z1 z2]
  have e0 : z / 2 < K → g (7 + 9 * (z / 2)) = f (7 + 9 * (z / 2)) := fun q => by
    have := hs (z / 2) 0 (by omega) q (by omega) (by omega)
    rwa [Int.add_zero] at this
  have ff : z / 2 < K → f (7 + 9 * (z / 2)) = n → (Fit f w p (z / 2) (z % 2) ↔ Fit g w p (z / 2) (z % 2)) := fun q1 q2 => by
    have h5 := hl (z / 2) (by omega) q1
    have e9 := e0 q1
    constructor
    · rintro ⟨k1, k2⟩
      refine ⟨by omega, fun k k3 k4 => ?_⟩
      have e8 := hw w (2 + p + k) a b (by omega) (by omega)
      rw [show 97 + 14 * w + (2 + p + k) = 97 + 14 * w + 2 + p + k by omega] at e8
      rw [prL_c (fun k d e => hs _ k (by omega) q1 d e) h5 ⟨k3, by omega⟩, e8]
      exact k2 k k3 (by omega)
    · rintro ⟨k1, k2⟩
      refine ⟨by omega, fun k k3 k4 => ?_⟩
      have e8 := hw w (2 + p + k) a b (by omega) (by omega)
      rw [show 97 + 14 * w + (2 + p + k) = 97 + 14 * w + 2 + p + k by omega] at e8
      have := k2 k k3 (by omega)
      rw [prL_c (fun k d e => hs _ k (by omega) q1 d e) h5 ⟨k3, by omega⟩, e8] at this
      exact this
  constructor
  · rintro ⟨q1, q2, q3⟩
    exact ⟨q1, by rw [e0 q1]; exact q2, (ff q1 q2).mp q3⟩
  · rintro ⟨q1, q2, q3⟩
    rw [e0 q1] at q2
    exact ⟨q1, q2, (ff q1 q2).mpr q3⟩
theorem ask_len {M : Nat → Int → Int} {x : Nat} {f : Int → Int} (h : AskR M x f) : (∀ s, 0 ≤ s → s < f 0 → f (7 + 9 * s) ≤ 5) ∧ ∀ w, 0 ≤ w → w < f 1 → f (97 + 14 * w) ≤ 12 := ⟨fun s a b => (h.1.1.1.2.2 s a b).1.2.2, fun w a b => (h.1.1.2.1.2.2 w a b).1.2.2⟩
theorem ask_col {M M2 : Nat → Int → Int} {x : Nat} {f : Int → Int} {w c : Int} (h : AskR M x f) (hx3 : 3 ≤ x) (hw : 0 ≤ w ∧ w < f 1) (h10 : f 0 ≤ 10) (hq : ∀ q, q ≠ x + 9 → M2 q = M q) (hn : M2 (x + 9) = uf (M (x + 9)) w c) : AskR M2 x (uf f (97 + 14 * w + 1) c) := by
  obtain ⟨l1, l2⟩ := ask_len h
  obtain ⟨⟨⟨a1, a2, a3, a4⟩, a5⟩, b, t⟩ := h
  have hk : ∀ k, k ≠ 97 + 14 * w + 1 → uf f (97 + 14 * w + 1) c k = f k := fun k h => uf_ne h
  have hv : uf f (97 + 14 * w + 1) c (97 + 14 * w + 1) = c := uf_eq _ _ _
  generalize uf f (97 + 14 * w + 1) c = g at hk hv ⊢
  have e0 := hk 0 (by omega)
  have e1 := hk 1 (by omega)
  refine ⟨⟨⟨str_c e0 l1 (fun s k p q r z => hk _ (by omega)) (StR_fr (fun q a b => hq q (by omega)) a1), ?_, fun v p q => ?_, lim_c (hk 2 (by omega)) (hk 3 (by omega)) (LimR_fr (fun q a b => hq q (by omega)) a4)⟩, ink_c e0 (fun s p q j r z => hk _ (by omega)) (hk 4 (by omega)) (hk 5 (by omega)) (hk 6 (by omega)) (InkR_fr (fun q a b => hq q (by omega)) a5)⟩, ?_, TurR_fr (fun q a b => hq q (by omega)) t⟩
  · have a9 := WdR_fr (fun q a b => hq q (by omega)) a2
    unfold WdR at a9 ⊢
    rw [e1]
    exact RowsR_c (fun i p q => (hk _ (by omega)).symm) (fun i j p q r z => by
      have z : j < f (97 + 14 * i) := z
      have := l2 i p q
      exact (hk _ (by omega)).symm) a9
  · rw [e1] at q
    rw [hn]
    by_cases e : v = w
    · rw [e, uf_eq, hv]
    · rw [uf_ne e, hk _ (by omega)]
      exact a3 v p q
  · unfold FitR at b ⊢
    rw [hq (x + 76 + 1) (by omega), e0]
    exact fitG_w e1 (fun s k p q r z => hk _ (by omega)) l1 (fun v p q => hk _ (by omega)) (fun v k p q r z => hk _ (by omega)) l2 b
theorem ask_lim {M M2 : Nat → Int → Int} {x : Nat} {f : Int → Int} {a b : Int} (h : AskR M x f) (hx3 : 3 ≤ x) (h10 : f 0 ≤ 10) (hq : ∀ q, q ≠ x + 2 → M2 q = M q) (hn : M2 (x + 2) 4 = a) (hn2 : M2 (x + 2) 5 = b) : AskR M2 x (uf (uf f 2 a) 3 b) := by
  obtain ⟨l1, l2⟩ := ask_len h
  obtain ⟨⟨⟨a1, a2, a3, a4⟩, a5⟩, bb, t⟩ := h
  have hk : ∀ k, k ≠ 2 → k ≠ 3 → uf (uf f 2 a) 3 b k = f k := fun k h1 h2 => by rw [uf_ne h2, uf_ne h1]
  have h2 : uf (uf f 2 a) 3 b 2 = a := by rw [uf_ne (by omega), uf_eq]
  have h3 : uf (uf f 2 a) 3 b 3 = b := uf_eq _ _ _
  generalize uf (uf f 2 a) 3 b = g at hk h2 h3 ⊢
  have e0 := hk 0 (by omega) (by omega)
  have e1 := hk 1 (by omega) (by omega)
  refine ⟨⟨⟨str_c e0 l1 (fun s k p q r z => hk _ (by omega) (by omega)) (StR_fr (fun q a b => hq q (by omega)) a1), wdr_c e1 (fun k p => hk _ (by omega) (by omega)) (WdR_fr (fun q a b => hq q (by omega)) a2), col_c e1 (fun k p => hk _ (by omega) (by omega)) (ColR_fr (fun q a b => hq q (by omega)) a3), ⟨hn.trans h2.symm, hn2.trans h3.symm⟩⟩, ink_c e0 (fun s p q j r z => hk _ (by omega) (by omega)) (hk 4 (by omega) (by omega)) (hk 5 (by omega) (by omega)) (hk 6 (by omega) (by omega)) (InkR_fr (fun q a b => hq q (by omega)) a5)⟩, ?_, TurR_fr (fun q a b => hq q (by omega)) t⟩
  unfold FitR at bb ⊢
  rw [hq (x + 76 + 1) (by omega), e0]
  exact fitG_w e1 (fun s k p q r z => hk _ (by omega) (by omega)) l1 (fun v p q => hk _ (by omega) (by omega)) (fun v k p q r z => hk _ (by omega) (by omega)) l2 bb
theorem ask_ink {M M2 : Nat → Int → Int} {x : Nat} {f g : Int → Int} (h : AskR M x f) (hx3 : 3 ≤ x) (h10 : f 0 ≤ 10) (io : InkOnly f g) (hq : ∀ q, (q < x + 10 ∨ x + 14 ≤ q) → M2 q = M q) (hn : InkR M2 (x + 10) g) : AskR M2 x g := by
  obtain ⟨l1, l2⟩ := ask_len h
  obtain ⟨⟨a1, a2⟩, b, t⟩ := h
  refine ⟨⟨io_shl io h10 (ShL_fr (fun q a b => hq q (by omega)) a1), hn⟩, ?_, TurR_fr (fun q a b => hq q (by omega)) t⟩
  obtain ⟨i0, i1, i2, i3, i4, i5⟩ := io
  unfold FitR at b ⊢
  rw [hq (x + 76 + 1) (by omega), i0]
  exact fitG_w i1 (fun s k p q r z => i4 s k p (by omega) r z) l1 (fun v p q => i5 _ (by omega)) (fun v k p q r z => i5 _ (by omega)) l2 b
theorem lim_uf {f : Int → Int} {a b : Int} : uf (uf f 2 a) 3 b = uf (uf f 2 a) 3 b := rfl
