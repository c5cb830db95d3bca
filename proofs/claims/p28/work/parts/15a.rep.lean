/-! what the class holds, over the row f: rows of letters -/
def RowsF (c l t : Int → Int) (mr ml n : Int) (len : Int → Int) (lt : Int → Int → Int) : Prop := (c 0 = mr ∧ c 1 = ml ∧ c 4 = n) ∧ (0 ≤ n ∧ n ≤ mr) ∧ ∀ i, 0 ≤ i → i < n → (l i = len i ∧ 0 ≤ len i ∧ len i ≤ ml) ∧ ∀ j, 0 ≤ j → j < len i → t (i * 12 + j) = lt i j
def RowsR (M : Nat → Int → Int) (r : Nat) (mr ml n : Int) (len : Int → Int) (lt : Int → Int → Int) : Prop := RowsF (M r) (M (r + 1)) (M (r + 2)) mr ml n len lt
theorem RowsR_fr {M M2 : Nat → Int → Int} {r : Nat} {mr ml n : Int} {len : Int → Int} {lt : Int → Int → Int} (h : ∀ q, r ≤ q → q < r + 3 → M2 q = M q) (hr : RowsR M r mr ml n len lt) : RowsR M2 r mr ml n len lt := by
  unfold RowsR at hr ⊢
  rw [h r (by omega) (by omega), h (r + 1) (by omega) (by omega), h (r + 2) (by omega) (by omega)]
  exact hr
theorem rowsF_add {c l t : Int → Int} {mr ml v : Int} {len : Int → Int} {lt : Int → Int → Int} (h : RowsF c l t mr ml (c 4) len lt) (hn : 1 ≤ c 4) (hml : ml ≤ 12) (hl : l (c 4 - 1) < ml) : RowsF c (uf l (c 4 - 1) (l (c 4 - 1) + 1)) (uf t ((c 4 - 1) * 12 + l (c 4 - 1)) v) mr ml (c 4) (uf len (c 4 - 1) (len (c 4 - 1) + 1)) (fun i j => if i = c 4 - 1 ∧ j = len (c 4 - 1) then v else lt i j) := by
  obtain ⟨h1, h2, h3⟩ := h
  have h9 := (h3 (c 4 - 1) (by omega) (by omega)).1
  refine ⟨h1, h2, fun i a b => ?_⟩
  obtain ⟨g1, g2⟩ := h3 i a b
  by_cases e : i = c 4 - 1
  · subst e
    rw [uf_eq, uf_eq]
    refine ⟨by omega, fun j q1 q2 => ?_⟩
    show _ = if c 4 - 1 = c 4 - 1 ∧ j = len (c 4 - 1) then v else lt (c 4 - 1) j
    by_cases e2 : j = len (c 4 - 1)
    · rw [if_pos ⟨rfl, e2⟩, uf_at _ _ (by omega)]
    · rw [if_neg (fun z => e2 z.2), uf_ne (by omega)]
      exact g2 j q1 (by omega)
  · rw [uf_ne e, uf_ne e]
    refine ⟨g1, fun j q1 q2 => ?_⟩
    show _ = if i = c 4 - 1 ∧ j = len (c 4 - 1) then v else lt i j
    rw [if_neg (fun z => e z.1), uf_ne (by omega)]
    exact g2 j q1 q2
theorem rowsF_open {c l t : Int → Int} {mr ml : Int} {len : Int → Int} {lt : Int → Int → Int} (h : RowsF c l t mr ml (c 4) len lt) (hn : c 4 < mr) (h0 : 0 ≤ ml) : RowsF (uf c 4 (c 4 + 1)) (uf l (c 4) 0) t mr ml (c 4 + 1) (uf len (c 4) 0) lt := by
  obtain ⟨h1, h2, h3⟩ := h
  refine ⟨⟨by rw [uf_ne (by omega)]; exact h1.1, by rw [uf_ne (by omega)]; exact h1.2.1, uf_eq _ _ _⟩, by omega, fun i a b => ?_⟩
  by_cases e : i = c 4
  · subst e
    rw [uf_eq, uf_eq]
    exact ⟨by omega, fun j q1 q2 => by omega⟩
  · rw [uf_ne e, uf_ne e]
    exact h3 i a (by omega)
theorem rowsF_out {c l t : Int → Int} {mr ml s : Int} {len : Int → Int} {lt : Int → Int → Int} (h : RowsF c l t mr ml (c 4) len lt) (hml : ml ≤ 12) (hs : 0 ≤ s ∧ s < c 4) : RowsF (uf c 4 (c 4 - 1)) (rcp l (s + 1) l s (c 4 - (s + 1))) (rcp t ((s + 1) * 12) t (s * 12) ((c 4 - (s + 1)) * 12)) mr ml (c 4 - 1) (fun i => if i < s then len i else len (i + 1)) (fun i j => if i < s then lt i j else lt (i + 1) j) := by
  obtain ⟨h1, h2, h3⟩ := h
  refine ⟨⟨by rw [uf_ne (by omega)]; exact h1.1, by rw [uf_ne (by omega)]; exact h1.2.1, uf_eq _ _ _⟩, by omega, fun i a b => ?_⟩
  by_cases e : i < s
  · obtain ⟨g1, g2⟩ := h3 i a (by omega)
    have e1 : (fun i => if i < s then len i else len (i + 1)) i = len i := if_pos e
    have e2 : ∀ j, (fun i j => if i < s then lt i j else lt (i + 1) j) i j = lt i j := fun j => if_pos e
    rw [e1, rcp_out (by omega)]
    refine ⟨g1, fun j q1 q2 => ?_⟩
    rw [e2, rcp_out (by omega)]
    exact g2 j q1 q2
  · obtain ⟨g1, g2⟩ := h3 (i + 1) (by omega) (by omega)
    have e1 : (fun i => if i < s then len i else len (i + 1)) i = len (i + 1) := if_neg e
    have e2 : ∀ j, (fun i j => if i < s then lt i j else lt (i + 1) j) i j = lt (i + 1) j := fun j => if_neg e
    rw [e1, rcp_in (by omega), show s + 1 + (i - s) = i + 1 by omega]
    refine ⟨g1, fun j q1 q2 => ?_⟩
    rw [e2, rcp_in (by omega), show (s + 1) * 12 + (i * 12 + j - s * 12) = (i + 1) * 12 + j by omega]
    exact g2 j q1 q2
theorem rowsF_cp {c l t c' l' t' : Int → Int} {mr ml n : Int} {len : Int → Int} {lt : Int → Int → Int} (h : RowsF c' l' t' mr ml n len lt) (h0 : c 0 = mr) (h1 : c 1 = ml) (hm : mr ≤ 10) (hml : ml ≤ 12) : RowsF (uf c 4 (c' 4)) (rcp l' 0 l 0 10) (rcp t' 0 t 0 120) mr ml n len lt := by
  obtain ⟨g1, g2, g3⟩ := h
  refine ⟨⟨by rw [uf_ne (by omega)]; exact h0, by rw [uf_ne (by omega)]; exact h1, by rw [uf_eq]; exact g1.2.2⟩, g2, fun i a b => ?_⟩
  obtain ⟨k1, k2⟩ := g3 i a b
  refine ⟨by rw [rcp_in (by omega), show 0 + (i - 0) = i by omega]; exact k1, fun j q1 q2 => ?_⟩
  rw [rcp_in (by omega), show 0 + (i * 12 + j - 0) = i * 12 + j by omega]
  exact k2 j q1 q2
/-! inks -/
def InkF (b i a w f : Int → Int) : Prop := (b 3 = f 4 ∧ b 4 = f 5 ∧ b 5 = f 6) ∧ ∀ s, 0 ≤ s → s < f 0 → i s = f (7 + 9 * s + 6) ∧ a s = f (7 + 9 * s + 7) ∧ w s = f (7 + 9 * s + 8)
def InkR (M : Nat → Int → Int) (k : Nat) (f : Int → Int) : Prop := InkF (M k) (M (k + 1)) (M (k + 2)) (M (k + 3)) f
theorem InkR_fr {M M2 : Nat → Int → Int} {k : Nat} {f : Int → Int} (h : ∀ q, k ≤ q → q < k + 4 → M2 q = M q) (hr : InkR M k f) : InkR M2 k f := by
  unfold InkR at hr ⊢
  rw [h k (by omega) (by omega), h (k + 1) (by omega) (by omega), h (k + 2) (by omega) (by omega), h (k + 3) (by omega) (by omega)]
  exact hr
theorem inkF_prs {b i a w b' i' a' w' f : Int → Int} {col s ld : Int} (h : InkF b i a w f) (hs : 0 ≤ s ∧ s < f 0) (hld : ld = f 3) (h3 : b' 3 = b 3 + 1) (h4 : b' 4 = b 4 + if i s = col ∧ a s ≠ 0 then 0 else 1) (h5 : b' 5 = b 5 + if i s ≠ col ∧ i s ≠ -1 then 1 else 0) (hi : ∀ q, i' q = if q = s then col else i q) (ha : ∀ q, a' q = if q = s then (if i s = col ∧ a s ≠ 0 then a s else ld) - 1 else a q) (hw : ∀ q, w' q = if q = s then w s + 1 else w q) : InkF b' i' a' w' (prs1 col s f) := by
  obtain ⟨⟨g3, g4, g5⟩, g6⟩ := h
  obtain ⟨e1, e2, e3⟩ := g6 s hs.1 hs.2
  rw [e1, e2] at h4 ha
  rw [e1] at h5
  rw [e3] at hw
  have e0 : prs1 col s f 0 = f 0 := prs1_0 hs.1
  refine ⟨⟨?_, ?_, ?_⟩, fun q q1 q2 => ?_⟩
  · unfold prs1
    rw [if_neg (by omega), if_neg (by omega), if_neg (by omega), if_pos rfl, h3, g3]
  · unfold prs1
    rw [if_neg (by omega), if_neg (by omega), if_neg (by omega), if_neg (by omega), if_pos rfl, h4, g4]
  · unfold prs1
    rw [if_neg (by omega), if_neg (by omega), if_neg (by omega), if_neg (by omega), if_neg (by omega), if_pos rfl, h5, g5]
  · rw [e0] at q2
    obtain ⟨k1, k2, k3⟩ := g6 q q1 q2
    rw [hi, ha, hw]
    by_cases e : q = s
    · subst e
      rw [if_pos rfl, if_pos rfl, if_pos rfl, hld]
      refine ⟨?_, ?_, ?_⟩
      · unfold prs1
        rw [if_pos rfl]
      · have e7 : prs1 col q f (7 + 9 * q + 7) = (if f (7 + 9 * q + 6) = col ∧ f (7 + 9 * q + 7) ≠ 0 then f (7 + 9 * q + 7) else f 3) - 1 := by
          unfold prs1
          rw [if_neg (by omega), if_pos rfl]
        exact e7.symm
      · unfold prs1
        rw [if_neg (by omega), if_neg (by omega), if_pos rfl]
    · rw [if_neg e, if_neg e, if_neg e, prs1_k (by omega) (by omega) (by omega) (by omega) (by omega) (by omega), prs1_k (by omega) (by omega) (by omega) (by omega) (by omega) (by omega), prs1_k (by omega) (by omega) (by omega) (by omega) (by omega) (by omega)]
      exact ⟨k1, k2, k3⟩
theorem remR_0 {f : Int → Int} {s : Int} : remR f s 0 = f 0 - 1 := if_pos rfl
theorem remR_lo {f : Int → Int} {s k : Int} (h0 : k ≠ 0) (hk : k < 7 + 9 * s) : remR f s k = f k := by
  unfold remR
  rw [if_neg h0, if_neg (by omega)]
theorem remR_in {f : Int → Int} {s k : Int} (h0 : k ≠ 0) (hk : 7 + 9 * s ≤ k ∧ k < 7 + 9 * (f 0 - 1)) : remR f s k = f (k + 9) := by
  unfold remR
  rw [if_neg h0, if_pos hk]
theorem remR_hi {f : Int → Int} {s k : Int} (h0 : k ≠ 0) (hk : 7 + 9 * (f 0 - 1) ≤ k) : remR f s k = f k := by
  unfold remR
  rw [if_neg h0, if_neg (by omega)]
theorem inkF_out {b i a w f : Int → Int} {s : Int} (h : InkF b i a w f) (hs : 0 ≤ s ∧ s < f 0) (h0 : f 0 ≤ 10) : InkF b (rcp i (s + 1) i s (9 - s)) (rcp a (s + 1) a s (9 - s)) (rcp w (s + 1) w s (9 - s)) (remR f s) := by
  obtain ⟨⟨g3, g4, g5⟩, g6⟩ := h
  refine ⟨⟨by rw [remR_lo (by omega) (by omega)]; exact g3, by rw [remR_lo (by omega) (by omega)]; exact g4, by rw [remR_lo (by omega) (by omega)]; exact g5⟩, fun q q1 q2 => ?_⟩
  rw [remR_0] at q2
  by_cases e : q < s
  · rw [rcp_out (by omega), rcp_out (by omega), rcp_out (by omega), remR_lo (by omega) (by omega), remR_lo (by omega) (by omega), remR_lo (by omega) (by omega)]
    exact g6 q q1 (by omega)
  · rw [rcp_in (by omega), rcp_in (by omega), rcp_in (by omega), remR_in (by omega) (by omega), remR_in (by omega) (by omega), remR_in (by omega) (by omega), show s + 1 + (q - s) = q + 1 by omega, show 7 + 9 * q + 6 + 9 = 7 + 9 * (q + 1) + 6 by omega, show 7 + 9 * q + 7 + 9 = 7 + 9 * (q + 1) + 7 by omega, show 7 + 9 * q + 8 + 9 = 7 + 9 * (q + 1) + 8 by omega]
    exact g6 (q + 1) (by omega) (by omega)
theorem inkF_cp {b i a w b' i' a' w' f : Int → Int} (h : InkF b' i' a' w' f) (h0 : f 0 ≤ 10) : InkF (uf (uf (uf b 3 (b' 3)) 4 (b' 4)) 5 (b' 5)) (rcp i' 0 i 0 10) (rcp a' 0 a 0 10) (rcp w' 0 w 0 10) f := by
  obtain ⟨⟨g3, g4, g5⟩, g6⟩ := h
  refine ⟨⟨by rw [uf_ne (by omega), uf_ne (by omega), uf_eq]; exact g3, by rw [uf_ne (by omega), uf_eq]; exact g4, by rw [uf_eq]; exact g5⟩, fun q q1 q2 => ?_⟩
  rw [rcp_in (by omega), rcp_in (by omega), rcp_in (by omega), show 0 + (q - 0) = q by omega]
  exact g6 q q1 q2
theorem inkF_cln {b i a w f : Int → Int} {s c : Int} (h : InkF b i a w f) (hs : 0 ≤ s ∧ s < f 0) (hc : c = b 5 + if f (7 + 9 * s + 6) = -1 then 0 else 1) : InkF (uf b 5 c) (uf i s (-1)) (uf a s 0) w (cleanR f s) := by
  obtain ⟨⟨g3, g4, g5⟩, g6⟩ := h
  have e0 : cleanR f s 0 = f 0 := by unfold cleanR; rw [uf_ne (by omega), uf_ne (by omega), uf_ne (by omega)]
  refine ⟨⟨?_, ?_, ?_⟩, fun q q1 q2 => ?_⟩
  · unfold cleanR
    rw [uf_ne (by omega), uf_ne (by omega), uf_ne (by omega), uf_ne (by omega)]; exact g3
  · unfold cleanR
    rw [uf_ne (by omega), uf_ne (by omega), uf_ne (by omega), uf_ne (by omega)]; exact g4
  · unfold cleanR
    rw [uf_eq, uf_ne (by omega), uf_ne (by omega), uf_eq, hc, g5]
  · rw [e0] at q2
    obtain ⟨k1, k2, k3⟩ := g6 q q1 q2
    by_cases e : q = s
    · subst e
      unfold cleanR
      rw [uf_eq, uf_eq]
      refine ⟨?_, ?_, ?_⟩
      · rw [uf_ne (by omega), uf_eq]
      · rw [uf_eq]
      · rw [uf_ne (by omega), uf_ne (by omega), uf_ne (by omega)]; exact k3
    · unfold cleanR
      rw [uf_ne e, uf_ne e]
      refine ⟨?_, ?_, ?_⟩
      · rw [uf_ne (by omega), uf_ne (by omega), uf_ne (by omega)]; exact k1
      · rw [uf_ne (by omega), uf_ne (by omega), uf_ne (by omega)]; exact k2
      · rw [uf_ne (by omega), uf_ne (by omega), uf_ne (by omega)]; exact k3
theorem inkF_new {b i a w f : Int → Int} {v p n : Int} (h : InkF b i a w f) (h0 : 0 ≤ f 0 ∧ f 0 ≤ 9) (hn : n ≤ 5) : InkF b (uf i (f 0) (-1)) (uf a (f 0) 0) (uf w (f 0) 0) (cutR f v p n) := by
  obtain ⟨⟨g3, g4, g5⟩, g6⟩ := h
  refine ⟨⟨by rw [cutR_lo (by omega) (by omega)]; exact g3, by rw [cutR_lo (by omega) (by omega)]; exact g4, by rw [cutR_lo (by omega) (by omega)]; exact g5⟩, fun q q1 q2 => ?_⟩
  rw [cutR_0] at q2
  by_cases e : q = f 0
  · subst e
    rw [uf_eq, uf_eq, uf_eq]
    refine ⟨?_, ?_, ?_⟩
    · unfold cutR
      rw [if_neg (by omega), if_neg (by omega), if_neg (by omega), if_pos rfl]
    · unfold cutR
      rw [if_neg (by omega), if_neg (by omega), if_neg (by omega), if_neg (by omega), if_pos (by omega)]
    · unfold cutR
      rw [if_neg (by omega), if_neg (by omega), if_neg (by omega), if_neg (by omega), if_pos (by omega)]
  · rw [uf_ne e, uf_ne e, uf_ne e, cutR_lo (by omega) (by omega), cutR_lo (by omega) (by omega), cutR_lo (by omega) (by omega)]
    exact g6 q q1 (by omega)
/-! a sheet: letters, colors, limit and load; and its inks -/
def StR (M : Nat → Int → Int) (r : Nat) (f : Int → Int) : Prop := RowsR M r 10 5 (f 0) (fun s => f (7 + 9 * s)) (fun s j => f (7 + 9 * s + 1 + j))
def WdR (M : Nat → Int → Int) (r : Nat) (f : Int → Int) : Prop := RowsR M r 7 12 (f 1) (fun w => f (97 + 14 * w)) (fun w j => f (97 + 14 * w + 2 + j))
def ColR (M : Nat → Int → Int) (r : Nat) (f : Int → Int) : Prop := ∀ w, 0 ≤ w → w < f 1 → M r w = f (97 + 14 * w + 1)
def LimR (M : Nat → Int → Int) (k : Nat) (f : Int → Int) : Prop := M k 4 = f 2 ∧ M k 5 = f 3
def ShL (M : Nat → Int → Int) (k : Nat) (f : Int → Int) : Prop := StR M (k + 1) f ∧ WdR M (k + 4) f ∧ ColR M (k + 7) f ∧ LimR M k f
def Sht (M : Nat → Int → Int) (k : Nat) (f : Int → Int) : Prop := ShL M k f ∧ InkR M (k + 8) f
theorem StR_fr {M M2 : Nat → Int → Int} {r : Nat} {f : Int → Int} (h : ∀ q, r ≤ q → q < r + 3 → M2 q = M q) (hr : StR M r f) : StR M2 r f := RowsR_fr h hr
theorem WdR_fr {M M2 : Nat → Int → Int} {r : Nat} {f : Int → Int} (h : ∀ q, r ≤ q → q < r + 3 → M2 q = M q) (hr : WdR M r f) : WdR M2 r f := RowsR_fr h hr
theorem ColR_fr {M M2 : Nat → Int → Int} {r : Nat} {f : Int → Int} (h : ∀ q, r ≤ q → q < r + 1 → M2 q = M q) (hr : ColR M r f) : ColR M2 r f := fun w a b => by
  rw [h r (by omega) (by omega)]
  exact hr w a b
theorem ShL_fr {M M2 : Nat → Int → Int} {k : Nat} {f : Int → Int} (h : ∀ q, k ≤ q → q < k + 8 → M2 q = M q) (hr : ShL M k f) : ShL M2 k f :=
  ⟨StR_fr (fun q a b => h q (by omega) (by omega)) hr.1, WdR_fr (fun q a b => h q (by omega) (by omega)) hr.2.1, ColR_fr (fun q a b => h q (by omega) (by omega)) hr.2.2.1, by
    have e := hr.2.2.2
    unfold LimR at e ⊢
    rw [h k (by omega) (by omega)]
    exact e⟩
theorem Sht_fr {M M2 : Nat → Int → Int} {k : Nat} {f : Int → Int} (h : ∀ q, k ≤ q → q < k + 12 → M2 q = M q) (hr : Sht M k f) : Sht M2 k f :=
  ⟨ShL_fr (fun q a b => h q a (by omega)) hr.1, InkR_fr (fun q a b => h q (by omega) (by omega)) hr.2⟩
/-- letters stay where inks alone change -/
theorem io_shl {M : Nat → Int → Int} {k : Nat} {f g : Int → Int} (io : InkOnly f g) (h0 : f 0 ≤ 10) (h : ShL M k f) : ShL M k g := by
  obtain ⟨h1, h2, h3, h4⟩ := h
  obtain ⟨i0, i1, i2, i3, i4, i5⟩ := io
  refine ⟨?_, ?_, fun w a b => ?_, ?_⟩
  · obtain ⟨g1, g2, g3⟩ := h1
    refine ⟨⟨g1.1, g1.2.1, by rw [i0]; exact g1.2.2⟩, by rw [i0]; exact g2, fun s a b => ?_⟩
    rw [i0] at b
    obtain ⟨k1, k2⟩ := g3 s a b
    have e0 := i4 s 0 a (by omega) (by omega) (by omega)
    rw [Int.add_zero] at e0
    have k1 : M (k + 1 + 1) s = f (7 + 9 * s) ∧ 0 ≤ f (7 + 9 * s) ∧ f (7 + 9 * s) ≤ 5 := k1
    have k2 : ∀ j, 0 ≤ j → j < f (7 + 9 * s) → M (k + 1 + 2) (s * 12 + j) = f (7 + 9 * s + 1 + j) := k2
    show (M (k + 1 + 1) s = g (7 + 9 * s) ∧ 0 ≤ g (7 + 9 * s) ∧ g (7 + 9 * s) ≤ 5) ∧ ∀ j, 0 ≤ j → j < g (7 + 9 * s) → M (k + 1 + 2) (s * 12 + j) = g (7 + 9 * s + 1 + j)
    rw [e0]
    refine ⟨k1, fun j c d => ?_⟩
    have e := i4 s (1 + j) a (by omega) (by omega) (by omega)
    rw [show 7 + 9 * s + (1 + j) = 7 + 9 * s + 1 + j by omega] at e
    rw [e]
    exact k2 j c d
  · obtain ⟨g1, g2, g3⟩ := h2
    refine ⟨⟨g1.1, g1.2.1, by rw [i1]; exact g1.2.2⟩, by rw [i1]; exact g2, fun s a b => ?_⟩
    rw [i1] at b
    have k9 := g3 s a b
    have k1 : M (k + 4 + 1) s = f (97 + 14 * s) ∧ 0 ≤ f (97 + 14 * s) ∧ f (97 + 14 * s) ≤ 12 := k9.1
    have k2 : ∀ j, 0 ≤ j → j < f (97 + 14 * s) → M (k + 4 + 2) (s * 12 + j) = f (97 + 14 * s + 2 + j) := k9.2
    show (M (k + 4 + 1) s = g (97 + 14 * s) ∧ 0 ≤ g (97 + 14 * s) ∧ g (97 + 14 * s) ≤ 12) ∧ ∀ j, 0 ≤ j → j < g (97 + 14 * s) → M (k + 4 + 2) (s * 12 + j) = g (97 + 14 * s + 2 + j)
    rw [i5 _ (by omega)]
    refine ⟨k1, fun j c d => ?_⟩
    rw [i5 _ (by omega)]
    exact k2 j c d
  · rw [i1] at b
    rw [i5 _ (by omega)]
    exact h3 w a b
  · exact ⟨h4.1.trans i2.symm, h4.2.trans i3.symm⟩
/-! the class's small calls on rows of letters -/
theorem k_has {S : SD} {M : Nat → Int → Int} {r : Nat} {mr ml n row : Int} {len : Int → Int} {lt : Int → Int → Int} (hS : isRows S r) (h : RowsR M r mr ml n len lt) (hm : mr ≤ 10) {Q : Res → Wd → Prop} (k : ∀ b : Int, (b = 1 ∧ (0 ≤ row ∧ row < n)) ∨ (b = 0 ∧ ¬ (0 ≤ row ∧ row < n)) → Q (0, vI b) (M, S)) : EvQ 1 41 [vR r, vI row] (M, S) Q := by
  obtain ⟨h1, h2, h3⟩ := h
  exact q_has hS (fun b hb => k b (by omega))
theorem k_hasLetter {S : SD} {M : Nat → Int → Int} {r : Nat} {mr ml n row i : Int} {len : Int → Int} {lt : Int → Int → Int} (hS : isRows S r) (h : RowsR M r mr ml n len lt) (hm : mr ≤ 10) (hml : ml ≤ 12) {Q : Res → Wd → Prop} (k : ∀ b : Int, (b = 1 ∧ (0 ≤ row ∧ row < n) ∧ 0 ≤ i ∧ i < len row) ∨ (b = 0 ∧ ¬ ((0 ≤ row ∧ row < n) ∧ 0 ≤ i ∧ i < len row)) → Q (0, vI b) (M, S)) : EvQ 1 42 [vR r, vI row, vI i] (M, S) Q := by
  obtain ⟨h1, h2, h3⟩ := h
  refine q_hasLetter hS (fun b hb => k b ?_)
  by_cases e : 0 ≤ row ∧ row < n
  · have h4 := (h3 row e.1 e.2).1
    omega
  · omega
theorem k_len {S : SD} {M : Nat → Int → Int} {r : Nat} {mr ml n row : Int} {len : Int → Int} {lt : Int → Int → Int} (hS : isRows S r) (h : RowsR M r mr ml n len lt) (hm : mr ≤ 10) (hr : 0 ≤ row ∧ row < n) {Q : Res → Wd → Prop} (k : Q (0, vI (len row)) (M, S)) : EvQ 2 45 [vR r, vI row] (M, S) Q := by
  obtain ⟨h1, h2, h3⟩ := h
  refine q_lengthOf hS (fun x hx => ?_)
  have h4 := (h3 row hr.1 hr.2).1
  rw [show x = len row by omega]
  exact k
theorem k_let {S : SD} {M : Nat → Int → Int} {r : Nat} {mr ml n row i : Int} {len : Int → Int} {lt : Int → Int → Int} (hS : isRows S r) (h : RowsR M r mr ml n len lt) (hm : mr ≤ 10) (hml : ml ≤ 12) (hr : 0 ≤ row ∧ row < n) (hi : 0 ≤ i ∧ i < len row) {Q : Res → Wd → Prop} (k : Q (0, vI (lt row i)) (M, S)) : EvQ 2 46 [vR r, vI row, vI i] (M, S) Q := by
  obtain ⟨h1, h2, h3⟩ := h
  refine q_letterAt hS (fun x hx => ?_)
  obtain ⟨h4, h5⟩ := h3 row hr.1 hr.2
  have h6 := h5 i hi.1 hi.2
  rw [show x = lt row i by omega]
  exact k
theorem k_isFull {S : SD} {M : Nat → Int → Int} {r : Nat} {mr ml n : Int} {len : Int → Int} {lt : Int → Int → Int} (hS : isRows S r) (h : RowsR M r mr ml n len lt) {Q : Res → Wd → Prop} (k : ∀ b : Int, (b = 1 ∧ n = mr) ∨ (b = 0 ∧ ¬ n = mr) → Q (0, vI b) (M, S)) : EvQ 1 44 [vR r] (M, S) Q := by
  obtain ⟨h1, h2, h3⟩ := h
  exact q_isFull hS (fun b hb => k b (by omega))
theorem k_hasPart {S : SD} {M : Nat → Int → Int} {r : Nat} {mr ml n row p m : Int} {len : Int → Int} {lt : Int → Int → Int} (hS : isRows S r) (h : RowsR M r mr ml n len lt) (hm : mr ≤ 10) (hml : ml ≤ 12) {Q : Res → Wd → Prop} (k : ∀ b : Int, (b = 1 ∧ (0 ≤ row ∧ row < n) ∧ (0 ≤ p ∧ p < len row) ∧ 1 ≤ m ∧ m ≤ len row - p) ∨ (b = 0 ∧ ¬ ((0 ≤ row ∧ row < n) ∧ (0 ≤ p ∧ p < len row) ∧ 1 ≤ m ∧ m ≤ len row - p)) → Q (0, vI b) (M, S)) : EvQ 2 43 [vR r, vI row, vI p, vI m] (M, S) Q := by
  obtain ⟨h1, h2, h3⟩ := h
  refine q_hasPart hS (fun a b c => ?_) (fun b hb => k b ?_)
  · have h4 := (h3 row a (by omega)).1
    omega
  · by_cases e : 0 ≤ row ∧ row < n
    · have h4 := (h3 row e.1 e.2).1
      omega
    · omega
