/-! what the law is told of prints and plans -/
theorem sV_5x {f : Int → Int} {s : Int} (hs : 0 ≤ s ∧ s < f 0) : ∃ v, sV f s 5 = v ∧ ((v = 1 ∧ f 2 ≤ f (7 + 9 * s + 8)) ∨ (v = 0 ∧ f (7 + 9 * s + 8) < f 2)) := by
  by_cases h : f 2 ≤ f (7 + 9 * s + 8)
  · exact ⟨1, sV_5t hs h, Or.inl ⟨rfl, h⟩⟩
  · exact ⟨0, sV_5f hs h, Or.inr ⟨rfl, by omega⟩⟩
theorem num_w {f : Int → Int} {i n v : Int} (h0 : 0 ≤ i) (hn : n = num (Worn f) i) (h : (v = 1 ∧ f 2 ≤ f (7 + 9 * i + 8)) ∨ (v = 0 ∧ f (7 + 9 * i + 8) < f 2)) : n + v = num (Worn f) (i + 1) := by
  rcases h with ⟨h1, h2⟩ | ⟨h1, h2⟩
  · rw [num_t h0 (show Worn f i from h2), hn, h1]
  · rw [num_f h0 (show ¬ Worn f i from fun g => by unfold Worn at g; omega), hn, h1, Int.add_zero]
def PB (f : Int → Int) (s k b v : Int) : Prop := (b = 1 ∧ Tu (f (7 + 9 * s + 1 + k)) v) ∨ (b = 0 ∧ v = -1)
theorem pb_x {f : Int → Int} {s k : Int} (hs : 0 ≤ s ∧ s < f 0) (hk : 0 ≤ k ∧ k < f (7 + 9 * s)) : ∃ b v, sV f s 4 = b ∧ pV f s (f (7 + 9 * s) - 1 - k) 1 = v ∧ PB f s k b v := by
  by_cases h : CanT f s
  · refine ⟨1, _, sV_4t hs h, pV_in ⟨hs, by omega, by omega⟩ (fun _ => h), Or.inl ⟨rfl, ?_⟩⟩
    have e : prL f s (f (7 + 9 * s) - 1 - k) 1 = tur (f (7 + 9 * s + 1 + k)) := by
      unfold prL
      rw [if_neg (by decide)]
      congr 2; omega
    rw [e]
    exact tur_tu (h k hk.1 hk.2)
  · exact ⟨0, _, sV_4f hs h, pV_no ⟨hs, by omega, by omega⟩ (by decide) h, Or.inr ⟨rfl, rfl⟩⟩
theorem pb_t {f : Int → Int} {s k b v : Int} (h : PB f s k b v) (hb : b = 1) : Tu (f (7 + 9 * s + 1 + k)) v := by
  rcases h with h | h
  · exact h.2
  · omega
theorem pb_f {f : Int → Int} {s k b v : Int} (h : PB f s k b v) (hb : ¬ b = 1) : v = -1 := by
  rcases h with h | h
  · omega
  · exact h.2
theorem pV_s {f : Int → Int} {s i : Int} (hs : (0 ≤ s ∧ s < f 0) ∧ 0 ≤ i ∧ i < f (7 + 9 * s)) : pV f s i 0 = f (7 + 9 * s + 1 + i) := by
  rw [pV_in hs (fun h => absurd rfl h)]
  rfl
def PC (f : Int → Int) (w b : Int) : Prop := (b = 1 ∧ Can f w) ∨ (b = 0 ∧ ¬ Can f w)
theorem pc_x {f : Int → Int} {w : Int} (hA : StAll f) (hW : WdAll f) (hw : 0 ≤ w ∧ w < f 1) : ∃ b, wV f w 3 = b ∧ PC f w b := by
  by_cases h : Can f w
  · exact ⟨1, wV_3t hA hW hw h, Or.inl ⟨rfl, h⟩⟩
  · exact ⟨0, wV_3f hA hW hw h, Or.inr ⟨rfl, h⟩⟩
theorem pc_t {f : Int → Int} {w b : Int} (h : PC f w b) (hb : ¬ b = 0) : Can f w := by
  rcases h with h | h
  · exact h.2
  · omega
theorem pc_f {f : Int → Int} {w b : Int} (h : PC f w b) (hb : ¬ b = 1) : ¬ Can f w := by
  rcases h with h | h
  · omega
  · exact h.2
theorem pc_b {f : Int → Int} {w b : Int} (h : PC f w b) : b = 0 ∨ b = 1 := by
  rcases h with h | h <;> omega
theorem wV_le {f : Int → Int} {w : Int} (hA : StAll f) (hW : WdAll f) (hw : 0 ≤ w ∧ w < f 1) (h : Can f w) : wV f w 5 ≤ wV f w 4 ∧ wV f w 4 ≤ pv f w := by
  obtain ⟨z, hz⟩ := h
  have hk := (hW.2 w hw.1 hw.2).1
  obtain ⟨h4, h5⟩ := wV_45t hA hW hw hz
  have h2 := wrt_pl hA hk hz
  have h3 := car_456 (col := f (97 + 14 * w + 1)) (f := f) h2.1.1 (fun i a b => (h2.2 i a b).1)
  have h6 := wrt_pv hA hk hz
  omega
theorem lt1_t {f : Int → Int} {w : Int} (h : pv f w ≠ -1) : lt1 f w = f (97 + 14 * w) ∧ ps1 f w = pv f w := by
  unfold lt1 ps1
  rw [if_neg h, if_neg h]
  exact ⟨rfl, rfl⟩
theorem lt1_f {f : Int → Int} {w : Int} (h : pv f w = -1) : lt1 f w = 0 ∧ ps1 f w = 0 := by
  unfold lt1 ps1
  rw [if_pos h, if_pos h]
  exact ⟨rfl, rfl⟩
theorem lpp_0 {f : Int → Int} (h : sm (ps1 f) (f 1) = 0) : lpp f = 0 := by unfold lpp; rw [if_pos h]
theorem lpp_n {f : Int → Int} (h : ¬ sm (ps1 f) (f 1) = 0) : lpp f = FP.ddiv (FP.i2d (Int32.ofInt (sm (lt1 f) (f 1)))) (FP.i2d (Int32.ofInt (sm (ps1 f) (f 1)))) := by unfold lpp; rw [if_neg h]
