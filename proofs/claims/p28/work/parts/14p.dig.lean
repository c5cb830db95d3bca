/-! the digest's words -/
theorem needs_u {f : Int → Int} {w a v v' : Int} (hA : StAll f) (hw : WdOk f w) (h : NeedsV f w a v) (h' : NeedsV f w a v') : v = v' := by
  rcases h with ⟨h1, h2⟩ | ⟨c, n, h1, h2⟩
  · rcases h' with ⟨g1, g2⟩ | ⟨c', n', g1, g2⟩
    · omega
    · exact absurd g1 (h2 _ _)
  · rcases h' with ⟨g1, g2⟩ | ⟨c', n', g1, g2⟩
    · exact absurd h1 (g2 _ _)
    · obtain ⟨rfl, e⟩ := wrt_u hA hw h1 g1
      rw [h2, g2, car_c e]
theorem tellW_u {f : Int → Int} {w a v v' : Int} (hA : StAll f) (hw : WdOk f w) (h : TellW f w a v) (h' : TellW f w a v') : v = v' := by
  rcases h with ⟨h0, h1⟩ | ⟨h0, x, h1, h2⟩ | ⟨h0, h1⟩ | ⟨h0, h1⟩ | ⟨h0, h1⟩ <;> rcases h' with ⟨g0, g1⟩ | ⟨g0, x', g1, g2⟩ | ⟨g0, g1⟩ | ⟨g0, g1⟩ | ⟨g0, g1⟩
  case inl.inl => rw [h1, g1]
  case inr.inl.inr.inl =>
    rw [← fresh_1 h1 g1] at g2
    exact pno_u hA hw h2 g2
  case inr.inr.inl.inr.inr.inl =>
    rcases h1 with ⟨h1, c, n, h2⟩ | ⟨h1, h2⟩ <;> rcases g1 with ⟨g1, c', n', g2⟩ | ⟨g1, g2⟩
    · omega
    · exact absurd h2 (g2 _ _)
    · exact absurd g2 (h2 _ _)
    · omega
  case inr.inr.inr.inl.inr.inr.inr.inl => exact needs_u hA hw h1 g1
  case inr.inr.inr.inr.inr.inr.inr.inr => exact needs_u hA hw h1 g1
  all_goals (exfalso; omega)
def mxN (P : Int → Int) : Nat → Int → Int
  | 0, h => h
  | k + 1, h => 31 * mxN P k h + P k
def mx (P : Int → Int) (n h : Int) : Int := mxN P n.toNat h
theorem mx_0 {P : Int → Int} {h : Int} : mx P 0 h = h := rfl
theorem mx_s {P : Int → Int} {k h : Int} (hk : 0 ≤ k) : mx P (k + 1) h = 31 * mx P k h + P k := by
  obtain ⟨n, rfl⟩ := Int.eq_ofNat_of_zero_le hk
  rfl
noncomputable def tw (f : Int → Int) (w a : Int) : Int := @dite _ (∃ v, TellW f w a v) (Classical.propDecidable _) (fun h => Classical.choose h) (fun _ => 0)
theorem tw_eq {f : Int → Int} {w a v : Int} (hA : StAll f) (hw : WdOk f w) (h : TellW f w a v) : v = tw f w a := by
  have h1 : ∃ v, TellW f w a v := ⟨v, h⟩
  unfold tw
  rw [@dif_pos _ (Classical.propDecidable _) h1]
  exact tellW_u hA hw h (Classical.choose_spec h1)
