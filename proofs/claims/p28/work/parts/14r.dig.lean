/-! the digest as a whole -/
theorem mxN_c {P P' : Int → Int} {h : Int} : ∀ n : Nat, (∀ i : Int, 0 ≤ i → i < n → P i = P' i) → mxN P n h = mxN P' n h
  | 0, _ => rfl
  | n + 1, e => by
    show 31 * mxN P n h + P n = 31 * mxN P' n h + P' n
    rw [mxN_c n (fun i a b => e i a (by omega)), e n (by omega) (by omega)]
theorem mx_c {P P' : Int → Int} {n h : Int} (e : ∀ i, 0 ≤ i → i < n → P i = P' i) : mx P n h = mx P' n h := mxN_c _ (fun i a b => e i a (by omega))
theorem digW_u {f : Int → Int} {w h a b : Int} (hA : StAll f) (hw : WdOk f w) (h1 : DigW f w h a) (h2 : DigW f w h b) : a = b := by
  obtain ⟨n, c, hc, e1⟩ := h1
  obtain ⟨n', c', hc', e2⟩ := h2
  rcases hc with hc | ⟨hn, hc⟩
  · rcases hc' with hc' | ⟨hn', hc'⟩
    · obtain ⟨e, e3⟩ := bestp_u hA hw hc hc'
      rw [e1, e2, ← e]
      exact mx_c e3
    · exact absurd hc (hc' _ _)
  · rcases hc' with hc' | ⟨hn', hc'⟩
    · exact absurd hc' (hc _ _)
    · rw [e1, e2, hn, hn']
      rfl
noncomputable def dw (f : Int → Int) (w h : Int) : Int := @dite _ (∃ v, DigW f w h v) (Classical.propDecidable _) (fun h => Classical.choose h) (fun _ => 0)
theorem dw_eq {f : Int → Int} {w h v : Int} (hA : StAll f) (hw : WdOk f w) (hv : DigW f w h v) : v = dw f w h := by
  have h1 : ∃ v, DigW f w h v := ⟨v, hv⟩
  unfold dw
  rw [@dif_pos _ (Classical.propDecidable _) h1]
  exact digW_u hA hw hv (Classical.choose_spec h1)
noncomputable def tvf (f : Int → Int) (a : Int) : Int := if a < 7 then f a else if a = 7 then num (Worn f) (f 0) else num (HasP f) (f 1)
theorem tvf_eq {f : Int → Int} {a v : Int} (h : TellV f a v) : v = tvf f a := by
  unfold tvf
  rcases h with ⟨h1, h2⟩ | ⟨h1, h2⟩ | ⟨h1, h2⟩
  · rw [if_pos h1, h2]
  · rw [if_neg (by omega), if_pos h1, h2]
  · rw [if_neg (by omega), if_neg (by omega), h2]
noncomputable def tsf (f : Int → Int) (s a : Int) : Int := if a = 0 then f (7 + 9 * s) else if a = 1 then f (7 + 9 * s + 6) else if a = 2 then f (7 + 9 * s + 7) else if a = 3 then f (7 + 9 * s + 8) else if a = 4 then @ite Int (CanT f s) (Classical.propDecidable _) 1 0 else @ite Int (Worn f s) (Classical.propDecidable _) 1 0
theorem tsf_eq {f : Int → Int} {s a v : Int} (h : TellS f s a v) : v = tsf f s a := by
  unfold tsf
  rcases h with ⟨h1, h2⟩ | ⟨h1, h2⟩ | ⟨h1, h2⟩ | ⟨h1, h2⟩ | ⟨h1, h2⟩ | ⟨h1, h2⟩
  · rw [if_pos h1, h2]
  · rw [if_neg (by omega), if_pos h1, h2]
  · rw [if_neg (by omega), if_neg (by omega), if_pos h1, h2]
  · rw [if_neg (by omega), if_neg (by omega), if_neg (by omega), if_pos h1, h2]
  · rw [if_neg (by omega), if_neg (by omega), if_neg (by omega), if_neg (by omega), if_pos h1]
    rcases h2 with ⟨h2, h3⟩ | ⟨h2, h3⟩
    · rw [@if_pos _ (Classical.propDecidable _) h3, h2]
    · rw [@if_neg _ (Classical.propDecidable _) h3, h2]
  · rw [if_neg (by omega), if_neg (by omega), if_neg (by omega), if_neg (by omega), if_neg (by omega)]
    rcases h2 with ⟨h2, h3⟩ | ⟨h2, h3⟩
    · rw [@if_pos _ (Classical.propDecidable _) h3, h2]
    · rw [@if_neg _ (Classical.propDecidable _) h3, h2]
noncomputable def ds (f : Int → Int) (s h : Int) : Int := mx (fun k => f (7 + 9 * s + 1 + k)) (f (7 + 9 * s)) (mx (tsf f s) 6 h)
def fldN (st : Int → Int → Int) : Nat → Int → Int
  | 0, h => h
  | k + 1, h => st k (fldN st k h)
def fld (st : Int → Int → Int) (n h : Int) : Int := fldN st n.toNat h
theorem fld_0 {st : Int → Int → Int} {h : Int} : fld st 0 h = h := rfl
theorem fld_s {st : Int → Int → Int} {k h : Int} (hk : 0 ≤ k) : fld st (k + 1) h = st k (fld st k h) := by
  obtain ⟨n, rfl⟩ := Int.eq_ofNat_of_zero_le hk
  rfl
noncomputable def dg0 (f : Int → Int) (len : Int) : Int := fld (dw f) (f 1) (fld (ds f) (f 0) (mx (tvf f) 9 (31 * 3389 + len)))
/-- the digest of a row, a text's length and a number of saved states -/
def Dig (f : Int → Int) (len sv h : Int) : Prop := ∃ v, Sml f v ∧ h = 31 * (31 * dg0 f len + v) + sv
theorem dig_u {f : Int → Int} {len sv h h' : Int} (a : Dig f len sv h) (b : Dig f len sv h') : h = h' := by
  obtain ⟨v, h1, h2⟩ := a
  obtain ⟨v', g1, g2⟩ := b
  have e := sml_u h1 g1
  rw [h2, g2, e]
