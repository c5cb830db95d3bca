/-! a row copied -/
def rcp (f : Int → Int) (so : Int) (g : Int → Int) (d n : Int) : Int → Int := fun k => if d ≤ k ∧ k < d + n then f (so + (k - d)) else g k
theorem cpy_self {M : Nat → Int → Int} {a : Nat} {sp : Int} {b : Nat} {dp n : Int} : cpy M a sp b dp n b = rcp (M a) sp (M b) dp n := by
  funext k
  unfold cpy rcp
  by_cases h : dp ≤ k ∧ k < dp + n
  · rw [if_pos ⟨rfl, h⟩, if_pos h]
  · rw [if_neg (fun e => h e.2), if_neg h]
theorem rcp_in {f g : Int → Int} {so d n k : Int} (h : d ≤ k ∧ k < d + n) : rcp f so g d n k = f (so + (k - d)) := if_pos h
theorem rcp_out {f g : Int → Int} {so d n k : Int} (h : ¬ (d ≤ k ∧ k < d + n)) : rcp f so g d n k = g k := if_neg h
theorem rcp_back {f f1 a : Int → Int} (h : ∀ k, ¬ (0 ≤ k ∧ k < 195) → f1 k = f k) : rcp (rcp f 0 a 0 195) 0 f1 0 195 = f := by
  funext k
  by_cases hk : 0 ≤ k ∧ k < 195
  · rw [rcp_in (by omega), rcp_in (by omega)]
    congr 1; omega
  · rw [rcp_out (by omega), h k hk]
theorem car_out {B col : Int} {f c : Int → Int} {n : Int} (hn : ∀ i, 0 ≤ i → i < n → 0 ≤ c i ∧ c i / 2 < f 0) (h0 : f 0 ≤ 10) (hn0 : 0 ≤ n) : ∀ k, ¬ (0 ≤ k ∧ k < 195) → car col c f n k = f k := by
  obtain ⟨N, rfl⟩ := Int.eq_ofNat_of_zero_le hn0
  intro k hk
  have key : ∀ j : Nat, j ≤ N → carN col c f j k = f k := by
    intro j
    induction j with
    | zero => intro _; rfl
    | succ j ih =>
      intro hj
      have g3 := hn j (by omega) (by omega)
      show prs1 col (c j / 2) (carN col c f j) k = f k
      rw [prs1_k (by omega) (by omega) (by omega) (by omega) (by omega) (by omega)]
      exact ih (by omega)
  exact key N (Nat.le_refl _)
def NeedsV (f : Int → Int) (w a v : Int) : Prop := (v = -1 ∧ ∀ c n, ¬ Wrt f w c n) ∨ ∃ c n, Wrt f w c n ∧ v = car (f (97 + 14 * w + 1)) c f n a - f a
/-- what word tells -/
def TellW (f : Int → Int) (w a v : Int) : Prop := ((a = 0 ∨ a = 1) ∧ v = f (97 + 14 * w + a)) ∨ (a = 2 ∧ ∃ x, Fresh f x ∧ Pno f w x v) ∨ (a = 3 ∧ ((v = 1 ∧ ∃ c n, Wrt f w c n) ∨ (v = 0 ∧ ∀ c n, ¬ Wrt f w c n))) ∨ (a = 4 ∧ NeedsV f w 5 v) ∨ (a = 5 ∧ NeedsV f w 6 v)
theorem wrt_pl {f : Int → Int} {w n : Int} {c : Int → Int} (hA : StAll f) (hw : WdOk f w) (h : Wrt f w c n) : (0 ≤ n ∧ n ≤ 12) ∧ ∀ i, 0 ≤ i → i < n → 0 ≤ c i ∧ c i / 2 < f 0 := by
  obtain ⟨x, -, h, -⟩ := h
  exact pln_le hA hw h
