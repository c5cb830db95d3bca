/-! a word that can be written, and what writing it does to the row -/
def cntN (c : Int → Int) (s : Int) : Nat → Int
  | 0 => 0
  | k + 1 => cntN c s k + (if c k / 2 = s then 1 else 0)
def cnt (c : Int → Int) (n s : Int) : Int := cntN c s n.toNat
theorem cnt_0 {c : Int → Int} {s : Int} : cnt c 0 s = 0 := rfl
theorem cnt_s {c : Int → Int} {k s : Int} (h : 0 ≤ k) : cnt c (k + 1) s = cnt c k s + (if c k / 2 = s then 1 else 0) := by
  obtain ⟨n, rfl⟩ := Int.eq_ofNat_of_zero_le h
  rfl
theorem cntN_r (c : Int → Int) (s : Int) : ∀ n : Nat, 0 ≤ cntN c s n ∧ cntN c s n ≤ n
  | 0 => ⟨Int.le_refl _, Int.le_refl _⟩
  | n + 1 => by
    have := cntN_r c s n
    show 0 ≤ cntN c s n + (if c n / 2 = s then 1 else 0) ∧ cntN c s n + (if c n / 2 = s then 1 else 0) ≤ _
    split <;> omega
theorem cnt_r {c : Int → Int} {n s : Int} (h : 0 ≤ n) : 0 ≤ cnt c n s ∧ cnt c n s ≤ n := by
  have := cntN_r c s n.toNat
  unfold cnt
  omega
theorem cntN_c {c c' : Int → Int} {s : Int} : ∀ n : Nat, (∀ i : Int, 0 ≤ i → i < n → c i = c' i) → cntN c s n = cntN c' s n
  | 0, _ => rfl
  | n + 1, h => by
    show cntN c s n + (if c n / 2 = s then 1 else 0) = cntN c' s n + (if c' n / 2 = s then 1 else 0)
    rw [cntN_c n (fun i h1 h2 => h i h1 (by omega)), h n (by omega) (by omega)]
theorem cnt_c {c c' : Int → Int} {n s : Int} (h : ∀ i, 0 ≤ i → i < n → c i = c' i) : cnt c n s = cnt c' n s := cntN_c _ (fun i h1 h2 => h i h1 (by omega))
def WearOk (f c : Int → Int) (n s : Int) : Prop := f (7 + 9 * s + 8) + cnt c n s ≤ f 2 ∨ cnt c n s = 0
def Wrt (f : Int → Int) (w : Int) (c : Int → Int) (n : Int) : Prop := ∃ x, Fresh f x ∧ Pln f w x c n ∧ ∀ s, 0 ≤ s → s < f 0 → WearOk f c n s
theorem pln_le {f : Int → Int} {w x n : Int} {c : Int → Int} (hA : StAll f) (hw : WdOk f w) (h : Pln f w x c n) : (0 ≤ n ∧ n ≤ 12) ∧ ∀ i, 0 ≤ i → i < n → 0 ≤ c i ∧ c i / 2 < f 0 := by
  obtain ⟨L, q, h1, h2, h3, ⟨h4, h5⟩, h6⟩ := h
  have hw3 := hw.2.2.1
  have hw4 := hw.2.2.2.1
  have := lst_fin hA hw h1 (show (0 : Int) ≤ 0 by omega) (by omega) (by omega)
  exact ⟨by omega, fun i h7 h8 => ⟨(h5 i h7 h8).1.1.1, (h5 i h7 h8).1.1.2.1⟩⟩
theorem wrt_u {f : Int → Int} {w n n' : Int} {c c' : Int → Int} (hA : StAll f) (hw : WdOk f w) (h : Wrt f w c n) (h' : Wrt f w c' n') : n = n' ∧ ∀ i, 0 ≤ i → i < n → c i = c' i := by
  obtain ⟨x, h1, h2, -⟩ := h
  obtain ⟨x', g1, g2, -⟩ := h'
  rw [← fresh_1 h1 g1] at g2
  exact pln_u hA hw h2 g2
theorem nop_wrt {f : Int → Int} {w x : Int} (hA : StAll f) (hw : WdOk f w) (hx : Fresh f x) (h : NoP f w x) (c : Int → Int) (n : Int) : ¬ Wrt f w c n := by
  rintro ⟨x', g1, ⟨L', q, g2, g3, g4, -⟩, -⟩
  rw [← fresh_1 hx g1] at g2
  obtain ⟨L, h1, h2⟩ := h
  have hw3 := hw.2.2.1
  rcases lst_u (by omega) (by omega) hA hw h1 g2 0 (by omega) (by omega) with h | h
  · omega
  · omega
theorem wrt_no {f : Int → Int} {w x n : Int} {c : Int → Int} (hA : StAll f) (hw : WdOk f w) (hx : Fresh f x) (hp : Pln f w x c n) (h : ¬ ∀ s, 0 ≤ s → s < f 0 → WearOk f c n s) (c' : Int → Int) (n' : Int) : ¬ Wrt f w c' n' := by
  rintro ⟨x', g1, g2, g3⟩
  rw [← fresh_1 hx g1] at g2
  obtain ⟨rfl, e⟩ := pln_u hA hw hp g2
  refine h (fun s h1 h2 => ?_)
  have := g3 s h1 h2
  unfold WearOk at this ⊢
  rwa [cnt_c e]
/-- one press of stamp s in a color -/
def prs1 (col s : Int) (f : Int → Int) : Int → Int := fun k =>
  if k = 7 + 9 * s + 6 then col
  else if k = 7 + 9 * s + 7 then (if f (7 + 9 * s + 6) = col ∧ f (7 + 9 * s + 7) ≠ 0 then f (7 + 9 * s + 7) else f 3) - 1
  else if k = 7 + 9 * s + 8 then f (7 + 9 * s + 8) + 1
  else if k = 4 then f 4 + 1
  else if k = 5 then f 5 + (if f (7 + 9 * s + 6) = col ∧ f (7 + 9 * s + 7) ≠ 0 then 0 else 1)
  else if k = 6 then f 6 + (if f (7 + 9 * s + 6) ≠ col ∧ f (7 + 9 * s + 6) ≠ -1 then 1 else 0)
  else f k
def carN (col : Int) (c f : Int → Int) : Nat → Int → Int
  | 0 => f
  | k + 1 => prs1 col (c k / 2) (carN col c f k)
def car (col : Int) (c f : Int → Int) (n : Int) : Int → Int := carN col c f n.toNat
theorem car_0 {col : Int} {c f : Int → Int} : car col c f 0 = f := rfl
theorem car_s {col k : Int} {c f : Int → Int} (h : 0 ≤ k) : car col c f (k + 1) = prs1 col (c k / 2) (car col c f k) := by
  obtain ⟨n, rfl⟩ := Int.eq_ofNat_of_zero_le h
  rfl
/-- inks and counters within bounds -/
def InkOk (B : Int) (f : Int → Int) : Prop := (∀ s, 0 ≤ s → s < f 0 → (-1 ≤ f (7 + 9 * s + 6) ∧ f (7 + 9 * s + 6) ≤ 3) ∧ (0 ≤ f (7 + 9 * s + 7) ∧ f (7 + 9 * s + 7) ≤ 20) ∧ 0 ≤ f (7 + 9 * s + 8) ∧ f (7 + 9 * s + 8) ≤ B + 200) ∧ (1 ≤ f 2 ∧ f 2 ≤ 200) ∧ (1 ≤ f 3 ∧ f 3 ≤ 20) ∧ (0 ≤ f 4 ∧ f 4 ≤ B) ∧ (0 ≤ f 5 ∧ f 5 ≤ B) ∧ 0 ≤ f 6 ∧ f 6 ≤ B
/-- what a press leaves as it was -/
theorem prs1_k {col s k : Int} {f : Int → Int} (h : k ≠ 7 + 9 * s + 6) (h1 : k ≠ 7 + 9 * s + 7) (h2 : k ≠ 7 + 9 * s + 8) (h3 : k ≠ 4) (h4 : k ≠ 5) (h5 : k ≠ 6) : prs1 col s f k = f k := by
  unfold prs1
  rw [if_neg h, if_neg h1, if_neg h2, if_neg h3, if_neg h4, if_neg h5]
theorem prs1_ink {B col s : Int} {f : Int → Int} (hB : 0 ≤ B) (hc : 0 ≤ col ∧ col ≤ 3) (hs : 0 ≤ s ∧ s < f 0) (h0 : f 0 ≤ 10) (h : InkOk B f) : InkOk (B + 1) (prs1 col s f) := by
  obtain ⟨h1, h2, h3, h4, h5, h6⟩ := h
  have e0 : prs1 col s f 0 = f 0 := prs1_k (by omega) (by omega) (by omega) (by omega) (by omega) (by omega)
  have e2 : prs1 col s f 2 = f 2 := prs1_k (by omega) (by omega) (by omega) (by omega) (by omega) (by omega)
  have e3 : prs1 col s f 3 = f 3 := prs1_k (by omega) (by omega) (by omega) (by omega) (by omega) (by omega)
  have e4 : prs1 col s f 4 = f 4 + 1 := by
    unfold prs1
    rw [if_neg (by omega), if_neg (by omega), if_neg (by omega), if_pos rfl]
  have e5 : prs1 col s f 5 = f 5 + (if f (7 + 9 * s + 6) = col ∧ f (7 + 9 * s + 7) ≠ 0 then 0 else 1) := by
    unfold prs1
    rw [if_neg (by omega), if_neg (by omega), if_neg (by omega), if_neg (by omega), if_pos rfl]
  have e6 : prs1 col s f 6 = f 6 + (if f (7 + 9 * s + 6) ≠ col ∧ f (7 + 9 * s + 6) ≠ -1 then 1 else 0) := by
    unfold prs1
    rw [if_neg (by omega), if_neg (by omega), if_neg (by omega), if_neg (by omega), if_neg (by omega), if_pos rfl]
  unfold InkOk
  rw [e0, e2, e3, e4, e5, e6]
  refine ⟨fun t h7 h8 => ?_, h2, h3, by omega, by split <;> omega, by split <;> omega, by split <;> omega⟩
  obtain ⟨g1, g2, g3⟩ := h1 t h7 h8
  by_cases e : t = s
  · subst e
    have a1 : prs1 col t f (7 + 9 * t + 6) = col := if_pos rfl
    have a2 : prs1 col t f (7 + 9 * t + 7) = (if f (7 + 9 * t + 6) = col ∧ f (7 + 9 * t + 7) ≠ 0 then f (7 + 9 * t + 7) else f 3) - 1 := by
      unfold prs1
      rw [if_neg (by omega), if_pos rfl]
    have a3 : prs1 col t f (7 + 9 * t + 8) = f (7 + 9 * t + 8) + 1 := by
      unfold prs1
      rw [if_neg (by omega), if_neg (by omega), if_pos rfl]
    rw [a1, a2, a3]
    refine ⟨by omega, by split <;> omega, by omega⟩
  · rw [prs1_k (by omega) (by omega) (by omega) (by omega) (by omega) (by omega), prs1_k (by omega) (by omega) (by omega) (by omega) (by omega) (by omega), prs1_k (by omega) (by omega) (by omega) (by omega) (by omega) (by omega)]
    omega
theorem prs1_0 {col s : Int} {f : Int → Int} (hs : 0 ≤ s) : prs1 col s f 0 = f 0 := prs1_k (by omega) (by omega) (by omega) (by omega) (by omega) (by omega)
theorem car_ink {B col : Int} {f c : Int → Int} {n : Int} (hB : 0 ≤ B) (hc : 0 ≤ col ∧ col ≤ 3) (h0 : f 0 ≤ 10) (hn : ∀ i, 0 ≤ i → i < n → 0 ≤ c i ∧ c i / 2 < f 0) (h : InkOk B f) (hn0 : 0 ≤ n) : InkOk (B + n) (car col c f n) ∧ car col c f n 0 = f 0 := by
  obtain ⟨N, rfl⟩ := Int.eq_ofNat_of_zero_le hn0
  have key : ∀ k : Nat, k ≤ N → InkOk (B + k) (carN col c f k) ∧ carN col c f k 0 = f 0 := by
    intro k
    induction k with
    | zero => intro _; exact ⟨by show InkOk (B + 0) f; rw [Int.add_zero]; exact h, rfl⟩
    | succ k ih =>
      intro hk
      obtain ⟨g1, g2⟩ := ih (by omega)
      have g3 := hn k (by omega) (by omega)
      refine ⟨?_, ?_⟩
      · have := prs1_ink (col := col) (s := c k / 2) (by omega) hc ⟨by omega, by rw [g2]; exact g3.2⟩ (by rw [g2]; exact h0) g1
        rw [show B + ((k + 1 : Nat) : Int) = B + k + 1 by omega]
        exact this
      · show prs1 col (c k / 2) (carN col c f k) 0 = f 0
        rw [prs1_0 (by omega), g2]
  exact key N (Nat.le_refl _)
