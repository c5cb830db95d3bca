/-! whether a word can be written, hidden -/
def PosR (M : Nat → Int → Int) (p : Nat) (f : Int → Int) (w b : Int) : Prop := (b = 1 ∧ ∃ n c, Wrt f w c n ∧ M p 3 = n ∧ ∀ i, 0 ≤ i → i < n → M (p + 2) i = c i) ∨ (b = 0 ∧ ∀ c n, ¬ Wrt f w c n)
theorem posR_b {M : Nat → Int → Int} {p : Nat} {f : Int → Int} {w b : Int} (h : PosR M p f w b) : b = 0 ∨ b = 1 := by
  rcases h with h | h
  · exact Or.inr h.1
  · exact Or.inl h.1
theorem posR_t {M : Nat → Int → Int} {p : Nat} {f : Int → Int} {w b : Int} (h : PosR M p f w b) (hb : ¬ b = 0) : ∃ n c, Wrt f w c n ∧ M p 3 = n ∧ ∀ i, 0 ≤ i → i < n → M (p + 2) i = c i := by
  rcases h with h | h
  · exact h.2
  · exact absurd h.1 hb
theorem posR_f {M : Nat → Int → Int} {p : Nat} {f : Int → Int} {w b : Int} (h : PosR M p f w b) (hb : b = 0) : ∀ c n, ¬ Wrt f w c n := by
  rcases h with h | h
  · have := h.1; omega
  · exact h.2
theorem posR_c {M : Nat → Int → Int} {p : Nat} {f : Int → Int} {w b : Int} (h : PosR M p f w b) (hb : ¬ b = 0) : ∃ c n, Wrt f w c n := by
  obtain ⟨n, c, h1, -⟩ := posR_t h hb
  exact ⟨c, n, h1⟩
/-- the plan that is carried out -/
def PlnW (M : Nat → Int → Int) (p : Nat) (c : Int → Int) (n : Int) : Prop := M p 3 = n ∧ ∀ i, 0 ≤ i → i < n → M (p + 2) i = c i
theorem PlnW_fr {M M2 : Nat → Int → Int} {p : Nat} {c : Int → Int} {n : Int} (h : ∀ q, p ≤ q → q < p + 4 → M2 q = M q) (hr : PlnW M p c n) : PlnW M2 p c n := by
  unfold PlnW at hr ⊢
  rw [h p (by omega) (by omega), h (p + 2) (by omega) (by omega)]
  exact hr
theorem tellW_2 {M : Nat → Int → Int} {p : Nat} {f : Int → Int} {w x v a : Int} (hx : Fresh f x) (ha : a = 2) (h : (M p 3 = -1 ∧ Pno f w x (-1) ∧ ∀ c n, ¬ BestP f w c n) ∨ (0 ≤ M p 3 ∧ M p 3 ≤ 12 ∧ Pno f w x (M p 3) ∧ BestP f w (M (p + 2)) (M p 3))) (hv : v = M p 3) : TellW f w a v := by
  refine Or.inr (Or.inl ⟨ha, x, hx, ?_⟩)
  rw [hv]
  rcases h with ⟨h1, h2, -⟩ | ⟨-, -, h2, -⟩
  · rw [h1]; exact h2
  · exact h2
theorem tellW_3t {f : Int → Int} {w a : Int} (ha : a = 3) (h : ∃ c n, Wrt f w c n) : TellW f w a 1 := Or.inr (Or.inr (Or.inl ⟨ha, Or.inl ⟨rfl, h⟩⟩))
theorem tellW_3f {f : Int → Int} {w a : Int} (ha : a = 3) (h : ∀ c n, ¬ Wrt f w c n) : TellW f w a 0 := Or.inr (Or.inr (Or.inl ⟨ha, Or.inr ⟨rfl, h⟩⟩))
theorem tellW_5 {f : Int → Int} {w a t v : Int} (ha : (a = 5 ∧ ¬ t = 0) ∨ (a = 4 ∧ t = 0)) (h : NeedsV f w (if t = 0 then 5 else 6) v) : TellW f w a v := by
  rcases ha with ⟨h1, h2⟩ | ⟨h1, h2⟩
  · rw [if_neg h2] at h
    exact Or.inr (Or.inr (Or.inr (Or.inr ⟨h1, h⟩)))
  · rw [if_pos h2] at h
    exact Or.inr (Or.inr (Or.inr (Or.inl ⟨h1, h⟩)))
/-! counting bits -/
def bc1 (u : Int) : Int := u - iA (iU u 1) 1431655765
def bc2 (u : Int) : Int := iA (bc1 u) 858993459 + iA (iU (bc1 u) 2) 858993459
def bc3 (u : Int) : Int := iA (bc2 u + iU (bc2 u) 4) 252645135
def bc4 (u : Int) : Int := bc3 u + iU (bc3 u) 8
def bc5 (u : Int) : Int := bc4 u + iU (bc4 u) 16
theorem bc_all : ∀ n : Nat, n < 1024 → ((-2147483648 ≤ bc1 (n : Int) ∧ bc1 (n : Int) < 2147483648) ∧ (-2147483648 ≤ bc2 (n : Int) ∧ bc2 (n : Int) < 2147483648) ∧ (-2147483648 ≤ bc2 (n : Int) + iU (bc2 (n : Int)) 4 ∧ bc2 (n : Int) + iU (bc2 (n : Int)) 4 < 2147483648) ∧ (-2147483648 ≤ bc4 (n : Int) ∧ bc4 (n : Int) < 2147483648) ∧ (-2147483648 ≤ bc5 (n : Int) ∧ bc5 (n : Int) < 2147483648) ∧ iA (bc5 (n : Int)) 63 = pop (n : Int)) := by decide +kernel
theorem bc_i {u : Int} (h : 0 ≤ u ∧ u < 1024) : ir (bc1 u) ∧ ir (bc2 u) ∧ ir (bc2 u + iU (bc2 u) 4) ∧ ir (bc4 u) ∧ ir (bc5 u) ∧ iA (bc5 u) 63 = pop u := by
  obtain ⟨n, rfl⟩ := Int.eq_ofNat_of_zero_le h.1
  exact bc_all n (by omega)
/-! the smallest set, as the class finds it -/
theorem ux_sub {u x a b : Int} (ha : Ux u a) (hb : Ux x b) : (iA a (iX b (-1)) = 0 → Sub u x) ∧ (Sub u x → iA a (iX b (-1)) = 0) := by
  obtain ⟨h1, h2⟩ := bsN ha.1 hb.1
  refine ⟨fun h t q1 q2 q3 => ?_, fun h => ?_⟩
  · have h3 := h2 (2 * t) (by omega) (by omega)
    rw [h, ha.2 (2 * t) (by omega) (by omega), hb.2 (2 * t) (by omega) (by omega), show 2 * t / 2 = t by omega] at h3
    rcases Bool.eq_false_or_eq_true (bs x t) with e | e
    · exact e
    · exact absurd (h3.mpr ⟨q3, by rw [e]; decide⟩) bs_0
  · refine bs20_ext h1 U20_0 (fun c q1 q2 => ?_)
    rw [h2 c q1 q2, ha.2 c q1 q2, hb.2 c q1 q2]
    exact ⟨fun g => absurd (h (c / 2) (by omega) (by omega) g.1) g.2, fun g => absurd g bs_0⟩
theorem ux_out {x u s : Int} (hx : 0 ≤ x ∧ x < 1024) (hu : Ux x u) (hs : 0 ≤ s ∧ s < 10) : Ux (iA x (iX (iL 1 s) (-1))) (iA u (iX (iL 3 (2 * s)) (-1))) := by
  obtain ⟨h1, h2⟩ := bsN hu.1 (bs3 hs).1
  have h3 := (bs_sub hx ⟨(bs_1 hs).1, (bs_1 hs).2.1⟩).2.2
  refine ⟨h1, fun c a b => ?_⟩
  rw [h2 c a b, hu.2 c a b, (bs3 hs).2 c a b, h3 (c / 2) (by omega) (by omega), (bs_1 hs).2.2 (c / 2) (by omega) (by omega)]
def FwB (f : Int → Int) (x i b c : Int) : Prop := (b = -1 ∧ c = 11 ∧ ∀ u, Good f x u → ¬ u < i) ∨ (Good f x b ∧ c = pop b ∧ b < i ∧ ∀ u, Good f x u → u < i → pop b < pop u ∨ (pop b = pop u ∧ b ≤ u))
theorem FwB_0 {f : Int → Int} {x : Int} : FwB f x 0 (-1) 11 := Or.inl ⟨rfl, rfl, fun u h => by have := h.1; omega⟩
theorem FwB_n {f : Int → Int} {x i b c : Int} (h0 : 0 ≤ f 0 ∧ f 0 ≤ 10) (h : FwB f x i b c) (hn : Good f x i → c ≤ pop i) : FwB f x (i + 1) b c := by
  rcases h with ⟨h1, h2, h3⟩ | ⟨h1, h2, h3, h4⟩
  · refine Or.inl ⟨h1, h2, fun u hu hl => ?_⟩
    by_cases e : u = i
    · subst e
      have := hn hu
      have := (pop_s (good_r h0 hu)).2.2
      omega
    · exact h3 u hu (by omega)
  · refine Or.inr ⟨h1, h2, by omega, fun u hu hl => ?_⟩
    by_cases e : u = i
    · subst e
      have := hn hu
      omega
    · exact h4 u hu (by omega)
theorem FwB_t {f : Int → Int} {x i b c : Int} (h : FwB f x i b c) (hg : Good f x i) (hc : pop i < c) : FwB f x (i + 1) i (pop i) := by
  refine Or.inr ⟨hg, rfl, by omega, fun u hu hl => ?_⟩
  by_cases e : u = i
  · subst e; exact Or.inr ⟨rfl, Int.le_refl _⟩
  · rcases h with ⟨h1, h2, h3⟩ | ⟨h1, h2, h3, h4⟩
    · exact absurd (show u < i by omega) (h3 u hu)
    · have := h4 u hu (by omega)
      omega
theorem FwB_e {f : Int → Int} {x i b c : Int} (hx : Fresh f x) (h : FwB f x i b c) (hi : iL 1 (f 0) ≤ i) : Sml f b := by
  refine ⟨x, hx, ?_⟩
  rcases h with ⟨h1, h2, h3⟩ | ⟨h1, h2, h3, h4⟩
  · exact Or.inl ⟨h1, fun u hu => h3 u hu (by have := hu.1; omega)⟩
  · exact Or.inr ⟨h1, fun u hu => h4 u hu (by have := hu.1; omega)⟩
theorem nd_i {f : Int → Int} {s w x : Int} (hx : Fresh f x) : NdW f s w ↔ HasX f w x ∧ ¬ HasX f w (iA x (iX (iL 1 s) (-1))) := by
  constructor
  · rintro ⟨y, h1, h2, h3⟩
    rw [fresh_1 h1 hx] at h2 h3
    exact ⟨h2, h3⟩
  · intro h
    exact ⟨x, hx, h⟩
theorem lt1_eq {f : Int → Int} {w v : Int} (h : pv f w = v) : lt1 f w = (if v = -1 then 0 else f (97 + 14 * w)) ∧ ps1 f w = (if v = -1 then 0 else v) := by
  unfold lt1 ps1
  rw [h]
  exact ⟨rfl, rfl⟩
