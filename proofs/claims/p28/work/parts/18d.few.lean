/-! rows under which others lie -/
def Bot (f : Int → Int) : List (Int → Int) → (Int → Int) → Prop
  | [], g => g = f
  | h :: t, _ => Bot f t h
theorem bot_up {f g g2 : Int → Int} {t : List (Int → Int)} (h : Bot f t g) : Bot f (g :: t) g2 := h
theorem bot_dn {f g h : Int → Int} {t : List (Int → Int)} (hb : Bot f (h :: t) g) : Bot f t h := hb
theorem bot_e {f g : Int → Int} {t : List (Int → Int)} (hb : Bot f t g) (hl : (t.length : Int) = 0) : t = [] ∧ g = f := by
  cases t with
  | nil => exact ⟨rfl, hb⟩
  | cons a b =>
    have : ((b.length + 1 : Nat) : Int) = 0 := hl
    omega
theorem bot_c {t : List (Int → Int)} (hl : 0 < (t.length : Int)) : ∃ a b, t = a :: b := by
  cases t with
  | nil => exact absurd hl (by decide)
  | cons a b => exact ⟨a, b, rfl⟩
/-- the set told, as far as stamps below i go, suffices in the row g -/
def GX (g : Int → Int) (v i : Int) : Prop := ∃ u, GS g u ∧ ∀ t, 0 ≤ t → t ≤ i → t < 10 → (bs u t = true ↔ bs v t = true)
theorem gx_0 {f : Int → Int} {v i : Int} (h : GS f v) : GX f v i := ⟨v, h, fun _ _ _ _ => Iff.rfl⟩
theorem gx_dn {g : Int → Int} {v i : Int} (h : GX g v i) : GX g v (i - 1) := by
  obtain ⟨u, h1, h2⟩ := h
  exact ⟨u, h1, fun t a b c => h2 t a (by omega) c⟩
theorem gx_rem {B : Int} {g : Int → Int} {v i : Int} (hR : RowOk B g) (h : GX g v i) (hi : 0 ≤ i ∧ i < g 0) (hn : ¬ bs v i = true) : GX (remR g i) v (i - 1) ∧ num (HasP (remR g i)) (g 1) = g 1 := by
  obtain ⟨u, h1, h2⟩ := h
  have h0 := hR.1.1
  obtain ⟨u', h3, h4⟩ := gs_rem hR hi h1 (fun e => hn ((h2 i hi.1 (Int.le_refl _) (by omega)).mp e))
  refine ⟨⟨u', h3, fun t a b c => (h4 t a (by omega)).trans (h2 t a (by omega) c)⟩, ?_⟩
  have h5 := gs_all (row_rem hR hi) h3
  rwa [remR_lo (by omega) (by omega)] at h5
theorem len_s {g : Int → Int} {t : List (Int → Int)} {n : Int} (h : (t.length : Int) = n) : ((g :: t).length : Int) = n + 1 := by
  show ((t.length + 1 : Nat) : Int) = n + 1
  omega
theorem len_p {g : Int → Int} {t : List (Int → Int)} {n : Int} (h : ((g :: t).length : Int) = n) : (t.length : Int) = n - 1 := by
  have h : ((t.length + 1 : Nat) : Int) = n := h
  omega
