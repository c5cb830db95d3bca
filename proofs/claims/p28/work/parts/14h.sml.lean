theorem lst_ex {f : Int → Int} {w x : Int} (hA : StAll f) (hw : WdOk f w) : ∃ L, Lst 100 f w x 0 L := by
  have hw3 := hw.2.2.1
  have key : ∀ k : Nat, (k : Int) ≤ f (97 + 14 * w) → ∃ L, Lst 100 f w x (f (97 + 14 * w) - k) L := by
    intro k
    induction k with
    | zero =>
      intro _
      refine ⟨uf (fun _ => 0) (f (97 + 14 * w)) 0, ?_⟩
      rw [show f (97 + 14 * w) - ((0 : Nat) : Int) = f (97 + 14 * w) by omega]
      exact Lst_n rfl
    | succ k ih =>
      intro hk
      obtain ⟨L, hL⟩ := ih (by omega)
      have hp : f (97 + 14 * w) - ((k + 1 : Nat) : Int) < f (97 + 14 * w) := by omega
      rw [show f (97 + 14 * w) - (k : Int) = f (97 + 14 * w) - ((k + 1 : Nat) : Int) + 1 by omega] at hL
      have st : ∀ s : Nat, (s : Int) ≤ f 0 → ∃ g, LstB f w x (f (97 + 14 * w) - ((k + 1 : Nat) : Int)) s g := by
        intro s
        induction s with
        | zero => intro _; exact ⟨_, LstB_0 hA hp hL rfl⟩
        | succ s ihs =>
          intro hs
          obtain ⟨g, hg⟩ := ihs (by omega)
          rw [show ((s + 1 : Nat) : Int) = (s : Int) + 1 by omega]
          by_cases h : May f w x (f (97 + 14 * w) - ((k + 1 : Nat) : Int)) s ∧ g (f (97 + 14 * w) - ((k + 1 : Nat) : Int) + f (7 + 9 * s)) + 1 < g (f (97 + 14 * w) - ((k + 1 : Nat) : Int))
          · exact ⟨_, LstB_set hA hp hg h.1 h.2 rfl⟩
          · exact ⟨g, LstB_skip hg (fun hm => Int.not_lt.mp (fun h2 => h ⟨hm, h2⟩))⟩
      have h0 := hA.1
      obtain ⟨g, hg⟩ := st (f 0).toNat (by omega)
      rw [show ((f 0).toNat : Int) = f 0 by omega] at hg
      exact ⟨g, LstB_e hg⟩
  obtain ⟨L, hL⟩ := key (f (97 + 14 * w)).toNat (by omega)
  rw [show f (97 + 14 * w) - ((f (97 + 14 * w)).toNat : Int) = 0 by omega] at hL
  exact ⟨L, hL⟩
theorem hasX_mono {f : Int → Int} {w u x : Int} (hA : StAll f) (hw : WdOk f w) (h : Sub u x) (hu : HasX f w u) : HasX f w x := by
  obtain ⟨L, h1, h2⟩ := hu
  obtain ⟨L', h3⟩ := lst_ex (x := x) hA hw
  have hw3 := hw.2.2.1
  have h0 := hA.1
  have h4 := lst_mono hA (fun s a b => h s a (by omega)) h1 h3 0 (by omega) (by omega)
  have h5 := lst_rng (by omega) hA h1 0 (by omega) (by omega)
  exact ⟨L', h3, by omega⟩
def Good (f : Int → Int) (x u : Int) : Prop := (0 ≤ u ∧ u < iL 1 (f 0)) ∧ Sub u x ∧ AllW f u
theorem good_no {f : Int → Int} {x : Int} (hA : StAll f) (hW : WdAll f) (h : ¬ AllW f x) (u : Int) : ¬ Good f x u := fun g => h (fun w a b => hasX_mono hA (hW.2 w a b).1 g.2.1 (g.2.2 w a b))
def NoG (f : Int → Int) (x n s : Int) : Prop := ∀ u, Good f x u → n ≤ pop u ∧ (u < s → pop u ≠ n)
theorem good_r {f : Int → Int} {x u : Int} (h0 : 0 ≤ f 0 ∧ f 0 ≤ 10) (h : Good f x u) : 0 ≤ u ∧ u < 1024 := by
  have := iL_r h0
  have := h.1
  omega
theorem NoG_0 {f : Int → Int} {x : Int} (h0 : 0 ≤ f 0 ∧ f 0 ≤ 10) : NoG f x 0 0 := fun u hu => ⟨(pop_s (good_r h0 hu)).2.1, fun h => by have := (good_r h0 hu).1; omega⟩
theorem NoG_s {f : Int → Int} {x n s : Int} (h : NoG f x n s) (hn : Good f x s → pop s ≠ n) : NoG f x n (s + 1) := fun u hu => ⟨(h u hu).1, fun h2 => by
  by_cases e : u = s
  · subst e; exact hn hu
  · exact (h u hu).2 (by omega)⟩
theorem NoG_n {f : Int → Int} {x n s : Int} (h : NoG f x n s) (hs : iL 1 (f 0) ≤ s) : NoG f x (n + 1) 0 := fun u hu => by
  have h1 := h u hu
  have h2 := hu.1
  have h3 := h1.2 (by omega)
  exact ⟨by omega, fun h => by omega⟩
theorem NoG_e {f : Int → Int} {x n s : Int} (h0 : 0 ≤ f 0 ∧ f 0 ≤ 10) (h : NoG f x n s) (hn : 10 < n) (u : Int) : ¬ Good f x u := fun hu => by
  have h1 := (h u hu).1
  have h2 := (pop_s (good_r h0 hu)).2.2
  omega
/-- the smallest set with which every word has a plan -/
def Sml (f : Int → Int) (v : Int) : Prop := ∃ x, Fresh f x ∧ ((v = -1 ∧ ∀ u, ¬ Good f x u) ∨ (Good f x v ∧ ∀ u, Good f x u → pop v < pop u ∨ (pop v = pop u ∧ v ≤ u)))
theorem NoG_f {f : Int → Int} {x n s : Int} (h : NoG f x n s) (hg : Good f x s) (hn : pop s = n) : Good f x s ∧ ∀ u, Good f x u → pop s < pop u ∨ (pop s = pop u ∧ s ≤ u) := by
  refine ⟨hg, fun u hu => ?_⟩
  have h1 := h u hu
  by_cases e : pop u = n
  · right
    refine ⟨by omega, ?_⟩
    rcases (show s ≤ u ∨ u < s by omega) with h2 | h2
    · exact h2
    · exact absurd e (h1.2 h2)
  · left; omega
theorem sml_u {f : Int → Int} {v v' : Int} (h : Sml f v) (h' : Sml f v') : v = v' := by
  obtain ⟨x, h1, h2⟩ := h
  obtain ⟨x', g1, g2⟩ := h'
  rw [← fresh_1 h1 g1] at g2
  rcases h2 with ⟨a, b⟩ | ⟨a, b⟩
  · rcases g2 with ⟨c, d⟩ | ⟨c, d⟩
    · omega
    · exact absurd c (b _)
  · rcases g2 with ⟨c, d⟩ | ⟨c, d⟩
    · exact absurd a (d _)
    · have e1 := b _ c
      have e2 := d _ a
      omega
