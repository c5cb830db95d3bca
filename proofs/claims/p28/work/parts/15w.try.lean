/-! the search, word by word -/
theorem curA_ch {f t b : Int → Int} {d w c : Int} (hd : 0 ≤ d) (h : StO f t d w b c) : CurA f (uf t d w) (d + 1) b c := by
  refine Or.inr ⟨by omega, ?_⟩
  rw [show d + 1 - 1 = d by omega, uf_eq]
  exact StO_c (fun i a e => by rw [uf_ne (by omega)]) h
theorem curZ_ch {f t b : Int → Int} {d w c : Int} (hd : 0 ≤ d) (h : CurZ f (uf t d w) (d + 1) b c) : StO f t d (w + 1) b c := by
  rcases h with ⟨h1, -⟩ | ⟨h1, h2⟩
  · omega
  · rw [show d + 1 - 1 = d by omega, uf_eq] at h2
    exact StO_c (fun i a e => by rw [uf_ne (by omega)]) h2
theorem os_back {M M2 : Nat → Int → Int} {x : Nat} {f t : Int → Int} {d w v : Int} (hd : 0 ≤ d) (hw : 0 ≤ w ∧ w < 7) (hn : ∀ j, 0 ≤ j → j < d → ¬ t j = w) (h : OS M x f (d + 1) (uf t d w)) (hv : v = iA (M (x + 86) 5) (iX (iL 1 w) (-1))) (hM : up M (x + 86) 5 v = M2) : OS M2 x f d t ∧ M2 (x + 86) 6 = M (x + 86) 6 ∧ M2 (x + 91) = M (x + 91) := by
  obtain ⟨h1, h2, h3, h4, h5⟩ := h
  have e : ∀ i, 0 ≤ i → i < d → uf t d w i = t i := fun i a b => uf_ne (by omega)
  have hq : ∀ q, q ≠ x + 86 → M2 q = M q := fun q hq => by rw [← hM]; exact up_row hq
  have e5 : M2 (x + 86) 5 = v := by rw [← hM]; exact up_eq _ _ _ _
  have e6 : M2 (x + 86) 6 = M (x + 86) 6 := by rw [← hM]; exact up_k (by omega)
  refine ⟨⟨fun k a b => by rw [hq _ (by omega), h1 k a (by omega), e k a b], OrdP_c e (fun k a b => h2 k a (by omega)), ?_, otk_del h4 hd hw hn (by rw [e5, hv]), fun u a b => plF_fr (by rw [hq _ (by omega)]) (fun q c r => hq q (by omega)) (h5 u a b)⟩, e6, hq _ (by omega)⟩
  exact oink_fr (fun q a b => hq q (by omega)) (oink_c e (fun k a b => h3 k a (by omega)))
theorem os_leaf {M M2 : Nat → Int → Int} {x : Nat} {f t : Int → Int} {d : Int} (h : OS M x f d t) (hq : ∀ q, q ≠ x + 86 → q ≠ x + 91 → M2 q = M q) (h5 : M2 (x + 86) 5 = M (x + 86) 5) : OS M2 x f d t := by
  obtain ⟨h1, h2, h3, h4, h6⟩ := h
  exact ⟨fun k a b => by rw [hq _ (by omega) (by omega)]; exact h1 k a b, h2, oink_fr (fun q a b => hq q (by omega) (by omega)) h3, otk_c h5 h4, fun u a b => plF_fr (by rw [hq _ (by omega) (by omega)]) (fun q c r => hq q (by omega) (by omega)) (h6 u a b)⟩
theorem bcv_leaf {f t b b' : Int → Int} {d c c' B : Int} (hR : RowOk B f) (hB : 0 ≤ B) (hd : d = f 1) (ho : OrdP f t d) (h : CurA f t d b (bcv c (f 6))) (hb : ∀ i, 0 ≤ i → i < f 1 → b' i = t i) (hc : c' = sq f t d 6) (hbig : c' < 2147483647) (hl : 0 < d → c = -1 ∨ c' < c) : CurZ f t d b' (bcv c' (f 6)) ∧ f 6 ≤ c' := by
  have h0 := sq_6 hR hB (ord_rng ho) (show (0 : Int) ≤ 0 by omega) d (by have := hR.2.1.1; omega) (Int.le_refl _)
  rw [sq_0] at h0
  have h6 := hR.2.2.2.2.2.2.2
  refine ⟨curZ_leaf hR hB hd ho h hb (by unfold bcv; rw [if_neg (by omega), hc]) ?_, by omega⟩
  rcases h with ⟨h1, h2⟩ | ⟨h1, h2⟩
  · exact Or.inl h2
  · have h3 := hl h1
    unfold bcv
    rw [if_neg (show ¬ c' = -1 by omega)]
    by_cases e : c = -1
    · rw [if_pos e]; exact Or.inl rfl
    · rw [if_neg e]; exact Or.inr (by omega)
/-- the contract of tryFrom below d words -/
def TryC (S : SD) (x : Nat) (f : Int → Int) (e : Nat) (d : Int) (t : Int → Int) : Prop := ∀ (M : Nat → Int → Int) (Q : Res → Wd → Prop), AskR M x f → OS M x f d t → CurA f t d (M (x + 91)) (bcv (M (x + 86) 6) (f 6)) → (M (x + 86) 6 = -1 ∨ (f 6 ≤ M (x + 86) 6 ∧ M (x + 86) 6 < 2147483647)) → (0 < d → M (x + 86) 6 = -1 ∨ sq f t d 6 < M (x + 86) 6) → (∀ (M2 : Nat → Int → Int), (∀ q9, (q9 < x + 86 ∨ x + 152 ≤ q9) → M2 q9 = M q9) → OS M2 x f d t → CurZ f t d (M2 (x + 91)) (bcv (M2 (x + 86) 6) (f 6)) → (M2 (x + 86) 6 = -1 ∨ (f 6 ≤ M2 (x + 86) 6 ∧ M2 (x + 86) 6 < 2147483647)) → Q (0, none) (M2, S)) → EvQ e 29 [vR (x + 86), vR (x + 2), vR (x + 76), vI d] (M, S) Q
/-- what the search tells -/
def OrdV (f b : Int → Int) (v : Int) : Prop := BestO f b v
theorem ordV_i {f b t : Int → Int} {c v : Int} (h : CurZ f t 0 b (bcv c (f 6))) (hv : v = bcv c (f 6)) : BestO f b v := by
  rw [hv]
  rcases h with ⟨-, h⟩ | ⟨h, -⟩
  · exact h
  · omega
