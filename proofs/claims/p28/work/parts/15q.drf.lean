/-! the draft while the text is read -/
def DrF (M : Nat → Int → Int) (k : Nat) (g : Int → Int) : Prop := StR M (k + 1) g ∧ WdR M (k + 4) g ∧ ColR M (k + 7) g
theorem DrF_fr {M M2 : Nat → Int → Int} {k : Nat} {g : Int → Int} (h : ∀ q, k + 1 ≤ q → q < k + 8 → M2 q = M q) (hr : DrF M k g) : DrF M2 k g := ⟨StR_fr (fun q a b => h q (by omega) (by omega)) hr.1, WdR_fr (fun q a b => h q (by omega) (by omega)) hr.2.1, ColR_fr (fun q a b => h q (by omega) (by omega)) hr.2.2⟩
def NxV (M : Nat → Int → Int) (k : Nat) (st : Int) (g : Int → Int) (c v : Int) : Prop := (v = 3 ∧ nxt st g c = none ∧ DrF M k g) ∨ (v ≠ 3 ∧ ∃ g', nxt st g c = some (v, g') ∧ DrF M k g')
theorem drf_S {M : Nat → Int → Int} {r : Nat} {g : Int → Int} (h0 : 0 ≤ g 0 ∧ g 0 < 10) (h : RowsR M r 10 5 (g 0 + 1) (uf (fun s => g (7 + 9 * s)) (g 0) 0) (fun s j => g (7 + 9 * s + 1 + j))) : StR M r (opS g) := by
  unfold StR
  rw [opS_0]
  have hl := h.2.2
  refine RowsR_c (fun i a b => ?_) (fun i j a b c d => ?_) h
  · show uf (fun s => g (7 + 9 * s)) (g 0) 0 i = opS g (7 + 9 * i)
    by_cases e : i = g 0
    · subst e
      rw [uf_eq]
      exact (opS_z h0.1 (by omega) (by omega)).symm
    · rw [uf_ne e]
      exact (opS_k (by omega) (by omega)).symm
  · show g (7 + 9 * i + 1 + j) = opS g (7 + 9 * i + 1 + j)
    by_cases e : i = g 0
    · subst e
      rw [uf_eq] at d
      omega
    · have h9 := (hl i a b).1.2.2
      rw [uf_ne e] at d h9
      have d : j < g (7 + 9 * i) := d
      have h9 : g (7 + 9 * i) ≤ 5 := h9
      exact (opS_k (by omega) (by omega)).symm
theorem drf_W {M : Nat → Int → Int} {r : Nat} {g : Int → Int} {c : Int} (h0 : 0 ≤ g 1 ∧ g 1 < 7) (h : RowsR M r 7 12 (g 1 + 1) (uf (fun s => g (97 + 14 * s)) (g 1) 0) (fun s j => g (97 + 14 * s + 2 + j))) : WdR M r (opW g c) := by
  unfold WdR
  rw [show opW g c 1 = g 1 + 1 from uf_eq _ _ _]
  have hl := h.2.2
  refine RowsR_c (fun i a b => ?_) (fun i j a b c9 d => ?_) h
  · show uf (fun s => g (97 + 14 * s)) (g 1) 0 i = opW g c (97 + 14 * i)
    by_cases e : i = g 1
    · subst e
      rw [uf_eq]
      unfold opW
      rw [uf_ne (by omega), uf_ne (by omega), uf_eq]
    · rw [uf_ne e]
      exact (opW_k (by omega) (by omega) (by omega)).symm
  · show g (97 + 14 * i + 2 + j) = opW g c (97 + 14 * i + 2 + j)
    by_cases e : i = g 1
    · subst e
      rw [uf_eq] at d
      omega
    · have h9 := (hl i a b).1.2.2
      rw [uf_ne e] at d h9
      have d : j < g (97 + 14 * i) := d
      have h9 : g (97 + 14 * i) ≤ 12 := h9
      exact (opW_k (by omega) (by omega) (by omega)).symm
theorem drf_col {M : Nat → Int → Int} {r : Nat} {g cl : Int → Int} {c : Int} (h0 : 0 ≤ g 1) (h : ∀ w, 0 ≤ w → w < g 1 → cl w = g (97 + 14 * w + 1)) (hM : M r = uf cl (g 1) c) : ColR M r (opW g c) := fun w a b => by
  rw [show opW g c 1 = g 1 + 1 from uf_eq _ _ _] at b
  rw [hM]
  by_cases e : w = g 1
  · subst e
    rw [uf_eq]
    unfold opW
    rw [uf_ne (by omega), uf_eq]
  · rw [uf_ne e, opW_k (by omega) (by omega) (by omega)]
    exact h w a (by omega)
theorem drf_L1 {M : Nat → Int → Int} {r : Nat} {g : Int → Int} {v : Int} (h0 : 1 ≤ g 0 ∧ g 0 ≤ 10) (h : RowsR M r 10 5 (g 0) (uf (fun s => g (7 + 9 * s)) (g 0 - 1) ((fun s => g (7 + 9 * s)) (g 0 - 1) + 1)) (fun i j => if i = g 0 - 1 ∧ j = (fun s => g (7 + 9 * s)) (g 0 - 1) then v else (fun s j => g (7 + 9 * s + 1 + j)) i j)) (hl : g (7 + 9 * (g 0 - 1)) < 5) (hp : 0 ≤ g (7 + 9 * (g 0 - 1))) : StR M r (adL g (7 + 9 * (g 0 - 1)) (7 + 9 * (g 0 - 1) + 1) v) := by
  have hk : ∀ k, k ≠ 7 + 9 * (g 0 - 1) → k ≠ 7 + 9 * (g 0 - 1) + 1 + g (7 + 9 * (g 0 - 1)) → adL g (7 + 9 * (g 0 - 1)) (7 + 9 * (g 0 - 1) + 1) v k = g k := fun k a b => adL_k a b
  have ha : adL g (7 + 9 * (g 0 - 1)) (7 + 9 * (g 0 - 1) + 1) v (7 + 9 * (g 0 - 1)) = g (7 + 9 * (g 0 - 1)) + 1 := adL_a
  have hb : adL g (7 + 9 * (g 0 - 1)) (7 + 9 * (g 0 - 1) + 1) v (7 + 9 * (g 0 - 1) + 1 + g (7 + 9 * (g 0 - 1))) = v := adL_l (by omega)
  generalize adL g (7 + 9 * (g 0 - 1)) (7 + 9 * (g 0 - 1) + 1) v = g' at hk ha hb ⊢
  unfold StR
  rw [hk 0 (by omega) (by omega)]
  have hln := h.2.2
  refine RowsR_c (fun i a b => ?_) (fun i j a b c d => ?_) h
  · show uf (fun s => g (7 + 9 * s)) (g 0 - 1) (g (7 + 9 * (g 0 - 1)) + 1) i = g' (7 + 9 * i)
    by_cases e : i = g 0 - 1
    · subst e
      rw [uf_eq, ha]
    · have h9 := (hln i a b).1.2.2
      rw [uf_ne e] at h9 ⊢
      exact (hk _ (by omega) (by omega)).symm
  · show (if i = g 0 - 1 ∧ j = g (7 + 9 * (g 0 - 1)) then v else g (7 + 9 * i + 1 + j)) = g' (7 + 9 * i + 1 + j)
    have d : j < uf (fun s => g (7 + 9 * s)) (g 0 - 1) (g (7 + 9 * (g 0 - 1)) + 1) i := d
    by_cases e : i = g 0 - 1
    · subst e
      rw [uf_eq] at d
      by_cases e2 : j = g (7 + 9 * (g 0 - 1))
      · rw [if_pos ⟨rfl, e2⟩, e2, hb]
      · rw [if_neg (fun q => e2 q.2)]
        exact (hk _ (by omega) (by omega)).symm
    · have h9 := (hln i a b).1.2.2
      rw [uf_ne e] at d h9
      have d : j < g (7 + 9 * i) := d
      have h9 : g (7 + 9 * i) ≤ 5 := h9
      rw [if_neg (fun q => e q.1)]
      exact (hk _ (by omega) (by omega)).symm
theorem drf_L2 {M : Nat → Int → Int} {r : Nat} {g : Int → Int} {v : Int} (h0 : 1 ≤ g 1 ∧ g 1 ≤ 7) (h : RowsR M r 7 12 (g 1) (uf (fun s => g (97 + 14 * s)) (g 1 - 1) ((fun s => g (97 + 14 * s)) (g 1 - 1) + 1)) (fun i j => if i = g 1 - 1 ∧ j = (fun s => g (97 + 14 * s)) (g 1 - 1) then v else (fun s j => g (97 + 14 * s + 2 + j)) i j)) (hl : g (97 + 14 * (g 1 - 1)) < 12) (hp : 0 ≤ g (97 + 14 * (g 1 - 1))) : WdR M r (adL g (97 + 14 * (g 1 - 1)) (97 + 14 * (g 1 - 1) + 2) v) := by
  have hk : ∀ k, k ≠ 97 + 14 * (g 1 - 1) → k ≠ 97 + 14 * (g 1 - 1) + 2 + g (97 + 14 * (g 1 - 1)) → adL g (97 + 14 * (g 1 - 1)) (97 + 14 * (g 1 - 1) + 2) v k = g k := fun k a b => adL_k a b
  have ha : adL g (97 + 14 * (g 1 - 1)) (97 + 14 * (g 1 - 1) + 2) v (97 + 14 * (g 1 - 1)) = g (97 + 14 * (g 1 - 1)) + 1 := adL_a
  have hb : adL g (97 + 14 * (g 1 - 1)) (97 + 14 * (g 1 - 1) + 2) v (97 + 14 * (g 1 - 1) + 2 + g (97 + 14 * (g 1 - 1))) = v := adL_l (by omega)
  generalize adL g (97 + 14 * (g 1 - 1)) (97 + 14 * (g 1 - 1) + 2) v = g' at hk ha hb ⊢
  unfold WdR
  rw [hk 1 (by omega) (by omega)]
  have hln := h.2.2
  refine RowsR_c (fun i a b => ?_) (fun i j a b c d => ?_) h
  · show uf (fun s => g (97 + 14 * s)) (g 1 - 1) (g (97 + 14 * (g 1 - 1)) + 1) i = g' (97 + 14 * i)
    by_cases e : i = g 1 - 1
    · subst e
      rw [uf_eq, ha]
    · have h9 := (hln i a b).1.2.2
      rw [uf_ne e] at h9 ⊢
      exact (hk _ (by omega) (by omega)).symm
  · show (if i = g 1 - 1 ∧ j = g (97 + 14 * (g 1 - 1)) then v else g (97 + 14 * i + 2 + j)) = g' (97 + 14 * i + 2 + j)
    have d : j < uf (fun s => g (97 + 14 * s)) (g 1 - 1) (g (97 + 14 * (g 1 - 1)) + 1) i := d
    by_cases e : i = g 1 - 1
    · subst e
      rw [uf_eq] at d
      by_cases e2 : j = g (97 + 14 * (g 1 - 1))
      · rw [if_pos ⟨rfl, e2⟩, e2, hb]
      · rw [if_neg (fun q => e2 q.2)]
        exact (hk _ (by omega) (by omega)).symm
    · have h9 := (hln i a b).1.2.2
      rw [uf_ne e] at d h9
      have d : j < g (97 + 14 * i) := d
      have h9 : g (97 + 14 * i) ≤ 12 := h9
      rw [if_neg (fun q => e q.1)]
      exact (hk _ (by omega) (by omega)).symm
/-- the draft's inks are those of new stamps -/
def InkZ (M : Nat → Int → Int) (k : Nat) : Prop := (M k 3 = 0 ∧ M k 4 = 0 ∧ M k 5 = 0) ∧ ∀ s, 0 ≤ s → s < 10 → M (k + 1) s = -1 ∧ M (k + 2) s = 0 ∧ M (k + 3) s = 0
theorem InkZ_fr {M M2 : Nat → Int → Int} {k : Nat} (h : ∀ q, k ≤ q → q < k + 4 → M2 q = M q) (hr : InkZ M k) : InkZ M2 k := by
  unfold InkZ at hr ⊢
  rw [h k (by omega) (by omega), h (k + 1) (by omega) (by omega), h (k + 2) (by omega) (by omega), h (k + 3) (by omega) (by omega)]
  exact hr
theorem inkZ_r {M : Nat → Int → Int} {k : Nat} {f g : Int → Int} (h : InkZ M k) (hp : PW f 0 g) : InkR M k g := by
  obtain ⟨⟨a1, a2, a3⟩, b, c, ⟨d2, d3, d4, d5, d6⟩, e⟩ := hp
  obtain ⟨⟨z1, z2, z3⟩, z4⟩ := h
  refine ⟨⟨z1.trans d4.symm, z2.trans d5.symm, z3.trans d6.symm⟩, fun s q1 q2 => ?_⟩
  obtain ⟨p1, p2, p3, p4, p5, p6⟩ := b s q1 q2
  obtain ⟨w1, w2, w3⟩ := z4 s q1 (by omega)
  exact ⟨w1.trans p4.symm, w2.trans p5.symm, w3.trans p6.symm⟩
theorem drf_0 {M : Nat → Int → Int} {k : Nat} {f : Int → Int} (h1 : M (k + 1) 0 = 10 ∧ M (k + 1) 1 = 5 ∧ M (k + 1) 4 = 0) (h2 : M (k + 4) 0 = 7 ∧ M (k + 4) 1 = 12 ∧ M (k + 4) 4 = 0) : DrF M k (st0 f) :=
  ⟨⟨⟨h1.1, h1.2.1, h1.2.2⟩, by show 0 ≤ (0 : Int) ∧ (0 : Int) ≤ 10; omega, fun i a b => by have b : i < 0 := b; omega⟩, ⟨⟨h2.1, h2.2.1, h2.2.2⟩, by show 0 ≤ (0 : Int) ∧ (0 : Int) ≤ 7; omega, fun i a b => by have b : i < 0 := b; omega⟩, fun w a b => by have b : w < 0 := b; omega⟩
theorem nx_0s {g : Int → Int} {c : Int} (hc : c = 42) (h0 : g 0 < 10) : nxt 0 g c = some (1, opS g) := by unfold nxt; rw [if_pos rfl, if_pos ⟨hc, h0⟩]
theorem nx_0w {g : Int → Int} {c v : Int} (hc : 48 ≤ c ∧ c ≤ 51) (h0 : g 1 < 7) (hv : v = c - 48) : nxt 0 g c = some (2, opW g v) := by unfold nxt; rw [if_pos rfl, if_neg (by omega), if_pos ⟨hc, h0⟩, hv]
theorem nx_0n {g : Int → Int} {c : Int} (h1 : ¬ (c = 42 ∧ g 0 < 10)) (h2 : ¬ ((48 ≤ c ∧ c ≤ 51) ∧ g 1 < 7)) : nxt 0 g c = none := by unfold nxt; rw [if_pos rfl, if_neg h1, if_neg h2]
theorem nx_l {st : Int} {g : Int → Int} {c a fi mo v : Int} (h0 : st ≠ 0) (ha : a = atS st g) (hf : fi = fiS st g) (hm : mo = moS st) (hc : 97 ≤ c ∧ c ≤ 122) (hl : g a < mo) (hv : v = c - 97) : nxt st g c = some (st, adL g a fi v) := by
  subst ha; subst hf; subst hm; subst hv
  unfold nxt; rw [if_neg h0, if_pos ⟨hc, hl⟩]
theorem nx_e {st : Int} {g : Int → Int} {c a : Int} (h0 : st ≠ 0) (ha : a = atS st g) (hc : c = 59) (hl : 0 < g a) : nxt st g c = some (0, g) := by
  subst ha
  unfold nxt; rw [if_neg h0, if_neg (by omega), if_pos ⟨hc, hl⟩]
theorem nx_n {st : Int} {g : Int → Int} {c a mo : Int} (h0 : st ≠ 0) (ha : a = atS st g) (hm : mo = moS st) (h1 : ¬ ((97 ≤ c ∧ c ≤ 122) ∧ g a < mo)) (h2 : ¬ (c = 59 ∧ 0 < g a)) : nxt st g c = none := by
  subst ha; subst hm
  unfold nxt; rw [if_neg h0, if_neg h1, if_neg h2]
/-- the next step of the reading -/
theorem nxv_s {t G g : Int → Int} {i st v : Int} {M : Nat → Int → Int} {k : Nat} (hi : 0 ≤ i) (hs : ps t G i = some (st, g)) (h : NxV M k st g (t i) v) (hv : ¬ v = 3) : ∃ g', ps t G (i + 1) = some (v, g') ∧ DrF M k g' := by
  rcases h with ⟨h1, -⟩ | ⟨-, g', h2, h3⟩
  · exact absurd h1 hv
  · exact ⟨g', by rw [ps_s hi hs]; exact h2, h3⟩
theorem nxv_e {t G g : Int → Int} {i st v len : Int} {M : Nat → Int → Int} {k : Nat} (hi : 0 ≤ i ∧ i < len) (hs : ps t G i = some (st, g)) (h : NxV M k st g (t i) v) (hv : v = 3) : Err t len G i := by
  rcases h with ⟨-, h1, -⟩ | ⟨h1, -⟩
  · exact ⟨by omega, Or.inr ⟨hi.2, ⟨_, hs⟩, by rw [ps_s hi.1 hs]; exact h1⟩⟩
  · exact absurd hv h1
theorem nxv_d {st c v : Int} {g : Int → Int} {M : Nat → Int → Int} {k : Nat} (h : NxV M k st g c v) (hv : v = 3) : DrF M k g := by
  rcases h with ⟨-, -, h1⟩ | ⟨h1, -⟩
  · exact h1
  · exact absurd hv h1
theorem drf_cst {M : Nat → Int → Int} {k : Nat} {g : Int → Int} (h : DrF M k g) : CstR M k := ⟨h.1.1.1, h.1.1.2.1, h.2.1.1.1, h.2.1.1.2.1⟩
theorem psv_e {t G g : Int → Int} {st len : Int} (hl : 0 ≤ len) (hs : ps t G len = some (st, g)) (h0 : ¬ st = 0) : Err t len G len := ⟨by omega, Or.inl ⟨rfl, st, g, hs, h0⟩⟩
/-- the row that is restored -/
theorem und_row {p f : Int → Int} {j : Int} : ∀ k, 0 ≤ k → k < 195 → rcp p (195 * j) f 0 195 k = prw p j k := fun k a b => by
  rw [rcp_in (by omega)]
  show p (195 * j + (k - 0)) = p (195 * j + k)
  congr 1; omega
