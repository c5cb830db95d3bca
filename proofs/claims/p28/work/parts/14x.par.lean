/-! reading the text, byte by byte: between items 0, in a stamp 1, in a word 2 -/
def opS (g : Int → Int) : Int → Int := uf (clrS g (7 + 9 * g 0)) 0 (g 0 + 1)
def opW (g : Int → Int) (c : Int) : Int → Int := uf (uf (uf g (97 + 14 * g 1) 0) (97 + 14 * g 1 + 1) c) 1 (g 1 + 1)
def adL (g : Int → Int) (a fi c : Int) : Int → Int := uf (uf g (fi + g a) c) a (g a + 1)
def atS (st : Int) (g : Int → Int) : Int := if st = 1 then 7 + 9 * (g 0 - 1) else 97 + 14 * (g 1 - 1)
def fiS (st : Int) (g : Int → Int) : Int := if st = 1 then 7 + 9 * (g 0 - 1) + 1 else 97 + 14 * (g 1 - 1) + 2
def moS (st : Int) : Int := if st = 1 then 5 else 12
abbrev PSt := Option (Int × (Int → Int))
def nxt (st : Int) (g : Int → Int) (c : Int) : PSt :=
  if st = 0 then (if c = 42 ∧ g 0 < 10 then some (1, opS g) else if (48 ≤ c ∧ c ≤ 51) ∧ g 1 < 7 then some (2, opW g (c - 48)) else none)
  else if (97 ≤ c ∧ c ≤ 122) ∧ g (atS st g) < moS st then some (st, adL g (atS st g) (fiS st g) (c - 97)) else if c = 59 ∧ 0 < g (atS st g) then some (0, g) else none
def psN (t g : Int → Int) : Nat → PSt
  | 0 => some (0, g)
  | k + 1 => match psN t g k with
    | none => none
    | some z => nxt z.1 z.2 (t k)
def ps (t g : Int → Int) (i : Int) : PSt := psN t g i.toNat
theorem ps_0 {t g : Int → Int} : ps t g 0 = some (0, g) := rfl
theorem ps_s {t g : Int → Int} {i st : Int} {h : Int → Int} (hi : 0 ≤ i) (hs : ps t g i = some (st, h)) : ps t g (i + 1) = nxt st h (t i) := by
  obtain ⟨n, rfl⟩ := Int.eq_ofNat_of_zero_le hi
  unfold ps at hs ⊢
  rw [Int.toNat_natCast] at hs
  rw [show ((n : Int) + 1).toNat = n + 1 by omega]
  show (match psN t g n with | none => none | some z => nxt z.1 z.2 (t n)) = _
  rw [hs]
theorem ps_n {t g : Int → Int} {i : Int} (hi : 0 ≤ i) (hs : ps t g i = none) : ps t g (i + 1) = none := by
  obtain ⟨n, rfl⟩ := Int.eq_ofNat_of_zero_le hi
  unfold ps at hs ⊢
  rw [Int.toNat_natCast] at hs
  rw [show ((n : Int) + 1).toNat = n + 1 by omega]
  show (match psN t g n with | none => none | some z => nxt z.1 z.2 (t n)) = _
  rw [hs]
theorem ps_none {t g : Int → Int} {i j : Int} (hi : 0 ≤ i) (hj : i ≤ j) (hs : ps t g i = none) : ps t g j = none := by
  obtain ⟨n, hn⟩ := Int.eq_ofNat_of_zero_le (show 0 ≤ j - i by omega)
  have e : j = i + n := by omega
  subst e
  clear hn hj
  induction n with
  | zero => rw [show i + ((0 : Nat) : Int) = i by omega]; exact hs
  | succ n ih => rw [show i + ((n + 1 : Nat) : Int) = i + (n : Int) + 1 by omega]; exact ps_n (by omega) ih
/-- the syntax error position of the text t of that length -/
def Err (t : Int → Int) (len : Int) (g : Int → Int) (e : Int) : Prop := (0 ≤ e ∧ e ≤ len) ∧ ((e = len ∧ ∃ st h, ps t g e = some (st, h) ∧ st ≠ 0) ∨ (e < len ∧ (∃ z, ps t g e = some z) ∧ ps t g (e + 1) = none))
theorem err_u {t g : Int → Int} {len e e' : Int} (h : Err t len g e) (h' : Err t len g e') : e = e' := by
  have key : ∀ {e e' : Int}, Err t len g e → Err t len g e' → ¬ e < e' := fun {e e'} h h' hl => by
    have hz : ∃ z, ps t g e' = some z := by
      rcases h'.2 with ⟨-, st, q, hs, -⟩ | ⟨-, hs, -⟩
      · exact ⟨_, hs⟩
      · exact hs
    obtain ⟨z, hz⟩ := hz
    rcases h.2 with ⟨h1, -⟩ | ⟨h1, -, h2⟩
    · have := h'.1; omega
    · have h3 := ps_none (j := e') (by have := h.1; omega) (by omega) h2
      rw [h3] at hz
      cases hz
  have a := key h h'
  have b := key h' h
  omega
theorem err_ok {t g q : Int → Int} {len e : Int} (h : Err t len g e) (hs : ps t g len = some (0, q)) : False := by
  rcases h.2 with ⟨h1, st, q', h2, h3⟩ | ⟨h1, -, h2⟩
  · rw [h1, hs] at h2
    have e := congrArg Prod.fst (Option.some.inj h2)
    exact h3 e.symm
  · have h3 := ps_none (j := len) (by have := h.1; omega) (by omega) h2
    rw [h3] at hs
    cases hs
/-- the row while the text is read -/
def StP (st : Int) (g : Int → Int) (s : Int) : Prop := (1 ≤ g (7 + 9 * s) ∨ (st = 1 ∧ s = g 0 - 1 ∧ 0 ≤ g (7 + 9 * s))) ∧ g (7 + 9 * s) ≤ 5 ∧ (∀ k, 0 ≤ k → k < g (7 + 9 * s) → 0 ≤ g (7 + 9 * s + 1 + k) ∧ g (7 + 9 * s + 1 + k) ≤ 25) ∧ g (7 + 9 * s + 6) = -1 ∧ g (7 + 9 * s + 7) = 0 ∧ g (7 + 9 * s + 8) = 0
def WdP (st : Int) (g : Int → Int) (w : Int) : Prop := (1 ≤ g (97 + 14 * w) ∨ (st = 2 ∧ w = g 1 - 1 ∧ 0 ≤ g (97 + 14 * w))) ∧ g (97 + 14 * w) ≤ 12 ∧ (∀ k, 0 ≤ k → k < g (97 + 14 * w) → 0 ≤ g (97 + 14 * w + 2 + k) ∧ g (97 + 14 * w + 2 + k) ≤ 25) ∧ 0 ≤ g (97 + 14 * w + 1) ∧ g (97 + 14 * w + 1) ≤ 3
def PW (f : Int → Int) (st : Int) (g : Int → Int) : Prop := ((0 ≤ g 0 ∧ g 0 ≤ 10) ∧ (0 ≤ g 1 ∧ g 1 ≤ 7) ∧ (st = 0 ∨ (st = 1 ∧ 1 ≤ g 0) ∨ (st = 2 ∧ 1 ≤ g 1))) ∧ (∀ s, 0 ≤ s → s < g 0 → StP st g s) ∧ (∀ w, 0 ≤ w → w < g 1 → WdP st g w) ∧ (g 2 = f 2 ∧ g 3 = f 3 ∧ g 4 = 0 ∧ g 5 = 0 ∧ g 6 = 0) ∧ ∀ k, ¬ (0 ≤ k ∧ k < 195) → g k = f k
theorem StP_c {st st' s : Int} {g g' : Int → Int} (h : ∀ k, 0 ≤ k → k ≤ 8 → g' (7 + 9 * s + k) = g (7 + 9 * s + k)) (hn : ¬ (st = 1 ∧ s = g 0 - 1)) (hp : StP st g s) : StP st' g' s := by
  obtain ⟨h1, h2, h3, h4, h5, h6⟩ := hp
  have e0 := h 0 (by omega) (by omega)
  rw [Int.add_zero] at e0
  have e6 := h 6 (by omega) (by omega)
  have e7 := h 7 (by omega) (by omega)
  have e8 := h 8 (by omega) (by omega)
  refine ⟨Or.inl (by rcases h1 with h1 | h1; omega; exact absurd ⟨h1.1, h1.2.1⟩ hn), by omega, fun k a b => ?_, by omega, by omega, by omega⟩
  have e := h (1 + k) (by omega) (by omega)
  rw [show 7 + 9 * s + (1 + k) = 7 + 9 * s + 1 + k by omega] at e
  rw [e]
  exact h3 k a (by omega)
theorem WdP_c {st st' w : Int} {g g' : Int → Int} (h : ∀ k, 0 ≤ k → k ≤ 13 → g' (97 + 14 * w + k) = g (97 + 14 * w + k)) (hn : ¬ (st = 2 ∧ w = g 1 - 1)) (hp : WdP st g w) : WdP st' g' w := by
  obtain ⟨h1, h2, h3, h4, h5⟩ := hp
  have e0 := h 0 (by omega) (by omega)
  rw [Int.add_zero] at e0
  have e1 := h 1 (by omega) (by omega)
  refine ⟨Or.inl (by rcases h1 with h1 | h1; omega; exact absurd ⟨h1.1, h1.2.1⟩ hn), by omega, fun k a b => ?_, by omega, by omega⟩
  have e := h (2 + k) (by omega) (by omega)
  rw [show 97 + 14 * w + (2 + k) = 97 + 14 * w + 2 + k by omega] at e
  rw [e]
  exact h3 k a (by omega)
theorem opS_0 {g : Int → Int} : opS g 0 = g 0 + 1 := uf_eq _ _ _
theorem opS_k {g : Int → Int} {k : Int} (h0 : k ≠ 0) (h : ¬ (7 + 9 * g 0 ≤ k ∧ k < 7 + 9 * g 0 + 9)) : opS g k = g k := by
  unfold opS clrS clrR
  rw [uf_ne h0, uf_ne (by omega), if_neg h]
theorem opS_z {g : Int → Int} {k : Int} (h0 : 0 ≤ g 0) (h : 7 + 9 * g 0 ≤ k ∧ k < 7 + 9 * g 0 + 9) (h6 : k ≠ 7 + 9 * g 0 + 6) : opS g k = 0 := by
  unfold opS clrS clrR
  rw [uf_ne (by omega), uf_ne h6, if_pos h]
theorem opS_6 {g : Int → Int} (h0 : 0 ≤ g 0) : opS g (7 + 9 * g 0 + 6) = -1 := by
  unfold opS clrS
  rw [uf_ne (by omega), uf_eq]
theorem opW_k {g : Int → Int} {c k : Int} (h0 : k ≠ 1) (h1 : k ≠ 97 + 14 * g 1) (h2 : k ≠ 97 + 14 * g 1 + 1) : opW g c k = g k := by
  unfold opW
  rw [uf_ne h0, uf_ne h2, uf_ne h1]
theorem pw_S {f g : Int → Int} (h : PW f 0 g) (h0 : g 0 < 10) : PW f 1 (opS g) := by
  obtain ⟨⟨a1, a2, a3⟩, b, c, ⟨d2, d3, d4, d5, d6⟩, e⟩ := h
  have k1 : opS g 1 = g 1 := opS_k (by omega) (by omega)
  have k2 : opS g 2 = g 2 := opS_k (by omega) (by omega)
  have k3 : opS g 3 = g 3 := opS_k (by omega) (by omega)
  have k4 : opS g 4 = g 4 := opS_k (by omega) (by omega)
  have k5 : opS g 5 = g 5 := opS_k (by omega) (by omega)
  have k6 : opS g 6 = g 6 := opS_k (by omega) (by omega)
  have k0 : opS g 0 = g 0 + 1 := opS_0
  refine ⟨⟨by omega, by omega, by omega⟩, fun s h1 h2 => ?_, fun w h1 h2 => ?_, by omega, fun k hk => ?_⟩
  · rw [k0] at h2
    by_cases e : s = g 0
    · subst e
      have z0 : opS g (7 + 9 * g 0) = 0 := opS_z a1.1 (by omega) (by omega)
      have z7 : opS g (7 + 9 * g 0 + 7) = 0 := opS_z a1.1 (by omega) (by omega)
      have z8 : opS g (7 + 9 * g 0 + 8) = 0 := opS_z a1.1 (by omega) (by omega)
      exact ⟨Or.inr ⟨rfl, by omega, by omega⟩, by omega, fun k q1 q2 => by omega, opS_6 a1.1, z7, z8⟩
    · exact StP_c (fun k q1 q2 => opS_k (by omega) (by omega)) (by omega) (b s h1 (by omega))
  · rw [k1] at h2
    exact WdP_c (fun k q1 q2 => opS_k (by omega) (by omega)) (by omega) (c w h1 h2)
  · rw [opS_k (by omega) (by omega)]
    exact e k hk
theorem pw_W {f g : Int → Int} {v : Int} (h : PW f 0 g) (h0 : g 1 < 7) (hv : 0 ≤ v ∧ v ≤ 3) : PW f 2 (opW g v) := by
  obtain ⟨⟨a1, a2, a3⟩, b, c, ⟨d2, d3, d4, d5, d6⟩, e⟩ := h
  have k0 : opW g v 0 = g 0 := opW_k (by omega) (by omega) (by omega)
  have k2 : opW g v 2 = g 2 := opW_k (by omega) (by omega) (by omega)
  have k3 : opW g v 3 = g 3 := opW_k (by omega) (by omega) (by omega)
  have k4 : opW g v 4 = g 4 := opW_k (by omega) (by omega) (by omega)
  have k5 : opW g v 5 = g 5 := opW_k (by omega) (by omega) (by omega)
  have k6 : opW g v 6 = g 6 := opW_k (by omega) (by omega) (by omega)
  have k1 : opW g v 1 = g 1 + 1 := uf_eq _ _ _
  refine ⟨⟨by omega, by omega, by omega⟩, fun s h1 h2 => ?_, fun w h1 h2 => ?_, by omega, fun k hk => ?_⟩
  · rw [k0] at h2
    exact StP_c (fun k q1 q2 => opW_k (by omega) (by omega) (by omega)) (by omega) (b s h1 (by omega))
  · rw [k1] at h2
    by_cases e : w = g 1
    · subst e
      have z0 : opW g v (97 + 14 * g 1) = 0 := by unfold opW; rw [uf_ne (by omega), uf_ne (by omega), uf_eq]
      have z1 : opW g v (97 + 14 * g 1 + 1) = v := by unfold opW; rw [uf_ne (by omega), uf_eq]
      exact ⟨Or.inr ⟨rfl, by omega, by omega⟩, by omega, fun k q1 q2 => by omega, by omega, by omega⟩
    · exact WdP_c (fun k q1 q2 => opW_k (by omega) (by omega) (by omega)) (by omega) (c w h1 (by omega))
  · rw [opW_k (by omega) (by omega) (by omega)]
    exact e k hk
theorem adL_k {g : Int → Int} {a fi c k : Int} (h1 : k ≠ a) (h2 : k ≠ fi + g a) : adL g a fi c k = g k := by
  unfold adL
  rw [uf_ne h1, uf_ne h2]
theorem adL_a {g : Int → Int} {a fi c : Int} : adL g a fi c a = g a + 1 := uf_eq _ _ _
theorem adL_l {g : Int → Int} {a fi c : Int} (h : fi + g a ≠ a) : adL g a fi c (fi + g a) = c := by
  unfold adL
  rw [uf_ne h, uf_eq]
theorem at_r {f g : Int → Int} {st : Int} (h : PW f st g) (h0 : st ≠ 0) : (7 ≤ atS st g ∧ atS st g ≤ 181) ∧ (0 ≤ g (atS st g) ∧ g (atS st g) ≤ moS st) ∧ fiS st g = atS st g + (if st = 1 then 1 else 2) ∧ atS st g + 2 + moS st ≤ 195 := by
  obtain ⟨⟨a1, a2, a3⟩, b, c, -, -⟩ := h
  unfold atS fiS moS
  rcases a3 with a3 | ⟨a3, a4⟩ | ⟨a3, a4⟩
  · exact absurd a3 h0
  · have hs := b (g 0 - 1) (by omega) (by omega)
    have h1 := hs.1
    have h2 := hs.2.1
    rw [if_pos a3, if_pos a3, if_pos a3, if_pos a3]
    omega
  · have hs := c (g 1 - 1) (by omega) (by omega)
    have h1 := hs.1
    have h2 := hs.2.1
    rw [if_neg (by omega), if_neg (by omega), if_neg (by omega), if_neg (by omega)]
    omega
theorem pw_L {f g : Int → Int} {st v : Int} (h : PW f st g) (h0 : st ≠ 0) (hl : g (atS st g) < moS st) (hv : 0 ≤ v ∧ v ≤ 25) : PW f st (adL g (atS st g) (fiS st g) v) := by
  obtain ⟨r1, r2, r3, r4⟩ := at_r h h0
  obtain ⟨⟨a1, a2, a3⟩, b, c, ⟨d2, d3, d4, d5, d6⟩, e⟩ := h
  have hq : fiS st g + g (atS st g) ≠ atS st g := by rw [r3]; split <;> omega
  have hlo : ∀ k, k ≤ 6 → adL g (atS st g) (fiS st g) v k = g k := fun k hk => adL_k (by omega) (by rw [r3]; split <;> omega)
  have hl1 := adL_l (c := v) hq
  have hl2 : adL g (atS st g) (fiS st g) v (atS st g) = g (atS st g) + 1 := adL_a
  have hk0 : ∀ k, k ≠ atS st g → k ≠ fiS st g + g (atS st g) → adL g (atS st g) (fiS st g) v k = g k := fun k q1 q2 => adL_k q1 q2
  generalize adL g (atS st g) (fiS st g) v = g' at hlo hl1 hl2 hk0 ⊢
  have k0 := hlo 0 (by omega)
  have k1 := hlo 1 (by omega)
  have k2 := hlo 2 (by omega)
  have k3 := hlo 3 (by omega)
  have k4 := hlo 4 (by omega)
  have k5 := hlo 5 (by omega)
  have k6 := hlo 6 (by omega)
  rcases a3 with a3 | ⟨a3, a4⟩ | ⟨a3, a4⟩
  · exact absurd a3 h0
  · have ea : atS st g = 7 + 9 * (g 0 - 1) := if_pos a3
    have ef : fiS st g = 7 + 9 * (g 0 - 1) + 1 := if_pos a3
    have em : moS st = 5 := if_pos a3
    rw [ea] at hl hl1 hl2 hk0 r2
    rw [ef] at hl1 hk0
    rw [em] at hl
    refine ⟨⟨by omega, by omega, by omega⟩, fun s h1 h2 => ?_, fun w h1 h2 => ?_, by omega, fun k hk => ?_⟩
    · rw [k0] at h2
      have hs := b s h1 h2
      by_cases e9 : s = g 0 - 1
      · subst e9
        obtain ⟨p1, p2, p3, p4, p5, p6⟩ := hs
        rw [← hk0 _ (by omega) (by omega)] at p4 p5 p6
        refine ⟨Or.inl (by omega), by omega, fun k q1 q2 => ?_, p4, p5, p6⟩
        rw [hl2] at q2
        by_cases e8 : k = g (7 + 9 * (g 0 - 1))
        · subst e8
          rw [hl1]; exact hv
        · rw [hk0 _ (by omega) (by omega)]
          exact p3 k q1 (by omega)
      · exact StP_c (fun k q1 q2 => hk0 _ (by omega) (by omega)) (by omega) hs
    · rw [k1] at h2
      exact WdP_c (fun k q1 q2 => hk0 _ (by omega) (by omega)) (by omega) (c w h1 h2)
    · rw [hk0 _ (by omega) (by omega)]
      exact e k hk
  · have ea : atS st g = 97 + 14 * (g 1 - 1) := if_neg (by omega)
    have ef : fiS st g = 97 + 14 * (g 1 - 1) + 2 := if_neg (by omega)
    have em : moS st = 12 := if_neg (by omega)
    rw [ea] at hl hl1 hl2 hk0 r2
    rw [ef] at hl1 hk0
    rw [em] at hl
    refine ⟨⟨by omega, by omega, by omega⟩, fun s h1 h2 => ?_, fun w h1 h2 => ?_, by omega, fun k hk => ?_⟩
    · rw [k0] at h2
      exact StP_c (fun k q1 q2 => hk0 _ (by omega) (by omega)) (by omega) (b s h1 h2)
    · rw [k1] at h2
      have hs := c w h1 h2
      by_cases e9 : w = g 1 - 1
      · subst e9
        obtain ⟨p1, p2, p3, p4⟩ := hs
        rw [← hk0 _ (by omega) (by omega)] at p4
        refine ⟨Or.inl (by omega), by omega, fun k q1 q2 => ?_, p4⟩
        rw [hl2] at q2
        by_cases e8 : k = g (97 + 14 * (g 1 - 1))
        · subst e8
          rw [hl1]; exact hv
        · rw [hk0 _ (by omega) (by omega)]
          exact p3 k q1 (by omega)
      · exact WdP_c (fun k q1 q2 => hk0 _ (by omega) (by omega)) (by omega) hs
    · rw [hk0 _ (by omega) (by omega)]
      exact e k hk
theorem pw_e {f g : Int → Int} {st : Int} (h : PW f st g) (h0 : st ≠ 0) (hl : 0 < g (atS st g)) : PW f 0 g := by
  obtain ⟨⟨a1, a2, a3⟩, b, c, d, e⟩ := h
  refine ⟨⟨a1, a2, Or.inl rfl⟩, fun s h1 h2 => ?_, fun w h1 h2 => ?_, d, e⟩
  · obtain ⟨p1, p2⟩ := b s h1 h2
    refine ⟨Or.inl ?_, p2⟩
    rcases p1 with p1 | ⟨p1, p3, p4⟩
    · exact p1
    · rw [show atS st g = 7 + 9 * (g 0 - 1) from if_pos p1, ← p3] at hl
      omega
  · obtain ⟨p1, p2⟩ := c w h1 h2
    refine ⟨Or.inl ?_, p2⟩
    rcases p1 with p1 | ⟨p1, p3, p4⟩
    · exact p1
    · rw [show atS st g = 97 + 14 * (g 1 - 1) from if_neg (by omega), ← p3] at hl
      omega
theorem pw_n {f g g' : Int → Int} {st st' c : Int} (h : PW f st g) (hn : nxt st g c = some (st', g')) : PW f st' g' := by
  unfold nxt at hn
  by_cases h0 : st = 0
  · rw [if_pos h0] at hn
    subst h0
    by_cases h1 : c = 42 ∧ g 0 < 10
    · rw [if_pos h1] at hn
      cases hn
      exact pw_S h h1.2
    · rw [if_neg h1] at hn
      by_cases h2 : (48 ≤ c ∧ c ≤ 51) ∧ g 1 < 7
      · rw [if_pos h2] at hn
        cases hn
        exact pw_W h h2.2 (by omega)
      · rw [if_neg h2] at hn
        cases hn
  · rw [if_neg h0] at hn
    by_cases h1 : (97 ≤ c ∧ c ≤ 122) ∧ g (atS st g) < moS st
    · rw [if_pos h1] at hn
      cases hn
      exact pw_L h h0 h1.2 (by omega)
    · rw [if_neg h1] at hn
      by_cases h2 : c = 59 ∧ 0 < g (atS st g)
      · rw [if_pos h2] at hn
        cases hn
        exact pw_e h h0 h2.2
      · rw [if_neg h2] at hn
        cases hn
def st0 (f : Int → Int) : Int → Int := uf (uf (uf (uf (uf f 0 0) 1 0) 4 0) 5 0) 6 0
theorem pw_0 {f : Int → Int} : PW f 0 (st0 f) := by
  have k0 : st0 f 0 = 0 := rfl
  have k1 : st0 f 1 = 0 := rfl
  have hk : ∀ k, k ≠ 0 → k ≠ 1 → k ≠ 4 → k ≠ 5 → k ≠ 6 → st0 f k = f k := fun k a b c d e => by
    unfold st0
    rw [uf_ne e, uf_ne d, uf_ne c, uf_ne b, uf_ne a]
  refine ⟨⟨by omega, by omega, Or.inl rfl⟩, fun s h1 h2 => by omega, fun w h1 h2 => by omega, ⟨rfl, rfl, rfl, rfl, rfl⟩, fun k h => hk k (by omega) (by omega) (by omega) (by omega) (by omega)⟩
theorem pw_ps {f t : Int → Int} : ∀ (n : Nat) (st : Int) (g : Int → Int), psN t (st0 f) n = some (st, g) → PW f st g
  | 0, st, g, h => by
    cases h
    exact pw_0
  | n + 1, st, g, h => by
    have h : (match psN t (st0 f) n with | none => none | some z => nxt z.1 z.2 (t n)) = some (st, g) := h
    cases hz : psN t (st0 f) n with
    | none => rw [hz] at h; cases h
    | some z =>
      rw [hz] at h
      exact pw_n (pw_ps n z.1 z.2 hz) h
theorem pw_i {f t g : Int → Int} {i st : Int} (h : ps t (st0 f) i = some (st, g)) : PW f st g := pw_ps _ _ _ h
theorem pw_row {f g : Int → Int} {B : Int} (hB : 0 ≤ B) (h : PW f 0 g) (hR : RowOk B f) : RowOk B g := by
  obtain ⟨⟨a1, a2, a3⟩, b, c, ⟨d2, d3, d4, d5, d6⟩, e⟩ := h
  have hI := hR.2.2
  refine ⟨⟨a1, fun s h1 h2 => ?_⟩, ⟨a2, fun w h1 h2 => ?_⟩, ⟨fun s h1 h2 => ?_, by rw [d2]; exact hI.2.1, by rw [d3]; exact hI.2.2.1, by omega, by omega, by omega⟩⟩
  · obtain ⟨p1, p2, p3, p4⟩ := b s h1 h2
    exact ⟨h1, by omega, by omega, p2, p3⟩
  · obtain ⟨p1, p2, p3, p4⟩ := c w h1 h2
    exact ⟨⟨h1, by omega, by omega, p2, p3⟩, p4⟩
  · obtain ⟨p1, p2, p3, p4, p5, p6⟩ := b s h1 h2
    omega
/-! steps of the reading -/
theorem at_L {f g : Int → Int} {st v : Int} (h : PW f st g) (h0 : st ≠ 0) : atS st (adL g (atS st g) (fiS st g) v) = atS st g ∧ fiS st (adL g (atS st g) (fiS st g) v) = fiS st g := by
  obtain ⟨r1, r2, r3, r4⟩ := at_r h h0
  have hlo : ∀ k, k ≤ 6 → adL g (atS st g) (fiS st g) v k = g k := fun k hk => adL_k (by omega) (by rw [r3]; split <;> omega)
  generalize adL g (atS st g) (fiS st g) v = g' at hlo ⊢
  have k0 := hlo 0 (by omega)
  have k1 := hlo 1 (by omega)
  unfold atS fiS
  rw [k0, k1]
  exact ⟨rfl, rfl⟩
theorem nx_L {f t G g g2 : Int → Int} {st a fi mo i i2 : Int} (h : PW f st g) (h0 : st ≠ 0) (ha : a = atS st g) (hf : fi = fiS st g) (hm : mo = moS st) (hp : ps t G i = some (st, g)) (hi : 0 ≤ i) (hc : 97 ≤ t i ∧ t i ≤ 122) (hl : g a < mo) (hg : g2 = adL g a fi (t i - 97)) (h2 : i2 = i + 1) : ps t G i2 = some (st, g2) ∧ a = atS st g2 ∧ fi = fiS st g2 := by
  subst h2
  subst ha
  subst hf
  subst hm
  have e := at_L (v := t i - 97) h h0
  rw [← hg] at e
  refine ⟨?_, e.1.symm, e.2.symm⟩
  rw [ps_s hi hp]
  unfold nxt
  rw [if_neg h0, if_pos ⟨hc, hl⟩, hg]
theorem nx_E {t G g : Int → Int} {st a i i2 : Int} (h0 : st ≠ 0) (ha : a = atS st g) (hp : ps t G i = some (st, g)) (hi : 0 ≤ i) (hc : t i = 59) (hl : 0 < g a) (h2 : i2 = i + 1) : ps t G i2 = some (0, g) := by
  subst h2
  subst ha
  rw [ps_s hi hp]
  unfold nxt
  rw [if_neg h0, if_neg (by omega), if_pos ⟨hc, hl⟩]
theorem nx_F {t G g : Int → Int} {st a mo i len : Int} (h0 : st ≠ 0) (ha : a = atS st g) (hm : mo = moS st) (hp : ps t G i = some (st, g)) (hi : 0 ≤ i ∧ i ≤ len) (h1 : i < len → ¬ ((97 ≤ t i ∧ t i ≤ 122) ∧ g a < mo)) (h2 : i < len → ¬ (t i = 59 ∧ 0 < g a)) : Err t len G i := by
  subst ha
  subst hm
  refine ⟨hi, ?_⟩
  rcases (show i = len ∨ i < len by omega) with e | e
  · exact Or.inl ⟨e, st, g, hp, h0⟩
  · refine Or.inr ⟨e, ⟨_, hp⟩, ?_⟩
    rw [ps_s hi.1 hp]
    unfold nxt
    rw [if_neg h0, if_neg (h1 e), if_neg (h2 e)]
theorem nx_S {t G g g2 : Int → Int} {i i2 : Int} (hp : ps t G i = some (0, g)) (hi : 0 ≤ i) (hc : t i = 42) (h0 : g 0 < 10) (hg : g2 = opS g) (h2 : i2 = i + 1) : ps t G i2 = some (1, g2) ∧ 7 + 9 * g 0 = atS 1 g2 ∧ 7 + 9 * g 0 + 1 = fiS 1 g2 := by
  subst h2
  subst hg
  have e : opS g 0 = g 0 + 1 := opS_0
  refine ⟨?_, ?_, ?_⟩
  · rw [ps_s hi hp]
    unfold nxt
    rw [if_pos rfl, if_pos ⟨hc, h0⟩]
  · unfold atS
    rw [if_pos rfl, e]
    omega
  · unfold fiS
    rw [if_pos rfl, e]
    omega
theorem nx_W {t G g g2 : Int → Int} {i i2 : Int} (hp : ps t G i = some (0, g)) (hi : 0 ≤ i) (hc : 48 ≤ t i ∧ t i ≤ 51) (h0 : g 1 < 7) (hg : g2 = opW g (t i - 48)) (h2 : i2 = i + 1) : ps t G i2 = some (2, g2) ∧ 97 + 14 * g 1 = atS 2 g2 ∧ 97 + 14 * g 1 + 2 = fiS 2 g2 := by
  subst h2
  subst hg
  have e : opW g (t i - 48) 1 = g 1 + 1 := uf_eq _ _ _
  refine ⟨?_, ?_, ?_⟩
  · rw [ps_s hi hp]
    unfold nxt
    rw [if_pos rfl, if_neg (by omega), if_pos ⟨hc, h0⟩]
  · unfold atS
    rw [if_neg (by omega), e]
    omega
  · unfold fiS
    rw [if_neg (by omega), e]
    omega
theorem nx_0 {t G g : Int → Int} {i len : Int} (hp : ps t G i = some (0, g)) (hi : 0 ≤ i ∧ i < len) (h1 : ¬ (t i = 42 ∧ g 0 < 10)) (h2 : ¬ ((48 ≤ t i ∧ t i ≤ 51) ∧ g 1 < 7)) : Err t len G i := by
  refine ⟨by omega, Or.inr ⟨hi.2, ⟨_, hp⟩, ?_⟩⟩
  rw [ps_s hi.1 hp]
  unfold nxt
  rw [if_pos rfl, if_neg h1, if_neg h2]
theorem opS_of {f g g2 : Int → Int} (h : g = clrS f (7 + 9 * f 0)) (hz : g 0 = f 0) (h2 : g2 = uf g 0 (g 0 + 1)) : g2 = opS f := by
  rw [h2, hz, h]
  rfl
theorem clrS_0 {f : Int → Int} {a : Int} (h : 0 < a) : clrS f a 0 = f 0 := by
  unfold clrS clrR
  rw [uf_ne (by omega), if_neg (by omega)]
