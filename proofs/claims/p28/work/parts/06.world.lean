/-! the small machine's world as the machine's heap has it -/
abbrev GT := va_G × ((ClassId × (ClassId × (ClassId × (ClassId × ClassId)))) × (Nat × (Nat × (Nat × (Nat × ((Nat → Int32) × (Nat → Int32)))))))
def gD (G : GT) : va_G := G.1
def gI (G : GT) : ClassId := G.2.1.1
def gJ (G : GT) : ClassId := G.2.1.2.1
def g3 (G : GT) (t : Nat) : ClassId := if t = 13 then G.2.1.2.2.1 else if t = 14 then G.2.1.2.2.2.1 else G.2.1.2.2.2.2
/-- the first address of the run's own cells; the script's cell, the letters' table, the script's length, what they hold -/
def gB (G : GT) : Nat := G.2.2.1
def gS (G : GT) : Nat := G.2.2.2.1
def gT (G : GT) : Nat := G.2.2.2.2.1
def gL (G : GT) : Nat := G.2.2.2.2.2.1
def gX (G : GT) : Nat → Int32 := G.2.2.2.2.2.2.1
def gF (G : GT) : Nat → Int32 := G.2.2.2.2.2.2.2
def AA (G : GT) : Nat → Prop := fun q => gB G ≤ q
def tys (G : GT) : List (ClassId × FieldType) := [(gI G, .int), (gJ G, .int), (g3 G 13, .object RX7), (g3 G 14, .object RX3), (g3 G 15, .object RX5)]
def rf (ad : Nat → Nat) (r : Nat) : Value := if r = 0 then .null else .ref (ad r)
def cv (ad : Nat → Nat) (v : V) : Value := match v with
  | some (.inl a) => .int (Int32.ofInt a)
  | some (.inr (.inl r)) => .ref (ad r)
  | some (.inr (.inr (.inl a))) => .long (Int64.ofInt a)
  | some (.inr (.inr (.inr x))) => .double x
  | none => .null
def fv (w : Wd) (ad : Nat → Nat) (r q : Nat) : Value := if fk q = 0 then .int (Int32.ofInt (gi w r ((q % 100 : Nat) : Int))) else if fk q = 1 then rf ad (gr w r ((q % 100 : Nat) : Int)) else .long (Int64.ofInt (gi w r ((q % 100 : Nat) : Int)))
def fvs (w : Wd) (ad : Nat → Nat) (r : Nat) : List Value := (List.range (fcn (ty w r - 1))).map (fun k => fv w ad r ((ty w r - 1) * 100 + k))
def cel (G : GT) (w : Wd) (ad : Nat → Nat) (r : Nat) : va_E :=
  if ty w r = 11 then .inl (gI G, ln w r, .inl (fun j => Int32.ofInt (gi w r (j : Int))))
  else if ty w r = 12 then .inl (gJ G, ln w r, .inr (.inl (fun j => Int64.ofInt (gi w r (j : Int)))))
  else if 13 ≤ ty w r then .inl (g3 G (ty w r), ln w r, .inr (.inr (.inr (.inr (fun j => if gr w r (j : Int) = 0 then none else some (ad (gr w r (j : Int))))))))
  else .inr (ty w r - 1, fvs w ad r)
def wl (G : GT) (w : Wd) (ad : Nat → Nat) : va_W := (List.range (nx w - 3)).map (fun k => (ad (k + 3), cel G w ad (k + 3)))
theorem wl_at {G : GT} {w : Wd} {ad : Nat → Nat} {r : Nat} (h3 : 3 ≤ r) (hn : r < nx w) : (wl G w ad)[r - 3]? = some (ad r, cel G w ad r) := by
  unfold wl
  rw [List.getElem?_map, List.getElem?_range (by omega)]
  simp only [Option.map_some, show r - 3 + 3 = r by omega]
theorem wl_set {G : GT} {w w' : Wd} {ad : Nat → Nat} {r : Nat} {x : va_E} (h3 : 3 ≤ r) (hn : r < nx w) (hnx : nx w' = nx w) (hx : cel G w' ad r = x) (ho : ∀ q, q ≠ r → cel G w' ad q = cel G w ad q) : (wl G w ad).set (r - 3) (ad r, x) = wl G w' ad := by
  apply List.ext_getElem?
  intro i
  rw [List.getElem?_set]
  by_cases hi : r - 3 = i
  · subst hi
    have hl : r - 3 < (wl G w ad).length := by unfold wl; simp; omega
    rw [if_pos rfl, if_pos hl, wl_at h3 (by rw [hnx]; exact hn), hx]
  · rw [if_neg hi]
    unfold wl
    rw [List.getElem?_map, List.getElem?_map, hnx]
    by_cases hin : i < nx w - 3
    · rw [List.getElem?_range hin]
      simp only [Option.map_some]
      rw [ho (i + 3) (by omega)]
    · rw [List.getElem?_eq_none (by simpa using hin)]
      rfl
theorem wl_push {G : GT} {w w' : Wd} {ad ad' : Nat → Nat} {q : Nat} {x : va_E} (h3 : 3 ≤ nx w) (hnx : nx w' = nx w + 1) (hq : ad' (nx w) = q) (hx : cel G w' ad' (nx w) = x) (ho : ∀ r, r < nx w → ad' r = ad r ∧ cel G w' ad' r = cel G w ad r) : wl G w ad ++ [(q, x)] = wl G w' ad' := by
  unfold wl
  rw [hnx, show nx w + 1 - 3 = (nx w - 3) + 1 by omega, List.range_succ, List.map_append]
  congr 1
  · apply List.map_congr_left
    intro k hk
    have hk := List.mem_range.mp hk
    rw [(ho (k + 3) (by omega)).1, (ho (k + 3) (by omega)).2]
  · simp only [List.map_cons, List.map_nil, show nx w - 3 + 3 = nx w by omega, hq, hx]
/-- places of longs -/
def lgs (w : Wd) (r : Nat) (k : Int) : Prop := ty w r = 12 ∨ (ty w r = 10 ∧ k = 17)
def WF (G : GT) (w : Wd) (ad : Nat → Nat) : Prop := 3 ≤ nx w ∧ (∀ r k, gr w r k < nx w) ∧ (∀ r, ty w r ≠ 0 → (3 ≤ r ∧ r < nx w ∧ ty w r ≤ 15) ∨ (r = 1 ∧ ty w r = 16) ∨ (r = 2 ∧ ty w r = 17)) ∧ (∀ r k, ¬ lgs w r k → ir (gi w r k)) ∧
  ad 1 = gS G ∧ ad 2 = gT G ∧ (ty w 1 = 16 ∧ ln w 1 = gL G ∧ ∀ j : Nat, j < gL G → gi w 1 (j : Int) = (gX G j).toInt) ∧ (ty w 2 = 17 ∧ ln w 2 = 26 ∧ ∀ j : Nat, j < 26 → gi w 2 (j : Int) = (gF G j).toInt) ∧ (∀ r, ln w r ≤ 100000)
def WH (G : GT) (w : Wd) (ad : Nat → Nat) (H : Heap) : Prop := va_P (gD G) vwCl (wl G w ad) H ∧ va_D (AA G) (wl G w ad)
/-- a value that the world can hold -/
def okv (w : Wd) (v : V) : Prop := match v with
  | some (.inl a) => ir a
  | some (.inr (.inl r)) => r ≠ 0 ∧ r < nx w
  | _ => True
theorem oi_t {a : Int} (h : ir a) : (Int32.ofInt a).toInt = a := Int32.toInt_ofInt_of_le h.1 h.2
theorem oi_of (x : Int32) : Int32.ofInt x.toInt = x := Int32.ofInt_toInt x
theorem ir_of (x : Int32) : ir x.toInt := ⟨Int32.le_toInt x, Int32.toInt_lt x⟩
theorem oi_lt {a b : Int} (ha : ir a) (hb : ir b) : Int32.ofInt a < Int32.ofInt b ↔ a < b := by rw [Int32.lt_iff_toInt_lt, oi_t ha, oi_t hb]
theorem oi_le {a b : Int} (ha : ir a) (hb : ir b) : Int32.ofInt a ≤ Int32.ofInt b ↔ a ≤ b := by rw [Int32.le_iff_toInt_le, oi_t ha, oi_t hb]
theorem oi_eq {a b : Int} (ha : ir a) (hb : ir b) : Int32.ofInt a = Int32.ofInt b ↔ a = b := by rw [← Int32.toInt_inj, oi_t ha, oi_t hb]
theorem oi_cl {a : Int} (ha : ir a) : (Int32.ofInt a).toNatClampNeg = a.toNat := by show (Int32.ofInt a).toInt.toNat = a.toNat; rw [oi_t ha]
theorem oi_in {a : Int} {n : Nat} (ha : ir a) (h0 : 0 ≤ a) (hn : a < (n : Int)) : vp_in (Int32.ofInt a) n := by
  rw [vp_in_iff, oi_t ha]; exact ⟨h0, hn⟩
theorem ir0 : ir 0 := by unfold ir; omega
/-- locals -/
def lo (ad : Nat → Nat) : List V → Nat → List (Nat × Value)
  | [], _ => []
  | none :: t, i => lo ad t (i + 1)
  | some x :: t, i => (i, cv ad (some x)) :: lo ad t (i + 1)
theorem lo_mem {ad : Nat → Nat} : ∀ {als : List V} {i j : Nat} {x}, als[j]? = some (some x) → (i + j, cv ad (some x)) ∈ lo ad als i
  | [], i, j, x, h => by simp at h
  | v :: t, i, 0, x, h => by
    have h : v = some x := by simpa using h
    subst h
    exact List.mem_cons_self
  | v :: t, i, j + 1, x, h => by
    have h1 := lo_mem (ad := ad) (i := i + 1) (show t[j]? = some (some x) by simpa using h)
    rw [show i + 1 + j = i + (j + 1) by omega] at h1
    cases v with
    | none => exact h1
    | some v => exact List.mem_cons_of_mem _ h1
theorem lo_of {ad : Nat → Nat} : ∀ {als : List V} {i : Nat} {q : Nat × Value}, q ∈ lo ad als i → ∃ j x, als[j]? = some (some x) ∧ q = (i + j, cv ad (some x))
  | [], i, q, h => absurd h List.not_mem_nil
  | none :: t, i, q, h => by
    obtain ⟨j, x, h1, h2⟩ := lo_of (show q ∈ lo ad t (i + 1) from h)
    exact ⟨j + 1, x, by simpa using h1, by rw [h2, show i + 1 + j = i + (j + 1) by omega]⟩
  | some v :: t, i, q, h => by
    rcases List.mem_cons.mp (show q ∈ (i, cv ad (some v)) :: lo ad t (i + 1) from h) with h | h
    · exact ⟨0, v, by simp, by rw [h]; rfl⟩
    · obtain ⟨j, x, h1, h2⟩ := lo_of h
      exact ⟨j + 1, x, by simpa using h1, by rw [h2, show i + 1 + j = i + (j + 1) by omega]⟩
def LR (nL : Nat) (L : Array Slot) (als : List V) (ad : Nat → Nat) : Prop := als.length = nL ∧ lv_has L nL (lo ad als 0)
theorem LR_at {nL : Nat} {L : Array Slot} {als : List V} {ad : Nat → Nat} (h : LR nL L als ad) {j : Nat} {x} (hj : als[j]? = some (some x)) : L[j]? = some (.val (cv ad (some x))) := by
  have h1 := h.2.2.2 _ (lo_mem (ad := ad) (i := 0) hj)
  rwa [Nat.zero_add] at h1
theorem lv_mono {L : Array Slot} {nL : Nat} {l l' : List (Nat × Value)} (h : lv_has L nL l) (hs : ∀ q ∈ l', q ∈ l) : lv_has L nL l' := ⟨h.1, h.2.1, fun q hq => h.2.2 q (hs q hq)⟩
theorem cat_w {ad : Nat → Nat} {x} (h : (cv ad (some x)).category = 2) : wide (some x) = true := by
  rcases x with a | r | a | d
  · cases h
  · cases h
  · rfl
  · rfl
theorem cat_1 {ad : Nat → Nat} {v : V} (h : wide v = false) : (cv ad v).category = 1 := by
  rcases v with _ | a | r | a | d
  · rfl
  · rfl
  · rfl
  · cases h
  · cases h
theorem LR_st1 {nL : Nat} {L L' : Array Slot} {als : List V} {ad : Nat → Nat} {n : Nat} {x} (hlen : als.length = nL) (hs : sok als n = true)
    (h : lv_has L' nL ((n, cv ad (some x)) :: (lo ad als 0).filter (fun q => !(q.1 == n) && !(q.1 + 1 == n && q.2.category == 2)))) : LR nL L' (st1 als n (some x)) ad := by
  refine ⟨by unfold st1; simpa using hlen, lv_mono h ?_⟩
  intro q hq
  obtain ⟨j, y, h1, h2⟩ := lo_of hq
  unfold st1 at h1
  rw [Nat.zero_add] at h2
  rw [List.getElem?_set] at h1
  by_cases hj : n = j
  · subst hj
    rw [if_pos rfl] at h1
    by_cases hl : n < als.length
    · rw [if_pos hl] at h1
      have h1 : x = y := by simpa using h1
      subst h1
      rw [h2]; exact List.mem_cons_self
    · rw [if_neg hl] at h1; cases h1
  · rw [if_neg hj] at h1
    refine List.mem_cons_of_mem _ (List.mem_filter.mpr ⟨?_, ?_⟩)
    · have h3 := lo_mem (ad := ad) (i := 0) h1
      rw [Nat.zero_add] at h3
      rw [h2]; exact h3
    · rw [h2]
      have e1 : (j == n) = false := by simpa using fun e => hj e.symm
      simp only [e1, Bool.not_false, Bool.true_and, Bool.not_eq_true', Bool.and_eq_false_iff]
      by_cases e2 : j + 1 = n
      · right
        subst e2
        unfold sok at hs
        simp only [h1] at hs
        have hw : wide (some y) = false := by simpa using hs
        simp [cat_1 (ad := ad) hw]
      · left
        simpa using e2
theorem LR_st2 {nL : Nat} {L L' : Array Slot} {als : List V} {ad : Nat → Nat} {n : Nat} {x} (hlen : als.length = nL) (hs : sok als n = true)
    (h : lv_has L' nL ((n, cv ad (some x)) :: (lo ad als 0).filter (fun q => !(q.1 == n) && (!(q.1 == n + 1) && !(q.1 + 1 == n && q.2.category == 2))))) : LR nL L' (st2 als n (some x)) ad := by
  refine ⟨by unfold st2; simpa using hlen, lv_mono h ?_⟩
  intro q hq
  obtain ⟨j, y, h1, h2⟩ := lo_of hq
  unfold st2 at h1
  rw [Nat.zero_add] at h2
  rw [List.getElem?_set] at h1
  by_cases hj2 : n + 1 = j
  · subst hj2
    rw [if_pos rfl] at h1
    split at h1
    · cases h1
    · cases h1
  rw [if_neg hj2] at h1
  rw [List.getElem?_set] at h1
  by_cases hj : n = j
  · subst hj
    rw [if_pos rfl] at h1
    by_cases hl : n < als.length
    · rw [if_pos hl] at h1
      have h1 : x = y := by simpa using h1
      subst h1
      rw [h2]; exact List.mem_cons_self
    · rw [if_neg hl] at h1; cases h1
  · rw [if_neg hj] at h1
    refine List.mem_cons_of_mem _ (List.mem_filter.mpr ⟨?_, ?_⟩)
    · have h3 := lo_mem (ad := ad) (i := 0) h1
      rw [Nat.zero_add] at h3
      rw [h2]; exact h3
    · rw [h2]
      have e1 : (j == n) = false := by simpa using fun e => hj e.symm
      have e3 : (j == n + 1) = false := by simpa using fun e => hj2 e.symm
      simp only [e1, e3, Bool.not_false, Bool.true_and, Bool.not_eq_true', Bool.and_eq_false_iff]
      by_cases e2 : j + 1 = n
      · right
        subst e2
        unfold sok at hs
        simp only [h1] at hs
        have hw : wide (some y) = false := by simpa using hs
        simp [cat_1 (ad := ad) hw]
      · left
        simpa using e2
/-- the values of a state of locals that the world can hold -/
def oks (w : Wd) (l : List V) : Prop := ∀ v ∈ l, okv w v
theorem oks_at {w : Wd} {l : List V} (h : oks w l) {j : Nat} {v : V} (hj : l[j]? = some v) : okv w v := h v (List.mem_of_getElem? hj)
theorem oks_set {w : Wd} {l : List V} (h : oks w l) (n : Nat) {v : V} (hv : okv w v) : oks w (l.set n v) := by
  intro x hx
  rcases List.mem_or_eq_of_mem_set hx with h1 | h1
  · exact h x h1
  · rw [h1]; exact hv
theorem oks_cons {w : Wd} {l : List V} {v : V} (hv : okv w v) (h : oks w l) : oks w (v :: l) := by
  intro x hx
  rcases List.mem_cons.mp hx with h1 | h1
  · rw [h1]; exact hv
  · exact h x h1
theorem oks_hd {w : Wd} {l : List V} {v : V} (h : oks w (v :: l)) : okv w v := h v List.mem_cons_self
theorem oks_tl {w : Wd} {l : List V} {v : V} (h : oks w (v :: l)) : oks w l := fun x hx => h x (List.mem_cons_of_mem _ hx)
theorem oks_up {w w' : Wd} {l : List V} (hn : nx w ≤ nx w') (h : oks w l) : oks w' l := by
  intro v hv
  have h1 := h v hv
  rcases v with _ | a | r | a | d
  · exact h1
  · exact h1
  · exact ⟨h1.1, Nat.lt_of_lt_of_le h1.2 hn⟩
  · exact h1
  · exact h1
/-- values seen through an address map that has grown are the same -/
theorem cv_ext {w : Wd} {ad ad' : Nat → Nat} (h : ∀ r, r < nx w → ad' r = ad r) {v : V} (hv : okv w v) : cv ad' v = cv ad v := by
  rcases v with _ | a | r | a | d
  · rfl
  · rfl
  · show Value.ref (ad' r) = Value.ref (ad r)
    rw [h r hv.2]
  · rfl
  · rfl
theorem cvs_ext {w : Wd} {ad ad' : Nat → Nat} (h : ∀ r, r < nx w → ad' r = ad r) : ∀ {l : List V}, oks w l → l.map (cv ad') = l.map (cv ad)
  | [], _ => rfl
  | v :: t, hl => by rw [List.map_cons, List.map_cons, cv_ext h (oks_hd hl), cvs_ext h (oks_tl hl)]
theorem lo_ext {w : Wd} {ad ad' : Nat → Nat} (h : ∀ r, r < nx w → ad' r = ad r) : ∀ {l : List V} {i : Nat}, oks w l → lo ad' l i = lo ad l i
  | [], _, _ => rfl
  | none :: t, i, hl => lo_ext (l := t) h (oks_tl hl)
  | some x :: t, i, hl => by
    show (i, cv ad' (some x)) :: lo ad' t (i + 1) = (i, cv ad (some x)) :: lo ad t (i + 1)
    rw [cv_ext h (oks_hd hl), lo_ext h (oks_tl hl)]
theorem LR_ext {w : Wd} {nL : Nat} {L : Array Slot} {l : List V} {ad ad' : Nat → Nat} (h : ∀ r, r < nx w → ad' r = ad r) (hl : oks w l) (hL : LR nL L l ad) : LR nL L l ad' := ⟨hL.1, by rw [lo_ext h hl]; exact hL.2⟩
theorem wsm_cv {ad : Nat → Nat} : ∀ {l : List V}, ((l.map (cv ad)).map fun v => v.category).sum ≤ wsm l
  | [] => Nat.le_refl _
  | v :: t => by
    have ih := wsm_cv (ad := ad) (l := t)
    simp only [List.map_cons, List.sum_cons, wsm]
    cases hv : wide v with
    | true =>
      have := lv_cat (cv ad v)
      simp only [if_true]
      omega
    | false =>
      rw [cat_1 (ad := ad) hv]
      simp only [Bool.false_eq_true, if_false]
      omega
