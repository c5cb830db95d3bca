/-! small facts of the tables -/
theorem vk_lo : ∀ k, k < 139 → mki k = 0 → k < 121 := by decide +kernel
theorem cl_10 : ∀ k, k < 121 → mki k = 0 → mcl k < 9 := by decide +kernel
theorem mcl_w : ∀ y, y < 139 → 121 ≤ y → mcl y = 10 := by decide +kernel
theorem ini_void : ∀ k, k < 121 → mki k = 2 → MR k = none := by decide +kernel
def nlw (w : Cond) : Bool := match w with
  | .methodLinkNest a _ x _ => decide (a ≠ RL) && decide (x.cls ≠ RL)
  | _ => true
theorem NW_lw : NW.all nlw = true := by decide +kernel
theorem nest_law {cp : Nat} {x : MethodName} {h : String} : ¬ Cond.methodLinkNest (RC 10) cp x h ∈ NW := by
  intro hm
  have h1 := List.all_eq_true.mp NW_lw _ hm
  simp only [nlw, Bool.and_eq_true, decide_eq_true_eq] at h1
  exact h1.1 rfl
theorem nest_w (k : Nat) (h1 : 121 ≤ k) (h2 : k < 139) {a : String} {cp : Nat} {h : String} : ¬ Cond.methodLinkNest a cp (MN k) h ∈ NW := by
  intro hm
  have h3 := List.all_eq_true.mp NW_lw _ hm
  simp only [nlw, Bool.and_eq_true, decide_eq_true_eq] at h3
  refine h3.2 ?_
  rw [(wok9 k h1 h2).1, mcl_w k h2 h1]
  rfl
def hvk (y pc e : Nat) : Bool := match hnd y pc e with
  | none => true
  | some _ => match tb y pc with
    | some (.invokevirtual _) => true
    | _ => false
theorem hvk_ok : ∀ y, y < 140 → ∀ pc, pc < 60 → ∀ e, e < 4 → hvk y pc e = true := by decide +kernel
theorem hnd_v (y : Nat) (hy : y < 140) (pc e : Nat) (he : e < 4) {i : Instr} (htb : tb y pc = some i) (hni : ∀ k8, i ≠ .invokevirtual k8) {z : Nat × Nat} : ¬ hnd y pc e = some z := by
  intro h
  have h1 := hvk_ok y hy pc (hnd_60 y hy e he pc z h) e he
  unfold hvk at h1
  rw [h, htb] at h1
  split at h1
  · rename_i h2
    cases h2
  · split at h1
    · rename_i k8 h2
      cases h2
      exact hni _ rfl
    · cases h1
theorem LR_none {nL : Nat} {L' : Array Slot} {als : List V} {ad : Nat → Nat} {n : Nat} {v : Value} (hlen : als.length = nL) (hs : sok als n = true)
    (h : lv_has L' nL ((n, v) :: (lo ad als 0).filter (fun q => !(q.1 == n) && !(q.1 + 1 == n && q.2.category == 2)))) : LR nL L' (als.set n none) ad := by
  refine ⟨by simpa using hlen, lv_mono h ?_⟩
  intro q hq
  obtain ⟨j, y, h1, h2⟩ := lo_of hq
  rw [Nat.zero_add] at h2
  rw [List.getElem?_set] at h1
  by_cases hj : n = j
  · subst hj
    rw [if_pos rfl] at h1
    split at h1
    · cases h1
    · cases h1
  · rw [if_neg hj] at h1
    refine List.mem_cons_of_mem _ (List.mem_filter.mpr ⟨?_, ?_⟩)
    · have h3 := lo_mem (ad := ad) (i := 0) h1
      rw [Nat.zero_add] at h3
      rw [h2]; exact h3
    · rw [h2]
      have e1 : (j == n) = false := by simpa using fun e => hj e.symm
      simp only [e1, Bool.not_false, Bool.true_and, Bool.not_eq_true', Bool.and_eq_false_iff]
      by_cases e2 : j + 1 = n
      · right
        subst e2
        unfold sok at hs
        simp only [h1] at hs
        have hw : wide (some y) = false := by simpa using hs
        simp [cat_1 (ad := ad) hw]
      · left
        simpa using e2
theorem lva_2 {v : Value} {vs : List Value} {i : Nat} (h : v.category = 2) : lv_args i (v :: vs) = (i, v) :: lv_args (i + 2) vs := by
  show (i, v) :: lv_args (if v.category = 2 then i + 2 else i + 1) vs = _
  rw [if_pos h]
theorem lva_1 {v : Value} {vs : List Value} {i : Nat} (h : v.category = 1) : lv_args i (v :: vs) = (i, v) :: lv_args (i + 1) vs := by
  show (i, v) :: lv_args (if v.category = 2 then i + 2 else i + 1) vs = _
  rw [if_neg (by omega)]
theorem lo_app {ad : Nat → Nat} : ∀ {l1 l2 : List V} {i : Nat}, lo ad (l1 ++ l2) i = lo ad l1 i ++ lo ad l2 (i + l1.length)
  | [], l2, i => by simp [lo]
  | none :: t, l2, i => by
    show lo ad (t ++ l2) (i + 1) = lo ad t (i + 1) ++ lo ad l2 (i + (t.length + 1))
    rw [lo_app, show i + 1 + t.length = i + (t.length + 1) by omega]
  | some x :: t, l2, i => by
    show (i, cv ad (some x)) :: lo ad (t ++ l2) (i + 1) = ((i, cv ad (some x)) :: lo ad t (i + 1)) ++ lo ad l2 (i + (t.length + 1))
    rw [lo_app, show i + 1 + t.length = i + (t.length + 1) by omega]
    rfl
theorem lo_rep {ad : Nat → Nat} : ∀ {n i : Nat}, lo ad (List.replicate n none) i = []
  | 0, _ => rfl
  | n + 1, i => by
    show lo ad (none :: List.replicate n none) i = []
    exact lo_rep (n := n) (i := i + 1)
theorem cat_2 {ad : Nat → Nat} {v : V} (h : wide v = true) : (cv ad v).category = 2 := by
  rcases v with _ | a | r | a | d
  · cases h
  · cases h
  · cases h
  · rfl
  · rfl
theorem lg_len {ad : Nat → Nat} : ∀ {a : List V}, (lg_sl (a.map (cv ad))).length = (spr a).length
  | [] => rfl
  | v :: t => by
    have ih := lg_len (ad := ad) (a := t)
    unfold lg_sl spr at ih ⊢
    rw [List.map_cons, List.flatMap_cons, List.flatMap_cons, List.length_append, List.length_append, ih]
    cases hv : wide v with
    | true => rw [if_pos (cat_2 hv), if_pos rfl]; rfl
    | false => rw [if_neg (by rw [cat_1 hv]; decide), if_neg (by simp)]; rfl
theorem lo_spr {ad : Nat → Nat} : ∀ {a : List V} {i : Nat} {q : Nat × Value}, q ∈ lo ad (spr a) i → q ∈ lv_args i (a.map (cv ad))
  | [], i, q, h => absurd h List.not_mem_nil
  | v :: t, i, q, h => by
    have hs : spr (v :: t) = (if wide v then [v, none] else [v]) ++ spr t := rfl
    rw [hs] at h
    cases hv : wide v with
    | true =>
      rw [hv, if_pos rfl, lo_app] at h
      rw [List.map_cons, lva_2 (cat_2 hv)]
      cases v with
      | none => cases hv
      | some x =>
        rcases List.mem_append.mp h with h | h
        · exact List.mem_cons.mpr (Or.inl (by simpa [lo] using h))
        · exact List.mem_cons_of_mem _ (lo_spr h)
    | false =>
      rw [hv, if_neg (by simp), lo_app] at h
      rw [List.map_cons, lva_1 (cat_1 hv)]
      cases v with
      | none =>
        rcases List.mem_append.mp h with h | h
        · exact absurd h List.not_mem_nil
        · exact List.mem_cons_of_mem _ (lo_spr h)
      | some x =>
        rcases List.mem_append.mp h with h | h
        · exact List.mem_cons.mpr (Or.inl (by simpa [lo] using h))
        · exact List.mem_cons_of_mem _ (lo_spr h)
