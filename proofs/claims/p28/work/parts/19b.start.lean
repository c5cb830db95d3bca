/-! the start of the law in the small machine's terms -/
def tuL : List Int32 := [-1, 16, -1, 15, -1, -1, -1, -1, -1, -1, -1, 11, 22, 20, 14, 3, 1, -1, 18, -1, 13, -1, 12, 23, -1, 25]
def tu26 (j : Nat) : Int32 := tuL.getD j 0
def w00 (L : Nat) (xs : Nat → Int32) : Wd :=
  (fun r k => if r = 1 then (xs k.toNat).toInt else if r = 2 then (tu26 k.toNat).toInt else 0, (fun _ _ => 0, (fun r => if r = 1 then 16 else if r = 2 then 17 else 0, (fun r => if r = 1 then L else if r = 2 then 26 else 0, (3, (0, 0))))))
theorem arrT {s : State} {cA : ClassId} {ty : FieldType} {k : Class} {comp : ClassId} (h1 : s.vm.classes[cA]? = some k) (h2 : k.kind = .array comp ty) : ArrOfT s cA ty := fun n z => ⟨fun k h => (by cases h), k, h1, comp, h2⟩
theorem arr_p {args : Array Value} {s : State} (h : (Cond.arrayClass .int).before args s = true) : ∃ cA, ArrOfT s cA .int ∧ va_RA s cA .int := by
  obtain ⟨c, k, comp, h1, h2, h3⟩ := Cond.arrayClass_spec h
  exact ⟨c, arrT h2 h3, h1⟩
theorem arr_o {C : String} {args : Array Value} {s : State} (h : (Cond.arrayOver (.object C)).before args s = true) : ∃ cA, ArrOfT s cA (.object C) ∧ va_RA s cA (.object C) := by
  obtain ⟨comp, c, k, h1, -, h3, h4, h5⟩ := Cond.arrayOver_spec h
  exact ⟨c, arrT h3 h4, k, comp, h3, h4, h1, h5⟩
theorem inst_in : ∀ c, c < 9 → Cond.instantiable (RC c) (fcn c) ∈ lw_tbl := by decide +kernel
theorem cls_9 {c : Nat} {q : vw_C} (h : vwCl[c]? = some q) : c < 9 := by
  rcases Nat.lt_or_ge c 9 with h1 | h1
  · exact h1
  · rw [List.getElem?_eq_none (by exact h1)] at h; cases h
theorem cls_all {s : State} {args : Array Value} (hts : ∀ w ∈ lw_tbl, w.before args s = true) : ∃ D : va_G, ∀ (c : Nat) (q : vw_C), vwCl[c]? = some q → u_Kn s q.1 q.2.1 q.2.2 (D.1 c) (D.2 c) := by
  have h : ∀ c : Nat, ∃ z : ClassId × (Nat → Nat), c < 9 → u_Kn s (RC c) (TC c) (fcn c) z.1 z.2 := by
    intro c
    by_cases hc : c < 9
    · obtain ⟨a, b, h⟩ := u_known (C := RC c) (T := TC c) (N := fcn c) (n := fcn c) hts (fun w hw => wsL_law_in w ((cok c hc).2.1 w hw)) (hts _ (inst_in c hc))
      exact ⟨(a, b), fun _ => h⟩
    · exact ⟨(0, fun _ => 0), fun h => absurd h hc⟩
  refine ⟨(fun c => (Classical.choose (h c)).1, fun c => (Classical.choose (h c)).2), fun c q hq => ?_⟩
  have hc := cls_9 hq
  have h1 := (cok c hc).1
  rw [hq] at h1
  rw [Option.some.inj h1]
  exact Classical.choose_spec (h c) hc
theorem nx_in : ∀ w ∈ NX, w ∈ lw_tbl := by decide +kernel
theorem nx_on : ∀ w ∈ NX, w.onTables = true := by decide +kernel
theorem six_in : ∀ z ∈ SIX, Cond.stringRef RX8 z.1 z.2 ∈ lw_tbl := by decide +kernel
theorem cast_in : ∀ a, a < 4 → 0 < a → Cond.castable (EN a) (EN a) ∈ lw_tbl := by decide +kernel
abbrev fl0 : List Cond := flatC (Jvm.Cond.and given_1 narrow_1)
abbrev tuT : Term := .static RX8 "TURNED" "[I"
theorem fl_len : Cond.eq (.length tuT) (.int 26) ∈ fl0 := by decide +kernel
theorem fl_arr : Cond.arrayOf tuT .int ∈ fl0 := by decide +kernel
theorem fl_el : ∀ j, j < 26 → Cond.eq (.elem tuT (.int (Int32.ofNat j))) (.int (tu26 j)) ∈ fl0 := by decide +kernel
theorem fl_u : Cond.isRef (.static Bundle.tN "UNASSIGNED_STACK" Bundle.steD) ∈ fl0 := by decide +kernel
theorem fl_s : Cond.isRef (.static Bundle.tN "SUPPRESSED_SENTINEL" Bundle.listD) ∈ fl0 := by decide +kernel
theorem fl_c : ∀ a, a < 4 → ∀ b, b < 4 → (0 < a ∧ 0 < b ∧ a ≠ b → Cond.not (.castable (EN a) (EN b)) ∈ fl0) := by decide +kernel
theorem sti_in : Cond.laysStatic RX8 "TURNED" "[I" ∈ lw_tbl ∧ Cond.initialized RX8 ∈ lw_tbl ∧ Cond.laysStatic Bundle.tN "UNASSIGNED_STACK" Bundle.steD ∈ lw_tbl ∧ Cond.laysStatic Bundle.tN "SUPPRESSED_SENTINEL" Bundle.listD ∈ lw_tbl ∧ Cond.initialized Bundle.tN ∈ lw_tbl := by decide +kernel
theorem ao_in : Cond.arrayOver (.object RX7) ∈ lw_tbl ∧ Cond.arrayOver (.object RX3) ∈ lw_tbl ∧ Cond.arrayOver (.object RX5) ∈ lw_tbl := by decide +kernel
theorem nw_to {args : Array Value} {s : State} {w : Cond} (hw : w ∈ NW ++ NX) (h : w.before args s = true) : va_Nw w s := by
  have h1 := List.all_eq_true.mp NW_f w hw
  unfold nwf at h1
  split at h1
  · exact va_Nw.of rfl h
  · exact va_Nw.of rfl h
  · exact h
  · exact va_Nw.of rfl h
  · cases h1
set_option maxHeartbeats 4000000 in
/-- what is fixed at the law's start -/
theorem fx_0 {s : State} {b L : Nat} {xs : Nat → Int32} (hL : L ≤ 260) (hts : ∀ w ∈ lw_tbl, w.before #[Value.ref b] s = true) (hX : va_X b L xs s s.heap) (hbl : b < s.heap.size) (hgv : (Jvm.Cond.and given_1 narrow_1).before #[Value.ref b] s = true) :
    ∃ (G : GT), Fx G s s.heap ∧ gB G = s.heap.size ∧ gS G = b ∧ gL G = L ∧ gX G = xs ∧ gF G = tu26 := by
  have fl := flat_of_before _ hgv
  obtain ⟨D, hD⟩ := cls_all hts
  obtain ⟨cI, hI1, hI2⟩ := arr_p (hts _ (wsL_law_in _ lib_in.2.2.2.2.2.2.2.2))
  obtain ⟨c13, h13, h13'⟩ := arr_o (hts _ ao_in.1)
  obtain ⟨c14, h14, h14'⟩ := arr_o (hts _ ao_in.2.1)
  obtain ⟨c15, h15, h15'⟩ := arr_o (hts _ ao_in.2.2)
  have hA : ∀ a : Nat, a < s.heap.size → ¬ (fun q : Nat => s.heap.size ≤ q) a := fun a h => Nat.not_le.mpr h
  obtain ⟨tt, ht1, ht2⟩ := va_Tof (A := fun q : Nat => s.heap.size ≤ q) (f := fun j => Value.int (tu26 j)) (N := 26) (by decide) (fl _ fl_arr) (Cond.eq_plain (fl _ fl_len) rfl (Or.inl ⟨_, rfl⟩)) (fun j hj => Cond.eq_plain (fl _ (fl_el j hj)) rfl (Or.inl ⟨_, rfl⟩)) hA
  have hZ := va_Zof (A := fun q : Nat => s.heap.size ≤ q) (hts _ sti_in.1) (hts _ sti_in.2.1) ht1 hA
  have htl : tt < s.heap.size := by
    obtain ⟨cell, h, -⟩ := ht2
    exact (Array.getElem?_eq_some_iff.mp h).1
  refine ⟨(D, ((cI, (cI, (c13, (c14, c15)))), (s.heap.size, (b, (tt, (L, (xs, tu26))))))), ⟨⟨hD, ?_⟩, fun w hw => nw_to (args := #[Value.ref b]) hw ((List.mem_append.mp hw).elim (fun h => hts w (NW_in w h)) (fun h => hts w (nx_in w h))), hZ, ht2, hX, ⟨hbl, htl, Nat.le_refl _, hL⟩, ?_, ?_, ?_, ?_⟩, rfl, rfl, rfl, rfl, rfl⟩
  · intro k q hq
    match k, hq with
    | 0, hq => cases hq; exact ⟨hI1, hI2⟩
    | 1, hq => cases hq; exact ⟨hI1, hI2⟩
    | 2, hq => cases hq; exact ⟨h13, h13'⟩
    | 3, hq => cases hq; exact ⟨h14, h14'⟩
    | 4, hq => cases hq; exact ⟨h15, h15'⟩
    | k + 5, hq => simp [tys] at hq
  · intro z hz
    have h1 := hts _ (six_in z hz)
    have hc := (hD 8 _ rfl).2.1
    obtain ⟨-, -, -, sa, -, -, -, -, -, hev⟩ := Cond.stringRef_spec hc h1
    exact ⟨sa, vk_R.of h1 hev⟩
  · exact vx_Zqof (hts _ sti_in.2.2.1) (hts _ sti_in.2.2.2.2) (fl _ fl_u) hA
  · exact vx_Zqof (hts _ sti_in.2.2.2.1) (hts _ sti_in.2.2.2.2) (fl _ fl_s) hA
  · exact fun a ha ha0 => ⟨va_Nw.of rfl (hts _ (cast_in a ha ha0)), fun b hb hb0 hab => va_Nc.of (fl _ (fl_c a ha b hb ⟨ha0, hb0, hab⟩))⟩
theorem wf_00 {G : GT} {L : Nat} {xs : Nat → Int32} (hL : L ≤ 260) (h1 : gL G = L) (h2 : gX G = xs) (h3 : gF G = tu26) : WF G (w00 L xs) (fun r => if r = 1 then gS G else if r = 2 then gT G else 0) := by
  refine ⟨Nat.le_refl 3, fun _ _ => by show (0 : Nat) < 3; omega, fun r hr => ?_, fun r k _ => ?_, rfl, rfl, ⟨rfl, h1.symm, fun j hj => by rw [h2]; rfl⟩, ⟨rfl, rfl, fun j hj => by rw [h3]; rfl⟩, fun r => ?_⟩
  · have e : ty (w00 L xs) r = if r = 1 then 16 else if r = 2 then 17 else 0 := rfl
    by_cases h1 : r = 1
    · exact Or.inr (Or.inl ⟨h1, by rw [e, if_pos h1]⟩)
    · by_cases h2 : r = 2
      · exact Or.inr (Or.inr ⟨h2, by rw [e, if_neg h1, if_pos h2]⟩)
      · rw [e, if_neg h1, if_neg h2] at hr
        exact absurd rfl hr
  · have e : gi (w00 L xs) r k = if r = 1 then (xs k.toNat).toInt else if r = 2 then (tu26 k.toNat).toInt else 0 := rfl
    rw [e]
    split
    · exact ir_of _
    · split
      · exact ir_of _
      · exact ir0
  · have e : ln (w00 L xs) r = if r = 1 then L else if r = 2 then 26 else 0 := rfl
    rw [e]
    split
    · omega
    · split <;> omega
theorem tu_tur : ∀ n : Nat, n < 26 → (tu26 n).toInt = tur n := by decide +kernel
/-- THE LAW'S RUN in the small machine -/
theorem law_run (L : Nat) (xs : Nat → Int32) (hL : L ≤ 260) : ∃ d, d ≤ 100 ∧ WP d 139 0 (ent 139 [vR 1]) [] (w00 L xs) (fun r w' => r = (0, vI 1) ∧ uc w' ≤ 975894 ∧ us w' ≤ 6173787) := by
  exact ⟨19, by decide, law_from rfl rfl rfl ⟨rfl, rfl⟩ ⟨rfl, rfl⟩ (fun i a b => by
    obtain ⟨n, rfl⟩ : ∃ n : Nat, i = n := ⟨i.toNat, by omega⟩
    exact tu_tur n (by omega))⟩
theorem MB_139 : MB 139 = code := rfl
theorem mc_139 : mcl 139 = 10 ∧ mml 139 = 10 ∧ mrt 139 = 2 := by decide +kernel
set_option maxHeartbeats 4000000 in
/-- THE LAW from its entry -/
theorem whole_start {p : Program} {e : Env} {s : State} {m : MethodId} {below : List Frame} {meth : Method} {c : Code} (l : Launch) (hflags : l.flags = flags0) {b L : Nat} {xs : Nat → Int32} (hL : L ≤ 260) (C0 : lw_At p s m meth c b L xs) : W p l e room_1 s m #[Value.ref b] below meth c s.heap [] 0 0 (lw_Z below #[Value.ref b] s) (entryFrame m ([Value.ref b] : List Value).toArray 10) := by
  obtain ⟨hx, hb, hr, hml, hown, hts, hX, hbl, hlocks, hgv⟩ := id C0
  obtain ⟨G, hF, g1, g2, g3, g4, g5⟩ := fx_0 hL hts hX hbl hgv
  obtain ⟨d, hd, n, hE⟩ := law_run L xs hL
  have hl : l.stackTraces = false := by
    show _ = false
    unfold Launch.stackTraces
    rw [hflags]
    decide +kernel
  have hd0 := Drawn.sameBut.refl s.drawn lw_cs
  obtain ⟨q1, q2, q3⟩ := mc_139
  have hC : Cx p l room_1 s m #[Value.ref b] meth c 139 G := ⟨hx, hb.trans MB_139.symm, hml.trans q2.symm, by rw [q1]; exact hown, fun w hw => hts w (wsL_law_in w hw), hlocks, hF, by decide, hl, fun h => absurd h (by decide), by decide⟩
  have hw := wf_00 (G := G) hL g3 g4 g5
  have ha : oks (w00 L xs) [vR 1] := fun v hv => by
    rw [List.mem_singleton.mp hv]
    exact ⟨by decide, by show (1 : Nat) < 3; omega⟩
  have hh : WH G (w00 L xs) (fun r => if r = 1 then gS G else if r = 2 then gT G else 0) s.heap := by
    have e : wl G (w00 L xs) (fun r => if r = 1 then gS G else if r = 2 then gT G else 0) = [] := rfl
    unfold WH
    rw [e]
    exact ⟨fun k q h => absurd h (by simp), fun i j p q h => absurd h (by simp), fun k q h => absurd h (by simp)⟩
  have hcv : ([vR 1] : List V).map (cv (fun r => if r = 1 then gS G else if r = 2 then gT G else 0)) = [Value.ref b] := by
    rw [← g2]; rfl
  rw [lg_entry_eq]
  have hL9 := lv_entry ([Value.ref b]) (n := 10) (Nat.le_of_ble_eq_true rfl)
  generalize (lg_sl ([Value.ref b]) ++ List.replicate (10 - (lg_sl ([Value.ref b])).length) Slot.unset).toArray = L9 at hL9 ⊢
  rw [← hcv, ← q2] at hL9
  have h0 := at9_0 (G := G) (s := s) (k := 139) (a := [vR 1]) (by decide +kernel) hL9 hw ha hh
  have k9 := walk9 (Q := lw_Z below #[Value.ref b] s) (e := e) (below := below) (snd_all l hl d) hC ⟨by show d + 8 ≤ 2048; omega, by show 48 * (d + 1) + 100 ≤ 84000; omega⟩ (Or.inl (Or.inr rfl)) (fun r w1 h => ⟨by have := h.2.1; show uc w1 - 0 ≤ 975894; omega, by have := h.2.2; show us w1 - 0 ≤ 6173787; omega⟩)
    (fun pc i ob r w1 ad1 H locs L ls st htb hrt hob hq hA => by
      obtain ⟨hL, hw, hh, hS, hst, hls, hu, hs, hex, hn0⟩ := hA
      obtain ⟨rfl, hq1, hq2⟩ := hq
      obtain ⟨n9, hd9, hlen, -, -⟩ := tbd (by decide) htb
      cases i with
      | ireturn =>
        have hd9 : decode (MB 139) pc = .ok (.ireturn, 1) := by rw [hlen rfl] at hd9; exact hd9
        rw [MB_139] at hd9
        simp only [rtn, q3] at hrt
        split at hrt
        · rename_i a
          have ha1 : a = 1 := by
            have h := congrArg (fun z : Option (Option Prop × Res) => match z with | some (_, (_, some (Sum.inl v))) => v | _ => 0) hrt
            exact h
          subst ha1
          refine va_forget (fun q hq => by have h : gB G ≤ q.base := hS.2.2 q hq; rw [g1] at h; exact h) ?_
          refine W.widen (k := 975894) (n := 6173787) (by show uc w1 - 0 ≤ _; omega) (by show us w1 - 0 ≤ _; omega) ?_
          exact lw_ret (d0 := s.drawn) hd0 hx hb hr hlocks hd9
        · cases hrt
      | lreturn => simp only [rtn] at hrt; split at hrt <;> (try split at hrt) <;> simp at hrt
      | dreturn => simp only [rtn] at hrt; split at hrt <;> (try split at hrt) <;> simp at hrt
      | areturn => simp only [rtn] at hrt; split at hrt <;> (try split at hrt) <;> simp at hrt
      | return_ => simp only [rtn] at hrt; split at hrt <;> (try split at hrt) <;> simp at hrt
      | _ => simp [rtn] at hrt)
    (fun pc i x w1 ad1 H locs L ls st htb hx9 hws hq hA => by
      have h := hq.1
      have h2 := congrArg Prod.snd h
      cases h2) n 0 (ent 139 [vR 1]) [] (w00 L xs) _ s.heap [] L9 hE h0
  exact k9
