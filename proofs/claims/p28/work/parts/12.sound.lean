/-! the walk of a whole method; every run of the small machine is a run of the machine -/
section WALK9
variable {p : Program} {l : Launch} {e : Env} {R : Room} {s : State} {m : MethodId} {args : Array Value} {below : List Frame} {meth : Method} {c : Code} {y d : Nat} {G : GT} {Q : State → Prop} {u0 s0 n0 : Nat} {ad0 : Nat → Nat}
set_option maxHeartbeats 4000000 in
theorem walk9 (hI : Snd l d) (hC : Cx p l R s m args meth c y G) (hR : d + 8 ≤ R.frames ∧ 48 * (d + 1) + 100 ≤ R.locals) (hx9 : (y < 121 ∨ y = 139) ∨ c.exceptionTable.toList = tableOf (hhs y)) {Qp : Res → Wd → Prop}
    (hE : ∀ r w1, Qp r w1 → uc w1 - u0 ≤ R.cells ∧ us w1 - s0 ≤ R.slots)
    (kR : ∀ (pc : Nat) (i : Instr) (ob : Option Prop) (r : Res) (w : Wd) (ad : Nat → Nat) (H : Heap) (locs : List Loc) (L : Array Slot) (ls st : List V), tb y pc = some i → rtn y i st = some (ob, r) → exo ob True → Qp r w → At9 G ad0 n0 (mml y) u0 s0 s w ad H locs L ls st → W p l e R s m args below meth c H locs (uc w - u0) (us w - s0) Q (F0 m pc L (st.map (cv ad))))
    (kT : ∀ (pc : Nat) (i : Instr) (x : Nat) (w : Wd) (ad : Nat → Nat) (H : Heap) (locs : List Loc) (L : Array Slot) (ls st : List V), tb y pc = some i → thr i = some x → wsm st ≤ 8 → Qp (x, none) (tk w) → At9 G ad0 n0 (mml y) u0 s0 s w ad H locs L ls st → W p l e R s m args below meth c H locs (uc w - u0) (us w - s0) Q (F0 m pc L (st.map (cv ad)))) :
    ∀ (n pc : Nat) (ls st : List V) (w : Wd) (ad : Nat → Nat) (H : Heap) (locs : List Loc) (L : Array Slot), wpn (Ev d) y n pc ls st w Qp → At9 G ad0 n0 (mml y) u0 s0 s w ad H locs L ls st → W p l e R s m args below meth c H locs (uc w - u0) (us w - s0) Q (F0 m pc L (st.map (cv ad))) := by
  intro n
  induction n with
  | zero => intro pc ls st w ad H locs L h; exact h.elim
  | succ n ih =>
    intro pc ls st w ad H locs L h hA
    obtain ⟨hL, hw, hh, hS, hst, hls, hu, hs, hex, hn0⟩ := id hA
    unfold wpn at h
    split at h
    · exact h.elim
    · rename_i i htb
      split at h
      · rename_i ob pc' ls' st' w' hi
        obtain ⟨h1, h2⟩ := exo_1 h
        obtain ⟨r, w1, g1, g2, g3⟩ := wpn_mono (ev_mono d) n _ _ _ _ h2
        have hE1 := hE r w1 g1
        refine stp_all i hC hL hw hh hS hst hls htb hi h1 ⟨hu, hs, by omega, by omega⟩ (fun L' H' locs' ad' a1 a2 a3 a4 a5 a6 a7 a8 a9 a10 => ?_)
        exact ih pc' ls' st' w' ad' H' locs' L' h2 ⟨a1, a2, a3, a4, a6, a7, Nat.le_trans hu a9, Nat.le_trans hs a10, fun r hr => (a5 r (Nat.lt_of_lt_of_le hr hn0)).trans (hex r hr), Nat.le_trans hn0 a8⟩
      · split at h
        · rename_i hi ob r hr
          obtain ⟨h1, h2⟩ := exo_1 h
          exact kR pc i ob r w ad H locs L ls st htb hr h1 h2 hA
        · split at h
          · rename_i hi hr ob k a rest hc
            obtain ⟨h1, r, w', h2, h3⟩ := exo_1 h
            have hm := ev_mono _ _ _ _ _ _ h2
            have hb2 : uc w' - u0 ≤ R.cells ∧ us w' - s0 ≤ R.slots := by
              split at h3
              · obtain ⟨r9, w9, g1, g2, g3⟩ := wpn_mono (ev_mono d) n _ _ _ _ h3
                have := hE _ _ g1
                omega
              · split at h3
                · obtain ⟨r9, w9, g1, g2, g3⟩ := wpn_mono (ev_mono d) n _ _ _ _ h3.2
                  have := hE _ _ g1
                  omega
                · exact h3.elim
            have hrest : oks w rest := cal_rest hc hst
            refine call9 hI hC hR hx9 hL hw hh hS hst hls ⟨hu, hs⟩ hb2 htb hc h1 h2 (fun hr0 ad' H1 locs1 a1 a2 a3 a4 a5 a6 => ?_) (fun hr0 pc' j hnd9 hs9 hj9 ad' H1 locs1 L' a1 a2 a3 a4 a5 a6 => ?_) (fun hr0 => ?_)
            · rw [if_pos hr0] at h3
              refine ih (pc + 3) ls (psh r.2 rest) w' ad' H1 locs1 L h3 ⟨LR_ext a1 hls hL, a3, a4, a5, ?_, oks_up a2 hls, by omega, by omega, fun r hr => (a1 r (Nat.lt_of_lt_of_le hr hn0)).trans (hex r hr), Nat.le_trans hn0 a2⟩
              unfold psh
              split
              · exact oks_up a2 hrest
              · rename_i x hx
                rw [hx] at a6
                exact oks_cons a6 (oks_up a2 hrest)
            · rw [if_neg hr0, hnd9] at h3
              exact ih pc' (ls.set j none) [] w' ad' H1 locs1 L' h3.2 ⟨a6, a3, a4, a5, (fun v hv => absurd hv List.not_mem_nil), oks_none (oks_up a2 hls) j, by omega, by omega, fun r hr => (a1 r (Nat.lt_of_lt_of_le hr hn0)).trans (hex r hr), Nat.le_trans hn0 a2⟩
            · rw [if_neg hr0] at h3
              split at h3
              · rename_i pc' j hnd9
                exact ⟨pc', j, hnd9, h3.1.1, h3.1.2⟩
              · exact h3.elim
          · split at h
            · rename_i hi hr hc x hx
              exact kT pc i x w ad H locs L ls st htb hx h.1 h.2 hA
            · exact h.elim
end WALK9
theorem ws9_own {k : Nat} {a : Array Value} {s : State} (h : ∀ w ∈ ws9 k, w.before a s = true) : ∀ w ∈ wsL_law, w.before a s = true := fun w hw => h w (List.mem_cons_of_mem _ hw)
set_option maxHeartbeats 4000000 in
/-- a return of the small machine is the machine's -/
theorem ret_met {p : Program} {l : Launch} {e : Env} {R : Room} {s : State} {m : MethodId} {args : Array Value} {below : List Frame} {meth : Method} {c : Code} {y pc : Nat} {G : GT} {i : Instr} {ob : Option Prop} {r : Res} {w w0 : Wd} {ad ad0 : Nat → Nat} {H : Heap} {locs : List Loc} {L : Array Slot} {ls st : List V}
    (hC : Cx p l R s m args meth c y G) (hret : meth.sig.returnType = MR y) (htb : tb y pc = some i) (hr : rtn y i st = some (ob, r)) (hob : exo ob True) (hA : At9 G ad0 (nx w0) (mml y) (uc w0) (us w0) s w ad H locs L ls st) :
    r.1 = 0 ∧ W p l e R s m args below meth c H locs (uc w - uc w0) (us w - us w0) (MQ below (Qc9 G ad0 w0 r w) args s (uc w - uc w0) (us w - us w0) (AA G)) (F0 m pc L (st.map (cv ad))) := by
  obtain ⟨hL, hw, hh, hS, hst, hls, hu, hs, hex, hn0⟩ := hA
  obtain ⟨hx, hb, hml, hown, hts, hlk, hF, hR0, hl0, hnm, hy⟩ := hC
  obtain ⟨n9, hd, hlen, hmem, -⟩ := tbd hy htb
  obtain ⟨m0, m1, m2, m3, m4, m5⟩ := mrt_ok y hy
  have post : ∀ v : V, r = (0, v) → okv w v → ∀ t : State, t.heap = H → Qc9 G ad0 w0 r w args s (.returned (vo ad v)) t := by
    intro v hv hv2 t ht
    subst hv
    exact ⟨ad, ⟨hex, hn0, hw, by rw [ht]; exact hh, hS.F ht⟩, hv2, rfl⟩
  cases i with
  | ireturn =>
    have hd : decode (MB y) pc = .ok (.ireturn, 1) := by rw [hlen rfl] at hd; exact hd
    simp only [rtn] at hr
    split at hr
    · rename_i a
      split at hr
      · rename_i hm
        simp only [Option.some.injEq, Prod.mk.injEq] at hr
        obtain ⟨rfl, rfl⟩ := hr
        refine ⟨rfl, ?_⟩
        exact W.iret (v := Int32.ofInt a) hx hb (hret.trans (m1 hm)) (fun t ht hW => post (vI a) rfl (oks_hd hst) t ht) hS.2.2 hd
      · split at hr
        · rename_i hm1 hm
          simp only [Option.some.injEq, Prod.mk.injEq] at hr
          obtain ⟨rfl, rfl⟩ := hr
          refine ⟨rfl, ?_⟩
          refine W.zret (v := Int32.ofInt a) hx hb (hret.trans (m2 hm)) ?_ (fun t ht hW => post (vI a) rfl (oks_hd hst) t ht) hS.2.2 hd
          rcases hob.1 with h | h
          · rw [h]; rfl
          · rw [h]; rfl
        · cases hr
    · cases hr
  | lreturn =>
    have hd : decode (MB y) pc = .ok (.lreturn, 1) := by rw [hlen rfl] at hd; exact hd
    simp only [rtn] at hr
    split at hr
    · rename_i a
      split at hr
      · rename_i hm
        simp only [Option.some.injEq, Prod.mk.injEq] at hr
        obtain ⟨rfl, rfl⟩ := hr
        refine ⟨rfl, ?_⟩
        exact W.lret (v := Int64.ofInt a) hx hb (hret.trans (m3 hm)) (fun t ht hW => post (vL a) rfl trivial t ht) hS.2.2 hd
      · cases hr
    · cases hr
  | dreturn =>
    have hd : decode (MB y) pc = .ok (.dreturn, 1) := by rw [hlen rfl] at hd; exact hd
    simp only [rtn] at hr
    split at hr
    · rename_i a
      split at hr
      · rename_i hm
        simp only [Option.some.injEq, Prod.mk.injEq] at hr
        obtain ⟨rfl, rfl⟩ := hr
        refine ⟨rfl, ?_⟩
        exact W.dret (v := a) hx hb (hret.trans (m4 hm)) (fun t ht hW => post (vD a) rfl trivial t ht) hS.2.2 hd
      · cases hr
    · cases hr
  | areturn =>
    have hd : decode (MB y) pc = .ok (.areturn, 1) := by rw [hlen rfl] at hd; exact hd
    simp only [rtn] at hr
    split at hr
    · rename_i a
      split at hr
      · rename_i hm
        simp only [Option.some.injEq, Prod.mk.injEq] at hr
        obtain ⟨rfl, rfl⟩ := hr
        refine ⟨rfl, ?_⟩
        exact W.aret (v := .ref (ad a)) hx hb (hret.trans (m5 hm)) (Or.inl ⟨_, rfl⟩) (Or.inr ⟨_, rfl⟩) (fun t ht hW => post (vR a) rfl (oks_hd hst) t ht) hS.2.2 hd
      · cases hr
    · cases hr
  | return_ =>
    have hd : decode (MB y) pc = .ok (.return_, 1) := by rw [hlen rfl] at hd; exact hd
    simp only [rtn] at hr
    split at hr
    · split at hr
      · rename_i hm
        simp only [Option.some.injEq, Prod.mk.injEq] at hr
        obtain ⟨rfl, rfl⟩ := hr
        refine ⟨rfl, ?_⟩
        exact W.vret hx hb (hret.trans (m0 hm)) (fun t ht hW => post none rfl trivial t ht) hS.2.2 hd
      · cases hr
    · cases hr
  | _ => simp only [rtn] at hr; cases hr
theorem exn_ok : ∀ x, x < 4 → 0 < x → Bundle.fit (EN x) = true := by decide +kernel
def ick (x : Nat) : Nat := cond (Nat.beq x 1) 65 (cond (Nat.beq x 2) 76 111)
def xnm : List String := ["java/lang/RuntimeException", "java/lang/Exception"]
theorem xnm_ok : ∀ n ∈ xnm, Bundle.fit n = true := by decide +kernel
theorem at_1 : ∀ w ∈ (vx_atS RX8 69 (EN 1) xnm).filter goodWord, w ∈ wsL_law := fun _ h => List.mem_append_left _ (List.mem_append_right _ h)
theorem at_2 : ∀ w ∈ (vx_atS RX8 80 (EN 2) xnm).filter goodWord, w ∈ wsL_law := fun _ h => List.mem_append_left _ (List.mem_append_left _ (List.mem_append_right _ h))
theorem at_3 : ∀ w ∈ (vx_atS RX8 115 (EN 3) xnm).filter goodWord, w ∈ wsL_law := fun _ h => List.mem_append_right _ h
theorem no_1 : ∀ w ∈ (vx_atS RX8 69 (EN 1) xnm).filter (fun w => !goodWord w), w ∈ Cond.castable (EN 1) (EN 1) :: NX := by decide +kernel
theorem no_2 : ∀ w ∈ (vx_atS RX8 80 (EN 2) xnm).filter (fun w => !goodWord w), w ∈ Cond.castable (EN 2) (EN 2) :: NX := by decide +kernel
theorem no_3 : ∀ w ∈ (vx_atS RX8 115 (EN 3) xnm).filter (fun w => !goodWord w), w ∈ Cond.castable (EN 3) (EN 3) :: NX := by decide +kernel
theorem ot_1 : ∀ w ∈ Cond.classLink RX8 65 (EN 1) :: Cond.initialized (EN 1) :: vx_atS RX8 69 (EN 1) xnm, vx_ot w = true := by decide +kernel
theorem ot_2 : ∀ w ∈ Cond.classLink RX8 76 (EN 2) :: Cond.initialized (EN 2) :: vx_atS RX8 80 (EN 2) xnm, vx_ot w = true := by decide +kernel
theorem ot_3 : ∀ w ∈ Cond.classLink RX8 111 (EN 3) :: Cond.initialized (EN 3) :: vx_atS RX8 115 (EN 3) xnm, vx_ot w = true := by decide +kernel
theorem xl_in : (Cond.classLink RX8 65 (EN 1) ∈ wsL_law ∧ Cond.initialized (EN 1) ∈ wsL_law) ∧ (Cond.classLink RX8 76 (EN 2) ∈ wsL_law ∧ Cond.initialized (EN 2) ∈ wsL_law) ∧ (Cond.classLink RX8 111 (EN 3) ∈ wsL_law ∧ Cond.initialized (EN 3) ∈ wsL_law) := by decide +kernel
/-- one of the three exceptions: its places in the class's file -/
theorem exc_all {x : Nat} (h0 : 0 < x) (h4 : x < 4) : Cond.classLink RX8 (ick x) (EN x) ∈ wsL_law ∧ Cond.initialized (EN x) ∈ wsL_law ∧ (∀ w ∈ (vx_atS RX8 (XIC (800 + x)) (EN x) xnm).filter goodWord, w ∈ wsL_law) ∧ (∀ w ∈ (vx_atS RX8 (XIC (800 + x)) (EN x) xnm).filter (fun w => !goodWord w), w ∈ Cond.castable (EN x) (EN x) :: NX) ∧ (∀ w ∈ Cond.classLink RX8 (ick x) (EN x) :: Cond.initialized (EN x) :: vx_atS RX8 (XIC (800 + x)) (EN x) xnm, vx_ot w = true) := by
  match x, h0, h4 with
  | 1, _, _ => exact ⟨xl_in.1.1, xl_in.1.2, at_1, no_1, ot_1⟩
  | 2, _, _ => exact ⟨xl_in.2.1.1, xl_in.2.1.2, at_2, no_2, ot_2⟩
  | 3, _, _ => exact ⟨xl_in.2.2.1, xl_in.2.2.2, at_3, no_3, ot_3⟩
theorem thr_new {i : Instr} {x : Nat} (h : thr i = some x) : i = .new (800 + x) ∧ 0 < x ∧ x < 4 := by
  unfold thr at h
  split at h
  · cases h; exact ⟨rfl, by decide, by decide⟩
  · cases h; exact ⟨rfl, by decide, by decide⟩
  · cases h; exact ⟨rfl, by decide, by decide⟩
  · cases h
set_option maxRecDepth 100000 in
theorem ick_rl {o pc x : Nat} (h0 : 0 < x) (h4 : x < 4) : rl o pc (.new (800 + x)) = .new (ick x) := by
  match x, h0, h4 with
  | 1, _, _ => rfl
  | 2, _, _ => rfl
  | 3, _, _ => rfl
set_option maxHeartbeats 4000000 in
/-- an exception that is made and thrown -/
theorem thr_met {p : Program} {l : Launch} {e : Env} {R : Room} {s : State} {m : MethodId} {args : Array Value} {below : List Frame} {meth : Method} {c : Code} {y pc x : Nat} {G : GT} {i : Instr} {w w0 : Wd} {ad ad0 : Nat → Nat} {H : Heap} {locs : List Loc} {L : Array Slot} {ls st : List V}
    (hC : Cx p l R s m args meth c y G) (hout : ∀ z ∈ c.exceptionTable.toList, False) (htb : tb y pc = some i) (hx9 : thr i = some x) (hws : wsm st ≤ 8) (hA : At9 G ad0 (nx w0) (mml y) (uc w0) (us w0) s w ad H locs L ls st) (hR9 : uc w + 1 - uc w0 ≤ R.cells ∧ us w + 6 - us w0 ≤ R.slots) :
    x < 4 ∧ 0 < x ∧ W p l e R s m args below meth c H locs (uc w - uc w0) (us w - us w0) (vx_MQ below (fun _ _ _ _ => False) (XC9 G ad0 w0 (x, none) (tk w)) args s (uc (tk w) - uc w0) (us (tk w) - us w0) (AA G)) (F0 m pc L (st.map (cv ad))) := by
  obtain ⟨hL, hw, hh, hS, hst, hls, hu, hs, hex, hn0⟩ := hA
  obtain ⟨hx, hb, hml, hown, hts, hlk, hF, hR0, hl0, hnm, hy⟩ := hC
  obtain ⟨rfl, h0, h4⟩ := thr_new hx9
  refine ⟨h4, h0, ?_⟩
  obtain ⟨n9, hd, hlen, hmem, hthk⟩ := tbd hy htb
  rw [ick_rl h0 h4, hlen rfl] at hd
  have hd : decode (MB y) pc = .ok (.new (ick x), 3) := hd
  have hk8 := hthk _ rfl (by omega)
  have ho : mcl y = 8 := by
    have h := hmem
    simp only [mem] at h
    rw [show Nat.ble 800 (800 + x) = true from Nat.ble_eq_true_of_le (by omega), cond_true] at h
    exact Nat.eq_of_beq_eq_true h
  rw [ho] at hown
  have hown : s.vm.findClass RX8 = some m.cls := hown
  obtain ⟨x1, x2, x3, x4, x5⟩ := exc_all h0 h4
  obtain ⟨f1, f2, f3, f4, f5, f6, f7, f8, f9, f10⟩ := hF
  have hat : ∀ w ∈ vx_atS RX8 (XIC (800 + x)) (EN x) xnm, w.before args s = true := by
    refine vx_hat (B := Cond.castable (EN x) (EN x) :: NX) (fun z hz => hts z (x3 z hz)) x4 (fun z hz => ?_)
    rcases List.mem_cons.mp hz with h | h
    · rw [h]; exact va_Nw.use rfl (f10 x h4 h0).1
    · exact nx_use h (f2 z (List.mem_append_right _ h))
  have hf9 : ∀ z ∈ locs, AA G z.base := hS.2.2
  have hsum : ((st.map (cv ad)).map fun v => v.category).sum + (13 * (xnm.length + 1) + 43) ≤ R.locals := by
    have h9 := wsm_cv (ad := ad) (l := st)
    have h8 : xnm.length = 2 := rfl
    omega
  have post : ∀ t : State, s.vm.Alike t.vm → H.size ≤ t.heap.size → (∀ q : Nat, q < H.size → t.heap[q]? = H[q]?) → XC9 G ad0 w0 (x, none) (tk w) (EN x) s t := by
    intro t _ hz hk
    refine ⟨rfl, ad, hex, hn0, hw, ⟨va_P.kept hh.1 (fun k q hq => hk q.1 ((hh.1 k q hq).lt)), hh.2⟩, Nat.le_trans hS.1 hz, fun q h1 h2 => (hk q (Nat.lt_of_lt_of_le h1 hS.1)).trans (hS.2.1 q h1 h2)⟩
  have hc9 : uc w - uc w0 + 1 ≤ uc (tk w) - uc w0 := by show _ ≤ uc w + 1 - uc w0; omega
  have hs9 : us w - us w0 + 6 ≤ us (tk w) - us w0 := by show _ ≤ us w + 6 - us w0; omega
  have str : ∀ sx, (SIX.map Prod.fst).elem sx = true → ∃ tx sa, vk_R RX8 sx tx sa s := by
    intro sx h
    obtain ⟨z, hz, rfl⟩ := List.mem_map.mp (List.elem_iff.mp h)
    obtain ⟨sa, h⟩ := f7 z hz
    exact ⟨_, sa, h⟩
  unfold thk at hk8
  simp only [Bool.and_eq_true, decide_eq_true_eq] at hk8
  obtain ⟨d3, hk8⟩ := hk8
  split at hk8
  · rename_i sx nn hd4
    simp only [Bool.and_eq_true, decide_eq_true_eq] at hk8
    obtain ⟨⟨⟨d6, d9⟩, hel⟩, d4⟩ := hk8
    obtain ⟨tx, sa, hstr⟩ := str sx hel
    exact vx_throwS hx hb hl0 hown (exn_ok x h4 h0) xnm_ok (hts _ x1) (hts _ x2) hstr hat x5 f8 f9 hS (by rw [hml]; exact hL.2.1) hd d3 d4 d6 d9 (fun z hz => (hout z hz).elim) (by show 2 + 3 < _; omega) hsum (by omega) (by omega) hlk post hf9 hc9 hs9
  · rename_i sx nn hd4
    simp only [Bool.and_eq_true, decide_eq_true_eq] at hk8
    obtain ⟨⟨⟨d7, d10⟩, hel⟩, d4⟩ := hk8
    obtain ⟨tx, sa, hstr⟩ := str sx hel
    exact vx_throwSW hx hb hl0 hown (exn_ok x h4 h0) xnm_ok (hts _ x1) (hts _ x2) hstr hat x5 f8 f9 hS (by rw [hml]; exact hL.2.1) hd d3 d4 d7 d10 (fun z hz => (hout z hz).elim) (by show 2 + 3 < _; omega) hsum (by omega) (by omega) hlk post hf9 hc9 hs9
  · cases hk8
/-- a run that ends in an exception ends at its making -/
theorem rtn_0 {y : Nat} {i : Instr} {st : List V} {ob : Option Prop} {r : Res} (h : rtn y i st = some (ob, r)) : r.1 = 0 := by
  unfold rtn at h
  repeat' split at h
  all_goals first
    | (cases h; done)
    | (simp only [Option.some.injEq, Prod.mk.injEq] at h; obtain ⟨-, rfl⟩ := h; rfl)
theorem wpn_thr {E : Nat → List V → Wd → Res → Wd → Prop} {y : Nat} {r : Res} {w' : Wd} (hr : r.1 ≠ 0) : ∀ (n pc : Nat) (ls st : List V) (w : Wd), wpn E y n pc ls st w (fun r1 w1 => r1 = r ∧ w1 = w') → ∃ (_ : Wd) (pc : Nat) (i : Instr), tb y pc = some i ∧ thr i = some r.1
  | 0, _, _, _, _, h => h.elim
  | n + 1, pc, ls, st, w, h => by
    unfold wpn at h
    split at h
    · exact h.elim
    · rename_i i htb
      split at h
      · exact wpn_thr hr n _ _ _ _ (exo_1 h).2
      · split at h
        · rename_i hrt
          obtain ⟨-, h1, -⟩ := exo_1 h
          rw [← h1] at hr
          exact absurd (rtn_0 hrt) hr
        · split at h
          · obtain ⟨-, r1, w1, -, h2⟩ := exo_1 h
            split at h2
            · exact wpn_thr hr n _ _ _ _ h2
            · split at h2
              · exact wpn_thr hr n _ _ _ _ h2.2
              · exact h2.elim
          · split at h
            · rename_i x hx
              obtain ⟨-, h1, -⟩ := h
              exact ⟨w, pc, i, htb, by rw [hx, ← h1]⟩
            · exact h.elim
theorem thr_w : ∀ y, y < 139 → 121 ≤ y → ∀ pc, pc < mln y → (match tb y pc with | some i => (thr i).isNone | none => true) = true := by decide +kernel
theorem at9_0 {G : GT} {ad : Nat → Nat} {w : Wd} {k : Nat} {a : List V} {s : State} {L : Array Slot} (hsp : (spr a).length ≤ mml k) (hL : lv_has L (mml k) (lv_args 0 (a.map (cv ad)))) (hw : WF G w ad) (ha : oks w a) (hh : WH G w ad s.heap) : At9 G ad (nx w) (mml k) (uc w) (us w) s w ad s.heap [] L (ent k a) [] := by
  refine ⟨⟨by unfold ent; simp; omega, lv_mono hL ?_⟩, hw, hh, va_S.rf, fun v hv => absurd hv List.not_mem_nil, ?_, Nat.le_refl _, Nat.le_refl _, fun _ _ => rfl, Nat.le_refl _⟩
  · intro q hq
    unfold ent at hq
    rw [lo_app, lo_rep, List.append_nil] at hq
    exact lo_spr hq
  · intro v hv
    unfold ent at hv
    rcases List.mem_append.mp hv with h | h
    · unfold spr at h
      obtain ⟨z, hz, hv2⟩ := List.mem_flatMap.mp h
      split at hv2
      · rcases List.mem_cons.mp hv2 with h2 | h2
        · rw [h2]; exact ha z hz
        · rw [List.mem_singleton.mp h2]; trivial
      · rw [List.mem_singleton.mp hv2]; exact ha z hz
    · rw [List.eq_of_mem_replicate h]; trivial
set_option maxHeartbeats 4000000 in
/-- EVERY RUN OF THE SMALL MACHINE IS A RUN OF THE MACHINE -/
theorem snd_all (l : Launch) (hl : l.stackTraces = false) : ∀ d, Snd l d := by
  intro d
  induction d with
  | zero => intro k a w r w' G ad hk hE; exact hE.elim
  | succ d ih =>
    intro k a w r w' G ad hk hE
    obtain ⟨hsp, n, hE⟩ := hE
    have hmono : uc w ≤ uc w' ∧ us w ≤ us w' := by
      obtain ⟨r1, w1, ⟨-, rfl⟩, h2, h3⟩ := wpn_mono (ev_mono d) n _ _ _ _ hE
      exact ⟨h2, h3⟩
    have cx : ∀ {p : Program} {e : Env} {s : State} {m : MethodId} {args : Array Value} {below : List Frame} {meth : Method} {c : Code} {s₁ : State}, BodyLoose p l (MN k) (headSpec (ws9 k) (rm9 (d + 1) (uc w' - uc w) (us w' - us w))) (MB k) (mml k) (MR k) e s m args below meth c s₁ → c.maxLocals = mml k → Pc9 G ad a w args s → Cx p l (rm9 (d + 1) (uc w' - uc w) (us w' - us w)) s m args meth c k G := by
      intro p e s m args below meth c s₁ B hml hv
      have hts := atoms_spec (ws := ws9 k) B.pre
      have hcl : (MN k).cls = RC (mcl k) := by
        by_cases h : k < 121
        · exact (mok k h).1
        · exact (wok9 k (by omega) hk).1
      refine ⟨B.exec, B.bytes, hml, by rw [← hcl]; exact findClass_of_methodNamed B.named, ws9_own hts, B.notSynchronized, hv.2.2.2.2, ⟨by show 7 ≤ d + 1 + 7; omega, by show 100 ≤ 48 * (d + 1) + 100; omega⟩, hl, fun _ => (name_of_methodNamed B.named B.method).1, by omega⟩
    have bound : ∀ (r1 : Res) (w1 : Wd), (r1 = r ∧ w1 = w') → uc w1 - uc w ≤ (rm9 (d + 1) (uc w' - uc w) (us w' - us w)).cells ∧ us w1 - us w ≤ (rm9 (d + 1) (uc w' - uc w) (us w' - us w)).slots := by
      intro r1 w1 h
      rw [h.2]
      exact ⟨Nat.le_refl _, Nat.le_refl _⟩
    have hR : d + 8 ≤ (rm9 (d + 1) (uc w' - uc w) (us w' - us w)).frames ∧ 48 * (d + 1) + 100 ≤ (rm9 (d + 1) (uc w' - uc w) (us w' - us w)).locals := ⟨by show d + 8 ≤ d + 1 + 7; omega, Nat.le_refl _⟩
    refine ⟨fun hr0 => ?_, fun hr0 => ?_⟩
    · have body : ∀ p e s m args below meth c s₁, BodyLoose p l (MN k) (headSpec (ws9 k) (rm9 (d + 1) (uc w' - uc w) (us w' - us w))) (MB k) (mml k) (MR k) e s m args below meth c s₁ → c.maxLocals = mml k → ((k < 121 ∨ k = 139) ∨ c.exceptionTable.toList = tableOf (hhs k)) → Pc9 G ad a w args s →
          W p l e (rm9 (d + 1) (uc w' - uc w) (us w' - us w)) s m args below meth c s.heap [] 0 0 (MQ below (Qc9 G ad w r w') args s (uc w' - uc w) (us w' - us w) (AA G)) (entryFrame m args (mml k)) := by
        intro p e s m args below meth c s₁ B hml hx9 hv
        have hC := cx B hml hv
        obtain ⟨rfl, hw, ha, hh, hF⟩ := hv
        rw [lg_entry_eq]
        have hL := lv_entry (a.map (cv ad)) (n := mml k) (by rw [lg_len]; exact hsp)
        generalize (lg_sl (a.map (cv ad)) ++ List.replicate (mml k - (lg_sl (a.map (cv ad))).length) Slot.unset).toArray = L at hL ⊢
        have h0 := at9_0 (G := G) (s := s) hsp hL hw ha hh
        have k9 := walk9 (Q := MQ below (Qc9 G ad w r w') (a.map (cv ad)).toArray s (uc w' - uc w) (us w' - us w) (AA G)) (e := e) (below := below) ih hC hR hx9 bound (fun pc i ob r1 w1 ad1 H locs L ls st htb hrt hob hq hA => by
            obtain ⟨rfl, rfl⟩ := hq
            exact (ret_met hC B.returns htb hrt hob hA).2) (fun pc i x w1 ad1 H locs L ls st htb hx hws hq hA => by
            obtain ⟨h1, h2⟩ := hq
            rw [← h1] at hr0
            obtain ⟨-, h3, -⟩ := thr_new hx
            exact absurd hr0 (by show ¬ x = 0; omega)) n 0 (ent k a) [] w ad s.heap [] L hE h0
        rw [Nat.sub_self, Nat.sub_self] at k9
        exact k9
      have hpl : plainName (MN k).cls = true := by
        by_cases h : k < 121
        · exact (mok k h).2.2.2.1
        · exact (wok9 k (by omega) hk).2.2.2.1
      by_cases hk181 : k < 121
      · exact Met.ofW (cc := MB k) (maxL := mml k) (ret := MR k) hpl (show ws9 k = Cond.code (MN k) (MB k) (mml k) (MR k) :: wsL_law by unfold ws9 hd9; rw [if_pos hk181]) (fun p e s m args below meth c s₁ B hml hv => body p e s m args below meth c s₁ B hml (Or.inl (Or.inl hk181)) hv)
      · have hw9 : ws9 k = Cond.codeWith (MN k) (MB k) (mml k) (MR k) (hhs k) :: wsL_law := by unfold ws9 hd9; rw [if_neg hk181]
        refine va_MetW (cc := MB k) (maxL := mml k) (ret := MR k) (hh := hhs k) hpl hw9 (fun p e s m args below meth c s₁ B hml hv => body p e s m args below meth c s₁ B hml (Or.inr ?_) hv)
        exact vx_table (x := MN k) B (atoms_spec (ws := ws9 k) B.pre _ (by rw [hw9]; exact List.mem_cons_self))
    · have hx4 : ∃ (_ : Wd) (pc : Nat) (i : Instr), tb k pc = some i ∧ thr i = some r.1 := by
        exact wpn_thr hr0 n _ _ _ _ hE
      obtain ⟨-, pc1, i1, ht1, hi1⟩ := hx4
      obtain ⟨-, h0, h4⟩ := thr_new hi1
      have hk181 : k < 121 := by
        rcases Nat.lt_or_ge k 121 with q | q
        · exact q
        · have h := thr_w k hk q pc1 (tbl_lt (by omega) ht1)
          rw [ht1] at h
          dsimp only at h
          rw [hi1] at h
          cases h
      refine ⟨h4, hk181, ?_⟩
      refine vx_ofW (cc := MB k) (maxL := mml k) (ret := MR k) (mok k hk181).2.2.2.1 (show ws9 k = Cond.code (MN k) (MB k) (mml k) (MR k) :: wsL_law by unfold ws9 hd9; rw [if_pos hk181]) (fun p e s m args below meth c s₁ B hml hout hv => ?_)
      have hC := cx B hml hv
      obtain ⟨rfl, hw, ha, hh, hF⟩ := hv
      rw [lg_entry_eq]
      have hL := lv_entry (a.map (cv ad)) (n := mml k) (by rw [lg_len]; exact hsp)
      generalize (lg_sl (a.map (cv ad)) ++ List.replicate (mml k - (lg_sl (a.map (cv ad))).length) Slot.unset).toArray = L at hL ⊢
      have h0' := at9_0 (G := G) (s := s) hsp hL hw ha hh
      have k9 := walk9 (Q := vx_MQ below (fun _ _ _ _ => False) (XC9 G ad w r w') (a.map (cv ad)).toArray s (uc w' - uc w) (us w' - us w) (AA G)) (e := e) (below := below) ih hC hR (Or.inl (Or.inl hk181)) bound (fun pc i ob r1 w1 ad1 H locs L ls st htb hrt hob hq hA => by
          obtain ⟨rfl, rfl⟩ := hq
          exact absurd (ret_met (e := e) (below := below) hC B.returns htb hrt hob hA).1 hr0) (fun pc i x w1 ad1 H locs L ls st htb hx hws hq hA => by
          obtain ⟨h1, h2⟩ := hq
          have hb := bound _ _ ⟨h1, h2⟩
          have h9 := (thr_met (e := e) (below := below) hC hout htb hx hws hA ⟨hb.1, hb.2⟩).2.2
          rw [h1, h2] at h9
          exact h9) n 0 (ent k a) [] w ad s.heap [] L hE h0'
      rw [Nat.sub_self, Nat.sub_self] at k9
      exact k9
