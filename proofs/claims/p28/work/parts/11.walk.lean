/-! the runs of the small machine are the machine's -/
theorem sum_drop {ad : Nat → Nat} {st : List V} {n : Nat} (h : wsm (st.drop n) ≤ 8) : 2 * 0 + (((st.drop n).map (cv ad)).map fun v => v.category).sum ≤ 8 := by
  have h1 := wsm_cv (ad := ad) (l := st.drop n)
  omega
/-- where the walk stands: the small machine's state as the machine has it, grown out of the start's addresses -/
def At9 (G : GT) (ad0 : Nat → Nat) (n0 nL u0 s0 : Nat) (s : State) (w : Wd) (ad : Nat → Nat) (H : Heap) (locs : List Loc) (L : Array Slot) (ls st : List V) : Prop :=
  LR nL L ls ad ∧ WF G w ad ∧ WH G w ad H ∧ va_S (AA G) s.heap H locs ∧ oks w st ∧ oks w ls ∧ u0 ≤ uc w ∧ s0 ≤ us w ∧ (∀ r, r < n0 → ad r = ad0 r) ∧ n0 ≤ nx w
set_option maxHeartbeats 4000000 in
/-- a call of the small machine -/
theorem call9 {p : Program} {l : Launch} {e : Env} {R : Room} {s : State} {m : MethodId} {args : Array Value} {below : List Frame} {meth : Method} {c : Code} {y d : Nat} {G : GT} {Q : State → Prop} {u0 s0 : Nat} {pc : Nat} {i : Instr} {ob : Option Prop} {k : Nat} {a rest st ls : List V} {w w' : Wd} {r : Res} {ad : Nat → Nat} {H : Heap} {locs : List Loc} {L : Array Slot}
    (hI : Snd l d) (hC : Cx p l R s m args meth c y G) (hR : d + 8 ≤ R.frames ∧ 48 * (d + 1) + 100 ≤ R.locals) (hx9 : (y < 121 ∨ y = 139) ∨ c.exceptionTable.toList = tableOf (hhs y))
    (hL : LR (mml y) L ls ad) (hw : WF G w ad) (hh : WH G w ad H) (hS : va_S (AA G) s.heap H locs) (hst : oks w st) (hls : oks w ls) (hu : u0 ≤ uc w ∧ s0 ≤ us w) (hb2 : uc w' - u0 ≤ R.cells ∧ us w' - s0 ≤ R.slots)
    (htb : tb y pc = some i) (hc : cal i st w = some (ob, (k, (a, rest)))) (hob : exo ob True) (hE : Ev d k a w r w')
    (k0 : r.1 = 0 → ∀ (ad' : Nat → Nat) (H1 : Heap) (locs1 : List Loc), (∀ r, r < nx w → ad' r = ad r) → nx w ≤ nx w' → WF G w' ad' → WH G w' ad' H1 → va_S (AA G) s.heap H1 locs1 → okv w' r.2 → W p l e R s m args below meth c H1 locs1 (uc w' - u0) (us w' - s0) Q (F0 m (pc + 3) L ((psh r.2 rest).map (cv ad'))))
    (k1 : r.1 ≠ 0 → ∀ pc' j, hnd y pc r.1 = some (pc', j) → sok ls j = true → j < ls.length → ∀ (ad' : Nat → Nat) (H1 : Heap) (locs1 : List Loc) (L' : Array Slot), (∀ r, r < nx w → ad' r = ad r) → nx w ≤ nx w' → WF G w' ad' → WH G w' ad' H1 → va_S (AA G) s.heap H1 locs1 → LR (mml y) L' (ls.set j none) ad' → W p l e R s m args below meth c H1 locs1 (uc w' - u0) (us w' - s0) Q (F0 m pc' L' []))
    (hn : r.1 ≠ 0 → ∃ pc' j, hnd y pc r.1 = some (pc', j) ∧ sok ls j = true ∧ j < ls.length) :
    W p l e R s m args below meth c H locs (uc w - u0) (us w - s0) Q (F0 m pc L (st.map (cv ad))) := by
  have hC0 := hC
  obtain ⟨hx, hb, hml, hown, hts, hlk, hF, hR0, hl0, hnm, hy⟩ := hC
  obtain ⟨n9, hd, hlen, hmem, -⟩ := tbd hy htb
  have hmono := ev_mono _ _ _ _ _ _ hE
  have fit : uc w - u0 + (uc w' - uc w) ≤ R.cells ∧ us w - s0 + (us w' - us w) ≤ R.slots := by clear hn; omega
  have e1 : uc w - u0 + (uc w' - uc w) = uc w' - u0 := by clear hn; omega
  have e2 : us w - s0 + (us w' - us w) = us w' - s0 := by clear hn; omega
  have hsz : L.size = mml y := hL.2.1
  have mapv : ∀ (ad' : Nat → Nat), (∀ r, r < nx w → ad' r = ad r) → oks w rest → (vo ad' r.2).toList ++ rest.map (cv ad) = (psh r.2 rest).map (cv ad') := by
    intro ad' hex hok
    rw [← cvs_ext hex hok]
    have e : ∀ v : V, (vo ad' v).toList ++ rest.map (cv ad') = (psh v rest).map (cv ad') := by intro v; cases v <;> rfl
    exact e r.2
  have pre : ∀ U : State, U.heap = H → s.WarmedH U.vm → oks w a → Pc9 G ad a w (a.map (cv ad)).toArray U := by
    intro U hU hW ha
    refine ⟨rfl, hw, ha, by rw [hU]; exact hh, ?_⟩
    rw [hU]
    exact Fx_to hW hF hS.2.1 (Nat.le_trans hF.2.2.2.2.2.1.2.2.1 hS.1)
  have hroom : ∀ k, k < 139 → (rm9 d (uc w' - uc w) (us w' - us w)).frames + 1 ≤ R.frames ∧ 8 + (mml k + 11) + (rm9 d (uc w' - uc w) (us w' - us w)).locals ≤ R.locals := by
    intro k hk
    have := ml_28 k (by omega)
    unfold rm9
    dsimp only
    omega
  have hS2 : CallFix p m c (MB y) (mml y) s args wsL_law (RC (mcl y)) := ⟨hx, hb, hml, hown, hts⟩
  cases i with
  | invokevirtual k9 =>
    simp only [cal] at hc
    split at hc
    · rename_i b hb9
      split at hc
      · rename_i hws
        simp only [Option.some.injEq, Prod.mk.injEq] at hc
        obtain ⟨rfl, rfl, rfl, rfl⟩ := hc
        obtain ⟨tr1, tr2⟩ := take_rev hb9
        have hm := hmem
        simp only [mem, Bool.and_eq_true, decide_eq_true_eq] at hm
        obtain ⟨⟨hki, hk199⟩, hkm⟩ := hm
        have hki : mki k9 = 0 := Nat.eq_of_beq_eq_true hki
        have hk181 : k9 < 121 := vk_lo k9 hk199 hki
        have hlink := ML9_ok _ hkm
        obtain ⟨o1, o2, o3, o4, o5, o6, o7, -, -⟩ := mok k9 hk181
        obtain ⟨o7a, o7b⟩ := o7 hki
        have hcl : mcl k9 < 9 := cl_10 k9 hk181 hki
        have hty : ty w b = mcl k9 + 1 := hob.1
        obtain ⟨h3, hnb⟩ := wf_obj hw hty (by omega) (by omega)
        have hrec := va_recv hF.1 hh.1 (cok _ hcl).1 (q0 := b - 3) (a := ad b) (fs := fvs w ad b) (by rw [wl_at h3 hnb, cel_obj hty hcl])
        have hA : (((st.take (mar k9 + 1)).reverse).map (cv ad)) = .ref (ad b) :: ((st.take (mar k9)).reverse.map (cv ad)) := by rw [tr1]; rfl
        have hst9 : st.map (cv ad) = ((st.take (mar k9)).reverse.map (cv ad)).reverse ++ .ref (ad b) :: (st.drop (mar k9 + 1)).map (cv ad) := by
          rw [← List.map_reverse, List.reverse_reverse]
          conv => lhs; rw [tr2]
          rw [List.map_append]
          rfl
        have hal : ((st.take (mar k9)).reverse.map (cv ad)).length = mar k9 := by
          have hl : mar k9 < st.length := by
            rcases Nat.lt_or_ge (mar k9) st.length with q | q
            · exact q
            · rw [List.getElem?_eq_none q] at hb9; cases hb9
          simp; omega
        have hpre : PreV s H (RC (mcl k9)) (ad b) (Pc9 G ad ((st.take (mar k9 + 1)).reverse) w) ((st.take (mar k9)).reverse.map (cv ad)) := ⟨blind9, hrec, fun U hU hW => by rw [← hA]; exact pre U hU hW (oks_take hst _)⟩
        have hd : decode (MB y) pc = .ok (.invokevirtual (cpM (mcl y * 10000 + k9)), 3) := by rw [hlen rfl] at hd; exact hd
        have hw9 : ws9 k9 = Cond.code (MN k9) (MB k9) (mml k9) (MR k9) :: wsL_law := by unfold ws9 hd9; rw [if_pos hk181]
        have hS9 := hI k9 _ w r w' G ad hk199 hE
        by_cases hr0 : r.1 = 0
        · have hM := hS9.1 hr0
          have hrun : va_Run p l e R s m args below meth c H locs (uc w - u0) (us w - s0) (uc w' - uc w) (us w' - us w) (F0 m pc L (st.map (cv ad))) ((st.drop (mar k9 + 1)).map (cv ad)) (Qc9 G ad w r w' (Value.ref (ad b) :: (st.take (mar k9)).reverse.map (cv ad)).toArray) (AA G) := by
            rcases hlink with hlink | hlink
            · exact va_runV hS2 hM (cwV (mar k9) hts (fun z hz => by
                rcases List.mem_append.mp (show z ∈ ([.methodLink (RC (mcl y)) (cpM (mcl y * 10000 + k9)) (MN k9), .instanceMethod (MN k9), .selects (RC (mcl k9)) (MN k9) (MN k9), .initialized (RC (mcl k9))] : List Cond) ++ ws9 k9 from hz) with h | h
                · refine good_L z ?_
                  simp only [List.mem_cons, List.not_mem_nil, or_false] at h
                  rcases h with rfl | rfl | rfl | rfl
                  · exact hlink
                  · exact o7a
                  · exact o7b
                  · exact o2
                · exact good_9 hk199 z h) hw9 rfl rfl ⟨o1, o5.1, o5.2, o3⟩ (hroom k9 hk199)) hpre rfl hal hsz hst9 (sum_drop hws) hd fit
            · exact va_runVN hS2 hM ⟨va_cnB (mar k9) hts (good_9 hk199) hw9 rfl rfl (hF.2.1 _ (List.mem_append_left _ hlink)) (by rw [o1]; exact hts _ o2) ⟨o5.1, o5.2, o3⟩ (hroom k9 hk199), hts _ o7a, hts _ o7b⟩ hpre rfl hal hsz hst9 (sum_drop hws) hd fit
          refine ret9 hrun hS (fun ad' H1 locs1 g1 g2 g3 g4 g5 g6 => ?_)
          rw [mapv ad' g1 (oks_drop hst _), e1, e2]
          exact k0 hr0 ad' H1 locs1 g1 g2 g3 g4 g5 g6
        · obtain ⟨hr4, -, hM⟩ := hS9.2 hr0
          obtain ⟨pc', j, hnd9, hs9, hj9⟩ := hn hr0
          have hpc60 : pc < 60 := hnd_60 y hy _ hr4 pc _ hnd9
          have hck9 := hck_ok y hy pc hpc60 _ hr4
          unfold hck at hck9
          rw [hnd9] at hck9
          dsimp only at hck9
          split at hck9
          · cases hck9
          · rename_i x hx5
            simp only [Bool.and_eq_true, List.all_eq_true, decide_eq_true_eq] at hck9
            obtain ⟨⟨⟨⟨⟨⟨q1, q2⟩, q3⟩, q4⟩, q5⟩, q6⟩, q7⟩ := hck9
            have hmc : mcl y = 10 := Nat.eq_of_beq_eq_true q6
            have htab : c.exceptionTable.toList = tableOf (hhs y) := by
              rcases hx9 with h | h
              · exact absurd hnd9 (nohnd h _ _ _)
              · exact h
            have hlink : Cond.methodLink (RC (mcl y)) (cpM (mcl y * 10000 + k9)) (MN k9) ∈ wsL_law := by
              rcases hlink with h | h
              · exact h
              · exact absurd h (by rw [hmc]; exact nest_law)
            have hrun : vx_Run p l e R s m args below meth c H locs (uc w - u0) (us w - s0) (uc w' - uc w) (us w' - us w) (F0 m pc L (st.map (cv ad))) ((st.drop (mar k9 + 1)).map (cv ad)) (fun _ _ _ => False) (XC9 G ad w r w') (AA G) :=
              vx_runV hS2 hM (cwV (mar k9) hts (fun z hz => by
                rcases List.mem_append.mp (show z ∈ ([.methodLink (RC (mcl y)) (cpM (mcl y * 10000 + k9)) (MN k9), .instanceMethod (MN k9), .selects (RC (mcl k9)) (MN k9) (MN k9), .initialized (RC (mcl k9))] : List Cond) ++ ws9 k9 from hz) with h | h
                · refine good_L z ?_
                  simp only [List.mem_cons, List.not_mem_nil, or_false] at h
                  rcases h with rfl | rfl | rfl | rfl
                  · exact hlink
                  · exact o7a
                  · exact o7b
                  · exact o2
                · exact good_9 hk199 z h) hw9 rfl rfl ⟨o1, o5.1, o5.2, o3⟩ (hroom k9 hk199)) hpre rfl hal hsz hst9 (sum_drop hws) hd fit
            refine thr9 hrun hS (fun ad' H1 locs1 q ce g1 g2 g3 g4 g5 g6 g7 g8 => ?_)
            have hL' := LR_ext g1 hls hL
            have hsplit : tableOf (hhs y) = (tableOf (hhs y)).take (hix y r.1) ++ x :: (tableOf (hhs y)).drop (hix y r.1 + 1) := by
              have hl : hix y r.1 < (tableOf (hhs y)).length := by
                rcases Nat.lt_or_ge (hix y r.1) (tableOf (hhs y)).length with q | q
                · exact q
                · rw [List.getElem?_eq_none q] at hx5; cases hx5
              have hxe : (tableOf (hhs y))[hix y r.1] = x := by rw [List.getElem?_eq_getElem hl] at hx5; exact Option.some.inj hx5
              rw [← hxe, ← List.drop_eq_getElem_cons hl, List.take_append_drop]
            have hownL : s.vm.findClass RL = some m.cls := by rw [hmc] at hown; exact hown
            have hF10 := hF.2.2.2.2.2.2.2.2.2
            refine vx_catch hownL _ x _ (htab.trans hsplit) (fun z hz => Or.inr ?_) (by show (decide _ && decide _) = true; rw [decide_eq_true q2.1, decide_eq_true q2.2]; rfl) ?_ (name := EN r.1) (E := EN r.1) ?_ ?_ g6 g7 g8 ?_
            · obtain ⟨⟨⟨z1, z2⟩, z3⟩, z4⟩ := q1 z hz
              refine ⟨fun h0 => ?_, EN (cxe z.catchType), hts _ (cxe_in _ z1 z3), (hF10 r.1 hr4 q5).2 _ z4 z3 (fun h => z2 h.symm)⟩
              rw [h0] at z3
              exact absurd z3 (by decide)
            · intro h0
              rw [h0] at q4
              rw [← q4] at q5
              exact absurd q5 (by decide)
            · have h8 := hts _ (cxe_in x.catchType q3 (by rw [q4]; exact q5))
              rw [q4] at h8
              exact h8
            · exact va_Nw.use rfl (hF10 r.1 hr4 q5).1
            · rw [e1, e2]
              split at q7
              · rename_i n9 hda
                simp only [Bool.and_eq_true] at q7
                have hn9 := Nat.eq_of_beq_eq_true q7.1
                have hp9 := Nat.eq_of_beq_eq_true q7.2
                subst hn9
                subst hp9
                refine lv_astore (x := q) hx hb hda hL'.2 (by have := hL.1; omega) rfl (fun L' hL9 => ?_)
                exact k1 hr0 _ _ hnd9 hs9 hj9 ad' H1 locs1 L' g1 g2 g3 g4 g5 (LR_none hL'.1 hs9 hL9)
              · rename_i n9 hda
                simp only [Bool.and_eq_true] at q7
                have hn9 := Nat.eq_of_beq_eq_true q7.1
                have hp9 := Nat.eq_of_beq_eq_true q7.2
                subst hn9
                subst hp9
                refine lv_astore_n (x := q) hx hb hda rfl hL'.2 (by have := hL.1; omega) rfl (fun L' hL9 => ?_)
                exact k1 hr0 _ _ hnd9 hs9 hj9 ad' H1 locs1 L' g1 g2 g3 g4 g5 (LR_none hL'.1 hs9 hL9)
              · cases q7
      · cases hc
    · cases hc
  | invokespecial k9 =>
    simp only [cal] at hc
    split at hc
    · rename_i hk900
      split at hc
      · rename_i b hb9
        split at hc
        · rename_i hws
          simp only [Option.some.injEq, Prod.mk.injEq] at hc
          obtain ⟨rfl, rfl, rfl, rfl⟩ := hc
          obtain ⟨tr1, tr2⟩ := take_rev hb9
          have hm := hmem
          simp only [mem] at hm
          rw [show Nat.ble 900 k9 = false from by cases h9 : Nat.ble 900 k9 with
            | false => rfl
            | true => have := Nat.le_of_ble_eq_true h9; omega] at hm
          simp only [cond_false, Bool.and_eq_true, decide_eq_true_eq] at hm
          obtain ⟨⟨hki, hk199⟩, hkm⟩ := hm
          have hki : mki k9 = 2 := Nat.eq_of_beq_eq_true hki
          have hk181 : k9 < 121 := by
            rcases Nat.lt_or_ge k9 121 with q | q
            · exact q
            · exact absurd hki (mki_hi k9 (by omega) q)
          have hlink := ML9_ok _ hkm
          obtain ⟨o1, o2, o3, o4, o5, o6, -, -, o9⟩ := mok k9 hk181
          obtain ⟨o9a, o9b⟩ := o9 hki
          have hA : (((st.take (mar k9 + 1)).reverse).map (cv ad)) = .ref (ad b) :: ((st.take (mar k9)).reverse.map (cv ad)) := by rw [tr1]; rfl
          have hst9 : st.map (cv ad) = ((st.take (mar k9)).reverse.map (cv ad)).reverse ++ .ref (ad b) :: (st.drop (mar k9 + 1)).map (cv ad) := by
            rw [← List.map_reverse, List.reverse_reverse]
            conv => lhs; rw [tr2]
            rw [List.map_append]
            rfl
          have hal : ((st.take (mar k9)).reverse.map (cv ad)).length = mar k9 := by
            have hl : mar k9 < st.length := by
              rcases Nat.lt_or_ge (mar k9) st.length with q | q
              · exact q
              · rw [List.getElem?_eq_none q] at hb9; cases hb9
            simp; omega
          have hpre : PreS s H (Pc9 G ad ((st.take (mar k9 + 1)).reverse) w) (.ref (ad b) :: (st.take (mar k9)).reverse.map (cv ad)) := ⟨blind9, fun U hU hW => by rw [← hA]; exact pre U hU hW (oks_take hst _)⟩
          have hd : decode (MB y) pc = .ok (.invokespecial (cpM (mcl y * 10000 + k9)), 3) := by rw [hlen rfl] at hd; exact hd
          have hw9 : ws9 k9 = Cond.code (MN k9) (MB k9) (mml k9) none :: wsL_law := by unfold ws9 hd9; rw [if_pos hk181, ini_void k9 hk181 hki]
          have hS9 := hI k9 _ w r w' G ad hk199 hE
          have hr0 : r.1 = 0 := by
            by_cases hr0 : r.1 = 0
            · exact hr0
            · obtain ⟨pc', j, hnd9, -, -⟩ := hn hr0
              exact absurd hnd9 (hnd_v y hy pc _ (hS9.2 hr0).1 htb (by intro k8 h8; cases h8))
          have hM := hS9.1 hr0
          have hrun : va_Run p l e R s m args below meth c H locs (uc w - u0) (us w - s0) (uc w' - uc w) (us w' - us w) (F0 m pc L (st.map (cv ad))) ((st.drop (mar k9 + 1)).map (cv ad)) (Qc9 G ad w r w' (Value.ref (ad b) :: (st.take (mar k9)).reverse.map (cv ad)).toArray) (AA G) := by
            rcases hlink with hlink | hlink
            · exact va_runI hS2 hM (cwI (mar k9) hts (good_9 hk199) hw9 rfl rfl (by rw [o1]; exact hts _ o2) (hts _ hlink) (hts _ o9a) o9b ⟨o5.1, o5.2, o3⟩ (hroom k9 hk199)) hpre rfl hal hsz hst9 (sum_drop hws) hd fit
            · exact va_runIN hS2 hM ⟨va_cnB (mar k9) hts (good_9 hk199) hw9 rfl rfl (hF.2.1 _ (List.mem_append_left _ hlink)) (by rw [o1]; exact hts _ o2) ⟨o5.1, o5.2, o3⟩ (hroom k9 hk199), o9b, hts _ o9a⟩ hpre rfl hal hsz hst9 (sum_drop hws) hd fit
          refine ret9 hrun hS (fun ad' H1 locs1 g1 g2 g3 g4 g5 g6 => ?_)
          rw [mapv ad' g1 (oks_drop hst _), e1, e2]
          exact k0 hr0 ad' H1 locs1 g1 g2 g3 g4 g5 g6
        · cases hc
      · cases hc
    · cases hc
  | invokestatic k9 =>
    simp only [cal] at hc
    split at hc
    · rename_i hk900
      split at hc
      · rename_i hws
        simp only [Option.some.injEq, Prod.mk.injEq] at hc
        obtain ⟨rfl, rfl, rfl, rfl⟩ := hc
        have hm := hmem
        simp only [mem] at hm
        rw [show Nat.ble 900 k9 = false from by cases h9 : Nat.ble 900 k9 with
          | false => rfl
          | true => have := Nat.le_of_ble_eq_true h9; omega] at hm
        simp only [cond_false, Bool.and_eq_true, decide_eq_true_eq] at hm
        obtain ⟨⟨hki, hk199⟩, hkm⟩ := hm
        have hki : mki k9 = 1 := Nat.eq_of_beq_eq_true hki
        have hlink := ML9_ok _ hkm
        have hst9 : st.map (cv ad) = ((st.take (mar k9)).reverse.map (cv ad)).reverse ++ (st.drop (mar k9)).map (cv ad) := by
          rw [← List.map_reverse, List.reverse_reverse, ← List.map_append, List.take_append_drop]
        have hal : ((st.take (mar k9)).reverse.map (cv ad)).length = mar k9 := by simp; omega
        have hpre : PreS s H (Pc9 G ad ((st.take (mar k9)).reverse) w) ((st.take (mar k9)).reverse.map (cv ad)) := ⟨blind9, fun U hU hW => pre U hU hW (oks_take hst _)⟩
        have hd : decode (MB y) pc = .ok (.invokestatic (cpM (mcl y * 10000 + k9)), 3) := by rw [hlen rfl] at hd; exact hd
        have hS9 := hI k9 _ w r w' G ad hk199 hE
        have hr0 : r.1 = 0 := by
          by_cases hr0 : r.1 = 0
          · exact hr0
          · obtain ⟨pc', j, hnd9, -, -⟩ := hn hr0
            exact absurd hnd9 (hnd_v y hy pc _ (hS9.2 hr0).1 htb (by intro k8 h8; cases h8))
        have hM := hS9.1 hr0
        have hrun : va_Run p l e R s m args below meth c H locs (uc w - u0) (us w - s0) (uc w' - uc w) (us w' - us w) (F0 m pc L (st.map (cv ad))) ((st.drop (mar k9)).map (cv ad)) (Qc9 G ad w r w' ((st.take (mar k9)).reverse.map (cv ad)).toArray) (AA G) := by
          by_cases hk181 : k9 < 121
          · obtain ⟨o1, o2, o3, o4, o5, o6, -, o8, -⟩ := mok k9 hk181
            have o8 := o8 hki
            have hw9 : ws9 k9 = Cond.code (MN k9) (MB k9) (mml k9) (MR k9) :: wsL_law := by unfold ws9 hd9; rw [if_pos hk181]
            rcases hlink with hlink | hlink
            · exact va_runS hS2 hM (va_cwS (mar k9) hts (fun z hz => by
                rcases List.mem_append.mp (show z ∈ ([.methodLink (RC (mcl y)) (cpM (mcl y * 10000 + k9)) (MN k9), .static (MN k9), .initialized (MN k9).cls] : List Cond) ++ ws9 k9 from hz) with h | h
                · refine good_L z ?_
                  simp only [List.mem_cons, List.not_mem_nil, or_false] at h
                  rcases h with rfl | rfl | rfl
                  · exact hlink
                  · exact o8
                  · rw [o1]; exact o2
                · exact good_9 hk199 z h) hw9 rfl rfl ⟨o5.1, o5.2, o3⟩ (hroom k9 hk199)) hpre rfl hal hsz hst9 (sum_drop hws.1) hd fit
            · exact va_runSN hS2 hM ⟨va_cnB (mar k9) hts (good_9 hk199) hw9 rfl rfl (hF.2.1 _ (List.mem_append_left _ hlink)) (by rw [o1]; exact hts _ o2) ⟨o5.1, o5.2, o3⟩ (hroom k9 hk199), hts _ o8, trivial⟩ hpre rfl hal hsz hst9 (sum_drop hws.1) hd fit
          · obtain ⟨o1, o2, o3, o4, o5, o6, o7⟩ := wok9 k9 (by omega) hk199
            have hw9 : ws9 k9 = Cond.codeWith (MN k9) (MB k9) (mml k9) (MR k9) (hhs k9) :: wsL_law := by unfold ws9 hd9; rw [if_neg hk181]
            rcases hlink with hlink | hlink
            · exact vx_runSW hS2 hM (vx_cwSW (mar k9) hts (fun z hz => by
                rcases List.mem_append.mp (show z ∈ ([.methodLink (RC (mcl y)) (cpM (mcl y * 10000 + k9)) (MN k9), .static (MN k9), .initialized (MN k9).cls] : List Cond) ++ ws9 k9 from hz) with h | h
                · refine good_L z ?_
                  simp only [List.mem_cons, List.not_mem_nil, or_false] at h
                  rcases h with rfl | rfl | rfl
                  · exact hlink
                  · exact o7
                  · rw [o1]; exact o2
                · exact good_9 hk199 z h) hw9 rfl rfl ⟨o5.1, o5.2, o3⟩ (hroom k9 hk199)) hpre rfl hal hsz hst9 (sum_drop hws.1) hd fit
            · exact absurd hlink (nest_w k9 (by omega) hk199)
        refine ret9 hrun hS (fun ad' H1 locs1 g1 g2 g3 g4 g5 g6 => ?_)
        rw [mapv ad' g1 (oks_drop hst _), e1, e2]
        exact k0 hr0 ad' H1 locs1 g1 g2 g3 g4 g5 g6
      · cases hc
    · cases hc
  | _ => simp only [cal] at hc; cases hc

theorem cal_rest {i : Instr} {st : List V} {w : Wd} {ob : Option Prop} {k : Nat} {a rest : List V} (h : cal i st w = some (ob, (k, (a, rest)))) (hst : oks w st) : oks w rest := by
  unfold cal at h
  repeat' split at h
  all_goals first
    | (cases h; done)
    | (simp only [Option.some.injEq, Prod.mk.injEq] at h; obtain ⟨-, -, -, rfl⟩ := h; exact oks_drop hst _)
