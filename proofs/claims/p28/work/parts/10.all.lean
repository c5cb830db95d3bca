/-! all straight instructions; the runs -/
set_option maxHeartbeats 4000000 in
theorem stp_all (i : Instr) : StY i := by
  cases i with
  | iconst n => exact st_iconst n
  | bipush n => exact st_bipush n
  | sipush n => exact st_sipush n
  | ldc n => exact st_ldc n
  | ldc_w n => exact st_ldc_w n
  | ldc2_w n => exact st_ldc2 n
  | dconst n => exact st_dconst n
  | iload n => exact st_iload n
  | iload_n n => exact st_iload_n n
  | aload n => exact st_aload n
  | aload_n n => exact st_aload_n n
  | lload n => exact st_lload n
  | lload_n n => exact st_lload_n n
  | dload n => exact st_dload n
  | dload_n n => exact st_dload_n n
  | istore n => exact st_istore n
  | istore_n n => exact st_istore_n n
  | astore n => exact st_astore n
  | astore_n n => exact st_astore_n n
  | lstore n => exact st_lstore n
  | lstore_n n => exact st_lstore_n n
  | dstore n => exact st_dstore n
  | iinc n d => exact st_iinc n d
  | dup => exact st_dup 
  | dup2 => exact st_dup2 
  | pop => exact st_pop 
  | i2l => exact st_i2l 
  | i2d => exact st_i2d 
  | ladd => exact st_ladd 
  | lmul => exact st_lmul 
  | lcmp => exact st_lcmp 
  | ddiv => exact st_ddiv 
  | dcmp n => exact st_dcmp n
  | goto n => exact st_goto n
  | ifnull n => exact st_ifnull n
  | ifnonnull n => exact st_ifnonnull n
  | ifCond n d => exact st_ifc n d
  | if_icmp n d => exact st_icmp n d
  | tableswitch a b c d => exact st_switch a b c d
  | getfield n => exact st_getfield n
  | putfield n => exact st_putfield n
  | getstatic n => exact st_getstatic n
  | arraylength => exact st_arraylength 
  | iaload => exact st_iaload 
  | iastore => exact st_iastore 
  | aaload => exact st_aaload 
  | aastore => exact st_aastore 
  | newarray n => exact st_newarray n
  | anewarray n => exact st_anewarray n
  | new n => exact st_new n
  | invokespecial n => exact st_special n
  | invokestatic n => exact st_static n
  | iadd => exact st_iadd 
  | isub => exact st_isub 
  | fmul => exact st_fmul
  | imul => exact st_imul 
  | idiv => exact st_idiv 
  | irem => exact st_irem 
  | iand => exact st_iand 
  | ior => exact st_ior 
  | ixor => exact st_ixor 
  | ishl => exact st_ishl 
  | ishr => exact st_ishr 
  | iushr => exact st_iushr 
  | _ =>
    intro p l e R s m args below meth c H locs u0 s0 Q y G w w' ad pc pc' L ls ls' st st' ob hC hL hw hh hS hst hls htb hn hob hr k
    exfalso
    simp only [ins, bop] at hn
    split at hn <;> cases hn
set_option maxHeartbeats 4000000 in
theorem ins_mono {i : Instr} {pc pc' : Nat} {ls ls' st st' : List V} {w w' : Wd} {ob : Option Prop} (h : ins i pc ls st w = some (ob, (pc', (ls', (st', w'))))) : uc w ≤ uc w' ∧ us w ≤ us w' := by
  unfold ins at h
  repeat' split at h
  all_goals first
    | (cases h; done)
    | (simp only [n1, Option.some.injEq, Prod.mk.injEq] at h; obtain ⟨-, -, -, -, rfl⟩ := h; first | exact ⟨Nat.le_refl _, Nat.le_refl _⟩ | exact ⟨Nat.le_succ _, Nat.le_add_right _ _⟩)
theorem wpn_mono {E : Nat → List V → Wd → Res → Wd → Prop} (hE : ∀ k a w r w', E k a w r w' → uc w ≤ uc w' ∧ us w ≤ us w') {y : Nat} {Q : Res → Wd → Prop} : ∀ (n pc : Nat) (ls st : List V) (w : Wd), wpn E y n pc ls st w Q → ∃ r w', Q r w' ∧ uc w ≤ uc w' ∧ us w ≤ us w'
  | 0, _, _, _, _, h => h.elim
  | n + 1, pc, ls, st, w, h => by
    unfold wpn at h
    split at h
    · exact h.elim
    · split at h
      · rename_i hi
        obtain ⟨r, w', h1, h2, h3⟩ := wpn_mono hE n _ _ _ _ (exo_1 h).2
        have h4 := ins_mono hi
        exact ⟨r, w', h1, Nat.le_trans h4.1 h2, Nat.le_trans h4.2 h3⟩
      · split at h
        · exact ⟨_, w, (exo_1 h).2, Nat.le_refl _, Nat.le_refl _⟩
        · split at h
          · obtain ⟨r, w1, h1, h2⟩ := (exo_1 h).2
            have h4 := hE _ _ _ _ _ h1
            split at h2
            · obtain ⟨r, w', h5, h6, h7⟩ := wpn_mono hE n _ _ _ _ h2
              exact ⟨r, w', h5, Nat.le_trans h4.1 h6, Nat.le_trans h4.2 h7⟩
            · split at h2
              · obtain ⟨r, w', h5, h6, h7⟩ := wpn_mono hE n _ _ _ _ h2.2
                exact ⟨r, w', h5, Nat.le_trans h4.1 h6, Nat.le_trans h4.2 h7⟩
              · exact h2.elim
          · split at h
            · exact ⟨_, tk w, h.2, Nat.le_succ _, Nat.le_add_right _ _⟩
            · exact h.elim
theorem ev_mono : ∀ (d k : Nat) (a : List V) (w : Wd) (r : Res) (w' : Wd), Ev d k a w r w' → uc w ≤ uc w' ∧ us w ≤ us w'
  | 0, _, _, _, _, _, h => h.elim
  | d + 1, k, a, w, r, w', ⟨_, n, h⟩ => by
    obtain ⟨r1, w1, ⟨-, rfl⟩, h2, h3⟩ := wpn_mono (ev_mono d) n _ _ _ _ h
    exact ⟨h2, h3⟩
/-! contracts over the machine -/
def vo (ad : Nat → Nat) (v : V) : Option Value := match v with
  | none => none
  | some x => some (cv ad (some x))
def Pc9 (G : GT) (ad : Nat → Nat) (a : List V) (w : Wd) : Array Value → State → Prop := fun v U => v = (a.map (cv ad)).toArray ∧ WF G w ad ∧ oks w a ∧ WH G w ad U.heap ∧ Fx G U U.heap
def Go9 (G : GT) (ad ad' : Nat → Nat) (w w' : Wd) (st t : State) : Prop := (∀ r, r < nx w → ad' r = ad r) ∧ nx w ≤ nx w' ∧ WF G w' ad' ∧ WH G w' ad' t.heap ∧ va_F (AA G) st t
def Qc9 (G : GT) (ad : Nat → Nat) (w : Wd) (r : Res) (w' : Wd) : Array Value → State → Outcome → State → Prop := fun _ st o t => ∃ ad', Go9 G ad ad' w w' st t ∧ okv w' r.2 ∧ o = .returned (vo ad' r.2)
def XC9 (G : GT) (ad : Nat → Nat) (w : Wd) (r : Res) (w' : Wd) : String → State → State → Prop := fun E st t => E = EN r.1 ∧ ∃ ad', Go9 G ad ad' w w' st t
def hd9 (k : Nat) : Cond := if k < 121 then .code (MN k) (MB k) (mml k) (MR k) else .codeWith (MN k) (MB k) (mml k) (MR k) (hhs k)
def ws9 (k : Nat) : List Cond := hd9 k :: wsL_law
def rm9 (d mc ms : Nat) : Room := { frames := d + 7, cells := mc, slots := ms, locals := 48 * d + 100 }
theorem ml_28 : ∀ y, y < 140 → mml y ≤ 20 := by decide +kernel
theorem wok9 : ∀ k, 121 ≤ k → k < 139 → WOK k := by
  intro k h1 h2
  have h : ∀ a, a < 18 → WOK (121 + a) := (lt_s (p := fun a => WOK (121 + a)) (lt_s (p := fun a => WOK (121 + a)) (lt_s (p := fun a => WOK (121 + a)) (lt_s (p := fun a => WOK (121 + a)) (lt_s (p := fun a => WOK (121 + a)) (lt_s (p := fun a => WOK (121 + a)) (lt_s (p := fun a => WOK (121 + a)) (lt_s (p := fun a => WOK (121 + a)) (lt_s (p := fun a => WOK (121 + a)) (lt_s (p := fun a => WOK (121 + a)) (lt_s (p := fun a => WOK (121 + a)) (lt_s (p := fun a => WOK (121 + a)) (lt_s (p := fun a => WOK (121 + a)) (lt_s (p := fun a => WOK (121 + a)) (lt_s (p := fun a => WOK (121 + a)) (lt_s (p := fun a => WOK (121 + a)) (lt_s (p := fun a => WOK (121 + a)) (lt_s (p := fun a => WOK (121 + a)) lt_0 wok_121) wok_122) wok_123) wok_124) wok_125) wok_126) wok_127) wok_128) wok_129) wok_130) wok_131) wok_132) wok_133) wok_134) wok_135) wok_136) wok_137) wok_138)
  have h3 := h (k - 121) (by omega)
  rwa [show 121 + (k - 121) = k by omega] at h3
theorem hd_in {k : Nat} (hk : k < 139) : hd9 k ∈ wsL_law := by
  unfold hd9
  by_cases h : k < 121
  · rw [if_pos h]; exact (mok k h).2.2.2.2.2.1
  · rw [if_neg h]; exact (wok9 k (by omega) hk).2.2.2.2.2.1
theorem wsL_good : wsL_law.all goodWord = true := by decide +kernel
theorem good_L : GoodIn wsL_law wsL_law := fun w hw => ⟨hw, good_of_word (List.all_eq_true.mp wsL_good w hw)⟩
theorem good_9 {k : Nat} (hk : k < 139) : GoodIn wsL_law (ws9 k) := fun w hw => by
  rcases List.mem_cons.mp hw with h | h
  · rw [h]; exact good_L _ (hd_in hk)
  · exact good_L _ h
theorem blind9 {G : GT} {ad : Nat → Nat} {a : List V} {w : Wd} : FrameBlind (Pc9 G ad a w) := by
  intro v U g mk h
  obtain ⟨h1, h2, h3, h4, h5⟩ := h
  exact ⟨h1, h2, h3, h4, Fx_to (U := U) (U' := U.calling g mk v) (State.WarmedH.refl U) h5 (fun _ _ _ => rfl) h5.2.2.2.2.2.1.2.2.1⟩
/-- what is shown of a method: where it returns, where it throws -/
def Snd (l : Launch) (d : Nat) : Prop := ∀ (k : Nat) (a : List V) (w : Wd) (r : Res) (w' : Wd) (G : GT) (ad : Nat → Nat), k < 139 → Ev d k a w r w' →
  (r.1 = 0 → Met l (MN k) (ws9 k) (rm9 d (uc w' - uc w) (us w' - us w)) (Pc9 G ad a w) (Qc9 G ad w r w') (uc w' - uc w) (us w' - us w) (AA G)) ∧
  (r.1 ≠ 0 → r.1 < 4 ∧ k < 121 ∧ vx_Met l (MN k) (ws9 k) (rm9 d (uc w' - uc w) (us w' - us w)) (Pc9 G ad a w) (fun _ _ _ _ => False) (XC9 G ad w r w') (uc w' - uc w) (us w' - us w) (AA G))
section CALL9
variable {p : Program} {l : Launch} {e : Env} {R : Room} {s : State} {m : MethodId} {args : Array Value} {below : List Frame} {meth : Method} {c : Code} {H : Heap} {locs : List Loc} {cells slots mc ms : Nat} {Q : State → Prop} {pc : Nat} {L : Array Slot} {st0 rest : List Value} {a9 : Array Value} {G : GT} {ad : Nat → Nat} {w w' : Wd} {r : Res}
/-- behind a call that returns -/
theorem ret9 (hr : va_Run p l e R s m args below meth c H locs cells slots mc ms (F0 m pc L st0) rest (Qc9 G ad w r w' a9) (AA G)) (hS : va_S (AA G) s.heap H locs)
    (kk : ∀ (ad' : Nat → Nat) (H1 : Heap) (locs1 : List Loc), (∀ r, r < nx w → ad' r = ad r) → nx w ≤ nx w' → WF G w' ad' → WH G w' ad' H1 → va_S (AA G) s.heap H1 locs1 → okv w' r.2 → W p l e R s m args below meth c H1 locs1 (cells + mc) (slots + ms) Q (F0 m (pc + 3) L ((vo ad' r.2).toList ++ rest))) :
    W p l e R s m args below meth c H locs cells slots Q (F0 m pc L st0) := by
  intro T hT X
  obtain ⟨v, st₀, t, T', L9, h0, X', hL, e1, e2, ⟨ad', ⟨g1, g2, g3, g4, g5⟩, g6, g7⟩, st⟩ := hr T hT X
  cases g7
  obtain ⟨k1, k2, k3⟩ := vx_keep h0 e1 hS (fun _ _ h => h) (fun _ h => h) hL g5
  obtain ⟨t2, a1, b1⟩ := kk ad' T'.heap (locs ++ L9) g1 g2 g3 (by rw [e1]; exact g4) k3 g6 T' rfl X'
  exact ⟨t2, st t2 a1, b1⟩
/-- behind a call that throws -/
theorem thr9 (hr : vx_Run p l e R s m args below meth c H locs cells slots mc ms (F0 m pc L st0) rest (fun _ _ _ => False) (XC9 G ad w r w') (AA G)) (hS : va_S (AA G) s.heap H locs)
    (kk : ∀ (ad' : Nat → Nat) (H1 : Heap) (locs1 : List Loc) (q : Addr) (ce : Cell), (∀ r, r < nx w → ad' r = ad r) → nx w ≤ nx w' → WF G w' ad' → WH G w' ad' H1 → va_S (AA G) s.heap H1 locs1 → H1[q]? = some ce → ce.vm = .none → s.vm.findClass (EN r.1) = some ce.cls → vx_W p l e R s m args below meth c H1 locs1 (cells + mc) (slots + ms) Q (F0 m pc L rest) q) :
    W p l e R s m args below meth c H locs cells slots Q (F0 m pc L st0) := by
  intro T hT X
  rcases hr T hT X with ⟨v, st₀, t, T', L9, h0, X', hL, e1, e2, hq, st⟩ | ⟨q, st₀, t, T', L9, E, ce, h0, X', hL, e1, e2, ⟨rfl, ad', g1, g2, g3, g4, g5⟩, hce, hcv, hcl, st⟩
  · exact hq.elim
  · obtain ⟨k1, k2, k3⟩ := vx_keep h0 e1 hS (fun _ _ h => h) (fun _ h => h) hL g5
    obtain ⟨t2, a1, b1⟩ := kk ad' T'.heap (locs ++ L9) q ce g1 g2 g3 (by rw [e1]; exact g4) k3 (by rw [e1]; exact hce) hcv hcl T' rfl X'
    exact ⟨t2, st.trans a1, b1⟩
end CALL9
theorem hb_eq {c pc : Nat} {x : Option (Nat × Nat)} {z : Nat × Nat} (h : cond (Nat.beq pc c) x none = some z) : pc = c := by
  cases hb : Nat.beq pc c with
  | true => exact Nat.eq_of_beq_eq_true hb
  | false => rw [hb] at h; cases h
theorem no_some {z : Nat × Nat} (h : (none : Option (Nat × Nat)) = some z) : False := by cases h
def cxe (cp : Nat) : Nat := cond (Nat.beq cp 15) 1 (cond (Nat.beq cp 18) 2 (cond (Nat.beq cp 25) 3 0))
theorem cxe_in : ∀ cp, cp < 30 → 0 < cxe cp → Cond.classLink RL cp (EN (cxe cp)) ∈ wsL_law := by decide +kernel
def hix (y e : Nat) : Nat := (hhs y).findIdx (fun q => Nat.beq (cxe q.2.2.2) e)
def hck (y pc e : Nat) : Bool := match hnd y pc e with
  | none => true
  | some (pc', j) => match (tableOf (hhs y))[hix y e]? with
    | none => false
    | some x => ((tableOf (hhs y)).take (hix y e)).all (fun z => decide (z.catchType < 30) && decide (cxe z.catchType ≠ e) && decide (0 < cxe z.catchType) && decide (cxe z.catchType < 4)) && covers x pc && decide (x.catchType < 30) && decide (cxe x.catchType = e) && decide (0 < e) && Nat.beq (mcl y) 10 && (match decode (MB y) x.handlerPc with
      | .ok (.astore n, 2) => Nat.beq n j && Nat.beq pc' (x.handlerPc + 2)
      | .ok (.astore_n n, 1) => Nat.beq n.val j && Nat.beq pc' (x.handlerPc + 1)
      | _ => false)
theorem hck_ok : ∀ y, y < 140 → ∀ pc, pc < 60 → ∀ e, e < 4 → hck y pc e = true := by decide +kernel
theorem hnd_60 : ∀ y, y < 140 → ∀ e, e < 4 → ∀ pc z, hnd y pc e = some z → pc < 60 := (lt_s (p := fun y => ∀ e, e < 4 → ∀ pc z, hnd y pc e = some z → pc < 60) (lt_s (p := fun y => ∀ e, e < 4 → ∀ pc z, hnd y pc e = some z → pc < 60) (lt_s (p := fun y => ∀ e, e < 4 → ∀ pc z, hnd y pc e = some z → pc < 60) (lt_s (p := fun y => ∀ e, e < 4 → ∀ pc z, hnd y pc e = some z → pc < 60) (lt_s (p := fun y => ∀ e, e < 4 → ∀ pc z, hnd y pc e = some z → pc < 60) (lt_s (p := fun y => ∀ e, e < 4 → ∀ pc z, hnd y pc e = some z → pc < 60) (lt_s (p := fun y => ∀ e, e < 4 → ∀ pc z, hnd y pc e = some z → pc < 60) (lt_s (p := fun y => ∀ e, e < 4 → ∀ pc z, hnd y pc e = some z → pc < 60) (lt_s (p := fun y => ∀ e, e < 4 → ∀ pc z, hnd y pc e = some z → pc < 60) (lt_s (p := fun y => ∀ e, e < 4 → ∀ pc z, hnd y pc e = some z → pc < 60) (lt_s (p := fun y => ∀ e, e < 4 → ∀ pc z, hnd y pc e = some z → pc < 60) (lt_s (p := fun y => ∀ e, e < 4 → ∀ pc z, hnd y pc e = some z → pc < 60) (lt_s (p := fun y => ∀ e, e < 4 → ∀ pc z, hnd y pc e = some z → pc < 60) (lt_s (p := fun y => ∀ e, e < 4 → ∀ pc z, hnd y pc e = some z → pc < 60) (lt_s (p := fun y => ∀ e, e < 4 → ∀ pc z, hnd y pc e = some z → pc < 60) (lt_s (p := fun y => ∀ e, e < 4 → ∀ pc z, hnd y pc e = some z → pc < 60) (lt_s (p := fun y => ∀ e, e < 4 → ∀ pc z, hnd y pc e = some z → pc < 60) (lt_s (p := fun y => ∀ e, e < 4 → ∀ pc z, hnd y pc e = some z → pc < 60) (lt_s (p := fun y => ∀ e, e < 4 → ∀ pc z, hnd y pc e = some z → pc < 60) (lt_s (p := fun y => ∀ e, e < 4 → ∀ pc z, hnd y pc e = some z → pc < 60) (lt_s (p := fun y => ∀ e, e < 4 → ∀ pc z, hnd y pc e = some z → pc < 60) (lt_s (p := fun y => ∀ e, e < 4 → ∀ pc z, hnd y pc e = some z → pc < 60) (lt_s (p := fun y => ∀ e, e < 4 → ∀ pc z, hnd y pc e = some z → pc < 60) (lt_s (p := fun y => ∀ e, e < 4 → ∀ pc z, hnd y pc e = some z → pc < 60) (lt_s (p := fun y => ∀ e, e < 4 → ∀ pc z, hnd y pc e = some z → pc < 60) (lt_s (p := fun y => ∀ e, e < 4 → ∀ pc z, hnd y pc e = some z → pc < 60) (lt_s (p := fun y => ∀ e, e < 4 → ∀ pc z, hnd y pc e = some z → pc < 60) (lt_s (p := fun y => ∀ e, e < 4 → ∀ pc z, hnd y pc e = some z → pc < 60) (lt_s (p := fun y => ∀ e, e < 4 → ∀ pc z, hnd y pc e = some z → pc < 60) (lt_s (p := fun y => ∀ e, e < 4 → ∀ pc z, hnd y pc e = some z → pc < 60) (lt_s (p := fun y => ∀ e, e < 4 → ∀ pc z, hnd y pc e = some z → pc < 60) (lt_s (p := fun y => ∀ e, e < 4 → ∀ pc z, hnd y pc e = some z → pc < 60) (lt_s (p := fun y => ∀ e, e < 4 → ∀ pc z, hnd y pc e = some z → pc < 60) (lt_s (p := fun y => ∀ e, e < 4 → ∀ pc z, hnd y pc e = some z → pc < 60) (lt_s (p := fun y => ∀ e, e < 4 → ∀ pc z, hnd y pc e = some z → pc < 60) (lt_s (p := fun y => ∀ e, e < 4 → ∀ pc z, hnd y pc e = some z → pc < 60) (lt_s (p := fun y => ∀ e, e < 4 → ∀ pc z, hnd y pc e = some z → pc < 60) (lt_s (p := fun y => ∀ e, e < 4 → ∀ pc z, hnd y pc e = some z → pc < 60) (lt_s (p := fun y => ∀ e, e < 4 → ∀ pc z, hnd y pc e = some z → pc < 60) (lt_s (p := fun y => ∀ e, e < 4 → ∀ pc z, hnd y pc e = some z → pc < 60) (lt_s (p := fun y => ∀ e, e < 4 → ∀ pc z, hnd y pc e = some z → pc < 60) (lt_s (p := fun y => ∀ e, e < 4 → ∀ pc z, hnd y pc e = some z → pc < 60) (lt_s (p := fun y => ∀ e, e < 4 → ∀ pc z, hnd y pc e = some z → pc < 60) (lt_s (p := fun y => ∀ e, e < 4 → ∀ pc z, hnd y pc e = some z → pc < 60) (lt_s (p := fun y => ∀ e, e < 4 → ∀ pc z, hnd y pc e = some z → pc < 60) (lt_s (p := fun y => ∀ e, e < 4 → ∀ pc z, hnd y pc e = some z → pc < 60) (lt_s (p := fun y => ∀ e, e < 4 → ∀ pc z, hnd y pc e = some z → pc < 60) (lt_s (p := fun y => ∀ e, e < 4 → ∀ pc z, hnd y pc e = some z → pc < 60) (lt_s (p := fun y => ∀ e, e < 4 → ∀ pc z, hnd y pc e = some z → pc < 60) (lt_s (p := fun y => ∀ e, e < 4 → ∀ pc z, hnd y pc e = some z → pc < 60) (lt_s (p := fun y => ∀ e, e < 4 → ∀ pc z, hnd y pc e = some z → pc < 60) (lt_s (p := fun y => ∀ e, e < 4 → ∀ pc z, hnd y pc e = some z → pc < 60) (lt_s (p := fun y => ∀ e, e < 4 → ∀ pc z, hnd y pc e = some z → pc < 60) (lt_s (p := fun y => ∀ e, e < 4 → ∀ pc z, hnd y pc e = some z → pc < 60) (lt_s (p := fun y => ∀ e, e < 4 → ∀ pc z, hnd y pc e = some z → pc < 60) (lt_s (p := fun y => ∀ e, e < 4 → ∀ pc z, hnd y pc e = some z → pc < 60) (lt_s (p := fun y => ∀ e, e < 4 → ∀ pc z, hnd y pc e = some z → pc < 60) (lt_s (p := fun y => ∀ e, e < 4 → ∀ pc z, hnd y pc e = some z → pc < 60) (lt_s (p := fun y => ∀ e, e < 4 → ∀ pc z, hnd y pc e = some z → pc < 60) (lt_s (p := fun y => ∀ e, e < 4 → ∀ pc z, hnd y pc e = some z → pc < 60) (lt_s (p := fun y => ∀ e, e < 4 → ∀ pc z, hnd y pc e = some z → pc < 60) (lt_s (p := fun y => ∀ e, e < 4 → ∀ pc z, hnd y pc e = some z → pc < 60) (lt_s (p := fun y => ∀ e, e < 4 → ∀ pc z, hnd y pc e = some z → pc < 60) (lt_s (p := fun y => ∀ e, e < 4 → ∀ pc z, hnd y pc e = some z → pc < 60) (lt_s (p := fun y => ∀ e, e < 4 → ∀ pc z, hnd y pc e = some z → pc < 60) (lt_s (p := fun y => ∀ e, e < 4 → ∀ pc z, hnd y pc e = some z → pc < 60) (lt_s (p := fun y => ∀ e, e < 4 → ∀ pc z, hnd y pc e = some z → pc < 60) (lt_s (p := fun y => ∀ e, e < 4 → ∀ pc z, hnd y pc e = some z → pc < 60) (lt_s (p := fun y => ∀ e, e < 4 → ∀ pc z, hnd y pc e = some z → pc < 60) (lt_s (p := fun y => ∀ e, e < 4 → ∀ pc z, hnd y pc e = some z → pc < 60) (lt_s (p := fun y => ∀ e, e < 4 → ∀ pc z, hnd y pc e = some z → pc < 60) (lt_s (p := fun y => ∀ e, e < 4 → ∀ pc z, hnd y pc e = some z → pc < 60) (lt_s (p := fun y => ∀ e, e < 4 → ∀ pc z, hnd y pc e = some z → pc < 60) (lt_s (p := fun y => ∀ e, e < 4 → ∀ pc z, hnd y pc e = some z → pc < 60) (lt_s (p := fun y => ∀ e, e < 4 → ∀ pc z, hnd y pc e = some z → pc < 60) (lt_s (p := fun y => ∀ e, e < 4 → ∀ pc z, hnd y pc e = some z → pc < 60) (lt_s (p := fun y => ∀ e, e < 4 → ∀ pc z, hnd y pc e = some z → pc < 60) (lt_s (p := fun y => ∀ e, e < 4 → ∀ pc z, hnd y pc e = some z → pc < 60) (lt_s (p := fun y => ∀ e, e < 4 → ∀ pc z, hnd y pc e = some z → pc < 60) (lt_s (p := fun y => ∀ e, e < 4 → ∀ pc z, hnd y pc e = some z → pc < 60) (lt_s (p := fun y => ∀ e, e < 4 → ∀ pc z, hnd y pc e = some z → pc < 60) (lt_s (p := fun y => ∀ e, e < 4 → ∀ pc z, hnd y pc e = some z → pc < 60) (lt_s (p := fun y => ∀ e, e < 4 → ∀ pc z, hnd y pc e = some z → pc < 60) (lt_s (p := fun y => ∀ e, e < 4 → ∀ pc z, hnd y pc e = some z → pc < 60) (lt_s (p := fun y => ∀ e, e < 4 → ∀ pc z, hnd y pc e = some z → pc < 60) (lt_s (p := fun y => ∀ e, e < 4 → ∀ pc z, hnd y pc e = some z → pc < 60) (lt_s (p := fun y => ∀ e, e < 4 → ∀ pc z, hnd y pc e = some z → pc < 60) (lt_s (p := fun y => ∀ e, e < 4 → ∀ pc z, hnd y pc e = some z → pc < 60) (lt_s (p := fun y => ∀ e, e < 4 → ∀ pc z, hnd y pc e = some z → pc < 60) (lt_s (p := fun y => ∀ e, e < 4 → ∀ pc z, hnd y pc e = some z → pc < 60) (lt_s (p := fun y => ∀ e, e < 4 → ∀ pc z, hnd y pc e = some z → pc < 60) (lt_s (p := fun y => ∀ e, e < 4 → ∀ pc z, hnd y pc e = some z → pc < 60) (lt_s (p := fun y => ∀ e, e < 4 → ∀ pc z, hnd y pc e = some z → pc < 60) (lt_s (p := fun y => ∀ e, e < 4 → ∀ pc z, hnd y pc e = some z → pc < 60) (lt_s (p := fun y => ∀ e, e < 4 → ∀ pc z, hnd y pc e = some z → pc < 60) (lt_s (p := fun y => ∀ e, e < 4 → ∀ pc z, hnd y pc e = some z → pc < 60) (lt_s (p := fun y => ∀ e, e < 4 → ∀ pc z, hnd y pc e = some z → pc < 60) (lt_s (p := fun y => ∀ e, e < 4 → ∀ pc z, hnd y pc e = some z → pc < 60) (lt_s (p := fun y => ∀ e, e < 4 → ∀ pc z, hnd y pc e = some z → pc < 60) (lt_s (p := fun y => ∀ e, e < 4 → ∀ pc z, hnd y pc e = some z → pc < 60) (lt_s (p := fun y => ∀ e, e < 4 → ∀ pc z, hnd y pc e = some z → pc < 60) (lt_s (p := fun y => ∀ e, e < 4 → ∀ pc z, hnd y pc e = some z → pc < 60) (lt_s (p := fun y => ∀ e, e < 4 → ∀ pc z, hnd y pc e = some z → pc < 60) (lt_s (p := fun y => ∀ e, e < 4 → ∀ pc z, hnd y pc e = some z → pc < 60) (lt_s (p := fun y => ∀ e, e < 4 → ∀ pc z, hnd y pc e = some z → pc < 60) (lt_s (p := fun y => ∀ e, e < 4 → ∀ pc z, hnd y pc e = some z → pc < 60) (lt_s (p := fun y => ∀ e, e < 4 → ∀ pc z, hnd y pc e = some z → pc < 60) (lt_s (p := fun y => ∀ e, e < 4 → ∀ pc z, hnd y pc e = some z → pc < 60) (lt_s (p := fun y => ∀ e, e < 4 → ∀ pc z, hnd y pc e = some z → pc < 60) (lt_s (p := fun y => ∀ e, e < 4 → ∀ pc z, hnd y pc e = some z → pc < 60) (lt_s (p := fun y => ∀ e, e < 4 → ∀ pc z, hnd y pc e = some z → pc < 60) (lt_s (p := fun y => ∀ e, e < 4 → ∀ pc z, hnd y pc e = some z → pc < 60) (lt_s (p := fun y => ∀ e, e < 4 → ∀ pc z, hnd y pc e = some z → pc < 60) (lt_s (p := fun y => ∀ e, e < 4 → ∀ pc z, hnd y pc e = some z → pc < 60) (lt_s (p := fun y => ∀ e, e < 4 → ∀ pc z, hnd y pc e = some z → pc < 60) (lt_s (p := fun y => ∀ e, e < 4 → ∀ pc z, hnd y pc e = some z → pc < 60) (lt_s (p := fun y => ∀ e, e < 4 → ∀ pc z, hnd y pc e = some z → pc < 60) (lt_s (p := fun y => ∀ e, e < 4 → ∀ pc z, hnd y pc e = some z → pc < 60) (lt_s (p := fun y => ∀ e, e < 4 → ∀ pc z, hnd y pc e = some z → pc < 60) (lt_s (p := fun y => ∀ e, e < 4 → ∀ pc z, hnd y pc e = some z → pc < 60) (lt_s (p := fun y => ∀ e, e < 4 → ∀ pc z, hnd y pc e = some z → pc < 60) (lt_s (p := fun y => ∀ e, e < 4 → ∀ pc z, hnd y pc e = some z → pc < 60) (lt_s (p := fun y => ∀ e, e < 4 → ∀ pc z, hnd y pc e = some z → pc < 60) (lt_s (p := fun y => ∀ e, e < 4 → ∀ pc z, hnd y pc e = some z → pc < 60) (lt_s (p := fun y => ∀ e, e < 4 → ∀ pc z, hnd y pc e = some z → pc < 60) (lt_s (p := fun y => ∀ e, e < 4 → ∀ pc z, hnd y pc e = some z → pc < 60) (lt_s (p := fun y => ∀ e, e < 4 → ∀ pc z, hnd y pc e = some z → pc < 60) (lt_s (p := fun y => ∀ e, e < 4 → ∀ pc z, hnd y pc e = some z → pc < 60) (lt_s (p := fun y => ∀ e, e < 4 → ∀ pc z, hnd y pc e = some z → pc < 60) (lt_s (p := fun y => ∀ e, e < 4 → ∀ pc z, hnd y pc e = some z → pc < 60) (lt_s (p := fun y => ∀ e, e < 4 → ∀ pc z, hnd y pc e = some z → pc < 60) (lt_s (p := fun y => ∀ e, e < 4 → ∀ pc z, hnd y pc e = some z → pc < 60) (lt_s (p := fun y => ∀ e, e < 4 → ∀ pc z, hnd y pc e = some z → pc < 60) (lt_s (p := fun y => ∀ e, e < 4 → ∀ pc z, hnd y pc e = some z → pc < 60) (lt_s (p := fun y => ∀ e, e < 4 → ∀ pc z, hnd y pc e = some z → pc < 60) (lt_s (p := fun y => ∀ e, e < 4 → ∀ pc z, hnd y pc e = some z → pc < 60) (lt_s (p := fun y => ∀ e, e < 4 → ∀ pc z, hnd y pc e = some z → pc < 60) (lt_s (p := fun y => ∀ e, e < 4 → ∀ pc z, hnd y pc e = some z → pc < 60) (lt_s (p := fun y => ∀ e, e < 4 → ∀ pc z, hnd y pc e = some z → pc < 60) (lt_s (p := fun y => ∀ e, e < 4 → ∀ pc z, hnd y pc e = some z → pc < 60) lt_0 (fun _ _ _ _ h => (no_some h).elim)) (fun _ _ _ _ h => (no_some h).elim)) (fun _ _ _ _ h => (no_some h).elim)) (fun _ _ _ _ h => (no_some h).elim)) (fun _ _ _ _ h => (no_some h).elim)) (fun _ _ _ _ h => (no_some h).elim)) (fun _ _ _ _ h => (no_some h).elim)) (fun _ _ _ _ h => (no_some h).elim)) (fun _ _ _ _ h => (no_some h).elim)) (fun _ _ _ _ h => (no_some h).elim)) (fun _ _ _ _ h => (no_some h).elim)) (fun _ _ _ _ h => (no_some h).elim)) (fun _ _ _ _ h => (no_some h).elim)) (fun _ _ _ _ h => (no_some h).elim)) (fun _ _ _ _ h => (no_some h).elim)) (fun _ _ _ _ h => (no_some h).elim)) (fun _ _ _ _ h => (no_some h).elim)) (fun _ _ _ _ h => (no_some h).elim)) (fun _ _ _ _ h => (no_some h).elim)) (fun _ _ _ _ h => (no_some h).elim)) (fun _ _ _ _ h => (no_some h).elim)) (fun _ _ _ _ h => (no_some h).elim)) (fun _ _ _ _ h => (no_some h).elim)) (fun _ _ _ _ h => (no_some h).elim)) (fun _ _ _ _ h => (no_some h).elim)) (fun _ _ _ _ h => (no_some h).elim)) (fun _ _ _ _ h => (no_some h).elim)) (fun _ _ _ _ h => (no_some h).elim)) (fun _ _ _ _ h => (no_some h).elim)) (fun _ _ _ _ h => (no_some h).elim)) (fun _ _ _ _ h => (no_some h).elim)) (fun _ _ _ _ h => (no_some h).elim)) (fun _ _ _ _ h => (no_some h).elim)) (fun _ _ _ _ h => (no_some h).elim)) (fun _ _ _ _ h => (no_some h).elim)) (fun _ _ _ _ h => (no_some h).elim)) (fun _ _ _ _ h => (no_some h).elim)) (fun _ _ _ _ h => (no_some h).elim)) (fun _ _ _ _ h => (no_some h).elim)) (fun _ _ _ _ h => (no_some h).elim)) (fun _ _ _ _ h => (no_some h).elim)) (fun _ _ _ _ h => (no_some h).elim)) (fun _ _ _ _ h => (no_some h).elim)) (fun _ _ _ _ h => (no_some h).elim)) (fun _ _ _ _ h => (no_some h).elim)) (fun _ _ _ _ h => (no_some h).elim)) (fun _ _ _ _ h => (no_some h).elim)) (fun _ _ _ _ h => (no_some h).elim)) (fun _ _ _ _ h => (no_some h).elim)) (fun _ _ _ _ h => (no_some h).elim)) (fun _ _ _ _ h => (no_some h).elim)) (fun _ _ _ _ h => (no_some h).elim)) (fun _ _ _ _ h => (no_some h).elim)) (fun _ _ _ _ h => (no_some h).elim)) (fun _ _ _ _ h => (no_some h).elim)) (fun _ _ _ _ h => (no_some h).elim)) (fun _ _ _ _ h => (no_some h).elim)) (fun _ _ _ _ h => (no_some h).elim)) (fun _ _ _ _ h => (no_some h).elim)) (fun _ _ _ _ h => (no_some h).elim)) (fun _ _ _ _ h => (no_some h).elim)) (fun _ _ _ _ h => (no_some h).elim)) (fun _ _ _ _ h => (no_some h).elim)) (fun _ _ _ _ h => (no_some h).elim)) (fun _ _ _ _ h => (no_some h).elim)) (fun _ _ _ _ h => (no_some h).elim)) (fun _ _ _ _ h => (no_some h).elim)) (fun _ _ _ _ h => (no_some h).elim)) (fun _ _ _ _ h => (no_some h).elim)) (fun _ _ _ _ h => (no_some h).elim)) (fun _ _ _ _ h => (no_some h).elim)) (fun _ _ _ _ h => (no_some h).elim)) (fun _ _ _ _ h => (no_some h).elim)) (fun _ _ _ _ h => (no_some h).elim)) (fun _ _ _ _ h => (no_some h).elim)) (fun _ _ _ _ h => (no_some h).elim)) (fun _ _ _ _ h => (no_some h).elim)) (fun _ _ _ _ h => (no_some h).elim)) (fun _ _ _ _ h => (no_some h).elim)) (fun _ _ _ _ h => (no_some h).elim)) (fun _ _ _ _ h => (no_some h).elim)) (fun _ _ _ _ h => (no_some h).elim)) (fun _ _ _ _ h => (no_some h).elim)) (fun _ _ _ _ h => (no_some h).elim)) (fun _ _ _ _ h => (no_some h).elim)) (fun _ _ _ _ h => (no_some h).elim)) (fun _ _ _ _ h => (no_some h).elim)) (fun _ _ _ _ h => (no_some h).elim)) (fun _ _ _ _ h => (no_some h).elim)) (fun _ _ _ _ h => (no_some h).elim)) (fun _ _ _ _ h => (no_some h).elim)) (fun _ _ _ _ h => (no_some h).elim)) (fun _ _ _ _ h => (no_some h).elim)) (fun _ _ _ _ h => (no_some h).elim)) (fun _ _ _ _ h => (no_some h).elim)) (fun _ _ _ _ h => (no_some h).elim)) (fun _ _ _ _ h => (no_some h).elim)) (fun _ _ _ _ h => (no_some h).elim)) (fun _ _ _ _ h => (no_some h).elim)) (fun _ _ _ _ h => (no_some h).elim)) (fun _ _ _ _ h => (no_some h).elim)) (fun _ _ _ _ h => (no_some h).elim)) (fun _ _ _ _ h => (no_some h).elim)) (fun _ _ _ _ h => (no_some h).elim)) (fun _ _ _ _ h => (no_some h).elim)) (fun _ _ _ _ h => (no_some h).elim)) (fun _ _ _ _ h => (no_some h).elim)) (fun _ _ _ _ h => (no_some h).elim)) (fun _ _ _ _ h => (no_some h).elim)) (fun _ _ _ _ h => (no_some h).elim)) (fun _ _ _ _ h => (no_some h).elim)) (fun _ _ _ _ h => (no_some h).elim)) (fun _ _ _ _ h => (no_some h).elim)) (fun _ _ _ _ h => (no_some h).elim)) (fun _ _ _ _ h => (no_some h).elim)) (fun _ _ _ _ h => (no_some h).elim)) (fun _ _ _ _ h => (no_some h).elim)) (fun _ _ _ _ h => (no_some h).elim)) (fun _ _ _ _ h => (no_some h).elim)) (fun _ _ _ _ h => (no_some h).elim)) (fun _ _ _ _ h => (no_some h).elim)) (fun _ _ _ _ h => by have := hb_eq h; omega)) (fun _ _ _ _ h => by have := hb_eq h; omega)) (fun _ _ _ _ h => by have := hb_eq h; omega)) (fun _ _ _ _ h => by have := hb_eq h; omega)) (fun _ _ _ _ h => by have := hb_eq h; omega)) (fun _ _ _ _ h => by have := hb_eq h; omega)) (fun _ _ _ _ h => by have := hb_eq h; omega)) (fun _ _ _ _ h => by have := hb_eq h; omega)) (fun _ _ _ _ h => by have := hb_eq h; omega)) (fun _ _ _ _ h => by have := hb_eq h; omega)) (fun _ _ _ _ h => by have := hb_eq h; omega)) (fun _ _ _ _ h => by have := hb_eq h; omega)) (fun _ _ _ _ h => by have := hb_eq h; omega)) (fun _ _ _ _ h => by have := hb_eq h; omega)) (fun _ _ _ _ h => by have := hb_eq h; omega)) (fun _ _ _ _ h => by have := hb_eq h; omega)) (fun _ _ _ _ h => by have := hb_eq h; omega)) (fun _ _ _ _ h => by have := hb_eq h; omega)) (fun _ _ _ _ h => (no_some h).elim))
theorem nohnd9 : ∀ y, y < 121 → ∀ pc e z, ¬ hnd y pc e = some z := (lt_s (p := fun y => ∀ pc e z, ¬ hnd y pc e = some z) (lt_s (p := fun y => ∀ pc e z, ¬ hnd y pc e = some z) (lt_s (p := fun y => ∀ pc e z, ¬ hnd y pc e = some z) (lt_s (p := fun y => ∀ pc e z, ¬ hnd y pc e = some z) (lt_s (p := fun y => ∀ pc e z, ¬ hnd y pc e = some z) (lt_s (p := fun y => ∀ pc e z, ¬ hnd y pc e = some z) (lt_s (p := fun y => ∀ pc e z, ¬ hnd y pc e = some z) (lt_s (p := fun y => ∀ pc e z, ¬ hnd y pc e = some z) (lt_s (p := fun y => ∀ pc e z, ¬ hnd y pc e = some z) (lt_s (p := fun y => ∀ pc e z, ¬ hnd y pc e = some z) (lt_s (p := fun y => ∀ pc e z, ¬ hnd y pc e = some z) (lt_s (p := fun y => ∀ pc e z, ¬ hnd y pc e = some z) (lt_s (p := fun y => ∀ pc e z, ¬ hnd y pc e = some z) (lt_s (p := fun y => ∀ pc e z, ¬ hnd y pc e = some z) (lt_s (p := fun y => ∀ pc e z, ¬ hnd y pc e = some z) (lt_s (p := fun y => ∀ pc e z, ¬ hnd y pc e = some z) (lt_s (p := fun y => ∀ pc e z, ¬ hnd y pc e = some z) (lt_s (p := fun y => ∀ pc e z, ¬ hnd y pc e = some z) (lt_s (p := fun y => ∀ pc e z, ¬ hnd y pc e = some z) (lt_s (p := fun y => ∀ pc e z, ¬ hnd y pc e = some z) (lt_s (p := fun y => ∀ pc e z, ¬ hnd y pc e = some z) (lt_s (p := fun y => ∀ pc e z, ¬ hnd y pc e = some z) (lt_s (p := fun y => ∀ pc e z, ¬ hnd y pc e = some z) (lt_s (p := fun y => ∀ pc e z, ¬ hnd y pc e = some z) (lt_s (p := fun y => ∀ pc e z, ¬ hnd y pc e = some z) (lt_s (p := fun y => ∀ pc e z, ¬ hnd y pc e = some z) (lt_s (p := fun y => ∀ pc e z, ¬ hnd y pc e = some z) (lt_s (p := fun y => ∀ pc e z, ¬ hnd y pc e = some z) (lt_s (p := fun y => ∀ pc e z, ¬ hnd y pc e = some z) (lt_s (p := fun y => ∀ pc e z, ¬ hnd y pc e = some z) (lt_s (p := fun y => ∀ pc e z, ¬ hnd y pc e = some z) (lt_s (p := fun y => ∀ pc e z, ¬ hnd y pc e = some z) (lt_s (p := fun y => ∀ pc e z, ¬ hnd y pc e = some z) (lt_s (p := fun y => ∀ pc e z, ¬ hnd y pc e = some z) (lt_s (p := fun y => ∀ pc e z, ¬ hnd y pc e = some z) (lt_s (p := fun y => ∀ pc e z, ¬ hnd y pc e = some z) (lt_s (p := fun y => ∀ pc e z, ¬ hnd y pc e = some z) (lt_s (p := fun y => ∀ pc e z, ¬ hnd y pc e = some z) (lt_s (p := fun y => ∀ pc e z, ¬ hnd y pc e = some z) (lt_s (p := fun y => ∀ pc e z, ¬ hnd y pc e = some z) (lt_s (p := fun y => ∀ pc e z, ¬ hnd y pc e = some z) (lt_s (p := fun y => ∀ pc e z, ¬ hnd y pc e = some z) (lt_s (p := fun y => ∀ pc e z, ¬ hnd y pc e = some z) (lt_s (p := fun y => ∀ pc e z, ¬ hnd y pc e = some z) (lt_s (p := fun y => ∀ pc e z, ¬ hnd y pc e = some z) (lt_s (p := fun y => ∀ pc e z, ¬ hnd y pc e = some z) (lt_s (p := fun y => ∀ pc e z, ¬ hnd y pc e = some z) (lt_s (p := fun y => ∀ pc e z, ¬ hnd y pc e = some z) (lt_s (p := fun y => ∀ pc e z, ¬ hnd y pc e = some z) (lt_s (p := fun y => ∀ pc e z, ¬ hnd y pc e = some z) (lt_s (p := fun y => ∀ pc e z, ¬ hnd y pc e = some z) (lt_s (p := fun y => ∀ pc e z, ¬ hnd y pc e = some z) (lt_s (p := fun y => ∀ pc e z, ¬ hnd y pc e = some z) (lt_s (p := fun y => ∀ pc e z, ¬ hnd y pc e = some z) (lt_s (p := fun y => ∀ pc e z, ¬ hnd y pc e = some z) (lt_s (p := fun y => ∀ pc e z, ¬ hnd y pc e = some z) (lt_s (p := fun y => ∀ pc e z, ¬ hnd y pc e = some z) (lt_s (p := fun y => ∀ pc e z, ¬ hnd y pc e = some z) (lt_s (p := fun y => ∀ pc e z, ¬ hnd y pc e = some z) (lt_s (p := fun y => ∀ pc e z, ¬ hnd y pc e = some z) (lt_s (p := fun y => ∀ pc e z, ¬ hnd y pc e = some z) (lt_s (p := fun y => ∀ pc e z, ¬ hnd y pc e = some z) (lt_s (p := fun y => ∀ pc e z, ¬ hnd y pc e = some z) (lt_s (p := fun y => ∀ pc e z, ¬ hnd y pc e = some z) (lt_s (p := fun y => ∀ pc e z, ¬ hnd y pc e = some z) (lt_s (p := fun y => ∀ pc e z, ¬ hnd y pc e = some z) (lt_s (p := fun y => ∀ pc e z, ¬ hnd y pc e = some z) (lt_s (p := fun y => ∀ pc e z, ¬ hnd y pc e = some z) (lt_s (p := fun y => ∀ pc e z, ¬ hnd y pc e = some z) (lt_s (p := fun y => ∀ pc e z, ¬ hnd y pc e = some z) (lt_s (p := fun y => ∀ pc e z, ¬ hnd y pc e = some z) (lt_s (p := fun y => ∀ pc e z, ¬ hnd y pc e = some z) (lt_s (p := fun y => ∀ pc e z, ¬ hnd y pc e = some z) (lt_s (p := fun y => ∀ pc e z, ¬ hnd y pc e = some z) (lt_s (p := fun y => ∀ pc e z, ¬ hnd y pc e = some z) (lt_s (p := fun y => ∀ pc e z, ¬ hnd y pc e = some z) (lt_s (p := fun y => ∀ pc e z, ¬ hnd y pc e = some z) (lt_s (p := fun y => ∀ pc e z, ¬ hnd y pc e = some z) (lt_s (p := fun y => ∀ pc e z, ¬ hnd y pc e = some z) (lt_s (p := fun y => ∀ pc e z, ¬ hnd y pc e = some z) (lt_s (p := fun y => ∀ pc e z, ¬ hnd y pc e = some z) (lt_s (p := fun y => ∀ pc e z, ¬ hnd y pc e = some z) (lt_s (p := fun y => ∀ pc e z, ¬ hnd y pc e = some z) (lt_s (p := fun y => ∀ pc e z, ¬ hnd y pc e = some z) (lt_s (p := fun y => ∀ pc e z, ¬ hnd y pc e = some z) (lt_s (p := fun y => ∀ pc e z, ¬ hnd y pc e = some z) (lt_s (p := fun y => ∀ pc e z, ¬ hnd y pc e = some z) (lt_s (p := fun y => ∀ pc e z, ¬ hnd y pc e = some z) (lt_s (p := fun y => ∀ pc e z, ¬ hnd y pc e = some z) (lt_s (p := fun y => ∀ pc e z, ¬ hnd y pc e = some z) (lt_s (p := fun y => ∀ pc e z, ¬ hnd y pc e = some z) (lt_s (p := fun y => ∀ pc e z, ¬ hnd y pc e = some z) (lt_s (p := fun y => ∀ pc e z, ¬ hnd y pc e = some z) (lt_s (p := fun y => ∀ pc e z, ¬ hnd y pc e = some z) (lt_s (p := fun y => ∀ pc e z, ¬ hnd y pc e = some z) (lt_s (p := fun y => ∀ pc e z, ¬ hnd y pc e = some z) (lt_s (p := fun y => ∀ pc e z, ¬ hnd y pc e = some z) (lt_s (p := fun y => ∀ pc e z, ¬ hnd y pc e = some z) (lt_s (p := fun y => ∀ pc e z, ¬ hnd y pc e = some z) (lt_s (p := fun y => ∀ pc e z, ¬ hnd y pc e = some z) (lt_s (p := fun y => ∀ pc e z, ¬ hnd y pc e = some z) (lt_s (p := fun y => ∀ pc e z, ¬ hnd y pc e = some z) (lt_s (p := fun y => ∀ pc e z, ¬ hnd y pc e = some z) (lt_s (p := fun y => ∀ pc e z, ¬ hnd y pc e = some z) (lt_s (p := fun y => ∀ pc e z, ¬ hnd y pc e = some z) (lt_s (p := fun y => ∀ pc e z, ¬ hnd y pc e = some z) (lt_s (p := fun y => ∀ pc e z, ¬ hnd y pc e = some z) (lt_s (p := fun y => ∀ pc e z, ¬ hnd y pc e = some z) (lt_s (p := fun y => ∀ pc e z, ¬ hnd y pc e = some z) (lt_s (p := fun y => ∀ pc e z, ¬ hnd y pc e = some z) (lt_s (p := fun y => ∀ pc e z, ¬ hnd y pc e = some z) (lt_s (p := fun y => ∀ pc e z, ¬ hnd y pc e = some z) (lt_s (p := fun y => ∀ pc e z, ¬ hnd y pc e = some z) (lt_s (p := fun y => ∀ pc e z, ¬ hnd y pc e = some z) (lt_s (p := fun y => ∀ pc e z, ¬ hnd y pc e = some z) (lt_s (p := fun y => ∀ pc e z, ¬ hnd y pc e = some z) (lt_s (p := fun y => ∀ pc e z, ¬ hnd y pc e = some z) (lt_s (p := fun y => ∀ pc e z, ¬ hnd y pc e = some z) (lt_s (p := fun y => ∀ pc e z, ¬ hnd y pc e = some z) (lt_s (p := fun y => ∀ pc e z, ¬ hnd y pc e = some z) (lt_s (p := fun y => ∀ pc e z, ¬ hnd y pc e = some z) lt_0 (fun _ _ _ h => no_some h)) (fun _ _ _ h => no_some h)) (fun _ _ _ h => no_some h)) (fun _ _ _ h => no_some h)) (fun _ _ _ h => no_some h)) (fun _ _ _ h => no_some h)) (fun _ _ _ h => no_some h)) (fun _ _ _ h => no_some h)) (fun _ _ _ h => no_some h)) (fun _ _ _ h => no_some h)) (fun _ _ _ h => no_some h)) (fun _ _ _ h => no_some h)) (fun _ _ _ h => no_some h)) (fun _ _ _ h => no_some h)) (fun _ _ _ h => no_some h)) (fun _ _ _ h => no_some h)) (fun _ _ _ h => no_some h)) (fun _ _ _ h => no_some h)) (fun _ _ _ h => no_some h)) (fun _ _ _ h => no_some h)) (fun _ _ _ h => no_some h)) (fun _ _ _ h => no_some h)) (fun _ _ _ h => no_some h)) (fun _ _ _ h => no_some h)) (fun _ _ _ h => no_some h)) (fun _ _ _ h => no_some h)) (fun _ _ _ h => no_some h)) (fun _ _ _ h => no_some h)) (fun _ _ _ h => no_some h)) (fun _ _ _ h => no_some h)) (fun _ _ _ h => no_some h)) (fun _ _ _ h => no_some h)) (fun _ _ _ h => no_some h)) (fun _ _ _ h => no_some h)) (fun _ _ _ h => no_some h)) (fun _ _ _ h => no_some h)) (fun _ _ _ h => no_some h)) (fun _ _ _ h => no_some h)) (fun _ _ _ h => no_some h)) (fun _ _ _ h => no_some h)) (fun _ _ _ h => no_some h)) (fun _ _ _ h => no_some h)) (fun _ _ _ h => no_some h)) (fun _ _ _ h => no_some h)) (fun _ _ _ h => no_some h)) (fun _ _ _ h => no_some h)) (fun _ _ _ h => no_some h)) (fun _ _ _ h => no_some h)) (fun _ _ _ h => no_some h)) (fun _ _ _ h => no_some h)) (fun _ _ _ h => no_some h)) (fun _ _ _ h => no_some h)) (fun _ _ _ h => no_some h)) (fun _ _ _ h => no_some h)) (fun _ _ _ h => no_some h)) (fun _ _ _ h => no_some h)) (fun _ _ _ h => no_some h)) (fun _ _ _ h => no_some h)) (fun _ _ _ h => no_some h)) (fun _ _ _ h => no_some h)) (fun _ _ _ h => no_some h)) (fun _ _ _ h => no_some h)) (fun _ _ _ h => no_some h)) (fun _ _ _ h => no_some h)) (fun _ _ _ h => no_some h)) (fun _ _ _ h => no_some h)) (fun _ _ _ h => no_some h)) (fun _ _ _ h => no_some h)) (fun _ _ _ h => no_some h)) (fun _ _ _ h => no_some h)) (fun _ _ _ h => no_some h)) (fun _ _ _ h => no_some h)) (fun _ _ _ h => no_some h)) (fun _ _ _ h => no_some h)) (fun _ _ _ h => no_some h)) (fun _ _ _ h => no_some h)) (fun _ _ _ h => no_some h)) (fun _ _ _ h => no_some h)) (fun _ _ _ h => no_some h)) (fun _ _ _ h => no_some h)) (fun _ _ _ h => no_some h)) (fun _ _ _ h => no_some h)) (fun _ _ _ h => no_some h)) (fun _ _ _ h => no_some h)) (fun _ _ _ h => no_some h)) (fun _ _ _ h => no_some h)) (fun _ _ _ h => no_some h)) (fun _ _ _ h => no_some h)) (fun _ _ _ h => no_some h)) (fun _ _ _ h => no_some h)) (fun _ _ _ h => no_some h)) (fun _ _ _ h => no_some h)) (fun _ _ _ h => no_some h)) (fun _ _ _ h => no_some h)) (fun _ _ _ h => no_some h)) (fun _ _ _ h => no_some h)) (fun _ _ _ h => no_some h)) (fun _ _ _ h => no_some h)) (fun _ _ _ h => no_some h)) (fun _ _ _ h => no_some h)) (fun _ _ _ h => no_some h)) (fun _ _ _ h => no_some h)) (fun _ _ _ h => no_some h)) (fun _ _ _ h => no_some h)) (fun _ _ _ h => no_some h)) (fun _ _ _ h => no_some h)) (fun _ _ _ h => no_some h)) (fun _ _ _ h => no_some h)) (fun _ _ _ h => no_some h)) (fun _ _ _ h => no_some h)) (fun _ _ _ h => no_some h)) (fun _ _ _ h => no_some h)) (fun _ _ _ h => no_some h)) (fun _ _ _ h => no_some h)) (fun _ _ _ h => no_some h)) (fun _ _ _ h => no_some h)) (fun _ _ _ h => no_some h)) (fun _ _ _ h => no_some h)) (fun _ _ _ h => no_some h)) (fun _ _ _ h => no_some h)) (fun _ _ _ h => no_some h))
theorem nohnd {y : Nat} (h : y < 121 ∨ y = 139) : ∀ pc e z, ¬ hnd y pc e = some z := by
  rcases h with h | h
  · exact nohnd9 y h
  · subst h
    exact fun _ _ _ h => no_some h
theorem mrt_ok : ∀ y, y < 140 → (mrt y = 0 → MR y = none) ∧ (mrt y = 1 → MR y = some .int) ∧ (mrt y = 2 → MR y = some .boolean) ∧ (mrt y = 3 → MR y = some .long) ∧ (mrt y = 4 → MR y = some .double) ∧ (mrt y = 5 → MR y = some (.object "RubberStamps$Plan")) := by decide +kernel
theorem take_rev {st : List V} {n : Nat} {x : V} (h : st[n]? = some x) : (st.take (n + 1)).reverse = x :: (st.take n).reverse ∧ st = st.take n ++ x :: st.drop (n + 1) := by
  have hl : n < st.length := by
    rcases Nat.lt_or_ge n st.length with q | q
    · exact q
    · rw [List.getElem?_eq_none q] at h; cases h
  have hx : st[n] = x := by rw [List.getElem?_eq_getElem hl] at h; exact Option.some.inj h
  refine ⟨by rw [List.take_succ_eq_append_getElem hl, List.reverse_append, hx]; rfl, ?_⟩
  rw [← hx, ← List.drop_eq_getElem_cons hl, List.take_append_drop]
theorem oks_take {w : Wd} {st : List V} (h : oks w st) (n : Nat) : oks w (st.take n).reverse := fun v hv => h v (List.mem_of_mem_take (List.mem_reverse.mp hv))
theorem oks_drop {w : Wd} {st : List V} (h : oks w st) (n : Nat) : oks w (st.drop n) := fun v hv => h v (List.mem_of_mem_drop hv)
theorem oks_none {w : Wd} {l : List V} (h : oks w l) (n : Nat) : oks w (l.set n none) := oks_set h n (show okv w none from trivial)
