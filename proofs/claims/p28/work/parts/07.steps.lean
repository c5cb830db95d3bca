/-! each straight instruction of the small machine is the machine's -/
def EN (e : Nat) : String := cond (Nat.beq e 1) "java/lang/IllegalArgumentException" (cond (Nat.beq e 2) "java/lang/IllegalStateException" "java/lang/IndexOutOfBoundsException")
def NX : List Cond := [.declares ⟨"java/lang/RuntimeException", "<init>", "()V"⟩, .declares ⟨"java/lang/RuntimeException", "<init>", "(Ljava/lang/String;)V"⟩, .declares ⟨"java/lang/Exception", "<init>", "()V"⟩, .declares ⟨"java/lang/Exception", "<init>", "(Ljava/lang/String;)V"⟩, .declares ⟨"java/lang/Throwable", "<init>", "()V"⟩, .declares ⟨"java/lang/Throwable", "<init>", "(Ljava/lang/String;)V"⟩]
/-- what stays through the whole run -/
def Fx (G : GT) (U : State) (H : Heap) : Prop := va_K (gD G) vwCl (tys G) U ∧ (∀ w ∈ NW ++ NX, va_Nw w U) ∧ va_Z RX8 "TURNED" "[I" (.ref (gT G)) (AA G) U H ∧ va_T .int (gT G) 26 (fun j => .int (gF G j)) (AA G) U H ∧ va_X (gS G) (gL G) (gX G) U H ∧
  (gS G < gB G ∧ gT G < gB G ∧ gB G ≤ H.size ∧ gL G ≤ 260) ∧ (∀ z ∈ SIX, ∃ sa : Nat, vk_R RX8 z.1 z.2 sa U) ∧ vx_Zq Bundle.tN "UNASSIGNED_STACK" Bundle.steD (AA G) U H ∧ vx_Zq Bundle.tN "SUPPRESSED_SENTINEL" Bundle.listD (AA G) U H ∧
  (∀ a, a < 4 → 0 < a → va_Nw (.castable (EN a) (EN a)) U ∧ ∀ b, b < 4 → 0 < b → a ≠ b → va_Nc (EN a) (EN b) U)
def nwf (w : Cond) : Bool := match w with
  | .fieldLinkNest _ _ _ _ _ _ => true
  | .methodLinkNest _ _ _ _ => true
  | .arrayOver (.object _) => true
  | .declares _ => true
  | _ => false
theorem NW_f : (NW ++ NX).all nwf = true := by decide +kernel
theorem NW_to {U U' : State} (hW : U.WarmedH U'.vm) {w : Cond} (hw : w ∈ NW ++ NX) (h : va_Nw w U) : va_Nw w U' := by
  have h1 := List.all_eq_true.mp NW_f w hw
  unfold nwf at h1
  split at h1
  · exact va_Nw.warmF hW h
  · exact va_Nw.warmM hW h
  · exact va_AO.moved hW.alike h
  · exact va_Nw.warmD hW h
  · cases h1
theorem Fx_to {G : GT} {U U' : State} {H H' : Heap} (hW : U.WarmedH U'.vm) (h : Fx G U H) (hk : ∀ q : Nat, q < H.size → ¬ AA G q → H'[q]? = H[q]?) (hsz : gB G ≤ H'.size) : Fx G U' H' := by
  obtain ⟨h1, h2, h3, h4, h5, h6, h7, h8, h9, h10⟩ := h
  have hb : gS G < H.size := Nat.lt_of_lt_of_le h6.1 h6.2.2.1
  refine ⟨va_K.moved hW.alike h1, fun w hw => NW_to hW hw (h2 w hw), va_Z.moved hW.alike (h3.kept hk), va_T.moved hW.alike (h4.kept hk), va_X.moved hW.alike (h5.kept (hk _ hb (Nat.not_le.mpr h6.1))), ⟨h6.1, h6.2.1, hsz, h6.2.2.2⟩, fun z hz => ?_, vx_Zq.moved hW.alike (h8.kept hk), vx_Zq.moved hW.alike (h9.kept hk), fun a ha ha0 => ⟨va_Nw.warmC hW (h10 a ha ha0).1, fun b hb hb0 hab => va_Nc.moved hW.alike ((h10 a ha ha0).2 b hb hb0 hab)⟩⟩
  obtain ⟨sa, hs⟩ := h7 z hz
  exact ⟨sa, vk_R.warm hW hs⟩
theorem nx_use {z : Cond} {args : Array Value} {s : State} (hz : z ∈ NX) (h : va_Nw z s) : z.before args s = true := by
  simp only [NX, List.mem_cons, List.not_mem_nil, or_false] at hz
  rcases hz with rfl | rfl | rfl | rfl | rfl | rfl <;> exact va_Nw.use rfl h
def Cx (p : Program) (l : Launch) (R : Room) (s : State) (m : MethodId) (args : Array Value) (meth : Method) (c : Code) (y : Nat) (G : GT) : Prop :=
  p.tables.exec = Jvm.exec ∧ c.code = MB y ∧ c.maxLocals = mml y ∧ s.vm.findClass (RC (mcl y)) = some m.cls ∧ (∀ w ∈ wsL_law, w.before args s = true) ∧ meth.locks = false ∧ Fx G s s.heap ∧ (7 ≤ R.frames ∧ 100 ≤ R.locals) ∧ l.stackTraces = false ∧ (y < 121 → meth.name = (MN y).name) ∧ y < 140
theorem eqi_of {j i : Instr} {o pc : Nat} (h : eqi j o pc i = true) : j = rl o pc i := by
  unfold eqi at h
  split at h
  · simp only [Bool.and_eq_true, decide_eq_true_eq] at h
    obtain ⟨⟨⟨rfl, rfl⟩, rfl⟩, h⟩ := h
    show _ = Instr.tableswitch _ _ _ _
    congr 1
    apply Array.toList_inj.mp
    rw [h, Array.toList_map]
  · exact of_decide_eq_true h
theorem tbd {y pc : Nat} {i : Instr} (hy : y < 140) (h : tb y pc = some i) : ∃ n, decode (MB y) pc = .ok (rl (mcl y) pc i, n) ∧ (isw i = false → n = iln i) ∧ mem y (mcl y) i = true ∧ (∀ c, i = .new c → 800 ≤ c → thk y pc c = true) := by
  have hp : pc < mln y := tbl_lt hy h
  have h1 := tbk y hy pc hp
  unfold chk at h1
  rw [h] at h1
  simp only [Bool.and_eq_true] at h1
  obtain ⟨⟨h1, h2⟩, h3⟩ := h1
  split at h1
  · rename_i j n hd
    simp only [Bool.and_eq_true, Bool.or_eq_true] at h1
    obtain ⟨h0, h1⟩ := h1
    have h0 := eqi_of h0
    subst h0
    refine ⟨n, hd, fun hs => ?_, h2, fun c hc h8 => ?_⟩
    · rcases h1 with h1 | h1
      · rw [hs] at h1; cases h1
      · exact Nat.eq_of_beq_eq_true h1
    · subst hc
      simp only [show Nat.ble 800 c = true from Nat.ble_eq_true_of_le h8, cond_true] at h3
      exact h3
  · cases h1
def StY (i : Instr) : Prop := ∀ {p : Program} {l : Launch} {e : Env} {R : Room} {s : State} {m : MethodId} {args : Array Value} {below : List Frame} {meth : Method} {c : Code} {H : Heap} {locs : List Loc} {u0 s0 : Nat} {Q : State → Prop} {y : Nat} {G : GT} {w w' : Wd} {ad : Nat → Nat} {pc pc' : Nat} {L : Array Slot} {ls ls' st st' : List V} {ob : Option Prop},
  Cx p l R s m args meth c y G → LR (mml y) L ls ad → WF G w ad → WH G w ad H → va_S (AA G) s.heap H locs → oks w st → oks w ls → tb y pc = some i → ins i pc ls st w = some (ob, (pc', (ls', (st', w')))) → exo ob True →
  (u0 ≤ uc w ∧ s0 ≤ us w ∧ uc w' - u0 ≤ R.cells ∧ us w' - s0 ≤ R.slots) →
  (∀ (L' : Array Slot) (H' : Heap) (locs' : List Loc) (ad' : Nat → Nat), LR (mml y) L' ls' ad' → WF G w' ad' → WH G w' ad' H' → va_S (AA G) s.heap H' locs' → (∀ r, r < nx w → ad' r = ad r) → oks w' st' → oks w' ls' → nx w ≤ nx w' → uc w ≤ uc w' → us w ≤ us w' → W p l e R s m args below meth c H' locs' (uc w' - u0) (us w' - s0) Q (F0 m pc' L' (st'.map (cv ad')))) →
  W p l e R s m args below meth c H locs (uc w - u0) (us w - s0) Q (F0 m pc L (st.map (cv ad)))
theorem vok_of {y o v : Nat} (h : mem y o (.ldc v) = true) : Cond.constant (RC o) (cpK o v) (Int32.ofInt (v : Int)) ∈ wsL_law := by
  simp only [mem, Bool.and_eq_true, decide_eq_true_eq] at h
  exact KL9_ok (o, v) h.1
theorem vokw_of {y o v : Nat} (h : mem y o (.ldc_w v) = true) : Cond.constant (RC o) (cpK o v) (Int32.ofInt (v : Int)) ∈ wsL_law := by
  simp only [mem, Bool.and_eq_true, decide_eq_true_eq] at h
  exact KW9_ok (o, v) h.1
theorem uok_of {y o v : Nat} (h : mem y o (.ldc2_w v) = true) : Cond.constantLong (RC o) (cpK o v) (Int64.ofInt (v : Int)) ∈ wsL_law := by
  simp only [mem, decide_eq_true_eq] at h
  exact KU9_ok (o, v) h
theorem fok_of {y o q : Nat} (h : mem y o (.getfield q) = true) : FOK o (cpF (o * 10000 + q)) q := by
  simp only [mem, decide_eq_true_eq] at h
  exact FL9_ok (o, q) h
theorem pok_of {y o q : Nat} (h : mem y o (.putfield q) = true) : FOK o (cpF (o * 10000 + q)) q := by
  simp only [mem, Bool.and_eq_true, decide_eq_true_eq] at h
  exact FL9_ok (o, q) h.1
theorem oi_div {a b : Int} (ha : ir a) (hb : ir b) (h0 : 0 ≤ a) (h1 : 0 < b) : Int32.ofInt a / Int32.ofInt b = Int32.ofInt (a / b) := by
  obtain ⟨m, rfl⟩ := Int.eq_ofNat_of_zero_le h0
  obtain ⟨n, rfl⟩ := Int.eq_ofNat_of_zero_le (Int.le_of_lt h1)
  unfold ir at ha hb
  exact pk_div (a := m) (d := n) (by omega) (by omega) (by omega)
theorem ir_div {a b : Int} (ha : ir a) (h0 : 0 ≤ a) (h1 : 0 < b) : ir (a / b) := by
  have h2 := Int.ediv_nonneg h0 (Int.le_of_lt h1)
  have h3 := Int.ediv_le_self b h0
  unfold ir at ha ⊢
  omega
theorem oi_rem {a b : Int} (ha : ir a) (hb : ir b) (h0 : 0 ≤ a) (h1 : 0 < b) : Int32.ofInt a - Int32.ofInt a / Int32.ofInt b * Int32.ofInt b = Int32.ofInt (a % b) := by
  obtain ⟨m, rfl⟩ := Int.eq_ofNat_of_zero_le h0
  obtain ⟨n, rfl⟩ := Int.eq_ofNat_of_zero_le (Int.le_of_lt h1)
  unfold ir at ha hb
  exact pk_rem (a := m) (d := n) (by omega) (by omega) (by omega)
theorem ir_rem {a b : Int} (ha : ir a) (hb : ir b) (h0 : 0 ≤ a) (h1 : 0 < b) : ir (a % b) := by
  have h2 := Int.emod_nonneg a (Int.ne_of_gt h1)
  have h3 := Int.emod_lt_of_pos a h1
  unfold ir at hb ⊢
  omega
set_option maxHeartbeats 4000000 in
theorem st_iconst (n : Int) : StY (.iconst n) := by
  intro p l e R s m args below meth c H locs u0 s0 Q y G w w' ad pc pc' L ls ls' st st' ob hC hL hw hh hS hst hls htb hn hob hr k
  obtain ⟨hx, hb, hml, hown, hts, hlk, hF, hR, hl0, hnm, hy⟩ := hC
  obtain ⟨n9, hd, hlen, hmem, -⟩ := tbd hy htb
  have hd : decode (MB y) pc = .ok (_, n9) := hd
  have hlen := hlen rfl
  rw [hlen] at hd
  simp only [ins] at hn
  simp only [n1, Option.some.injEq, Prod.mk.injEq] at hn
  obtain ⟨rfl, rfl, rfl, rfl, rfl⟩ := hn
  have hk : ir n := by have h := hmem; simp only [mem, Bool.and_eq_true, decide_eq_true_eq] at h; exact h
  refine lv_iconst hx hb hd rfl ?_
  exact k L H locs ad hL hw hh hS (fun _ _ => rfl) (oks_cons (show okv w (vI n) from hk) hst) hls (Nat.le_refl _) (Nat.le_refl _) (Nat.le_refl _)
set_option maxHeartbeats 4000000 in
theorem st_bipush (n : Int) : StY (.bipush n) := by
  intro p l e R s m args below meth c H locs u0 s0 Q y G w w' ad pc pc' L ls ls' st st' ob hC hL hw hh hS hst hls htb hn hob hr k
  obtain ⟨hx, hb, hml, hown, hts, hlk, hF, hR, hl0, hnm, hy⟩ := hC
  obtain ⟨n9, hd, hlen, hmem, -⟩ := tbd hy htb
  have hd : decode (MB y) pc = .ok (_, n9) := hd
  have hlen := hlen rfl
  rw [hlen] at hd
  simp only [ins] at hn
  simp only [n1, Option.some.injEq, Prod.mk.injEq] at hn
  obtain ⟨rfl, rfl, rfl, rfl, rfl⟩ := hn
  have hk : -128 ≤ n ∧ n < 128 := by have h := hmem; simp only [mem, Bool.and_eq_true, decide_eq_true_eq] at h; exact h
  have hk2 : ir n := by unfold ir; omega
  refine lv_bipush hx hb (v := Int32.ofInt n) hd (by rw [← Int32.toInt_inj, oi_t hk2, Int8.toInt_toInt32, Int8.toInt_ofInt_of_le (by omega) (by omega)]) ?_
  exact k L H locs ad hL hw hh hS (fun _ _ => rfl) (oks_cons (show okv w (vI n) from hk2) hst) hls (Nat.le_refl _) (Nat.le_refl _) (Nat.le_refl _)
set_option maxHeartbeats 4000000 in
theorem st_sipush (n : Int) : StY (.sipush n) := by
  intro p l e R s m args below meth c H locs u0 s0 Q y G w w' ad pc pc' L ls ls' st st' ob hC hL hw hh hS hst hls htb hn hob hr k
  obtain ⟨hx, hb, hml, hown, hts, hlk, hF, hR, hl0, hnm, hy⟩ := hC
  obtain ⟨n9, hd, hlen, hmem, -⟩ := tbd hy htb
  have hd : decode (MB y) pc = .ok (_, n9) := hd
  have hlen := hlen rfl
  rw [hlen] at hd
  simp only [ins] at hn
  simp only [n1, Option.some.injEq, Prod.mk.injEq] at hn
  obtain ⟨rfl, rfl, rfl, rfl, rfl⟩ := hn
  have hk : -32768 ≤ n ∧ n < 32768 := by have h := hmem; simp only [mem, Bool.and_eq_true, decide_eq_true_eq] at h; exact h
  have hk2 : ir n := by unfold ir; omega
  refine lv_sipush hx hb (v := Int32.ofInt n) hd (by rw [← Int32.toInt_inj, oi_t hk2, Int16.toInt_toInt32, Int16.toInt_ofInt_of_le (by omega) (by omega)]) ?_
  exact k L H locs ad hL hw hh hS (fun _ _ => rfl) (oks_cons (show okv w (vI n) from hk2) hst) hls (Nat.le_refl _) (Nat.le_refl _) (Nat.le_refl _)
theorem sx_lo {n : Nat} (h : n < 2147483648) : sx n = (n : Int) := by unfold sx; rw [show Nat.blt n 2147483648 = true from Nat.ble_eq_true_of_le h]; rfl
theorem sx_hi {n : Nat} (h : 2147483648 ≤ n) (h2 : n < 4294967296) : sx n = (n : Int) - 4294967296 := by
  unfold sx
  have e : Nat.blt n 2147483648 = false := by
    cases hb : Nat.blt n 2147483648 with
    | false => rfl
    | true => exact absurd (Nat.le_of_ble_eq_true hb) (by omega)
  rw [e]
  show Int.negSucc (4294967295 - n) = _
  omega
theorem sx_ir {n : Nat} (h : n < 4294967296) : ir (sx n) := by
  unfold ir
  rcases Nat.lt_or_ge n 2147483648 with g | g
  · rw [sx_lo g]; omega
  · rw [sx_hi g h]; omega
theorem sx_oi {n : Nat} (h : n < 4294967296) : Int32.ofInt (n : Int) = Int32.ofInt (sx n) := by
  rcases Nat.lt_or_ge n 2147483648 with g | g
  · rw [sx_lo g]
  · rw [sx_hi g h, Int32.ofInt_sub]
    have e : Int32.ofInt 4294967296 = 0 := by decide
    rw [e, Int32.sub_zero]
set_option maxHeartbeats 4000000 in
theorem st_ldc (n : Nat) : StY (.ldc n) := by
  intro p l e R s m args below meth c H locs u0 s0 Q y G w w' ad pc pc' L ls ls' st st' ob hC hL hw hh hS hst hls htb hn hob hr k
  obtain ⟨hx, hb, hml, hown, hts, hlk, hF, hR, hl0, hnm, hy⟩ := hC
  obtain ⟨n9, hd, hlen, hmem, -⟩ := tbd hy htb
  have hd : decode (MB y) pc = .ok (_, n9) := hd
  have hlen := hlen rfl
  rw [hlen] at hd
  simp only [ins] at hn
  simp only [n1, Option.some.injEq, Prod.mk.injEq] at hn
  obtain ⟨rfl, rfl, rfl, rfl, rfl⟩ := hn
  have hk : n < 4294967296 := by have h := hmem; simp only [mem, Bool.and_eq_true, decide_eq_true_eq] at h; exact h.2
  have hk2 : ir (sx n) := sx_ir hk
  refine lv_ldc hx hb hown (hts _ (vok_of hmem)) hd ?_
  rw [show Int32.ofInt (n : Int) = Int32.ofInt (sx n) from sx_oi hk]
  exact k L H locs ad hL hw hh hS (fun _ _ => rfl) (oks_cons (show okv w (vI (sx n)) from hk2) hst) hls (Nat.le_refl _) (Nat.le_refl _) (Nat.le_refl _)
set_option maxHeartbeats 4000000 in
theorem st_ldc_w (n : Nat) : StY (.ldc_w n) := by
  intro p l e R s m args below meth c H locs u0 s0 Q y G w w' ad pc pc' L ls ls' st st' ob hC hL hw hh hS hst hls htb hn hob hr k
  obtain ⟨hx, hb, hml, hown, hts, hlk, hF, hR, hl0, hnm, hy⟩ := hC
  obtain ⟨n9, hd, hlen, hmem, -⟩ := tbd hy htb
  have hd : decode (MB y) pc = .ok (_, n9) := hd
  have hlen := hlen rfl
  rw [hlen] at hd
  simp only [ins] at hn
  simp only [n1, Option.some.injEq, Prod.mk.injEq] at hn
  obtain ⟨rfl, rfl, rfl, rfl, rfl⟩ := hn
  have hk : n < 2147483648 := by have h := hmem; simp only [mem, Bool.and_eq_true, decide_eq_true_eq] at h; exact h.2
  have hk2 : ir (n : Int) := by unfold ir; omega
  refine lv_ldcw hx hb hown (hts _ (vokw_of hmem)) hd ?_
  exact k L H locs ad hL hw hh hS (fun _ _ => rfl) (oks_cons (show okv w (vI (n : Int)) from hk2) hst) hls (Nat.le_refl _) (Nat.le_refl _) (Nat.le_refl _)
set_option maxHeartbeats 4000000 in
theorem st_ldc2 (n : Nat) : StY (.ldc2_w n) := by
  intro p l e R s m args below meth c H locs u0 s0 Q y G w w' ad pc pc' L ls ls' st st' ob hC hL hw hh hS hst hls htb hn hob hr k
  obtain ⟨hx, hb, hml, hown, hts, hlk, hF, hR, hl0, hnm, hy⟩ := hC
  obtain ⟨n9, hd, hlen, hmem, -⟩ := tbd hy htb
  have hd : decode (MB y) pc = .ok (_, n9) := hd
  have hlen := hlen rfl
  rw [hlen] at hd
  simp only [ins] at hn
  simp only [n1, Option.some.injEq, Prod.mk.injEq] at hn
  obtain ⟨rfl, rfl, rfl, rfl, rfl⟩ := hn
  refine lv_ldc2 hx hb hown (hts _ (uok_of hmem)) hd ?_
  exact k L H locs ad hL hw hh hS (fun _ _ => rfl) (oks_cons (show okv w (vL (n : Int)) from trivial) hst) hls (Nat.le_refl _) (Nat.le_refl _) (Nat.le_refl _)
set_option maxHeartbeats 4000000 in
theorem st_dconst (n : Fin 2) : StY (.dconst n) := by
  intro p l e R s m args below meth c H locs u0 s0 Q y G w w' ad pc pc' L ls ls' st st' ob hC hL hw hh hS hst hls htb hn hob hr k
  obtain ⟨hx, hb, hml, hown, hts, hlk, hF, hR, hl0, hnm, hy⟩ := hC
  obtain ⟨n9, hd, hlen, hmem, -⟩ := tbd hy htb
  have hd : decode (MB y) pc = .ok (_, n9) := hd
  have hlen := hlen rfl
  rw [hlen] at hd
  simp only [ins] at hn
  split at hn
  · rename_i h0
    subst h0
    simp only [n1, Option.some.injEq, Prod.mk.injEq] at hn
    obtain ⟨rfl, rfl, rfl, rfl, rfl⟩ := hn
    refine lv_dconst0 hx hb hd ?_
    exact k L H locs ad hL hw hh hS (fun _ _ => rfl) (oks_cons (show okv w (vD 0) from trivial) hst) hls (Nat.le_refl _) (Nat.le_refl _) (Nat.le_refl _)
  · cases hn
set_option maxHeartbeats 4000000 in
theorem st_iload (n : Nat) : StY (.iload n) := by
  intro p l e R s m args below meth c H locs u0 s0 Q y G w w' ad pc pc' L ls ls' st st' ob hC hL hw hh hS hst hls htb hn hob hr k
  obtain ⟨hx, hb, hml, hown, hts, hlk, hF, hR, hl0, hnm, hy⟩ := hC
  obtain ⟨n9, hd, hlen, hmem, -⟩ := tbd hy htb
  have hd : decode (MB y) pc = .ok (_, n9) := hd
  have hlen := hlen rfl
  rw [hlen] at hd
  simp only [ins] at hn
  split at hn
  · rename_i a heq
    simp only [n1, Option.some.injEq, Prod.mk.injEq] at hn
    obtain ⟨rfl, rfl, rfl, rfl, rfl⟩ := hn
    refine lv_iload hx hb hd (LR_at hL heq) ?_
    exact k L H locs ad hL hw hh hS (fun _ _ => rfl) (oks_cons (show okv w (vI a) from oks_at hls heq) hst) hls (Nat.le_refl _) (Nat.le_refl _) (Nat.le_refl _)
  · cases hn
set_option maxHeartbeats 4000000 in
theorem st_iload_n (n : Fin 4) : StY (.iload_n n) := by
  intro p l e R s m args below meth c H locs u0 s0 Q y G w w' ad pc pc' L ls ls' st st' ob hC hL hw hh hS hst hls htb hn hob hr k
  obtain ⟨hx, hb, hml, hown, hts, hlk, hF, hR, hl0, hnm, hy⟩ := hC
  obtain ⟨n9, hd, hlen, hmem, -⟩ := tbd hy htb
  have hd : decode (MB y) pc = .ok (_, n9) := hd
  have hlen := hlen rfl
  rw [hlen] at hd
  simp only [ins] at hn
  split at hn
  · rename_i a heq
    simp only [n1, Option.some.injEq, Prod.mk.injEq] at hn
    obtain ⟨rfl, rfl, rfl, rfl, rfl⟩ := hn
    refine lv_iload_n hx hb hd rfl (LR_at hL heq) ?_
    exact k L H locs ad hL hw hh hS (fun _ _ => rfl) (oks_cons (show okv w (vI a) from oks_at hls heq) hst) hls (Nat.le_refl _) (Nat.le_refl _) (Nat.le_refl _)
  · cases hn
set_option maxHeartbeats 4000000 in
theorem st_aload (n : Nat) : StY (.aload n) := by
  intro p l e R s m args below meth c H locs u0 s0 Q y G w w' ad pc pc' L ls ls' st st' ob hC hL hw hh hS hst hls htb hn hob hr k
  obtain ⟨hx, hb, hml, hown, hts, hlk, hF, hR, hl0, hnm, hy⟩ := hC
  obtain ⟨n9, hd, hlen, hmem, -⟩ := tbd hy htb
  have hd : decode (MB y) pc = .ok (_, n9) := hd
  have hlen := hlen rfl
  rw [hlen] at hd
  simp only [ins] at hn
  split at hn
  · rename_i a heq
    simp only [n1, Option.some.injEq, Prod.mk.injEq] at hn
    obtain ⟨rfl, rfl, rfl, rfl, rfl⟩ := hn
    refine lv_aload hx hb hd (LR_at hL heq) ?_
    exact k L H locs ad hL hw hh hS (fun _ _ => rfl) (oks_cons (show okv w (vR a) from oks_at hls heq) hst) hls (Nat.le_refl _) (Nat.le_refl _) (Nat.le_refl _)
  · cases hn
set_option maxHeartbeats 4000000 in
theorem st_aload_n (n : Fin 4) : StY (.aload_n n) := by
  intro p l e R s m args below meth c H locs u0 s0 Q y G w w' ad pc pc' L ls ls' st st' ob hC hL hw hh hS hst hls htb hn hob hr k
  obtain ⟨hx, hb, hml, hown, hts, hlk, hF, hR, hl0, hnm, hy⟩ := hC
  obtain ⟨n9, hd, hlen, hmem, -⟩ := tbd hy htb
  have hd : decode (MB y) pc = .ok (_, n9) := hd
  have hlen := hlen rfl
  rw [hlen] at hd
  simp only [ins] at hn
  split at hn
  · rename_i a heq
    simp only [n1, Option.some.injEq, Prod.mk.injEq] at hn
    obtain ⟨rfl, rfl, rfl, rfl, rfl⟩ := hn
    refine lv_aload_n hx hb hd rfl (LR_at hL heq) ?_
    exact k L H locs ad hL hw hh hS (fun _ _ => rfl) (oks_cons (show okv w (vR a) from oks_at hls heq) hst) hls (Nat.le_refl _) (Nat.le_refl _) (Nat.le_refl _)
  · cases hn
set_option maxHeartbeats 4000000 in
theorem st_lload (n : Nat) : StY (.lload n) := by
  intro p l e R s m args below meth c H locs u0 s0 Q y G w w' ad pc pc' L ls ls' st st' ob hC hL hw hh hS hst hls htb hn hob hr k
  obtain ⟨hx, hb, hml, hown, hts, hlk, hF, hR, hl0, hnm, hy⟩ := hC
  obtain ⟨n9, hd, hlen, hmem, -⟩ := tbd hy htb
  have hd : decode (MB y) pc = .ok (_, n9) := hd
  have hlen := hlen rfl
  rw [hlen] at hd
  simp only [ins] at hn
  split at hn
  · rename_i a heq
    simp only [n1, Option.some.injEq, Prod.mk.injEq] at hn
    obtain ⟨rfl, rfl, rfl, rfl, rfl⟩ := hn
    refine lv_lload hx hb hd (LR_at hL heq) ?_
    exact k L H locs ad hL hw hh hS (fun _ _ => rfl) (oks_cons (show okv w (vL a) from trivial) hst) hls (Nat.le_refl _) (Nat.le_refl _) (Nat.le_refl _)
  · cases hn
set_option maxHeartbeats 4000000 in
theorem st_lload_n (n : Fin 4) : StY (.lload_n n) := by
  intro p l e R s m args below meth c H locs u0 s0 Q y G w w' ad pc pc' L ls ls' st st' ob hC hL hw hh hS hst hls htb hn hob hr k
  obtain ⟨hx, hb, hml, hown, hts, hlk, hF, hR, hl0, hnm, hy⟩ := hC
  obtain ⟨n9, hd, hlen, hmem, -⟩ := tbd hy htb
  have hd : decode (MB y) pc = .ok (_, n9) := hd
  have hlen := hlen rfl
  rw [hlen] at hd
  simp only [ins] at hn
  split at hn
  · rename_i a heq
    simp only [n1, Option.some.injEq, Prod.mk.injEq] at hn
    obtain ⟨rfl, rfl, rfl, rfl, rfl⟩ := hn
    refine lv_lload_n hx hb hd rfl (LR_at hL heq) ?_
    exact k L H locs ad hL hw hh hS (fun _ _ => rfl) (oks_cons (show okv w (vL a) from trivial) hst) hls (Nat.le_refl _) (Nat.le_refl _) (Nat.le_refl _)
  · cases hn
set_option maxHeartbeats 4000000 in
theorem st_dload (n : Nat) : StY (.dload n) := by
  intro p l e R s m args below meth c H locs u0 s0 Q y G w w' ad pc pc' L ls ls' st st' ob hC hL hw hh hS hst hls htb hn hob hr k
  obtain ⟨hx, hb, hml, hown, hts, hlk, hF, hR, hl0, hnm, hy⟩ := hC
  obtain ⟨n9, hd, hlen, hmem, -⟩ := tbd hy htb
  have hd : decode (MB y) pc = .ok (_, n9) := hd
  have hlen := hlen rfl
  rw [hlen] at hd
  simp only [ins] at hn
  split at hn
  · rename_i a heq
    simp only [n1, Option.some.injEq, Prod.mk.injEq] at hn
    obtain ⟨rfl, rfl, rfl, rfl, rfl⟩ := hn
    refine lv_dload hx hb hd (LR_at hL heq) ?_
    exact k L H locs ad hL hw hh hS (fun _ _ => rfl) (oks_cons (show okv w (vD a) from trivial) hst) hls (Nat.le_refl _) (Nat.le_refl _) (Nat.le_refl _)
  · cases hn
set_option maxHeartbeats 4000000 in
theorem st_dload_n (n : Fin 4) : StY (.dload_n n) := by
  intro p l e R s m args below meth c H locs u0 s0 Q y G w w' ad pc pc' L ls ls' st st' ob hC hL hw hh hS hst hls htb hn hob hr k
  obtain ⟨hx, hb, hml, hown, hts, hlk, hF, hR, hl0, hnm, hy⟩ := hC
  obtain ⟨n9, hd, hlen, hmem, -⟩ := tbd hy htb
  have hd : decode (MB y) pc = .ok (_, n9) := hd
  have hlen := hlen rfl
  rw [hlen] at hd
  simp only [ins] at hn
  split at hn
  · rename_i a heq
    simp only [n1, Option.some.injEq, Prod.mk.injEq] at hn
    obtain ⟨rfl, rfl, rfl, rfl, rfl⟩ := hn
    refine lv_dload_n hx hb hd rfl (LR_at hL heq) ?_
    exact k L H locs ad hL hw hh hS (fun _ _ => rfl) (oks_cons (show okv w (vD a) from trivial) hst) hls (Nat.le_refl _) (Nat.le_refl _) (Nat.le_refl _)
  · cases hn
set_option maxHeartbeats 4000000 in
theorem st_istore (n : Nat) : StY (.istore n) := by
  intro p l e R s m args below meth c H locs u0 s0 Q y G w w' ad pc pc' L ls ls' st st' ob hC hL hw hh hS hst hls htb hn hob hr k
  obtain ⟨hx, hb, hml, hown, hts, hlk, hF, hR, hl0, hnm, hy⟩ := hC
  obtain ⟨n9, hd, hlen, hmem, -⟩ := tbd hy htb
  have hd : decode (MB y) pc = .ok (_, n9) := hd
  have hlen := hlen rfl
  rw [hlen] at hd
  simp only [ins] at hn
  split at hn
  · rename_i a st9
    split at hn
    · rename_i hc
      simp only [n1, Option.some.injEq, Prod.mk.injEq] at hn
      obtain ⟨rfl, rfl, rfl, rfl, rfl⟩ := hn
      refine lv_istore hx hb hd hL.2 (by have := hL.1; omega) rfl (fun L' hL' => ?_)
      exact k L' H locs ad (LR_st1 (L := L) (x := .inl a) hL.1 hc.2 hL') hw hh hS (fun _ _ => rfl) (oks_tl hst) (oks_set hls n (oks_hd hst)) (Nat.le_refl _) (Nat.le_refl _) (Nat.le_refl _)
    · cases hn
  · cases hn
set_option maxHeartbeats 4000000 in
theorem st_istore_n (n : Fin 4) : StY (.istore_n n) := by
  intro p l e R s m args below meth c H locs u0 s0 Q y G w w' ad pc pc' L ls ls' st st' ob hC hL hw hh hS hst hls htb hn hob hr k
  obtain ⟨hx, hb, hml, hown, hts, hlk, hF, hR, hl0, hnm, hy⟩ := hC
  obtain ⟨n9, hd, hlen, hmem, -⟩ := tbd hy htb
  have hd : decode (MB y) pc = .ok (_, n9) := hd
  have hlen := hlen rfl
  rw [hlen] at hd
  simp only [ins] at hn
  split at hn
  · rename_i a st9
    split at hn
    · rename_i hc
      simp only [n1, Option.some.injEq, Prod.mk.injEq] at hn
      obtain ⟨rfl, rfl, rfl, rfl, rfl⟩ := hn
      refine lv_istore_n hx hb hd rfl hL.2 (by have := hL.1; omega) rfl (fun L' hL' => ?_)
      exact k L' H locs ad (LR_st1 (L := L) (x := .inl a) hL.1 hc.2 hL') hw hh hS (fun _ _ => rfl) (oks_tl hst) (oks_set hls n.val (oks_hd hst)) (Nat.le_refl _) (Nat.le_refl _) (Nat.le_refl _)
    · cases hn
  · cases hn
set_option maxHeartbeats 4000000 in
theorem st_astore (n : Nat) : StY (.astore n) := by
  intro p l e R s m args below meth c H locs u0 s0 Q y G w w' ad pc pc' L ls ls' st st' ob hC hL hw hh hS hst hls htb hn hob hr k
  obtain ⟨hx, hb, hml, hown, hts, hlk, hF, hR, hl0, hnm, hy⟩ := hC
  obtain ⟨n9, hd, hlen, hmem, -⟩ := tbd hy htb
  have hd : decode (MB y) pc = .ok (_, n9) := hd
  have hlen := hlen rfl
  rw [hlen] at hd
  simp only [ins] at hn
  split at hn
  · rename_i a st9
    split at hn
    · rename_i hc
      simp only [n1, Option.some.injEq, Prod.mk.injEq] at hn
      obtain ⟨rfl, rfl, rfl, rfl, rfl⟩ := hn
      refine lv_astore hx hb hd hL.2 (by have := hL.1; omega) rfl (fun L' hL' => ?_)
      exact k L' H locs ad (LR_st1 (L := L) (x := .inr (.inl a)) hL.1 hc.2 hL') hw hh hS (fun _ _ => rfl) (oks_tl hst) (oks_set hls n (oks_hd hst)) (Nat.le_refl _) (Nat.le_refl _) (Nat.le_refl _)
    · cases hn
  · cases hn
set_option maxHeartbeats 4000000 in
theorem st_astore_n (n : Fin 4) : StY (.astore_n n) := by
  intro p l e R s m args below meth c H locs u0 s0 Q y G w w' ad pc pc' L ls ls' st st' ob hC hL hw hh hS hst hls htb hn hob hr k
  obtain ⟨hx, hb, hml, hown, hts, hlk, hF, hR, hl0, hnm, hy⟩ := hC
  obtain ⟨n9, hd, hlen, hmem, -⟩ := tbd hy htb
  have hd : decode (MB y) pc = .ok (_, n9) := hd
  have hlen := hlen rfl
  rw [hlen] at hd
  simp only [ins] at hn
  split at hn
  · rename_i a st9
    split at hn
    · rename_i hc
      simp only [n1, Option.some.injEq, Prod.mk.injEq] at hn
      obtain ⟨rfl, rfl, rfl, rfl, rfl⟩ := hn
      refine lv_astore_n hx hb hd rfl hL.2 (by have := hL.1; omega) rfl (fun L' hL' => ?_)
      exact k L' H locs ad (LR_st1 (L := L) (x := .inr (.inl a)) hL.1 hc.2 hL') hw hh hS (fun _ _ => rfl) (oks_tl hst) (oks_set hls n.val (oks_hd hst)) (Nat.le_refl _) (Nat.le_refl _) (Nat.le_refl _)
    · cases hn
  · cases hn
set_option maxHeartbeats 4000000 in
theorem st_lstore (n : Nat) : StY (.lstore n) := by
  intro p l e R s m args below meth c H locs u0 s0 Q y G w w' ad pc pc' L ls ls' st st' ob hC hL hw hh hS hst hls htb hn hob hr k
  obtain ⟨hx, hb, hml, hown, hts, hlk, hF, hR, hl0, hnm, hy⟩ := hC
  obtain ⟨n9, hd, hlen, hmem, -⟩ := tbd hy htb
  have hd : decode (MB y) pc = .ok (_, n9) := hd
  have hlen := hlen rfl
  rw [hlen] at hd
  simp only [ins] at hn
  split at hn
  · rename_i a st9
    split at hn
    · rename_i hc
      simp only [n1, Option.some.injEq, Prod.mk.injEq] at hn
      obtain ⟨rfl, rfl, rfl, rfl, rfl⟩ := hn
      refine lv_lstore hx hb hd hL.2 (by have := hL.1; omega) rfl (fun L' hL' => ?_)
      exact k L' H locs ad (LR_st2 (L := L) (x := .inr (.inr (.inl a))) hL.1 hc.2 hL') hw hh hS (fun _ _ => rfl) (oks_tl hst) (oks_set (oks_set hls n (oks_hd hst)) (n + 1) (show okv w none from trivial)) (Nat.le_refl _) (Nat.le_refl _) (Nat.le_refl _)
    · cases hn
  · cases hn
set_option maxHeartbeats 4000000 in
theorem st_lstore_n (n : Fin 4) : StY (.lstore_n n) := by
  intro p l e R s m args below meth c H locs u0 s0 Q y G w w' ad pc pc' L ls ls' st st' ob hC hL hw hh hS hst hls htb hn hob hr k
  obtain ⟨hx, hb, hml, hown, hts, hlk, hF, hR, hl0, hnm, hy⟩ := hC
  obtain ⟨n9, hd, hlen, hmem, -⟩ := tbd hy htb
  have hd : decode (MB y) pc = .ok (_, n9) := hd
  have hlen := hlen rfl
  rw [hlen] at hd
  simp only [ins] at hn
  split at hn
  · rename_i a st9
    split at hn
    · rename_i hc
      simp only [n1, Option.some.injEq, Prod.mk.injEq] at hn
      obtain ⟨rfl, rfl, rfl, rfl, rfl⟩ := hn
      refine lv_lstore_n hx hb hd rfl hL.2 (by have := hL.1; omega) rfl (fun L' hL' => ?_)
      exact k L' H locs ad (LR_st2 (L := L) (x := .inr (.inr (.inl a))) hL.1 hc.2 hL') hw hh hS (fun _ _ => rfl) (oks_tl hst) (oks_set (oks_set hls n.val (oks_hd hst)) (n.val + 1) (show okv w none from trivial)) (Nat.le_refl _) (Nat.le_refl _) (Nat.le_refl _)
    · cases hn
  · cases hn
set_option maxHeartbeats 4000000 in
theorem st_dstore (n : Nat) : StY (.dstore n) := by
  intro p l e R s m args below meth c H locs u0 s0 Q y G w w' ad pc pc' L ls ls' st st' ob hC hL hw hh hS hst hls htb hn hob hr k
  obtain ⟨hx, hb, hml, hown, hts, hlk, hF, hR, hl0, hnm, hy⟩ := hC
  obtain ⟨n9, hd, hlen, hmem, -⟩ := tbd hy htb
  have hd : decode (MB y) pc = .ok (_, n9) := hd
  have hlen := hlen rfl
  rw [hlen] at hd
  simp only [ins] at hn
  split at hn
  · rename_i a st9
    split at hn
    · rename_i hc
      simp only [n1, Option.some.injEq, Prod.mk.injEq] at hn
      obtain ⟨rfl, rfl, rfl, rfl, rfl⟩ := hn
      refine lv_dstore hx hb hd hL.2 (by have := hL.1; omega) rfl (fun L' hL' => ?_)
      exact k L' H locs ad (LR_st2 (L := L) (x := .inr (.inr (.inr a))) hL.1 hc.2 hL') hw hh hS (fun _ _ => rfl) (oks_tl hst) (oks_set (oks_set hls n (oks_hd hst)) (n + 1) (show okv w none from trivial)) (Nat.le_refl _) (Nat.le_refl _) (Nat.le_refl _)
    · cases hn
  · cases hn
set_option maxHeartbeats 4000000 in
theorem st_iinc (n : Nat) (d : Int) : StY (.iinc n d) := by
  intro p l e R s m args below meth c H locs u0 s0 Q y G w w' ad pc pc' L ls ls' st st' ob hC hL hw hh hS hst hls htb hn hob hr k
  obtain ⟨hx, hb, hml, hown, hts, hlk, hF, hR, hl0, hnm, hy⟩ := hC
  obtain ⟨n9, hd, hlen, hmem, -⟩ := tbd hy htb
  have hd : decode (MB y) pc = .ok (_, n9) := hd
  have hlen := hlen rfl
  rw [hlen] at hd
  simp only [ins] at hn
  split at hn
  · rename_i a heq
    split at hn
    · rename_i hc
      simp only [n1, Option.some.injEq, Prod.mk.injEq] at hn
      obtain ⟨rfl, rfl, rfl, rfl, rfl⟩ := hn
      obtain ⟨kk9, hkk⟩ := List.getElem?_of_mem (lo_mem (ad := ad) (i := 0) heq)
      rw [Nat.zero_add] at hkk
      refine lv_iinc (v := Int32.ofInt (a + d)) hx hb hd hL.2 hkk (Int32.ofInt_add a d).symm (by have := hL.1; omega) rfl (fun L' hL' => ?_)
      exact k L' H locs ad (LR_st1 (L := L) (x := .inl (a + d)) hL.1 hc.2 hL') hw hh hS (fun _ _ => rfl) hst (oks_set hls n (show okv w (vI (a + d)) from hob.1)) (Nat.le_refl _) (Nat.le_refl _) (Nat.le_refl _)
    · cases hn
  · cases hn
set_option maxHeartbeats 4000000 in
theorem st_dup  : StY (.dup) := by
  intro p l e R s m args below meth c H locs u0 s0 Q y G w w' ad pc pc' L ls ls' st st' ob hC hL hw hh hS hst hls htb hn hob hr k
  obtain ⟨hx, hb, hml, hown, hts, hlk, hF, hR, hl0, hnm, hy⟩ := hC
  obtain ⟨n9, hd, hlen, hmem, -⟩ := tbd hy htb
  have hd : decode (MB y) pc = .ok (_, n9) := hd
  have hlen := hlen rfl
  rw [hlen] at hd
  simp only [ins] at hn
  split at hn
  · rename_i x st9
    split at hn
    · rename_i hc
      simp only [n1, Option.some.injEq, Prod.mk.injEq] at hn
      obtain ⟨rfl, rfl, rfl, rfl, rfl⟩ := hn
      refine lv_dup hx hb hd (cat_1 hc) ?_
      exact k L H locs ad hL hw hh hS (fun _ _ => rfl) (oks_cons (oks_hd hst) hst) hls (Nat.le_refl _) (Nat.le_refl _) (Nat.le_refl _)
    · cases hn
  · cases hn
set_option maxHeartbeats 4000000 in
theorem st_dup2  : StY (.dup2) := by
  intro p l e R s m args below meth c H locs u0 s0 Q y G w w' ad pc pc' L ls ls' st st' ob hC hL hw hh hS hst hls htb hn hob hr k
  obtain ⟨hx, hb, hml, hown, hts, hlk, hF, hR, hl0, hnm, hy⟩ := hC
  obtain ⟨n9, hd, hlen, hmem, -⟩ := tbd hy htb
  have hd : decode (MB y) pc = .ok (_, n9) := hd
  have hlen := hlen rfl
  rw [hlen] at hd
  simp only [ins] at hn
  split at hn
  · rename_i x z st9
    split at hn
    · rename_i hc
      simp only [n1, Option.some.injEq, Prod.mk.injEq] at hn
      obtain ⟨rfl, rfl, rfl, rfl, rfl⟩ := hn
      refine lv_dup2_11 hx hb hd (cat_1 hc.1) (cat_1 hc.2) ?_
      exact k L H locs ad hL hw hh hS (fun _ _ => rfl) (oks_cons (oks_hd hst) (oks_cons (oks_hd (oks_tl hst)) hst)) hls (Nat.le_refl _) (Nat.le_refl _) (Nat.le_refl _)
    · cases hn
  · cases hn
set_option maxHeartbeats 4000000 in
theorem st_pop  : StY (.pop) := by
  intro p l e R s m args below meth c H locs u0 s0 Q y G w w' ad pc pc' L ls ls' st st' ob hC hL hw hh hS hst hls htb hn hob hr k
  obtain ⟨hx, hb, hml, hown, hts, hlk, hF, hR, hl0, hnm, hy⟩ := hC
  obtain ⟨n9, hd, hlen, hmem, -⟩ := tbd hy htb
  have hd : decode (MB y) pc = .ok (_, n9) := hd
  have hlen := hlen rfl
  rw [hlen] at hd
  simp only [ins] at hn
  split at hn
  · rename_i x st9
    split at hn
    · rename_i hc
      simp only [n1, Option.some.injEq, Prod.mk.injEq] at hn
      obtain ⟨rfl, rfl, rfl, rfl, rfl⟩ := hn
      refine lv_pop hx hb hd (cat_1 hc) ?_
      exact k L H locs ad hL hw hh hS (fun _ _ => rfl) (oks_tl hst) hls (Nat.le_refl _) (Nat.le_refl _) (Nat.le_refl _)
    · cases hn
  · cases hn
set_option maxHeartbeats 4000000 in
theorem st_i2l  : StY (.i2l) := by
  intro p l e R s m args below meth c H locs u0 s0 Q y G w w' ad pc pc' L ls ls' st st' ob hC hL hw hh hS hst hls htb hn hob hr k
  obtain ⟨hx, hb, hml, hown, hts, hlk, hF, hR, hl0, hnm, hy⟩ := hC
  obtain ⟨n9, hd, hlen, hmem, -⟩ := tbd hy htb
  have hd : decode (MB y) pc = .ok (_, n9) := hd
  have hlen := hlen rfl
  rw [hlen] at hd
  simp only [ins] at hn
  split at hn
  · rename_i a st9
    simp only [n1, Option.some.injEq, Prod.mk.injEq] at hn
    obtain ⟨rfl, rfl, rfl, rfl, rfl⟩ := hn
    have ha : ir a := oks_hd hst
    refine lv_i2l (v := Int64.ofInt a) hx hb hd (by rw [← Int64.toInt_inj, Int32.toInt_toInt64, oi_t ha, Int64.toInt_ofInt_of_le (by unfold ir at ha; omega) (by unfold ir at ha; omega)]) ?_
    exact k L H locs ad hL hw hh hS (fun _ _ => rfl) (oks_cons (show okv w (vL a) from trivial) (oks_tl hst)) hls (Nat.le_refl _) (Nat.le_refl _) (Nat.le_refl _)
  · cases hn
set_option maxHeartbeats 4000000 in
theorem st_i2d  : StY (.i2d) := by
  intro p l e R s m args below meth c H locs u0 s0 Q y G w w' ad pc pc' L ls ls' st st' ob hC hL hw hh hS hst hls htb hn hob hr k
  obtain ⟨hx, hb, hml, hown, hts, hlk, hF, hR, hl0, hnm, hy⟩ := hC
  obtain ⟨n9, hd, hlen, hmem, -⟩ := tbd hy htb
  have hd : decode (MB y) pc = .ok (_, n9) := hd
  have hlen := hlen rfl
  rw [hlen] at hd
  simp only [ins] at hn
  split at hn
  · rename_i a st9
    simp only [n1, Option.some.injEq, Prod.mk.injEq] at hn
    obtain ⟨rfl, rfl, rfl, rfl, rfl⟩ := hn
    refine lv_i2d hx hb hd ?_
    exact k L H locs ad hL hw hh hS (fun _ _ => rfl) (oks_cons (show okv w (vD (FP.i2d (Int32.ofInt a))) from trivial) (oks_tl hst)) hls (Nat.le_refl _) (Nat.le_refl _) (Nat.le_refl _)
  · cases hn
set_option maxHeartbeats 4000000 in
theorem st_ladd  : StY (.ladd) := by
  intro p l e R s m args below meth c H locs u0 s0 Q y G w w' ad pc pc' L ls ls' st st' ob hC hL hw hh hS hst hls htb hn hob hr k
  obtain ⟨hx, hb, hml, hown, hts, hlk, hF, hR, hl0, hnm, hy⟩ := hC
  obtain ⟨n9, hd, hlen, hmem, -⟩ := tbd hy htb
  have hd : decode (MB y) pc = .ok (_, n9) := hd
  have hlen := hlen rfl
  rw [hlen] at hd
  simp only [ins] at hn
  split at hn
  · rename_i b a st9
    simp only [n1, Option.some.injEq, Prod.mk.injEq] at hn
    obtain ⟨rfl, rfl, rfl, rfl, rfl⟩ := hn
    refine lv_ladd hx hb hd ?_
    rw [← Int64.ofInt_add]
    exact k L H locs ad hL hw hh hS (fun _ _ => rfl) (oks_cons (show okv w (vL (a + b)) from trivial) (oks_tl (oks_tl hst))) hls (Nat.le_refl _) (Nat.le_refl _) (Nat.le_refl _)
  · cases hn
set_option maxHeartbeats 4000000 in
theorem st_lmul  : StY (.lmul) := by
  intro p l e R s m args below meth c H locs u0 s0 Q y G w w' ad pc pc' L ls ls' st st' ob hC hL hw hh hS hst hls htb hn hob hr k
  obtain ⟨hx, hb, hml, hown, hts, hlk, hF, hR, hl0, hnm, hy⟩ := hC
  obtain ⟨n9, hd, hlen, hmem, -⟩ := tbd hy htb
  have hd : decode (MB y) pc = .ok (_, n9) := hd
  have hlen := hlen rfl
  rw [hlen] at hd
  simp only [ins] at hn
  split at hn
  · rename_i b a st9
    simp only [n1, Option.some.injEq, Prod.mk.injEq] at hn
    obtain ⟨rfl, rfl, rfl, rfl, rfl⟩ := hn
    refine lv_lmul hx hb hd ?_
    rw [← Int64.ofInt_mul]
    exact k L H locs ad hL hw hh hS (fun _ _ => rfl) (oks_cons (show okv w (vL (a * b)) from trivial) (oks_tl (oks_tl hst))) hls (Nat.le_refl _) (Nat.le_refl _) (Nat.le_refl _)
  · cases hn
set_option maxHeartbeats 4000000 in
theorem st_lcmp  : StY (.lcmp) := by
  intro p l e R s m args below meth c H locs u0 s0 Q y G w w' ad pc pc' L ls ls' st st' ob hC hL hw hh hS hst hls htb hn hob hr k
  obtain ⟨hx, hb, hml, hown, hts, hlk, hF, hR, hl0, hnm, hy⟩ := hC
  obtain ⟨n9, hd, hlen, hmem, -⟩ := tbd hy htb
  have hd : decode (MB y) pc = .ok (_, n9) := hd
  have hlen := hlen rfl
  rw [hlen] at hd
  simp only [ins] at hn
  split at hn
  · rename_i b a st9
    simp only [n1, Option.some.injEq, Prod.mk.injEq] at hn
    obtain ⟨rfl, rfl, rfl, rfl, rfl⟩ := hn
    refine W.lcmp hx hb hd ?_
    have h9 : Int32.ofInt (lC a b) = lg_cmp (Int64.ofInt a) (Int64.ofInt b) := oi_of _
    rw [← h9]
    exact k L H locs ad hL hw hh hS (fun _ _ => rfl) (oks_cons (show okv w (vI (lC a b)) from ir_of _) (oks_tl (oks_tl hst))) hls (Nat.le_refl _) (Nat.le_refl _) (Nat.le_refl _)
  · cases hn
set_option maxHeartbeats 4000000 in
theorem st_ddiv  : StY (.ddiv) := by
  intro p l e R s m args below meth c H locs u0 s0 Q y G w w' ad pc pc' L ls ls' st st' ob hC hL hw hh hS hst hls htb hn hob hr k
  obtain ⟨hx, hb, hml, hown, hts, hlk, hF, hR, hl0, hnm, hy⟩ := hC
  obtain ⟨n9, hd, hlen, hmem, -⟩ := tbd hy htb
  have hd : decode (MB y) pc = .ok (_, n9) := hd
  have hlen := hlen rfl
  rw [hlen] at hd
  simp only [ins] at hn
  split at hn
  · rename_i b a st9
    simp only [n1, Option.some.injEq, Prod.mk.injEq] at hn
    obtain ⟨rfl, rfl, rfl, rfl, rfl⟩ := hn
    refine lv_ddiv hx hb hd hob.1 ?_
    exact k L H locs ad hL hw hh hS (fun _ _ => rfl) (oks_cons (show okv w (vD (FP.ddiv a b)) from trivial) (oks_tl (oks_tl hst))) hls (Nat.le_refl _) (Nat.le_refl _) (Nat.le_refl _)
  · cases hn
set_option maxHeartbeats 4000000 in
theorem st_dcmp (o : CmpOp) : StY (.dcmp o) := by
  intro p l e R s m args below meth c H locs u0 s0 Q y G w w' ad pc pc' L ls ls' st st' ob hC hL hw hh hS hst hls htb hn hob hr k
  obtain ⟨hx, hb, hml, hown, hts, hlk, hF, hR, hl0, hnm, hy⟩ := hC
  obtain ⟨n9, hd, hlen, hmem, -⟩ := tbd hy htb
  have hd : decode (MB y) pc = .ok (_, n9) := hd
  have hlen := hlen rfl
  rw [hlen] at hd
  simp only [ins] at hn
  split at hn
  · rename_i b a st9
    simp only [n1, Option.some.injEq, Prod.mk.injEq] at hn
    obtain ⟨rfl, rfl, rfl, rfl, rfl⟩ := hn
    refine lv_dcmp hx hb hd ?_
    have h9 : Int32.ofInt (dC a b o) = Op.cmpValue (FP.dcmp a b) o := oi_of _
    rw [← h9]
    exact k L H locs ad hL hw hh hS (fun _ _ => rfl) (oks_cons (show okv w (vI (dC a b o)) from ir_of _) (oks_tl (oks_tl hst))) hls (Nat.le_refl _) (Nat.le_refl _) (Nat.le_refl _)
  · cases hn
set_option maxHeartbeats 4000000 in
theorem st_iadd  : StY (.iadd) := by
  intro p l e R s m args below meth c H locs u0 s0 Q y G w w' ad pc pc' L ls ls' st st' ob hC hL hw hh hS hst hls htb hn hob hr k
  obtain ⟨hx, hb, hml, hown, hts, hlk, hF, hR, hl0, hnm, hy⟩ := hC
  obtain ⟨n9, hd, hlen, hmem, -⟩ := tbd hy htb
  have hd : decode (MB y) pc = .ok (_, n9) := hd
  have hlen := hlen rfl
  rw [hlen] at hd
  simp only [ins] at hn
  split at hn
  · rename_i b a st9
    simp only [bop] at hn
    simp only [n1, Option.some.injEq, Prod.mk.injEq] at hn
    obtain ⟨rfl, rfl, rfl, rfl, rfl⟩ := hn
    have ha : ir a := oks_hd (oks_tl hst)
    have hb9 : ir b := oks_hd hst
    refine lv_iadd hx hb hd ?_
    rw [← Int32.ofInt_add]
    exact k L H locs ad hL hw hh hS (fun _ _ => rfl) (oks_cons (show okv w (vI (a + b)) from hob.1) (oks_tl (oks_tl hst))) hls (Nat.le_refl _) (Nat.le_refl _) (Nat.le_refl _)
  · cases hn
set_option maxHeartbeats 4000000 in
theorem st_isub  : StY (.isub) := by
  intro p l e R s m args below meth c H locs u0 s0 Q y G w w' ad pc pc' L ls ls' st st' ob hC hL hw hh hS hst hls htb hn hob hr k
  obtain ⟨hx, hb, hml, hown, hts, hlk, hF, hR, hl0, hnm, hy⟩ := hC
  obtain ⟨n9, hd, hlen, hmem, -⟩ := tbd hy htb
  have hd : decode (MB y) pc = .ok (_, n9) := hd
  have hlen := hlen rfl
  rw [hlen] at hd
  simp only [ins] at hn
  split at hn
  · rename_i b a st9
    simp only [bop] at hn
    simp only [n1, Option.some.injEq, Prod.mk.injEq] at hn
    obtain ⟨rfl, rfl, rfl, rfl, rfl⟩ := hn
    have ha : ir a := oks_hd (oks_tl hst)
    have hb9 : ir b := oks_hd hst
    refine lv_isub hx hb hd ?_
    rw [← Int32.ofInt_sub]
    exact k L H locs ad hL hw hh hS (fun _ _ => rfl) (oks_cons (show okv w (vI (a - b)) from hob.1) (oks_tl (oks_tl hst))) hls (Nat.le_refl _) (Nat.le_refl _) (Nat.le_refl _)
  · cases hn
set_option maxHeartbeats 4000000 in
theorem st_imul  : StY (.imul) := by
  intro p l e R s m args below meth c H locs u0 s0 Q y G w w' ad pc pc' L ls ls' st st' ob hC hL hw hh hS hst hls htb hn hob hr k
  obtain ⟨hx, hb, hml, hown, hts, hlk, hF, hR, hl0, hnm, hy⟩ := hC
  obtain ⟨n9, hd, hlen, hmem, -⟩ := tbd hy htb
  have hd : decode (MB y) pc = .ok (_, n9) := hd
  have hlen := hlen rfl
  rw [hlen] at hd
  simp only [ins] at hn
  split at hn
  · rename_i b a st9
    simp only [bop] at hn
    simp only [n1, Option.some.injEq, Prod.mk.injEq] at hn
    obtain ⟨rfl, rfl, rfl, rfl, rfl⟩ := hn
    have ha : ir a := oks_hd (oks_tl hst)
    have hb9 : ir b := oks_hd hst
    refine lv_imul hx hb hd ?_
    rw [← Int32.ofInt_mul]
    exact k L H locs ad hL hw hh hS (fun _ _ => rfl) (oks_cons (show okv w (vI (a * b)) from hob.1) (oks_tl (oks_tl hst))) hls (Nat.le_refl _) (Nat.le_refl _) (Nat.le_refl _)
  · cases hn
set_option maxHeartbeats 4000000 in
theorem st_fmul  : StY (.fmul) := by
  intro p l e R s m args below meth c H locs u0 s0 Q y G w w' ad pc pc' L ls ls' st st' ob hC hL hw hh hS hst hls htb hn hob hr k
  obtain ⟨hx, hb, hml, hown, hts, hlk, hF, hR, hl0, hnm, hy⟩ := hC
  obtain ⟨n9, hd, hlen, hmem, -⟩ := tbd hy htb
  have hd : decode (MB y) pc = .ok (_, n9) := hd
  have hlen := hlen rfl
  rw [hlen] at hd
  simp only [ins] at hn
  split at hn
  · rename_i b a st9
    simp only [bop] at hn
    simp only [n1, Option.some.injEq, Prod.mk.injEq] at hn
    obtain ⟨rfl, rfl, rfl, rfl, rfl⟩ := hn
    have ha : ir a := oks_hd (oks_tl hst)
    have hb9 : ir b := oks_hd hst
    refine lv_imul hx hb hd ?_
    rw [← show Int32.ofInt (iM a b) = Int32.ofInt a * Int32.ofInt b from oi_of _]
    exact k L H locs ad hL hw hh hS (fun _ _ => rfl) (oks_cons (show okv w (vI (iM a b)) from ir_of _) (oks_tl (oks_tl hst))) hls (Nat.le_refl _) (Nat.le_refl _) (Nat.le_refl _)
  · cases hn
set_option maxHeartbeats 4000000 in
theorem st_iand  : StY (.iand) := by
  intro p l e R s m args below meth c H locs u0 s0 Q y G w w' ad pc pc' L ls ls' st st' ob hC hL hw hh hS hst hls htb hn hob hr k
  obtain ⟨hx, hb, hml, hown, hts, hlk, hF, hR, hl0, hnm, hy⟩ := hC
  obtain ⟨n9, hd, hlen, hmem, -⟩ := tbd hy htb
  have hd : decode (MB y) pc = .ok (_, n9) := hd
  have hlen := hlen rfl
  rw [hlen] at hd
  simp only [ins] at hn
  split at hn
  · rename_i b a st9
    simp only [bop] at hn
    simp only [n1, Option.some.injEq, Prod.mk.injEq] at hn
    obtain ⟨rfl, rfl, rfl, rfl, rfl⟩ := hn
    have ha : ir a := oks_hd (oks_tl hst)
    have hb9 : ir b := oks_hd hst
    refine lv_iand hx hb hd ?_
    rw [← show Int32.ofInt (iA a b) = Int32.ofInt a &&& Int32.ofInt b from oi_of _]
    exact k L H locs ad hL hw hh hS (fun _ _ => rfl) (oks_cons (show okv w (vI (iA a b)) from ir_of _) (oks_tl (oks_tl hst))) hls (Nat.le_refl _) (Nat.le_refl _) (Nat.le_refl _)
  · cases hn
set_option maxHeartbeats 4000000 in
theorem st_ior  : StY (.ior) := by
  intro p l e R s m args below meth c H locs u0 s0 Q y G w w' ad pc pc' L ls ls' st st' ob hC hL hw hh hS hst hls htb hn hob hr k
  obtain ⟨hx, hb, hml, hown, hts, hlk, hF, hR, hl0, hnm, hy⟩ := hC
  obtain ⟨n9, hd, hlen, hmem, -⟩ := tbd hy htb
  have hd : decode (MB y) pc = .ok (_, n9) := hd
  have hlen := hlen rfl
  rw [hlen] at hd
  simp only [ins] at hn
  split at hn
  · rename_i b a st9
    simp only [bop] at hn
    simp only [n1, Option.some.injEq, Prod.mk.injEq] at hn
    obtain ⟨rfl, rfl, rfl, rfl, rfl⟩ := hn
    have ha : ir a := oks_hd (oks_tl hst)
    have hb9 : ir b := oks_hd hst
    refine lv_ior hx hb hd ?_
    rw [← show Int32.ofInt (iO a b) = Int32.ofInt a ||| Int32.ofInt b from oi_of _]
    exact k L H locs ad hL hw hh hS (fun _ _ => rfl) (oks_cons (show okv w (vI (iO a b)) from ir_of _) (oks_tl (oks_tl hst))) hls (Nat.le_refl _) (Nat.le_refl _) (Nat.le_refl _)
  · cases hn
set_option maxHeartbeats 4000000 in
theorem st_ixor  : StY (.ixor) := by
  intro p l e R s m args below meth c H locs u0 s0 Q y G w w' ad pc pc' L ls ls' st st' ob hC hL hw hh hS hst hls htb hn hob hr k
  obtain ⟨hx, hb, hml, hown, hts, hlk, hF, hR, hl0, hnm, hy⟩ := hC
  obtain ⟨n9, hd, hlen, hmem, -⟩ := tbd hy htb
  have hd : decode (MB y) pc = .ok (_, n9) := hd
  have hlen := hlen rfl
  rw [hlen] at hd
  simp only [ins] at hn
  split at hn
  · rename_i b a st9
    simp only [bop] at hn
    simp only [n1, Option.some.injEq, Prod.mk.injEq] at hn
    obtain ⟨rfl, rfl, rfl, rfl, rfl⟩ := hn
    have ha : ir a := oks_hd (oks_tl hst)
    have hb9 : ir b := oks_hd hst
    refine lv_ixor hx hb hd ?_
    rw [← show Int32.ofInt (iX a b) = Int32.ofInt a ^^^ Int32.ofInt b from oi_of _]
    exact k L H locs ad hL hw hh hS (fun _ _ => rfl) (oks_cons (show okv w (vI (iX a b)) from ir_of _) (oks_tl (oks_tl hst))) hls (Nat.le_refl _) (Nat.le_refl _) (Nat.le_refl _)
  · cases hn
set_option maxHeartbeats 4000000 in
theorem st_ishl  : StY (.ishl) := by
  intro p l e R s m args below meth c H locs u0 s0 Q y G w w' ad pc pc' L ls ls' st st' ob hC hL hw hh hS hst hls htb hn hob hr k
  obtain ⟨hx, hb, hml, hown, hts, hlk, hF, hR, hl0, hnm, hy⟩ := hC
  obtain ⟨n9, hd, hlen, hmem, -⟩ := tbd hy htb
  have hd : decode (MB y) pc = .ok (_, n9) := hd
  have hlen := hlen rfl
  rw [hlen] at hd
  simp only [ins] at hn
  split at hn
  · rename_i b a st9
    simp only [bop] at hn
    simp only [n1, Option.some.injEq, Prod.mk.injEq] at hn
    obtain ⟨rfl, rfl, rfl, rfl, rfl⟩ := hn
    have ha : ir a := oks_hd (oks_tl hst)
    have hb9 : ir b := oks_hd hst
    refine lv_ishl hx hb hd ?_
    rw [← show Int32.ofInt (iL a b) = Int32.ofInt a <<< (Int32.ofInt b &&& 31) from oi_of _]
    exact k L H locs ad hL hw hh hS (fun _ _ => rfl) (oks_cons (show okv w (vI (iL a b)) from ir_of _) (oks_tl (oks_tl hst))) hls (Nat.le_refl _) (Nat.le_refl _) (Nat.le_refl _)
  · cases hn
set_option maxHeartbeats 4000000 in
theorem st_ishr  : StY (.ishr) := by
  intro p l e R s m args below meth c H locs u0 s0 Q y G w w' ad pc pc' L ls ls' st st' ob hC hL hw hh hS hst hls htb hn hob hr k
  obtain ⟨hx, hb, hml, hown, hts, hlk, hF, hR, hl0, hnm, hy⟩ := hC
  obtain ⟨n9, hd, hlen, hmem, -⟩ := tbd hy htb
  have hd : decode (MB y) pc = .ok (_, n9) := hd
  have hlen := hlen rfl
  rw [hlen] at hd
  simp only [ins] at hn
  split at hn
  · rename_i b a st9
    simp only [bop] at hn
    simp only [n1, Option.some.injEq, Prod.mk.injEq] at hn
    obtain ⟨rfl, rfl, rfl, rfl, rfl⟩ := hn
    have ha : ir a := oks_hd (oks_tl hst)
    have hb9 : ir b := oks_hd hst
    refine lv_ishr hx hb hd ?_
    rw [← show Int32.ofInt (iR a b) = Int32.ofInt a >>> (Int32.ofInt b &&& 31) from oi_of _]
    exact k L H locs ad hL hw hh hS (fun _ _ => rfl) (oks_cons (show okv w (vI (iR a b)) from ir_of _) (oks_tl (oks_tl hst))) hls (Nat.le_refl _) (Nat.le_refl _) (Nat.le_refl _)
  · cases hn
set_option maxHeartbeats 4000000 in
theorem st_iushr  : StY (.iushr) := by
  intro p l e R s m args below meth c H locs u0 s0 Q y G w w' ad pc pc' L ls ls' st st' ob hC hL hw hh hS hst hls htb hn hob hr k
  obtain ⟨hx, hb, hml, hown, hts, hlk, hF, hR, hl0, hnm, hy⟩ := hC
  obtain ⟨n9, hd, hlen, hmem, -⟩ := tbd hy htb
  have hd : decode (MB y) pc = .ok (_, n9) := hd
  have hlen := hlen rfl
  rw [hlen] at hd
  simp only [ins] at hn
  split at hn
  · rename_i b a st9
    simp only [bop] at hn
    simp only [n1, Option.some.injEq, Prod.mk.injEq] at hn
    obtain ⟨rfl, rfl, rfl, rfl, rfl⟩ := hn
    have ha : ir a := oks_hd (oks_tl hst)
    have hb9 : ir b := oks_hd hst
    refine lv_iushr (v := Int32.ofInt (iU a b)) hx hb hd (oi_of _).symm ?_
    skip
    exact k L H locs ad hL hw hh hS (fun _ _ => rfl) (oks_cons (show okv w (vI (iU a b)) from ir_of _) (oks_tl (oks_tl hst))) hls (Nat.le_refl _) (Nat.le_refl _) (Nat.le_refl _)
  · cases hn
set_option maxHeartbeats 4000000 in
theorem st_idiv  : StY (.idiv) := by
  intro p l e R s m args below meth c H locs u0 s0 Q y G w w' ad pc pc' L ls ls' st st' ob hC hL hw hh hS hst hls htb hn hob hr k
  obtain ⟨hx, hb, hml, hown, hts, hlk, hF, hR, hl0, hnm, hy⟩ := hC
  obtain ⟨n9, hd, hlen, hmem, -⟩ := tbd hy htb
  have hd : decode (MB y) pc = .ok (_, n9) := hd
  have hlen := hlen rfl
  rw [hlen] at hd
  simp only [ins] at hn
  split at hn
  · rename_i b a st9
    simp only [bop] at hn
    simp only [n1, Option.some.injEq, Prod.mk.injEq] at hn
    obtain ⟨rfl, rfl, rfl, rfl, rfl⟩ := hn
    have ha : ir a := oks_hd (oks_tl hst)
    have hb9 : ir b := oks_hd hst
    refine lv_idiv hx hb hd (by intro h; have h9 := (oi_eq hb9 ir0).mp h; have := hob.1; omega) ?_
    rw [oi_div ha hb9 hob.1.1 hob.1.2]
    exact k L H locs ad hL hw hh hS (fun _ _ => rfl) (oks_cons (show okv w (vI (a / b)) from ir_div ha hob.1.1 hob.1.2) (oks_tl (oks_tl hst))) hls (Nat.le_refl _) (Nat.le_refl _) (Nat.le_refl _)
  · cases hn
set_option maxHeartbeats 4000000 in
theorem st_irem  : StY (.irem) := by
  intro p l e R s m args below meth c H locs u0 s0 Q y G w w' ad pc pc' L ls ls' st st' ob hC hL hw hh hS hst hls htb hn hob hr k
  obtain ⟨hx, hb, hml, hown, hts, hlk, hF, hR, hl0, hnm, hy⟩ := hC
  obtain ⟨n9, hd, hlen, hmem, -⟩ := tbd hy htb
  have hd : decode (MB y) pc = .ok (_, n9) := hd
  have hlen := hlen rfl
  rw [hlen] at hd
  simp only [ins] at hn
  split at hn
  · rename_i b a st9
    simp only [bop] at hn
    simp only [n1, Option.some.injEq, Prod.mk.injEq] at hn
    obtain ⟨rfl, rfl, rfl, rfl, rfl⟩ := hn
    have ha : ir a := oks_hd (oks_tl hst)
    have hb9 : ir b := oks_hd hst
    refine lv_irem hx hb hd (by intro h; have h9 := (oi_eq hb9 ir0).mp h; have := hob.1; omega) ?_
    rw [oi_rem ha hb9 hob.1.1 hob.1.2]
    exact k L H locs ad hL hw hh hS (fun _ _ => rfl) (oks_cons (show okv w (vI (a % b)) from ir_rem ha hb9 hob.1.1 hob.1.2) (oks_tl (oks_tl hst))) hls (Nat.le_refl _) (Nat.le_refl _) (Nat.le_refl _)
  · cases hn
set_option maxHeartbeats 4000000 in
theorem st_goto (t : Int) : StY (.goto t) := by
  intro p l e R s m args below meth c H locs u0 s0 Q y G w w' ad pc pc' L ls ls' st st' ob hC hL hw hh hS hst hls htb hn hob hr k
  obtain ⟨hx, hb, hml, hown, hts, hlk, hF, hR, hl0, hnm, hy⟩ := hC
  obtain ⟨n9, hd, hlen, hmem, -⟩ := tbd hy htb
  have hd : decode (MB y) pc = .ok (_, n9) := hd
  have hlen := hlen rfl
  rw [hlen] at hd
  simp only [ins] at hn
  simp only [n1, Option.some.injEq, Prod.mk.injEq] at hn
  obtain ⟨rfl, rfl, rfl, rfl, rfl⟩ := hn
  have ht : 0 ≤ t := (by have h := hmem; simp only [mem, decide_eq_true_eq] at h; exact h)
  refine lv_goto (tgt := t.toNat) hx hb hd (by rw [Int.toNat_of_nonneg ht]; omega) ?_
  exact k L H locs ad hL hw hh hS (fun _ _ => rfl) hst hls (Nat.le_refl _) (Nat.le_refl _) (Nat.le_refl _)
set_option maxHeartbeats 4000000 in
theorem st_icmp (q : Jvm.ClassFile.Cond) (t : Int) : StY (.if_icmp q t) := by
  intro p l e R s m args below meth c H locs u0 s0 Q y G w w' ad pc pc' L ls ls' st st' ob hC hL hw hh hS hst hls htb hn hob hr k
  obtain ⟨hx, hb, hml, hown, hts, hlk, hF, hR, hl0, hnm, hy⟩ := hC
  obtain ⟨n9, hd, hlen, hmem, -⟩ := tbd hy htb
  have hd : decode (MB y) pc = .ok (_, n9) := hd
  have hlen := hlen rfl
  rw [hlen] at hd
  simp only [ins] at hn
  split at hn
  · rename_i b a st9
    simp only [n1, Option.some.injEq, Prod.mk.injEq] at hn
    obtain ⟨rfl, rfl, rfl, rfl, rfl⟩ := hn
    have ha : ir a := oks_hd (oks_tl hst)
    have hb9 : ir b := oks_hd hst
    have ht : 0 ≤ t := (by have h := hmem; simp only [mem, decide_eq_true_eq] at h; exact h)
    have htg : (pc : Int) + (t - pc) = (t.toNat : Int) := by rw [Int.toNat_of_nonneg ht]; omega
    cases q
    · refine lv_icmp_eq (tgt := t.toNat) hx hb hd htg (fun h => ?_) (fun h => ?_)
      · have h9 : cnd .eq a b = true := by simp only [cnd, decide_eq_true_eq]; (simp only [oi_eq ha hb9, oi_lt ha hb9, oi_le ha hb9, oi_lt hb9 ha, oi_le hb9 ha, ne_eq, ge_iff_le, gt_iff_lt, Int.not_le, Int.not_lt] at h ⊢; first | exact h | omega)
        rw [if_pos h9] at k
        exact k L H locs ad hL hw hh hS (fun _ _ => rfl) (oks_tl (oks_tl hst)) hls (Nat.le_refl _) (Nat.le_refl _) (Nat.le_refl _)
      · have h9 : ¬ cnd .eq a b = true := by simp only [cnd, decide_eq_true_eq]; (simp only [oi_eq ha hb9, oi_lt ha hb9, oi_le ha hb9, oi_lt hb9 ha, oi_le hb9 ha, ne_eq, ge_iff_le, gt_iff_lt, Int.not_le, Int.not_lt] at h ⊢; first | exact h | omega)
        rw [if_neg h9] at k
        exact k L H locs ad hL hw hh hS (fun _ _ => rfl) (oks_tl (oks_tl hst)) hls (Nat.le_refl _) (Nat.le_refl _) (Nat.le_refl _)
    · refine lv_icmp_ne (tgt := t.toNat) hx hb hd htg (fun h => ?_) (fun h => ?_)
      · have h9 : cnd .ne a b = true := by simp only [cnd, decide_eq_true_eq]; (simp only [oi_eq ha hb9, oi_lt ha hb9, oi_le ha hb9, oi_lt hb9 ha, oi_le hb9 ha, ne_eq, ge_iff_le, gt_iff_lt, Int.not_le, Int.not_lt] at h ⊢; first | exact h | omega)
        rw [if_pos h9] at k
        exact k L H locs ad hL hw hh hS (fun _ _ => rfl) (oks_tl (oks_tl hst)) hls (Nat.le_refl _) (Nat.le_refl _) (Nat.le_refl _)
      · have h9 : ¬ cnd .ne a b = true := by simp only [cnd, decide_eq_true_eq]; (simp only [oi_eq ha hb9, oi_lt ha hb9, oi_le ha hb9, oi_lt hb9 ha, oi_le hb9 ha, ne_eq, ge_iff_le, gt_iff_lt, Int.not_le, Int.not_lt] at h ⊢; first | exact h | omega)
        rw [if_neg h9] at k
        exact k L H locs ad hL hw hh hS (fun _ _ => rfl) (oks_tl (oks_tl hst)) hls (Nat.le_refl _) (Nat.le_refl _) (Nat.le_refl _)
    · refine lv_icmp_lt (tgt := t.toNat) hx hb hd htg (fun h => ?_) (fun h => ?_)
      · have h9 : cnd .lt a b = true := by simp only [cnd, decide_eq_true_eq]; (simp only [oi_eq ha hb9, oi_lt ha hb9, oi_le ha hb9, oi_lt hb9 ha, oi_le hb9 ha, ne_eq, ge_iff_le, gt_iff_lt, Int.not_le, Int.not_lt] at h ⊢; first | exact h | omega)
        rw [if_pos h9] at k
        exact k L H locs ad hL hw hh hS (fun _ _ => rfl) (oks_tl (oks_tl hst)) hls (Nat.le_refl _) (Nat.le_refl _) (Nat.le_refl _)
      · have h9 : ¬ cnd .lt a b = true := by simp only [cnd, decide_eq_true_eq]; (simp only [oi_eq ha hb9, oi_lt ha hb9, oi_le ha hb9, oi_lt hb9 ha, oi_le hb9 ha, ne_eq, ge_iff_le, gt_iff_lt, Int.not_le, Int.not_lt] at h ⊢; first | exact h | omega)
        rw [if_neg h9] at k
        exact k L H locs ad hL hw hh hS (fun _ _ => rfl) (oks_tl (oks_tl hst)) hls (Nat.le_refl _) (Nat.le_refl _) (Nat.le_refl _)
    · refine lv_icmp_ge (tgt := t.toNat) hx hb hd htg (fun h => ?_) (fun h => ?_)
      · have h9 : cnd .ge a b = true := by simp only [cnd, decide_eq_true_eq]; (simp only [oi_eq ha hb9, oi_lt ha hb9, oi_le ha hb9, oi_lt hb9 ha, oi_le hb9 ha, ne_eq, ge_iff_le, gt_iff_lt, Int.not_le, Int.not_lt] at h ⊢; first | exact h | omega)
        rw [if_pos h9] at k
        exact k L H locs ad hL hw hh hS (fun _ _ => rfl) (oks_tl (oks_tl hst)) hls (Nat.le_refl _) (Nat.le_refl _) (Nat.le_refl _)
      · have h9 : ¬ cnd .ge a b = true := by simp only [cnd, decide_eq_true_eq]; (simp only [oi_eq ha hb9, oi_lt ha hb9, oi_le ha hb9, oi_lt hb9 ha, oi_le hb9 ha, ne_eq, ge_iff_le, gt_iff_lt, Int.not_le, Int.not_lt] at h ⊢; first | exact h | omega)
        rw [if_neg h9] at k
        exact k L H locs ad hL hw hh hS (fun _ _ => rfl) (oks_tl (oks_tl hst)) hls (Nat.le_refl _) (Nat.le_refl _) (Nat.le_refl _)
    · refine lv_icmp_gt (tgt := t.toNat) hx hb hd htg (fun h => ?_) (fun h => ?_)
      · have h9 : cnd .gt a b = true := by simp only [cnd, decide_eq_true_eq]; (simp only [oi_eq ha hb9, oi_lt ha hb9, oi_le ha hb9, oi_lt hb9 ha, oi_le hb9 ha, ne_eq, ge_iff_le, gt_iff_lt, Int.not_le, Int.not_lt] at h ⊢; first | exact h | omega)
        rw [if_pos h9] at k
        exact k L H locs ad hL hw hh hS (fun _ _ => rfl) (oks_tl (oks_tl hst)) hls (Nat.le_refl _) (Nat.le_refl _) (Nat.le_refl _)
      · have h9 : ¬ cnd .gt a b = true := by simp only [cnd, decide_eq_true_eq]; (simp only [oi_eq ha hb9, oi_lt ha hb9, oi_le ha hb9, oi_lt hb9 ha, oi_le hb9 ha, ne_eq, ge_iff_le, gt_iff_lt, Int.not_le, Int.not_lt] at h ⊢; first | exact h | omega)
        rw [if_neg h9] at k
        exact k L H locs ad hL hw hh hS (fun _ _ => rfl) (oks_tl (oks_tl hst)) hls (Nat.le_refl _) (Nat.le_refl _) (Nat.le_refl _)
    · refine lv_icmp_le (tgt := t.toNat) hx hb hd htg (fun h => ?_) (fun h => ?_)
      · have h9 : cnd .le a b = true := by simp only [cnd, decide_eq_true_eq]; (simp only [oi_eq ha hb9, oi_lt ha hb9, oi_le ha hb9, oi_lt hb9 ha, oi_le hb9 ha, ne_eq, ge_iff_le, gt_iff_lt, Int.not_le, Int.not_lt] at h ⊢; first | exact h | omega)
        rw [if_pos h9] at k
        exact k L H locs ad hL hw hh hS (fun _ _ => rfl) (oks_tl (oks_tl hst)) hls (Nat.le_refl _) (Nat.le_refl _) (Nat.le_refl _)
      · have h9 : ¬ cnd .le a b = true := by simp only [cnd, decide_eq_true_eq]; (simp only [oi_eq ha hb9, oi_lt ha hb9, oi_le ha hb9, oi_lt hb9 ha, oi_le hb9 ha, ne_eq, ge_iff_le, gt_iff_lt, Int.not_le, Int.not_lt] at h ⊢; first | exact h | omega)
        rw [if_neg h9] at k
        exact k L H locs ad hL hw hh hS (fun _ _ => rfl) (oks_tl (oks_tl hst)) hls (Nat.le_refl _) (Nat.le_refl _) (Nat.le_refl _)
  · cases hn
set_option maxHeartbeats 4000000 in
theorem st_ifc (q : Jvm.ClassFile.Cond) (t : Int) : StY (.ifCond q t) := by
  intro p l e R s m args below meth c H locs u0 s0 Q y G w w' ad pc pc' L ls ls' st st' ob hC hL hw hh hS hst hls htb hn hob hr k
  obtain ⟨hx, hb, hml, hown, hts, hlk, hF, hR, hl0, hnm, hy⟩ := hC
  obtain ⟨n9, hd, hlen, hmem, -⟩ := tbd hy htb
  have hd : decode (MB y) pc = .ok (_, n9) := hd
  have hlen := hlen rfl
  rw [hlen] at hd
  simp only [ins] at hn
  split at hn
  · rename_i a st9
    simp only [n1, Option.some.injEq, Prod.mk.injEq] at hn
    obtain ⟨rfl, rfl, rfl, rfl, rfl⟩ := hn
    have ha : ir a := oks_hd hst
    have hb9 : ir 0 := ir0
    have ht : 0 ≤ t := (by have h := hmem; simp only [mem, decide_eq_true_eq] at h; exact h)
    have htg : (pc : Int) + (t - pc) = (t.toNat : Int) := by rw [Int.toNat_of_nonneg ht]; omega
    cases q
    · refine lv_if_eq (tgt := t.toNat) hx hb hd htg (fun h => ?_) (fun h => ?_)
      · have h9 : cnd .eq a 0 = true := by simp only [cnd, decide_eq_true_eq]; (simp only [show (0 : Int32) = Int32.ofInt 0 from rfl, oi_eq ha hb9, oi_lt ha hb9, oi_le ha hb9, oi_lt hb9 ha, oi_le hb9 ha, ne_eq, ge_iff_le, gt_iff_lt, Int.not_le, Int.not_lt] at h ⊢; first | exact h | omega)
        rw [if_pos h9] at k
        exact k L H locs ad hL hw hh hS (fun _ _ => rfl) (oks_tl hst) hls (Nat.le_refl _) (Nat.le_refl _) (Nat.le_refl _)
      · have h9 : ¬ cnd .eq a 0 = true := by simp only [cnd, decide_eq_true_eq]; (simp only [show (0 : Int32) = Int32.ofInt 0 from rfl, oi_eq ha hb9, oi_lt ha hb9, oi_le ha hb9, oi_lt hb9 ha, oi_le hb9 ha, ne_eq, ge_iff_le, gt_iff_lt, Int.not_le, Int.not_lt] at h ⊢; first | exact h | omega)
        rw [if_neg h9] at k
        exact k L H locs ad hL hw hh hS (fun _ _ => rfl) (oks_tl hst) hls (Nat.le_refl _) (Nat.le_refl _) (Nat.le_refl _)
    · refine lv_if_ne (tgt := t.toNat) hx hb hd htg (fun h => ?_) (fun h => ?_)
      · have h9 : cnd .ne a 0 = true := by simp only [cnd, decide_eq_true_eq]; (simp only [show (0 : Int32) = Int32.ofInt 0 from rfl, oi_eq ha hb9, oi_lt ha hb9, oi_le ha hb9, oi_lt hb9 ha, oi_le hb9 ha, ne_eq, ge_iff_le, gt_iff_lt, Int.not_le, Int.not_lt] at h ⊢; first | exact h | omega)
        rw [if_pos h9] at k
        exact k L H locs ad hL hw hh hS (fun _ _ => rfl) (oks_tl hst) hls (Nat.le_refl _) (Nat.le_refl _) (Nat.le_refl _)
      · have h9 : ¬ cnd .ne a 0 = true := by simp only [cnd, decide_eq_true_eq]; (simp only [show (0 : Int32) = Int32.ofInt 0 from rfl, oi_eq ha hb9, oi_lt ha hb9, oi_le ha hb9, oi_lt hb9 ha, oi_le hb9 ha, ne_eq, ge_iff_le, gt_iff_lt, Int.not_le, Int.not_lt] at h ⊢; first | exact h | omega)
        rw [if_neg h9] at k
        exact k L H locs ad hL hw hh hS (fun _ _ => rfl) (oks_tl hst) hls (Nat.le_refl _) (Nat.le_refl _) (Nat.le_refl _)
    · refine lv_if_lt (tgt := t.toNat) hx hb hd htg (fun h => ?_) (fun h => ?_)
      · have h9 : cnd .lt a 0 = true := by simp only [cnd, decide_eq_true_eq]; (simp only [show (0 : Int32) = Int32.ofInt 0 from rfl, oi_eq ha hb9, oi_lt ha hb9, oi_le ha hb9, oi_lt hb9 ha, oi_le hb9 ha, ne_eq, ge_iff_le, gt_iff_lt, Int.not_le, Int.not_lt] at h ⊢; first | exact h | omega)
        rw [if_pos h9] at k
        exact k L H locs ad hL hw hh hS (fun _ _ => rfl) (oks_tl hst) hls (Nat.le_refl _) (Nat.le_refl _) (Nat.le_refl _)
      · have h9 : ¬ cnd .lt a 0 = true := by simp only [cnd, decide_eq_true_eq]; (simp only [show (0 : Int32) = Int32.ofInt 0 from rfl, oi_eq ha hb9, oi_lt ha hb9, oi_le ha hb9, oi_lt hb9 ha, oi_le hb9 ha, ne_eq, ge_iff_le, gt_iff_lt, Int.not_le, Int.not_lt] at h ⊢; first | exact h | omega)
        rw [if_neg h9] at k
        exact k L H locs ad hL hw hh hS (fun _ _ => rfl) (oks_tl hst) hls (Nat.le_refl _) (Nat.le_refl _) (Nat.le_refl _)
    · refine lv_if_ge (tgt := t.toNat) hx hb hd htg (fun h => ?_) (fun h => ?_)
      · have h9 : cnd .ge a 0 = true := by simp only [cnd, decide_eq_true_eq]; (simp only [show (0 : Int32) = Int32.ofInt 0 from rfl, oi_eq ha hb9, oi_lt ha hb9, oi_le ha hb9, oi_lt hb9 ha, oi_le hb9 ha, ne_eq, ge_iff_le, gt_iff_lt, Int.not_le, Int.not_lt] at h ⊢; first | exact h | omega)
        rw [if_pos h9] at k
        exact k L H locs ad hL hw hh hS (fun _ _ => rfl) (oks_tl hst) hls (Nat.le_refl _) (Nat.le_refl _) (Nat.le_refl _)
      · have h9 : ¬ cnd .ge a 0 = true := by simp only [cnd, decide_eq_true_eq]; (simp only [show (0 : Int32) = Int32.ofInt 0 from rfl, oi_eq ha hb9, oi_lt ha hb9, oi_le ha hb9, oi_lt hb9 ha, oi_le hb9 ha, ne_eq, ge_iff_le, gt_iff_lt, Int.not_le, Int.not_lt] at h ⊢; first | exact h | omega)
        rw [if_neg h9] at k
        exact k L H locs ad hL hw hh hS (fun _ _ => rfl) (oks_tl hst) hls (Nat.le_refl _) (Nat.le_refl _) (Nat.le_refl _)
    · refine lv_if_gt (tgt := t.toNat) hx hb hd htg (fun h => ?_) (fun h => ?_)
      · have h9 : cnd .gt a 0 = true := by simp only [cnd, decide_eq_true_eq]; (simp only [show (0 : Int32) = Int32.ofInt 0 from rfl, oi_eq ha hb9, oi_lt ha hb9, oi_le ha hb9, oi_lt hb9 ha, oi_le hb9 ha, ne_eq, ge_iff_le, gt_iff_lt, Int.not_le, Int.not_lt] at h ⊢; first | exact h | omega)
        rw [if_pos h9] at k
        exact k L H locs ad hL hw hh hS (fun _ _ => rfl) (oks_tl hst) hls (Nat.le_refl _) (Nat.le_refl _) (Nat.le_refl _)
      · have h9 : ¬ cnd .gt a 0 = true := by simp only [cnd, decide_eq_true_eq]; (simp only [show (0 : Int32) = Int32.ofInt 0 from rfl, oi_eq ha hb9, oi_lt ha hb9, oi_le ha hb9, oi_lt hb9 ha, oi_le hb9 ha, ne_eq, ge_iff_le, gt_iff_lt, Int.not_le, Int.not_lt] at h ⊢; first | exact h | omega)
        rw [if_neg h9] at k
        exact k L H locs ad hL hw hh hS (fun _ _ => rfl) (oks_tl hst) hls (Nat.le_refl _) (Nat.le_refl _) (Nat.le_refl _)
    · refine lv_if_le (tgt := t.toNat) hx hb hd htg (fun h => ?_) (fun h => ?_)
      · have h9 : cnd .le a 0 = true := by simp only [cnd, decide_eq_true_eq]; (simp only [show (0 : Int32) = Int32.ofInt 0 from rfl, oi_eq ha hb9, oi_lt ha hb9, oi_le ha hb9, oi_lt hb9 ha, oi_le hb9 ha, ne_eq, ge_iff_le, gt_iff_lt, Int.not_le, Int.not_lt] at h ⊢; first | exact h | omega)
        rw [if_pos h9] at k
        exact k L H locs ad hL hw hh hS (fun _ _ => rfl) (oks_tl hst) hls (Nat.le_refl _) (Nat.le_refl _) (Nat.le_refl _)
      · have h9 : ¬ cnd .le a 0 = true := by simp only [cnd, decide_eq_true_eq]; (simp only [show (0 : Int32) = Int32.ofInt 0 from rfl, oi_eq ha hb9, oi_lt ha hb9, oi_le ha hb9, oi_lt hb9 ha, oi_le hb9 ha, ne_eq, ge_iff_le, gt_iff_lt, Int.not_le, Int.not_lt] at h ⊢; first | exact h | omega)
        rw [if_neg h9] at k
        exact k L H locs ad hL hw hh hS (fun _ _ => rfl) (oks_tl hst) hls (Nat.le_refl _) (Nat.le_refl _) (Nat.le_refl _)
  · cases hn
set_option maxHeartbeats 4000000 in
theorem st_ifnull (t : Int) : StY (.ifnull t) := by
  intro p l e R s m args below meth c H locs u0 s0 Q y G w w' ad pc pc' L ls ls' st st' ob hC hL hw hh hS hst hls htb hn hob hr k
  obtain ⟨hx, hb, hml, hown, hts, hlk, hF, hR, hl0, hnm, hy⟩ := hC
  obtain ⟨n9, hd, hlen, hmem, -⟩ := tbd hy htb
  have hd : decode (MB y) pc = .ok (_, n9) := hd
  have hlen := hlen rfl
  rw [hlen] at hd
  simp only [ins] at hn
  split at hn
  · rename_i a st9
    simp only [n1, Option.some.injEq, Prod.mk.injEq] at hn
    obtain ⟨rfl, rfl, rfl, rfl, rfl⟩ := hn
    refine lv_ifnull (x := ad a) hx hb hd ?_
    exact k L H locs ad hL hw hh hS (fun _ _ => rfl) (oks_tl hst) hls (Nat.le_refl _) (Nat.le_refl _) (Nat.le_refl _)
  · cases hn
set_option maxHeartbeats 4000000 in
theorem st_ifnonnull (t : Int) : StY (.ifnonnull t) := by
  intro p l e R s m args below meth c H locs u0 s0 Q y G w w' ad pc pc' L ls ls' st st' ob hC hL hw hh hS hst hls htb hn hob hr k
  obtain ⟨hx, hb, hml, hown, hts, hlk, hF, hR, hl0, hnm, hy⟩ := hC
  obtain ⟨n9, hd, hlen, hmem, -⟩ := tbd hy htb
  have hd : decode (MB y) pc = .ok (_, n9) := hd
  have hlen := hlen rfl
  rw [hlen] at hd
  simp only [ins] at hn
  split at hn
  · rename_i a st9
    simp only [n1, Option.some.injEq, Prod.mk.injEq] at hn
    obtain ⟨rfl, rfl, rfl, rfl, rfl⟩ := hn
    have ht : 0 ≤ t := (by have h := hmem; simp only [mem, decide_eq_true_eq] at h; exact h)
    refine lv_ifnonnull (x := ad a) (tgt := t.toNat) hx hb hd (by rw [Int.toNat_of_nonneg ht]; omega) ?_
    exact k L H locs ad hL hw hh hS (fun _ _ => rfl) (oks_tl hst) hls (Nat.le_refl _) (Nat.le_refl _) (Nat.le_refl _)
  · cases hn
