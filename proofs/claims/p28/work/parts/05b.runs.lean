/-! the small machine's runs -/
def cnd (c : Jvm.ClassFile.Cond) (a b : Int) : Bool := match c with
  | .eq => decide (a = b) | .ne => decide (a ≠ b) | .lt => decide (a < b) | .ge => decide (b ≤ a) | .gt => decide (b < a) | .le => decide (a ≤ b)
abbrev Nxt := Option (Option Prop × (Nat × (List V × (List V × Wd))))
def n1 (ob : Option Prop) (pc : Nat) (ls st : List V) (w : Wd) : Nxt := some (ob, (pc, (ls, (st, w))))
/-- two ints on the stack to one -/
def bop (i : Instr) (a b : Int) : Option (Option Prop × Int) := match i with
  | .iadd => some (some (ir (a + b)), a + b)
  | .isub => some (some (ir (a - b)), a - b)
  | .imul => some (some (ir (a * b)), a * b)
  | .fmul => some (none, iM a b)
  | .idiv => some (some (0 ≤ a ∧ 0 < b), a / b)
  | .irem => some (some (0 ≤ a ∧ 0 < b), a % b)
  | .iand => some (none, iA a b)
  | .ior => some (none, iO a b)
  | .ixor => some (none, iX a b)
  | .ishl => some (none, iL a b)
  | .ishr => some (none, iR a b)
  | .iushr => some (none, iU a b)
  | _ => none
/-- a constant int -/
def kst (i : Instr) : Option Int := match i with
  | .iconst n => some n
  | .bipush n => some n
  | .sipush n => some n
  | .ldc n => some (sx n)
  | .ldc_w n => some (n : Int)
  | _ => none
def ldi (i : Instr) : Option Nat := match i with
  | .iload n => some n | .iload_n n => some n.val | _ => none
def lda (i : Instr) : Option Nat := match i with
  | .aload n => some n | .aload_n n => some n.val | _ => none
def ldl (i : Instr) : Option Nat := match i with
  | .lload n => some n | .lload_n n => some n.val | _ => none
def ldd (i : Instr) : Option Nat := match i with
  | .dload n => some n | .dload_n n => some n.val | _ => none
def sti (i : Instr) : Option Nat := match i with
  | .istore n => some n | .istore_n n => some n.val | _ => none
def sta (i : Instr) : Option Nat := match i with
  | .astore n => some n | .astore_n n => some n.val | _ => none
def stl (i : Instr) : Option Nat := match i with
  | .lstore n => some n | .lstore_n n => some n.val | _ => none
def std (i : Instr) : Option Nat := match i with
  | .dstore n => some n | .dstore_n n => some n.val | _ => none
/-- the straight instructions: what is to be shown, and what is next (targets and members as the tables below have them) -/
def ins (i : Instr) (pc : Nat) (ls st : List V) (w : Wd) : Nxt := match i with
  | .iconst n => n1 none (pc + 1) ls (vI n :: st) w
  | .bipush n => n1 none (pc + 2) ls (vI n :: st) w
  | .sipush n => n1 none (pc + 3) ls (vI n :: st) w
  | .ldc n => n1 none (pc + 2) ls (vI (sx n) :: st) w
  | .ldc_w n => n1 none (pc + 3) ls (vI (n : Int) :: st) w
  | .ldc2_w n => n1 none (pc + 3) ls (vL (n : Int) :: st) w
  | .dconst n => if n = 0 then n1 none (pc + 1) ls (vD 0 :: st) w else none
  | .iload n => match ls[n]? with | some (some (.inl a)) => n1 none (pc + 2) ls (vI a :: st) w | _ => none
  | .iload_n n => match ls[n.val]? with | some (some (.inl a)) => n1 none (pc + 1) ls (vI a :: st) w | _ => none
  | .aload n => match ls[n]? with | some (some (.inr (.inl a))) => n1 none (pc + 2) ls (vR a :: st) w | _ => none
  | .aload_n n => match ls[n.val]? with | some (some (.inr (.inl a))) => n1 none (pc + 1) ls (vR a :: st) w | _ => none
  | .lload n => match ls[n]? with | some (some (.inr (.inr (.inl a)))) => n1 none (pc + 2) ls (vL a :: st) w | _ => none
  | .lload_n n => match ls[n.val]? with | some (some (.inr (.inr (.inl a)))) => n1 none (pc + 1) ls (vL a :: st) w | _ => none
  | .dload n => match ls[n]? with | some (some (.inr (.inr (.inr a)))) => n1 none (pc + 2) ls (vD a :: st) w | _ => none
  | .dload_n n => match ls[n.val]? with | some (some (.inr (.inr (.inr a)))) => n1 none (pc + 1) ls (vD a :: st) w | _ => none
  | .istore n => match st with | some (.inl a) :: st' => if n < ls.length ∧ sok ls n = true then n1 none (pc + 2) (st1 ls n (vI a)) st' w else none | _ => none
  | .istore_n n => match st with | some (.inl a) :: st' => if n.val < ls.length ∧ sok ls n.val = true then n1 none (pc + 1) (st1 ls n.val (vI a)) st' w else none | _ => none
  | .astore n => match st with | some (.inr (.inl a)) :: st' => if n < ls.length ∧ sok ls n = true then n1 none (pc + 2) (st1 ls n (vR a)) st' w else none | _ => none
  | .astore_n n => match st with | some (.inr (.inl a)) :: st' => if n.val < ls.length ∧ sok ls n.val = true then n1 none (pc + 1) (st1 ls n.val (vR a)) st' w else none | _ => none
  | .lstore n => match st with | some (.inr (.inr (.inl a))) :: st' => if n + 1 < ls.length ∧ sok ls n = true then n1 none (pc + 2) (st2 ls n (vL a)) st' w else none | _ => none
  | .lstore_n n => match st with | some (.inr (.inr (.inl a))) :: st' => if n.val + 1 < ls.length ∧ sok ls n.val = true then n1 none (pc + 1) (st2 ls n.val (vL a)) st' w else none | _ => none
  | .dstore n => match st with | some (.inr (.inr (.inr a))) :: st' => if n + 1 < ls.length ∧ sok ls n = true then n1 none (pc + 2) (st2 ls n (vD a)) st' w else none | _ => none
  | .iinc n d => match ls[n]? with | some (some (.inl a)) => if n < ls.length ∧ sok ls n = true then n1 (some (ir (a + d))) (pc + 3) (st1 ls n (vI (a + d))) st w else none | _ => none
  | .dup => match st with | some x :: st' => if wide (some x) = false then n1 none (pc + 1) ls (some x :: some x :: st') w else none | _ => none
  | .dup2 => match st with | some x :: some y :: st' => if wide (some x) = false ∧ wide (some y) = false then n1 none (pc + 1) ls (some x :: some y :: some x :: some y :: st') w else none | _ => none
  | .pop => match st with | some x :: st' => if wide (some x) = false then n1 none (pc + 1) ls st' w else none | _ => none
  | .i2l => match st with | some (.inl a) :: st' => n1 none (pc + 1) ls (vL a :: st') w | _ => none
  | .i2d => match st with | some (.inl a) :: st' => n1 none (pc + 1) ls (vD (FP.i2d (Int32.ofInt a)) :: st') w | _ => none
  | .ladd => match st with | some (.inr (.inr (.inl b))) :: some (.inr (.inr (.inl a))) :: st' => n1 none (pc + 1) ls (vL (a + b) :: st') w | _ => none
  | .lmul => match st with | some (.inr (.inr (.inl b))) :: some (.inr (.inr (.inl a))) :: st' => n1 none (pc + 1) ls (vL (a * b) :: st') w | _ => none
  | .lcmp => match st with | some (.inr (.inr (.inl b))) :: some (.inr (.inr (.inl a))) :: st' => n1 none (pc + 1) ls (vI (lC a b) :: st') w | _ => none
  | .ddiv => match st with | some (.inr (.inr (.inr b))) :: some (.inr (.inr (.inr a))) :: st' => n1 (some (vf_n64 (FP.ddiv a b))) (pc + 1) ls (vD (FP.ddiv a b) :: st') w | _ => none
  | .dcmp o => match st with | some (.inr (.inr (.inr b))) :: some (.inr (.inr (.inr a))) :: st' => n1 none (pc + 1) ls (vI (dC a b o) :: st') w | _ => none
  | .goto t => n1 none t.toNat ls st w
  | .ifnull _ => match st with | some (.inr (.inl _)) :: st' => n1 none (pc + 3) ls st' w | _ => none
  | .ifnonnull t => match st with | some (.inr (.inl _)) :: st' => n1 none t.toNat ls st' w | _ => none
  | .ifCond c t => match st with | some (.inl a) :: st' => n1 none (if cnd c a 0 = true then t.toNat else pc + 3) ls st' w | _ => none
  | .if_icmp c t => match st with | some (.inl b) :: some (.inl a) :: st' => n1 none (if cnd c a b = true then t.toNat else pc + 3) ls st' w | _ => none
  | .tableswitch d lo hi o => match st with | some (.inl a) :: st' => n1 none (if a < lo ∨ hi < a then d.toNat else (o.getD (a - lo).toNat 0).toNat) ls st' w | _ => none
  | .getfield q => match st with | some (.inr (.inl r)) :: st' => if fk q = 0 then n1 (some (ty w r = q / 100 + 1)) (pc + 3) ls (vI (gi w r ((q % 100 : Nat) : Int)) :: st') w else if fk q = 1 then n1 (some (ty w r = q / 100 + 1 ∧ gr w r ((q % 100 : Nat) : Int) ≠ 0)) (pc + 3) ls (vR (gr w r ((q % 100 : Nat) : Int)) :: st') w else n1 (some (ty w r = q / 100 + 1)) (pc + 3) ls (vL (gi w r ((q % 100 : Nat) : Int)) :: st') w | _ => none
  | .putfield q => match st with
    | some (.inl a) :: some (.inr (.inl r)) :: st' => if fk q = 0 then n1 (some (ty w r = q / 100 + 1)) (pc + 3) ls st' (si w r ((q % 100 : Nat) : Int) a) else none
    | some (.inr (.inr (.inl a))) :: some (.inr (.inl r)) :: st' => if fk q = 2 then n1 (some (ty w r = q / 100 + 1)) (pc + 3) ls st' (si w r ((q % 100 : Nat) : Int) a) else none
    | some (.inr (.inl a)) :: some (.inr (.inl r)) :: st' => if fk q = 1 then n1 (some (ty w r = q / 100 + 1)) (pc + 3) ls st' (sr w r ((q % 100 : Nat) : Int) a) else none
    | _ => none
  | .getstatic _ => n1 none (pc + 3) ls (vR 2 :: st) w
  | .arraylength => match st with | some (.inr (.inl r)) :: st' => n1 (some (ty w r = 11 ∨ ty w r = 16 ∨ ty w r = 17)) (pc + 1) ls (vI (ln w r : Int) :: st') w | _ => none
  | .iaload => match st with | some (.inl k) :: some (.inr (.inl r)) :: st' => n1 (some ((ty w r = 11 ∨ ty w r = 16 ∨ ty w r = 17) ∧ 0 ≤ k ∧ k < (ln w r : Int))) (pc + 1) ls (vI (gi w r k) :: st') w | _ => none
  | .iastore => match st with | some (.inl a) :: some (.inl k) :: some (.inr (.inl r)) :: st' => n1 (some (ty w r = 11 ∧ 0 ≤ k ∧ k < (ln w r : Int))) (pc + 1) ls st' (si w r k a) | _ => none
  | .aaload => match st with | some (.inl k) :: some (.inr (.inl r)) :: st' => n1 (some (ref3 (ty w r) ∧ 0 ≤ k ∧ k < (ln w r : Int) ∧ gr w r k ≠ 0)) (pc + 1) ls (vR (gr w r k) :: st') w | _ => none
  | .aastore => match st with | some (.inr (.inl a)) :: some (.inl k) :: some (.inr (.inl r)) :: st' => n1 (some (ref3 (ty w r) ∧ 0 ≤ k ∧ k < (ln w r : Int) ∧ ty w a = el3 (ty w r))) (pc + 1) ls st' (sr w r k a) | _ => none
  | .newarray t => match st with
    | some (.inl n) :: st' => if t = .int then n1 (some (0 ≤ n ∧ n ≤ 100000)) (pc + 2) ls (vR (nx w) :: st') (mk w 11 n.toNat) else none
    | _ => none
  | .anewarray t => match st with | some (.inl n) :: st' => if t = 13 ∨ t = 14 ∨ t = 15 then n1 (some (0 ≤ n ∧ n ≤ 100000)) (pc + 3) ls (vR (nx w) :: st') (mk w t n.toNat) else none | _ => none
  | .new c => if c < 9 then n1 none (pc + 3) ls (vR (nx w) :: st) (mk w (c + 1) (fcn c)) else none
  | .invokespecial k => if k = 900 then (match st with | some (.inr (.inl _)) :: st' => if wsm st' ≤ 8 then n1 none (pc + 3) ls st' w else none | _ => none) else none
  | .invokestatic k => if k = 901 then (match st with | some (.inl b) :: some (.inl a) :: st' => if wsm st' ≤ 8 then n1 none (pc + 3) ls (vI (if b < a then b else a) :: st') w else none | _ => none)
      else if k = 902 then (match st with | some (.inl n) :: some (.inl dp) :: some (.inr (.inl b)) :: some (.inl sp) :: some (.inr (.inl a)) :: st' => if wsm st' ≤ 8 then n1 (some (ty w a = 11 ∧ ty w b = 11 ∧ 0 ≤ sp ∧ 0 ≤ dp ∧ 0 ≤ n ∧ sp + n ≤ (ln w a : Int) ∧ dp + n ≤ (ln w b : Int))) (pc + 3) ls st' (cy w a sp b dp n) else none | _ => none) else none
  | i => match st with
    | some (.inl b) :: some (.inl a) :: st' => match bop i a b with
      | some (ob, v) => n1 ob (pc + 1) ls (vI v :: st') w
      | none => none
    | _ => none
/-- a result: 0 and the value (none: nothing), or which exception (1 IllegalArgument, 2 IllegalState, 3 IndexOutOfBounds) -/
abbrev Res := Nat × V
/-- returns -/
def rtn (y : Nat) (i : Instr) (st : List V) : Option (Option Prop × Res) := match i with
  | .ireturn => match st with | [some (.inl a)] => if mrt y = 1 then some (none, (0, vI a)) else if mrt y = 2 then some (some (a = 0 ∨ a = 1), (0, vI a)) else none | _ => none
  | .lreturn => match st with | [some (.inr (.inr (.inl a)))] => if mrt y = 3 then some (none, (0, vL a)) else none | _ => none
  | .dreturn => match st with | [some (.inr (.inr (.inr a)))] => if mrt y = 4 then some (none, (0, vD a)) else none | _ => none
  | .areturn => match st with | [some (.inr (.inl a))] => if mrt y = 5 then some (none, (0, vR a)) else none | _ => none
  | .return_ => match st with | [] => if mrt y = 0 then some (none, (0, none)) else none | _ => none
  | _ => none
/-- calls: what is to be shown (a receiver of the class that is named), the callee, its arguments, the rest of the stack -/
def cal (i : Instr) (st : List V) (w : Wd) : Option (Option Prop × (Nat × (List V × List V))) := match i with
  | .invokevirtual k => match st[mar k]? with
    | some (some (.inr (.inl b))) => if wsm (st.drop (mar k + 1)) ≤ 8 then some (some (ty w b = mcl k + 1), (k, ((st.take (mar k + 1)).reverse, st.drop (mar k + 1)))) else none
    | _ => none
  | .invokespecial k => if k < 900 then (match st[mar k]? with
    | some (some (.inr (.inl _))) => if wsm (st.drop (mar k + 1)) ≤ 8 then some (none, (k, ((st.take (mar k + 1)).reverse, st.drop (mar k + 1)))) else none
    | _ => none) else none
  | .invokestatic k => if k < 900 then (if wsm (st.drop (mar k)) ≤ 8 ∧ mar k ≤ st.length then some (none, (k, ((st.take (mar k)).reverse, st.drop (mar k)))) else none) else none
  | _ => none
def psh (v : V) (st : List V) : List V := match v with
  | none => st
  | some x => some x :: st
def exo (o : Option Prop) (P : Prop) : Prop := match o with
  | none => P
  | some q => q ∧ P
/-- the arguments, each in its places; the first locals -/
def spr (a : List V) : List V := a.flatMap (fun v => if wide v then [v, none] else [v])
def ent (y : Nat) (args : List V) : List V := spr args ++ List.replicate (mml y - (spr args).length) none
/-- n steps of method y at most, callees by E -/
def wpn (E : Nat → List V → Wd → Res → Wd → Prop) (y : Nat) : Nat → Nat → List V → List V → Wd → (Res → Wd → Prop) → Prop
  | 0, _, _, _, _, _ => False
  | n + 1, pc, ls, st, w, Q => match tb y pc with
    | none => False
    | some i => match ins i pc ls st w with
      | some (ob, (pc', (ls', (st', w')))) => exo ob (wpn E y n pc' ls' st' w' Q)
      | none => match rtn y i st with
        | some (ob, r) => exo ob (Q r w)
        | none => match cal i st w with
          | some (ob, (k, (a, rest))) => exo ob (∃ (r : Res) (w' : Wd), E k a w r w' ∧ (if r.1 = 0 then wpn E y n (pc + 3) ls (psh r.2 rest) w' Q else match hnd y pc r.1 with
            | some (pc', j) => (sok ls j = true ∧ j < ls.length) ∧ wpn E y n pc' (ls.set j none) [] w' Q
            | none => False))
          | none => match thr i with
            | some x => wsm st ≤ 8 ∧ Q (x, none) (tk w)
            | none => False
/-- the runs of methods, by the depth of their calls -/
def Ev : Nat → Nat → List V → Wd → Res → Wd → Prop
  | 0, _, _, _, _, _ => False
  | d + 1, y, args, w, r, w' => (spr args).length ≤ mml y ∧ ∃ n, wpn (Ev d) y n 0 (ent y args) [] w (fun r1 w1 => r1 = r ∧ w1 = w')
