/-! the small machine's logic: from here on nothing speaks of the machine -/
theorem exo_1 {o : Option Prop} {P : Prop} (h : exo o P) : exo o True ∧ P := by
  cases o with
  | none => exact ⟨trivial, h⟩
  | some q => exact ⟨⟨h.1, trivial⟩, h.2⟩
theorem exo_2 {o : Option Prop} {P : Prop} (h : exo o True) (hP : P) : exo o P := by
  cases o with
  | none => exact hP
  | some q => exact ⟨h.1, hP⟩
theorem wpn_det {E : Nat → List V → Wd → Res → Wd → Prop} {y : Nat} {Q : Res → Wd → Prop} : ∀ (n pc : Nat) (ls st : List V) (w : Wd), wpn E y n pc ls st w Q → ∃ r w', Q r w' ∧ wpn E y n pc ls st w (fun r1 w1 => r1 = r ∧ w1 = w')
  | 0, _, _, _, _, h => h.elim
  | n + 1, pc, ls, st, w, h => by
    cases htb : tb y pc with
    | none => simp only [wpn, htb] at h
    | some i =>
      cases hi : ins i pc ls st w with
      | some z =>
        obtain ⟨ob, pc', ls', st', w'⟩ := z
        simp only [wpn, htb, hi] at h ⊢
        obtain ⟨h1, h2⟩ := exo_1 h
        obtain ⟨r, w1, g1, g2⟩ := wpn_det n _ _ _ _ h2
        exact ⟨r, w1, g1, exo_2 h1 g2⟩
      | none =>
        cases hr : rtn y i st with
        | some z =>
          obtain ⟨ob, r⟩ := z
          simp only [wpn, htb, hi, hr] at h ⊢
          obtain ⟨h1, h2⟩ := exo_1 h
          exact ⟨r, w, h2, exo_2 h1 ⟨rfl, rfl⟩⟩
        | none =>
          cases hc : cal i st w with
          | some z =>
            obtain ⟨ob, k, a, rest⟩ := z
            simp only [wpn, htb, hi, hr, hc] at h ⊢
            obtain ⟨h1, r, w', h2, h3⟩ := exo_1 h
            by_cases hr0 : r.1 = 0
            · rw [if_pos hr0] at h3
              obtain ⟨r9, w9, g1, g2⟩ := wpn_det n _ _ _ _ h3
              exact ⟨r9, w9, g1, exo_2 h1 ⟨r, w', h2, by rw [if_pos hr0]; exact g2⟩⟩
            · rw [if_neg hr0] at h3
              cases hh : hnd y pc r.1 with
              | none => rw [hh] at h3; exact h3.elim
              | some z =>
                obtain ⟨pc', j⟩ := z
                rw [hh] at h3
                obtain ⟨r9, w9, g1, g2⟩ := wpn_det n _ _ _ _ h3.2
                exact ⟨r9, w9, g1, exo_2 h1 ⟨r, w', h2, by rw [if_neg hr0, hh]; exact ⟨h3.1, g2⟩⟩⟩
          | none =>
            cases hx : thr i with
            | none => simp only [wpn, htb, hi, hr, hc, hx] at h
            | some x =>
              simp only [wpn, htb, hi, hr, hc, hx] at h ⊢
              exact ⟨_, _, h.2, h.1, rfl, rfl⟩
theorem wpn_E {E E' : Nat → List V → Wd → Res → Wd → Prop} (hE : ∀ k a w r w', E k a w r w' → E' k a w r w') {y : Nat} {Q : Res → Wd → Prop} : ∀ (n pc : Nat) (ls st : List V) (w : Wd), wpn E y n pc ls st w Q → wpn E' y n pc ls st w Q
  | 0, _, _, _, _, h => h.elim
  | n + 1, pc, ls, st, w, h => by
    cases htb : tb y pc with
    | none => simp only [wpn, htb] at h
    | some i =>
      cases hi : ins i pc ls st w with
      | some z =>
        obtain ⟨ob, pc', ls', st', w'⟩ := z
        simp only [wpn, htb, hi] at h ⊢
        obtain ⟨h1, h2⟩ := exo_1 h
        exact exo_2 h1 (wpn_E hE n _ _ _ _ h2)
      | none =>
        cases hr : rtn y i st with
        | some z =>
          obtain ⟨ob, r⟩ := z
          simp only [wpn, htb, hi, hr] at h ⊢
          exact h
        | none =>
          cases hc : cal i st w with
          | some z =>
            obtain ⟨ob, k, a, rest⟩ := z
            simp only [wpn, htb, hi, hr, hc] at h ⊢
            obtain ⟨h1, r, w', h2, h3⟩ := exo_1 h
            refine exo_2 h1 ⟨r, w', hE _ _ _ _ _ h2, ?_⟩
            by_cases hr0 : r.1 = 0
            · rw [if_pos hr0] at h3 ⊢
              exact wpn_E hE n _ _ _ _ h3
            · rw [if_neg hr0] at h3 ⊢
              cases hh : hnd y pc r.1 with
              | none => rw [hh] at h3; exact h3.elim
              | some z =>
                obtain ⟨pc', j⟩ := z
                rw [hh] at h3
                exact ⟨h3.1, wpn_E hE n _ _ _ _ h3.2⟩
          | none =>
            cases hx : thr i with
            | none => simp only [wpn, htb, hi, hr, hc, hx] at h
            | some x =>
              simp only [wpn, htb, hi, hr, hc, hx] at h ⊢
              exact h
theorem Ev_s : ∀ (d k : Nat) (a : List V) (w : Wd) (r : Res) (w' : Wd), Ev d k a w r w' → Ev (d + 1) k a w r w'
  | 0, _, _, _, _, _, h => h.elim
  | d + 1, _, _, _, _, _, ⟨h0, n, h⟩ => ⟨h0, n, wpn_E (Ev_s d) n _ _ _ _ h⟩
theorem Ev_le {d d' : Nat} (h : d ≤ d') {k : Nat} {a : List V} {w : Wd} {r : Res} {w' : Wd} (hE : Ev d k a w r w') : Ev d' k a w r w' := by
  induction h with
  | refl => exact hE
  | step _ ih => exact Ev_s _ _ _ _ _ _ ih
/-- method y at pc comes to an end with Q -/
def WP (d y pc : Nat) (ls st : List V) (w : Wd) (Q : Res → Wd → Prop) : Prop := ∃ n, wpn (Ev d) y n pc ls st w Q
/-- a run of method k with Q at its end -/
def EvQ (d k : Nat) (a : List V) (w : Wd) (Q : Res → Wd → Prop) : Prop := ∃ r w', Ev d k a w r w' ∧ Q r w'
theorem EvQ.enter {d k : Nat} {a ls : List V} {w : Wd} {Q : Res → Wd → Prop} (hs : (spr a).length ≤ mml k) (hl : ent k a = ls) (h : WP d k 0 ls [] w Q) : EvQ (d + 1) k a w Q := by
  obtain ⟨n, h⟩ := h
  subst hl
  obtain ⟨r, w', h1, h2⟩ := wpn_det n _ _ _ _ h
  exact ⟨r, w', ⟨hs, n, h2⟩, h1⟩
theorem EvQ.le {d d' k : Nat} {a : List V} {w : Wd} {Q : Res → Wd → Prop} (h : d ≤ d') (hE : EvQ d k a w Q) : EvQ d' k a w Q := by
  obtain ⟨r, w', h1, h2⟩ := hE
  exact ⟨r, w', Ev_le h h1, h2⟩
theorem EvQ.imp {d k : Nat} {a : List V} {w : Wd} {Q Q' : Res → Wd → Prop} (hE : EvQ d k a w Q) (h : ∀ r w', Q r w' → Q' r w') : EvQ d k a w Q' := by
  obtain ⟨r, w', h1, h2⟩ := hE
  exact ⟨r, w', h1, h r w' h2⟩
/-- k straight instructions -/
def bk (y : Nat) (K : Nat → List V → List V → Wd → Prop) : Nat → Nat → List V → List V → Wd → Prop
  | 0, pc, ls, st, w => K pc ls st w
  | k + 1, pc, ls, st, w => match tb y pc with
    | none => False
    | some i => match ins i pc ls st w with
      | some (ob, (pc', (ls', (st', w')))) => exo ob (bk y K k pc' ls' st' w')
      | none => False
theorem WP.blk {d y : Nat} {Q : Res → Wd → Prop} : ∀ (k : Nat) {pc : Nat} {ls st : List V} {w : Wd}, bk y (fun pc ls st w => WP d y pc ls st w Q) k pc ls st w → WP d y pc ls st w Q
  | 0, _, _, _, _, h => h
  | k + 1, pc, ls, st, w, h => by
    cases htb : tb y pc with
    | none => simp only [bk, htb] at h
    | some i =>
      cases hi : ins i pc ls st w with
      | none => simp only [bk, htb, hi] at h
      | some z =>
        obtain ⟨ob, pc', ls', st', w'⟩ := z
        simp only [bk, htb, hi] at h
        obtain ⟨h1, h2⟩ := exo_1 h
        obtain ⟨n, h3⟩ := WP.blk k h2
        exact ⟨n + 1, by simp only [wpn, htb, hi]; exact exo_2 h1 h3⟩
theorem WP.ret {d y pc : Nat} {ls st : List V} {w : Wd} {Q : Res → Wd → Prop} {i : Instr} {ob : Option Prop} {r : Res} (htb : tb y pc = some i) (hi : ins i pc ls st w = none) (hr : rtn y i st = some (ob, r)) (hob : exo ob True) (hQ : Q r w) : WP d y pc ls st w Q :=
  ⟨1, by simp only [wpn, htb, hi, hr]; exact exo_2 hob hQ⟩
theorem WP.call {d d0 y pc k : Nat} {ls st a rest : List V} {w : Wd} {Q Q1 : Res → Wd → Prop} {i : Instr} {ob : Option Prop} (htb : tb y pc = some i) (hi : ins i pc ls st w = none) (hr : rtn y i st = none) (hc : cal i st w = some (ob, (k, (a, rest)))) (hob : exo ob True) (hd : d0 ≤ d) (hE : EvQ d0 k a w Q1)
    (kk : ∀ r w', Q1 r w' → r.1 = 0 ∧ WP d y (pc + 3) ls (psh r.2 rest) w' Q) : WP d y pc ls st w Q := by
  obtain ⟨r, w', h1, h2⟩ := hE
  obtain ⟨h3, n, h4⟩ := kk r w' h2
  exact ⟨n + 1, by simp only [wpn, htb, hi, hr, hc]; exact exo_2 hob ⟨r, w', Ev_le hd h1, by rw [if_pos h3]; exact h4⟩⟩
/-- a call, what follows within its end -/
theorem WP.cl {d d0 y pc k : Nat} {ls st a rest : List V} {w : Wd} {Q : Res → Wd → Prop} {i : Instr} {ob : Option Prop} (htb : tb y pc = some i) (hi : ins i pc ls st w = none) (hr : rtn y i st = none) (hc : cal i st w = some (ob, (k, (a, rest)))) (hob : exo ob True) (hd : d0 ≤ d) (hE : EvQ d0 k a w (fun r w' => r.1 = 0 ∧ WP d y (pc + 3) ls (psh r.2 rest) w' Q)) : WP d y pc ls st w Q :=
  WP.call htb hi hr hc hob hd hE (fun _ _ h => h)
/-- a call that may throw where it is caught -/
theorem WP.callx {d d0 y pc k : Nat} {ls st a rest : List V} {w : Wd} {Q Q1 : Res → Wd → Prop} {i : Instr} {ob : Option Prop} (htb : tb y pc = some i) (hi : ins i pc ls st w = none) (hr : rtn y i st = none) (hc : cal i st w = some (ob, (k, (a, rest)))) (hob : exo ob True) (hd : d0 ≤ d) (hE : EvQ d0 k a w Q1)
    (kk : ∀ r w', Q1 r w' → (r.1 = 0 ∧ WP d y (pc + 3) ls (psh r.2 rest) w' Q) ∨ (r.1 ≠ 0 ∧ ∃ pc' j, hnd y pc r.1 = some (pc', j) ∧ (sok ls j = true ∧ j < ls.length) ∧ WP d y pc' (ls.set j none) [] w' Q)) : WP d y pc ls st w Q := by
  obtain ⟨r, w', h1, h2⟩ := hE
  rcases kk r w' h2 with ⟨h3, n, h4⟩ | ⟨h3, pc', j, h5, h6, n, h4⟩
  · exact ⟨n + 1, by simp only [wpn, htb, hi, hr, hc]; exact exo_2 hob ⟨r, w', Ev_le hd h1, by rw [if_pos h3]; exact h4⟩⟩
  · exact ⟨n + 1, by simp only [wpn, htb, hi, hr, hc]; exact exo_2 hob ⟨r, w', Ev_le hd h1, by rw [if_neg h3, h5]; exact ⟨h6, h4⟩⟩⟩
theorem WP.thr {d y pc x : Nat} {ls st : List V} {w : Wd} {Q : Res → Wd → Prop} {i : Instr} (htb : tb y pc = some i) (hi : ins i pc ls st w = none) (hr : rtn y i st = none) (hc : cal i st w = none) (hx : thr i = some x) (hs : wsm st ≤ 8) (hQ : Q (x, none) (tk w)) : WP d y pc ls st w Q :=
  ⟨1, by simp only [wpn, htb, hi, hr, hc, hx]; exact ⟨hs, hQ⟩⟩
section BR
variable {d y t f : Nat} {ls st : List V} {w : Wd} {Q : Res → Wd → Prop} {a b : Int}
theorem br_eq (h1 : a = b → WP d y t ls st w Q) (h2 : ¬ a = b → WP d y f ls st w Q) : WP d y (if cnd .eq a b = true then t else f) ls st w Q := by
  show WP d y (if decide (a = b) = true then t else f) ls st w Q
  by_cases h : a = b
  · rw [if_pos (decide_eq_true h)]; exact h1 h
  · rw [if_neg (fun e => h (of_decide_eq_true e))]; exact h2 h
theorem br_ne (h1 : ¬ a = b → WP d y t ls st w Q) (h2 : a = b → WP d y f ls st w Q) : WP d y (if cnd .ne a b = true then t else f) ls st w Q := by
  show WP d y (if decide (a ≠ b) = true then t else f) ls st w Q
  by_cases h : a = b
  · rw [if_neg (fun e => (of_decide_eq_true e : a ≠ b) h)]; exact h2 h
  · rw [if_pos (decide_eq_true h)]; exact h1 h
theorem br_lt (h1 : a < b → WP d y t ls st w Q) (h2 : b ≤ a → WP d y f ls st w Q) : WP d y (if cnd .lt a b = true then t else f) ls st w Q := by
  show WP d y (if decide (a < b) = true then t else f) ls st w Q
  by_cases h : a < b
  · rw [if_pos (decide_eq_true h)]; exact h1 h
  · rw [if_neg (fun e => h (of_decide_eq_true e))]; exact h2 (Int.not_lt.mp h)
theorem br_ge (h1 : b ≤ a → WP d y t ls st w Q) (h2 : a < b → WP d y f ls st w Q) : WP d y (if cnd .ge a b = true then t else f) ls st w Q := by
  show WP d y (if decide (a ≥ b) = true then t else f) ls st w Q
  by_cases h : b ≤ a
  · rw [if_pos (decide_eq_true h)]; exact h1 h
  · rw [if_neg (fun e => h (of_decide_eq_true e))]; exact h2 (Int.not_le.mp h)
theorem br_gt (h1 : b < a → WP d y t ls st w Q) (h2 : a ≤ b → WP d y f ls st w Q) : WP d y (if cnd .gt a b = true then t else f) ls st w Q := by
  show WP d y (if decide (a > b) = true then t else f) ls st w Q
  by_cases h : b < a
  · rw [if_pos (decide_eq_true h)]; exact h1 h
  · rw [if_neg (fun e => h (of_decide_eq_true e))]; exact h2 (Int.not_lt.mp h)
theorem br_le (h1 : a ≤ b → WP d y t ls st w Q) (h2 : b < a → WP d y f ls st w Q) : WP d y (if cnd .le a b = true then t else f) ls st w Q := by
  show WP d y (if decide (a ≤ b) = true then t else f) ls st w Q
  by_cases h : a ≤ b
  · rw [if_pos (decide_eq_true h)]; exact h1 h
  · rw [if_neg (fun e => h (of_decide_eq_true e))]; exact h2 (Int.not_le.mp h)
theorem sw_in {lo hi : Int} {dd : Nat} {o : Array Int} (v : Int) (h : a = v) (ht : (if v < lo ∨ hi < v then dd else (o.getD (v - lo).toNat 0).toNat) = t) (k : WP d y t ls st w Q) : WP d y (if a < lo ∨ hi < a then dd else (o.getD (a - lo).toNat 0).toNat) ls st w Q := by
  subst h; rw [ht]; exact k
theorem sw_out {lo hi : Int} {dd : Nat} {o : Array Int} (h : a < lo ∨ hi < a) (k : WP d y dd ls st w Q) : WP d y (if a < lo ∨ hi < a then dd else (o.getD (a - lo).toNat 0).toNat) ls st w Q := by
  rw [if_pos h]; exact k
end BR
/-- a store into the ints, and a copy -/
def up (M : Nat → Int → Int) (r : Nat) (k v : Int) : Nat → Int → Int := fun r' k' => if r' = r ∧ k' = k then v else M r' k'
def cpy (M : Nat → Int → Int) (a : Nat) (sp : Int) (b : Nat) (dp n : Int) : Nat → Int → Int := fun r k => if r = b ∧ dp ≤ k ∧ k < dp + n then M a (sp + (k - dp)) else M r k
abbrev SD := (Nat → Int → Nat) × ((Nat → Nat) × ((Nat → Nat) × (Nat × (Nat × Nat))))
def sR (S : SD) : Nat → Int → Nat := S.1
def sT (S : SD) : Nat → Nat := S.2.1
def sN (S : SD) : Nat → Nat := S.2.2.1
