/-! the law: the wrappers -/
def cde (e : Nat) : Int := cond (Nat.beq e 1) (-5000001) (cond (Nat.beq e 2) (-5000002) (-5000003))
def WQ1 (e1 : Nat) (Q : Res → Wd → Prop) : Res → Wd → Prop := fun r w' => (∃ a, r = (0, vI a) ∧ Q (0, vI a) w') ∨ (r = (e1, none) ∧ Q (0, vI (cde e1)) w')
def WQ2 (e1 e2 : Nat) (Q : Res → Wd → Prop) : Res → Wd → Prop := fun r w' => (∃ a, r = (0, vI a) ∧ Q (0, vI a) w') ∨ (r = (e1, none) ∧ Q (0, vI (cde e1)) w') ∨ (r = (e2, none) ∧ Q (0, vI (cde e2)) w')
def WQ3 (e1 e2 e3 : Nat) (Q : Res → Wd → Prop) : Res → Wd → Prop := fun r w' => (∃ a, r = (0, vI a) ∧ Q (0, vI a) w') ∨ (r = (e1, none) ∧ Q (0, vI (cde e1)) w') ∨ (r = (e2, none) ∧ Q (0, vI (cde e2)) w') ∨ (r = (e3, none) ∧ Q (0, vI (cde e3)) w')
theorem lC_s (a : Int) : lC a a = 0 := by
  unfold lC lg_cmp
  simp
theorem w_append {w : Wd} {x : Nat} {v1 : Int} {Q : Res → Wd → Prop} (hx : ty w x = 9) (h : EvQ 1 63 [vR x, vI v1] w (WQ2 1 2 Q)) : EvQ 2 121 [vR x, vI v1] w Q := by
  refine EvQ.enter (ls := [vR x, vI v1, none, none]) (Nat.le_of_ble_eq_true rfl) rfl ?_
  refine WP.blk 2 ?_
  show WP 1 121 2 [vR x, vI v1, none, none] [vI v1, vR x] w Q
  refine WP.callx (a := [vR x, vI v1]) (rest := []) rfl rfl rfl rfl ⟨hx, trivial⟩ (by decide) h (fun r w9 hq => ?_)
  rcases hq with ⟨a, rfl, hQ⟩ | ⟨rfl, hQ⟩ | ⟨rfl, hQ⟩
  · refine Or.inl ⟨rfl, ?_⟩
    refine WP.blk 3 ?_
    show WP 1 121 18 [vR x, vI v1, vI a, none] [vI a] w9 Q
    exact WP.ret rfl rfl rfl trivial hQ
  · refine Or.inr ⟨by decide, 10, 3, rfl, ⟨rfl, Nat.le_of_ble_eq_true rfl⟩, ?_⟩
    show WP 1 121 10 [vR x, vI v1, none, none] [] w9 Q
    refine WP.blk 1 ?_
    show WP 1 121 12 [vR x, vI v1, none, none] [vI (-5000001)] w9 Q
    exact WP.ret rfl rfl rfl trivial hQ
  · refine Or.inr ⟨by decide, 14, 3, rfl, ⟨rfl, Nat.le_of_ble_eq_true rfl⟩, ?_⟩
    show WP 1 121 14 [vR x, vI v1, none, none] [] w9 Q
    refine WP.blk 1 ?_
    show WP 1 121 16 [vR x, vI v1, none, none] [vI (-5000002)] w9 Q
    exact WP.ret rfl rfl rfl trivial hQ
theorem w_cut {w : Wd} {x : Nat} {v1 v2 v3 : Int} {Q : Res → Wd → Prop} (hx : ty w x = 9) (h : EvQ 7 66 [vR x, vI v1, vI v2, vI v3] w (WQ3 3 1 2 Q)) : EvQ 8 122 [vR x, vI v1, vI v2, vI v3] w Q := by
  refine EvQ.enter (ls := [vR x, vI v1, vI v2, vI v3, none, none]) (Nat.le_of_ble_eq_true rfl) rfl ?_
  refine WP.blk 4 ?_
  show WP 7 122 4 [vR x, vI v1, vI v2, vI v3, none, none] [vI v3, vI v2, vI v1, vR x] w Q
  refine WP.callx (a := [vR x, vI v1, vI v2, vI v3]) (rest := []) rfl rfl rfl rfl ⟨hx, trivial⟩ (by decide) h (fun r w9 hq => ?_)
  rcases hq with ⟨a, rfl, hQ⟩ | ⟨rfl, hQ⟩ | ⟨rfl, hQ⟩ | ⟨rfl, hQ⟩
  · refine Or.inl ⟨rfl, ?_⟩
    refine WP.blk 3 ?_
    show WP 7 122 29 [vR x, vI v1, vI v2, vI v3, vI a, none] [vI a] w9 Q
    exact WP.ret rfl rfl rfl trivial hQ
  · refine Or.inr ⟨by decide, 14, 5, rfl, ⟨rfl, Nat.le_of_ble_eq_true rfl⟩, ?_⟩
    show WP 7 122 14 [vR x, vI v1, vI v2, vI v3, none, none] [] w9 Q
    refine WP.blk 1 ?_
    show WP 7 122 16 [vR x, vI v1, vI v2, vI v3, none, none] [vI (-5000003)] w9 Q
    exact WP.ret rfl rfl rfl trivial hQ
  · refine Or.inr ⟨by decide, 19, 5, rfl, ⟨rfl, Nat.le_of_ble_eq_true rfl⟩, ?_⟩
    show WP 7 122 19 [vR x, vI v1, vI v2, vI v3, none, none] [] w9 Q
    refine WP.blk 1 ?_
    show WP 7 122 21 [vR x, vI v1, vI v2, vI v3, none, none] [vI (-5000001)] w9 Q
    exact WP.ret rfl rfl rfl trivial hQ
  · refine Or.inr ⟨by decide, 24, 5, rfl, ⟨rfl, Nat.le_of_ble_eq_true rfl⟩, ?_⟩
    show WP 7 122 24 [vR x, vI v1, vI v2, vI v3, none, none] [] w9 Q
    refine WP.blk 1 ?_
    show WP 7 122 26 [vR x, vI v1, vI v2, vI v3, none, none] [vI (-5000002)] w9 Q
    exact WP.ret rfl rfl rfl trivial hQ
theorem w_remove {w : Wd} {x : Nat} {v1 : Int} {Q : Res → Wd → Prop} (hx : ty w x = 9) (h : EvQ 7 67 [vR x, vI v1] w (WQ1 3 Q)) : EvQ 8 123 [vR x, vI v1] w Q := by
  refine EvQ.enter (ls := [vR x, vI v1, none, none]) (Nat.le_of_ble_eq_true rfl) rfl ?_
  refine WP.blk 2 ?_
  show WP 7 123 2 [vR x, vI v1, none, none] [vI v1, vR x] w Q
  refine WP.callx (a := [vR x, vI v1]) (rest := []) rfl rfl rfl rfl ⟨hx, trivial⟩ (by decide) h (fun r w9 hq => ?_)
  rcases hq with ⟨a, rfl, hQ⟩ | ⟨rfl, hQ⟩
  · refine Or.inl ⟨rfl, ?_⟩
    refine WP.blk 3 ?_
    show WP 7 123 14 [vR x, vI v1, vI a, none] [vI a] w9 Q
    exact WP.ret rfl rfl rfl trivial hQ
  · refine Or.inr ⟨by decide, 10, 3, rfl, ⟨rfl, Nat.le_of_ble_eq_true rfl⟩, ?_⟩
    show WP 7 123 10 [vR x, vI v1, none, none] [] w9 Q
    refine WP.blk 1 ?_
    show WP 7 123 12 [vR x, vI v1, none, none] [vI (-5000003)] w9 Q
    exact WP.ret rfl rfl rfl trivial hQ
theorem w_drop {w : Wd} {x : Nat} {v1 : Int} {Q : Res → Wd → Prop} (hx : ty w x = 9) (h : EvQ 7 68 [vR x, vI v1] w (WQ1 3 Q)) : EvQ 8 124 [vR x, vI v1] w Q := by
  refine EvQ.enter (ls := [vR x, vI v1, none, none]) (Nat.le_of_ble_eq_true rfl) rfl ?_
  refine WP.blk 2 ?_
  show WP 7 124 2 [vR x, vI v1, none, none] [vI v1, vR x] w Q
  refine WP.callx (a := [vR x, vI v1]) (rest := []) rfl rfl rfl rfl ⟨hx, trivial⟩ (by decide) h (fun r w9 hq => ?_)
  rcases hq with ⟨a, rfl, hQ⟩ | ⟨rfl, hQ⟩
  · refine Or.inl ⟨rfl, ?_⟩
    refine WP.blk 3 ?_
    show WP 7 124 14 [vR x, vI v1, vI a, none] [vI a] w9 Q
    exact WP.ret rfl rfl rfl trivial hQ
  · refine Or.inr ⟨by decide, 10, 3, rfl, ⟨rfl, Nat.le_of_ble_eq_true rfl⟩, ?_⟩
    show WP 7 124 10 [vR x, vI v1, none, none] [] w9 Q
    refine WP.blk 1 ?_
    show WP 7 124 12 [vR x, vI v1, none, none] [vI (-5000003)] w9 Q
    exact WP.ret rfl rfl rfl trivial hQ
theorem w_setColor {w : Wd} {x : Nat} {v1 v2 : Int} {Q : Res → Wd → Prop} (hx : ty w x = 9) (h : EvQ 5 69 [vR x, vI v1, vI v2] w (WQ2 3 1 Q)) : EvQ 6 125 [vR x, vI v1, vI v2] w Q := by
  refine EvQ.enter (ls := [vR x, vI v1, vI v2, none, none]) (Nat.le_of_ble_eq_true rfl) rfl ?_
  refine WP.blk 3 ?_
  show WP 5 125 3 [vR x, vI v1, vI v2, none, none] [vI v2, vI v1, vR x] w Q
  refine WP.callx (a := [vR x, vI v1, vI v2]) (rest := []) rfl rfl rfl rfl ⟨hx, trivial⟩ (by decide) h (fun r w9 hq => ?_)
  rcases hq with ⟨a, rfl, hQ⟩ | ⟨rfl, hQ⟩ | ⟨rfl, hQ⟩
  · refine Or.inl ⟨rfl, ?_⟩
    refine WP.blk 3 ?_
    show WP 5 125 21 [vR x, vI v1, vI v2, vI a, none] [vI a] w9 Q
    exact WP.ret rfl rfl rfl trivial hQ
  · refine Or.inr ⟨by decide, 12, 4, rfl, ⟨rfl, Nat.le_of_ble_eq_true rfl⟩, ?_⟩
    show WP 5 125 12 [vR x, vI v1, vI v2, none, none] [] w9 Q
    refine WP.blk 1 ?_
    show WP 5 125 14 [vR x, vI v1, vI v2, none, none] [vI (-5000003)] w9 Q
    exact WP.ret rfl rfl rfl trivial hQ
  · refine Or.inr ⟨by decide, 17, 4, rfl, ⟨rfl, Nat.le_of_ble_eq_true rfl⟩, ?_⟩
    show WP 5 125 17 [vR x, vI v1, vI v2, none, none] [] w9 Q
    refine WP.blk 1 ?_
    show WP 5 125 19 [vR x, vI v1, vI v2, none, none] [vI (-5000001)] w9 Q
    exact WP.ret rfl rfl rfl trivial hQ
theorem w_setLimits {w : Wd} {x : Nat} {v1 v2 : Int} {Q : Res → Wd → Prop} (hx : ty w x = 9) (h : EvQ 5 70 [vR x, vI v1, vI v2] w (WQ1 1 Q)) : EvQ 6 126 [vR x, vI v1, vI v2] w Q := by
  refine EvQ.enter (ls := [vR x, vI v1, vI v2, none, none]) (Nat.le_of_ble_eq_true rfl) rfl ?_
  refine WP.blk 3 ?_
  show WP 5 126 3 [vR x, vI v1, vI v2, none, none] [vI v2, vI v1, vR x] w Q
  refine WP.callx (a := [vR x, vI v1, vI v2]) (rest := []) rfl rfl rfl rfl ⟨hx, trivial⟩ (by decide) h (fun r w9 hq => ?_)
  rcases hq with ⟨a, rfl, hQ⟩ | ⟨rfl, hQ⟩
  · refine Or.inl ⟨rfl, ?_⟩
    refine WP.blk 3 ?_
    show WP 5 126 16 [vR x, vI v1, vI v2, vI a, none] [vI a] w9 Q
    exact WP.ret rfl rfl rfl trivial hQ
  · refine Or.inr ⟨by decide, 12, 4, rfl, ⟨rfl, Nat.le_of_ble_eq_true rfl⟩, ?_⟩
    show WP 5 126 12 [vR x, vI v1, vI v2, none, none] [] w9 Q
    refine WP.blk 1 ?_
    show WP 5 126 14 [vR x, vI v1, vI v2, none, none] [vI (-5000001)] w9 Q
    exact WP.ret rfl rfl rfl trivial hQ
theorem w_clean {w : Wd} {x : Nat} {v1 : Int} {Q : Res → Wd → Prop} (hx : ty w x = 9) (h : EvQ 5 71 [vR x, vI v1] w (WQ1 3 Q)) : EvQ 6 127 [vR x, vI v1] w Q := by
  refine EvQ.enter (ls := [vR x, vI v1, none, none]) (Nat.le_of_ble_eq_true rfl) rfl ?_
  refine WP.blk 2 ?_
  show WP 5 127 2 [vR x, vI v1, none, none] [vI v1, vR x] w Q
  refine WP.callx (a := [vR x, vI v1]) (rest := []) rfl rfl rfl rfl ⟨hx, trivial⟩ (by decide) h (fun r w9 hq => ?_)
  rcases hq with ⟨a, rfl, hQ⟩ | ⟨rfl, hQ⟩
  · refine Or.inl ⟨rfl, ?_⟩
    refine WP.blk 3 ?_
    show WP 5 127 14 [vR x, vI v1, vI a, none] [vI a] w9 Q
    exact WP.ret rfl rfl rfl trivial hQ
  · refine Or.inr ⟨by decide, 10, 3, rfl, ⟨rfl, Nat.le_of_ble_eq_true rfl⟩, ?_⟩
    show WP 5 127 10 [vR x, vI v1, none, none] [] w9 Q
    refine WP.blk 1 ?_
    show WP 5 127 12 [vR x, vI v1, none, none] [vI (-5000003)] w9 Q
    exact WP.ret rfl rfl rfl trivial hQ
theorem w_value {w : Wd} {x : Nat} {v1 : Int} {Q : Res → Wd → Prop} (hx : ty w x = 9) (h : EvQ 7 72 [vR x, vI v1] w (WQ1 1 Q)) : EvQ 8 128 [vR x, vI v1] w Q := by
  refine EvQ.enter (ls := [vR x, vI v1, none, none]) (Nat.le_of_ble_eq_true rfl) rfl ?_
  refine WP.blk 2 ?_
  show WP 7 128 2 [vR x, vI v1, none, none] [vI v1, vR x] w Q
  refine WP.callx (a := [vR x, vI v1]) (rest := []) rfl rfl rfl rfl ⟨hx, trivial⟩ (by decide) h (fun r w9 hq => ?_)
  rcases hq with ⟨a, rfl, hQ⟩ | ⟨rfl, hQ⟩
  · refine Or.inl ⟨rfl, ?_⟩
    refine WP.blk 3 ?_
    show WP 7 128 14 [vR x, vI v1, vI a, none] [vI a] w9 Q
    exact WP.ret rfl rfl rfl trivial hQ
  · refine Or.inr ⟨by decide, 10, 3, rfl, ⟨rfl, Nat.le_of_ble_eq_true rfl⟩, ?_⟩
    show WP 7 128 10 [vR x, vI v1, none, none] [] w9 Q
    refine WP.blk 1 ?_
    show WP 7 128 12 [vR x, vI v1, none, none] [vI (-5000001)] w9 Q
    exact WP.ret rfl rfl rfl trivial hQ
theorem w_stamp {w : Wd} {x : Nat} {v1 v2 : Int} {Q : Res → Wd → Prop} (hx : ty w x = 9) (h : EvQ 5 73 [vR x, vI v1, vI v2] w (WQ2 3 1 Q)) : EvQ 6 129 [vR x, vI v1, vI v2] w Q := by
  refine EvQ.enter (ls := [vR x, vI v1, vI v2, none, none]) (Nat.le_of_ble_eq_true rfl) rfl ?_
  refine WP.blk 3 ?_
  show WP 5 129 3 [vR x, vI v1, vI v2, none, none] [vI v2, vI v1, vR x] w Q
  refine WP.callx (a := [vR x, vI v1, vI v2]) (rest := []) rfl rfl rfl rfl ⟨hx, trivial⟩ (by decide) h (fun r w9 hq => ?_)
  rcases hq with ⟨a, rfl, hQ⟩ | ⟨rfl, hQ⟩ | ⟨rfl, hQ⟩
  · refine Or.inl ⟨rfl, ?_⟩
    refine WP.blk 3 ?_
    show WP 5 129 21 [vR x, vI v1, vI v2, vI a, none] [vI a] w9 Q
    exact WP.ret rfl rfl rfl trivial hQ
  · refine Or.inr ⟨by decide, 12, 4, rfl, ⟨rfl, Nat.le_of_ble_eq_true rfl⟩, ?_⟩
    show WP 5 129 12 [vR x, vI v1, vI v2, none, none] [] w9 Q
    refine WP.blk 1 ?_
    show WP 5 129 14 [vR x, vI v1, vI v2, none, none] [vI (-5000003)] w9 Q
    exact WP.ret rfl rfl rfl trivial hQ
  · refine Or.inr ⟨by decide, 17, 4, rfl, ⟨rfl, Nat.le_of_ble_eq_true rfl⟩, ?_⟩
    show WP 5 129 17 [vR x, vI v1, vI v2, none, none] [] w9 Q
    refine WP.blk 1 ?_
    show WP 5 129 19 [vR x, vI v1, vI v2, none, none] [vI (-5000001)] w9 Q
    exact WP.ret rfl rfl rfl trivial hQ
theorem w_print {w : Wd} {x : Nat} {v1 v2 v3 : Int} {Q : Res → Wd → Prop} (hx : ty w x = 9) (h : EvQ 4 74 [vR x, vI v1, vI v2, vI v3] w (WQ1 3 Q)) : EvQ 5 130 [vR x, vI v1, vI v2, vI v3] w Q := by
  refine EvQ.enter (ls := [vR x, vI v1, vI v2, vI v3, none, none]) (Nat.le_of_ble_eq_true rfl) rfl ?_
  refine WP.blk 4 ?_
  show WP 4 130 4 [vR x, vI v1, vI v2, vI v3, none, none] [vI v3, vI v2, vI v1, vR x] w Q
  refine WP.callx (a := [vR x, vI v1, vI v2, vI v3]) (rest := []) rfl rfl rfl rfl ⟨hx, trivial⟩ (by decide) h (fun r w9 hq => ?_)
  rcases hq with ⟨a, rfl, hQ⟩ | ⟨rfl, hQ⟩
  · refine Or.inl ⟨rfl, ?_⟩
    refine WP.blk 3 ?_
    show WP 4 130 19 [vR x, vI v1, vI v2, vI v3, vI a, none] [vI a] w9 Q
    exact WP.ret rfl rfl rfl trivial hQ
  · refine Or.inr ⟨by decide, 14, 5, rfl, ⟨rfl, Nat.le_of_ble_eq_true rfl⟩, ?_⟩
    show WP 4 130 14 [vR x, vI v1, vI v2, vI v3, none, none] [] w9 Q
    refine WP.blk 1 ?_
    show WP 4 130 16 [vR x, vI v1, vI v2, vI v3, none, none] [vI (-5000003)] w9 Q
    exact WP.ret rfl rfl rfl trivial hQ
theorem w_word {w : Wd} {x : Nat} {v1 v2 : Int} {Q : Res → Wd → Prop} (hx : ty w x = 9) (h : EvQ 7 75 [vR x, vI v1, vI v2] w (WQ2 3 1 Q)) : EvQ 8 131 [vR x, vI v1, vI v2] w Q := by
  refine EvQ.enter (ls := [vR x, vI v1, vI v2, none, none]) (Nat.le_of_ble_eq_true rfl) rfl ?_
  refine WP.blk 3 ?_
  show WP 7 131 3 [vR x, vI v1, vI v2, none, none] [vI v2, vI v1, vR x] w Q
  refine WP.callx (a := [vR x, vI v1, vI v2]) (rest := []) rfl rfl rfl rfl ⟨hx, trivial⟩ (by decide) h (fun r w9 hq => ?_)
  rcases hq with ⟨a, rfl, hQ⟩ | ⟨rfl, hQ⟩ | ⟨rfl, hQ⟩
  · refine Or.inl ⟨rfl, ?_⟩
    refine WP.blk 3 ?_
    show WP 7 131 21 [vR x, vI v1, vI v2, vI a, none] [vI a] w9 Q
    exact WP.ret rfl rfl rfl trivial hQ
  · refine Or.inr ⟨by decide, 12, 4, rfl, ⟨rfl, Nat.le_of_ble_eq_true rfl⟩, ?_⟩
    show WP 7 131 12 [vR x, vI v1, vI v2, none, none] [] w9 Q
    refine WP.blk 1 ?_
    show WP 7 131 14 [vR x, vI v1, vI v2, none, none] [vI (-5000003)] w9 Q
    exact WP.ret rfl rfl rfl trivial hQ
  · refine Or.inr ⟨by decide, 17, 4, rfl, ⟨rfl, Nat.le_of_ble_eq_true rfl⟩, ?_⟩
    show WP 7 131 17 [vR x, vI v1, vI v2, none, none] [] w9 Q
    refine WP.blk 1 ?_
    show WP 7 131 19 [vR x, vI v1, vI v2, none, none] [vI (-5000001)] w9 Q
    exact WP.ret rfl rfl rfl trivial hQ
theorem w_letter {w : Wd} {x : Nat} {v1 v2 : Int} {Q : Res → Wd → Prop} (hx : ty w x = 9) (h : EvQ 3 76 [vR x, vI v1, vI v2] w (WQ1 3 Q)) : EvQ 4 132 [vR x, vI v1, vI v2] w Q := by
  refine EvQ.enter (ls := [vR x, vI v1, vI v2, none, none]) (Nat.le_of_ble_eq_true rfl) rfl ?_
  refine WP.blk 3 ?_
  show WP 3 132 3 [vR x, vI v1, vI v2, none, none] [vI v2, vI v1, vR x] w Q
  refine WP.callx (a := [vR x, vI v1, vI v2]) (rest := []) rfl rfl rfl rfl ⟨hx, trivial⟩ (by decide) h (fun r w9 hq => ?_)
  rcases hq with ⟨a, rfl, hQ⟩ | ⟨rfl, hQ⟩
  · refine Or.inl ⟨rfl, ?_⟩
    refine WP.blk 3 ?_
    show WP 3 132 16 [vR x, vI v1, vI v2, vI a, none] [vI a] w9 Q
    exact WP.ret rfl rfl rfl trivial hQ
  · refine Or.inr ⟨by decide, 12, 4, rfl, ⟨rfl, Nat.le_of_ble_eq_true rfl⟩, ?_⟩
    show WP 3 132 12 [vR x, vI v1, vI v2, none, none] [] w9 Q
    refine WP.blk 1 ?_
    show WP 3 132 14 [vR x, vI v1, vI v2, none, none] [vI (-5000003)] w9 Q
    exact WP.ret rfl rfl rfl trivial hQ
theorem w_press {w : Wd} {x : Nat} {v1 v2 : Int} {Q : Res → Wd → Prop} (hx : ty w x = 9) (h : EvQ 6 77 [vR x, vI v1, vI v2] w (WQ1 3 Q)) : EvQ 7 133 [vR x, vI v1, vI v2] w Q := by
  refine EvQ.enter (ls := [vR x, vI v1, vI v2, none, none]) (Nat.le_of_ble_eq_true rfl) rfl ?_
  refine WP.blk 3 ?_
  show WP 6 133 3 [vR x, vI v1, vI v2, none, none] [vI v2, vI v1, vR x] w Q
  refine WP.callx (a := [vR x, vI v1, vI v2]) (rest := []) rfl rfl rfl rfl ⟨hx, trivial⟩ (by decide) h (fun r w9 hq => ?_)
  rcases hq with ⟨a, rfl, hQ⟩ | ⟨rfl, hQ⟩
  · refine Or.inl ⟨rfl, ?_⟩
    refine WP.blk 3 ?_
    show WP 6 133 16 [vR x, vI v1, vI v2, vI a, none] [vI a] w9 Q
    exact WP.ret rfl rfl rfl trivial hQ
  · refine Or.inr ⟨by decide, 12, 4, rfl, ⟨rfl, Nat.le_of_ble_eq_true rfl⟩, ?_⟩
    show WP 6 133 12 [vR x, vI v1, vI v2, none, none] [] w9 Q
    refine WP.blk 1 ?_
    show WP 6 133 14 [vR x, vI v1, vI v2, none, none] [vI (-5000003)] w9 Q
    exact WP.ret rfl rfl rfl trivial hQ
theorem w_write {w : Wd} {x : Nat} {v1 : Int} {Q : Res → Wd → Prop} (hx : ty w x = 9) (h : EvQ 6 78 [vR x, vI v1] w (WQ2 3 2 Q)) : EvQ 7 134 [vR x, vI v1] w Q := by
  refine EvQ.enter (ls := [vR x, vI v1, none, none]) (Nat.le_of_ble_eq_true rfl) rfl ?_
  refine WP.blk 2 ?_
  show WP 6 134 2 [vR x, vI v1, none, none] [vI v1, vR x] w Q
  refine WP.callx (a := [vR x, vI v1]) (rest := []) rfl rfl rfl rfl ⟨hx, trivial⟩ (by decide) h (fun r w9 hq => ?_)
  rcases hq with ⟨a, rfl, hQ⟩ | ⟨rfl, hQ⟩ | ⟨rfl, hQ⟩
  · refine Or.inl ⟨rfl, ?_⟩
    refine WP.blk 3 ?_
    show WP 6 134 18 [vR x, vI v1, vI a, none] [vI a] w9 Q
    exact WP.ret rfl rfl rfl trivial hQ
  · refine Or.inr ⟨by decide, 10, 3, rfl, ⟨rfl, Nat.le_of_ble_eq_true rfl⟩, ?_⟩
    show WP 6 134 10 [vR x, vI v1, none, none] [] w9 Q
    refine WP.blk 1 ?_
    show WP 6 134 12 [vR x, vI v1, none, none] [vI (-5000003)] w9 Q
    exact WP.ret rfl rfl rfl trivial hQ
  · refine Or.inr ⟨by decide, 14, 3, rfl, ⟨rfl, Nat.le_of_ble_eq_true rfl⟩, ?_⟩
    show WP 6 134 14 [vR x, vI v1, none, none] [] w9 Q
    refine WP.blk 1 ?_
    show WP 6 134 16 [vR x, vI v1, none, none] [vI (-5000002)] w9 Q
    exact WP.ret rfl rfl rfl trivial hQ
theorem w_needed {w : Wd} {x : Nat} {v1 : Int} {Q : Res → Wd → Prop} (hx : ty w x = 9) (h : EvQ 5 81 [vR x, vI v1] w (WQ1 3 Q)) : EvQ 6 135 [vR x, vI v1] w Q := by
  refine EvQ.enter (ls := [vR x, vI v1, none, none]) (Nat.le_of_ble_eq_true rfl) rfl ?_
  refine WP.blk 2 ?_
  show WP 5 135 2 [vR x, vI v1, none, none] [vI v1, vR x] w Q
  refine WP.callx (a := [vR x, vI v1]) (rest := []) rfl rfl rfl rfl ⟨hx, trivial⟩ (by decide) h (fun r w9 hq => ?_)
  rcases hq with ⟨a, rfl, hQ⟩ | ⟨rfl, hQ⟩
  · refine Or.inl ⟨rfl, ?_⟩
    refine WP.blk 3 ?_
    show WP 5 135 14 [vR x, vI v1, vI a, none] [vI a] w9 Q
    exact WP.ret rfl rfl rfl trivial hQ
  · refine Or.inr ⟨by decide, 10, 3, rfl, ⟨rfl, Nat.le_of_ble_eq_true rfl⟩, ?_⟩
    show WP 5 135 10 [vR x, vI v1, none, none] [] w9 Q
    refine WP.blk 1 ?_
    show WP 5 135 12 [vR x, vI v1, none, none] [vI (-5000003)] w9 Q
    exact WP.ret rfl rfl rfl trivial hQ
theorem w_order {w : Wd} {x : Nat} {v1 : Int} {Q : Res → Wd → Prop} (hx : ty w x = 9) (h : EvQ 16 82 [vR x, vI v1] w (WQ2 3 2 Q)) : EvQ 17 136 [vR x, vI v1] w Q := by
  refine EvQ.enter (ls := [vR x, vI v1, none, none]) (Nat.le_of_ble_eq_true rfl) rfl ?_
  refine WP.blk 2 ?_
  show WP 16 136 2 [vR x, vI v1, none, none] [vI v1, vR x] w Q
  refine WP.callx (a := [vR x, vI v1]) (rest := []) rfl rfl rfl rfl ⟨hx, trivial⟩ (by decide) h (fun r w9 hq => ?_)
  rcases hq with ⟨a, rfl, hQ⟩ | ⟨rfl, hQ⟩ | ⟨rfl, hQ⟩
  · refine Or.inl ⟨rfl, ?_⟩
    refine WP.blk 3 ?_
    show WP 16 136 18 [vR x, vI v1, vI a, none] [vI a] w9 Q
    exact WP.ret rfl rfl rfl trivial hQ
  · refine Or.inr ⟨by decide, 10, 3, rfl, ⟨rfl, Nat.le_of_ble_eq_true rfl⟩, ?_⟩
    show WP 16 136 10 [vR x, vI v1, none, none] [] w9 Q
    refine WP.blk 1 ?_
    show WP 16 136 12 [vR x, vI v1, none, none] [vI (-5000003)] w9 Q
    exact WP.ret rfl rfl rfl trivial hQ
  · refine Or.inr ⟨by decide, 14, 3, rfl, ⟨rfl, Nat.le_of_ble_eq_true rfl⟩, ?_⟩
    show WP 16 136 14 [vR x, vI v1, none, none] [] w9 Q
    refine WP.blk 1 ?_
    show WP 16 136 16 [vR x, vI v1, none, none] [vI (-5000002)] w9 Q
    exact WP.ret rfl rfl rfl trivial hQ
theorem w_bestCut {w : Wd} {x : Nat} {v1 v2 : Int} {Q : Res → Wd → Prop} (hx : ty w x = 9) (h : EvQ 8 84 [vR x, vI v1, vI v2] w (WQ1 1 Q)) : EvQ 9 137 [vR x, vI v1, vI v2] w Q := by
  refine EvQ.enter (ls := [vR x, vI v1, vI v2, none, none]) (Nat.le_of_ble_eq_true rfl) rfl ?_
  refine WP.blk 3 ?_
  show WP 8 137 3 [vR x, vI v1, vI v2, none, none] [vI v2, vI v1, vR x] w Q
  refine WP.callx (a := [vR x, vI v1, vI v2]) (rest := []) rfl rfl rfl rfl ⟨hx, trivial⟩ (by decide) h (fun r w9 hq => ?_)
  rcases hq with ⟨a, rfl, hQ⟩ | ⟨rfl, hQ⟩
  · refine Or.inl ⟨rfl, ?_⟩
    refine WP.blk 3 ?_
    show WP 8 137 16 [vR x, vI v1, vI v2, vI a, none] [vI a] w9 Q
    exact WP.ret rfl rfl rfl trivial hQ
  · refine Or.inr ⟨by decide, 12, 4, rfl, ⟨rfl, Nat.le_of_ble_eq_true rfl⟩, ?_⟩
    show WP 8 137 12 [vR x, vI v1, vI v2, none, none] [] w9 Q
    refine WP.blk 1 ?_
    show WP 8 137 14 [vR x, vI v1, vI v2, none, none] [vI (-5000001)] w9 Q
    exact WP.ret rfl rfl rfl trivial hQ
theorem w_undo {w : Wd} {x : Nat} {Q : Res → Wd → Prop} (hx : ty w x = 9) (h : EvQ 7 86 [vR x] w (WQ1 2 Q)) : EvQ 8 138 [vR x] w Q := by
  refine EvQ.enter (ls := [vR x, none, none]) (Nat.le_of_ble_eq_true rfl) rfl ?_
  refine WP.blk 1 ?_
  show WP 7 138 1 [vR x, none, none] [vR x] w Q
  refine WP.callx (a := [vR x]) (rest := []) rfl rfl rfl rfl ⟨hx, trivial⟩ (by decide) h (fun r w9 hq => ?_)
  rcases hq with ⟨a, rfl, hQ⟩ | ⟨rfl, hQ⟩
  · refine Or.inl ⟨rfl, ?_⟩
    refine WP.blk 3 ?_
    show WP 7 138 13 [vR x, vI a, none] [vI a] w9 Q
    exact WP.ret rfl rfl rfl trivial hQ
  · refine Or.inr ⟨by decide, 9, 2, rfl, ⟨rfl, Nat.le_of_ble_eq_true rfl⟩, ?_⟩
    show WP 7 138 9 [vR x, none, none] [] w9 Q
    refine WP.blk 1 ?_
    show WP 7 138 11 [vR x, none, none] [vI (-5000002)] w9 Q
    exact WP.ret rfl rfl rfl trivial hQ
