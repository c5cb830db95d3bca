/-! the law: the wrappers -/
def WQ1 (u e1 : Nat) (Q : Res → Wd → Prop) : Res → Wd → Prop := fun r w' => (∃ a, r = (0, vI a) ∧ (ty w' u = 12 ∧ ln w' u = 1) ∧ Q (0, vI 0) (si w' u 0 a)) ∨ (r = (e1, none) ∧ Q (0, vI 1) w')
def WQ2 (u e1 e2 : Nat) (Q : Res → Wd → Prop) : Res → Wd → Prop := fun r w' => (∃ a, r = (0, vI a) ∧ (ty w' u = 12 ∧ ln w' u = 1) ∧ Q (0, vI 0) (si w' u 0 a)) ∨ (r = (e1, none) ∧ Q (0, vI 1) w') ∨ (r = (e2, none) ∧ Q (0, vI 2) w')
def WQ3 (u e1 e2 e3 : Nat) (Q : Res → Wd → Prop) : Res → Wd → Prop := fun r w' => (∃ a, r = (0, vI a) ∧ (ty w' u = 12 ∧ ln w' u = 1) ∧ Q (0, vI 0) (si w' u 0 a)) ∨ (r = (e1, none) ∧ Q (0, vI 1) w') ∨ (r = (e2, none) ∧ Q (0, vI 2) w') ∨ (r = (e3, none) ∧ Q (0, vI 3) w')
/-- what the reference ends with: thrown c, and where that is 0 the value that the cell u has; then P -/
def LQ (S : SD) (m u : Nat) (c : Int) (P : (Nat → Int → Int) → Prop) : Res → Wd → Prop := fun r w' => ∃ y M3, r = (0, vI y) ∧ w' = (M3, S) ∧ M3 m 5 = c ∧ (c = 0 → M3 u 0 = y) ∧ P M3
theorem lC_s (a : Int) : lC a a = 0 := by
  unfold lC lg_cmp
  simp
theorem w_append {w : Wd} {x u : Nat} {v1 : Int} {Q : Res → Wd → Prop} (hx : ty w x = 9) (h : EvQ 1 63 [vR x, vI v1] w (WQ2 u 1 2 Q)) : EvQ 2 181 [vR x, vI v1, vR u] w Q := by
  refine EvQ.enter (ls := [vR x, vI v1, vR u, none]) (Nat.le_of_ble_eq_true rfl) rfl ?_
  refine WP.blk 1 ?_
  show WP 1 181 1 [vR x, vI v1, vR u, none] [vR u] w Q
  refine WP.blk 1 ?_
  show WP 1 181 2 [vR x, vI v1, vR u, none] [vI 0, vR u] w Q
  refine WP.blk 1 ?_
  show WP 1 181 3 [vR x, vI v1, vR u, none] [vR x, vI 0, vR u] w Q
  refine WP.blk 1 ?_
  show WP 1 181 4 [vR x, vI v1, vR u, none] [vI v1, vR x, vI 0, vR u] w Q
  refine WP.callx (a := [vR x, vI v1]) (rest := [vI 0, vR u]) rfl rfl rfl rfl ⟨hx, trivial⟩ (by decide) h (fun r w9 hq => ?_)
  rcases hq with ⟨a, rfl, ho, hQ⟩ | ⟨rfl, hQ⟩ | ⟨rfl, hQ⟩
  · refine Or.inl ⟨rfl, ?_⟩
    show WP 1 181 7 [vR x, vI v1, vR u, none] [vI a, vI 0, vR u] w9 Q
    refine WP.blk 1 ?_
    show WP 1 181 8 [vR x, vI v1, vR u, none] [vL a, vI 0, vR u] w9 Q
    refine WP.blk 1 ?_
    show (ty w9 u = 12 ∧ (0 : Int) ≤ 0 ∧ (0 : Int) < (ln w9 u : Int)) ∧ WP 1 181 9 [vR x, vI v1, vR u, none] [] (si w9 u 0 a) Q
    refine ⟨⟨ho.1, by decide, by rw [ho.2]; decide⟩, ?_⟩
    refine WP.blk 1 ?_
    show WP 1 181 18 [vR x, vI v1, vR u, none] [] (si w9 u 0 a) Q
    refine WP.blk 1 ?_
    show WP 1 181 19 [vR x, vI v1, vR u, none] [vI 0] (si w9 u 0 a) Q
    exact WP.ret rfl rfl rfl trivial hQ
  · refine Or.inr ⟨by decide, 13, 3, rfl, ⟨rfl, Nat.le_of_ble_eq_true rfl⟩, ?_⟩
    show WP 1 181 13 [vR x, vI v1, vR u, none] [] w9 Q
    refine WP.blk 1 ?_
    show WP 1 181 14 [vR x, vI v1, vR u, none] [vI 1] w9 Q
    exact WP.ret rfl rfl rfl trivial hQ
  · refine Or.inr ⟨by decide, 16, 3, rfl, ⟨rfl, Nat.le_of_ble_eq_true rfl⟩, ?_⟩
    show WP 1 181 16 [vR x, vI v1, vR u, none] [] w9 Q
    refine WP.blk 1 ?_
    show WP 1 181 17 [vR x, vI v1, vR u, none] [vI 2] w9 Q
    exact WP.ret rfl rfl rfl trivial hQ
theorem w_cut {w : Wd} {x u : Nat} {v1 v2 v3 : Int} {Q : Res → Wd → Prop} (hx : ty w x = 9) (h : EvQ 7 66 [vR x, vI v1, vI v2, vI v3] w (WQ3 u 3 1 2 Q)) : EvQ 8 182 [vR x, vI v1, vI v2, vI v3, vR u] w Q := by
  refine EvQ.enter (ls := [vR x, vI v1, vI v2, vI v3, vR u, none]) (Nat.le_of_ble_eq_true rfl) rfl ?_
  refine WP.blk 1 ?_
  show WP 7 182 2 [vR x, vI v1, vI v2, vI v3, vR u, none] [vR u] w Q
  refine WP.blk 1 ?_
  show WP 7 182 3 [vR x, vI v1, vI v2, vI v3, vR u, none] [vI 0, vR u] w Q
  refine WP.blk 1 ?_
  show WP 7 182 4 [vR x, vI v1, vI v2, vI v3, vR u, none] [vR x, vI 0, vR u] w Q
  refine WP.blk 1 ?_
  show WP 7 182 5 [vR x, vI v1, vI v2, vI v3, vR u, none] [vI v1, vR x, vI 0, vR u] w Q
  refine WP.blk 1 ?_
  show WP 7 182 6 [vR x, vI v1, vI v2, vI v3, vR u, none] [vI v2, vI v1, vR x, vI 0, vR u] w Q
  refine WP.blk 1 ?_
  show WP 7 182 7 [vR x, vI v1, vI v2, vI v3, vR u, none] [vI v3, vI v2, vI v1, vR x, vI 0, vR u] w Q
  refine WP.callx (a := [vR x, vI v1, vI v2, vI v3]) (rest := [vI 0, vR u]) rfl rfl rfl rfl ⟨hx, trivial⟩ (by decide) h (fun r w9 hq => ?_)
  rcases hq with ⟨a, rfl, ho, hQ⟩ | ⟨rfl, hQ⟩ | ⟨rfl, hQ⟩ | ⟨rfl, hQ⟩
  · refine Or.inl ⟨rfl, ?_⟩
    show WP 7 182 10 [vR x, vI v1, vI v2, vI v3, vR u, none] [vI a, vI 0, vR u] w9 Q
    refine WP.blk 1 ?_
    show WP 7 182 11 [vR x, vI v1, vI v2, vI v3, vR u, none] [vL a, vI 0, vR u] w9 Q
    refine WP.blk 1 ?_
    show (ty w9 u = 12 ∧ (0 : Int) ≤ 0 ∧ (0 : Int) < (ln w9 u : Int)) ∧ WP 7 182 12 [vR x, vI v1, vI v2, vI v3, vR u, none] [] (si w9 u 0 a) Q
    refine ⟨⟨ho.1, by decide, by rw [ho.2]; decide⟩, ?_⟩
    refine WP.blk 1 ?_
    show WP 7 182 27 [vR x, vI v1, vI v2, vI v3, vR u, none] [] (si w9 u 0 a) Q
    refine WP.blk 1 ?_
    show WP 7 182 28 [vR x, vI v1, vI v2, vI v3, vR u, none] [vI 0] (si w9 u 0 a) Q
    exact WP.ret rfl rfl rfl trivial hQ
  · refine Or.inr ⟨by decide, 17, 5, rfl, ⟨rfl, Nat.le_of_ble_eq_true rfl⟩, ?_⟩
    show WP 7 182 17 [vR x, vI v1, vI v2, vI v3, vR u, none] [] w9 Q
    refine WP.blk 1 ?_
    show WP 7 182 18 [vR x, vI v1, vI v2, vI v3, vR u, none] [vI 1] w9 Q
    exact WP.ret rfl rfl rfl trivial hQ
  · refine Or.inr ⟨by decide, 21, 5, rfl, ⟨rfl, Nat.le_of_ble_eq_true rfl⟩, ?_⟩
    show WP 7 182 21 [vR x, vI v1, vI v2, vI v3, vR u, none] [] w9 Q
    refine WP.blk 1 ?_
    show WP 7 182 22 [vR x, vI v1, vI v2, vI v3, vR u, none] [vI 2] w9 Q
    exact WP.ret rfl rfl rfl trivial hQ
  · refine Or.inr ⟨by decide, 25, 5, rfl, ⟨rfl, Nat.le_of_ble_eq_true rfl⟩, ?_⟩
    show WP 7 182 25 [vR x, vI v1, vI v2, vI v3, vR u, none] [] w9 Q
    refine WP.blk 1 ?_
    show WP 7 182 26 [vR x, vI v1, vI v2, vI v3, vR u, none] [vI 3] w9 Q
    exact WP.ret rfl rfl rfl trivial hQ
theorem w_remove {w : Wd} {x u : Nat} {v1 : Int} {Q : Res → Wd → Prop} (hx : ty w x = 9) (h : EvQ 7 67 [vR x, vI v1] w (WQ1 u 3 Q)) : EvQ 8 183 [vR x, vI v1, vR u] w Q := by
  refine EvQ.enter (ls := [vR x, vI v1, vR u, none]) (Nat.le_of_ble_eq_true rfl) rfl ?_
  refine WP.blk 1 ?_
  show WP 7 183 1 [vR x, vI v1, vR u, none] [vR u] w Q
  refine WP.blk 1 ?_
  show WP 7 183 2 [vR x, vI v1, vR u, none] [vI 0, vR u] w Q
  refine WP.blk 1 ?_
  show WP 7 183 3 [vR x, vI v1, vR u, none] [vR x, vI 0, vR u] w Q
  refine WP.blk 1 ?_
  show WP 7 183 4 [vR x, vI v1, vR u, none] [vI v1, vR x, vI 0, vR u] w Q
  refine WP.callx (a := [vR x, vI v1]) (rest := [vI 0, vR u]) rfl rfl rfl rfl ⟨hx, trivial⟩ (by decide) h (fun r w9 hq => ?_)
  rcases hq with ⟨a, rfl, ho, hQ⟩ | ⟨rfl, hQ⟩
  · refine Or.inl ⟨rfl, ?_⟩
    show WP 7 183 7 [vR x, vI v1, vR u, none] [vI a, vI 0, vR u] w9 Q
    refine WP.blk 1 ?_
    show WP 7 183 8 [vR x, vI v1, vR u, none] [vL a, vI 0, vR u] w9 Q
    refine WP.blk 1 ?_
    show (ty w9 u = 12 ∧ (0 : Int) ≤ 0 ∧ (0 : Int) < (ln w9 u : Int)) ∧ WP 7 183 9 [vR x, vI v1, vR u, none] [] (si w9 u 0 a) Q
    refine ⟨⟨ho.1, by decide, by rw [ho.2]; decide⟩, ?_⟩
    refine WP.blk 1 ?_
    show WP 7 183 15 [vR x, vI v1, vR u, none] [] (si w9 u 0 a) Q
    refine WP.blk 1 ?_
    show WP 7 183 16 [vR x, vI v1, vR u, none] [vI 0] (si w9 u 0 a) Q
    exact WP.ret rfl rfl rfl trivial hQ
  · refine Or.inr ⟨by decide, 13, 3, rfl, ⟨rfl, Nat.le_of_ble_eq_true rfl⟩, ?_⟩
    show WP 7 183 13 [vR x, vI v1, vR u, none] [] w9 Q
    refine WP.blk 1 ?_
    show WP 7 183 14 [vR x, vI v1, vR u, none] [vI 1] w9 Q
    exact WP.ret rfl rfl rfl trivial hQ
theorem w_drop {w : Wd} {x u : Nat} {v1 : Int} {Q : Res → Wd → Prop} (hx : ty w x = 9) (h : EvQ 7 68 [vR x, vI v1] w (WQ1 u 3 Q)) : EvQ 8 184 [vR x, vI v1, vR u] w Q := by
  refine EvQ.enter (ls := [vR x, vI v1, vR u, none]) (Nat.le_of_ble_eq_true rfl) rfl ?_
  refine WP.blk 1 ?_
  show WP 7 184 1 [vR x, vI v1, vR u, none] [vR u] w Q
  refine WP.blk 1 ?_
  show WP 7 184 2 [vR x, vI v1, vR u, none] [vI 0, vR u] w Q
  refine WP.blk 1 ?_
  show WP 7 184 3 [vR x, vI v1, vR u, none] [vR x, vI 0, vR u] w Q
  refine WP.blk 1 ?_
  show WP 7 184 4 [vR x, vI v1, vR u, none] [vI v1, vR x, vI 0, vR u] w Q
  refine WP.callx (a := [vR x, vI v1]) (rest := [vI 0, vR u]) rfl rfl rfl rfl ⟨hx, trivial⟩ (by decide) h (fun r w9 hq => ?_)
  rcases hq with ⟨a, rfl, ho, hQ⟩ | ⟨rfl, hQ⟩
  · refine Or.inl ⟨rfl, ?_⟩
    show WP 7 184 7 [vR x, vI v1, vR u, none] [vI a, vI 0, vR u] w9 Q
    refine WP.blk 1 ?_
    show WP 7 184 8 [vR x, vI v1, vR u, none] [vL a, vI 0, vR u] w9 Q
    refine WP.blk 1 ?_
    show (ty w9 u = 12 ∧ (0 : Int) ≤ 0 ∧ (0 : Int) < (ln w9 u : Int)) ∧ WP 7 184 9 [vR x, vI v1, vR u, none] [] (si w9 u 0 a) Q
    refine ⟨⟨ho.1, by decide, by rw [ho.2]; decide⟩, ?_⟩
    refine WP.blk 1 ?_
    show WP 7 184 15 [vR x, vI v1, vR u, none] [] (si w9 u 0 a) Q
    refine WP.blk 1 ?_
    show WP 7 184 16 [vR x, vI v1, vR u, none] [vI 0] (si w9 u 0 a) Q
    exact WP.ret rfl rfl rfl trivial hQ
  · refine Or.inr ⟨by decide, 13, 3, rfl, ⟨rfl, Nat.le_of_ble_eq_true rfl⟩, ?_⟩
    show WP 7 184 13 [vR x, vI v1, vR u, none] [] w9 Q
    refine WP.blk 1 ?_
    show WP 7 184 14 [vR x, vI v1, vR u, none] [vI 1] w9 Q
    exact WP.ret rfl rfl rfl trivial hQ
theorem w_setColor {w : Wd} {x u : Nat} {v1 v2 : Int} {Q : Res → Wd → Prop} (hx : ty w x = 9) (h : EvQ 5 69 [vR x, vI v1, vI v2] w (WQ2 u 3 1 Q)) : EvQ 6 185 [vR x, vI v1, vI v2, vR u] w Q := by
  refine EvQ.enter (ls := [vR x, vI v1, vI v2, vR u, none]) (Nat.le_of_ble_eq_true rfl) rfl ?_
  refine WP.blk 1 ?_
  show WP 5 185 1 [vR x, vI v1, vI v2, vR u, none] [vR u] w Q
  refine WP.blk 1 ?_
  show WP 5 185 2 [vR x, vI v1, vI v2, vR u, none] [vI 0, vR u] w Q
  refine WP.blk 1 ?_
  show WP 5 185 3 [vR x, vI v1, vI v2, vR u, none] [vR x, vI 0, vR u] w Q
  refine WP.blk 1 ?_
  show WP 5 185 4 [vR x, vI v1, vI v2, vR u, none] [vI v1, vR x, vI 0, vR u] w Q
  refine WP.blk 1 ?_
  show WP 5 185 5 [vR x, vI v1, vI v2, vR u, none] [vI v2, vI v1, vR x, vI 0, vR u] w Q
  refine WP.callx (a := [vR x, vI v1, vI v2]) (rest := [vI 0, vR u]) rfl rfl rfl rfl ⟨hx, trivial⟩ (by decide) h (fun r w9 hq => ?_)
  rcases hq with ⟨a, rfl, ho, hQ⟩ | ⟨rfl, hQ⟩ | ⟨rfl, hQ⟩
  · refine Or.inl ⟨rfl, ?_⟩
    show WP 5 185 8 [vR x, vI v1, vI v2, vR u, none] [vI a, vI 0, vR u] w9 Q
    refine WP.blk 1 ?_
    show WP 5 185 9 [vR x, vI v1, vI v2, vR u, none] [vL a, vI 0, vR u] w9 Q
    refine WP.blk 1 ?_
    show (ty w9 u = 12 ∧ (0 : Int) ≤ 0 ∧ (0 : Int) < (ln w9 u : Int)) ∧ WP 5 185 10 [vR x, vI v1, vI v2, vR u, none] [] (si w9 u 0 a) Q
    refine ⟨⟨ho.1, by decide, by rw [ho.2]; decide⟩, ?_⟩
    refine WP.blk 1 ?_
    show WP 5 185 21 [vR x, vI v1, vI v2, vR u, none] [] (si w9 u 0 a) Q
    refine WP.blk 1 ?_
    show WP 5 185 22 [vR x, vI v1, vI v2, vR u, none] [vI 0] (si w9 u 0 a) Q
    exact WP.ret rfl rfl rfl trivial hQ
  · refine Or.inr ⟨by decide, 15, 4, rfl, ⟨rfl, Nat.le_of_ble_eq_true rfl⟩, ?_⟩
    show WP 5 185 15 [vR x, vI v1, vI v2, vR u, none] [] w9 Q
    refine WP.blk 1 ?_
    show WP 5 185 16 [vR x, vI v1, vI v2, vR u, none] [vI 1] w9 Q
    exact WP.ret rfl rfl rfl trivial hQ
  · refine Or.inr ⟨by decide, 19, 4, rfl, ⟨rfl, Nat.le_of_ble_eq_true rfl⟩, ?_⟩
    show WP 5 185 19 [vR x, vI v1, vI v2, vR u, none] [] w9 Q
    refine WP.blk 1 ?_
    show WP 5 185 20 [vR x, vI v1, vI v2, vR u, none] [vI 2] w9 Q
    exact WP.ret rfl rfl rfl trivial hQ
theorem w_setLimits {w : Wd} {x u : Nat} {v1 v2 : Int} {Q : Res → Wd → Prop} (hx : ty w x = 9) (h : EvQ 5 70 [vR x, vI v1, vI v2] w (WQ1 u 1 Q)) : EvQ 6 186 [vR x, vI v1, vI v2, vR u] w Q := by
  refine EvQ.enter (ls := [vR x, vI v1, vI v2, vR u, none]) (Nat.le_of_ble_eq_true rfl) rfl ?_
  refine WP.blk 1 ?_
  show WP 5 186 1 [vR x, vI v1, vI v2, vR u, none] [vR u] w Q
  refine WP.blk 1 ?_
  show WP 5 186 2 [vR x, vI v1, vI v2, vR u, none] [vI 0, vR u] w Q
  refine WP.blk 1 ?_
  show WP 5 186 3 [vR x, vI v1, vI v2, vR u, none] [vR x, vI 0, vR u] w Q
  refine WP.blk 1 ?_
  show WP 5 186 4 [vR x, vI v1, vI v2, vR u, none] [vI v1, vR x, vI 0, vR u] w Q
  refine WP.blk 1 ?_
  show WP 5 186 5 [vR x, vI v1, vI v2, vR u, none] [vI v2, vI v1, vR x, vI 0, vR u] w Q
  refine WP.callx (a := [vR x, vI v1, vI v2]) (rest := [vI 0, vR u]) rfl rfl rfl rfl ⟨hx, trivial⟩ (by decide) h (fun r w9 hq => ?_)
  rcases hq with ⟨a, rfl, ho, hQ⟩ | ⟨rfl, hQ⟩
  · refine Or.inl ⟨rfl, ?_⟩
    show WP 5 186 8 [vR x, vI v1, vI v2, vR u, none] [vI a, vI 0, vR u] w9 Q
    refine WP.blk 1 ?_
    show WP 5 186 9 [vR x, vI v1, vI v2, vR u, none] [vL a, vI 0, vR u] w9 Q
    refine WP.blk 1 ?_
    show (ty w9 u = 12 ∧ (0 : Int) ≤ 0 ∧ (0 : Int) < (ln w9 u : Int)) ∧ WP 5 186 10 [vR x, vI v1, vI v2, vR u, none] [] (si w9 u 0 a) Q
    refine ⟨⟨ho.1, by decide, by rw [ho.2]; decide⟩, ?_⟩
    refine WP.blk 1 ?_
    show WP 5 186 17 [vR x, vI v1, vI v2, vR u, none] [] (si w9 u 0 a) Q
    refine WP.blk 1 ?_
    show WP 5 186 18 [vR x, vI v1, vI v2, vR u, none] [vI 0] (si w9 u 0 a) Q
    exact WP.ret rfl rfl rfl trivial hQ
  · refine Or.inr ⟨by decide, 15, 4, rfl, ⟨rfl, Nat.le_of_ble_eq_true rfl⟩, ?_⟩
    show WP 5 186 15 [vR x, vI v1, vI v2, vR u, none] [] w9 Q
    refine WP.blk 1 ?_
    show WP 5 186 16 [vR x, vI v1, vI v2, vR u, none] [vI 1] w9 Q
    exact WP.ret rfl rfl rfl trivial hQ
theorem w_clean {w : Wd} {x u : Nat} {v1 : Int} {Q : Res → Wd → Prop} (hx : ty w x = 9) (h : EvQ 5 71 [vR x, vI v1] w (WQ1 u 3 Q)) : EvQ 6 187 [vR x, vI v1, vR u] w Q := by
  refine EvQ.enter (ls := [vR x, vI v1, vR u, none]) (Nat.le_of_ble_eq_true rfl) rfl ?_
  refine WP.blk 1 ?_
  show WP 5 187 1 [vR x, vI v1, vR u, none] [vR u] w Q
  refine WP.blk 1 ?_
  show WP 5 187 2 [vR x, vI v1, vR u, none] [vI 0, vR u] w Q
  refine WP.blk 1 ?_
  show WP 5 187 3 [vR x, vI v1, vR u, none] [vR x, vI 0, vR u] w Q
  refine WP.blk 1 ?_
  show WP 5 187 4 [vR x, vI v1, vR u, none] [vI v1, vR x, vI 0, vR u] w Q
  refine WP.callx (a := [vR x, vI v1]) (rest := [vI 0, vR u]) rfl rfl rfl rfl ⟨hx, trivial⟩ (by decide) h (fun r w9 hq => ?_)
  rcases hq with ⟨a, rfl, ho, hQ⟩ | ⟨rfl, hQ⟩
  · refine Or.inl ⟨rfl, ?_⟩
    show WP 5 187 7 [vR x, vI v1, vR u, none] [vI a, vI 0, vR u] w9 Q
    refine WP.blk 1 ?_
    show WP 5 187 8 [vR x, vI v1, vR u, none] [vL a, vI 0, vR u] w9 Q
    refine WP.blk 1 ?_
    show (ty w9 u = 12 ∧ (0 : Int) ≤ 0 ∧ (0 : Int) < (ln w9 u : Int)) ∧ WP 5 187 9 [vR x, vI v1, vR u, none] [] (si w9 u 0 a) Q
    refine ⟨⟨ho.1, by decide, by rw [ho.2]; decide⟩, ?_⟩
    refine WP.blk 1 ?_
    show WP 5 187 15 [vR x, vI v1, vR u, none] [] (si w9 u 0 a) Q
    refine WP.blk 1 ?_
    show WP 5 187 16 [vR x, vI v1, vR u, none] [vI 0] (si w9 u 0 a) Q
    exact WP.ret rfl rfl rfl trivial hQ
  · refine Or.inr ⟨by decide, 13, 3, rfl, ⟨rfl, Nat.le_of_ble_eq_true rfl⟩, ?_⟩
    show WP 5 187 13 [vR x, vI v1, vR u, none] [] w9 Q
    refine WP.blk 1 ?_
    show WP 5 187 14 [vR x, vI v1, vR u, none] [vI 1] w9 Q
    exact WP.ret rfl rfl rfl trivial hQ
theorem w_value {w : Wd} {x u : Nat} {v1 : Int} {Q : Res → Wd → Prop} (hx : ty w x = 9) (h : EvQ 7 72 [vR x, vI v1] w (WQ1 u 1 Q)) : EvQ 8 188 [vR x, vI v1, vR u] w Q := by
  refine EvQ.enter (ls := [vR x, vI v1, vR u, none]) (Nat.le_of_ble_eq_true rfl) rfl ?_
  refine WP.blk 1 ?_
  show WP 7 188 1 [vR x, vI v1, vR u, none] [vR u] w Q
  refine WP.blk 1 ?_
  show WP 7 188 2 [vR x, vI v1, vR u, none] [vI 0, vR u] w Q
  refine WP.blk 1 ?_
  show WP 7 188 3 [vR x, vI v1, vR u, none] [vR x, vI 0, vR u] w Q
  refine WP.blk 1 ?_
  show WP 7 188 4 [vR x, vI v1, vR u, none] [vI v1, vR x, vI 0, vR u] w Q
  refine WP.callx (a := [vR x, vI v1]) (rest := [vI 0, vR u]) rfl rfl rfl rfl ⟨hx, trivial⟩ (by decide) h (fun r w9 hq => ?_)
  rcases hq with ⟨a, rfl, ho, hQ⟩ | ⟨rfl, hQ⟩
  · refine Or.inl ⟨rfl, ?_⟩
    show WP 7 188 7 [vR x, vI v1, vR u, none] [vI a, vI 0, vR u] w9 Q
    refine WP.blk 1 ?_
    show WP 7 188 8 [vR x, vI v1, vR u, none] [vL a, vI 0, vR u] w9 Q
    refine WP.blk 1 ?_
    show (ty w9 u = 12 ∧ (0 : Int) ≤ 0 ∧ (0 : Int) < (ln w9 u : Int)) ∧ WP 7 188 9 [vR x, vI v1, vR u, none] [] (si w9 u 0 a) Q
    refine ⟨⟨ho.1, by decide, by rw [ho.2]; decide⟩, ?_⟩
    refine WP.blk 1 ?_
    show WP 7 188 15 [vR x, vI v1, vR u, none] [] (si w9 u 0 a) Q
    refine WP.blk 1 ?_
    show WP 7 188 16 [vR x, vI v1, vR u, none] [vI 0] (si w9 u 0 a) Q
    exact WP.ret rfl rfl rfl trivial hQ
  · refine Or.inr ⟨by decide, 13, 3, rfl, ⟨rfl, Nat.le_of_ble_eq_true rfl⟩, ?_⟩
    show WP 7 188 13 [vR x, vI v1, vR u, none] [] w9 Q
    refine WP.blk 1 ?_
    show WP 7 188 14 [vR x, vI v1, vR u, none] [vI 1] w9 Q
    exact WP.ret rfl rfl rfl trivial hQ
theorem w_stamp {w : Wd} {x u : Nat} {v1 v2 : Int} {Q : Res → Wd → Prop} (hx : ty w x = 9) (h : EvQ 5 73 [vR x, vI v1, vI v2] w (WQ2 u 3 1 Q)) : EvQ 6 189 [vR x, vI v1, vI v2, vR u] w Q := by
  refine EvQ.enter (ls := [vR x, vI v1, vI v2, vR u, none]) (Nat.le_of_ble_eq_true rfl) rfl ?_
  refine WP.blk 1 ?_
  show WP 5 189 1 [vR x, vI v1, vI v2, vR u, none] [vR u] w Q
  refine WP.blk 1 ?_
  show WP 5 189 2 [vR x, vI v1, vI v2, vR u, none] [vI 0, vR u] w Q
  refine WP.blk 1 ?_
  show WP 5 189 3 [vR x, vI v1, vI v2, vR u, none] [vR x, vI 0, vR u] w Q
  refine WP.blk 1 ?_
  show WP 5 189 4 [vR x, vI v1, vI v2, vR u, none] [vI v1, vR x, vI 0, vR u] w Q
  refine WP.blk 1 ?_
  show WP 5 189 5 [vR x, vI v1, vI v2, vR u, none] [vI v2, vI v1, vR x, vI 0, vR u] w Q
  refine WP.callx (a := [vR x, vI v1, vI v2]) (rest := [vI 0, vR u]) rfl rfl rfl rfl ⟨hx, trivial⟩ (by decide) h (fun r w9 hq => ?_)
  rcases hq with ⟨a, rfl, ho, hQ⟩ | ⟨rfl, hQ⟩ | ⟨rfl, hQ⟩
  · refine Or.inl ⟨rfl, ?_⟩
    show WP 5 189 8 [vR x, vI v1, vI v2, vR u, none] [vI a, vI 0, vR u] w9 Q
    refine WP.blk 1 ?_
    show WP 5 189 9 [vR x, vI v1, vI v2, vR u, none] [vL a, vI 0, vR u] w9 Q
    refine WP.blk 1 ?_
    show (ty w9 u = 12 ∧ (0 : Int) ≤ 0 ∧ (0 : Int) < (ln w9 u : Int)) ∧ WP 5 189 10 [vR x, vI v1, vI v2, vR u, none] [] (si w9 u 0 a) Q
    refine ⟨⟨ho.1, by decide, by rw [ho.2]; decide⟩, ?_⟩
    refine WP.blk 1 ?_
    show WP 5 189 21 [vR x, vI v1, vI v2, vR u, none] [] (si w9 u 0 a) Q
    refine WP.blk 1 ?_
    show WP 5 189 22 [vR x, vI v1, vI v2, vR u, none] [vI 0] (si w9 u 0 a) Q
    exact WP.ret rfl rfl rfl trivial hQ
  · refine Or.inr ⟨by decide, 15, 4, rfl, ⟨rfl, Nat.le_of_ble_eq_true rfl⟩, ?_⟩
    show WP 5 189 15 [vR x, vI v1, vI v2, vR u, none] [] w9 Q
    refine WP.blk 1 ?_
    show WP 5 189 16 [vR x, vI v1, vI v2, vR u, none] [vI 1] w9 Q
    exact WP.ret rfl rfl rfl trivial hQ
  · refine Or.inr ⟨by decide, 19, 4, rfl, ⟨rfl, Nat.le_of_ble_eq_true rfl⟩, ?_⟩
    show WP 5 189 19 [vR x, vI v1, vI v2, vR u, none] [] w9 Q
    refine WP.blk 1 ?_
    show WP 5 189 20 [vR x, vI v1, vI v2, vR u, none] [vI 2] w9 Q
    exact WP.ret rfl rfl rfl trivial hQ
theorem w_print {w : Wd} {x u : Nat} {v1 v2 v3 : Int} {Q : Res → Wd → Prop} (hx : ty w x = 9) (h : EvQ 4 74 [vR x, vI v1, vI v2, vI v3] w (WQ1 u 3 Q)) : EvQ 5 190 [vR x, vI v1, vI v2, vI v3, vR u] w Q := by
  refine EvQ.enter (ls := [vR x, vI v1, vI v2, vI v3, vR u, none]) (Nat.le_of_ble_eq_true rfl) rfl ?_
  refine WP.blk 1 ?_
  show WP 4 190 2 [vR x, vI v1, vI v2, vI v3, vR u, none] [vR u] w Q
  refine WP.blk 1 ?_
  show WP 4 190 3 [vR x, vI v1, vI v2, vI v3, vR u, none] [vI 0, vR u] w Q
  refine WP.blk 1 ?_
  show WP 4 190 4 [vR x, vI v1, vI v2, vI v3, vR u, none] [vR x, vI 0, vR u] w Q
  refine WP.blk 1 ?_
  show WP 4 190 5 [vR x, vI v1, vI v2, vI v3, vR u, none] [vI v1, vR x, vI 0, vR u] w Q
  refine WP.blk 1 ?_
  show WP 4 190 6 [vR x, vI v1, vI v2, vI v3, vR u, none] [vI v2, vI v1, vR x, vI 0, vR u] w Q
  refine WP.blk 1 ?_
  show WP 4 190 7 [vR x, vI v1, vI v2, vI v3, vR u, none] [vI v3, vI v2, vI v1, vR x, vI 0, vR u] w Q
  refine WP.callx (a := [vR x, vI v1, vI v2, vI v3]) (rest := [vI 0, vR u]) rfl rfl rfl rfl ⟨hx, trivial⟩ (by decide) h (fun r w9 hq => ?_)
  rcases hq with ⟨a, rfl, ho, hQ⟩ | ⟨rfl, hQ⟩
  · refine Or.inl ⟨rfl, ?_⟩
    show WP 4 190 10 [vR x, vI v1, vI v2, vI v3, vR u, none] [vI a, vI 0, vR u] w9 Q
    refine WP.blk 1 ?_
    show WP 4 190 11 [vR x, vI v1, vI v2, vI v3, vR u, none] [vL a, vI 0, vR u] w9 Q
    refine WP.blk 1 ?_
    show (ty w9 u = 12 ∧ (0 : Int) ≤ 0 ∧ (0 : Int) < (ln w9 u : Int)) ∧ WP 4 190 12 [vR x, vI v1, vI v2, vI v3, vR u, none] [] (si w9 u 0 a) Q
    refine ⟨⟨ho.1, by decide, by rw [ho.2]; decide⟩, ?_⟩
    refine WP.blk 1 ?_
    show WP 4 190 19 [vR x, vI v1, vI v2, vI v3, vR u, none] [] (si w9 u 0 a) Q
    refine WP.blk 1 ?_
    show WP 4 190 20 [vR x, vI v1, vI v2, vI v3, vR u, none] [vI 0] (si w9 u 0 a) Q
    exact WP.ret rfl rfl rfl trivial hQ
  · refine Or.inr ⟨by decide, 17, 5, rfl, ⟨rfl, Nat.le_of_ble_eq_true rfl⟩, ?_⟩
    show WP 4 190 17 [vR x, vI v1, vI v2, vI v3, vR u, none] [] w9 Q
    refine WP.blk 1 ?_
    show WP 4 190 18 [vR x, vI v1, vI v2, vI v3, vR u, none] [vI 1] w9 Q
    exact WP.ret rfl rfl rfl trivial hQ
theorem w_word {w : Wd} {x u : Nat} {v1 v2 : Int} {Q : Res → Wd → Prop} (hx : ty w x = 9) (h : EvQ 7 75 [vR x, vI v1, vI v2] w (WQ2 u 3 1 Q)) : EvQ 8 191 [vR x, vI v1, vI v2, vR u] w Q := by
  refine EvQ.enter (ls := [vR x, vI v1, vI v2, vR u, none]) (Nat.le_of_ble_eq_true rfl) rfl ?_
  refine WP.blk 1 ?_
  show WP 7 191 1 [vR x, vI v1, vI v2, vR u, none] [vR u] w Q
  refine WP.blk 1 ?_
  show WP 7 191 2 [vR x, vI v1, vI v2, vR u, none] [vI 0, vR u] w Q
  refine WP.blk 1 ?_
  show WP 7 191 3 [vR x, vI v1, vI v2, vR u, none] [vR x, vI 0, vR u] w Q
  refine WP.blk 1 ?_
  show WP 7 191 4 [vR x, vI v1, vI v2, vR u, none] [vI v1, vR x, vI 0, vR u] w Q
  refine WP.blk 1 ?_
  show WP 7 191 5 [vR x, vI v1, vI v2, vR u, none] [vI v2, vI v1, vR x, vI 0, vR u] w Q
  refine WP.callx (a := [vR x, vI v1, vI v2]) (rest := [vI 0, vR u]) rfl rfl rfl rfl ⟨hx, trivial⟩ (by decide) h (fun r w9 hq => ?_)
  rcases hq with ⟨a, rfl, ho, hQ⟩ | ⟨rfl, hQ⟩ | ⟨rfl, hQ⟩
  · refine Or.inl ⟨rfl, ?_⟩
    show WP 7 191 8 [vR x, vI v1, vI v2, vR u, none] [vI a, vI 0, vR u] w9 Q
    refine WP.blk 1 ?_
    show WP 7 191 9 [vR x, vI v1, vI v2, vR u, none] [vL a, vI 0, vR u] w9 Q
    refine WP.blk 1 ?_
    show (ty w9 u = 12 ∧ (0 : Int) ≤ 0 ∧ (0 : Int) < (ln w9 u : Int)) ∧ WP 7 191 10 [vR x, vI v1, vI v2, vR u, none] [] (si w9 u 0 a) Q
    refine ⟨⟨ho.1, by decide, by rw [ho.2]; decide⟩, ?_⟩
    refine WP.blk 1 ?_
    show WP 7 191 21 [vR x, vI v1, vI v2, vR u, none] [] (si w9 u 0 a) Q
    refine WP.blk 1 ?_
    show WP 7 191 22 [vR x, vI v1, vI v2, vR u, none] [vI 0] (si w9 u 0 a) Q
    exact WP.ret rfl rfl rfl trivial hQ
  · refine Or.inr ⟨by decide, 15, 4, rfl, ⟨rfl, Nat.le_of_ble_eq_true rfl⟩, ?_⟩
    show WP 7 191 15 [vR x, vI v1, vI v2, vR u, none] [] w9 Q
    refine WP.blk 1 ?_
    show WP 7 191 16 [vR x, vI v1, vI v2, vR u, none] [vI 1] w9 Q
    exact WP.ret rfl rfl rfl trivial hQ
  · refine Or.inr ⟨by decide, 19, 4, rfl, ⟨rfl, Nat.le_of_ble_eq_true rfl⟩, ?_⟩
    show WP 7 191 19 [vR x, vI v1, vI v2, vR u, none] [] w9 Q
    refine WP.blk 1 ?_
    show WP 7 191 20 [vR x, vI v1, vI v2, vR u, none] [vI 2] w9 Q
    exact WP.ret rfl rfl rfl trivial hQ
theorem w_letter {w : Wd} {x u : Nat} {v1 v2 : Int} {Q : Res → Wd → Prop} (hx : ty w x = 9) (h : EvQ 3 76 [vR x, vI v1, vI v2] w (WQ1 u 3 Q)) : EvQ 4 192 [vR x, vI v1, vI v2, vR u] w Q := by
  refine EvQ.enter (ls := [vR x, vI v1, vI v2, vR u, none]) (Nat.le_of_ble_eq_true rfl) rfl ?_
  refine WP.blk 1 ?_
  show WP 3 192 1 [vR x, vI v1, vI v2, vR u, none] [vR u] w Q
  refine WP.blk 1 ?_
  show WP 3 192 2 [vR x, vI v1, vI v2, vR u, none] [vI 0, vR u] w Q
  refine WP.blk 1 ?_
  show WP 3 192 3 [vR x, vI v1, vI v2, vR u, none] [vR x, vI 0, vR u] w Q
  refine WP.blk 1 ?_
  show WP 3 192 4 [vR x, vI v1, vI v2, vR u, none] [vI v1, vR x, vI 0, vR u] w Q
  refine WP.blk 1 ?_
  show WP 3 192 5 [vR x, vI v1, vI v2, vR u, none] [vI v2, vI v1, vR x, vI 0, vR u] w Q
  refine WP.callx (a := [vR x, vI v1, vI v2]) (rest := [vI 0, vR u]) rfl rfl rfl rfl ⟨hx, trivial⟩ (by decide) h (fun r w9 hq => ?_)
  rcases hq with ⟨a, rfl, ho, hQ⟩ | ⟨rfl, hQ⟩
  · refine Or.inl ⟨rfl, ?_⟩
    show WP 3 192 8 [vR x, vI v1, vI v2, vR u, none] [vI a, vI 0, vR u] w9 Q
    refine WP.blk 1 ?_
    show WP 3 192 9 [vR x, vI v1, vI v2, vR u, none] [vL a, vI 0, vR u] w9 Q
    refine WP.blk 1 ?_
    show (ty w9 u = 12 ∧ (0 : Int) ≤ 0 ∧ (0 : Int) < (ln w9 u : Int)) ∧ WP 3 192 10 [vR x, vI v1, vI v2, vR u, none] [] (si w9 u 0 a) Q
    refine ⟨⟨ho.1, by decide, by rw [ho.2]; decide⟩, ?_⟩
    refine WP.blk 1 ?_
    show WP 3 192 17 [vR x, vI v1, vI v2, vR u, none] [] (si w9 u 0 a) Q
    refine WP.blk 1 ?_
    show WP 3 192 18 [vR x, vI v1, vI v2, vR u, none] [vI 0] (si w9 u 0 a) Q
    exact WP.ret rfl rfl rfl trivial hQ
  · refine Or.inr ⟨by decide, 15, 4, rfl, ⟨rfl, Nat.le_of_ble_eq_true rfl⟩, ?_⟩
    show WP 3 192 15 [vR x, vI v1, vI v2, vR u, none] [] w9 Q
    refine WP.blk 1 ?_
    show WP 3 192 16 [vR x, vI v1, vI v2, vR u, none] [vI 1] w9 Q
    exact WP.ret rfl rfl rfl trivial hQ
theorem w_press {w : Wd} {x u : Nat} {v1 v2 : Int} {Q : Res → Wd → Prop} (hx : ty w x = 9) (h : EvQ 6 77 [vR x, vI v1, vI v2] w (WQ1 u 3 Q)) : EvQ 7 193 [vR x, vI v1, vI v2, vR u] w Q := by
  refine EvQ.enter (ls := [vR x, vI v1, vI v2, vR u, none]) (Nat.le_of_ble_eq_true rfl) rfl ?_
  refine WP.blk 1 ?_
  show WP 6 193 1 [vR x, vI v1, vI v2, vR u, none] [vR u] w Q
  refine WP.blk 1 ?_
  show WP 6 193 2 [vR x, vI v1, vI v2, vR u, none] [vI 0, vR u] w Q
  refine WP.blk 1 ?_
  show WP 6 193 3 [vR x, vI v1, vI v2, vR u, none] [vR x, vI 0, vR u] w Q
  refine WP.blk 1 ?_
  show WP 6 193 4 [vR x, vI v1, vI v2, vR u, none] [vI v1, vR x, vI 0, vR u] w Q
  refine WP.blk 1 ?_
  show WP 6 193 5 [vR x, vI v1, vI v2, vR u, none] [vI v2, vI v1, vR x, vI 0, vR u] w Q
  refine WP.callx (a := [vR x, vI v1, vI v2]) (rest := [vI 0, vR u]) rfl rfl rfl rfl ⟨hx, trivial⟩ (by decide) h (fun r w9 hq => ?_)
  rcases hq with ⟨a, rfl, ho, hQ⟩ | ⟨rfl, hQ⟩
  · refine Or.inl ⟨rfl, ?_⟩
    show WP 6 193 8 [vR x, vI v1, vI v2, vR u, none] [vI a, vI 0, vR u] w9 Q
    refine WP.blk 1 ?_
    show WP 6 193 9 [vR x, vI v1, vI v2, vR u, none] [vL a, vI 0, vR u] w9 Q
    refine WP.blk 1 ?_
    show (ty w9 u = 12 ∧ (0 : Int) ≤ 0 ∧ (0 : Int) < (ln w9 u : Int)) ∧ WP 6 193 10 [vR x, vI v1, vI v2, vR u, none] [] (si w9 u 0 a) Q
    refine ⟨⟨ho.1, by decide, by rw [ho.2]; decide⟩, ?_⟩
    refine WP.blk 1 ?_
    show WP 6 193 17 [vR x, vI v1, vI v2, vR u, none] [] (si w9 u 0 a) Q
    refine WP.blk 1 ?_
    show WP 6 193 18 [vR x, vI v1, vI v2, vR u, none] [vI 0] (si w9 u 0 a) Q
    exact WP.ret rfl rfl rfl trivial hQ
  · refine Or.inr ⟨by decide, 15, 4, rfl, ⟨rfl, Nat.le_of_ble_eq_true rfl⟩, ?_⟩
    show WP 6 193 15 [vR x, vI v1, vI v2, vR u, none] [] w9 Q
    refine WP.blk 1 ?_
    show WP 6 193 16 [vR x, vI v1, vI v2, vR u, none] [vI 1] w9 Q
    exact WP.ret rfl rfl rfl trivial hQ
theorem w_write {w : Wd} {x u : Nat} {v1 : Int} {Q : Res → Wd → Prop} (hx : ty w x = 9) (h : EvQ 6 78 [vR x, vI v1] w (WQ2 u 3 2 Q)) : EvQ 7 194 [vR x, vI v1, vR u] w Q := by
  refine EvQ.enter (ls := [vR x, vI v1, vR u, none]) (Nat.le_of_ble_eq_true rfl) rfl ?_
  refine WP.blk 1 ?_
  show WP 6 194 1 [vR x, vI v1, vR u, none] [vR u] w Q
  refine WP.blk 1 ?_
  show WP 6 194 2 [vR x, vI v1, vR u, none] [vI 0, vR u] w Q
  refine WP.blk 1 ?_
  show WP 6 194 3 [vR x, vI v1, vR u, none] [vR x, vI 0, vR u] w Q
  refine WP.blk 1 ?_
  show WP 6 194 4 [vR x, vI v1, vR u, none] [vI v1, vR x, vI 0, vR u] w Q
  refine WP.callx (a := [vR x, vI v1]) (rest := [vI 0, vR u]) rfl rfl rfl rfl ⟨hx, trivial⟩ (by decide) h (fun r w9 hq => ?_)
  rcases hq with ⟨a, rfl, ho, hQ⟩ | ⟨rfl, hQ⟩ | ⟨rfl, hQ⟩
  · refine Or.inl ⟨rfl, ?_⟩
    show WP 6 194 7 [vR x, vI v1, vR u, none] [vI a, vI 0, vR u] w9 Q
    refine WP.blk 1 ?_
    show WP 6 194 8 [vR x, vI v1, vR u, none] [vL a, vI 0, vR u] w9 Q
    refine WP.blk 1 ?_
    show (ty w9 u = 12 ∧ (0 : Int) ≤ 0 ∧ (0 : Int) < (ln w9 u : Int)) ∧ WP 6 194 9 [vR x, vI v1, vR u, none] [] (si w9 u 0 a) Q
    refine ⟨⟨ho.1, by decide, by rw [ho.2]; decide⟩, ?_⟩
    refine WP.blk 1 ?_
    show WP 6 194 18 [vR x, vI v1, vR u, none] [] (si w9 u 0 a) Q
    refine WP.blk 1 ?_
    show WP 6 194 19 [vR x, vI v1, vR u, none] [vI 0] (si w9 u 0 a) Q
    exact WP.ret rfl rfl rfl trivial hQ
  · refine Or.inr ⟨by decide, 13, 3, rfl, ⟨rfl, Nat.le_of_ble_eq_true rfl⟩, ?_⟩
    show WP 6 194 13 [vR x, vI v1, vR u, none] [] w9 Q
    refine WP.blk 1 ?_
    show WP 6 194 14 [vR x, vI v1, vR u, none] [vI 1] w9 Q
    exact WP.ret rfl rfl rfl trivial hQ
  · refine Or.inr ⟨by decide, 16, 3, rfl, ⟨rfl, Nat.le_of_ble_eq_true rfl⟩, ?_⟩
    show WP 6 194 16 [vR x, vI v1, vR u, none] [] w9 Q
    refine WP.blk 1 ?_
    show WP 6 194 17 [vR x, vI v1, vR u, none] [vI 2] w9 Q
    exact WP.ret rfl rfl rfl trivial hQ
theorem w_needed {w : Wd} {x u : Nat} {v1 : Int} {Q : Res → Wd → Prop} (hx : ty w x = 9) (h : EvQ 5 81 [vR x, vI v1] w (WQ1 u 3 Q)) : EvQ 6 195 [vR x, vI v1, vR u] w Q := by
  refine EvQ.enter (ls := [vR x, vI v1, vR u, none]) (Nat.le_of_ble_eq_true rfl) rfl ?_
  refine WP.blk 1 ?_
  show WP 5 195 1 [vR x, vI v1, vR u, none] [vR u] w Q
  refine WP.blk 1 ?_
  show WP 5 195 2 [vR x, vI v1, vR u, none] [vI 0, vR u] w Q
  refine WP.blk 1 ?_
  show WP 5 195 3 [vR x, vI v1, vR u, none] [vR x, vI 0, vR u] w Q
  refine WP.blk 1 ?_
  show WP 5 195 4 [vR x, vI v1, vR u, none] [vI v1, vR x, vI 0, vR u] w Q
  refine WP.callx (a := [vR x, vI v1]) (rest := [vI 0, vR u]) rfl rfl rfl rfl ⟨hx, trivial⟩ (by decide) h (fun r w9 hq => ?_)
  rcases hq with ⟨a, rfl, ho, hQ⟩ | ⟨rfl, hQ⟩
  · refine Or.inl ⟨rfl, ?_⟩
    show WP 5 195 7 [vR x, vI v1, vR u, none] [vI a, vI 0, vR u] w9 Q
    refine WP.blk 1 ?_
    show WP 5 195 8 [vR x, vI v1, vR u, none] [vL a, vI 0, vR u] w9 Q
    refine WP.blk 1 ?_
    show (ty w9 u = 12 ∧ (0 : Int) ≤ 0 ∧ (0 : Int) < (ln w9 u : Int)) ∧ WP 5 195 9 [vR x, vI v1, vR u, none] [] (si w9 u 0 a) Q
    refine ⟨⟨ho.1, by decide, by rw [ho.2]; decide⟩, ?_⟩
    refine WP.blk 1 ?_
    show WP 5 195 15 [vR x, vI v1, vR u, none] [] (si w9 u 0 a) Q
    refine WP.blk 1 ?_
    show WP 5 195 16 [vR x, vI v1, vR u, none] [vI 0] (si w9 u 0 a) Q
    exact WP.ret rfl rfl rfl trivial hQ
  · refine Or.inr ⟨by decide, 13, 3, rfl, ⟨rfl, Nat.le_of_ble_eq_true rfl⟩, ?_⟩
    show WP 5 195 13 [vR x, vI v1, vR u, none] [] w9 Q
    refine WP.blk 1 ?_
    show WP 5 195 14 [vR x, vI v1, vR u, none] [vI 1] w9 Q
    exact WP.ret rfl rfl rfl trivial hQ
theorem w_order {w : Wd} {x u : Nat} {v1 : Int} {Q : Res → Wd → Prop} (hx : ty w x = 9) (h : EvQ 16 82 [vR x, vI v1] w (WQ2 u 3 2 Q)) : EvQ 17 196 [vR x, vI v1, vR u] w Q := by
  refine EvQ.enter (ls := [vR x, vI v1, vR u, none]) (Nat.le_of_ble_eq_true rfl) rfl ?_
  refine WP.blk 1 ?_
  show WP 16 196 1 [vR x, vI v1, vR u, none] [vR u] w Q
  refine WP.blk 1 ?_
  show WP 16 196 2 [vR x, vI v1, vR u, none] [vI 0, vR u] w Q
  refine WP.blk 1 ?_
  show WP 16 196 3 [vR x, vI v1, vR u, none] [vR x, vI 0, vR u] w Q
  refine WP.blk 1 ?_
  show WP 16 196 4 [vR x, vI v1, vR u, none] [vI v1, vR x, vI 0, vR u] w Q
  refine WP.callx (a := [vR x, vI v1]) (rest := [vI 0, vR u]) rfl rfl rfl rfl ⟨hx, trivial⟩ (by decide) h (fun r w9 hq => ?_)
  rcases hq with ⟨a, rfl, ho, hQ⟩ | ⟨rfl, hQ⟩ | ⟨rfl, hQ⟩
  · refine Or.inl ⟨rfl, ?_⟩
    show WP 16 196 7 [vR x, vI v1, vR u, none] [vI a, vI 0, vR u] w9 Q
    refine WP.blk 1 ?_
    show WP 16 196 8 [vR x, vI v1, vR u, none] [vL a, vI 0, vR u] w9 Q
    refine WP.blk 1 ?_
    show (ty w9 u = 12 ∧ (0 : Int) ≤ 0 ∧ (0 : Int) < (ln w9 u : Int)) ∧ WP 16 196 9 [vR x, vI v1, vR u, none] [] (si w9 u 0 a) Q
    refine ⟨⟨ho.1, by decide, by rw [ho.2]; decide⟩, ?_⟩
    refine WP.blk 1 ?_
    show WP 16 196 18 [vR x, vI v1, vR u, none] [] (si w9 u 0 a) Q
    refine WP.blk 1 ?_
    show WP 16 196 19 [vR x, vI v1, vR u, none] [vI 0] (si w9 u 0 a) Q
    exact WP.ret rfl rfl rfl trivial hQ
  · refine Or.inr ⟨by decide, 13, 3, rfl, ⟨rfl, Nat.le_of_ble_eq_true rfl⟩, ?_⟩
    show WP 16 196 13 [vR x, vI v1, vR u, none] [] w9 Q
    refine WP.blk 1 ?_
    show WP 16 196 14 [vR x, vI v1, vR u, none] [vI 1] w9 Q
    exact WP.ret rfl rfl rfl trivial hQ
  · refine Or.inr ⟨by decide, 16, 3, rfl, ⟨rfl, Nat.le_of_ble_eq_true rfl⟩, ?_⟩
    show WP 16 196 16 [vR x, vI v1, vR u, none] [] w9 Q
    refine WP.blk 1 ?_
    show WP 16 196 17 [vR x, vI v1, vR u, none] [vI 2] w9 Q
    exact WP.ret rfl rfl rfl trivial hQ
theorem w_bestCut {w : Wd} {x u : Nat} {v1 v2 : Int} {Q : Res → Wd → Prop} (hx : ty w x = 9) (h : EvQ 8 84 [vR x, vI v1, vI v2] w (WQ1 u 1 Q)) : EvQ 9 197 [vR x, vI v1, vI v2, vR u] w Q := by
  refine EvQ.enter (ls := [vR x, vI v1, vI v2, vR u, none]) (Nat.le_of_ble_eq_true rfl) rfl ?_
  refine WP.blk 1 ?_
  show WP 8 197 1 [vR x, vI v1, vI v2, vR u, none] [vR u] w Q
  refine WP.blk 1 ?_
  show WP 8 197 2 [vR x, vI v1, vI v2, vR u, none] [vI 0, vR u] w Q
  refine WP.blk 1 ?_
  show WP 8 197 3 [vR x, vI v1, vI v2, vR u, none] [vR x, vI 0, vR u] w Q
  refine WP.blk 1 ?_
  show WP 8 197 4 [vR x, vI v1, vI v2, vR u, none] [vI v1, vR x, vI 0, vR u] w Q
  refine WP.blk 1 ?_
  show WP 8 197 5 [vR x, vI v1, vI v2, vR u, none] [vI v2, vI v1, vR x, vI 0, vR u] w Q
  refine WP.callx (a := [vR x, vI v1, vI v2]) (rest := [vI 0, vR u]) rfl rfl rfl rfl ⟨hx, trivial⟩ (by decide) h (fun r w9 hq => ?_)
  rcases hq with ⟨a, rfl, ho, hQ⟩ | ⟨rfl, hQ⟩
  · refine Or.inl ⟨rfl, ?_⟩
    show WP 8 197 8 [vR x, vI v1, vI v2, vR u, none] [vI a, vI 0, vR u] w9 Q
    refine WP.blk 1 ?_
    show WP 8 197 9 [vR x, vI v1, vI v2, vR u, none] [vL a, vI 0, vR u] w9 Q
    refine WP.blk 1 ?_
    show (ty w9 u = 12 ∧ (0 : Int) ≤ 0 ∧ (0 : Int) < (ln w9 u : Int)) ∧ WP 8 197 10 [vR x, vI v1, vI v2, vR u, none] [] (si w9 u 0 a) Q
    refine ⟨⟨ho.1, by decide, by rw [ho.2]; decide⟩, ?_⟩
    refine WP.blk 1 ?_
    show WP 8 197 17 [vR x, vI v1, vI v2, vR u, none] [] (si w9 u 0 a) Q
    refine WP.blk 1 ?_
    show WP 8 197 18 [vR x, vI v1, vI v2, vR u, none] [vI 0] (si w9 u 0 a) Q
    exact WP.ret rfl rfl rfl trivial hQ
  · refine Or.inr ⟨by decide, 15, 4, rfl, ⟨rfl, Nat.le_of_ble_eq_true rfl⟩, ?_⟩
    show WP 8 197 15 [vR x, vI v1, vI v2, vR u, none] [] w9 Q
    refine WP.blk 1 ?_
    show WP 8 197 16 [vR x, vI v1, vI v2, vR u, none] [vI 1] w9 Q
    exact WP.ret rfl rfl rfl trivial hQ
theorem w_undo {w : Wd} {x u : Nat} {Q : Res → Wd → Prop} (hx : ty w x = 9) (h : EvQ 7 86 [vR x] w (WQ1 u 2 Q)) : EvQ 8 198 [vR x, vR u] w Q := by
  refine EvQ.enter (ls := [vR x, vR u, none]) (Nat.le_of_ble_eq_true rfl) rfl ?_
  refine WP.blk 1 ?_
  show WP 7 198 1 [vR x, vR u, none] [vR u] w Q
  refine WP.blk 1 ?_
  show WP 7 198 2 [vR x, vR u, none] [vI 0, vR u] w Q
  refine WP.blk 1 ?_
  show WP 7 198 3 [vR x, vR u, none] [vR x, vI 0, vR u] w Q
  refine WP.callx (a := [vR x]) (rest := [vI 0, vR u]) rfl rfl rfl rfl ⟨hx, trivial⟩ (by decide) h (fun r w9 hq => ?_)
  rcases hq with ⟨a, rfl, ho, hQ⟩ | ⟨rfl, hQ⟩
  · refine Or.inl ⟨rfl, ?_⟩
    show WP 7 198 6 [vR x, vR u, none] [vI a, vI 0, vR u] w9 Q
    refine WP.blk 1 ?_
    show WP 7 198 7 [vR x, vR u, none] [vL a, vI 0, vR u] w9 Q
    refine WP.blk 1 ?_
    show (ty w9 u = 12 ∧ (0 : Int) ≤ 0 ∧ (0 : Int) < (ln w9 u : Int)) ∧ WP 7 198 8 [vR x, vR u, none] [] (si w9 u 0 a) Q
    refine ⟨⟨ho.1, by decide, by rw [ho.2]; decide⟩, ?_⟩
    refine WP.blk 1 ?_
    show WP 7 198 14 [vR x, vR u, none] [] (si w9 u 0 a) Q
    refine WP.blk 1 ?_
    show WP 7 198 15 [vR x, vR u, none] [vI 0] (si w9 u 0 a) Q
    exact WP.ret rfl rfl rfl trivial hQ
  · refine Or.inr ⟨by decide, 12, 2, rfl, ⟨rfl, Nat.le_of_ble_eq_true rfl⟩, ?_⟩
    show WP 7 198 12 [vR x, vR u, none] [] w9 Q
    refine WP.blk 1 ?_
    show WP 7 198 13 [vR x, vR u, none] [vI 1] w9 Q
    exact WP.ret rfl rfl rfl trivial hQ
