theorem sm_r {P : Int → Int} {b : Int} : ∀ n : Nat, (∀ i : Int, 0 ≤ i → i < n → 0 ≤ P i ∧ P i ≤ b) → 0 ≤ smN P n ∧ smN P n ≤ b * n
  | 0, _ => ⟨Int.le_refl _, by show (0 : Int) ≤ b * ((0 : Nat) : Int); rw [show ((0 : Nat) : Int) = 0 from rfl, Int.mul_zero]; exact Int.le_refl _⟩
  | n + 1, h => by
    have ih := sm_r n (fun i a c => h i a (by omega))
    have h1 := h n (by omega) (by omega)
    have e : b * ((n + 1 : Nat) : Int) = b * (n : Int) + b := by
      rw [show ((n + 1 : Nat) : Int) = (n : Int) + 1 by omega, Int.mul_add, Int.mul_one]
    show 0 ≤ smN P n + P n ∧ smN P n + P n ≤ b * ((n + 1 : Nat) : Int)
    rw [e]
    omega
theorem allP_r {B : Int} {f : Int → Int} (hR : RowOk B f) : 0 ≤ allP f ∧ allP f ≤ 700 := by
  have h1 := hR.2.1.1
  have h2 := sm_r (P := p1 f) (b := 100) (f 1).toNat (fun i a c => by
    have := pv_r hR.1 (hR.2.1.2 i a (by omega)).1
    unfold p1
    split <;> omega)
  unfold allP sm
  omega
section NO
variable {N B N' : Int} {x L : Nat} {w : Wd} {f : Int → Int} {fs : List (Int → Int)} {sv : Int} {Q : Res → Wd → Prop}
theorem u_append_no {v : Int} (h : LwS N B x L w f fs sv) (hN : N + 1 ≤ N') (hv : ¬ (0 ≤ v ∧ v ≤ 127)) (k : ∀ w', LwS N' B x L w' f fs sv → Q (0, vI (-5000001)) w') : EvQ 2 121 [vR x, vI v] w Q := by
  have hty := ls_ty h
  obtain ⟨tx, l, p, hL⟩ := h
  exact w_append hty (t_append (M := w.1) (S := w.2) (ox := w.1 x) (tx := tx) hL.1.1.1 rfl hL.2.1.2.2.1 (by rw [hL.2.1.2.2.2.1]; exact hL.2.2.2.1.1) (fun M2 hq hc _ _ _ => absurd hc hv) (fun _ => Or.inr (Or.inl ⟨rfl, k _ ⟨tx, l, p, lp_tk hL (by omega)⟩⟩)) (fun hc _ => absurd hc hv))
end NO
