/-! numbers of things, more -/
theorem numN_t {P : Int → Prop} {n : Nat} (hp : P n) : numN P (n + 1) = numN P n + 1 := by
  show numN P n + @ite Int (P n) (Classical.propDecidable _) 1 0 = _
  rw [@if_pos _ (Classical.propDecidable _) hp]
theorem numN_f {P : Int → Prop} {n : Nat} (hp : ¬ P n) : numN P (n + 1) = numN P n := by
  show numN P n + @ite Int (P n) (Classical.propDecidable _) 1 0 = _
  rw [@if_neg _ (Classical.propDecidable _) hp, Int.add_zero]
theorem numN_sub {P R P' : Int → Prop} : ∀ n : Nat, (∀ i : Int, 0 ≤ i → i < n → R i → P i) → (∀ i : Int, 0 ≤ i → i < n → (P' i ↔ P i ∧ ¬ R i)) → numN P' n = numN P n - numN R n
  | 0, _, _ => rfl
  | n + 1, h1, h2 => by
    have ih := numN_sub n (fun i a b => h1 i a (by omega)) (fun i a b => h2 i a (by omega))
    have a1 := h1 n (by omega) (by omega)
    have a2 := h2 n (by omega) (by omega)
    by_cases hr : R n
    · rw [numN_f (fun h => (a2.mp h).2 hr), numN_t (a1 hr), numN_t hr]
      omega
    · by_cases hp : P n
      · rw [numN_t (a2.mpr ⟨hp, hr⟩), numN_t hp, numN_f hr]
        omega
      · rw [numN_f (fun h => hp (a2.mp h).1), numN_f hp, numN_f hr]
        omega
theorem num_sub {P R P' : Int → Prop} {n : Int} (h1 : ∀ i, 0 ≤ i → i < n → R i → P i) (h2 : ∀ i, 0 ≤ i → i < n → (P' i ↔ P i ∧ ¬ R i)) : num P' n = num P n - num R n :=
  numN_sub _ (fun i a b => h1 i a (by omega)) (fun i a b => h2 i a (by omega))
theorem numN_0 : ∀ n : Nat, numN (fun _ => False) n = 0
  | 0 => rfl
  | n + 1 => by rw [numN_f (fun h => h)]; exact numN_0 n
theorem num_c {P P' : Int → Prop} {n : Int} (h : ∀ i, 0 ≤ i → i < n → (P' i ↔ P i)) : num P' n = num P n := by
  have h1 := num_sub (P := P) (R := fun _ => False) (P' := P') (n := n) (fun i a b h => h.elim) (fun i a b => ⟨fun g => ⟨(h i a b).mp g, fun h => h⟩, fun g => (h i a b).mpr g.1⟩)
  have h2 : num (fun _ => False) n = 0 := numN_0 _
  omega
theorem num_le {P R : Int → Prop} {n : Int} (h0 : 0 ≤ n) (h1 : ∀ i, 0 ≤ i → i < n → R i → P i) : num R n ≤ num P n := by
  have h2 := num_sub (P := P) (R := R) (P' := fun i => P i ∧ ¬ R i) h1 (fun i a b => Iff.rfl)
  have h3 := num_r (P := fun i => P i ∧ ¬ R i) h0
  omega
theorem numN_all {P : Int → Prop} : ∀ n : Nat, numN P n = n → ∀ i : Int, 0 ≤ i → i < n → P i
  | 0, _, i, a, b => absurd b (by omega)
  | n + 1, h, i, a, b => by
    have hr := numN_r P n
    by_cases hp : P n
    · rw [numN_t hp] at h
      by_cases e : i = n
      · rw [e]; exact hp
      · exact numN_all n (by omega) i a (by omega)
    · rw [numN_f hp] at h
      omega
theorem num_all {P : Int → Prop} {n : Int} (h0 : 0 ≤ n) (h : num P n = n) : ∀ i, 0 ≤ i → i < n → P i := fun i a b => numN_all n.toNat (by unfold num at h; omega) i a (by omega)
theorem numN_each {P : Int → Prop} : ∀ n : Nat, (∀ i : Int, 0 ≤ i → i < n → P i) → numN P n = n
  | 0, _ => rfl
  | n + 1, h => by
    rw [numN_t (h n (by omega) (by omega)), numN_each n (fun i a b => h i a (by omega))]
    omega
theorem num_each {P : Int → Prop} {n : Int} (h0 : 0 ≤ n) (h : ∀ i, 0 ≤ i → i < n → P i) : num P n = n := by
  have := numN_each n.toNat (fun i a b => h i a (by omega))
  unfold num
  omega
theorem num_pos {P : Int → Prop} {n : Int} (h0 : 0 ≤ n) (h : num P n ≠ 0) : ∃ i, (0 ≤ i ∧ i < n) ∧ P i := by
  by_cases hx : ∃ i, (0 ≤ i ∧ i < n) ∧ P i
  · exact hx
  · have h1 := num_c (P := fun _ => False) (P' := P) (n := n) (fun i a b => ⟨fun g => hx ⟨i, ⟨a, b⟩, g⟩, fun g => g.elim⟩)
    have h2 : num (fun _ => False) n = 0 := numN_0 _
    omega
theorem num_not {P : Int → Prop} {n : Int} (h0 : 0 ≤ n) (h : num P n ≠ n) : ∃ i, (0 ≤ i ∧ i < n) ∧ ¬ P i := by
  by_cases hx : ∃ i, (0 ≤ i ∧ i < n) ∧ ¬ P i
  · exact hx
  · exact absurd (num_each h0 (fun i a b => Classical.byContradiction (fun g => hx ⟨i, ⟨a, b⟩, g⟩))) h
