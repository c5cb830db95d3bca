/-! orders: each word once; the order of the numbers -/
theorem pigeon : ∀ (n : Nat) (b : Int → Int), (∀ k, 0 ≤ k → k < (n : Int) → 0 ≤ b k ∧ b k < (n : Int)) → (∀ j k, 0 ≤ j → j < k → k < (n : Int) → ¬ b j = b k) → ∀ t, 0 ≤ t → t < (n : Int) → ∃ j, (0 ≤ j ∧ j < (n : Int)) ∧ b j = t
  | 0, _, _, _, t, h0, h1 => absurd h1 (by omega)
  | n + 1, b, hr, hi, t, h0, h1 => by
    refine Classical.byContradiction (fun hno => ?_)
    have hno : ∀ j, 0 ≤ j → j < ((n + 1 : Nat) : Int) → ¬ b j = t := fun j a c e => hno ⟨j, ⟨a, c⟩, e⟩
    have key : ∀ k, 0 ≤ k → k < ((n + 1 : Nat) : Int) → 0 ≤ (if b k = (n : Int) then t else b k) ∧ (if b k = (n : Int) then t else b k) < (n : Int) := fun k a c => by
      have h2 := hr k a c
      by_cases e : b k = (n : Int)
      · rw [if_pos e]
        have := hno k a c
        omega
      · rw [if_neg e]
        omega
    have inj : ∀ j k, 0 ≤ j → j < k → k < ((n + 1 : Nat) : Int) → ¬ (if b j = (n : Int) then t else b j) = (if b k = (n : Int) then t else b k) := fun j k a c d => by
      have g1 := hi j k a c d
      have g2 := hno j a (by omega)
      have g3 := hno k (by omega) d
      split <;> split <;> omega
    obtain ⟨j, hj, e⟩ := pigeon n (fun k => if b k = (n : Int) then t else b k) (fun k a c => key k a (by omega)) (fun j k a c d => inj j k a c (by omega)) _ (key (n : Int) (by omega) (by omega)).1 (key (n : Int) (by omega) (by omega)).2
    exact inj j (n : Int) hj.1 hj.2 (by omega) e
theorem full_all : ∀ n : Nat, n < 8 → (0 ≤ iL 1 (n : Int) - 1 ∧ iL 1 (n : Int) - 1 < 1024) ∧ ∀ t : Nat, t < 10 → ((bs (iL 1 (n : Int) - 1) (t : Int) = true) = (t < n)) := by
  have h : ∀ n : Nat, n < 8 → (0 ≤ iL 1 (n : Int) - 1 ∧ iL 1 (n : Int) - 1 < 1024) ∧ ∀ t : Nat, t < 10 → bs (iL 1 (n : Int) - 1) (t : Int) = decide (t < n) := by decide +kernel
  intro n hn
  refine ⟨(h n hn).1, fun t ht => ?_⟩
  rw [(h n hn).2 t ht, decide_eq_true_eq]
theorem full_n {n : Int} (hn : 0 ≤ n ∧ n ≤ 7) : (0 ≤ iL 1 n - 1 ∧ iL 1 n - 1 < 1024) ∧ ∀ t, 0 ≤ t → t < 10 → (bs (iL 1 n - 1) t = true ↔ t < n) := by
  obtain ⟨k, rfl⟩ := Int.eq_ofNat_of_zero_le hn.1
  obtain ⟨h1, h2⟩ := full_all k (by omega)
  refine ⟨h1, fun t a b => ?_⟩
  obtain ⟨i, rfl⟩ := Int.eq_ofNat_of_zero_le a
  rw [h2 i (by omega)]
  omega
/-- the set of the first k words of an order -/
def SeenB (b : Int → Int) (k x : Int) : Prop := (0 ≤ x ∧ x < 1024) ∧ ∀ t, 0 ≤ t → t < 10 → (bs x t = true ↔ ∃ j, (0 ≤ j ∧ j < k) ∧ b j = t)
theorem seen_0 {b : Int → Int} : SeenB b 0 0 := ⟨by omega, fun t _ _ => ⟨fun h => absurd h bs_0, fun ⟨j, h, _⟩ => by omega⟩⟩
theorem seen_s {b : Int → Int} {k x : Int} (h : SeenB b k x) (hk : 0 ≤ k) (hb : 0 ≤ b k ∧ b k < 10) : SeenB b (k + 1) (iO x (iL 1 (b k))) := by
  obtain ⟨h1, h2⟩ := h
  obtain ⟨g1, g2, g3⟩ := bs_or h1 hb
  refine ⟨⟨g1, g2⟩, fun t a c => ?_⟩
  rw [g3 t a c, h2 t a c]
  constructor
  · rintro (⟨j, h, e⟩ | e)
    · exact ⟨j, by omega, e⟩
    · exact ⟨k, by omega, e.symm⟩
  · rintro ⟨j, h, e⟩
    by_cases q : j = k
    · rw [q] at e; exact Or.inr e.symm
    · exact Or.inl ⟨j, by omega, e⟩
theorem seen_e {f b : Int → Int} {x : Int} (h7 : 0 ≤ f 1 ∧ f 1 ≤ 7) (ho : OrdP f b (f 1)) (h : SeenB b (f 1) x) : x = iL 1 (f 1) - 1 := by
  obtain ⟨g1, g2⟩ := full_n h7
  refine bs_ext h.1 g1 (fun t a c => ?_)
  rw [h.2 t a c, g2 t a c]
  constructor
  · rintro ⟨j, hj, e⟩
    have := (ho j hj.1 hj.2).1
    omega
  · intro ht
    obtain ⟨n, hn⟩ := Int.eq_ofNat_of_zero_le h7.1
    rw [hn] at ht ⊢
    exact pigeon n b (fun k a c => by have := (ho k a (by omega)).1; omega) (fun j k a c d => (ho k (by omega) (by omega)).2.1 j a c) t a ht
theorem sq_id {f : Int → Int} : ∀ n : Nat, sqN f (fun i => i) n = wallN f n
  | 0 => rfl
  | n + 1 => by
    show wrote (sqN f (fun i => i) n) (n : Int) = wrote (wallN f n) (n : Int)
    rw [sq_id n]
/-- where all are written in the order of their numbers, no order needs more cleanings than that -/
theorem wall_least {f b : Int → Int} {c : Int} (h0 : 0 ≤ f 1) (h : BestO f b c) (hn : num (fun w => Can (wall f w) w) (f 1) = f 1) : c ≤ wall f (f 1) 6 - f 6 := by
  have hall := num_all h0 hn
  have e : ∀ k : Int, sq f (fun i => i) k = wall f k := fun k => sq_id k.toNat
  have ho : OrdP f (fun i => i) (f 1) := fun k a b => ⟨⟨a, b⟩, fun j p q => by show ¬ j = k; omega, by rw [e]; exact hall k a b⟩
  rcases h with ⟨h1, h2⟩ | ⟨h1, h2, h3, h4⟩
  · exact absurd ho (h2 _)
  · have h5 := (h4 _ ho).1
    unfold cst at h5
    rw [e] at h5
    exact h5
theorem best_0 {f b : Int → Int} {c : Int} (h0 : f 1 = 0) (h : BestO f b c) : c = 0 := (bestO_u h (BestO_0 (b := b) h0)).1
theorem sq_io {B : Int} {f b : Int → Int} (hR : RowOk B f) (hB : 0 ≤ B) (ho : OrdP f b (f 1)) {k : Int} (h0 : 0 ≤ k) (hk : k ≤ f 1) : RowOk (B + 12 * k) (sq f b k) ∧ InkOnly f (sq f b k) :=
  ⟨(sq_row hR hB (ord_rng ho) k h0 hk).1, (sq_row hR hB (ord_rng ho) k h0 hk).2.1⟩
/-- the next word of an order is written -/
theorem sq_wrt {B : Int} {f b c : Int → Int} {k n : Int} (hR : RowOk B f) (hB : 0 ≤ B) (ho : OrdP f b (f 1)) (h0 : 0 ≤ k) (hk : k < f 1) (h : Wrt (sq f b k) (b k) c n) : car (sq f b k (97 + 14 * b k + 1)) c (sq f b k) n = sq f b (k + 1) ∧ 1 ≤ n := by
  obtain ⟨h1, h2⟩ := sq_io hR hB ho h0 (Int.le_of_lt hk)
  have hb := (ho k h0 hk).1
  have hw := (h1.2.1.2 (b k) hb.1 (by rw [h2.2.1]; exact hb.2)).1
  rw [sq_s h0, wrote_t h1.1 hw h]
  exact ⟨rfl, (best_q h1.1 hw (wrt_best h)).1.1⟩
