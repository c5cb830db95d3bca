/-! what presses count -/
theorem prs1_4 {col s : Int} {f : Int → Int} (hs : 0 ≤ s) : prs1 col s f 4 = f 4 + 1 := by
  unfold prs1
  rw [if_neg (by omega), if_neg (by omega), if_neg (by omega), if_pos rfl]
theorem prs1_5 {col s : Int} {f : Int → Int} (hs : 0 ≤ s) : prs1 col s f 5 = f 5 + (if f (7 + 9 * s + 6) = col ∧ f (7 + 9 * s + 7) ≠ 0 then 0 else 1) := by
  unfold prs1
  rw [if_neg (by omega), if_neg (by omega), if_neg (by omega), if_neg (by omega), if_pos rfl]
theorem prs1_6 {col s : Int} {f : Int → Int} (hs : 0 ≤ s) : prs1 col s f 6 = f 6 + (if f (7 + 9 * s + 6) ≠ col ∧ f (7 + 9 * s + 6) ≠ -1 then 1 else 0) := by
  unfold prs1
  rw [if_neg (by omega), if_neg (by omega), if_neg (by omega), if_neg (by omega), if_neg (by omega), if_pos rfl]
theorem carN_456 {col : Int} {f c : Int → Int} : ∀ n : Nat, (∀ i : Int, 0 ≤ i → i < n → 0 ≤ c i) → carN col c f n 4 = f 4 + n ∧ 0 ≤ carN col c f n 6 - f 6 ∧ carN col c f n 6 - f 6 ≤ carN col c f n 5 - f 5 ∧ carN col c f n 5 - f 5 ≤ n
  | 0, _ => by
    show f 4 = f 4 + ((0 : Nat) : Int) ∧ 0 ≤ f 6 - f 6 ∧ f 6 - f 6 ≤ f 5 - f 5 ∧ f 5 - f 5 ≤ ((0 : Nat) : Int)
    omega
  | n + 1, h => by
    obtain ⟨h1, h2, h3, h4⟩ := carN_456 (col := col) (f := f) (c := c) n (fun i a b => h i a (by omega))
    have h0 := h n (by omega) (by omega)
    have hs : 0 ≤ c n / 2 := by omega
    have e4 := prs1_4 (col := col) (f := carN col c f n) hs
    have e5 := prs1_5 (col := col) (f := carN col c f n) hs
    have e6 := prs1_6 (col := col) (f := carN col c f n) hs
    show prs1 col (c n / 2) (carN col c f n) 4 = _ ∧ 0 ≤ prs1 col (c n / 2) (carN col c f n) 6 - f 6 ∧ prs1 col (c n / 2) (carN col c f n) 6 - f 6 ≤ prs1 col (c n / 2) (carN col c f n) 5 - f 5 ∧ prs1 col (c n / 2) (carN col c f n) 5 - f 5 ≤ _
    rw [e4, e5, e6]
    generalize carN col c f n (7 + 9 * (c n / 2) + 6) = a at *
    generalize carN col c f n (7 + 9 * (c n / 2) + 7) = b at *
    by_cases q : a = col
    · rw [if_neg (fun z : a ≠ col ∧ a ≠ -1 => z.1 q)]
      refine ⟨by omega, by omega, ?_, ?_⟩
      · split <;> omega
      · split <;> omega
    · rw [if_neg (fun z : a = col ∧ b ≠ 0 => q z.1)]
      refine ⟨by omega, ?_, ?_, by omega⟩
      · split <;> omega
      · split <;> omega
theorem car_456 {col n : Int} {f c : Int → Int} (hn : 0 ≤ n) (h : ∀ i, 0 ≤ i → i < n → 0 ≤ c i) : car col c f n 4 = f 4 + n ∧ 0 ≤ car col c f n 6 - f 6 ∧ car col c f n 6 - f 6 ≤ car col c f n 5 - f 5 ∧ car col c f n 5 - f 5 ≤ n := by
  obtain ⟨N, rfl⟩ := Int.eq_ofNat_of_zero_le hn
  exact carN_456 N h
/-- the stamp that is pressed last -/
theorem car_last {B col n : Int} {f c : Int → Int} (hR : RowOk B f) (hB : 0 ≤ B) (hc : 0 ≤ col ∧ col ≤ 3) (hn : 1 ≤ n) (hp : ∀ i, 0 ≤ i → i < n → 0 ≤ c i ∧ c i / 2 < f 0) : car col c f n (7 + 9 * (c (n - 1) / 2) + 6) = col ∧ 0 < car col c f n (7 + 9 * (c (n - 1) / 2) + 8) := by
  have h1 := (car_1 (n := n) hR hB hc (show 0 ≤ n - 1 ∧ n - 1 ≤ n by omega) hp).1
  have h2 := (car_1 (n := n) hR hB hc (show 0 ≤ n - 1 ∧ n - 1 ≤ n by omega) hp).2
  have h3 := hp (n - 1) (by omega) (by omega)
  have e : car col c f n = prs1 col (c (n - 1) / 2) (car col c f (n - 1)) := by
    have := car_s (col := col) (c := c) (f := f) (k := n - 1) (by omega)
    rwa [show n - 1 + 1 = n by omega] at this
  have h4 := (h1.1 (c (n - 1) / 2) (by omega) (by rw [h2.1]; exact h3.2)).2.2.1
  rw [e]
  refine ⟨if_pos rfl, ?_⟩
  have e8 : prs1 col (c (n - 1) / 2) (car col c f (n - 1)) (7 + 9 * (c (n - 1) / 2) + 8) = car col c f (n - 1) (7 + 9 * (c (n - 1) / 2) + 8) + 1 := by
    unfold prs1
    rw [if_neg (by omega), if_neg (by omega), if_pos rfl]
  omega
/-! a best plan where there is one -/
theorem low_ex {f L : Int → Int} {w x p : Int} : ∀ (n : Nat) (u : Int), u.toNat < n → Ok1 f w x L p u → ∃ v, Low1 f w x L p v
  | 0, u, h, _ => absurd h (by omega)
  | n + 1, u, h, ho => by
    by_cases hx : ∃ b, 0 ≤ b ∧ b < u ∧ Ok1 f w x L p b
    · obtain ⟨b, h1, h2, h3⟩ := hx
      exact low_ex n b (by omega) h3
    · exact ⟨u, ho, fun b h1 h2 h3 => hx ⟨b, h1, h2, h3⟩⟩
theorem plan_ex {f L : Int → Int} {w x : Int} (hA : StAll f) (hw : WdOk f w) (hL : Lst 100 f w x 0 L) (h0 : L 0 ≠ 100) : ∃ c, Pln f w x c (L 0) := by
  have hw3 := hw.2.2.1
  have hr := lst_fin hA hw hL (show (0 : Int) ≤ 0 by omega) (by omega) h0
  have key : ∀ i : Nat, (i : Int) ≤ L 0 → ∃ c p, PlnX f w x L c p i := by
    intro i
    induction i with
    | zero => intro _; exact ⟨fun _ => 0, 0, PlnX_0 hw⟩
    | succ i ih =>
      intro hi
      obtain ⟨c, p, h⟩ := ih (by omega)
      have hp := plnx_lt hL h (by omega)
      obtain ⟨-, u, hu, -⟩ := PlnX_f hA hw hL h0 h hp
      obtain ⟨v, hv⟩ := low_ex _ u (Nat.lt_succ_self _) hu
      exact ⟨uf c i v, _, PlnX_s hA h hv rfl⟩
  obtain ⟨c, p, h⟩ := key (L 0).toNat (by omega)
  rw [show ((L 0).toNat : Int) = L 0 by omega] at h
  exact ⟨c, PlnX_e hL h0 h (plnx_ge hA hL h0 h rfl)⟩
theorem pv_x {f : Int → Int} {w : Int} (hA : StAll f) (hw : WdOk f w) : ∃ x L, Fresh f x ∧ Lst 100 f w x 0 L ∧ ((pv f w = -1 ∧ L 0 = 100 ∧ ¬ HasP f w ∧ ∀ c n, ¬ BestP f w c n) ∨ (pv f w = L 0 ∧ L 0 ≠ 100 ∧ 0 ≤ L 0 ∧ HasP f w ∧ ∃ c, Pln f w x c (L 0))) := by
  obtain ⟨x, hx⟩ := fresh_ex hA.1
  obtain ⟨L, hL⟩ := lst_ex (x := x) hA hw
  have hw3 := hw.2.2.1
  refine ⟨x, L, hx, hL, ?_⟩
  by_cases h0 : L 0 = 100
  · exact Or.inl ⟨pv_eq hA hw hx hL (Or.inl ⟨rfl, h0⟩), h0, hasP_no hA hw hx hL h0, bestp_no hA hw hx ⟨L, hL, h0⟩⟩
  · exact Or.inr ⟨pv_eq hA hw hx hL (Or.inr ⟨rfl, h0⟩), h0, (lst_fin hA hw hL (show (0 : Int) ≤ 0 by omega) (by omega) h0).1, ⟨x, hx, L, hL, h0⟩, plan_ex hA hw hL h0⟩
theorem pv_t {f : Int → Int} {w : Int} (hA : StAll f) (hw : WdOk f w) (h : pv f w ≠ -1) : HasP f w ∧ ∃ c, BestP f w c (pv f w) := by
  obtain ⟨x, L, hx, hL, h1 | ⟨h1, h2, h3, h4, c, h5⟩⟩ := pv_x hA hw
  · exact absurd h1.1 h
  · exact ⟨h4, c, x, hx, by rw [h1]; exact h5⟩
theorem pv_f {f : Int → Int} {w : Int} (hA : StAll f) (hw : WdOk f w) (h : pv f w = -1) : ¬ HasP f w ∧ ∀ c n, ¬ BestP f w c n := by
  obtain ⟨x, L, hx, hL, h1 | ⟨h1, h2, h3, h4⟩⟩ := pv_x hA hw
  · exact h1.2.2
  · omega
theorem pln_q {f c : Int → Int} {w x n : Int} (hA : StAll f) (hw : WdOk f w) (hx : Fresh f x) (h : Pln f w x c n) : (1 ≤ n ∧ n ≤ f (97 + 14 * w)) ∧ ∃ q : Int → Int, q 0 = 0 ∧ q n = f (97 + 14 * w) ∧ ∀ k, 0 ≤ k → k < n → (0 ≤ c k ∧ c k / 2 < f 0 ∧ ¬ Worn f (c k / 2) ∧ (c k % 2 = 1 → CanT f (c k / 2))) ∧ Fit f w (q k) (c k / 2) (c k % 2) ∧ q (k + 1) = q k + f (7 + 9 * (c k / 2)) ∧ 0 ≤ q k := by
  have hw3 := hw.2.2.1
  obtain ⟨L, q, hL, h1, h2, ⟨h3, h4⟩, h5⟩ := h
  have hr := lst_fin hA hw hL (show (0 : Int) ≤ 0 by omega) (by omega) (by omega)
  have hn : n ≠ 0 := fun e => by rw [e, h3] at h5; omega
  have hq : ∀ k : Nat, (k : Int) ≤ n → 0 ≤ q k := by
    intro k
    induction k with
    | zero => intro _; show 0 ≤ q 0; omega
    | succ k ih =>
      intro hk
      have a := ih (by omega)
      obtain ⟨b1, b2⟩ := h4 k (by omega) (by omega)
      have b3 := (hA.2 (c k / 2) (by have := b1.1.1; omega) b1.1.2.1).2.2.1
      show 0 ≤ q ((k : Int) + 1)
      omega
  refine ⟨by omega, q, h3, h5, fun k a b => ?_⟩
  obtain ⟨b1, b2⟩ := h4 k a b
  obtain ⟨o1, o2, o3, o4, o5, o6, o7⟩ := b1.1
  have h10 := hA.1
  refine ⟨⟨o1, o2, fun hwn => ?_, fun e => (o6 e).1⟩, o7, b2, ?_⟩
  · have := ((hx.2.2 (c k / 2) (by omega) (by omega)).mp o3).2
    unfold Worn at hwn
    omega
  · obtain ⟨K, rfl⟩ := Int.eq_ofNat_of_zero_le a
    exact hq K (by omega)
theorem best_q {f c : Int → Int} {w n : Int} (hA : StAll f) (hw : WdOk f w) (h : BestP f w c n) : (1 ≤ n ∧ n ≤ f (97 + 14 * w)) ∧ ∃ q : Int → Int, q 0 = 0 ∧ q n = f (97 + 14 * w) ∧ ∀ k, 0 ≤ k → k < n → (0 ≤ c k ∧ c k / 2 < f 0 ∧ ¬ Worn f (c k / 2) ∧ (c k % 2 = 1 → CanT f (c k / 2))) ∧ Fit f w (q k) (c k / 2) (c k % 2) ∧ q (k + 1) = q k + f (7 + 9 * (c k / 2)) ∧ 0 ≤ q k := by
  obtain ⟨x, hx, hp⟩ := h
  exact pln_q hA hw hx hp
/-! what word tells, as numbers -/
theorem wV_i {f : Int → Int} {w a : Int} (hw : 0 ≤ w ∧ w < f 1) (ha : 0 ≤ a ∧ a ≤ 5) : wV f w a = tw f w a := by unfold wV; rw [if_pos hw, if_pos ha]
section WV
variable {f : Int → Int} {w : Int}
theorem wV_0 (hA : StAll f) (hW : WdAll f) (hw : 0 ≤ w ∧ w < f 1) : wV f w 0 = f (97 + 14 * w) := by
  rw [wV_i hw (by omega), ← tw_eq hA (hW.2 w hw.1 hw.2).1 (Or.inl ⟨Or.inl rfl, rfl⟩), Int.add_zero]
theorem wV_1 (hA : StAll f) (hW : WdAll f) (hw : 0 ≤ w ∧ w < f 1) : wV f w 1 = f (97 + 14 * w + 1) := by
  rw [wV_i hw (by omega), ← tw_eq hA (hW.2 w hw.1 hw.2).1 (Or.inl ⟨Or.inr rfl, rfl⟩)]
theorem wV_2 (hA : StAll f) (hW : WdAll f) (hw : 0 ≤ w ∧ w < f 1) : wV f w 2 = pv f w := by
  have hk := (hW.2 w hw.1 hw.2).1
  obtain ⟨x, L, hx, hL, h⟩ := pv_x hA hk
  rw [wV_i hw (by omega), ← tw_eq hA hk (Or.inr (Or.inl ⟨rfl, x, hx, L, hL, rfl⟩))]
  rcases h with ⟨h1, h2, -⟩ | ⟨h1, h2, -⟩
  · rw [if_pos h2, h1]
  · rw [if_neg h2, h1]
theorem wV_3t (hA : StAll f) (hW : WdAll f) (hw : 0 ≤ w ∧ w < f 1) (h : Can f w) : wV f w 3 = 1 := by
  obtain ⟨z, hz⟩ := h
  rw [wV_i hw (by omega), ← tw_eq hA (hW.2 w hw.1 hw.2).1 (tellW_3t rfl ⟨z.1, z.2, hz⟩)]
theorem wV_3f (hA : StAll f) (hW : WdAll f) (hw : 0 ≤ w ∧ w < f 1) (h : ¬ Can f w) : wV f w 3 = 0 := by
  rw [wV_i hw (by omega), ← tw_eq hA (hW.2 w hw.1 hw.2).1 (tellW_3f rfl (fun c n g => h (can_i g)))]
theorem wV_45f (hA : StAll f) (hW : WdAll f) (hw : 0 ≤ w ∧ w < f 1) (h : ¬ Can f w) : wV f w 4 = -1 ∧ wV f w 5 = -1 := by
  have hk := (hW.2 w hw.1 hw.2).1
  refine ⟨?_, ?_⟩
  · rw [wV_i hw (by omega), ← tw_eq hA hk (Or.inr (Or.inr (Or.inr (Or.inl ⟨rfl, Or.inl ⟨rfl, fun c n g => h (can_i g)⟩⟩))))]
  · rw [wV_i hw (by omega), ← tw_eq hA hk (Or.inr (Or.inr (Or.inr (Or.inr ⟨rfl, Or.inl ⟨rfl, fun c n g => h (can_i g)⟩⟩))))]
theorem wV_45t {c : Int → Int} {n : Int} (hA : StAll f) (hW : WdAll f) (hw : 0 ≤ w ∧ w < f 1) (h : Wrt f w c n) : wV f w 4 = car (f (97 + 14 * w + 1)) c f n 5 - f 5 ∧ wV f w 5 = car (f (97 + 14 * w + 1)) c f n 6 - f 6 := by
  have hk := (hW.2 w hw.1 hw.2).1
  refine ⟨?_, ?_⟩
  · rw [wV_i hw (by omega), ← tw_eq hA hk (Or.inr (Or.inr (Or.inr (Or.inl ⟨rfl, Or.inr ⟨c, n, h, rfl⟩⟩))))]
  · rw [wV_i hw (by omega), ← tw_eq hA hk (Or.inr (Or.inr (Or.inr (Or.inr ⟨rfl, Or.inr ⟨c, n, h, rfl⟩⟩))))]
theorem wrt_best {c : Int → Int} {n : Int} (h : Wrt f w c n) : BestP f w c n := by
  obtain ⟨x, h1, h2, -⟩ := h
  exact ⟨x, h1, h2⟩
theorem wrt_pv {c : Int → Int} {n : Int} (hA : StAll f) (hk : WdOk f w) (h : Wrt f w c n) : n = pv f w := by
  by_cases e : pv f w = -1
  · exact absurd (wrt_best h) ((pv_f hA hk e).2 c n)
  · obtain ⟨-, c', h'⟩ := pv_t hA hk e
    exact (bestp_u hA hk (wrt_best h) h').1
end WV
theorem vV_i {f : Int → Int} {a : Int} (ha : 0 ≤ a ∧ a ≤ 8) : vV f a = tvf f a := by unfold vV; rw [if_pos ha]
theorem vV_lo {f : Int → Int} {a : Int} (ha : 0 ≤ a ∧ a < 7) : vV f a = f a := by rw [vV_i (by omega)]; unfold tvf; rw [if_pos ha.2]
theorem vV_7 {f : Int → Int} : vV f 7 = num (Worn f) (f 0) := by rw [vV_i (by omega)]; unfold tvf; rw [if_neg (by omega), if_pos rfl]
theorem vV_8 {f : Int → Int} : vV f 8 = num (HasP f) (f 1) := by rw [vV_i (by omega)]; unfold tvf; rw [if_neg (by omega), if_neg (by omega)]
theorem sV_i {f : Int → Int} {s a : Int} (hs : 0 ≤ s ∧ s < f 0) (ha : 0 ≤ a ∧ a ≤ 5) : sV f s a = tsf f s a := by unfold sV; rw [if_pos hs, if_pos ha]
theorem sV_0 {f : Int → Int} {s : Int} (hs : 0 ≤ s ∧ s < f 0) : sV f s 0 = f (7 + 9 * s) := by rw [sV_i hs (by omega)]; rfl
theorem sV_1 {f : Int → Int} {s : Int} (hs : 0 ≤ s ∧ s < f 0) : sV f s 1 = f (7 + 9 * s + 6) := by rw [sV_i hs (by omega)]; rfl
theorem sV_2 {f : Int → Int} {s : Int} (hs : 0 ≤ s ∧ s < f 0) : sV f s 2 = f (7 + 9 * s + 7) := by rw [sV_i hs (by omega)]; rfl
theorem sV_3 {f : Int → Int} {s : Int} (hs : 0 ≤ s ∧ s < f 0) : sV f s 3 = f (7 + 9 * s + 8) := by rw [sV_i hs (by omega)]; rfl
theorem sV_4t {f : Int → Int} {s : Int} (hs : 0 ≤ s ∧ s < f 0) (h : CanT f s) : sV f s 4 = 1 := by
  rw [sV_i hs (by omega)]
  exact (tsf_eq (a := 4) (Or.inr (Or.inr (Or.inr (Or.inr (Or.inl ⟨rfl, Or.inl ⟨rfl, h⟩⟩)))))).symm
theorem sV_4f {f : Int → Int} {s : Int} (hs : 0 ≤ s ∧ s < f 0) (h : ¬ CanT f s) : sV f s 4 = 0 := by
  rw [sV_i hs (by omega)]
  exact (tsf_eq (a := 4) (Or.inr (Or.inr (Or.inr (Or.inr (Or.inl ⟨rfl, Or.inr ⟨rfl, h⟩⟩)))))).symm
theorem sV_5t {f : Int → Int} {s : Int} (hs : 0 ≤ s ∧ s < f 0) (h : Worn f s) : sV f s 5 = 1 := by
  rw [sV_i hs (by omega)]
  exact (tsf_eq (a := 5) (Or.inr (Or.inr (Or.inr (Or.inr (Or.inr ⟨by omega, Or.inl ⟨rfl, h⟩⟩)))))).symm
theorem sV_5f {f : Int → Int} {s : Int} (hs : 0 ≤ s ∧ s < f 0) (h : ¬ Worn f s) : sV f s 5 = 0 := by
  rw [sV_i hs (by omega)]
  exact (tsf_eq (a := 5) (Or.inr (Or.inr (Or.inr (Or.inr (Or.inr ⟨by omega, Or.inr ⟨rfl, h⟩⟩)))))).symm
theorem sV_out {f : Int → Int} {s a : Int} (hs : ¬ (0 ≤ s ∧ s < f 0)) : sV f s a = -5000003 := by unfold sV; rw [if_neg hs]
theorem wV_out {f : Int → Int} {s a : Int} (hs : ¬ (0 ≤ s ∧ s < f 1)) : wV f s a = -5000003 := by unfold wV; rw [if_neg hs]
theorem wV_bad {f : Int → Int} {s a : Int} (hs : 0 ≤ s ∧ s < f 1) (ha : ¬ (0 ≤ a ∧ a ≤ 5)) : wV f s a = -5000001 := by unfold wV; rw [if_pos hs, if_neg ha]
theorem vV_bad {f : Int → Int} {a : Int} (ha : ¬ (0 ≤ a ∧ a ≤ 8)) : vV f a = -5000001 := by unfold vV; rw [if_neg ha]
theorem pV_out {f : Int → Int} {s i t : Int} (hs : ¬ ((0 ≤ s ∧ s < f 0) ∧ 0 ≤ i ∧ i < f (7 + 9 * s))) : pV f s i t = -5000003 := by unfold pV; rw [if_neg hs]
theorem pV_in {f : Int → Int} {s i t : Int} (hs : (0 ≤ s ∧ s < f 0) ∧ 0 ≤ i ∧ i < f (7 + 9 * s)) (h : ¬ t = 0 → CanT f s) : pV f s i t = prL f s i t := by unfold pV; rw [if_pos hs, @if_neg _ (Classical.propDecidable _) (fun g => g.2 (h g.1))]
theorem pV_no {f : Int → Int} {s i t : Int} (hs : (0 ≤ s ∧ s < f 0) ∧ 0 ≤ i ∧ i < f (7 + 9 * s)) (ht : ¬ t = 0) (h : ¬ CanT f s) : pV f s i t = -1 := by unfold pV; rw [if_pos hs, @if_pos _ (Classical.propDecidable _) ⟨ht, h⟩]
theorem lV_out {f : Int → Int} {w i : Int} (hs : ¬ ((0 ≤ w ∧ w < f 1) ∧ 0 ≤ i ∧ i < f (97 + 14 * w))) : lV f w i = -5000003 := by unfold lV; rw [if_neg hs]
theorem lV_in {f : Int → Int} {w i : Int} (hs : (0 ≤ w ∧ w < f 1) ∧ 0 ≤ i ∧ i < f (97 + 14 * w)) : lV f w i = f (97 + 14 * w + 2 + i) := by unfold lV; rw [if_pos hs]
theorem nV_in {f : Int → Int} {s : Int} (hs : 0 ≤ s ∧ s < f 0) : nV f s = num (NdW f s) (f 1) := by unfold nV; rw [if_pos hs]
theorem nV_out {f : Int → Int} {s : Int} (hs : ¬ (0 ≤ s ∧ s < f 0)) : nV f s = -5000003 := by unfold nV; rw [if_neg hs]
