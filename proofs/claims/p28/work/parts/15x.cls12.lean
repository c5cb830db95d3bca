set_option maxHeartbeats 4000000 in
theorem k_try_step {S : SD} {M : Nat → Int → Int} {x : Nat} {f : Int → Int} {B : Int} {t : Int → Int} {d : Int} {e : Nat} (hS : isRub S x) (has : AskR M x f) (hx3 : 3 ≤ x) (hR : RowOk B f) (hB : 0 ≤ B ∧ B ≤ 1000000000 - 400) (hd0 : 0 ≤ d ∧ d ≤ f 1) (he : 6 ≤ e) (ih : d < f 1 → ∀ t, TryC S x f e (d + 1) t) (hos : OS M x f d t) (hcur : CurA f t d (M (x + 91)) (bcv (M (x + 86) 6) (f 6))) (hcc : M (x + 86) 6 = -1 ∨ (f 6 ≤ M (x + 86) 6 ∧ M (x + 86) 6 < 2147483647)) (hcost : 0 < d → M (x + 86) 6 = -1 ∨ sq f t d 6 < M (x + 86) 6) {Q : Res → Wd → Prop} (k : ∀ (M2 : Nat → Int → Int), (∀ q9, (q9 < x + 86 ∨ x + 152 ≤ q9) → M2 q9 = M q9) → OS M2 x f d t → CurZ f t d (M2 (x + 91)) (bcv (M2 (x + 86) 6) (f 6)) → (M2 (x + 86) 6 = -1 ∨ (f 6 ≤ M2 (x + 86) 6 ∧ M2 (x + 86) 6 < 2147483647)) → Q (0, none) (M2, S)) : EvQ (e + 1) 29 [vR (x + 86), vR (x + 2), vR (x + 76), vI d] (M, S) Q := by
  refine EvQ.enter (ls := [vR (x + 86), vR (x + 2), vR (x + 76), vI d, none, none]) (Nat.le_of_ble_eq_true rfl) rfl ?_
  have hA := hR.1
  have hA1 := hA.1
  have hWA := hR.2.1
  have hW1 := hWA.1
  refine WP.blk 2 ?_
  show (sT S (x + 2) = 8 ∧ sR S (x + 2) 1 ≠ 0) ∧ WP e 29 4 [vR (x + 86), vR (x + 2), vR (x + 76), vI d, none, none] [vR (sR S (x + 2) 1)] (M, S) Q
  refine ⟨⟨hS.2.1.1, by rw [(show sR S (x + 2) 1 = x + 6 from hS.2.1.2.2.1)]; omega⟩, ?_⟩
  rw [(show sR S (x + 2) 1 = x + 6 from hS.2.1.2.2.1)]
  refine WP.blk 5 ?_
  show sT S (x + 6) = 7 ∧ WP e 29 (if cnd .ge d (M (x + 6) 4) = true then 21 else 15) [vR (x + 86), vR (x + 2), vR (x + 76), vI d, vI (M (x + 6) 4), none] [] (M, S) Q
  rw [has.1.1.2.1.1.2.2]
  refine ⟨hS.2.1.2.2.2.2.2.2.1.1, ?_⟩
  refine br_ge (fun c_1 => ?_) (fun c_1 => ?_)
  · refine WP.blk 2 ?_
    show WP e 29 23 [vR (x + 86), vR (x + 2), vR (x + 76), vI d, vI (f 1), none] [vI d, vR (x + 86)] (M, S) Q
    refine WP.cl (a := [vR (x + 86), vI d]) (rest := []) rfl rfl rfl rfl ⟨hS.2.2.2.2.2.2.2.1.1.1, trivial⟩ (by omega) (k_keep hS (by omega) (fun My_2 fry_2 hay_2 hby_2 => ⟨rfl, ?_⟩))
    show WP e 29 26 [vR (x + 86), vR (x + 2), vR (x + 76), vI d, vI (f 1), none] [] (My_2, S) Q
    have F_3 : AskR My_2 x f := AskR_fr (fun r9 h7 h8 h9 => fry_2 r9 (by omega) (by omega)) has
    have fr_4 : (∀ q9, (q9 < x + 86 ∨ x + 152 ≤ q9) → My_2 q9 = M q9) := fun q9 q0 => (fry_2 q9 (by omega) (by omega)).trans ((fun _ _ => rfl) q9 q0)
    refine WP.ret rfl rfl rfl trivial ?_
    have hde : d = f 1 := by omega
    have hk0 := hos.2.2.1 d (by omega) (Int.le_refl _)
    have hk6 : M (x + 92 + 4 * d.toNat) 5 = sq f t d 6 := hk0.1.2.2
    have hsr := (sq_row hR hB.1 (ord_rng hos.2.1) d (by omega) (Int.le_refl _)).1.2.2.2.2.2.2.2
    have hz := bcv_leaf hR hB.1 hde hos.2.1 hcur (b' := My_2 (x + 91)) (c' := My_2 (x + 86) 6) (fun i a b => by rw [hby_2, rcp_in (by omega), show 0 + (i - 0) = i by omega]; exact hos.1 i a (by omega)) (by rw [hay_2, uf_eq, hk6]) (by rw [hay_2, uf_eq, hk6]; omega) (fun h => by rw [hay_2, uf_eq, hk6]; exact hcost h)
    exact k _ fr_4 (os_leaf hos (fun q a b => fry_2 q a b) (by rw [hay_2, uf_ne (by omega)])) hz.1 (Or.inr ⟨hz.2, by rw [hay_2, uf_eq, hk6]; omega⟩)
  · refine WP.blk 3 ?_
    show WP e 29 (if cnd .lt d 7 = true then 27 else 21) [vR (x + 86), vR (x + 2), vR (x + 76), vI d, vI (f 1), none] [] (M, S) Q
    refine br_lt (fun c_5 => ?_) (fun c_5 => ?_)
    · refine WP.blk 2 ?_
      show WP e 29 30 [vR (x + 86), vR (x + 2), vR (x + 76), vI d, vI (f 1), vI 0] [] (M, S) Q
      have hd9 : 0 ≤ d ∧ d < f 1 := by omega
      have hl_30 : ∀ (n_30 : Nat) (w : Int) (Ma : Nat → Int → Int), 0 ≤ w ∧ w ≤ f 1 → OS Ma x f d t → StO f t d w (Ma (x + 91)) (bcv (Ma (x + 86) 6) (f 6)) → (Ma (x + 86) 6 = -1 ∨ (f 6 ≤ Ma (x + 86) 6 ∧ Ma (x + 86) 6 < 2147483647)) → AskR Ma x f → (∀ q9, (q9 < x + 86 ∨ x + 152 ≤ q9) → Ma q9 = M q9) → (f 1 - w).toNat < n_30 → WP e 29 30 [vR (x + 86), vR (x + 2), vR (x + 76), vI d, vI (f 1), vI w] [] (Ma, S) Q := by
        intro n_30
        induction n_30 with
        | zero => intro w Ma h1 hos1 hst hcc1 F_30_as fr_30 hm_30; exact absurd hm_30 (Nat.not_lt_zero _)
        | succ n_30 ih_30 =>
          intro w Ma h1 hos1 hst hcc1 F_30_as fr_30 hm_30
          obtain ⟨j1, hj1⟩ : ∃ j1, j1 = x + 92 + 4 * d.toNat := ⟨_, rfl⟩
          obtain ⟨j2, hj2⟩ : ∃ j2, j2 = x + 96 + 4 * d.toNat := ⟨_, rfl⟩
          obtain ⟨pw, hpw0⟩ : ∃ pw, pw = x + 124 + 4 * w.toNat := ⟨_, rfl⟩
          refine WP.blk 3 ?_
          show WP e 29 (if cnd .ge w (f 1) = true then 86 else 37) [vR (x + 86), vR (x + 2), vR (x + 76), vI d, vI (f 1), vI w] [] (Ma, S) Q
          refine br_ge (fun c_6 => ?_) (fun c_6 => ?_)
          · exact WP.ret rfl rfl rfl trivial (k _ fr_30 hos1 (curZ_out hd9 (by have e9 := hst; rw [show w = f 1 by omega] at e9; exact e9)) hcc1)
          · refine WP.blk 3 ?_
            show WP e 29 (if cnd .ge w 7 = true then 86 else 44) [vR (x + 86), vR (x + 2), vR (x + 76), vI d, vI (f 1), vI w] [] (Ma, S) Q
            refine br_ge (fun c_7 => ?_) (fun c_7 => ?_)
            · exact WP.ret rfl rfl rfl trivial (k _ fr_30 hos1 (curZ_out hd9 (by have e9 := hst; rw [show w = f 1 by omega] at e9; exact e9)) hcc1)
            · refine WP.blk 5 ?_
              show WP e 29 50 [vR (x + 86), vR (x + 2), vR (x + 76), vI d, vI (f 1), vI w] [vI w, vI d, vR (x + 76), vR (x + 2), vR (x + 86)] (Ma, S) Q
              refine WP.cl (a := [vR (x + 86), vR (x + 2), vR (x + 76), vI d, vI w]) (rest := []) rfl rfl rfl rfl ⟨hS.2.2.2.2.2.2.2.1.1.1, trivial⟩ (by omega) (k_advance hS F_30_as hx3 hR hos1 hd9 (by omega) hj1 hj2 hpw0 hB (fun b_8 M8 fr8 hb_8 => ⟨rfl, ?_⟩))
              show WP e 29 53 [vR (x + 86), vR (x + 2), vR (x + 76), vI d, vI (f 1), vI w] [vI b_8] (M8, S) Q
              have F_9 : AskR M8 x f := AskR_fr (fun r9 h7 h8 h9 => fr8 r9 (by omega) (by omega) (by omega) (by omega) (by omega)) F_30_as
              have fr_10 : (∀ q9, (q9 < x + 86 ∨ x + 152 ≤ q9) → M8 q9 = M q9) := fun q9 q0 => (fr8 q9 (by omega) (by omega) (by omega) (by omega) (by omega)).trans (fr_30 q9 q0)
              have hz8 : b_8 = 0 ∨ b_8 = 1 := by rcases hb_8 with h | h <;> omega
              refine WP.blk 1 ?_
              show WP e 29 (if cnd .eq b_8 0 = true then 80 else 56) [vR (x + 86), vR (x + 2), vR (x + 76), vI d, vI (f 1), vI w] [] (M8, S) Q
              refine br_eq (fun c_11 => ?_) (fun c_11 => ?_)
              · have p_8 := (hb_8.resolve_left (fun h => by omega)).2
                have hadn := (hb_8.resolve_left (fun h => by omega)).2
                have e91 : M8 (x + 91) = Ma (x + 91) := fr8 _ (by omega) (by omega) (by omega) (by omega) (by omega)
                refine WP.blk 2 ?_
                show ir (w + 1) ∧ WP e 29 30 [vR (x + 86), vR (x + 2), vR (x + 76), vI d, vI (f 1), vI (w + 1)] [] (M8, S) Q
                refine ⟨(by unfold ir; omega), ?_⟩
                exact ih_30 (w + 1) M8 (by omega) hadn.1 (by rw [e91, hadn.2.1]; exact sto_no hR hB.1 hd9 (by omega) hst (hcc1.imp id (fun h => h.1)) hadn.2.2 (sq_big hR hB (by omega) hd9 hos1.2.1 (by omega)).2.2.2) (by rw [hadn.2.1]; exact hcc1) F_9 fr_10 (by omega)
              · have p_8 := (hb_8.resolve_right (fun h => by omega)).2
                have hadv := (hb_8.resolve_right (fun h => by omega)).2
                have e91 : M8 (x + 91) = Ma (x + 91) := fr8 _ (by omega) (by omega) (by omega) (by omega) (by omega)
                refine WP.blk 6 ?_
                show ir (d + 1) ∧ WP e 29 62 [vR (x + 86), vR (x + 2), vR (x + 76), vI d, vI (f 1), vI w] [vI (d + 1), vR (x + 76), vR (x + 2), vR (x + 86)] (M8, S) Q
                refine ⟨(by unfold ir; omega), ?_⟩
                refine WP.cl (a := [vR (x + 86), vR (x + 2), vR (x + 76), vI (d + 1)]) (rest := []) rfl rfl rfl rfl trivial (by omega) (ih (by omega) (uf t d w) _ _ F_9 hadv.1 (by rw [e91, hadv.2.1]; exact curA_ch hd9.1 hst) (by rw [hadv.2.1]; exact hcc1) (fun _ => by rw [sq_s hd9.1, uf_eq, sq_c (t' := t) (fun i a b => by rw [uf_ne (by omega)]), hadv.2.1]; exact hadv.2.2.1) (fun My_12 fry_12 hoy_12 hcy_12 hccy_12 => ⟨rfl, ?_⟩))
                show WP e 29 65 [vR (x + 86), vR (x + 2), vR (x + 76), vI d, vI (f 1), vI w] [] (My_12, S) Q
                have F_13 : AskR My_12 x f := AskR_fr (fun r9 h7 h8 h9 => fry_12 r9 (by omega)) F_9
                have fr_14 : (∀ q9, (q9 < x + 86 ∨ x + 152 ≤ q9) → My_12 q9 = M q9) := fun q9 q0 => (fry_12 q9 (by omega)).trans (fr_10 q9 q0)
                refine WP.blk 10 ?_
                show sT S (x + 86) = 5 ∧ sT S (x + 86) = 5 ∧ WP e 29 80 [vR (x + 86), vR (x + 2), vR (x + 76), vI d, vI (f 1), vI w] [] (up My_12 (x + 86) 5 (iA (My_12 (x + 86) 5) (iX (iL 1 w) (-1))), S) Q
                refine ⟨hS.2.2.2.2.2.2.2.1.1.1, hS.2.2.2.2.2.2.2.1.1.1, ?_⟩
                generalize hM_15 : up My_12 (x + 86) 5 (iA (My_12 (x + 86) 5) (iX (iL 1 w) (-1))) = M_15
                have F_16 : AskR M_15 x f := AskR_fr (fun r9 h7 h8 h9 => by rw [← hM_15]; exact up_row (by omega)) F_13
                have fr_17 : (∀ q9, (q9 < x + 86 ∨ x + 152 ≤ q9) → M_15 q9 = M q9) := fun q9 q0 => by rw [← hM_15]; exact (up_row (by omega)).trans (fr_14 q9 q0)
                have hbk := os_back hd9.1 (by omega) hadv.2.2.2 hoy_12 rfl hM_15
                refine WP.blk 2 ?_
                show ir (w + 1) ∧ WP e 29 30 [vR (x + 86), vR (x + 2), vR (x + 76), vI d, vI (f 1), vI (w + 1)] [] (M_15, S) Q
                refine ⟨(by unfold ir; omega), ?_⟩
                exact ih_30 (w + 1) M_15 (by omega) hbk.1 (by rw [hbk.2.2, hbk.2.1]; exact curZ_ch hd9.1 hcy_12) (by rw [hbk.2.1]; exact hccy_12) F_16 fr_17 (by omega)
      exact hl_30 _ 0 M (by omega) hos (curA_in (by omega) hcur) hcc has (fun _ _ => rfl) (Nat.lt_succ_self _)
    · refine WP.blk 2 ?_
      show WP e 29 23 [vR (x + 86), vR (x + 2), vR (x + 76), vI d, vI (f 1), none] [vI d, vR (x + 86)] (M, S) Q
      refine WP.cl (a := [vR (x + 86), vI d]) (rest := []) rfl rfl rfl rfl ⟨hS.2.2.2.2.2.2.2.1.1.1, trivial⟩ (by omega) (k_keep hS (by omega) (fun My_18 fry_18 hay_18 hby_18 => ⟨rfl, ?_⟩))
      show WP e 29 26 [vR (x + 86), vR (x + 2), vR (x + 76), vI d, vI (f 1), none] [] (My_18, S) Q
      have F_19 : AskR My_18 x f := AskR_fr (fun r9 h7 h8 h9 => fry_18 r9 (by omega) (by omega)) has
      have fr_20 : (∀ q9, (q9 < x + 86 ∨ x + 152 ≤ q9) → My_18 q9 = M q9) := fun q9 q0 => (fry_18 q9 (by omega) (by omega)).trans ((fun _ _ => rfl) q9 q0)
      refine WP.ret rfl rfl rfl trivial ?_
      have hde : d = f 1 := by omega
      have hk0 := hos.2.2.1 d (by omega) (Int.le_refl _)
      have hk6 : M (x + 92 + 4 * d.toNat) 5 = sq f t d 6 := hk0.1.2.2
      have hsr := (sq_row hR hB.1 (ord_rng hos.2.1) d (by omega) (Int.le_refl _)).1.2.2.2.2.2.2.2
      have hz := bcv_leaf hR hB.1 hde hos.2.1 hcur (b' := My_18 (x + 91)) (c' := My_18 (x + 86) 6) (fun i a b => by rw [hby_18, rcp_in (by omega), show 0 + (i - 0) = i by omega]; exact hos.1 i a (by omega)) (by rw [hay_18, uf_eq, hk6]) (by rw [hay_18, uf_eq, hk6]; omega) (fun h => by rw [hay_18, uf_eq, hk6]; exact hcost h)
      exact k _ fr_20 (os_leaf hos (fun q a b => fry_18 q a b) (by rw [hay_18, uf_ne (by omega)])) hz.1 (Or.inr ⟨hz.2, by rw [hay_18, uf_eq, hk6]; omega⟩)
theorem k_try {S : SD} {x : Nat} {f : Int → Int} {B : Int} (hS : isRub S x) (hx3 : 3 ≤ x) (hR : RowOk B f) (hB : 0 ≤ B ∧ B ≤ 1000000000 - 400) : ∀ (k : Nat) (d : Int), 0 ≤ d → d ≤ f 1 → f 1 - d ≤ k → ∀ t, TryC S x f (7 + k) d t := by
  intro k
  induction k with
  | zero =>
    intro d h0 h1 h2 t M Q has hos hcur hcc hcost kk
    exact k_try_step (e := 6) hS has hx3 hR hB ⟨h0, h1⟩ (Nat.le_refl _) (fun h => by omega) hos hcur hcc hcost kk
  | succ k ih =>
    intro d h0 h1 h2 t M Q has hos hcur hcc hcost kk
    exact k_try_step (e := 7 + k) hS has hx3 hR hB ⟨h0, h1⟩ (by omega) (fun h t' => ih (d + 1) (by omega) (by omega) (by omega) t') hos hcur hcc hcost kk
set_option maxHeartbeats 4000000 in
theorem k_ordSearch {S : SD} {M : Nat → Int → Int} {x : Nat} {f : Int → Int} {B : Int} (hS : isRub S x) (has : AskR M x f) (hx3 : 3 ≤ x) (hR : RowOk B f) (hB : 0 ≤ B ∧ B ≤ 1000000000 - 400) {Q : Res → Wd → Prop} (k : ∀ (v : Int) (M2 : Nat → Int → Int), (∀ q9, (q9 < x + 86 ∨ x + 152 ≤ q9) → M2 q9 = M q9) → BestO f (M2 (x + 91)) v → Q (0, vI v) (M2, S)) : EvQ 15 27 [vR (x + 86), vR (x + 2), vR (x + 76)] (M, S) Q := by
  refine EvQ.enter (ls := [vR (x + 86), vR (x + 2), vR (x + 76)]) (Nat.le_of_ble_eq_true rfl) rfl ?_
  have hA := hR.1
  have hA1 := hA.1
  have hWA := hR.2.1
  have hW1 := hWA.1
  have hI6 := hR.2.2.2.2.2.2.2
  obtain ⟨o, ho⟩ : ∃ y9, M (x + 86) = y9 := ⟨_, rfl⟩
  obtain ⟨pf, hpf⟩ : ∃ y9, M (x + 89) = y9 := ⟨_, rfl⟩
  obtain ⟨j0, hj0⟩ : ∃ j0, j0 = x + 92 := ⟨_, rfl⟩
  have hi0 := ord_ink hS.2.2.2.2.2.2.2.1 (d := 0) (by omega)
  rw [show x + 86 + 6 + 4 * (0 : Int).toNat = j0 from by rw [hj0]; rfl] at hi0
  refine WP.blk 2 ?_
  show (sT S (x + 86) = 5 ∧ sR S (x + 86) 2 ≠ 0) ∧ WP 14 27 4 [vR (x + 86), vR (x + 2), vR (x + 76)] [vR (sR S (x + 86) 2)] (M, S) Q
  refine ⟨⟨hS.2.2.2.2.2.2.2.1.1.1, by rw [(show sR S (x + 86) 2 = x + 89 from hS.2.2.2.2.2.2.2.1.1.2.2.2.1)]; omega⟩, ?_⟩
  rw [(show sR S (x + 86) 2 = x + 89 from hS.2.2.2.2.2.2.2.1.1.2.2.2.1)]
  refine WP.blk 1 ?_
  show WP 14 27 5 [vR (x + 86), vR (x + 2), vR (x + 76)] [vI (-1), vR (x + 89)] (M, S) Q
  refine WP.cl (a := [vR (x + 89), vI (-1)]) (rest := []) rfl rfl rfl rfl trivial (by decide) (j_fill (n := 7) hS.2.2.2.2.2.2.2.1.2.1.2.2.2.2.1 hS.2.2.2.2.2.2.2.1.2.1.2.2.2.2.2.1 (by omega) (fun My_1 fry_1 hky_1 => ⟨rfl, ?_⟩))
  show WP 14 27 8 [vR (x + 86), vR (x + 2), vR (x + 76)] [] (My_1, S) Q
  obtain ⟨py_1, hppy_1⟩ : ∃ y9, My_1 (x + 89) = y9 := ⟨_, rfl⟩
  have h89 := hppy_1.symm.trans hky_1
  have r_2 : My_1 (x + 86) = o := (fry_1 _ (by omega)).trans ho
  have F_4 : AskR My_1 x f := AskR_fr (fun r9 h7 h8 h9 => fry_1 r9 (by omega)) has
  have fr_5 : (∀ q9, (q9 < x + 86 ∨ x + 152 ≤ q9) → My_1 q9 = M q9) := fun q9 q0 => (fry_1 q9 (by omega)).trans ((fun _ _ => rfl) q9 q0)
  refine WP.blk 3 ?_
  show sT S (x + 86) = 5 ∧ WP 14 27 13 [vR (x + 86), vR (x + 2), vR (x + 76)] [] (up My_1 (x + 86) 5 0, S) Q
  refine ⟨hS.2.2.2.2.2.2.2.1.1.1, ?_⟩
  generalize hM_6 : up My_1 (x + 86) 5 0 = M_6
  obtain ⟨g_8, hg_8⟩ : ∃ y9, y9 = uf o 5 0 := ⟨_, rfl⟩
  have r_7 : M_6 (x + 86) = g_8 := by rw [← hM_6, hg_8, up_self, r_2]
  have t_9 : g_8 5 = 0 := by rw [hg_8]; exact uf_at _ _ (by omega)
  have t_10 : g_8 6 = o 6 := by rw [hg_8]; exact uf_ne (by omega)
  have r_11 : M_6 (x + 89) = py_1 := by rw [← hM_6]; exact (up_row (by omega)).trans hppy_1
  have F_12 : AskR M_6 x f := AskR_fr (fun r9 h7 h8 h9 => by rw [← hM_6]; exact up_row (by omega)) F_4
  have fr_13 : (∀ q9, (q9 < x + 86 ∨ x + 152 ≤ q9) → M_6 q9 = M q9) := fun q9 q0 => by rw [← hM_6]; exact (up_row (by omega)).trans (fr_5 q9 q0)
  refine WP.blk 3 ?_
  show sT S (x + 86) = 5 ∧ WP 14 27 18 [vR (x + 86), vR (x + 2), vR (x + 76)] [] (up M_6 (x + 86) 6 (-1), S) Q
  refine ⟨hS.2.2.2.2.2.2.2.1.1.1, ?_⟩
  generalize hM_14 : up M_6 (x + 86) 6 (-1) = M_14
  obtain ⟨g_16, hg_16⟩ : ∃ y9, y9 = uf g_8 6 (-1) := ⟨_, rfl⟩
  have r_15 : M_14 (x + 86) = g_16 := by rw [← hM_14, hg_16, up_self, r_7]
  have t_17 : g_16 5 = g_8 5 := by rw [hg_16]; exact uf_ne (by omega)
  have t_18 : g_16 6 = (-1) := by rw [hg_16]; exact uf_at _ _ (by omega)
  have r_19 : M_14 (x + 89) = py_1 := by rw [← hM_14]; exact (up_row (by omega)).trans r_11
  have F_20 : AskR M_14 x f := AskR_fr (fun r9 h7 h8 h9 => by rw [← hM_14]; exact up_row (by omega)) F_12
  have fr_21 : (∀ q9, (q9 < x + 86 ∨ x + 152 ≤ q9) → M_14 q9 = M q9) := fun q9 q0 => by rw [← hM_14]; exact (up_row (by omega)).trans (fr_13 q9 q0)
  refine WP.blk 2 ?_
  show (sT S (x + 86) = 5 ∧ sR S (x + 86) 0 ≠ 0) ∧ WP 14 27 22 [vR (x + 86), vR (x + 2), vR (x + 76)] [vR (sR S (x + 86) 0)] (M_14, S) Q
  refine ⟨⟨hS.2.2.2.2.2.2.2.1.1.1, by rw [(show sR S (x + 86) 0 = x + 87 from hS.2.2.2.2.2.2.2.1.1.2.1)]; omega⟩, ?_⟩
  rw [(show sR S (x + 86) 0 = x + 87 from hS.2.2.2.2.2.2.2.1.1.2.1)]
  refine WP.blk 2 ?_
  show (ref3 (sT S (x + 87)) ∧ 0 ≤ 0 ∧ 0 < (sN S (x + 87) : Int) ∧ sR S (x + 87) 0 ≠ 0) ∧ WP 14 27 24 [vR (x + 86), vR (x + 2), vR (x + 76)] [vR (sR S (x + 87) 0)] (M_14, S) Q
  refine ⟨⟨(Or.inr (Or.inl hS.2.2.2.2.2.2.2.1.2.1.1)), by omega, by rw [(show sN S (x + 87) = 8 from hS.2.2.2.2.2.2.2.1.2.1.2.1)]; omega, by rw [(show sR S (x + 87) 0 = j0 from hi0.1)]; omega⟩, ?_⟩
  rw [(show sR S (x + 87) 0 = j0 from hi0.1)]
  refine WP.blk 3 ?_
  show (sT S (x + 86) = 5 ∧ sR S (x + 86) 0 ≠ 0) ∧ WP 14 27 31 [vR (x + 86), vR (x + 2), vR (x + 76)] [vR (sR S (x + 86) 0)] (M_14, S) Q
  refine ⟨⟨hS.2.2.2.2.2.2.2.1.1.1, by rw [(show sR S (x + 86) 0 = x + 87 from hS.2.2.2.2.2.2.2.1.1.2.1)]; omega⟩, ?_⟩
  rw [(show sR S (x + 86) 0 = x + 87 from hS.2.2.2.2.2.2.2.1.1.2.1)]
  refine WP.blk 2 ?_
  show (ref3 (sT S (x + 87)) ∧ 0 ≤ 0 ∧ 0 < (sN S (x + 87) : Int) ∧ sR S (x + 87) 0 ≠ 0) ∧ WP 14 27 33 [vR (x + 86), vR (x + 2), vR (x + 76)] [vR (sR S (x + 87) 0)] (M_14, S) Q
  refine ⟨⟨(Or.inr (Or.inl hS.2.2.2.2.2.2.2.1.2.1.1)), by omega, by rw [(show sN S (x + 87) = 8 from hS.2.2.2.2.2.2.2.1.2.1.2.1)]; omega, by rw [(show sR S (x + 87) 0 = j0 from hi0.1)]; omega⟩, ?_⟩
  rw [(show sR S (x + 87) 0 = j0 from hi0.1)]
  refine WP.blk 2 ?_
  show (sT S (x + 2) = 8 ∧ sR S (x + 2) 3 ≠ 0) ∧ WP 14 27 37 [vR (x + 86), vR (x + 2), vR (x + 76)] [vR (sR S (x + 2) 3), vR j0] (M_14, S) Q
  refine ⟨⟨hS.2.1.1, by rw [(show sR S (x + 2) 3 = x + 10 from hS.2.1.2.2.2.2.1)]; omega⟩, ?_⟩
  rw [(show sR S (x + 2) 3 = x + 10 from hS.2.1.2.2.2.2.1)]
  refine WP.cl (a := [vR j0, vR (x + 10)]) (rest := []) rfl rfl rfl rfl ⟨hi0.2.1, trivial⟩ (by decide) (k_copyInks hi0.2 hS.2.1.2.2.2.2.2.2.2.2.2 (by omega) F_20.1.2 (by omega) (fun My_22 fry_22 hky_22 => ⟨rfl, ?_⟩))
  show WP 14 27 40 [vR (x + 86), vR (x + 2), vR (x + 76)] [] (My_22, S) Q
  have r_23 : My_22 (x + 86) = g_16 := (fry_22 _ (by omega)).trans r_15
  have r_24 : My_22 (x + 89) = py_1 := (fry_22 _ (by omega)).trans r_19
  have F_25 : AskR My_22 x f := AskR_fr (fun r9 h7 h8 h9 => fry_22 r9 (by omega)) F_20
  have fr_26 : (∀ q9, (q9 < x + 86 ∨ x + 152 ≤ q9) → My_22 q9 = M q9) := fun q9 q0 => (fry_22 q9 (by omega)).trans (fr_21 q9 q0)
  refine WP.blk 4 ?_
  show WP 14 27 44 [vR (x + 86), vR (x + 2), vR (x + 76)] [vI 0, vR (x + 76), vR (x + 2), vR (x + 86)] (My_22, S) Q
  refine WP.cl (a := [vR (x + 86), vR (x + 2), vR (x + 76), vI 0]) (rest := []) rfl rfl rfl rfl trivial (by decide) (k_try hS hx3 hR hB 7 0 (by omega) (by omega) (by omega) (fun _ => 0) _ _ F_25 ⟨fun k a b => by omega, fun k a b => by omega, fun k a b => by rw [show k = 0 by omega, sq_0, show x + 92 + 4 * (0 : Int).toNat = j0 by rw [hj0]; rfl]; exact hky_22, ⟨by rw [r_23]; omega, fun w a b => ⟨fun h => by rw [r_23, show g_16 5 = 0 by omega] at h; exact absurd h bs_0, fun h => by obtain ⟨j, h1, -⟩ := h; omega⟩⟩, fun w a b => Or.inl (by rw [r_24, h89]; unfold fillR; exact if_pos (by omega))⟩ (Or.inl ⟨rfl, by rw [r_23, show g_16 6 = -1 by omega]; rfl⟩) (Or.inl (by rw [r_23]; omega)) (fun h => by omega) (fun My_27 fry_27 hoy_27 hcy_27 hccy_27 => ⟨rfl, ?_⟩))
  show WP 14 27 47 [vR (x + 86), vR (x + 2), vR (x + 76)] [] (My_27, S) Q
  obtain ⟨oy_27, hooy_27⟩ : ∃ y9, My_27 (x + 86) = y9 := ⟨_, rfl⟩
  obtain ⟨py_27, hppy_27⟩ : ∃ y9, My_27 (x + 89) = y9 := ⟨_, rfl⟩
  rw [hooy_27] at hcy_27 hccy_27
  have F_30 : AskR My_27 x f := AskR_fr (fun r9 h7 h8 h9 => fry_27 r9 (by omega)) F_25
  have fr_31 : (∀ q9, (q9 < x + 86 ∨ x + 152 ≤ q9) → My_27 q9 = M q9) := fun q9 q0 => (fry_27 q9 (by omega)).trans (fr_26 q9 q0)
  refine WP.blk 4 ?_
  show sT S (x + 86) = 5 ∧ WP 14 27 (if cnd .ne (My_27 (x + 86) 6) (-1) = true then 59 else 55) [vR (x + 86), vR (x + 2), vR (x + 76)] [] (My_27, S) Q
  rw [hooy_27]
  refine ⟨hS.2.2.2.2.2.2.2.1.1.1, ?_⟩
  refine br_ne (fun c_32 => ?_) (fun c_32 => ?_)
  · refine WP.blk 4 ?_
    show sT S (x + 86) = 5 ∧ (sT S (x + 2) = 8 ∧ sR S (x + 2) 3 ≠ 0) ∧ WP 14 27 67 [vR (x + 86), vR (x + 2), vR (x + 76)] [vR (sR S (x + 2) 3), vI (My_27 (x + 86) 6)] (My_27, S) Q
    rw [hooy_27]
    refine ⟨hS.2.2.2.2.2.2.2.1.1.1, ⟨hS.2.1.1, by rw [(show sR S (x + 2) 3 = x + 10 from hS.2.1.2.2.2.2.1)]; omega⟩, ?_⟩
    rw [(show sR S (x + 2) 3 = x + 10 from hS.2.1.2.2.2.2.1)]
    refine WP.blk 2 ?_
    show sT S (x + 10) = 4 ∧ ir ((oy_27 6) - (My_27 (x + 10) 5)) ∧ WP 14 27 71 [vR (x + 86), vR (x + 2), vR (x + 76)] [vI ((oy_27 6) - (My_27 (x + 10) 5))] (My_27, S) Q
    rw [F_30.1.2.1.2.2]
    refine ⟨hS.2.1.2.2.2.2.2.2.2.2.2.1, (by unfold ir; omega), ?_⟩
    exact WP.ret rfl rfl rfl trivial (k _ _ fr_31 (ordV_i hcy_27 (by unfold bcv; first | rw [if_pos (by omega)] | rw [if_neg (by omega)])))
  · refine WP.blk 2 ?_
    show WP 14 27 71 [vR (x + 86), vR (x + 2), vR (x + 76)] [vI (-1)] (My_27, S) Q
    exact WP.ret rfl rfl rfl trivial (k _ _ fr_31 (ordV_i hcy_27 (by unfold bcv; first | rw [if_pos (by omega)] | rw [if_neg (by omega)])))
set_option maxHeartbeats 4000000 in
theorem t_leastCleanings {S : SD} {M : Nat → Int → Int} {x : Nat} {f : Int → Int} {B : Int} (hS : isRub S x) (has : AskR M x f) (hx3 : 3 ≤ x) (hR : RowOk B f) (hB : 0 ≤ B ∧ B ≤ 1000000000 - 400) {Q : Res → Wd → Prop} (k : ∀ (v : Int) (M2 : Nat → Int → Int), (∀ q9, (q9 < x + 86 ∨ x + 152 ≤ q9) → M2 q9 = M q9) → ∀ b, BestO f b v → Q (0, vI v) (M2, S)) : EvQ 16 83 [vR x] (M, S) Q := by
  refine EvQ.enter (ls := [vR x]) (Nat.le_of_ble_eq_true rfl) rfl ?_
  refine WP.blk 2 ?_
  show (sT S x = 9 ∧ sR S x 8 ≠ 0) ∧ WP 15 83 4 [vR x] [vR (sR S x 8)] (M, S) Q
  refine ⟨⟨hS.1.1, by rw [(show sR S x 8 = x + 86 from hS.1.2.2.2.2.2.2.2.2.1)]; omega⟩, ?_⟩
  rw [(show sR S x 8 = x + 86 from hS.1.2.2.2.2.2.2.2.2.1)]
  refine WP.blk 2 ?_
  show (sT S x = 9 ∧ sR S x 2 ≠ 0) ∧ WP 15 83 8 [vR x] [vR (sR S x 2), vR (x + 86)] (M, S) Q
  refine ⟨⟨hS.1.1, by rw [(show sR S x 2 = x + 2 from hS.1.2.2.1)]; omega⟩, ?_⟩
  rw [(show sR S x 2 = x + 2 from hS.1.2.2.1)]
  refine WP.blk 2 ?_
  show (sT S x = 9 ∧ sR S x 5 ≠ 0) ∧ WP 15 83 12 [vR x] [vR (sR S x 5), vR (x + 2), vR (x + 86)] (M, S) Q
  refine ⟨⟨hS.1.1, by rw [(show sR S x 5 = x + 76 from hS.1.2.2.2.2.2.1)]; omega⟩, ?_⟩
  rw [(show sR S x 5 = x + 76 from hS.1.2.2.2.2.2.1)]
  refine WP.cl (a := [vR (x + 86), vR (x + 2), vR (x + 76)]) (rest := []) rfl rfl rfl rfl ⟨hS.2.2.2.2.2.2.2.1.1.1, trivial⟩ (by decide) (k_ordSearch hS has hx3 hR hB (fun vy_1 My_1 fry_1 hvy_1 => ⟨rfl, ?_⟩))
  show WP 15 83 15 [vR x] [vI vy_1] (My_1, S) Q
  have F_2 : AskR My_1 x f := AskR_fr (fun r9 h7 h8 h9 => fry_1 r9 (by omega)) has
  have fr_3 : (∀ q9, (q9 < x + 86 ∨ x + 152 ≤ q9) → My_1 q9 = M q9) := fun q9 q0 => (fry_1 q9 (by omega)).trans ((fun _ _ => rfl) q9 q0)
  exact WP.ret rfl rfl rfl trivial (k _ _ fr_3 _ hvy_1)
set_option maxHeartbeats 4000000 in
theorem t_order {S : SD} {M : Nat → Int → Int} {x : Nat} {f : Int → Int} {B : Int} {i : Int} (hS : isRub S x) (has : AskR M x f) (hx3 : 3 ≤ x) (hR : RowOk B f) (hB : 0 ≤ B ∧ B ≤ 1000000000 - 400) {Q : Res → Wd → Prop} (k : ∀ (v : Int) (M2 : Nat → Int → Int), (∀ q9, (q9 < x + 86 ∨ x + 152 ≤ q9) → M2 q9 = M q9) → (0 ≤ i ∧ i < f 1) → ∀ b c, BestO f b c → ¬ c = -1 → v = b i → Q (0, vI v) (M2, S)) (k3 : ¬ (0 ≤ i ∧ i < f 1) → Q (3, none) (tk (M, S))) (k2 : ∀ (M2 : Nat → Int → Int), (∀ q9, (q9 < x + 86 ∨ x + 152 ≤ q9) → M2 q9 = M q9) → (0 ≤ i ∧ i < f 1) → ∀ b, BestO f b (-1) → Q (2, none) (tk (M2, S))) : EvQ 16 82 [vR x, vI i] (M, S) Q := by
  refine EvQ.enter (ls := [vR x, vI i]) (Nat.le_of_ble_eq_true rfl) rfl ?_
  have hW1 := hR.2.1.1
  refine WP.blk 2 ?_
  show (sT S x = 9 ∧ sR S x 2 ≠ 0) ∧ WP 15 82 4 [vR x, vI i] [vR (sR S x 2)] (M, S) Q
  refine ⟨⟨hS.1.1, by rw [(show sR S x 2 = x + 2 from hS.1.2.2.1)]; omega⟩, ?_⟩
  rw [(show sR S x 2 = x + 2 from hS.1.2.2.1)]
  refine WP.blk 1 ?_
  show (sT S (x + 2) = 8 ∧ sR S (x + 2) 1 ≠ 0) ∧ WP 15 82 7 [vR x, vI i] [vR (sR S (x + 2) 1)] (M, S) Q
  refine ⟨⟨hS.2.1.1, by rw [(show sR S (x + 2) 1 = x + 6 from hS.2.1.2.2.1)]; omega⟩, ?_⟩
  rw [(show sR S (x + 2) 1 = x + 6 from hS.2.1.2.2.1)]
  refine WP.blk 1 ?_
  show WP 15 82 8 [vR x, vI i] [vI i, vR (x + 6)] (M, S) Q
  refine WP.cl (a := [vR (x + 6), vI i]) (rest := []) rfl rfl rfl rfl ⟨hS.2.1.2.2.2.2.2.2.1.1, trivial⟩ (by decide) (k_has hS.2.1.2.2.2.2.2.2.1 has.1.1.2.1 (by omega) (fun b_1 hb_1 => ⟨rfl, ?_⟩))
  show WP 15 82 11 [vR x, vI i] [vI b_1] (M, S) Q
  refine WP.blk 1 ?_
  show WP 15 82 (if cnd .ne b_1 0 = true then 24 else 14) [vR x, vI i] [] (M, S) Q
  refine br_ne (fun c_2 => ?_) (fun c_2 => ?_)
  · have p_1 := (hb_1.resolve_right (fun h => by omega)).2
    refine WP.blk 2 ?_
    show (sT S x = 9 ∧ sR S x 8 ≠ 0) ∧ WP 15 82 28 [vR x, vI i] [vR (sR S x 8)] (M, S) Q
    refine ⟨⟨hS.1.1, by rw [(show sR S x 8 = x + 86 from hS.1.2.2.2.2.2.2.2.2.1)]; omega⟩, ?_⟩
    rw [(show sR S x 8 = x + 86 from hS.1.2.2.2.2.2.2.2.2.1)]
    refine WP.blk 2 ?_
    show (sT S x = 9 ∧ sR S x 2 ≠ 0) ∧ WP 15 82 32 [vR x, vI i] [vR (sR S x 2), vR (x + 86)] (M, S) Q
    refine ⟨⟨hS.1.1, by rw [(show sR S x 2 = x + 2 from hS.1.2.2.1)]; omega⟩, ?_⟩
    rw [(show sR S x 2 = x + 2 from hS.1.2.2.1)]
    refine WP.blk 2 ?_
    show (sT S x = 9 ∧ sR S x 5 ≠ 0) ∧ WP 15 82 36 [vR x, vI i] [vR (sR S x 5), vR (x + 2), vR (x + 86)] (M, S) Q
    refine ⟨⟨hS.1.1, by rw [(show sR S x 5 = x + 76 from hS.1.2.2.2.2.2.1)]; omega⟩, ?_⟩
    rw [(show sR S x 5 = x + 76 from hS.1.2.2.2.2.2.1)]
    refine WP.cl (a := [vR (x + 86), vR (x + 2), vR (x + 76)]) (rest := []) rfl rfl rfl rfl ⟨hS.2.2.2.2.2.2.2.1.1.1, trivial⟩ (by decide) (k_ordSearch hS has hx3 hR hB (fun vy_3 My_3 fry_3 hvy_3 => ⟨rfl, ?_⟩))
    show WP 15 82 39 [vR x, vI i] [vI vy_3] (My_3, S) Q
    have F_4 : AskR My_3 x f := AskR_fr (fun r9 h7 h8 h9 => fry_3 r9 (by omega)) has
    have fr_5 : (∀ q9, (q9 < x + 86 ∨ x + 152 ≤ q9) → My_3 q9 = M q9) := fun q9 q0 => (fry_3 q9 (by omega)).trans ((fun _ _ => rfl) q9 q0)
    refine WP.blk 2 ?_
    show WP 15 82 (if cnd .ne vy_3 (-1) = true then 53 else 43) [vR x, vI i] [] (My_3, S) Q
    refine br_ne (fun c_6 => ?_) (fun c_6 => ?_)
    · refine WP.blk 2 ?_
      show (sT S x = 9 ∧ sR S x 8 ≠ 0) ∧ WP 15 82 57 [vR x, vI i] [vR (sR S x 8)] (My_3, S) Q
      refine ⟨⟨hS.1.1, by rw [(show sR S x 8 = x + 86 from hS.1.2.2.2.2.2.2.2.2.1)]; omega⟩, ?_⟩
      rw [(show sR S x 8 = x + 86 from hS.1.2.2.2.2.2.2.2.2.1)]
      refine WP.blk 1 ?_
      show WP 15 82 58 [vR x, vI i] [vI i, vR (x + 86)] (My_3, S) Q
      refine WP.cl (a := [vR (x + 86), vI i]) (rest := []) rfl rfl rfl rfl ⟨hS.2.2.2.2.2.2.2.1.1.1, trivial⟩ (by decide) (k_wordAt hS (by omega) ⟨rfl, ?_⟩)
      show WP 15 82 61 [vR x, vI i] [vI (My_3 (x + 91) i)] (My_3, S) Q
      exact WP.ret rfl rfl rfl trivial (k _ _ fr_5 (by omega) _ _ hvy_3 (by omega) rfl)
    · exact WP.thr rfl rfl rfl rfl rfl (by decide) (k2 _ fr_5 (by omega) _ (by have e9 := hvy_3; rw [show vy_3 = -1 by omega] at e9; exact e9))
  · have p_1 := (hb_1.resolve_left (fun h => by omega)).2
    exact WP.thr rfl rfl rfl rfl rfl (by decide) (k3 (by omega))
