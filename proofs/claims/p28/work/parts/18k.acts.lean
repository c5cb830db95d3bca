/-! the law: texts and acts -/
set_option maxHeartbeats 8000000 in
theorem z_parses {a9 b9 : Int} {N B : Int} {x L : Nat} {w : Wd} {f : Int → Int} {sv : Int} {Q : Res → Wd → Prop} (h : LwS N B x L w f [] sv) (k : ∀ w' g tx l, LwT (N + 200) B x L w' g [f] (nsv sv) tx l → PT f tx l 0 4 4 0 → Q (0, vI 8) w') : EvQ 9 119 [vR x, vI a9, vI b9] w Q := by
  refine EvQ.enter (ls := [vR x, vI a9, vI b9, none, none, none, none, none, none]) (Nat.le_of_ble_eq_true rfl) rfl ?_
  refine WP.blk 1 ?_
  show WP 8 119 1 [vR x, vI a9, vI b9, none, none, none, none, none, none] [vR x] w Q
  refine WP.cl (a := [vR x]) (rest := []) rfl rfl rfl rfl ⟨ls_ty h, trivial⟩ (by decide) (u_clear h (Int.le_refl _) (fun wd1 tx0 l0 hh1 hl0 => ⟨rfl, ?_⟩))
  show WP 8 119 4 [vR x, vI a9, vI b9, none, none, none, none, none, none] [vI l0] wd1 Q
  refine WP.blk 1 ?_
  show WP 8 119 (if cnd .lt l0 0 = true then 11 else 7) [vR x, vI a9, vI b9, none, none, none, none, none, none] [] wd1 Q
  refine br_lt (fun c2 => ?_) (fun c2 => ?_)
  · exfalso; omega
  · refine WP.blk 5 ?_
    show WP 8 119 16 [vR x, vI a9, vI b9, vI 1, vI 0, none, none, none, none] [] wd1 Q
    have hl_16 : ∀ (n_16 : Nat) (i : Int) (tx9 : Int → Int) (l9 : Int) (a5_16 : V) (a6_16 : V) (a7_16 : V) (a8_16 : V) (w_16 : Wd), 0 ≤ i ∧ i ≤ 8 → 0 ≤ l9 ∧ l9 ≤ 10 * i → PT f tx9 l9 0 (i / 2) ((i + 1) / 2) 0 → LwT (N + 1 + 12 * i) (B) x L w_16 f [] sv tx9 l9 → (8 - i).toNat < n_16 → WP 8 119 16 [vR x, vI a9, vI b9, vI 1, vI i, a5_16, a6_16, a7_16, a8_16] [] w_16 Q := by
      intro n_16
      induction n_16 with
      | zero => intro i tx9 l9 a5_16 a6_16 a7_16 a8_16 w_16 q0 q1 q2 h_16 hm_16; exact absurd hm_16 (Nat.not_lt_zero _)
      | succ n_16 ih_16 =>
        intro i tx9 l9 a5_16 a6_16 a7_16 a8_16 w_16 q0 q1 q2 h_16 hm_16
        refine WP.blk 3 ?_
        show WP 8 119 (if cnd .ge i 8 = true then 222 else 23) [vR x, vI a9, vI b9, vI 1, vI i, a5_16, a6_16, a7_16, a8_16] [] w_16 Q
        refine br_ge (fun c3 => ?_) (fun c3 => ?_)
        · refine WP.blk 3 ?_
          show WP 8 119 227 [vR x, vI a9, vI b9, vI 1, vI i, a5_16, a6_16, a7_16, a8_16] [vR x] w_16 Q
          have ptz : PT f tx9 l9 0 4 4 0 := pt_c (by omega) (by omega) q2
          refine WP.cl (a := [vR x]) (rest := []) rfl rfl rfl rfl ⟨ls_ty (t_s h_16), trivial⟩ (by decide) (u_parse h_16 (Int.le_refl _) (Nat.le_of_ble_eq_true rfl) ptz (fun wd4 g hh4 _ => ⟨rfl, ?_⟩))
          show WP 8 119 230 [vR x, vI a9, vI b9, vI 1, vI i, a5_16, a6_16, a7_16, a8_16] [vI 8] wd4 Q
          refine WP.blk 1 ?_
          show WP 8 119 235 [vR x, vI a9, vI b9, vI 1, vI i, a5_16, a6_16, a7_16, a8_16] [vI 8] wd4 Q
          exact WP.ret rfl rfl rfl trivial (k _ g _ _ (t_le hh4 (by omega)) ptz)
        · refine WP.blk 6 ?_
          show (0 ≤ i ∧ 0 < 2) ∧ WP 8 119 (if cnd .ne (i % 2) 0 = true then 38 else 34) [vR x, vI a9, vI b9, vI 1, vI i, a5_16, a6_16, a7_16, a8_16] [] w_16 Q
          refine ⟨(by omega), ?_⟩
          refine br_ne (fun c5 => ?_) (fun c5 => ?_)
          · refine WP.blk 11 ?_
            show ir (i + 3) ∧ WP 8 119 68 [vR x, vI a9, vI b9, vI 1, vI i, vI 0, a6_16, a7_16, a8_16] [vI 3, vI (iR a9 (i + 3)), vI 1] w_16 Q
            refine ⟨(by unfold ir; omega), ?_⟩
            refine WP.cl (a := [vI (iR a9 (i + 3)), vI 3]) (rest := [vI 1]) rfl rfl rfl rfl trivial (by decide) (z_low (by omega) ⟨rfl, ?_⟩)
            show WP 8 119 71 [vR x, vI a9, vI b9, vI 1, vI i, vI 0, a6_16, a7_16, a8_16] [vI (lw9 (iR a9 (i + 3)) 3), vI 1] w_16 Q
            obtain ⟨lo6, hlo6⟩ : ∃ t, t = lw9 (iR a9 (i + 3)) 3 := ⟨_, rfl⟩
            have rlo6 := lw9_r (v := iR a9 (i + 3)) (n := 3) (by omega)
            rw [← hlo6] at rlo6 ⊢
            refine WP.blk 6 ?_
            show ir (1 + lo6) ∧ WP 8 119 96 [vR x, vI a9, vI b9, vI 1, vI i, vI 0, vI (1 + lo6), a7_16, a8_16] [vI 42, vR x] w_16 Q
            refine ⟨(by unfold ir; omega), ?_⟩
            refine WP.cl (a := [vR x, vI 42]) (rest := []) rfl rfl rfl rfl trivial (by decide) (u_append h_16 (Int.le_refl _) (by omega) (by omega) (fun wd7 hh7 => ⟨rfl, ?_⟩))
            show WP 8 119 99 [vR x, vI a9, vI b9, vI 1, vI i, vI 0, vI (1 + lo6), a7_16, a8_16] [vI (l9 + 1)] wd7 Q
            have pthh7 := pt_stamp (v := 42) (by omega) (by omega) rfl q2
            refine WP.blk 1 ?_
            show WP 8 119 (if cnd .le (l9 + 1) 0 = true then 106 else 102) [vR x, vI a9, vI b9, vI 1, vI i, vI 0, vI (1 + lo6), a7_16, a8_16] [] wd7 Q
            refine br_le (fun c8 => ?_) (fun c8 => ?_)
            · exfalso; omega
            · refine WP.blk 5 ?_
              show WP 8 119 111 [vR x, vI a9, vI b9, vI 1, vI i, vI 0, vI (1 + lo6), vI 0, a8_16] [] wd7 Q
              have hl_111 : ∀ (n_111 : Nat) (j : Int) (tx8 : Int → Int) (l8 : Int) (a8_111 : V) (w_111 : Wd), 0 ≤ j ∧ j ≤ 1 + lo6 → l8 = l9 + 1 + j → PT f tx8 l8 1 (i / 2 + 1) ((i + 1) / 2) j → LwT (N + 1 + 12 * i + 1 + j) (B) x L w_111 f [] sv tx8 l8 → (1 + lo6 - j).toNat < n_111 → WP 8 119 111 [vR x, vI a9, vI b9, vI 1, vI i, vI 0, vI (1 + lo6), vI j, a8_111] [] w_111 Q := by
                intro n_111
                induction n_111 with
                | zero => intro j tx8 l8 a8_111 w_111 t0 t1 t2 h_111 hm_111; exact absurd hm_111 (Nat.not_lt_zero _)
                | succ n_111 ih_111 =>
                  intro j tx8 l8 a8_111 w_111 t0 t1 t2 h_111 hm_111
                  refine WP.blk 3 ?_
                  show WP 8 119 (if cnd .ge j (1 + lo6) = true then 197 else 118) [vR x, vI a9, vI b9, vI 1, vI i, vI 0, vI (1 + lo6), vI j, a8_111] [] w_111 Q
                  refine br_ge (fun c9 => ?_) (fun c9 => ?_)
                  · refine WP.blk 4 ?_
                    show WP 8 119 204 [vR x, vI a9, vI b9, vI 1, vI i, vI 0, vI (1 + lo6), vI j, a8_111] [vI 59, vR x] w_111 Q
                    refine WP.cl (a := [vR x, vI 59]) (rest := []) rfl rfl rfl rfl trivial (by decide) (u_append h_111 (Int.le_refl _) (by omega) (by omega) (fun wd10 hh10 => ⟨rfl, ?_⟩))
                    show WP 8 119 207 [vR x, vI a9, vI b9, vI 1, vI i, vI 0, vI (1 + lo6), vI j, a8_111] [vI (l8 + 1)] wd10 Q
                    have pthh10 := pt_end1 (v := 59) (by omega) (by omega) rfl t2
                    refine WP.blk 1 ?_
                    show WP 8 119 (if cnd .le (l8 + 1) 0 = true then 214 else 210) [vR x, vI a9, vI b9, vI 1, vI i, vI 0, vI (1 + lo6), vI j, a8_111] [] wd10 Q
                    refine br_le (fun c11 => ?_) (fun c11 => ?_)
                    · exfalso; omega
                    · refine WP.blk 5 ?_
                      show ir (i + 1) ∧ WP 8 119 16 [vR x, vI a9, vI b9, vI 1, vI (i + 1), vI 0, vI (1 + lo6), vI j, a8_111] [] wd10 Q
                      refine ⟨(by unfold ir; omega), ?_⟩
                      exact ih_16 (i + 1) (uf tx8 l8 59) (l8 + 1) (vI 0) (vI (1 + lo6)) (vI j) (a8_111) wd10 (by omega) (by omega) (pt_c (by omega) (by omega) pthh10) (t_le hh10 (by omega)) (by omega)
                  · refine WP.blk 16 ?_
                    show ir (3 * i) ∧ ir (5 * j) ∧ ir ((3 * i) + (5 * j)) ∧ (0 ≤ ((3 * i) + (5 * j)) ∧ 0 < 25) ∧ WP 8 119 139 [vR x, vI a9, vI b9, vI 1, vI i, vI 0, vI (1 + lo6), vI j, a8_111] [vI 4, vI (iR (iX a9 b9) (((3 * i) + (5 * j)) % 25))] w_111 Q
                    refine ⟨(by unfold ir; omega), (by unfold ir; omega), (by unfold ir; omega), (by omega), ?_⟩
                    refine WP.cl (a := [vI (iR (iX a9 b9) (((3 * i) + (5 * j)) % 25)), vI 4]) (rest := []) rfl rfl rfl rfl trivial (by decide) (z_low (by omega) ⟨rfl, ?_⟩)
                    show WP 8 119 142 [vR x, vI a9, vI b9, vI 1, vI i, vI 0, vI (1 + lo6), vI j, a8_111] [vI (lw9 (iR (iX a9 b9) (((3 * i) + (5 * j)) % 25)) 4)] w_111 Q
                    obtain ⟨lo12, hlo12⟩ : ∃ t, t = lw9 (iR (iX a9 b9) (((3 * i) + (5 * j)) % 25)) 4 := ⟨_, rfl⟩
                    have rlo12 := lw9_r (v := iR (iX a9 b9) (((3 * i) + (5 * j)) % 25)) (n := 4) (by omega)
                    rw [← hlo12] at rlo12 ⊢
                    refine WP.blk 4 ?_
                    show WP 8 119 (if cnd .ne lo12 0 = true then 155 else 150) [vR x, vI a9, vI b9, vI 1, vI i, vI 0, vI (1 + lo6), vI j, vI lo12] [vR x] w_111 Q
                    refine br_ne (fun c13 => ?_) (fun c13 => ?_)
                    · refine WP.blk 3 ?_
                      show WP 8 119 (if cnd .ne lo12 1 = true then 166 else 161) [vR x, vI a9, vI b9, vI 1, vI i, vI 0, vI (1 + lo6), vI j, vI lo12] [vR x] w_111 Q
                      refine br_ne (fun c14 => ?_) (fun c14 => ?_)
                      · refine WP.blk 3 ?_
                        show WP 8 119 (if cnd .ne lo12 2 = true then 177 else 172) [vR x, vI a9, vI b9, vI 1, vI i, vI 0, vI (1 + lo6), vI j, vI lo12] [vR x] w_111 Q
                        refine br_ne (fun c15 => ?_) (fun c15 => ?_)
                        · refine WP.blk 1 ?_
                          show WP 8 119 179 [vR x, vI a9, vI b9, vI 1, vI i, vI 0, vI (1 + lo6), vI j, vI lo12] [vI 97, vR x] w_111 Q
                          refine WP.cl (a := [vR x, vI 97]) (rest := []) rfl rfl rfl rfl trivial (by decide) (u_append h_111 (Int.le_refl _) (by omega) (by omega) (fun wd16 hh16 => ⟨rfl, ?_⟩))
                          show WP 8 119 182 [vR x, vI a9, vI b9, vI 1, vI i, vI 0, vI (1 + lo6), vI j, vI lo12] [vI (l8 + 1)] wd16 Q
                          have pthh16 := pt_let1 (v := 97) (by omega) (by omega) (by omega) (by omega) t2
                          refine WP.blk 1 ?_
                          show WP 8 119 (if cnd .le (l8 + 1) 0 = true then 189 else 185) [vR x, vI a9, vI b9, vI 1, vI i, vI 0, vI (1 + lo6), vI j, vI lo12] [] wd16 Q
                          refine br_le (fun c17 => ?_) (fun c17 => ?_)
                          · exfalso; omega
                          · refine WP.blk 5 ?_
                            show ir (j + 1) ∧ WP 8 119 111 [vR x, vI a9, vI b9, vI 1, vI i, vI 0, vI (1 + lo6), vI (j + 1), vI lo12] [] wd16 Q
                            refine ⟨(by unfold ir; omega), ?_⟩
                            exact ih_111 (j + 1) (uf tx8 l8 97) (l8 + 1) (vI lo12) wd16 (by omega) (by omega) pthh16 (t_le hh16 (by omega)) (by omega)
                        · refine WP.blk 2 ?_
                          show WP 8 119 179 [vR x, vI a9, vI b9, vI 1, vI i, vI 0, vI (1 + lo6), vI j, vI lo12] [vI 111, vR x] w_111 Q
                          refine WP.cl (a := [vR x, vI 111]) (rest := []) rfl rfl rfl rfl trivial (by decide) (u_append h_111 (Int.le_refl _) (by omega) (by omega) (fun wd18 hh18 => ⟨rfl, ?_⟩))
                          show WP 8 119 182 [vR x, vI a9, vI b9, vI 1, vI i, vI 0, vI (1 + lo6), vI j, vI lo12] [vI (l8 + 1)] wd18 Q
                          have pthh18 := pt_let1 (v := 111) (by omega) (by omega) (by omega) (by omega) t2
                          refine WP.blk 1 ?_
                          show WP 8 119 (if cnd .le (l8 + 1) 0 = true then 189 else 185) [vR x, vI a9, vI b9, vI 1, vI i, vI 0, vI (1 + lo6), vI j, vI lo12] [] wd18 Q
                          refine br_le (fun c19 => ?_) (fun c19 => ?_)
                          · exfalso; omega
                          · refine WP.blk 5 ?_
                            show ir (j + 1) ∧ WP 8 119 111 [vR x, vI a9, vI b9, vI 1, vI i, vI 0, vI (1 + lo6), vI (j + 1), vI lo12] [] wd18 Q
                            refine ⟨(by unfold ir; omega), ?_⟩
                            exact ih_111 (j + 1) (uf tx8 l8 111) (l8 + 1) (vI lo12) wd18 (by omega) (by omega) pthh18 (t_le hh18 (by omega)) (by omega)
                      · refine WP.blk 2 ?_
                        show WP 8 119 179 [vR x, vI a9, vI b9, vI 1, vI i, vI 0, vI (1 + lo6), vI j, vI lo12] [vI 117, vR x] w_111 Q
                        refine WP.cl (a := [vR x, vI 117]) (rest := []) rfl rfl rfl rfl trivial (by decide) (u_append h_111 (Int.le_refl _) (by omega) (by omega) (fun wd20 hh20 => ⟨rfl, ?_⟩))
                        show WP 8 119 182 [vR x, vI a9, vI b9, vI 1, vI i, vI 0, vI (1 + lo6), vI j, vI lo12] [vI (l8 + 1)] wd20 Q
                        have pthh20 := pt_let1 (v := 117) (by omega) (by omega) (by omega) (by omega) t2
                        refine WP.blk 1 ?_
                        show WP 8 119 (if cnd .le (l8 + 1) 0 = true then 189 else 185) [vR x, vI a9, vI b9, vI 1, vI i, vI 0, vI (1 + lo6), vI j, vI lo12] [] wd20 Q
                        refine br_le (fun c21 => ?_) (fun c21 => ?_)
                        · exfalso; omega
                        · refine WP.blk 5 ?_
                          show ir (j + 1) ∧ WP 8 119 111 [vR x, vI a9, vI b9, vI 1, vI i, vI 0, vI (1 + lo6), vI (j + 1), vI lo12] [] wd20 Q
                          refine ⟨(by unfold ir; omega), ?_⟩
                          exact ih_111 (j + 1) (uf tx8 l8 117) (l8 + 1) (vI lo12) wd20 (by omega) (by omega) pthh20 (t_le hh20 (by omega)) (by omega)
                    · refine WP.blk 2 ?_
                      show WP 8 119 179 [vR x, vI a9, vI b9, vI 1, vI i, vI 0, vI (1 + lo6), vI j, vI lo12] [vI 110, vR x] w_111 Q
                      refine WP.cl (a := [vR x, vI 110]) (rest := []) rfl rfl rfl rfl trivial (by decide) (u_append h_111 (Int.le_refl _) (by omega) (by omega) (fun wd22 hh22 => ⟨rfl, ?_⟩))
                      show WP 8 119 182 [vR x, vI a9, vI b9, vI 1, vI i, vI 0, vI (1 + lo6), vI j, vI lo12] [vI (l8 + 1)] wd22 Q
                      have pthh22 := pt_let1 (v := 110) (by omega) (by omega) (by omega) (by omega) t2
                      refine WP.blk 1 ?_
                      show WP 8 119 (if cnd .le (l8 + 1) 0 = true then 189 else 185) [vR x, vI a9, vI b9, vI 1, vI i, vI 0, vI (1 + lo6), vI j, vI lo12] [] wd22 Q
                      refine br_le (fun c23 => ?_) (fun c23 => ?_)
                      · exfalso; omega
                      · refine WP.blk 5 ?_
                        show ir (j + 1) ∧ WP 8 119 111 [vR x, vI a9, vI b9, vI 1, vI i, vI 0, vI (1 + lo6), vI (j + 1), vI lo12] [] wd22 Q
                        refine ⟨(by unfold ir; omega), ?_⟩
                        exact ih_111 (j + 1) (uf tx8 l8 110) (l8 + 1) (vI lo12) wd22 (by omega) (by omega) pthh22 (t_le hh22 (by omega)) (by omega)
              exact hl_111 _ 0 (uf tx9 l9 42) (l9 + 1) (a8_16) wd7 (by omega) (by omega) pthh7 (t_le hh7 (by omega)) (Nat.lt_succ_self _)
          · refine WP.blk 10 ?_
            show WP 8 119 53 [vR x, vI a9, vI b9, vI 1, vI i, vI 1, a6_16, a7_16, a8_16] [vI 8, vI (iR a9 i), vI 1] w_16 Q
            refine WP.cl (a := [vI (iR a9 i), vI 8]) (rest := [vI 1]) rfl rfl rfl rfl trivial (by decide) (z_low (by omega) ⟨rfl, ?_⟩)
            show WP 8 119 56 [vR x, vI a9, vI b9, vI 1, vI i, vI 1, a6_16, a7_16, a8_16] [vI (lw9 (iR a9 i) 8), vI 1] w_16 Q
            obtain ⟨lo24, hlo24⟩ : ∃ t, t = lw9 (iR a9 i) 8 := ⟨_, rfl⟩
            have rlo24 := lw9_r (v := iR a9 i) (n := 8) (by omega)
            rw [← hlo24] at rlo24 ⊢
            refine WP.blk 11 ?_
            show ir (1 + lo24) ∧ WP 8 119 87 [vR x, vI a9, vI b9, vI 1, vI i, vI 1, vI (1 + lo24), a7_16, a8_16] [vI 4, vI (iR b9 i), vI 48, vR x] w_16 Q
            refine ⟨(by unfold ir; omega), ?_⟩
            refine WP.cl (a := [vI (iR b9 i), vI 4]) (rest := [vI 48, vR x]) rfl rfl rfl rfl trivial (by decide) (z_low (by omega) ⟨rfl, ?_⟩)
            show WP 8 119 90 [vR x, vI a9, vI b9, vI 1, vI i, vI 1, vI (1 + lo24), a7_16, a8_16] [vI (lw9 (iR b9 i) 4), vI 48, vR x] w_16 Q
            obtain ⟨lo25, hlo25⟩ : ∃ t, t = lw9 (iR b9 i) 4 := ⟨_, rfl⟩
            have rlo25 := lw9_r (v := iR b9 i) (n := 4) (by omega)
            rw [← hlo25] at rlo25 ⊢
            refine WP.blk 2 ?_
            show ir (48 + lo25) ∧ WP 8 119 96 [vR x, vI a9, vI b9, vI 1, vI i, vI 1, vI (1 + lo24), a7_16, a8_16] [vI (48 + lo25), vR x] w_16 Q
            refine ⟨(by unfold ir; omega), ?_⟩
            refine WP.cl (a := [vR x, vI (48 + lo25)]) (rest := []) rfl rfl rfl rfl trivial (by decide) (u_append h_16 (Int.le_refl _) (by omega) (by omega) (fun wd26 hh26 => ⟨rfl, ?_⟩))
            show WP 8 119 99 [vR x, vI a9, vI b9, vI 1, vI i, vI 1, vI (1 + lo24), a7_16, a8_16] [vI (l9 + 1)] wd26 Q
            have pthh26 := pt_word (v := (48 + lo25)) (by omega) (by omega) (by omega) q2
            refine WP.blk 1 ?_
            show WP 8 119 (if cnd .le (l9 + 1) 0 = true then 106 else 102) [vR x, vI a9, vI b9, vI 1, vI i, vI 1, vI (1 + lo24), a7_16, a8_16] [] wd26 Q
            refine br_le (fun c27 => ?_) (fun c27 => ?_)
            · exfalso; omega
            · refine WP.blk 5 ?_
              show WP 8 119 111 [vR x, vI a9, vI b9, vI 1, vI i, vI 1, vI (1 + lo24), vI 0, a8_16] [] wd26 Q
              have hl_111 : ∀ (n_111 : Nat) (j : Int) (tx8 : Int → Int) (l8 : Int) (a8_111 : V) (w_111 : Wd), 0 ≤ j ∧ j ≤ 1 + lo24 → l8 = l9 + 1 + j → PT f tx8 l8 2 (i / 2) ((i + 1) / 2 + 1) j → LwT (N + 1 + 12 * i + 1 + j) (B) x L w_111 f [] sv tx8 l8 → (1 + lo24 - j).toNat < n_111 → WP 8 119 111 [vR x, vI a9, vI b9, vI 1, vI i, vI 1, vI (1 + lo24), vI j, a8_111] [] w_111 Q := by
                intro n_111
                induction n_111 with
                | zero => intro j tx8 l8 a8_111 w_111 t0 t1 t2 h_111 hm_111; exact absurd hm_111 (Nat.not_lt_zero _)
                | succ n_111 ih_111 =>
                  intro j tx8 l8 a8_111 w_111 t0 t1 t2 h_111 hm_111
                  refine WP.blk 3 ?_
                  show WP 8 119 (if cnd .ge j (1 + lo24) = true then 197 else 118) [vR x, vI a9, vI b9, vI 1, vI i, vI 1, vI (1 + lo24), vI j, a8_111] [] w_111 Q
                  refine br_ge (fun c28 => ?_) (fun c28 => ?_)
                  · refine WP.blk 4 ?_
                    show WP 8 119 204 [vR x, vI a9, vI b9, vI 1, vI i, vI 1, vI (1 + lo24), vI j, a8_111] [vI 59, vR x] w_111 Q
                    refine WP.cl (a := [vR x, vI 59]) (rest := []) rfl rfl rfl rfl trivial (by decide) (u_append h_111 (Int.le_refl _) (by omega) (by omega) (fun wd29 hh29 => ⟨rfl, ?_⟩))
                    show WP 8 119 207 [vR x, vI a9, vI b9, vI 1, vI i, vI 1, vI (1 + lo24), vI j, a8_111] [vI (l8 + 1)] wd29 Q
                    have pthh29 := pt_end2 (v := 59) (by omega) (by omega) rfl t2
                    refine WP.blk 1 ?_
                    show WP 8 119 (if cnd .le (l8 + 1) 0 = true then 214 else 210) [vR x, vI a9, vI b9, vI 1, vI i, vI 1, vI (1 + lo24), vI j, a8_111] [] wd29 Q
                    refine br_le (fun c30 => ?_) (fun c30 => ?_)
                    · exfalso; omega
                    · refine WP.blk 5 ?_
                      show ir (i + 1) ∧ WP 8 119 16 [vR x, vI a9, vI b9, vI 1, vI (i + 1), vI 1, vI (1 + lo24), vI j, a8_111] [] wd29 Q
                      refine ⟨(by unfold ir; omega), ?_⟩
                      exact ih_16 (i + 1) (uf tx8 l8 59) (l8 + 1) (vI 1) (vI (1 + lo24)) (vI j) (a8_111) wd29 (by omega) (by omega) (pt_c (by omega) (by omega) pthh29) (t_le hh29 (by omega)) (by omega)
                  · refine WP.blk 16 ?_
                    show ir (3 * i) ∧ ir (5 * j) ∧ ir ((3 * i) + (5 * j)) ∧ (0 ≤ ((3 * i) + (5 * j)) ∧ 0 < 25) ∧ WP 8 119 139 [vR x, vI a9, vI b9, vI 1, vI i, vI 1, vI (1 + lo24), vI j, a8_111] [vI 4, vI (iR (iX a9 b9) (((3 * i) + (5 * j)) % 25))] w_111 Q
                    refine ⟨(by unfold ir; omega), (by unfold ir; omega), (by unfold ir; omega), (by omega), ?_⟩
                    refine WP.cl (a := [vI (iR (iX a9 b9) (((3 * i) + (5 * j)) % 25)), vI 4]) (rest := []) rfl rfl rfl rfl trivial (by decide) (z_low (by omega) ⟨rfl, ?_⟩)
                    show WP 8 119 142 [vR x, vI a9, vI b9, vI 1, vI i, vI 1, vI (1 + lo24), vI j, a8_111] [vI (lw9 (iR (iX a9 b9) (((3 * i) + (5 * j)) % 25)) 4)] w_111 Q
                    obtain ⟨lo31, hlo31⟩ : ∃ t, t = lw9 (iR (iX a9 b9) (((3 * i) + (5 * j)) % 25)) 4 := ⟨_, rfl⟩
                    have rlo31 := lw9_r (v := iR (iX a9 b9) (((3 * i) + (5 * j)) % 25)) (n := 4) (by omega)
                    rw [← hlo31] at rlo31 ⊢
                    refine WP.blk 4 ?_
                    show WP 8 119 (if cnd .ne lo31 0 = true then 155 else 150) [vR x, vI a9, vI b9, vI 1, vI i, vI 1, vI (1 + lo24), vI j, vI lo31] [vR x] w_111 Q
                    refine br_ne (fun c32 => ?_) (fun c32 => ?_)
                    · refine WP.blk 3 ?_
                      show WP 8 119 (if cnd .ne lo31 1 = true then 166 else 161) [vR x, vI a9, vI b9, vI 1, vI i, vI 1, vI (1 + lo24), vI j, vI lo31] [vR x] w_111 Q
                      refine br_ne (fun c33 => ?_) (fun c33 => ?_)
                      · refine WP.blk 3 ?_
                        show WP 8 119 (if cnd .ne lo31 2 = true then 177 else 172) [vR x, vI a9, vI b9, vI 1, vI i, vI 1, vI (1 + lo24), vI j, vI lo31] [vR x] w_111 Q
                        refine br_ne (fun c34 => ?_) (fun c34 => ?_)
                        · refine WP.blk 1 ?_
                          show WP 8 119 179 [vR x, vI a9, vI b9, vI 1, vI i, vI 1, vI (1 + lo24), vI j, vI lo31] [vI 97, vR x] w_111 Q
                          refine WP.cl (a := [vR x, vI 97]) (rest := []) rfl rfl rfl rfl trivial (by decide) (u_append h_111 (Int.le_refl _) (by omega) (by omega) (fun wd35 hh35 => ⟨rfl, ?_⟩))
                          show WP 8 119 182 [vR x, vI a9, vI b9, vI 1, vI i, vI 1, vI (1 + lo24), vI j, vI lo31] [vI (l8 + 1)] wd35 Q
                          have pthh35 := pt_let2 (v := 97) (by omega) (by omega) (by omega) (by omega) t2
                          refine WP.blk 1 ?_
                          show WP 8 119 (if cnd .le (l8 + 1) 0 = true then 189 else 185) [vR x, vI a9, vI b9, vI 1, vI i, vI 1, vI (1 + lo24), vI j, vI lo31] [] wd35 Q
                          refine br_le (fun c36 => ?_) (fun c36 => ?_)
                          · exfalso; omega
                          · refine WP.blk 5 ?_
                            show ir (j + 1) ∧ WP 8 119 111 [vR x, vI a9, vI b9, vI 1, vI i, vI 1, vI (1 + lo24), vI (j + 1), vI lo31] [] wd35 Q
                            refine ⟨(by unfold ir; omega), ?_⟩
                            exact ih_111 (j + 1) (uf tx8 l8 97) (l8 + 1) (vI lo31) wd35 (by omega) (by omega) pthh35 (t_le hh35 (by omega)) (by omega)
                        · refine WP.blk 2 ?_
                          show WP 8 119 179 [vR x, vI a9, vI b9, vI 1, vI i, vI 1, vI (1 + lo24), vI j, vI lo31] [vI 111, vR x] w_111 Q
                          refine WP.cl (a := [vR x, vI 111]) (rest := []) rfl rfl rfl rfl trivial (by decide) (u_append h_111 (Int.le_refl _) (by omega) (by omega) (fun wd37 hh37 => ⟨rfl, ?_⟩))
                          show WP 8 119 182 [vR x, vI a9, vI b9, vI 1, vI i, vI 1, vI (1 + lo24), vI j, vI lo31] [vI (l8 + 1)] wd37 Q
                          have pthh37 := pt_let2 (v := 111) (by omega) (by omega) (by omega) (by omega) t2
                          refine WP.blk 1 ?_
                          show WP 8 119 (if cnd .le (l8 + 1) 0 = true then 189 else 185) [vR x, vI a9, vI b9, vI 1, vI i, vI 1, vI (1 + lo24), vI j, vI lo31] [] wd37 Q
                          refine br_le (fun c38 => ?_) (fun c38 => ?_)
                          · exfalso; omega
                          · refine WP.blk 5 ?_
                            show ir (j + 1) ∧ WP 8 119 111 [vR x, vI a9, vI b9, vI 1, vI i, vI 1, vI (1 + lo24), vI (j + 1), vI lo31] [] wd37 Q
                            refine ⟨(by unfold ir; omega), ?_⟩
                            exact ih_111 (j + 1) (uf tx8 l8 111) (l8 + 1) (vI lo31) wd37 (by omega) (by omega) pthh37 (t_le hh37 (by omega)) (by omega)
                      · refine WP.blk 2 ?_
                        show WP 8 119 179 [vR x, vI a9, vI b9, vI 1, vI i, vI 1, vI (1 + lo24), vI j, vI lo31] [vI 117, vR x] w_111 Q
                        refine WP.cl (a := [vR x, vI 117]) (rest := []) rfl rfl rfl rfl trivial (by decide) (u_append h_111 (Int.le_refl _) (by omega) (by omega) (fun wd39 hh39 => ⟨rfl, ?_⟩))
                        show WP 8 119 182 [vR x, vI a9, vI b9, vI 1, vI i, vI 1, vI (1 + lo24), vI j, vI lo31] [vI (l8 + 1)] wd39 Q
                        have pthh39 := pt_let2 (v := 117) (by omega) (by omega) (by omega) (by omega) t2
                        refine WP.blk 1 ?_
                        show WP 8 119 (if cnd .le (l8 + 1) 0 = true then 189 else 185) [vR x, vI a9, vI b9, vI 1, vI i, vI 1, vI (1 + lo24), vI j, vI lo31] [] wd39 Q
                        refine br_le (fun c40 => ?_) (fun c40 => ?_)
                        · exfalso; omega
                        · refine WP.blk 5 ?_
                          show ir (j + 1) ∧ WP 8 119 111 [vR x, vI a9, vI b9, vI 1, vI i, vI 1, vI (1 + lo24), vI (j + 1), vI lo31] [] wd39 Q
                          refine ⟨(by unfold ir; omega), ?_⟩
                          exact ih_111 (j + 1) (uf tx8 l8 117) (l8 + 1) (vI lo31) wd39 (by omega) (by omega) pthh39 (t_le hh39 (by omega)) (by omega)
                    · refine WP.blk 2 ?_
                      show WP 8 119 179 [vR x, vI a9, vI b9, vI 1, vI i, vI 1, vI (1 + lo24), vI j, vI lo31] [vI 110, vR x] w_111 Q
                      refine WP.cl (a := [vR x, vI 110]) (rest := []) rfl rfl rfl rfl trivial (by decide) (u_append h_111 (Int.le_refl _) (by omega) (by omega) (fun wd41 hh41 => ⟨rfl, ?_⟩))
                      show WP 8 119 182 [vR x, vI a9, vI b9, vI 1, vI i, vI 1, vI (1 + lo24), vI j, vI lo31] [vI (l8 + 1)] wd41 Q
                      have pthh41 := pt_let2 (v := 110) (by omega) (by omega) (by omega) (by omega) t2
                      refine WP.blk 1 ?_
                      show WP 8 119 (if cnd .le (l8 + 1) 0 = true then 189 else 185) [vR x, vI a9, vI b9, vI 1, vI i, vI 1, vI (1 + lo24), vI j, vI lo31] [] wd41 Q
                      refine br_le (fun c42 => ?_) (fun c42 => ?_)
                      · exfalso; omega
                      · refine WP.blk 5 ?_
                        show ir (j + 1) ∧ WP 8 119 111 [vR x, vI a9, vI b9, vI 1, vI i, vI 1, vI (1 + lo24), vI (j + 1), vI lo31] [] wd41 Q
                        refine ⟨(by unfold ir; omega), ?_⟩
                        exact ih_111 (j + 1) (uf tx8 l8 110) (l8 + 1) (vI lo31) wd41 (by omega) (by omega) pthh41 (t_le hh41 (by omega)) (by omega)
              exact hl_111 _ 0 (uf tx9 l9 (48 + lo25)) (l9 + 1) (a8_16) wd26 (by omega) (by omega) pthh26 (t_le hh26 (by omega)) (Nat.lt_succ_self _)
    exact hl_16 _ 0 tx0 0 none none none none wd1 (by omega) (by omega) (pt_c (by omega) (by omega) pt_0) (t_le hh1 (by omega)) (Nat.lt_succ_self _)
set_option maxHeartbeats 8000000 in
theorem z_acts {a9 b9 : Int} {N B : Int} {x L : Nat} {w : Wd} {f : Int → Int} {sv : Int} {Q : Res → Wd → Prop} (h : LwS N B x L w f [] sv) (hB : B + 84 ≤ 1000000000 - 400) (hb : 0 ≤ b9 ∧ b9 ≤ 1000000) (kg : ∀ w' g v, LwS (N + 40) (B + 84) x L w' g [f] (nsv sv) → 0 ≤ v → Q (0, vI v) w') (kr : ∀ w' v, LwS (N + 40) (B + 84) x L w' f [] sv → (v = -5000001 ∨ v = -5000002 ∨ v = -5000003) → Q (0, vI v) w') : EvQ 9 120 [vR x, vI a9, vI b9] w Q := by
  refine EvQ.enter (ls := [vR x, vI a9, vI b9, none, none, none, none]) (Nat.le_of_ble_eq_true rfl) rfl ?_
  have hR := (ls_row h).1
  have hA := hR.1
  have hW := hR.2.1
  have hI := hR.2.2
  have hA1 := hA.1
  have hW1 := hW.1
  have hI2 := hI.2
  refine WP.blk 2 ?_
  show WP 8 120 2 [vR x, vI a9, vI b9, none, none, none, none] [vI 0, vR x] w Q
  refine WP.cl (a := [vR x, vI 0]) (rest := []) rfl rfl rfl rfl trivial (by decide) (v_value h (Int.le_refl _) (vV_lo (by omega)) (fun wd1 hh1 => ⟨rfl, ?_⟩))
  show WP 8 120 5 [vR x, vI a9, vI b9, none, none, none, none] [vI (f 0)] wd1 Q
  refine WP.blk 3 ?_
  show WP 8 120 8 [vR x, vI a9, vI b9, vI (f 0), none, none, none] [vI 1, vR x] wd1 Q
  refine WP.cl (a := [vR x, vI 1]) (rest := []) rfl rfl rfl rfl trivial (by decide) (v_value hh1 (Int.le_refl _) (vV_lo (by omega)) (fun wd2 hh2 => ⟨rfl, ?_⟩))
  show WP 8 120 11 [vR x, vI a9, vI b9, vI (f 0), none, none, none] [vI (f 1)] wd2 Q
  refine WP.blk 3 ?_
  show WP 8 120 (if cnd .ne (f 1) 0 = true then 22 else 18) [vR x, vI a9, vI b9, vI (f 0), vI (f 1), none, none] [] wd2 Q
  refine br_ne (fun c3 => ?_) (fun c3 => ?_)
  · refine WP.blk 6 ?_
    show (0 ≤ b9 ∧ 0 < (f 1)) ∧ WP 8 120 (if cnd .ne (f 0) 0 = true then 36 else 32) [vR x, vI a9, vI b9, vI (f 0), vI (f 1), vI (b9 % (f 1)), none] [] wd2 Q
    refine ⟨(by omega), ?_⟩
    refine br_ne (fun c4 => ?_) (fun c4 => ?_)
    · refine WP.blk 6 ?_
      show (0 ≤ b9 ∧ 0 < (f 0)) ∧ WP 8 120 44 [vR x, vI a9, vI b9, vI (f 0), vI (f 1), vI (b9 % (f 1)), vI (b9 % (f 0))] [vI 14, vI a9] wd2 Q
      refine ⟨(by omega), ?_⟩
      refine WP.cl (a := [vI a9, vI 14]) (rest := []) rfl rfl rfl rfl trivial (by decide) (z_low (by omega) ⟨rfl, ?_⟩)
      show WP 8 120 47 [vR x, vI a9, vI b9, vI (f 0), vI (f 1), vI (b9 % (f 1)), vI (b9 % (f 0))] [vI (lw9 a9 14)] wd2 Q
      obtain ⟨lo5, hlo5⟩ : ∃ t, t = lw9 a9 14 := ⟨_, rfl⟩
      have rlo5 := lw9_r (v := a9) (n := 14) (by omega)
      rw [← hlo5] at rlo5 ⊢
      refine WP.blk 1 ?_
      show WP 8 120 (if lo5 < 0 ∨ 7 < lo5 then 218 else ((#[92, 92, 125, 132, 153, 166, 206, 213] : Array Int).getD (lo5 - 0).toNat 0).toNat) [vR x, vI a9, vI b9, vI (f 0), vI (f 1), vI (b9 % (f 1)), vI (b9 % (f 0))] [] wd2 Q
      rcases (show lo5 = 0 ∨ lo5 = 1 ∨ lo5 = 2 ∨ lo5 = 3 ∨ lo5 = 4 ∨ lo5 = 5 ∨ lo5 = 6 ∨ lo5 = 7 ∨ (lo5 < 0 ∨ 7 < lo5) by omega) with c6 | c6 | c6 | c6 | c6 | c6 | c6 | c6 | c6
      · refine sw_in (t := 92) 0 c6 rfl ?_
        refine WP.blk 3 ?_
        show WP 8 120 (if cnd .le (f 0) 6 = true then 103 else 98) [vR x, vI a9, vI b9, vI (f 0), vI (f 1), vI (b9 % (f 1)), vI (b9 % (f 0))] [] wd2 Q
        refine br_le (fun c7 => ?_) (fun c7 => ?_)
        · refine WP.blk 14 ?_
          show (0 ≤ b9 ∧ 0 < 7) ∧ (0 ≤ (b9 / 7) ∧ 0 < 8) ∧ (0 ≤ b9 ∧ 0 < 56) ∧ (0 ≤ (b9 / 56) ∧ 0 < 3) ∧ ir (1 + ((b9 / 56) % 3)) ∧ WP 8 120 121 [vR x, vI a9, vI b9, vI (f 0), vI (f 1), vI (b9 % (f 1)), vI (b9 % (f 0))] [vI (1 + ((b9 / 56) % 3)), vI ((b9 / 7) % 8), vI (b9 % (f 1)), vR x] wd2 Q
          refine ⟨(by omega), (by omega), (by omega), (by omega), (by unfold ir; omega), ?_⟩
          refine WP.cl (a := [vR x, vI (b9 % (f 1)), vI ((b9 / 7) % 8), vI (1 + ((b9 / 56) % 3))]) (rest := []) rfl rfl rfl rfl trivial (by decide) (u_cut hh2 (Int.le_refl _) (Nat.le_of_ble_eq_true rfl) (fun wd8 hh8 zhh8 => ⟨rfl, ?_⟩) (fun wd9 hh9 zhh9 => ⟨rfl, ?_⟩) (fun wd10 hh10 zhh10 => ⟨rfl, ?_⟩) (fun wd11 hh11 zhh11 => ⟨rfl, ?_⟩))
          · show WP 8 120 124 [vR x, vI a9, vI b9, vI (f 0), vI (f 1), vI (b9 % (f 1)), vI (b9 % (f 0))] [vI (f 0)] wd8 Q
            exact WP.ret rfl rfl rfl trivial (kg _ _ _ (ls_B (ls_le hh8 (by omega)) (by omega) hB) (by omega))
          · show WP 8 120 124 [vR x, vI a9, vI b9, vI (f 0), vI (f 1), vI (b9 % (f 1)), vI (b9 % (f 0))] [vI (-5000003)] wd9 Q
            exact WP.ret rfl rfl rfl trivial (kr _ _ (ls_B (ls_le hh9 (by omega)) (by omega) hB) (by omega))
          · show WP 8 120 124 [vR x, vI a9, vI b9, vI (f 0), vI (f 1), vI (b9 % (f 1)), vI (b9 % (f 0))] [vI (-5000001)] wd10 Q
            exact WP.ret rfl rfl rfl trivial (kr _ _ (ls_B (ls_le hh10 (by omega)) (by omega) hB) (by omega))
          · show WP 8 120 124 [vR x, vI a9, vI b9, vI (f 0), vI (f 1), vI (b9 % (f 1)), vI (b9 % (f 0))] [vI (-5000002)] wd11 Q
            exact WP.ret rfl rfl rfl trivial (kr _ _ (ls_B (ls_le hh11 (by omega)) (by omega) hB) (by omega))
        · refine WP.blk 2 ?_
          show WP 8 120 124 [vR x, vI a9, vI b9, vI (f 0), vI (f 1), vI (b9 % (f 1)), vI (b9 % (f 0))] [vI (-5000002)] wd2 Q
          exact WP.ret rfl rfl rfl trivial (kr _ _ (ls_B (ls_le hh2 (by omega)) (by omega) hB) (by omega))
      · refine sw_in (t := 92) 1 c6 rfl ?_
        refine WP.blk 3 ?_
        show WP 8 120 (if cnd .le (f 0) 6 = true then 103 else 98) [vR x, vI a9, vI b9, vI (f 0), vI (f 1), vI (b9 % (f 1)), vI (b9 % (f 0))] [] wd2 Q
        refine br_le (fun c12 => ?_) (fun c12 => ?_)
        · refine WP.blk 14 ?_
          show (0 ≤ b9 ∧ 0 < 7) ∧ (0 ≤ (b9 / 7) ∧ 0 < 8) ∧ (0 ≤ b9 ∧ 0 < 56) ∧ (0 ≤ (b9 / 56) ∧ 0 < 3) ∧ ir (1 + ((b9 / 56) % 3)) ∧ WP 8 120 121 [vR x, vI a9, vI b9, vI (f 0), vI (f 1), vI (b9 % (f 1)), vI (b9 % (f 0))] [vI (1 + ((b9 / 56) % 3)), vI ((b9 / 7) % 8), vI (b9 % (f 1)), vR x] wd2 Q
          refine ⟨(by omega), (by omega), (by omega), (by omega), (by unfold ir; omega), ?_⟩
          refine WP.cl (a := [vR x, vI (b9 % (f 1)), vI ((b9 / 7) % 8), vI (1 + ((b9 / 56) % 3))]) (rest := []) rfl rfl rfl rfl trivial (by decide) (u_cut hh2 (Int.le_refl _) (Nat.le_of_ble_eq_true rfl) (fun wd13 hh13 zhh13 => ⟨rfl, ?_⟩) (fun wd14 hh14 zhh14 => ⟨rfl, ?_⟩) (fun wd15 hh15 zhh15 => ⟨rfl, ?_⟩) (fun wd16 hh16 zhh16 => ⟨rfl, ?_⟩))
          · show WP 8 120 124 [vR x, vI a9, vI b9, vI (f 0), vI (f 1), vI (b9 % (f 1)), vI (b9 % (f 0))] [vI (f 0)] wd13 Q
            exact WP.ret rfl rfl rfl trivial (kg _ _ _ (ls_B (ls_le hh13 (by omega)) (by omega) hB) (by omega))
          · show WP 8 120 124 [vR x, vI a9, vI b9, vI (f 0), vI (f 1), vI (b9 % (f 1)), vI (b9 % (f 0))] [vI (-5000003)] wd14 Q
            exact WP.ret rfl rfl rfl trivial (kr _ _ (ls_B (ls_le hh14 (by omega)) (by omega) hB) (by omega))
          · show WP 8 120 124 [vR x, vI a9, vI b9, vI (f 0), vI (f 1), vI (b9 % (f 1)), vI (b9 % (f 0))] [vI (-5000001)] wd15 Q
            exact WP.ret rfl rfl rfl trivial (kr _ _ (ls_B (ls_le hh15 (by omega)) (by omega) hB) (by omega))
          · show WP 8 120 124 [vR x, vI a9, vI b9, vI (f 0), vI (f 1), vI (b9 % (f 1)), vI (b9 % (f 0))] [vI (-5000002)] wd16 Q
            exact WP.ret rfl rfl rfl trivial (kr _ _ (ls_B (ls_le hh16 (by omega)) (by omega) hB) (by omega))
        · refine WP.blk 2 ?_
          show WP 8 120 124 [vR x, vI a9, vI b9, vI (f 0), vI (f 1), vI (b9 % (f 1)), vI (b9 % (f 0))] [vI (-5000002)] wd2 Q
          exact WP.ret rfl rfl rfl trivial (kr _ _ (ls_B (ls_le hh2 (by omega)) (by omega) hB) (by omega))
      · refine sw_in (t := 125) 2 c6 rfl ?_
        refine WP.blk 2 ?_
        show WP 8 120 128 [vR x, vI a9, vI b9, vI (f 0), vI (f 1), vI (b9 % (f 1)), vI (b9 % (f 0))] [vI (b9 % (f 0)), vR x] wd2 Q
        refine WP.cl (a := [vR x, vI (b9 % (f 0))]) (rest := []) rfl rfl rfl rfl trivial (by decide) (u_remove hh2 (Int.le_refl _) (Nat.le_of_ble_eq_true rfl) (fun wd17 hh17 zhh17 => ⟨rfl, ?_⟩) (fun wd18 hh18 zhh18 => ⟨rfl, ?_⟩))
        · show WP 8 120 131 [vR x, vI a9, vI b9, vI (f 0), vI (f 1), vI (b9 % (f 1)), vI (b9 % (f 0))] [vI (f 0 - 1)] wd17 Q
          exact WP.ret rfl rfl rfl trivial (kg _ _ _ (ls_B (ls_le hh17 (by omega)) (by omega) hB) (by omega))
        · show WP 8 120 131 [vR x, vI a9, vI b9, vI (f 0), vI (f 1), vI (b9 % (f 1)), vI (b9 % (f 0))] [vI (-5000003)] wd18 Q
          exact WP.ret rfl rfl rfl trivial (kr _ _ (ls_B (ls_le hh18 (by omega)) (by omega) hB) (by omega))
      · refine sw_in (t := 132) 3 c6 rfl ?_
        refine WP.blk 6 ?_
        show (0 ≤ b9 ∧ 0 < 7) ∧ (0 ≤ (b9 / 7) ∧ 0 < 3) ∧ WP 8 120 (if cnd .ne ((b9 / 7) % 3) 0 = true then 150 else 141) [vR x, vI a9, vI b9, vI (f 0), vI (f 1), vI (b9 % (f 1)), vI (b9 % (f 0))] [] wd2 Q
        refine ⟨(by omega), (by omega), ?_⟩
        refine br_ne (fun c19 => ?_) (fun c19 => ?_)
        · refine WP.blk 1 ?_
          show WP 8 120 152 [vR x, vI a9, vI b9, vI (f 0), vI (f 1), vI (b9 % (f 1)), vI (b9 % (f 0))] [vI (-5000003)] wd2 Q
          exact WP.ret rfl rfl rfl trivial (kr _ _ (ls_B (ls_le hh2 (by omega)) (by omega) hB) (by omega))
        · refine WP.blk 2 ?_
          show WP 8 120 144 [vR x, vI a9, vI b9, vI (f 0), vI (f 1), vI (b9 % (f 1)), vI (b9 % (f 0))] [vI (b9 % (f 1)), vR x] wd2 Q
          refine WP.cl (a := [vR x, vI (b9 % (f 1))]) (rest := []) rfl rfl rfl rfl trivial (by decide) (u_drop hh2 (Int.le_refl _) (Nat.le_of_ble_eq_true rfl) (fun wd20 hh20 zhh20 => ⟨rfl, ?_⟩) (fun wd21 hh21 zhh21 => ⟨rfl, ?_⟩))
          · show WP 8 120 147 [vR x, vI a9, vI b9, vI (f 0), vI (f 1), vI (b9 % (f 1)), vI (b9 % (f 0))] [vI (f 1 - 1)] wd20 Q
            refine WP.blk 1 ?_
            show WP 8 120 152 [vR x, vI a9, vI b9, vI (f 0), vI (f 1), vI (b9 % (f 1)), vI (b9 % (f 0))] [vI (f 1 - 1)] wd20 Q
            exact WP.ret rfl rfl rfl trivial (kg _ _ _ (ls_B (ls_le hh20 (by omega)) (by omega) hB) (by omega))
          · show WP 8 120 147 [vR x, vI a9, vI b9, vI (f 0), vI (f 1), vI (b9 % (f 1)), vI (b9 % (f 0))] [vI (-5000003)] wd21 Q
            refine WP.blk 1 ?_
            show WP 8 120 152 [vR x, vI a9, vI b9, vI (f 0), vI (f 1), vI (b9 % (f 1)), vI (b9 % (f 0))] [vI (-5000003)] wd21 Q
            exact WP.ret rfl rfl rfl trivial (kr _ _ (ls_B (ls_le hh21 (by omega)) (by omega) hB) (by omega))
      · refine sw_in (t := 153) 4 c6 rfl ?_
        refine WP.blk 7 ?_
        show (0 ≤ b9 ∧ 0 < 7) ∧ (0 ≤ (b9 / 7) ∧ 0 < 4) ∧ WP 8 120 162 [vR x, vI a9, vI b9, vI (f 0), vI (f 1), vI (b9 % (f 1)), vI (b9 % (f 0))] [vI ((b9 / 7) % 4), vI (b9 % (f 1)), vR x] wd2 Q
        refine ⟨(by omega), (by omega), ?_⟩
        refine WP.cl (a := [vR x, vI (b9 % (f 1)), vI ((b9 / 7) % 4)]) (rest := []) rfl rfl rfl rfl trivial (by decide) (u_setColor hh2 (Int.le_refl _) (Nat.le_of_ble_eq_true rfl) (fun wd22 hh22 zhh22 => ⟨rfl, ?_⟩) (fun wd23 hh23 zhh23 => ⟨rfl, ?_⟩) (fun wd24 hh24 zhh24 => ⟨rfl, ?_⟩))
        · show WP 8 120 165 [vR x, vI a9, vI b9, vI (f 0), vI (f 1), vI (b9 % (f 1)), vI (b9 % (f 0))] [vI (f (97 + 14 * (b9 % (f 1)) + 1))] wd22 Q
          have hco := (hW.2 (b9 % (f 1)) zhh22.1.1 zhh22.1.2).2.1
          exact WP.ret rfl rfl rfl trivial (kg _ _ _ (ls_B (ls_le hh22 (by omega)) (by omega) hB) (by omega))
        · show WP 8 120 165 [vR x, vI a9, vI b9, vI (f 0), vI (f 1), vI (b9 % (f 1)), vI (b9 % (f 0))] [vI (-5000003)] wd23 Q
          exact WP.ret rfl rfl rfl trivial (kr _ _ (ls_B (ls_le hh23 (by omega)) (by omega) hB) (by omega))
        · show WP 8 120 165 [vR x, vI a9, vI b9, vI (f 0), vI (f 1), vI (b9 % (f 1)), vI (b9 % (f 0))] [vI (-5000001)] wd24 Q
          exact WP.ret rfl rfl rfl trivial (kr _ _ (ls_B (ls_le hh24 (by omega)) (by omega) hB) (by omega))
      · refine sw_in (t := 166) 5 c6 rfl ?_
        refine WP.blk 5 ?_
        show (0 ≤ b9 ∧ 0 < 3) ∧ WP 8 120 (if cnd .ne (b9 % 3) 0 = true then 185 else 173) [vR x, vI a9, vI b9, vI (f 0), vI (f 1), vI (b9 % (f 1)), vI (b9 % (f 0))] [vR x] wd2 Q
        refine ⟨(by omega), ?_⟩
        refine br_ne (fun c25 => ?_) (fun c25 => ?_)
        · refine WP.blk 14 ?_
          show (0 ≤ b9 ∧ 0 < 3) ∧ (0 ≤ (b9 / 3) ∧ 0 < 14) ∧ ir (1 + ((b9 / 3) % 14)) ∧ (0 ≤ b9 ∧ 0 < 42) ∧ (0 ≤ (b9 / 42) ∧ 0 < 6) ∧ ir (1 + ((b9 / 42) % 6)) ∧ WP 8 120 202 [vR x, vI a9, vI b9, vI (f 0), vI (f 1), vI (b9 % (f 1)), vI (b9 % (f 0))] [vI (1 + ((b9 / 42) % 6)), vI (1 + ((b9 / 3) % 14)), vR x] wd2 Q
          refine ⟨(by omega), (by omega), (by unfold ir; omega), (by omega), (by omega), (by unfold ir; omega), ?_⟩
          refine WP.cl (a := [vR x, vI (1 + ((b9 / 3) % 14)), vI (1 + ((b9 / 42) % 6))]) (rest := []) rfl rfl rfl rfl trivial (by decide) (u_setLimits hh2 (Int.le_refl _) (Nat.le_of_ble_eq_true rfl) (fun wd26 hh26 zhh26 => ⟨rfl, ?_⟩) (fun wd27 hh27 zhh27 => ⟨rfl, ?_⟩))
          · show WP 8 120 205 [vR x, vI a9, vI b9, vI (f 0), vI (f 1), vI (b9 % (f 1)), vI (b9 % (f 0))] [vI (f 2)] wd26 Q
            exact WP.ret rfl rfl rfl trivial (kg _ _ _ (ls_B (ls_le hh26 (by omega)) (by omega) hB) (by omega))
          · show WP 8 120 205 [vR x, vI a9, vI b9, vI (f 0), vI (f 1), vI (b9 % (f 1)), vI (b9 % (f 0))] [vI (-5000001)] wd27 Q
            exact WP.ret rfl rfl rfl trivial (kr _ _ (ls_B (ls_le hh27 (by omega)) (by omega) hB) (by omega))
        · refine WP.blk 15 ?_
          show (0 ≤ b9 ∧ 0 < 3) ∧ (0 ≤ (b9 / 3) ∧ 0 < 200) ∧ ir (1 + ((b9 / 3) % 200)) ∧ (0 ≤ b9 ∧ 0 < 42) ∧ (0 ≤ (b9 / 42) ∧ 0 < 6) ∧ ir (1 + ((b9 / 42) % 6)) ∧ WP 8 120 202 [vR x, vI a9, vI b9, vI (f 0), vI (f 1), vI (b9 % (f 1)), vI (b9 % (f 0))] [vI (1 + ((b9 / 42) % 6)), vI (1 + ((b9 / 3) % 200)), vR x] wd2 Q
          refine ⟨(by omega), (by omega), (by unfold ir; omega), (by omega), (by omega), (by unfold ir; omega), ?_⟩
          refine WP.cl (a := [vR x, vI (1 + ((b9 / 3) % 200)), vI (1 + ((b9 / 42) % 6))]) (rest := []) rfl rfl rfl rfl trivial (by decide) (u_setLimits hh2 (Int.le_refl _) (Nat.le_of_ble_eq_true rfl) (fun wd28 hh28 zhh28 => ⟨rfl, ?_⟩) (fun wd29 hh29 zhh29 => ⟨rfl, ?_⟩))
          · show WP 8 120 205 [vR x, vI a9, vI b9, vI (f 0), vI (f 1), vI (b9 % (f 1)), vI (b9 % (f 0))] [vI (f 2)] wd28 Q
            exact WP.ret rfl rfl rfl trivial (kg _ _ _ (ls_B (ls_le hh28 (by omega)) (by omega) hB) (by omega))
          · show WP 8 120 205 [vR x, vI a9, vI b9, vI (f 0), vI (f 1), vI (b9 % (f 1)), vI (b9 % (f 0))] [vI (-5000001)] wd29 Q
            exact WP.ret rfl rfl rfl trivial (kr _ _ (ls_B (ls_le hh29 (by omega)) (by omega) hB) (by omega))
      · refine sw_in (t := 206) 6 c6 rfl ?_
        refine WP.blk 2 ?_
        show WP 8 120 209 [vR x, vI a9, vI b9, vI (f 0), vI (f 1), vI (b9 % (f 1)), vI (b9 % (f 0))] [vI (b9 % (f 0)), vR x] wd2 Q
        refine WP.cl (a := [vR x, vI (b9 % (f 0))]) (rest := []) rfl rfl rfl rfl trivial (by decide) (u_clean hh2 (Int.le_refl _) (Nat.le_of_ble_eq_true rfl) hB (fun wd30 hh30 zhh30 => ⟨rfl, ?_⟩) (fun wd31 hh31 zhh31 => ⟨rfl, ?_⟩))
        · show WP 8 120 212 [vR x, vI a9, vI b9, vI (f 0), vI (f 1), vI (b9 % (f 1)), vI (b9 % (f 0))] [vI (if f (7 + 9 * (b9 % (f 0)) + 6) = -1 then 0 else 1)] wd30 Q
          exact WP.ret rfl rfl rfl trivial (kg _ _ _ (ls_B (ls_le hh30 (by omega)) (by omega) hB) (by split <;> omega))
        · show WP 8 120 212 [vR x, vI a9, vI b9, vI (f 0), vI (f 1), vI (b9 % (f 1)), vI (b9 % (f 0))] [vI (-5000003)] wd31 Q
          exact WP.ret rfl rfl rfl trivial (kr _ _ (ls_B (ls_le hh31 (by omega)) (by omega) hB) (by omega))
      · refine sw_in (t := 213) 7 c6 rfl ?_
        refine WP.blk 1 ?_
        show WP 8 120 214 [vR x, vI a9, vI b9, vI (f 0), vI (f 1), vI (b9 % (f 1)), vI (b9 % (f 0))] [vR x] wd2 Q
        refine WP.cl (a := [vR x]) (rest := []) rfl rfl rfl rfl ⟨ls_ty hh2, trivial⟩ (by decide) (u_writeAll hh2 (Int.le_refl _) (Nat.le_of_ble_eq_true rfl) hB (fun wd32 hh32 => ⟨rfl, ?_⟩))
        show WP 8 120 217 [vR x, vI a9, vI b9, vI (f 0), vI (f 1), vI (b9 % (f 1)), vI (b9 % (f 0))] [vI (num (fun w => Can (wall f w) w) (f 1))] wd32 Q
        have hwn := num_r (P := fun w => Can (wall f w) w) hW1.1
        exact WP.ret rfl rfl rfl trivial (kg _ _ _ (ls_B (ls_le hh32 (by omega)) (by omega) hB) (by omega))
      · refine sw_out c6 ?_
        refine WP.blk 2 ?_
        show WP 8 120 221 [vR x, vI a9, vI b9, vI (f 0), vI (f 1), vI (b9 % (f 1)), vI (b9 % (f 0))] [vI (b9 % (f 1)), vR x] wd2 Q
        refine WP.cl (a := [vR x, vI (b9 % (f 1))]) (rest := []) rfl rfl rfl rfl trivial (by decide) (u_write hh2 (Int.le_refl _) (Nat.le_of_ble_eq_true rfl) hB (fun wd33 cz nz hh33 hj hz => ⟨rfl, ?_⟩) (fun wd34 hh34 _ => ⟨rfl, ?_⟩) (fun wd35 hh35 _ _ => ⟨rfl, ?_⟩))
        · show WP 8 120 224 [vR x, vI a9, vI b9, vI (f 0), vI (f 1), vI (b9 % (f 1)), vI (b9 % (f 0))] [vI nz] wd33 Q
          have hzp := (wrt_pl hA (hW.2 (b9 % (f 1)) hj.1 hj.2).1 hz).1
          exact WP.ret rfl rfl rfl trivial (kg _ _ _ (ls_B (ls_le hh33 (by omega)) (by omega) hB) (by omega))
        · show WP 8 120 224 [vR x, vI a9, vI b9, vI (f 0), vI (f 1), vI (b9 % (f 1)), vI (b9 % (f 0))] [vI (-5000003)] wd34 Q
          exact WP.ret rfl rfl rfl trivial (kr _ _ (ls_B (ls_le hh34 (by omega)) (by omega) hB) (by omega))
        · show WP 8 120 224 [vR x, vI a9, vI b9, vI (f 0), vI (f 1), vI (b9 % (f 1)), vI (b9 % (f 0))] [vI (-5000002)] wd35 Q
          exact WP.ret rfl rfl rfl trivial (kr _ _ (ls_B (ls_le hh35 (by omega)) (by omega) hB) (by omega))
    · refine WP.blk 5 ?_
      show WP 8 120 44 [vR x, vI a9, vI b9, vI (f 0), vI (f 1), vI (b9 % (f 1)), vI 0] [vI 14, vI a9] wd2 Q
      refine WP.cl (a := [vI a9, vI 14]) (rest := []) rfl rfl rfl rfl trivial (by decide) (z_low (by omega) ⟨rfl, ?_⟩)
      show WP 8 120 47 [vR x, vI a9, vI b9, vI (f 0), vI (f 1), vI (b9 % (f 1)), vI 0] [vI (lw9 a9 14)] wd2 Q
      obtain ⟨lo36, hlo36⟩ : ∃ t, t = lw9 a9 14 := ⟨_, rfl⟩
      have rlo36 := lw9_r (v := a9) (n := 14) (by omega)
      rw [← hlo36] at rlo36 ⊢
      refine WP.blk 1 ?_
      show WP 8 120 (if lo36 < 0 ∨ 7 < lo36 then 218 else ((#[92, 92, 125, 132, 153, 166, 206, 213] : Array Int).getD (lo36 - 0).toNat 0).toNat) [vR x, vI a9, vI b9, vI (f 0), vI (f 1), vI (b9 % (f 1)), vI 0] [] wd2 Q
      rcases (show lo36 = 0 ∨ lo36 = 1 ∨ lo36 = 2 ∨ lo36 = 3 ∨ lo36 = 4 ∨ lo36 = 5 ∨ lo36 = 6 ∨ lo36 = 7 ∨ (lo36 < 0 ∨ 7 < lo36) by omega) with c37 | c37 | c37 | c37 | c37 | c37 | c37 | c37 | c37
      · refine sw_in (t := 92) 0 c37 rfl ?_
        refine WP.blk 3 ?_
        show WP 8 120 (if cnd .le (f 0) 6 = true then 103 else 98) [vR x, vI a9, vI b9, vI (f 0), vI (f 1), vI (b9 % (f 1)), vI 0] [] wd2 Q
        refine br_le (fun c38 => ?_) (fun c38 => ?_)
        · refine WP.blk 14 ?_
          show (0 ≤ b9 ∧ 0 < 7) ∧ (0 ≤ (b9 / 7) ∧ 0 < 8) ∧ (0 ≤ b9 ∧ 0 < 56) ∧ (0 ≤ (b9 / 56) ∧ 0 < 3) ∧ ir (1 + ((b9 / 56) % 3)) ∧ WP 8 120 121 [vR x, vI a9, vI b9, vI (f 0), vI (f 1), vI (b9 % (f 1)), vI 0] [vI (1 + ((b9 / 56) % 3)), vI ((b9 / 7) % 8), vI (b9 % (f 1)), vR x] wd2 Q
          refine ⟨(by omega), (by omega), (by omega), (by omega), (by unfold ir; omega), ?_⟩
          refine WP.cl (a := [vR x, vI (b9 % (f 1)), vI ((b9 / 7) % 8), vI (1 + ((b9 / 56) % 3))]) (rest := []) rfl rfl rfl rfl trivial (by decide) (u_cut hh2 (Int.le_refl _) (Nat.le_of_ble_eq_true rfl) (fun wd39 hh39 zhh39 => ⟨rfl, ?_⟩) (fun wd40 hh40 zhh40 => ⟨rfl, ?_⟩) (fun wd41 hh41 zhh41 => ⟨rfl, ?_⟩) (fun wd42 hh42 zhh42 => ⟨rfl, ?_⟩))
          · show WP 8 120 124 [vR x, vI a9, vI b9, vI (f 0), vI (f 1), vI (b9 % (f 1)), vI 0] [vI (f 0)] wd39 Q
            exact WP.ret rfl rfl rfl trivial (kg _ _ _ (ls_B (ls_le hh39 (by omega)) (by omega) hB) (by omega))
          · show WP 8 120 124 [vR x, vI a9, vI b9, vI (f 0), vI (f 1), vI (b9 % (f 1)), vI 0] [vI (-5000003)] wd40 Q
            exact WP.ret rfl rfl rfl trivial (kr _ _ (ls_B (ls_le hh40 (by omega)) (by omega) hB) (by omega))
          · show WP 8 120 124 [vR x, vI a9, vI b9, vI (f 0), vI (f 1), vI (b9 % (f 1)), vI 0] [vI (-5000001)] wd41 Q
            exact WP.ret rfl rfl rfl trivial (kr _ _ (ls_B (ls_le hh41 (by omega)) (by omega) hB) (by omega))
          · show WP 8 120 124 [vR x, vI a9, vI b9, vI (f 0), vI (f 1), vI (b9 % (f 1)), vI 0] [vI (-5000002)] wd42 Q
            exact WP.ret rfl rfl rfl trivial (kr _ _ (ls_B (ls_le hh42 (by omega)) (by omega) hB) (by omega))
        · refine WP.blk 2 ?_
          show WP 8 120 124 [vR x, vI a9, vI b9, vI (f 0), vI (f 1), vI (b9 % (f 1)), vI 0] [vI (-5000002)] wd2 Q
          exact WP.ret rfl rfl rfl trivial (kr _ _ (ls_B (ls_le hh2 (by omega)) (by omega) hB) (by omega))
      · refine sw_in (t := 92) 1 c37 rfl ?_
        refine WP.blk 3 ?_
        show WP 8 120 (if cnd .le (f 0) 6 = true then 103 else 98) [vR x, vI a9, vI b9, vI (f 0), vI (f 1), vI (b9 % (f 1)), vI 0] [] wd2 Q
        refine br_le (fun c43 => ?_) (fun c43 => ?_)
        · refine WP.blk 14 ?_
          show (0 ≤ b9 ∧ 0 < 7) ∧ (0 ≤ (b9 / 7) ∧ 0 < 8) ∧ (0 ≤ b9 ∧ 0 < 56) ∧ (0 ≤ (b9 / 56) ∧ 0 < 3) ∧ ir (1 + ((b9 / 56) % 3)) ∧ WP 8 120 121 [vR x, vI a9, vI b9, vI (f 0), vI (f 1), vI (b9 % (f 1)), vI 0] [vI (1 + ((b9 / 56) % 3)), vI ((b9 / 7) % 8), vI (b9 % (f 1)), vR x] wd2 Q
          refine ⟨(by omega), (by omega), (by omega), (by omega), (by unfold ir; omega), ?_⟩
          refine WP.cl (a := [vR x, vI (b9 % (f 1)), vI ((b9 / 7) % 8), vI (1 + ((b9 / 56) % 3))]) (rest := []) rfl rfl rfl rfl trivial (by decide) (u_cut hh2 (Int.le_refl _) (Nat.le_of_ble_eq_true rfl) (fun wd44 hh44 zhh44 => ⟨rfl, ?_⟩) (fun wd45 hh45 zhh45 => ⟨rfl, ?_⟩) (fun wd46 hh46 zhh46 => ⟨rfl, ?_⟩) (fun wd47 hh47 zhh47 => ⟨rfl, ?_⟩))
          · show WP 8 120 124 [vR x, vI a9, vI b9, vI (f 0), vI (f 1), vI (b9 % (f 1)), vI 0] [vI (f 0)] wd44 Q
            exact WP.ret rfl rfl rfl trivial (kg _ _ _ (ls_B (ls_le hh44 (by omega)) (by omega) hB) (by omega))
          · show WP 8 120 124 [vR x, vI a9, vI b9, vI (f 0), vI (f 1), vI (b9 % (f 1)), vI 0] [vI (-5000003)] wd45 Q
            exact WP.ret rfl rfl rfl trivial (kr _ _ (ls_B (ls_le hh45 (by omega)) (by omega) hB) (by omega))
          · show WP 8 120 124 [vR x, vI a9, vI b9, vI (f 0), vI (f 1), vI (b9 % (f 1)), vI 0] [vI (-5000001)] wd46 Q
            exact WP.ret rfl rfl rfl trivial (kr _ _ (ls_B (ls_le hh46 (by omega)) (by omega) hB) (by omega))
          · show WP 8 120 124 [vR x, vI a9, vI b9, vI (f 0), vI (f 1), vI (b9 % (f 1)), vI 0] [vI (-5000002)] wd47 Q
            exact WP.ret rfl rfl rfl trivial (kr _ _ (ls_B (ls_le hh47 (by omega)) (by omega) hB) (by omega))
        · refine WP.blk 2 ?_
          show WP 8 120 124 [vR x, vI a9, vI b9, vI (f 0), vI (f 1), vI (b9 % (f 1)), vI 0] [vI (-5000002)] wd2 Q
          exact WP.ret rfl rfl rfl trivial (kr _ _ (ls_B (ls_le hh2 (by omega)) (by omega) hB) (by omega))
      · refine sw_in (t := 125) 2 c37 rfl ?_
        refine WP.blk 2 ?_
        show WP 8 120 128 [vR x, vI a9, vI b9, vI (f 0), vI (f 1), vI (b9 % (f 1)), vI 0] [vI 0, vR x] wd2 Q
        refine WP.cl (a := [vR x, vI 0]) (rest := []) rfl rfl rfl rfl trivial (by decide) (u_remove hh2 (Int.le_refl _) (Nat.le_of_ble_eq_true rfl) (fun wd48 hh48 zhh48 => ⟨rfl, ?_⟩) (fun wd49 hh49 zhh49 => ⟨rfl, ?_⟩))
        · show WP 8 120 131 [vR x, vI a9, vI b9, vI (f 0), vI (f 1), vI (b9 % (f 1)), vI 0] [vI (f 0 - 1)] wd48 Q
          exact WP.ret rfl rfl rfl trivial (kg _ _ _ (ls_B (ls_le hh48 (by omega)) (by omega) hB) (by omega))
        · show WP 8 120 131 [vR x, vI a9, vI b9, vI (f 0), vI (f 1), vI (b9 % (f 1)), vI 0] [vI (-5000003)] wd49 Q
          exact WP.ret rfl rfl rfl trivial (kr _ _ (ls_B (ls_le hh49 (by omega)) (by omega) hB) (by omega))
      · refine sw_in (t := 132) 3 c37 rfl ?_
        refine WP.blk 6 ?_
        show (0 ≤ b9 ∧ 0 < 7) ∧ (0 ≤ (b9 / 7) ∧ 0 < 3) ∧ WP 8 120 (if cnd .ne ((b9 / 7) % 3) 0 = true then 150 else 141) [vR x, vI a9, vI b9, vI (f 0), vI (f 1), vI (b9 % (f 1)), vI 0] [] wd2 Q
        refine ⟨(by omega), (by omega), ?_⟩
        refine br_ne (fun c50 => ?_) (fun c50 => ?_)
        · refine WP.blk 1 ?_
          show WP 8 120 152 [vR x, vI a9, vI b9, vI (f 0), vI (f 1), vI (b9 % (f 1)), vI 0] [vI (-5000003)] wd2 Q
          exact WP.ret rfl rfl rfl trivial (kr _ _ (ls_B (ls_le hh2 (by omega)) (by omega) hB) (by omega))
        · refine WP.blk 2 ?_
          show WP 8 120 144 [vR x, vI a9, vI b9, vI (f 0), vI (f 1), vI (b9 % (f 1)), vI 0] [vI (b9 % (f 1)), vR x] wd2 Q
          refine WP.cl (a := [vR x, vI (b9 % (f 1))]) (rest := []) rfl rfl rfl rfl trivial (by decide) (u_drop hh2 (Int.le_refl _) (Nat.le_of_ble_eq_true rfl) (fun wd51 hh51 zhh51 => ⟨rfl, ?_⟩) (fun wd52 hh52 zhh52 => ⟨rfl, ?_⟩))
          · show WP 8 120 147 [vR x, vI a9, vI b9, vI (f 0), vI (f 1), vI (b9 % (f 1)), vI 0] [vI (f 1 - 1)] wd51 Q
            refine WP.blk 1 ?_
            show WP 8 120 152 [vR x, vI a9, vI b9, vI (f 0), vI (f 1), vI (b9 % (f 1)), vI 0] [vI (f 1 - 1)] wd51 Q
            exact WP.ret rfl rfl rfl trivial (kg _ _ _ (ls_B (ls_le hh51 (by omega)) (by omega) hB) (by omega))
          · show WP 8 120 147 [vR x, vI a9, vI b9, vI (f 0), vI (f 1), vI (b9 % (f 1)), vI 0] [vI (-5000003)] wd52 Q
            refine WP.blk 1 ?_
            show WP 8 120 152 [vR x, vI a9, vI b9, vI (f 0), vI (f 1), vI (b9 % (f 1)), vI 0] [vI (-5000003)] wd52 Q
            exact WP.ret rfl rfl rfl trivial (kr _ _ (ls_B (ls_le hh52 (by omega)) (by omega) hB) (by omega))
      · refine sw_in (t := 153) 4 c37 rfl ?_
        refine WP.blk 7 ?_
        show (0 ≤ b9 ∧ 0 < 7) ∧ (0 ≤ (b9 / 7) ∧ 0 < 4) ∧ WP 8 120 162 [vR x, vI a9, vI b9, vI (f 0), vI (f 1), vI (b9 % (f 1)), vI 0] [vI ((b9 / 7) % 4), vI (b9 % (f 1)), vR x] wd2 Q
        refine ⟨(by omega), (by omega), ?_⟩
        refine WP.cl (a := [vR x, vI (b9 % (f 1)), vI ((b9 / 7) % 4)]) (rest := []) rfl rfl rfl rfl trivial (by decide) (u_setColor hh2 (Int.le_refl _) (Nat.le_of_ble_eq_true rfl) (fun wd53 hh53 zhh53 => ⟨rfl, ?_⟩) (fun wd54 hh54 zhh54 => ⟨rfl, ?_⟩) (fun wd55 hh55 zhh55 => ⟨rfl, ?_⟩))
        · show WP 8 120 165 [vR x, vI a9, vI b9, vI (f 0), vI (f 1), vI (b9 % (f 1)), vI 0] [vI (f (97 + 14 * (b9 % (f 1)) + 1))] wd53 Q
          have hco := (hW.2 (b9 % (f 1)) zhh53.1.1 zhh53.1.2).2.1
          exact WP.ret rfl rfl rfl trivial (kg _ _ _ (ls_B (ls_le hh53 (by omega)) (by omega) hB) (by omega))
        · show WP 8 120 165 [vR x, vI a9, vI b9, vI (f 0), vI (f 1), vI (b9 % (f 1)), vI 0] [vI (-5000003)] wd54 Q
          exact WP.ret rfl rfl rfl trivial (kr _ _ (ls_B (ls_le hh54 (by omega)) (by omega) hB) (by omega))
        · show WP 8 120 165 [vR x, vI a9, vI b9, vI (f 0), vI (f 1), vI (b9 % (f 1)), vI 0] [vI (-5000001)] wd55 Q
          exact WP.ret rfl rfl rfl trivial (kr _ _ (ls_B (ls_le hh55 (by omega)) (by omega) hB) (by omega))
      · refine sw_in (t := 166) 5 c37 rfl ?_
        refine WP.blk 5 ?_
        show (0 ≤ b9 ∧ 0 < 3) ∧ WP 8 120 (if cnd .ne (b9 % 3) 0 = true then 185 else 173) [vR x, vI a9, vI b9, vI (f 0), vI (f 1), vI (b9 % (f 1)), vI 0] [vR x] wd2 Q
        refine ⟨(by omega), ?_⟩
        refine br_ne (fun c56 => ?_) (fun c56 => ?_)
        · refine WP.blk 14 ?_
          show (0 ≤ b9 ∧ 0 < 3) ∧ (0 ≤ (b9 / 3) ∧ 0 < 14) ∧ ir (1 + ((b9 / 3) % 14)) ∧ (0 ≤ b9 ∧ 0 < 42) ∧ (0 ≤ (b9 / 42) ∧ 0 < 6) ∧ ir (1 + ((b9 / 42) % 6)) ∧ WP 8 120 202 [vR x, vI a9, vI b9, vI (f 0), vI (f 1), vI (b9 % (f 1)), vI 0] [vI (1 + ((b9 / 42) % 6)), vI (1 + ((b9 / 3) % 14)), vR x] wd2 Q
          refine ⟨(by omega), (by omega), (by unfold ir; omega), (by omega), (by omega), (by unfold ir; omega), ?_⟩
          refine WP.cl (a := [vR x, vI (1 + ((b9 / 3) % 14)), vI (1 + ((b9 / 42) % 6))]) (rest := []) rfl rfl rfl rfl trivial (by decide) (u_setLimits hh2 (Int.le_refl _) (Nat.le_of_ble_eq_true rfl) (fun wd57 hh57 zhh57 => ⟨rfl, ?_⟩) (fun wd58 hh58 zhh58 => ⟨rfl, ?_⟩))
          · show WP 8 120 205 [vR x, vI a9, vI b9, vI (f 0), vI (f 1), vI (b9 % (f 1)), vI 0] [vI (f 2)] wd57 Q
            exact WP.ret rfl rfl rfl trivial (kg _ _ _ (ls_B (ls_le hh57 (by omega)) (by omega) hB) (by omega))
          · show WP 8 120 205 [vR x, vI a9, vI b9, vI (f 0), vI (f 1), vI (b9 % (f 1)), vI 0] [vI (-5000001)] wd58 Q
            exact WP.ret rfl rfl rfl trivial (kr _ _ (ls_B (ls_le hh58 (by omega)) (by omega) hB) (by omega))
        · refine WP.blk 15 ?_
          show (0 ≤ b9 ∧ 0 < 3) ∧ (0 ≤ (b9 / 3) ∧ 0 < 200) ∧ ir (1 + ((b9 / 3) % 200)) ∧ (0 ≤ b9 ∧ 0 < 42) ∧ (0 ≤ (b9 / 42) ∧ 0 < 6) ∧ ir (1 + ((b9 / 42) % 6)) ∧ WP 8 120 202 [vR x, vI a9, vI b9, vI (f 0), vI (f 1), vI (b9 % (f 1)), vI 0] [vI (1 + ((b9 / 42) % 6)), vI (1 + ((b9 / 3) % 200)), vR x] wd2 Q
          refine ⟨(by omega), (by omega), (by unfold ir; omega), (by omega), (by omega), (by unfold ir; omega), ?_⟩
          refine WP.cl (a := [vR x, vI (1 + ((b9 / 3) % 200)), vI (1 + ((b9 / 42) % 6))]) (rest := []) rfl rfl rfl rfl trivial (by decide) (u_setLimits hh2 (Int.le_refl _) (Nat.le_of_ble_eq_true rfl) (fun wd59 hh59 zhh59 => ⟨rfl, ?_⟩) (fun wd60 hh60 zhh60 => ⟨rfl, ?_⟩))
          · show WP 8 120 205 [vR x, vI a9, vI b9, vI (f 0), vI (f 1), vI (b9 % (f 1)), vI 0] [vI (f 2)] wd59 Q
            exact WP.ret rfl rfl rfl trivial (kg _ _ _ (ls_B (ls_le hh59 (by omega)) (by omega) hB) (by omega))
          · show WP 8 120 205 [vR x, vI a9, vI b9, vI (f 0), vI (f 1), vI (b9 % (f 1)), vI 0] [vI (-5000001)] wd60 Q
            exact WP.ret rfl rfl rfl trivial (kr _ _ (ls_B (ls_le hh60 (by omega)) (by omega) hB) (by omega))
      · refine sw_in (t := 206) 6 c37 rfl ?_
        refine WP.blk 2 ?_
        show WP 8 120 209 [vR x, vI a9, vI b9, vI (f 0), vI (f 1), vI (b9 % (f 1)), vI 0] [vI 0, vR x] wd2 Q
        refine WP.cl (a := [vR x, vI 0]) (rest := []) rfl rfl rfl rfl trivial (by decide) (u_clean hh2 (Int.le_refl _) (Nat.le_of_ble_eq_true rfl) hB (fun wd61 hh61 zhh61 => ⟨rfl, ?_⟩) (fun wd62 hh62 zhh62 => ⟨rfl, ?_⟩))
        · show WP 8 120 212 [vR x, vI a9, vI b9, vI (f 0), vI (f 1), vI (b9 % (f 1)), vI 0] [vI (if f (7 + 9 * 0 + 6) = -1 then 0 else 1)] wd61 Q
          exact WP.ret rfl rfl rfl trivial (kg _ _ _ (ls_B (ls_le hh61 (by omega)) (by omega) hB) (by split <;> omega))
        · show WP 8 120 212 [vR x, vI a9, vI b9, vI (f 0), vI (f 1), vI (b9 % (f 1)), vI 0] [vI (-5000003)] wd62 Q
          exact WP.ret rfl rfl rfl trivial (kr _ _ (ls_B (ls_le hh62 (by omega)) (by omega) hB) (by omega))
      · refine sw_in (t := 213) 7 c37 rfl ?_
        refine WP.blk 1 ?_
        show WP 8 120 214 [vR x, vI a9, vI b9, vI (f 0), vI (f 1), vI (b9 % (f 1)), vI 0] [vR x] wd2 Q
        refine WP.cl (a := [vR x]) (rest := []) rfl rfl rfl rfl ⟨ls_ty hh2, trivial⟩ (by decide) (u_writeAll hh2 (Int.le_refl _) (Nat.le_of_ble_eq_true rfl) hB (fun wd63 hh63 => ⟨rfl, ?_⟩))
        show WP 8 120 217 [vR x, vI a9, vI b9, vI (f 0), vI (f 1), vI (b9 % (f 1)), vI 0] [vI (num (fun w => Can (wall f w) w) (f 1))] wd63 Q
        have hwn := num_r (P := fun w => Can (wall f w) w) hW1.1
        exact WP.ret rfl rfl rfl trivial (kg _ _ _ (ls_B (ls_le hh63 (by omega)) (by omega) hB) (by omega))
      · refine sw_out c37 ?_
        refine WP.blk 2 ?_
        show WP 8 120 221 [vR x, vI a9, vI b9, vI (f 0), vI (f 1), vI (b9 % (f 1)), vI 0] [vI (b9 % (f 1)), vR x] wd2 Q
        refine WP.cl (a := [vR x, vI (b9 % (f 1))]) (rest := []) rfl rfl rfl rfl trivial (by decide) (u_write hh2 (Int.le_refl _) (Nat.le_of_ble_eq_true rfl) hB (fun wd64 cz nz hh64 hj hz => ⟨rfl, ?_⟩) (fun wd65 hh65 _ => ⟨rfl, ?_⟩) (fun wd66 hh66 _ _ => ⟨rfl, ?_⟩))
        · show WP 8 120 224 [vR x, vI a9, vI b9, vI (f 0), vI (f 1), vI (b9 % (f 1)), vI 0] [vI nz] wd64 Q
          have hzp := (wrt_pl hA (hW.2 (b9 % (f 1)) hj.1 hj.2).1 hz).1
          exact WP.ret rfl rfl rfl trivial (kg _ _ _ (ls_B (ls_le hh64 (by omega)) (by omega) hB) (by omega))
        · show WP 8 120 224 [vR x, vI a9, vI b9, vI (f 0), vI (f 1), vI (b9 % (f 1)), vI 0] [vI (-5000003)] wd65 Q
          exact WP.ret rfl rfl rfl trivial (kr _ _ (ls_B (ls_le hh65 (by omega)) (by omega) hB) (by omega))
        · show WP 8 120 224 [vR x, vI a9, vI b9, vI (f 0), vI (f 1), vI (b9 % (f 1)), vI 0] [vI (-5000002)] wd66 Q
          exact WP.ret rfl rfl rfl trivial (kr _ _ (ls_B (ls_le hh66 (by omega)) (by omega) hB) (by omega))
  · refine WP.blk 5 ?_
    show WP 8 120 (if cnd .ne (f 0) 0 = true then 36 else 32) [vR x, vI a9, vI b9, vI (f 0), vI (f 1), vI 0, none] [] wd2 Q
    refine br_ne (fun c67 => ?_) (fun c67 => ?_)
    · refine WP.blk 6 ?_
      show (0 ≤ b9 ∧ 0 < (f 0)) ∧ WP 8 120 44 [vR x, vI a9, vI b9, vI (f 0), vI (f 1), vI 0, vI (b9 % (f 0))] [vI 14, vI a9] wd2 Q
      refine ⟨(by omega), ?_⟩
      refine WP.cl (a := [vI a9, vI 14]) (rest := []) rfl rfl rfl rfl trivial (by decide) (z_low (by omega) ⟨rfl, ?_⟩)
      show WP 8 120 47 [vR x, vI a9, vI b9, vI (f 0), vI (f 1), vI 0, vI (b9 % (f 0))] [vI (lw9 a9 14)] wd2 Q
      obtain ⟨lo68, hlo68⟩ : ∃ t, t = lw9 a9 14 := ⟨_, rfl⟩
      have rlo68 := lw9_r (v := a9) (n := 14) (by omega)
      rw [← hlo68] at rlo68 ⊢
      refine WP.blk 1 ?_
      show WP 8 120 (if lo68 < 0 ∨ 7 < lo68 then 218 else ((#[92, 92, 125, 132, 153, 166, 206, 213] : Array Int).getD (lo68 - 0).toNat 0).toNat) [vR x, vI a9, vI b9, vI (f 0), vI (f 1), vI 0, vI (b9 % (f 0))] [] wd2 Q
      rcases (show lo68 = 0 ∨ lo68 = 1 ∨ lo68 = 2 ∨ lo68 = 3 ∨ lo68 = 4 ∨ lo68 = 5 ∨ lo68 = 6 ∨ lo68 = 7 ∨ (lo68 < 0 ∨ 7 < lo68) by omega) with c69 | c69 | c69 | c69 | c69 | c69 | c69 | c69 | c69
      · refine sw_in (t := 92) 0 c69 rfl ?_
        refine WP.blk 3 ?_
        show WP 8 120 (if cnd .le (f 0) 6 = true then 103 else 98) [vR x, vI a9, vI b9, vI (f 0), vI (f 1), vI 0, vI (b9 % (f 0))] [] wd2 Q
        refine br_le (fun c70 => ?_) (fun c70 => ?_)
        · refine WP.blk 14 ?_
          show (0 ≤ b9 ∧ 0 < 7) ∧ (0 ≤ (b9 / 7) ∧ 0 < 8) ∧ (0 ≤ b9 ∧ 0 < 56) ∧ (0 ≤ (b9 / 56) ∧ 0 < 3) ∧ ir (1 + ((b9 / 56) % 3)) ∧ WP 8 120 121 [vR x, vI a9, vI b9, vI (f 0), vI (f 1), vI 0, vI (b9 % (f 0))] [vI (1 + ((b9 / 56) % 3)), vI ((b9 / 7) % 8), vI 0, vR x] wd2 Q
          refine ⟨(by omega), (by omega), (by omega), (by omega), (by unfold ir; omega), ?_⟩
          refine WP.cl (a := [vR x, vI 0, vI ((b9 / 7) % 8), vI (1 + ((b9 / 56) % 3))]) (rest := []) rfl rfl rfl rfl trivial (by decide) (u_cut hh2 (Int.le_refl _) (Nat.le_of_ble_eq_true rfl) (fun wd71 hh71 zhh71 => ⟨rfl, ?_⟩) (fun wd72 hh72 zhh72 => ⟨rfl, ?_⟩) (fun wd73 hh73 zhh73 => ⟨rfl, ?_⟩) (fun wd74 hh74 zhh74 => ⟨rfl, ?_⟩))
          · show WP 8 120 124 [vR x, vI a9, vI b9, vI (f 0), vI (f 1), vI 0, vI (b9 % (f 0))] [vI (f 0)] wd71 Q
            exact WP.ret rfl rfl rfl trivial (kg _ _ _ (ls_B (ls_le hh71 (by omega)) (by omega) hB) (by omega))
          · show WP 8 120 124 [vR x, vI a9, vI b9, vI (f 0), vI (f 1), vI 0, vI (b9 % (f 0))] [vI (-5000003)] wd72 Q
            exact WP.ret rfl rfl rfl trivial (kr _ _ (ls_B (ls_le hh72 (by omega)) (by omega) hB) (by omega))
          · show WP 8 120 124 [vR x, vI a9, vI b9, vI (f 0), vI (f 1), vI 0, vI (b9 % (f 0))] [vI (-5000001)] wd73 Q
            exact WP.ret rfl rfl rfl trivial (kr _ _ (ls_B (ls_le hh73 (by omega)) (by omega) hB) (by omega))
          · show WP 8 120 124 [vR x, vI a9, vI b9, vI (f 0), vI (f 1), vI 0, vI (b9 % (f 0))] [vI (-5000002)] wd74 Q
            exact WP.ret rfl rfl rfl trivial (kr _ _ (ls_B (ls_le hh74 (by omega)) (by omega) hB) (by omega))
        · refine WP.blk 2 ?_
          show WP 8 120 124 [vR x, vI a9, vI b9, vI (f 0), vI (f 1), vI 0, vI (b9 % (f 0))] [vI (-5000002)] wd2 Q
          exact WP.ret rfl rfl rfl trivial (kr _ _ (ls_B (ls_le hh2 (by omega)) (by omega) hB) (by omega))
      · refine sw_in (t := 92) 1 c69 rfl ?_
        refine WP.blk 3 ?_
        show WP 8 120 (if cnd .le (f 0) 6 = true then 103 else 98) [vR x, vI a9, vI b9, vI (f 0), vI (f 1), vI 0, vI (b9 % (f 0))] [] wd2 Q
        refine br_le (fun c75 => ?_) (fun c75 => ?_)
        · refine WP.blk 14 ?_
          show (0 ≤ b9 ∧ 0 < 7) ∧ (0 ≤ (b9 / 7) ∧ 0 < 8) ∧ (0 ≤ b9 ∧ 0 < 56) ∧ (0 ≤ (b9 / 56) ∧ 0 < 3) ∧ ir (1 + ((b9 / 56) % 3)) ∧ WP 8 120 121 [vR x, vI a9, vI b9, vI (f 0), vI (f 1), vI 0, vI (b9 % (f 0))] [vI (1 + ((b9 / 56) % 3)), vI ((b9 / 7) % 8), vI 0, vR x] wd2 Q
          refine ⟨(by omega), (by omega), (by omega), (by omega), (by unfold ir; omega), ?_⟩
          refine WP.cl (a := [vR x, vI 0, vI ((b9 / 7) % 8), vI (1 + ((b9 / 56) % 3))]) (rest := []) rfl rfl rfl rfl trivial (by decide) (u_cut hh2 (Int.le_refl _) (Nat.le_of_ble_eq_true rfl) (fun wd76 hh76 zhh76 => ⟨rfl, ?_⟩) (fun wd77 hh77 zhh77 => ⟨rfl, ?_⟩) (fun wd78 hh78 zhh78 => ⟨rfl, ?_⟩) (fun wd79 hh79 zhh79 => ⟨rfl, ?_⟩))
          · show WP 8 120 124 [vR x, vI a9, vI b9, vI (f 0), vI (f 1), vI 0, vI (b9 % (f 0))] [vI (f 0)] wd76 Q
            exact WP.ret rfl rfl rfl trivial (kg _ _ _ (ls_B (ls_le hh76 (by omega)) (by omega) hB) (by omega))
          · show WP 8 120 124 [vR x, vI a9, vI b9, vI (f 0), vI (f 1), vI 0, vI (b9 % (f 0))] [vI (-5000003)] wd77 Q
            exact WP.ret rfl rfl rfl trivial (kr _ _ (ls_B (ls_le hh77 (by omega)) (by omega) hB) (by omega))
          · show WP 8 120 124 [vR x, vI a9, vI b9, vI (f 0), vI (f 1), vI 0, vI (b9 % (f 0))] [vI (-5000001)] wd78 Q
            exact WP.ret rfl rfl rfl trivial (kr _ _ (ls_B (ls_le hh78 (by omega)) (by omega) hB) (by omega))
          · show WP 8 120 124 [vR x, vI a9, vI b9, vI (f 0), vI (f 1), vI 0, vI (b9 % (f 0))] [vI (-5000002)] wd79 Q
            exact WP.ret rfl rfl rfl trivial (kr _ _ (ls_B (ls_le hh79 (by omega)) (by omega) hB) (by omega))
        · refine WP.blk 2 ?_
          show WP 8 120 124 [vR x, vI a9, vI b9, vI (f 0), vI (f 1), vI 0, vI (b9 % (f 0))] [vI (-5000002)] wd2 Q
          exact WP.ret rfl rfl rfl trivial (kr _ _ (ls_B (ls_le hh2 (by omega)) (by omega) hB) (by omega))
      · refine sw_in (t := 125) 2 c69 rfl ?_
        refine WP.blk 2 ?_
        show WP 8 120 128 [vR x, vI a9, vI b9, vI (f 0), vI (f 1), vI 0, vI (b9 % (f 0))] [vI (b9 % (f 0)), vR x] wd2 Q
        refine WP.cl (a := [vR x, vI (b9 % (f 0))]) (rest := []) rfl rfl rfl rfl trivial (by decide) (u_remove hh2 (Int.le_refl _) (Nat.le_of_ble_eq_true rfl) (fun wd80 hh80 zhh80 => ⟨rfl, ?_⟩) (fun wd81 hh81 zhh81 => ⟨rfl, ?_⟩))
        · show WP 8 120 131 [vR x, vI a9, vI b9, vI (f 0), vI (f 1), vI 0, vI (b9 % (f 0))] [vI (f 0 - 1)] wd80 Q
          exact WP.ret rfl rfl rfl trivial (kg _ _ _ (ls_B (ls_le hh80 (by omega)) (by omega) hB) (by omega))
        · show WP 8 120 131 [vR x, vI a9, vI b9, vI (f 0), vI (f 1), vI 0, vI (b9 % (f 0))] [vI (-5000003)] wd81 Q
          exact WP.ret rfl rfl rfl trivial (kr _ _ (ls_B (ls_le hh81 (by omega)) (by omega) hB) (by omega))
      · refine sw_in (t := 132) 3 c69 rfl ?_
        refine WP.blk 6 ?_
        show (0 ≤ b9 ∧ 0 < 7) ∧ (0 ≤ (b9 / 7) ∧ 0 < 3) ∧ WP 8 120 (if cnd .ne ((b9 / 7) % 3) 0 = true then 150 else 141) [vR x, vI a9, vI b9, vI (f 0), vI (f 1), vI 0, vI (b9 % (f 0))] [] wd2 Q
        refine ⟨(by omega), (by omega), ?_⟩
        refine br_ne (fun c82 => ?_) (fun c82 => ?_)
        · refine WP.blk 1 ?_
          show WP 8 120 152 [vR x, vI a9, vI b9, vI (f 0), vI (f 1), vI 0, vI (b9 % (f 0))] [vI (-5000003)] wd2 Q
          exact WP.ret rfl rfl rfl trivial (kr _ _ (ls_B (ls_le hh2 (by omega)) (by omega) hB) (by omega))
        · refine WP.blk 2 ?_
          show WP 8 120 144 [vR x, vI a9, vI b9, vI (f 0), vI (f 1), vI 0, vI (b9 % (f 0))] [vI 0, vR x] wd2 Q
          refine WP.cl (a := [vR x, vI 0]) (rest := []) rfl rfl rfl rfl trivial (by decide) (u_drop hh2 (Int.le_refl _) (Nat.le_of_ble_eq_true rfl) (fun wd83 hh83 zhh83 => ⟨rfl, ?_⟩) (fun wd84 hh84 zhh84 => ⟨rfl, ?_⟩))
          · show WP 8 120 147 [vR x, vI a9, vI b9, vI (f 0), vI (f 1), vI 0, vI (b9 % (f 0))] [vI (f 1 - 1)] wd83 Q
            refine WP.blk 1 ?_
            show WP 8 120 152 [vR x, vI a9, vI b9, vI (f 0), vI (f 1), vI 0, vI (b9 % (f 0))] [vI (f 1 - 1)] wd83 Q
            exact WP.ret rfl rfl rfl trivial (kg _ _ _ (ls_B (ls_le hh83 (by omega)) (by omega) hB) (by omega))
          · show WP 8 120 147 [vR x, vI a9, vI b9, vI (f 0), vI (f 1), vI 0, vI (b9 % (f 0))] [vI (-5000003)] wd84 Q
            refine WP.blk 1 ?_
            show WP 8 120 152 [vR x, vI a9, vI b9, vI (f 0), vI (f 1), vI 0, vI (b9 % (f 0))] [vI (-5000003)] wd84 Q
            exact WP.ret rfl rfl rfl trivial (kr _ _ (ls_B (ls_le hh84 (by omega)) (by omega) hB) (by omega))
      · refine sw_in (t := 153) 4 c69 rfl ?_
        refine WP.blk 7 ?_
        show (0 ≤ b9 ∧ 0 < 7) ∧ (0 ≤ (b9 / 7) ∧ 0 < 4) ∧ WP 8 120 162 [vR x, vI a9, vI b9, vI (f 0), vI (f 1), vI 0, vI (b9 % (f 0))] [vI ((b9 / 7) % 4), vI 0, vR x] wd2 Q
        refine ⟨(by omega), (by omega), ?_⟩
        refine WP.cl (a := [vR x, vI 0, vI ((b9 / 7) % 4)]) (rest := []) rfl rfl rfl rfl trivial (by decide) (u_setColor hh2 (Int.le_refl _) (Nat.le_of_ble_eq_true rfl) (fun wd85 hh85 zhh85 => ⟨rfl, ?_⟩) (fun wd86 hh86 zhh86 => ⟨rfl, ?_⟩) (fun wd87 hh87 zhh87 => ⟨rfl, ?_⟩))
        · show WP 8 120 165 [vR x, vI a9, vI b9, vI (f 0), vI (f 1), vI 0, vI (b9 % (f 0))] [vI (f (97 + 14 * 0 + 1))] wd85 Q
          have hco := (hW.2 0 zhh85.1.1 zhh85.1.2).2.1
          exact WP.ret rfl rfl rfl trivial (kg _ _ _ (ls_B (ls_le hh85 (by omega)) (by omega) hB) (by omega))
        · show WP 8 120 165 [vR x, vI a9, vI b9, vI (f 0), vI (f 1), vI 0, vI (b9 % (f 0))] [vI (-5000003)] wd86 Q
          exact WP.ret rfl rfl rfl trivial (kr _ _ (ls_B (ls_le hh86 (by omega)) (by omega) hB) (by omega))
        · show WP 8 120 165 [vR x, vI a9, vI b9, vI (f 0), vI (f 1), vI 0, vI (b9 % (f 0))] [vI (-5000001)] wd87 Q
          exact WP.ret rfl rfl rfl trivial (kr _ _ (ls_B (ls_le hh87 (by omega)) (by omega) hB) (by omega))
      · refine sw_in (t := 166) 5 c69 rfl ?_
        refine WP.blk 5 ?_
        show (0 ≤ b9 ∧ 0 < 3) ∧ WP 8 120 (if cnd .ne (b9 % 3) 0 = true then 185 else 173) [vR x, vI a9, vI b9, vI (f 0), vI (f 1), vI 0, vI (b9 % (f 0))] [vR x] wd2 Q
        refine ⟨(by omega), ?_⟩
        refine br_ne (fun c88 => ?_) (fun c88 => ?_)
        · refine WP.blk 14 ?_
          show (0 ≤ b9 ∧ 0 < 3) ∧ (0 ≤ (b9 / 3) ∧ 0 < 14) ∧ ir (1 + ((b9 / 3) % 14)) ∧ (0 ≤ b9 ∧ 0 < 42) ∧ (0 ≤ (b9 / 42) ∧ 0 < 6) ∧ ir (1 + ((b9 / 42) % 6)) ∧ WP 8 120 202 [vR x, vI a9, vI b9, vI (f 0), vI (f 1), vI 0, vI (b9 % (f 0))] [vI (1 + ((b9 / 42) % 6)), vI (1 + ((b9 / 3) % 14)), vR x] wd2 Q
          refine ⟨(by omega), (by omega), (by unfold ir; omega), (by omega), (by omega), (by unfold ir; omega), ?_⟩
          refine WP.cl (a := [vR x, vI (1 + ((b9 / 3) % 14)), vI (1 + ((b9 / 42) % 6))]) (rest := []) rfl rfl rfl rfl trivial (by decide) (u_setLimits hh2 (Int.le_refl _) (Nat.le_of_ble_eq_true rfl) (fun wd89 hh89 zhh89 => ⟨rfl, ?_⟩) (fun wd90 hh90 zhh90 => ⟨rfl, ?_⟩))
          · show WP 8 120 205 [vR x, vI a9, vI b9, vI (f 0), vI (f 1), vI 0, vI (b9 % (f 0))] [vI (f 2)] wd89 Q
            exact WP.ret rfl rfl rfl trivial (kg _ _ _ (ls_B (ls_le hh89 (by omega)) (by omega) hB) (by omega))
          · show WP 8 120 205 [vR x, vI a9, vI b9, vI (f 0), vI (f 1), vI 0, vI (b9 % (f 0))] [vI (-5000001)] wd90 Q
            exact WP.ret rfl rfl rfl trivial (kr _ _ (ls_B (ls_le hh90 (by omega)) (by omega) hB) (by omega))
        · refine WP.blk 15 ?_
          show (0 ≤ b9 ∧ 0 < 3) ∧ (0 ≤ (b9 / 3) ∧ 0 < 200) ∧ ir (1 + ((b9 / 3) % 200)) ∧ (0 ≤ b9 ∧ 0 < 42) ∧ (0 ≤ (b9 / 42) ∧ 0 < 6) ∧ ir (1 + ((b9 / 42) % 6)) ∧ WP 8 120 202 [vR x, vI a9, vI b9, vI (f 0), vI (f 1), vI 0, vI (b9 % (f 0))] [vI (1 + ((b9 / 42) % 6)), vI (1 + ((b9 / 3) % 200)), vR x] wd2 Q
          refine ⟨(by omega), (by omega), (by unfold ir; omega), (by omega), (by omega), (by unfold ir; omega), ?_⟩
          refine WP.cl (a := [vR x, vI (1 + ((b9 / 3) % 200)), vI (1 + ((b9 / 42) % 6))]) (rest := []) rfl rfl rfl rfl trivial (by decide) (u_setLimits hh2 (Int.le_refl _) (Nat.le_of_ble_eq_true rfl) (fun wd91 hh91 zhh91 => ⟨rfl, ?_⟩) (fun wd92 hh92 zhh92 => ⟨rfl, ?_⟩))
          · show WP 8 120 205 [vR x, vI a9, vI b9, vI (f 0), vI (f 1), vI 0, vI (b9 % (f 0))] [vI (f 2)] wd91 Q
            exact WP.ret rfl rfl rfl trivial (kg _ _ _ (ls_B (ls_le hh91 (by omega)) (by omega) hB) (by omega))
          · show WP 8 120 205 [vR x, vI a9, vI b9, vI (f 0), vI (f 1), vI 0, vI (b9 % (f 0))] [vI (-5000001)] wd92 Q
            exact WP.ret rfl rfl rfl trivial (kr _ _ (ls_B (ls_le hh92 (by omega)) (by omega) hB) (by omega))
      · refine sw_in (t := 206) 6 c69 rfl ?_
        refine WP.blk 2 ?_
        show WP 8 120 209 [vR x, vI a9, vI b9, vI (f 0), vI (f 1), vI 0, vI (b9 % (f 0))] [vI (b9 % (f 0)), vR x] wd2 Q
        refine WP.cl (a := [vR x, vI (b9 % (f 0))]) (rest := []) rfl rfl rfl rfl trivial (by decide) (u_clean hh2 (Int.le_refl _) (Nat.le_of_ble_eq_true rfl) hB (fun wd93 hh93 zhh93 => ⟨rfl, ?_⟩) (fun wd94 hh94 zhh94 => ⟨rfl, ?_⟩))
        · show WP 8 120 212 [vR x, vI a9, vI b9, vI (f 0), vI (f 1), vI 0, vI (b9 % (f 0))] [vI (if f (7 + 9 * (b9 % (f 0)) + 6) = -1 then 0 else 1)] wd93 Q
          exact WP.ret rfl rfl rfl trivial (kg _ _ _ (ls_B (ls_le hh93 (by omega)) (by omega) hB) (by split <;> omega))
        · show WP 8 120 212 [vR x, vI a9, vI b9, vI (f 0), vI (f 1), vI 0, vI (b9 % (f 0))] [vI (-5000003)] wd94 Q
          exact WP.ret rfl rfl rfl trivial (kr _ _ (ls_B (ls_le hh94 (by omega)) (by omega) hB) (by omega))
      · refine sw_in (t := 213) 7 c69 rfl ?_
        refine WP.blk 1 ?_
        show WP 8 120 214 [vR x, vI a9, vI b9, vI (f 0), vI (f 1), vI 0, vI (b9 % (f 0))] [vR x] wd2 Q
        refine WP.cl (a := [vR x]) (rest := []) rfl rfl rfl rfl ⟨ls_ty hh2, trivial⟩ (by decide) (u_writeAll hh2 (Int.le_refl _) (Nat.le_of_ble_eq_true rfl) hB (fun wd95 hh95 => ⟨rfl, ?_⟩))
        show WP 8 120 217 [vR x, vI a9, vI b9, vI (f 0), vI (f 1), vI 0, vI (b9 % (f 0))] [vI (num (fun w => Can (wall f w) w) (f 1))] wd95 Q
        have hwn := num_r (P := fun w => Can (wall f w) w) hW1.1
        exact WP.ret rfl rfl rfl trivial (kg _ _ _ (ls_B (ls_le hh95 (by omega)) (by omega) hB) (by omega))
      · refine sw_out c69 ?_
        refine WP.blk 2 ?_
        show WP 8 120 221 [vR x, vI a9, vI b9, vI (f 0), vI (f 1), vI 0, vI (b9 % (f 0))] [vI 0, vR x] wd2 Q
        refine WP.cl (a := [vR x, vI 0]) (rest := []) rfl rfl rfl rfl trivial (by decide) (u_write hh2 (Int.le_refl _) (Nat.le_of_ble_eq_true rfl) hB (fun wd96 cz nz hh96 hj hz => ⟨rfl, ?_⟩) (fun wd97 hh97 _ => ⟨rfl, ?_⟩) (fun wd98 hh98 _ _ => ⟨rfl, ?_⟩))
        · show WP 8 120 224 [vR x, vI a9, vI b9, vI (f 0), vI (f 1), vI 0, vI (b9 % (f 0))] [vI nz] wd96 Q
          have hzp := (wrt_pl hA (hW.2 0 hj.1 hj.2).1 hz).1
          exact WP.ret rfl rfl rfl trivial (kg _ _ _ (ls_B (ls_le hh96 (by omega)) (by omega) hB) (by omega))
        · show WP 8 120 224 [vR x, vI a9, vI b9, vI (f 0), vI (f 1), vI 0, vI (b9 % (f 0))] [vI (-5000003)] wd97 Q
          exact WP.ret rfl rfl rfl trivial (kr _ _ (ls_B (ls_le hh97 (by omega)) (by omega) hB) (by omega))
        · show WP 8 120 224 [vR x, vI a9, vI b9, vI (f 0), vI (f 1), vI 0, vI (b9 % (f 0))] [vI (-5000002)] wd98 Q
          exact WP.ret rfl rfl rfl trivial (kr _ _ (ls_B (ls_le hh98 (by omega)) (by omega) hB) (by omega))
    · refine WP.blk 5 ?_
      show WP 8 120 44 [vR x, vI a9, vI b9, vI (f 0), vI (f 1), vI 0, vI 0] [vI 14, vI a9] wd2 Q
      refine WP.cl (a := [vI a9, vI 14]) (rest := []) rfl rfl rfl rfl trivial (by decide) (z_low (by omega) ⟨rfl, ?_⟩)
      show WP 8 120 47 [vR x, vI a9, vI b9, vI (f 0), vI (f 1), vI 0, vI 0] [vI (lw9 a9 14)] wd2 Q
      obtain ⟨lo99, hlo99⟩ : ∃ t, t = lw9 a9 14 := ⟨_, rfl⟩
      have rlo99 := lw9_r (v := a9) (n := 14) (by omega)
      rw [← hlo99] at rlo99 ⊢
      refine WP.blk 1 ?_
      show WP 8 120 (if lo99 < 0 ∨ 7 < lo99 then 218 else ((#[92, 92, 125, 132, 153, 166, 206, 213] : Array Int).getD (lo99 - 0).toNat 0).toNat) [vR x, vI a9, vI b9, vI (f 0), vI (f 1), vI 0, vI 0] [] wd2 Q
      rcases (show lo99 = 0 ∨ lo99 = 1 ∨ lo99 = 2 ∨ lo99 = 3 ∨ lo99 = 4 ∨ lo99 = 5 ∨ lo99 = 6 ∨ lo99 = 7 ∨ (lo99 < 0 ∨ 7 < lo99) by omega) with c100 | c100 | c100 | c100 | c100 | c100 | c100 | c100 | c100
      · refine sw_in (t := 92) 0 c100 rfl ?_
        refine WP.blk 3 ?_
        show WP 8 120 (if cnd .le (f 0) 6 = true then 103 else 98) [vR x, vI a9, vI b9, vI (f 0), vI (f 1), vI 0, vI 0] [] wd2 Q
        refine br_le (fun c101 => ?_) (fun c101 => ?_)
        · refine WP.blk 14 ?_
          show (0 ≤ b9 ∧ 0 < 7) ∧ (0 ≤ (b9 / 7) ∧ 0 < 8) ∧ (0 ≤ b9 ∧ 0 < 56) ∧ (0 ≤ (b9 / 56) ∧ 0 < 3) ∧ ir (1 + ((b9 / 56) % 3)) ∧ WP 8 120 121 [vR x, vI a9, vI b9, vI (f 0), vI (f 1), vI 0, vI 0] [vI (1 + ((b9 / 56) % 3)), vI ((b9 / 7) % 8), vI 0, vR x] wd2 Q
          refine ⟨(by omega), (by omega), (by omega), (by omega), (by unfold ir; omega), ?_⟩
          refine WP.cl (a := [vR x, vI 0, vI ((b9 / 7) % 8), vI (1 + ((b9 / 56) % 3))]) (rest := []) rfl rfl rfl rfl trivial (by decide) (u_cut hh2 (Int.le_refl _) (Nat.le_of_ble_eq_true rfl) (fun wd102 hh102 zhh102 => ⟨rfl, ?_⟩) (fun wd103 hh103 zhh103 => ⟨rfl, ?_⟩) (fun wd104 hh104 zhh104 => ⟨rfl, ?_⟩) (fun wd105 hh105 zhh105 => ⟨rfl, ?_⟩))
          · show WP 8 120 124 [vR x, vI a9, vI b9, vI (f 0), vI (f 1), vI 0, vI 0] [vI (f 0)] wd102 Q
            exact WP.ret rfl rfl rfl trivial (kg _ _ _ (ls_B (ls_le hh102 (by omega)) (by omega) hB) (by omega))
          · show WP 8 120 124 [vR x, vI a9, vI b9, vI (f 0), vI (f 1), vI 0, vI 0] [vI (-5000003)] wd103 Q
            exact WP.ret rfl rfl rfl trivial (kr _ _ (ls_B (ls_le hh103 (by omega)) (by omega) hB) (by omega))
          · show WP 8 120 124 [vR x, vI a9, vI b9, vI (f 0), vI (f 1), vI 0, vI 0] [vI (-5000001)] wd104 Q
            exact WP.ret rfl rfl rfl trivial (kr _ _ (ls_B (ls_le hh104 (by omega)) (by omega) hB) (by omega))
          · show WP 8 120 124 [vR x, vI a9, vI b9, vI (f 0), vI (f 1), vI 0, vI 0] [vI (-5000002)] wd105 Q
            exact WP.ret rfl rfl rfl trivial (kr _ _ (ls_B (ls_le hh105 (by omega)) (by omega) hB) (by omega))
        · refine WP.blk 2 ?_
          show WP 8 120 124 [vR x, vI a9, vI b9, vI (f 0), vI (f 1), vI 0, vI 0] [vI (-5000002)] wd2 Q
          exact WP.ret rfl rfl rfl trivial (kr _ _ (ls_B (ls_le hh2 (by omega)) (by omega) hB) (by omega))
      · refine sw_in (t := 92) 1 c100 rfl ?_
        refine WP.blk 3 ?_
        show WP 8 120 (if cnd .le (f 0) 6 = true then 103 else 98) [vR x, vI a9, vI b9, vI (f 0), vI (f 1), vI 0, vI 0] [] wd2 Q
        refine br_le (fun c106 => ?_) (fun c106 => ?_)
        · refine WP.blk 14 ?_
          show (0 ≤ b9 ∧ 0 < 7) ∧ (0 ≤ (b9 / 7) ∧ 0 < 8) ∧ (0 ≤ b9 ∧ 0 < 56) ∧ (0 ≤ (b9 / 56) ∧ 0 < 3) ∧ ir (1 + ((b9 / 56) % 3)) ∧ WP 8 120 121 [vR x, vI a9, vI b9, vI (f 0), vI (f 1), vI 0, vI 0] [vI (1 + ((b9 / 56) % 3)), vI ((b9 / 7) % 8), vI 0, vR x] wd2 Q
          refine ⟨(by omega), (by omega), (by omega), (by omega), (by unfold ir; omega), ?_⟩
          refine WP.cl (a := [vR x, vI 0, vI ((b9 / 7) % 8), vI (1 + ((b9 / 56) % 3))]) (rest := []) rfl rfl rfl rfl trivial (by decide) (u_cut hh2 (Int.le_refl _) (Nat.le_of_ble_eq_true rfl) (fun wd107 hh107 zhh107 => ⟨rfl, ?_⟩) (fun wd108 hh108 zhh108 => ⟨rfl, ?_⟩) (fun wd109 hh109 zhh109 => ⟨rfl, ?_⟩) (fun wd110 hh110 zhh110 => ⟨rfl, ?_⟩))
          · show WP 8 120 124 [vR x, vI a9, vI b9, vI (f 0), vI (f 1), vI 0, vI 0] [vI (f 0)] wd107 Q
            exact WP.ret rfl rfl rfl trivial (kg _ _ _ (ls_B (ls_le hh107 (by omega)) (by omega) hB) (by omega))
          · show WP 8 120 124 [vR x, vI a9, vI b9, vI (f 0), vI (f 1), vI 0, vI 0] [vI (-5000003)] wd108 Q
            exact WP.ret rfl rfl rfl trivial (kr _ _ (ls_B (ls_le hh108 (by omega)) (by omega) hB) (by omega))
          · show WP 8 120 124 [vR x, vI a9, vI b9, vI (f 0), vI (f 1), vI 0, vI 0] [vI (-5000001)] wd109 Q
            exact WP.ret rfl rfl rfl trivial (kr _ _ (ls_B (ls_le hh109 (by omega)) (by omega) hB) (by omega))
          · show WP 8 120 124 [vR x, vI a9, vI b9, vI (f 0), vI (f 1), vI 0, vI 0] [vI (-5000002)] wd110 Q
            exact WP.ret rfl rfl rfl trivial (kr _ _ (ls_B (ls_le hh110 (by omega)) (by omega) hB) (by omega))
        · refine WP.blk 2 ?_
          show WP 8 120 124 [vR x, vI a9, vI b9, vI (f 0), vI (f 1), vI 0, vI 0] [vI (-5000002)] wd2 Q
          exact WP.ret rfl rfl rfl trivial (kr _ _ (ls_B (ls_le hh2 (by omega)) (by omega) hB) (by omega))
      · refine sw_in (t := 125) 2 c100 rfl ?_
        refine WP.blk 2 ?_
        show WP 8 120 128 [vR x, vI a9, vI b9, vI (f 0), vI (f 1), vI 0, vI 0] [vI 0, vR x] wd2 Q
        refine WP.cl (a := [vR x, vI 0]) (rest := []) rfl rfl rfl rfl trivial (by decide) (u_remove hh2 (Int.le_refl _) (Nat.le_of_ble_eq_true rfl) (fun wd111 hh111 zhh111 => ⟨rfl, ?_⟩) (fun wd112 hh112 zhh112 => ⟨rfl, ?_⟩))
        · show WP 8 120 131 [vR x, vI a9, vI b9, vI (f 0), vI (f 1), vI 0, vI 0] [vI (f 0 - 1)] wd111 Q
          exact WP.ret rfl rfl rfl trivial (kg _ _ _ (ls_B (ls_le hh111 (by omega)) (by omega) hB) (by omega))
        · show WP 8 120 131 [vR x, vI a9, vI b9, vI (f 0), vI (f 1), vI 0, vI 0] [vI (-5000003)] wd112 Q
          exact WP.ret rfl rfl rfl trivial (kr _ _ (ls_B (ls_le hh112 (by omega)) (by omega) hB) (by omega))
      · refine sw_in (t := 132) 3 c100 rfl ?_
        refine WP.blk 6 ?_
        show (0 ≤ b9 ∧ 0 < 7) ∧ (0 ≤ (b9 / 7) ∧ 0 < 3) ∧ WP 8 120 (if cnd .ne ((b9 / 7) % 3) 0 = true then 150 else 141) [vR x, vI a9, vI b9, vI (f 0), vI (f 1), vI 0, vI 0] [] wd2 Q
        refine ⟨(by omega), (by omega), ?_⟩
        refine br_ne (fun c113 => ?_) (fun c113 => ?_)
        · refine WP.blk 1 ?_
          show WP 8 120 152 [vR x, vI a9, vI b9, vI (f 0), vI (f 1), vI 0, vI 0] [vI (-5000003)] wd2 Q
          exact WP.ret rfl rfl rfl trivial (kr _ _ (ls_B (ls_le hh2 (by omega)) (by omega) hB) (by omega))
        · refine WP.blk 2 ?_
          show WP 8 120 144 [vR x, vI a9, vI b9, vI (f 0), vI (f 1), vI 0, vI 0] [vI 0, vR x] wd2 Q
          refine WP.cl (a := [vR x, vI 0]) (rest := []) rfl rfl rfl rfl trivial (by decide) (u_drop hh2 (Int.le_refl _) (Nat.le_of_ble_eq_true rfl) (fun wd114 hh114 zhh114 => ⟨rfl, ?_⟩) (fun wd115 hh115 zhh115 => ⟨rfl, ?_⟩))
          · show WP 8 120 147 [vR x, vI a9, vI b9, vI (f 0), vI (f 1), vI 0, vI 0] [vI (f 1 - 1)] wd114 Q
            refine WP.blk 1 ?_
            show WP 8 120 152 [vR x, vI a9, vI b9, vI (f 0), vI (f 1), vI 0, vI 0] [vI (f 1 - 1)] wd114 Q
            exact WP.ret rfl rfl rfl trivial (kg _ _ _ (ls_B (ls_le hh114 (by omega)) (by omega) hB) (by omega))
          · show WP 8 120 147 [vR x, vI a9, vI b9, vI (f 0), vI (f 1), vI 0, vI 0] [vI (-5000003)] wd115 Q
            refine WP.blk 1 ?_
            show WP 8 120 152 [vR x, vI a9, vI b9, vI (f 0), vI (f 1), vI 0, vI 0] [vI (-5000003)] wd115 Q
            exact WP.ret rfl rfl rfl trivial (kr _ _ (ls_B (ls_le hh115 (by omega)) (by omega) hB) (by omega))
      · refine sw_in (t := 153) 4 c100 rfl ?_
        refine WP.blk 7 ?_
        show (0 ≤ b9 ∧ 0 < 7) ∧ (0 ≤ (b9 / 7) ∧ 0 < 4) ∧ WP 8 120 162 [vR x, vI a9, vI b9, vI (f 0), vI (f 1), vI 0, vI 0] [vI ((b9 / 7) % 4), vI 0, vR x] wd2 Q
        refine ⟨(by omega), (by omega), ?_⟩
        refine WP.cl (a := [vR x, vI 0, vI ((b9 / 7) % 4)]) (rest := []) rfl rfl rfl rfl trivial (by decide) (u_setColor hh2 (Int.le_refl _) (Nat.le_of_ble_eq_true rfl) (fun wd116 hh116 zhh116 => ⟨rfl, ?_⟩) (fun wd117 hh117 zhh117 => ⟨rfl, ?_⟩) (fun wd118 hh118 zhh118 => ⟨rfl, ?_⟩))
        · show WP 8 120 165 [vR x, vI a9, vI b9, vI (f 0), vI (f 1), vI 0, vI 0] [vI (f (97 + 14 * 0 + 1))] wd116 Q
          have hco := (hW.2 0 zhh116.1.1 zhh116.1.2).2.1
          exact WP.ret rfl rfl rfl trivial (kg _ _ _ (ls_B (ls_le hh116 (by omega)) (by omega) hB) (by omega))
        · show WP 8 120 165 [vR x, vI a9, vI b9, vI (f 0), vI (f 1), vI 0, vI 0] [vI (-5000003)] wd117 Q
          exact WP.ret rfl rfl rfl trivial (kr _ _ (ls_B (ls_le hh117 (by omega)) (by omega) hB) (by omega))
        · show WP 8 120 165 [vR x, vI a9, vI b9, vI (f 0), vI (f 1), vI 0, vI 0] [vI (-5000001)] wd118 Q
          exact WP.ret rfl rfl rfl trivial (kr _ _ (ls_B (ls_le hh118 (by omega)) (by omega) hB) (by omega))
      · refine sw_in (t := 166) 5 c100 rfl ?_
        refine WP.blk 5 ?_
        show (0 ≤ b9 ∧ 0 < 3) ∧ WP 8 120 (if cnd .ne (b9 % 3) 0 = true then 185 else 173) [vR x, vI a9, vI b9, vI (f 0), vI (f 1), vI 0, vI 0] [vR x] wd2 Q
        refine ⟨(by omega), ?_⟩
        refine br_ne (fun c119 => ?_) (fun c119 => ?_)
        · refine WP.blk 14 ?_
          show (0 ≤ b9 ∧ 0 < 3) ∧ (0 ≤ (b9 / 3) ∧ 0 < 14) ∧ ir (1 + ((b9 / 3) % 14)) ∧ (0 ≤ b9 ∧ 0 < 42) ∧ (0 ≤ (b9 / 42) ∧ 0 < 6) ∧ ir (1 + ((b9 / 42) % 6)) ∧ WP 8 120 202 [vR x, vI a9, vI b9, vI (f 0), vI (f 1), vI 0, vI 0] [vI (1 + ((b9 / 42) % 6)), vI (1 + ((b9 / 3) % 14)), vR x] wd2 Q
          refine ⟨(by omega), (by omega), (by unfold ir; omega), (by omega), (by omega), (by unfold ir; omega), ?_⟩
          refine WP.cl (a := [vR x, vI (1 + ((b9 / 3) % 14)), vI (1 + ((b9 / 42) % 6))]) (rest := []) rfl rfl rfl rfl trivial (by decide) (u_setLimits hh2 (Int.le_refl _) (Nat.le_of_ble_eq_true rfl) (fun wd120 hh120 zhh120 => ⟨rfl, ?_⟩) (fun wd121 hh121 zhh121 => ⟨rfl, ?_⟩))
          · show WP 8 120 205 [vR x, vI a9, vI b9, vI (f 0), vI (f 1), vI 0, vI 0] [vI (f 2)] wd120 Q
            exact WP.ret rfl rfl rfl trivial (kg _ _ _ (ls_B (ls_le hh120 (by omega)) (by omega) hB) (by omega))
          · show WP 8 120 205 [vR x, vI a9, vI b9, vI (f 0), vI (f 1), vI 0, vI 0] [vI (-5000001)] wd121 Q
            exact WP.ret rfl rfl rfl trivial (kr _ _ (ls_B (ls_le hh121 (by omega)) (by omega) hB) (by omega))
        · refine WP.blk 15 ?_
          show (0 ≤ b9 ∧ 0 < 3) ∧ (0 ≤ (b9 / 3) ∧ 0 < 200) ∧ ir (1 + ((b9 / 3) % 200)) ∧ (0 ≤ b9 ∧ 0 < 42) ∧ (0 ≤ (b9 / 42) ∧ 0 < 6) ∧ ir (1 + ((b9 / 42) % 6)) ∧ WP 8 120 202 [vR x, vI a9, vI b9, vI (f 0), vI (f 1), vI 0, vI 0] [vI (1 + ((b9 / 42) % 6)), vI (1 + ((b9 / 3) % 200)), vR x] wd2 Q
          refine ⟨(by omega), (by omega), (by unfold ir; omega), (by omega), (by omega), (by unfold ir; omega), ?_⟩
          refine WP.cl (a := [vR x, vI (1 + ((b9 / 3) % 200)), vI (1 + ((b9 / 42) % 6))]) (rest := []) rfl rfl rfl rfl trivial (by decide) (u_setLimits hh2 (Int.le_refl _) (Nat.le_of_ble_eq_true rfl) (fun wd122 hh122 zhh122 => ⟨rfl, ?_⟩) (fun wd123 hh123 zhh123 => ⟨rfl, ?_⟩))
          · show WP 8 120 205 [vR x, vI a9, vI b9, vI (f 0), vI (f 1), vI 0, vI 0] [vI (f 2)] wd122 Q
            exact WP.ret rfl rfl rfl trivial (kg _ _ _ (ls_B (ls_le hh122 (by omega)) (by omega) hB) (by omega))
          · show WP 8 120 205 [vR x, vI a9, vI b9, vI (f 0), vI (f 1), vI 0, vI 0] [vI (-5000001)] wd123 Q
            exact WP.ret rfl rfl rfl trivial (kr _ _ (ls_B (ls_le hh123 (by omega)) (by omega) hB) (by omega))
      · refine sw_in (t := 206) 6 c100 rfl ?_
        refine WP.blk 2 ?_
        show WP 8 120 209 [vR x, vI a9, vI b9, vI (f 0), vI (f 1), vI 0, vI 0] [vI 0, vR x] wd2 Q
        refine WP.cl (a := [vR x, vI 0]) (rest := []) rfl rfl rfl rfl trivial (by decide) (u_clean hh2 (Int.le_refl _) (Nat.le_of_ble_eq_true rfl) hB (fun wd124 hh124 zhh124 => ⟨rfl, ?_⟩) (fun wd125 hh125 zhh125 => ⟨rfl, ?_⟩))
        · show WP 8 120 212 [vR x, vI a9, vI b9, vI (f 0), vI (f 1), vI 0, vI 0] [vI (if f (7 + 9 * 0 + 6) = -1 then 0 else 1)] wd124 Q
          exact WP.ret rfl rfl rfl trivial (kg _ _ _ (ls_B (ls_le hh124 (by omega)) (by omega) hB) (by split <;> omega))
        · show WP 8 120 212 [vR x, vI a9, vI b9, vI (f 0), vI (f 1), vI 0, vI 0] [vI (-5000003)] wd125 Q
          exact WP.ret rfl rfl rfl trivial (kr _ _ (ls_B (ls_le hh125 (by omega)) (by omega) hB) (by omega))
      · refine sw_in (t := 213) 7 c100 rfl ?_
        refine WP.blk 1 ?_
        show WP 8 120 214 [vR x, vI a9, vI b9, vI (f 0), vI (f 1), vI 0, vI 0] [vR x] wd2 Q
        refine WP.cl (a := [vR x]) (rest := []) rfl rfl rfl rfl ⟨ls_ty hh2, trivial⟩ (by decide) (u_writeAll hh2 (Int.le_refl _) (Nat.le_of_ble_eq_true rfl) hB (fun wd126 hh126 => ⟨rfl, ?_⟩))
        show WP 8 120 217 [vR x, vI a9, vI b9, vI (f 0), vI (f 1), vI 0, vI 0] [vI (num (fun w => Can (wall f w) w) (f 1))] wd126 Q
        have hwn := num_r (P := fun w => Can (wall f w) w) hW1.1
        exact WP.ret rfl rfl rfl trivial (kg _ _ _ (ls_B (ls_le hh126 (by omega)) (by omega) hB) (by omega))
      · refine sw_out c100 ?_
        refine WP.blk 2 ?_
        show WP 8 120 221 [vR x, vI a9, vI b9, vI (f 0), vI (f 1), vI 0, vI 0] [vI 0, vR x] wd2 Q
        refine WP.cl (a := [vR x, vI 0]) (rest := []) rfl rfl rfl rfl trivial (by decide) (u_write hh2 (Int.le_refl _) (Nat.le_of_ble_eq_true rfl) hB (fun wd127 cz nz hh127 hj hz => ⟨rfl, ?_⟩) (fun wd128 hh128 _ => ⟨rfl, ?_⟩) (fun wd129 hh129 _ _ => ⟨rfl, ?_⟩))
        · show WP 8 120 224 [vR x, vI a9, vI b9, vI (f 0), vI (f 1), vI 0, vI 0] [vI nz] wd127 Q
          have hzp := (wrt_pl hA (hW.2 0 hj.1 hj.2).1 hz).1
          exact WP.ret rfl rfl rfl trivial (kg _ _ _ (ls_B (ls_le hh127 (by omega)) (by omega) hB) (by omega))
        · show WP 8 120 224 [vR x, vI a9, vI b9, vI (f 0), vI (f 1), vI 0, vI 0] [vI (-5000003)] wd128 Q
          exact WP.ret rfl rfl rfl trivial (kr _ _ (ls_B (ls_le hh128 (by omega)) (by omega) hB) (by omega))
        · show WP 8 120 224 [vR x, vI a9, vI b9, vI (f 0), vI (f 1), vI 0, vI 0] [vI (-5000002)] wd129 Q
          exact WP.ret rfl rfl rfl trivial (kr _ _ (ls_B (ls_le hh129 (by omega)) (by omega) hB) (by omega))
