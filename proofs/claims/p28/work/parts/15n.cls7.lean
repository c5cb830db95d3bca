set_option maxHeartbeats 4000000 in
theorem k_push1 {S : SD} {M : Nat → Int → Int} {h k1 : Nat} {f : Int → Int} {c : Int} (hS : isHist S h) (hS2 : isSheet S k1) (hd : k1 + 12 ≤ h ∨ h + 50 ≤ k1) (hcst : CstR M (h + 2) ∧ CstR M (h + 14) ∧ CstR M (h + 26) ∧ CstR M (h + 38)) (hst : StR M (k1 + 1) f) (hwd : WdR M (k1 + 4) f) (hco : ColR M (k1 + 7) f) (hli : LimR M k1 f) (hik : InkR M (k1 + 8) f) (h0 : f 0 ≤ 10) (h7 : f 1 ≤ 7) (hc : 0 ≤ c ∧ c ≤ 3) (hc1 : M h 1 = c) {Q : Res → Wd → Prop} (k : ∀ (M2 : Nat → Int → Int), (∀ q9, q9 ≠ h → (q9 < sR S (h + 1) c ∨ sR S (h + 1) c + 12 ≤ q9) → M2 q9 = M q9) → Sht M2 (sR S (h + 1) c) f → M2 h 1 = c + 1 → Q (0, none) (M2, S)) : WP 3 13 12 [vR h, vR k1] [] (M, S) Q := by
  obtain ⟨K, hK⟩ : ∃ K, sR S (h + 1) c = K := ⟨_, rfl⟩
  have hk9 := hist_k hS (i := c) (by omega) (by omega)
  rw [hK] at hk9
  obtain ⟨hSK, hKc⟩ := hk9
  obtain ⟨o, ho⟩ : ∃ y9, M h = y9 := ⟨_, rfl⟩
  rw [ho] at hc1
  rw [hK] at k
  have hC := his_cst hcst hKc
  refine WP.blk 3 ?_
  show sT S h = 3 ∧ WP 3 13 (if cnd .lt (M h 1) 0 = true then 62 else 19) [vR h, vR k1] [] (M, S) Q
  rw [ho]
  refine ⟨hS.1.1, ?_⟩
  refine br_lt (fun c_1 => ?_) (fun c_1 => ?_)
  · exact WP.ret rfl rfl rfl trivial (by exfalso; omega)
  · refine WP.blk 4 ?_
    show sT S h = 3 ∧ WP 3 13 (if cnd .ge (M h 1) 4 = true then 62 else 27) [vR h, vR k1] [] (M, S) Q
    rw [ho]
    refine ⟨hS.1.1, ?_⟩
    refine br_ge (fun c_2 => ?_) (fun c_2 => ?_)
    · exact WP.ret rfl rfl rfl trivial (by exfalso; omega)
    · refine WP.blk 2 ?_
      show (sT S h = 3 ∧ sR S h 0 ≠ 0) ∧ WP 3 13 31 [vR h, vR k1] [vR (sR S h 0)] (M, S) Q
      refine ⟨⟨hS.1.1, by rw [(show sR S h 0 = h + 1 from hS.1.2.1)]; omega⟩, ?_⟩
      rw [(show sR S h 0 = h + 1 from hS.1.2.1)]
      refine WP.blk 3 ?_
      show sT S h = 3 ∧ (ref3 (sT S (h + 1)) ∧ 0 ≤ (M h 1) ∧ (M h 1) < (sN S (h + 1) : Int) ∧ sR S (h + 1) (M h 1) ≠ 0) ∧ WP 3 13 36 [vR h, vR k1] [vR (sR S (h + 1) (M h 1))] (M, S) Q
      rw [ho]
      refine ⟨hS.1.1, ⟨(Or.inl hS.1.2.2.1), by omega, by rw [(show sN S (h + 1) = 4 from hS.1.2.2.2)]; omega, by rw [(show sR S (h + 1) (o 1) = K from by rw [hc1]; exact hK)]; omega⟩, ?_⟩
      rw [(show sR S (h + 1) (o 1) = K from by rw [hc1]; exact hK)]
      refine WP.blk 3 ?_
      show (sT S h = 3 ∧ sR S h 0 ≠ 0) ∧ WP 3 13 43 [vR h, vR k1] [vR (sR S h 0)] (M, S) Q
      refine ⟨⟨hS.1.1, by rw [(show sR S h 0 = h + 1 from hS.1.2.1)]; omega⟩, ?_⟩
      rw [(show sR S h 0 = h + 1 from hS.1.2.1)]
      refine WP.blk 3 ?_
      show sT S h = 3 ∧ (ref3 (sT S (h + 1)) ∧ 0 ≤ (M h 1) ∧ (M h 1) < (sN S (h + 1) : Int) ∧ sR S (h + 1) (M h 1) ≠ 0) ∧ WP 3 13 48 [vR h, vR k1] [vR (sR S (h + 1) (M h 1))] (M, S) Q
      rw [ho]
      refine ⟨hS.1.1, ⟨(Or.inl hS.1.2.2.1), by omega, by rw [(show sN S (h + 1) = 4 from hS.1.2.2.2)]; omega, by rw [(show sR S (h + 1) (o 1) = K from by rw [hc1]; exact hK)]; omega⟩, ?_⟩
      rw [(show sR S (h + 1) (o 1) = K from by rw [hc1]; exact hK)]
      refine WP.blk 1 ?_
      show WP 3 13 49 [vR h, vR k1] [vR k1, vR K] (M, S) Q
      refine WP.cl (a := [vR K, vR k1]) (rest := []) rfl rfl rfl rfl ⟨hSK.1, trivial⟩ (by decide) (k_copyFrom hSK hS2 (by omega) hC.1 hC.2.1 hC.2.2.1 hC.2.2.2 hst hwd hco hli hik h0 h7 (fun My_3 fry_3 hky_3 => ⟨rfl, ?_⟩))
      show WP 3 13 52 [vR h, vR k1] [] (My_3, S) Q
      have r_4 : My_3 h = o := (fry_3 _ (by omega)).trans ho
      have F_5 : StR My_3 (k1 + 1) f := StR_fr (fun r9 h8 h9 => fry_3 r9 (by omega)) hst
      have F_6 : WdR My_3 (k1 + 4) f := WdR_fr (fun r9 h8 h9 => fry_3 r9 (by omega)) hwd
      have F_7 : ColR My_3 (k1 + 7) f := ColR_fr (fun r9 h8 h9 => fry_3 r9 (by omega)) hco
      have F_8 : LimR My_3 k1 f := LimR_fr (fun r9 h8 h9 => fry_3 r9 (by omega)) hli
      have F_9 : InkR My_3 (k1 + 8) f := InkR_fr (fun r9 h8 h9 => fry_3 r9 (by omega)) hik
      have fr_10 : (∀ q9, q9 ≠ h → (q9 < K ∨ K + 12 ≤ q9) → My_3 q9 = M q9) := fun q9 q0 q1 => (fry_3 q9 (by omega)).trans ((fun _ _ _ => rfl) q9 q0 q1)
      have hFy_3 := hky_3
      refine WP.blk 6 ?_
      show sT S h = 3 ∧ ir ((My_3 h 1) + 1) ∧ sT S h = 3 ∧ WP 3 13 62 [vR h, vR k1] [] (up My_3 h 1 ((My_3 h 1) + 1), S) Q
      rw [r_4]
      refine ⟨hS.1.1, (by unfold ir; omega), hS.1.1, ?_⟩
      generalize hM_11 : up My_3 h 1 ((o 1) + 1) = M_11
      obtain ⟨g_13, hg_13⟩ : ∃ y9, y9 = uf o 1 ((o 1) + 1) := ⟨_, rfl⟩
      have r_12 : M_11 h = g_13 := by rw [← hM_11, hg_13, up_self, r_4]
      have t_14 : g_13 1 = (o 1) + 1 := by rw [hg_13]; exact uf_at _ _ (by omega)
      have F_15 : StR M_11 (k1 + 1) f := StR_fr (fun r9 h8 h9 => by rw [← hM_11]; exact up_row (by omega)) F_5
      have F_16 : WdR M_11 (k1 + 4) f := WdR_fr (fun r9 h8 h9 => by rw [← hM_11]; exact up_row (by omega)) F_6
      have F_17 : ColR M_11 (k1 + 7) f := ColR_fr (fun r9 h8 h9 => by rw [← hM_11]; exact up_row (by omega)) F_7
      have F_18 : LimR M_11 k1 f := LimR_fr (fun r9 h8 h9 => by rw [← hM_11]; exact up_row (by omega)) F_8
      have F_19 : InkR M_11 (k1 + 8) f := InkR_fr (fun r9 h8 h9 => by rw [← hM_11]; exact up_row (by omega)) F_9
      have fr_20 : (∀ q9, q9 ≠ h → (q9 < K ∨ K + 12 ≤ q9) → M_11 q9 = M q9) := fun q9 q0 q1 => by rw [← hM_11]; exact (up_row (by omega)).trans (fr_10 q9 q0 q1)
      exact WP.ret rfl rfl rfl trivial (k _ fr_20 (Sht_fr (fun r9 h8 h9 => by rw [← hM_11]; exact up_row (by omega)) hky_3) (by rw [r_12]; omega))
set_option maxHeartbeats 4000000 in
theorem k_push {S : SD} {M : Nat → Int → Int} {h k1 : Nat} {f p : Int → Int} {sv : Int} (hS : isHist S h) (hS2 : isSheet S k1) (hd : k1 + 12 ≤ h ∨ h + 50 ≤ k1) (hF : HisF M S h p sv) (hs : Sht M k1 f) (h0 : f 0 ≤ 10) (h7 : f 1 ≤ 7) {Q : Res → Wd → Prop} (k : ∀ (M2 : Nat → Int → Int) (R2 : Nat → Int → Nat), (∀ q9, (q9 < h ∨ h + 50 ≤ q9) → M2 q9 = M q9) → (∀ r i, r ≠ h + 1 → R2 r i = sR S r i) → isHist (R2, S.2) h → HisN M2 (R2, S.2) h p sv f → Q (0, none) (M2, (R2, S.2))) : EvQ 4 13 [vR h, vR k1] (M, S) Q := by
  obtain ⟨⟨e1, e2, e3⟩, hcst, hold⟩ := hF
  refine EvQ.enter (ls := [vR h, vR k1]) (Nat.le_of_ble_eq_true rfl) rfl ?_
  refine WP.blk 4 ?_
  show sT S h = 3 ∧ WP 3 13 (if cnd .lt (M h 1) 4 = true then 12 else 8) [vR h, vR k1] [] (M, S) Q
  refine ⟨hS.1.1, ?_⟩
  refine br_lt (fun c_1 => ?_) (fun c_1 => ?_)
  · refine k_push1 hS hS2 hd hcst hs.1.1 hs.1.2.1 hs.1.2.2.1 hs.1.2.2.2 hs.2 h0 h7 (c := sv) (by omega) e1 (fun M2 hfr hn hcnt => ?_)
    have hk := (hist_k hS e2 (show sv < 4 by omega)).2
    refine k M2 S.1 (fun q hq => hfr q (by omega) (by omega)) (fun _ _ _ => rfl) hS (his_push hS (by omega) hcst (fun q a b => hfr q b a) hn h0 h7 hcnt hold (fun p' sv' hsv => ?_))
    rcases hsv with ⟨q1, -⟩ | ⟨q1, q2, q3⟩
    · omega
    · refine ⟨q2, fun i a b => ?_, fun j a b i c d => ?_⟩
      · have := q3 sv i (by omega) (by omega) a b
        rw [if_pos rfl] at this
        exact this
      · have := q3 j i a (by omega) c d
        rw [if_neg (by omega)] at this
        exact this
  · have h4 : sv = 4 := by omega
    refine WP.blk 1 ?_
    show WP 3 13 9 [vR h, vR k1] [vR h] (M, S) Q
    refine WP.cl (a := [vR h]) (rest := []) rfl rfl rfl rfl ⟨hS.1.1, trivial⟩ (by decide) (k_forget hS (fun M1 R2 hfr1 hm1 hR2 r0 r1 r2 r3 => ⟨rfl, ?_⟩))
    show WP 3 13 12 [vR h, vR k1] [] (M1, (R2, S.2)) Q
    have hS9 := hist_rot hS hR2 r0 r1 r2 r3
    have hs1 : Sht M1 k1 f := Sht_fr (fun q a b => hfr1 q (by omega)) hs
    have hc1 : CstR M1 (h + 2) ∧ CstR M1 (h + 14) ∧ CstR M1 (h + 26) ∧ CstR M1 (h + 38) := ⟨CstR_fr (fun q a b => hfr1 q (by omega)) hcst.1, CstR_fr (fun q a b => hfr1 q (by omega)) hcst.2.1, CstR_fr (fun q a b => hfr1 q (by omega)) hcst.2.2.1, CstR_fr (fun q a b => hfr1 q (by omega)) hcst.2.2.2⟩
    refine k_push1 hS9 (sheet_s (fun r i a b => hR2 r i (by omega)) hS2) hd hc1 hs1.1.1 hs1.1.2.1 hs1.1.2.2.1 hs1.1.2.2.2 hs1.2 h0 h7 (c := 3) (by omega) (by rw [hm1, uf_eq]) (fun M2 hfr hn hcnt => ?_)
    have hk := (hist_k hS9 (i := 3) (by omega) (by omega)).2
    have hk3 := (hist_k hS (i := 0) (by omega) (by omega)).2
    refine k M2 R2 (fun q hq => (hfr q (by omega) (by omega)).trans (hfr1 q (by omega))) hR2 hS9 (his_push (p0 := fun z => p (z + 195)) hS9 (by omega) hc1 (fun q a b => hfr q b a) hn h0 h7 hcnt (fun j a b => ?_) (fun p' sv' hsv => ?_))
    · have hj := hold (j + 1) (by omega) (by omega)
      have ej : sR (R2, S.2) (h + 1) j = sR S (h + 1) (j + 1) := by
        rcases (show j = 0 ∨ j = 1 ∨ j = 2 by omega) with e | e | e
        · subst e; exact r0
        · subst e; exact r1
        · subst e; exact r2
      have ep : prw (fun z => p (z + 195)) j = prw p (j + 1) := by
        funext z
        show p (195 * j + z + 195) = p (195 * (j + 1) + z)
        congr 1; omega
      have hj2 := (hist_k hS (i := j + 1) (by omega) (by omega)).2
      rw [ej, ep]
      exact ⟨Sht_fr (fun q a b => hfr1 q (by omega)) hj.1, hj.2⟩
    · rcases hsv with ⟨q1, q2, q3⟩ | ⟨q1, -⟩
      · refine ⟨q2, fun i a b => ?_, fun j a b i c d => ?_⟩
        · have := q3 3 i (by omega) (by omega) a b
          rw [if_pos rfl] at this
          exact this
        · have := q3 j i a (by omega) c d
          rw [if_neg (by omega)] at this
          show p' (195 * j + i) = p (195 * j + i + 195)
          rw [this]
          congr 1; omega
      · omega
set_option maxHeartbeats 4000000 in
theorem k_pop0 {S : SD} {M : Nat → Int → Int} {h k1 : Nat} {p : Int → Int} {sv : Int} (hS : isHist S h) (hS2 : isSheet S k1) (hd : k1 + 12 ≤ h ∨ h + 50 ≤ k1) (hF : HisF M S h p sv) (hCk : CstR M k1) (hsv : 1 ≤ sv) {Q : Res → Wd → Prop} (k : ∀ (M2 : Nat → Int → Int), (∀ q9, q9 ≠ h → (q9 < k1 ∨ k1 + 12 ≤ q9) → M2 q9 = M q9) → Sht M2 k1 (prw p (sv - 1)) → M2 h 1 = sv - 1 → Q (0, none) (M2, S)) : EvQ 4 15 [vR h, vR k1] (M, S) Q := by
  refine EvQ.enter (ls := [vR h, vR k1]) (Nat.le_of_ble_eq_true rfl) rfl ?_
  obtain ⟨⟨e1, e2, e3⟩, hcst, hold⟩ := hF
  obtain ⟨K, hK⟩ : ∃ K, sR S (h + 1) (sv - 1) = K := ⟨_, rfl⟩
  have hk9 := hist_k hS (i := sv - 1) (by omega) (by omega)
  have hol := hold (sv - 1) (by omega) (by omega)
  rw [hK] at hk9 hol
  obtain ⟨hSK, hKc⟩ := hk9
  obtain ⟨hol1, hol2, hol3⟩ := hol
  obtain ⟨o, ho⟩ : ∃ y9, M h = y9 := ⟨_, rfl⟩
  rw [ho] at e1
  refine WP.blk 3 ?_
  show sT S h = 3 ∧ WP 3 15 (if cnd .le (M h 1) 0 = true then 52 else 7) [vR h, vR k1] [] (M, S) Q
  rw [ho]
  refine ⟨hS.1.1, ?_⟩
  refine br_le (fun c_1 => ?_) (fun c_1 => ?_)
  · exact WP.ret rfl rfl rfl trivial (by exfalso; omega)
  · refine WP.blk 4 ?_
    show sT S h = 3 ∧ WP 3 15 (if cnd .gt (M h 1) 4 = true then 52 else 15) [vR h, vR k1] [] (M, S) Q
    rw [ho]
    refine ⟨hS.1.1, ?_⟩
    refine br_gt (fun c_2 => ?_) (fun c_2 => ?_)
    · exact WP.ret rfl rfl rfl trivial (by exfalso; omega)
    · refine WP.blk 2 ?_
      show (sT S h = 3 ∧ sR S h 0 ≠ 0) ∧ WP 3 15 19 [vR h, vR k1] [vR (sR S h 0)] (M, S) Q
      refine ⟨⟨hS.1.1, by rw [(show sR S h 0 = h + 1 from hS.1.2.1)]; omega⟩, ?_⟩
      rw [(show sR S h 0 = h + 1 from hS.1.2.1)]
      refine WP.blk 5 ?_
      show sT S h = 3 ∧ ir ((M h 1) - 1) ∧ (ref3 (sT S (h + 1)) ∧ 0 ≤ ((M h 1) - 1) ∧ ((M h 1) - 1) < (sN S (h + 1) : Int) ∧ sR S (h + 1) ((M h 1) - 1) ≠ 0) ∧ WP 3 15 26 [vR h, vR k1] [vR (sR S (h + 1) ((M h 1) - 1))] (M, S) Q
      rw [ho]
      refine ⟨hS.1.1, (by unfold ir; omega), ⟨(Or.inl hS.1.2.2.1), by omega, by rw [(show sN S (h + 1) = 4 from hS.1.2.2.2)]; omega, by rw [(show sR S (h + 1) ((o 1) - 1) = K from by rw [show (o 1) - 1 = sv - 1 by omega]; exact hK)]; omega⟩, ?_⟩
      rw [(show sR S (h + 1) ((o 1) - 1) = K from by rw [show (o 1) - 1 = sv - 1 by omega]; exact hK)]
      refine WP.blk 7 ?_
      show sT S h = 3 ∧ ir ((M h 1) - 1) ∧ sT S h = 3 ∧ WP 3 15 39 [vR h, vR k1] [] (up M h 1 ((M h 1) - 1), S) Q
      rw [ho]
      refine ⟨hS.1.1, (by unfold ir; omega), hS.1.1, ?_⟩
      generalize hM_3 : up M h 1 ((o 1) - 1) = M_3
      obtain ⟨g_5, hg_5⟩ : ∃ y9, y9 = uf o 1 ((o 1) - 1) := ⟨_, rfl⟩
      have r_4 : M_3 h = g_5 := by rw [← hM_3, hg_5, up_self, ho]
      have t_6 : g_5 1 = (o 1) - 1 := by rw [hg_5]; exact uf_at _ _ (by omega)
      have fr_7 : (∀ q9, q9 ≠ h → (q9 < k1 ∨ k1 + 12 ≤ q9) → M_3 q9 = M q9) := fun q9 q0 q1 => by rw [← hM_3]; exact (up_row (by omega)).trans ((fun _ _ _ => rfl) q9 q0 q1)
      have hol9 := Sht_fr (fun r9 h8 h9 => show M_3 r9 = M r9 from by rw [← hM_3]; exact up_row (by omega)) hol1
      have hC := CstR_fr (fun r9 h8 h9 => show M_3 r9 = M r9 from by rw [← hM_3]; exact up_row (by omega)) hCk
      refine WP.blk 3 ?_
      show (sT S h = 3 ∧ sR S h 0 ≠ 0) ∧ WP 3 15 44 [vR h, vR k1] [vR (sR S h 0), vR k1] (M_3, S) Q
      refine ⟨⟨hS.1.1, by rw [(show sR S h 0 = h + 1 from hS.1.2.1)]; omega⟩, ?_⟩
      rw [(show sR S h 0 = h + 1 from hS.1.2.1)]
      refine WP.blk 3 ?_
      show sT S h = 3 ∧ (ref3 (sT S (h + 1)) ∧ 0 ≤ (M_3 h 1) ∧ (M_3 h 1) < (sN S (h + 1) : Int) ∧ sR S (h + 1) (M_3 h 1) ≠ 0) ∧ WP 3 15 49 [vR h, vR k1] [vR (sR S (h + 1) (M_3 h 1)), vR k1] (M_3, S) Q
      rw [r_4]
      refine ⟨hS.1.1, ⟨(Or.inl hS.1.2.2.1), by omega, by rw [(show sN S (h + 1) = 4 from hS.1.2.2.2)]; omega, by rw [(show sR S (h + 1) (g_5 1) = K from by rw [show g_5 1 = sv - 1 by omega]; exact hK)]; omega⟩, ?_⟩
      rw [(show sR S (h + 1) (g_5 1) = K from by rw [show g_5 1 = sv - 1 by omega]; exact hK)]
      refine WP.cl (a := [vR k1, vR K]) (rest := []) rfl rfl rfl rfl ⟨hS2.1, trivial⟩ (by decide) (k_copyFrom hS2 hSK (by omega) hC.1 hC.2.1 hC.2.2.1 hC.2.2.2 hol9.1.1 hol9.1.2.1 hol9.1.2.2.1 hol9.1.2.2.2 hol9.2 hol2 hol3 (fun My_8 fry_8 hky_8 => ⟨rfl, ?_⟩))
      show WP 3 15 52 [vR h, vR k1] [] (My_8, S) Q
      have r_9 : My_8 h = g_5 := (fry_8 _ (by omega)).trans r_4
      have fr_10 : (∀ q9, q9 ≠ h → (q9 < k1 ∨ k1 + 12 ≤ q9) → My_8 q9 = M q9) := fun q9 q0 q1 => (fry_8 q9 (by omega)).trans (fr_7 q9 q0 q1)
      exact WP.ret rfl rfl rfl trivial (k _ fr_10 hky_8 (by rw [r_9]; omega))
theorem k_pop {S : SD} {M : Nat → Int → Int} {h k1 : Nat} {p : Int → Int} {sv : Int} (hS : isHist S h) (hS2 : isSheet S k1) (hd : k1 + 12 ≤ h ∨ h + 50 ≤ k1) (hF : HisF M S h p sv) (hCk : CstR M k1) (hsv : 1 ≤ sv) {Q : Res → Wd → Prop} (k : ∀ (M2 : Nat → Int → Int), (∀ q9, q9 ≠ h → (q9 < k1 ∨ k1 + 12 ≤ q9) → M2 q9 = M q9) → Sht M2 k1 (prw p (sv - 1)) → HisF M2 S h p (sv - 1) → Q (0, none) (M2, S)) : EvQ 4 15 [vR h, vR k1] (M, S) Q := by
  refine k_pop0 hS hS2 hd hF hCk hsv (fun M2 hfr hsh hcnt => k M2 hfr hsh ?_)
  obtain ⟨⟨e1, e2, e3⟩, ⟨c1, c2, c3, c4⟩, hold⟩ := hF
  have fr2 : ∀ q, h + 2 ≤ q → q < h + 50 → M2 q = M q := fun q a b => hfr q (by omega) (by omega)
  refine ⟨⟨hcnt, by omega, by omega⟩, ⟨CstR_fr (fun q a b => fr2 q (by omega) (by omega)) c1, CstR_fr (fun q a b => fr2 q (by omega) (by omega)) c2, CstR_fr (fun q a b => fr2 q (by omega) (by omega)) c3, CstR_fr (fun q a b => fr2 q (by omega) (by omega)) c4⟩, fun j a b => ?_⟩
  have hj := (hist_k hS a (by omega)).2
  obtain ⟨g1, g2⟩ := hold j a (by omega)
  exact ⟨Sht_fr (fun q a b => fr2 q (by omega) (by omega)) g1, g2⟩
