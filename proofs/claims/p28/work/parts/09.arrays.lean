/-! arrays, new cells, the library's members -/
theorem cel_11 {G : GT} {w : Wd} {ad : Nat → Nat} {r : Nat} (ht : ty w r = 11) : cel G w ad r = .inl (gI G, ln w r, .inl (fun j => Int32.ofInt (gi w r (j : Int)))) := by unfold cel; rw [if_pos ht]
theorem cel_12 {G : GT} {w : Wd} {ad : Nat → Nat} {r : Nat} (ht : ty w r = 12) : cel G w ad r = .inl (gJ G, ln w r, .inr (.inl (fun j => Int64.ofInt (gi w r (j : Int))))) := by unfold cel; rw [if_neg (by omega), if_pos ht]
theorem cel_13 {G : GT} {w : Wd} {ad : Nat → Nat} {r : Nat} (ht : ref3 (ty w r)) : cel G w ad r = .inl (g3 G (ty w r), ln w r, .inr (.inr (.inr (.inr (fun j => if gr w r (j : Int) = 0 then none else some (ad (gr w r (j : Int)))))))) := by
  unfold ref3 at ht
  unfold cel; rw [if_neg (by omega), if_neg (by omega), if_pos (by omega)]
theorem ref3_le {t : Nat} (h : ref3 t) : 1 ≤ t ∧ t ≤ 15 ∧ t ≠ 12 ∧ t ≠ 10 ∧ t ≠ 11 := by unfold ref3 at h; omega
/-- an index in its row: as the machine counts it -/
theorem ix_ok {w : Wd} {k : Int} {n : Nat} (hk : okv w (vI k)) (h0 : 0 ≤ k) (hn : k < (n : Int)) : vp_in (Int32.ofInt k) n ∧ ((Int32.ofInt k).toNatClampNeg : Int) = k := ⟨oi_in hk h0 hn, by rw [oi_cl hk, Int.toNat_of_nonneg h0]⟩
theorem tys_el {G : GT} {t : Nat} (h : ref3 t) : (tys G)[t - 11]? = some (g3 G t, .object (RC (el3 t - 1))) ∧ el3 t - 1 < 9 ∧ 1 ≤ el3 t ∧ el3 t ≤ 9 := by
  rcases h with rfl | rfl | rfl
  · exact ⟨rfl, by decide, by decide, by decide⟩
  · exact ⟨rfl, by decide, by decide, by decide⟩
  · exact ⟨rfl, by decide, by decide, by decide⟩
set_option maxHeartbeats 4000000 in
theorem st_arraylength  : StY (.arraylength) := by
  intro p l e R s m args below meth c H locs u0 s0 Q y G w w' ad pc pc' L ls ls' st st' ob hC hL hw hh hS hst hls htb hn hob hr k
  obtain ⟨hx, hb, hml, hown, hts, hlk, hF, hR, hl0, hnm, hy⟩ := hC
  obtain ⟨n9, hd, hlen, hmem, -⟩ := tbd hy htb
  have hd : decode (MB y) pc = .ok (_, n9) := hd
  have hlen := hlen rfl
  rw [hlen] at hd
  simp only [ins] at hn
  split at hn
  · rename_i r st9
    simp only [n1, Option.some.injEq, Prod.mk.injEq] at hn
    obtain ⟨rfl, rfl, rfl, rfl, rfl⟩ := hn
    have hl9 : ir (ln w r : Int) := by have := hw.2.2.2.2.2.2.2.2 r; unfold ir; omega
    have k9 := k L H locs ad hL hw hh hS (fun _ _ => rfl) (oks_cons (show okv w (vI (ln w r : Int)) from hl9) (oks_tl hst)) hls (Nat.le_refl _) (Nat.le_refl _) (Nat.le_refl _)
    rcases hob.1 with ht | ht | ht
    · obtain ⟨h3, hnr⟩ := wf_obj hw ht (by omega) (by omega)
      exact va_alen hx hb hF.1 hh.1 (r - 3) 0 (by rw [wl_at h3 hnr, cel_11 ht]) (show (tys G)[0]? = some (gI G, .int) from rfl) (show Int32.ofNat (ln w r) = Int32.ofInt (ln w r : Int) from rfl) hd k9
    · have hr1 : r = 1 := by rcases hw.2.2.1 r (by omega) with q | q | q <;> omega
      subst hr1
      have e1 : cv ad (vR 1) = .ref (gS G) := by show Value.ref (ad 1) = _; rw [hw.2.2.2.2.1]
      rw [List.map_cons, e1]
      refine va_slen hx hb hF.2.2.2.2.1 (Nat.lt_of_lt_of_le hF.2.2.2.2.2.1.1 hF.2.2.2.2.2.1.2.2.1) (Nat.not_le.mpr hF.2.2.2.2.2.1.1) hS hd ?_
      rw [← hw.2.2.2.2.2.2.1.2.1]
      exact k9
    · have hr1 : r = 2 := by rcases hw.2.2.1 r (by omega) with q | q | q <;> omega
      subst hr1
      have e1 : cv ad (vR 2) = .ref (gT G) := by show Value.ref (ad 2) = _; rw [hw.2.2.2.2.2.1]
      rw [List.map_cons, e1]
      refine va_tlen hx hb hF.2.2.2.1 hS (v := Int32.ofInt (ln w 2 : Int)) (by rw [hw.2.2.2.2.2.2.2.1.2.1]; rfl) hd ?_
      exact k9
  · cases hn
set_option maxHeartbeats 4000000 in
theorem st_iaload  : StY (.iaload) := by
  intro p l e R s m args below meth c H locs u0 s0 Q y G w w' ad pc pc' L ls ls' st st' ob hC hL hw hh hS hst hls htb hn hob hr k
  obtain ⟨hx, hb, hml, hown, hts, hlk, hF, hR, hl0, hnm, hy⟩ := hC
  obtain ⟨n9, hd, hlen, hmem, -⟩ := tbd hy htb
  have hd : decode (MB y) pc = .ok (_, n9) := hd
  have hlen := hlen rfl
  rw [hlen] at hd
  simp only [ins] at hn
  split at hn
  · rename_i x r st9
    simp only [n1, Option.some.injEq, Prod.mk.injEq] at hn
    obtain ⟨rfl, rfl, rfl, rfl, rfl⟩ := hn
    have hk9 := oks_hd hst
    obtain ⟨hin, hix⟩ := ix_ok (w := w) (n := ln w r) hk9 hob.1.2.1 hob.1.2.2
    have k9 : ir (gi w r x) → _ := fun h9 => k L H locs ad hL hw hh hS (fun _ _ => rfl) (oks_cons (show okv w (vI (gi w r x)) from h9) (oks_tl (oks_tl hst))) hls (Nat.le_refl _) (Nat.le_refl _) (Nat.le_refl _)
    have k9 := k9 (hw.2.2.2.1 r x (fun h => by rcases h with h | h <;> rcases hob.1.1 with ht | ht | ht <;> omega))
    rcases hob.1.1 with ht | ht | ht
    · obtain ⟨h3, hnr⟩ := wf_obj hw ht (by omega) (by omega)
      refine va_iald hx hb hF.1 hh.1 (r - 3) 0 (by rw [wl_at h3 hnr, cel_11 ht]) (show (tys G)[0]? = some (gI G, .int) from rfl) hin hd ?_
      rw [hix]
      exact k9
    · have hr1 : r = 1 := by rcases hw.2.2.1 r (by omega) with q | q | q <;> omega
      subst hr1
      have e1 : cv ad (vR 1) = .ref (gS G) := by show Value.ref (ad 1) = _; rw [hw.2.2.2.2.1]
      obtain ⟨a1, a2, a3⟩ := hw.2.2.2.2.2.2.1
      rw [List.map_cons, List.map_cons, e1]
      rw [a2] at hin
      refine va_sld hx hb hF.2.2.2.2.1 (Nat.lt_of_lt_of_le hF.2.2.2.2.2.1.1 hF.2.2.2.2.2.1.2.2.1) (Nat.not_le.mpr hF.2.2.2.2.2.1.1) hS hin hd ?_
      have h7 : gX G (Int32.ofInt x).toNatClampNeg = Int32.ofInt (gi w 1 x) := by
        have h8 := a3 (Int32.ofInt x).toNatClampNeg (by have := hob.1.2.2; rw [a2] at this; omega)
        rw [hix] at h8
        rw [h8, oi_of]
      rw [h7]
      exact k9
    · have hr1 : r = 2 := by rcases hw.2.2.1 r (by omega) with q | q | q <;> omega
      subst hr1
      have e1 : cv ad (vR 2) = .ref (gT G) := by show Value.ref (ad 2) = _; rw [hw.2.2.2.2.2.1]
      obtain ⟨a1, a2, a3⟩ := hw.2.2.2.2.2.2.2.1
      rw [List.map_cons, List.map_cons, e1]
      rw [a2] at hin
      refine va_ti hx hb hF.2.2.2.1 hS hin (v := .int (Int32.ofInt (gi w 2 x))) ?_ hd ?_
      · have h8 := a3 (Int32.ofInt x).toNatClampNeg (by have := hob.1.2.2; rw [a2] at this; omega)
        rw [hix] at h8
        rw [h8, oi_of]
      · exact k9
  · cases hn
set_option maxHeartbeats 4000000 in
theorem st_iastore  : StY (.iastore) := by
  intro p l e R s m args below meth c H locs u0 s0 Q y G w w' ad pc pc' L ls ls' st st' ob hC hL hw hh hS hst hls htb hn hob hr k
  obtain ⟨hx, hb, hml, hown, hts, hlk, hF, hR, hl0, hnm, hy⟩ := hC
  obtain ⟨n9, hd, hlen, hmem, -⟩ := tbd hy htb
  have hd : decode (MB y) pc = .ok (_, n9) := hd
  have hlen := hlen rfl
  rw [hlen] at hd
  simp only [ins] at hn
  split at hn
  · rename_i a x r st9
    simp only [n1, Option.some.injEq, Prod.mk.injEq] at hn
    obtain ⟨rfl, rfl, rfl, rfl, rfl⟩ := hn
    have hk9 := oks_hd (oks_tl hst)
    have ht := hob.1.1
    obtain ⟨h3, hnr⟩ := wf_obj hw ht (by omega) (by omega)
    obtain ⟨hin, hix⟩ := ix_ok (w := w) (n := ln w r) hk9 hob.1.2.1 hob.1.2.2
    have hwn : WF G (si w r x a) ad := wf_si hw h3 (fun _ => oks_hd hst)
    refine va_iast hx hb hF.1 hh.1 hh.2 hS (r - 3) 0 (by rw [wl_at h3 hnr, cel_11 ht]) (show (tys G)[0]? = some (gI G, .int) from rfl) hin hd (fun H1 locs1 a1 a2 a3 => ?_)
    have hset : (wl G w ad).set (r - 3) (ad r, .inl (gI G, ln w r, .inl (upd (fun j : Nat => Int32.ofInt (gi w r (j : Int))) (Int32.ofInt x).toNatClampNeg (Int32.ofInt a)))) = wl G (si w r x a) ad := by
      refine wl_set h3 hnr rfl ?_ (fun z hz => cel_si hz)
      rw [cel_11 (w := si w r x a) ht]
      show (.inl (gI G, ln w r, .inl (fun j : Nat => Int32.ofInt (gi (si w r x a) r (j : Int)))) : va_E) = _
      have hfun : (fun j : Nat => Int32.ofInt (gi (si w r x a) r (j : Int))) = upd (fun j : Nat => Int32.ofInt (gi w r (j : Int))) (Int32.ofInt x).toNatClampNeg (Int32.ofInt a) := by
        funext j
        show _ = (if j = (Int32.ofInt x).toNatClampNeg then _ else _)
        rw [gi_si]
        by_cases hj : j = (Int32.ofInt x).toNatClampNeg
        · rw [if_pos hj, if_pos ⟨rfl, by rw [hj]; exact hix⟩]
        · rw [if_neg hj, if_neg (fun e => hj (by omega))]
      rw [hfun]
      try rfl
    rw [hset] at a1 a2
    exact k L H1 locs1 ad hL hwn ⟨a1, a2⟩ a3 (fun _ _ => rfl) (oks_w (w := w) rfl (oks_tl (oks_tl (oks_tl hst)))) (oks_w (w := w) rfl hls) (Nat.le_refl _) (Nat.le_refl _) (Nat.le_refl _)
  · cases hn
set_option maxHeartbeats 4000000 in
theorem st_aaload  : StY (.aaload) := by
  intro p l e R s m args below meth c H locs u0 s0 Q y G w w' ad pc pc' L ls ls' st st' ob hC hL hw hh hS hst hls htb hn hob hr k
  obtain ⟨hx, hb, hml, hown, hts, hlk, hF, hR, hl0, hnm, hy⟩ := hC
  obtain ⟨n9, hd, hlen, hmem, -⟩ := tbd hy htb
  have hd : decode (MB y) pc = .ok (_, n9) := hd
  have hlen := hlen rfl
  rw [hlen] at hd
  simp only [ins] at hn
  split at hn
  · rename_i x r st9
    simp only [n1, Option.some.injEq, Prod.mk.injEq] at hn
    obtain ⟨rfl, rfl, rfl, rfl, rfl⟩ := hn
    have hk9 := oks_hd hst
    have ht := hob.1.1
    obtain ⟨hin, hix⟩ := ix_ok (w := w) (n := ln w r) hk9 hob.1.2.1 hob.1.2.2.1
    have h5 := ref3_le ht
    obtain ⟨h3, hnr⟩ := wf_obj hw rfl h5.1 h5.2.1
    refine va_aldq hx hb hF.1 hh.1 (r - 3) (ty w r - 11) (by rw [wl_at h3 hnr, cel_13 ht]) (tys_el ht).1 hin hd ?_
    rw [hix, if_neg hob.1.2.2.2]
    exact k L H locs ad hL hw hh hS (fun _ _ => rfl) (oks_cons (show okv w (vR (gr w r x)) from ⟨hob.1.2.2.2, hw.2.1 _ _⟩) (oks_tl (oks_tl hst))) hls (Nat.le_refl _) (Nat.le_refl _) (Nat.le_refl _)
  · cases hn
set_option maxHeartbeats 4000000 in
theorem st_aastore  : StY (.aastore) := by
  intro p l e R s m args below meth c H locs u0 s0 Q y G w w' ad pc pc' L ls ls' st st' ob hC hL hw hh hS hst hls htb hn hob hr k
  obtain ⟨hx, hb, hml, hown, hts, hlk, hF, hR, hl0, hnm, hy⟩ := hC
  obtain ⟨n9, hd, hlen, hmem, -⟩ := tbd hy htb
  have hd : decode (MB y) pc = .ok (_, n9) := hd
  have hlen := hlen rfl
  rw [hlen] at hd
  simp only [ins] at hn
  split at hn
  · rename_i a x r st9
    simp only [n1, Option.some.injEq, Prod.mk.injEq] at hn
    obtain ⟨rfl, rfl, rfl, rfl, rfl⟩ := hn
    have hk9 := oks_hd (oks_tl hst)
    have ha := oks_hd hst
    have ht := hob.1.1
    obtain ⟨hin, hix⟩ := ix_ok (w := w) (n := ln w r) hk9 hob.1.2.1 hob.1.2.2.1
    have h5 := ref3_le ht
    obtain ⟨h3, hnr⟩ := wf_obj hw rfl h5.1 h5.2.1
    obtain ⟨t1, t2, t3, t4⟩ := tys_el (G := G) ht
    have hta : ty w a = (el3 (ty w r) - 1) + 1 := by rw [hob.1.2.2.2]; omega
    obtain ⟨h3a, hna⟩ := wf_obj hw hta (by omega) (by omega)
    have hwn : WF G (sr w r x a) ad := wf_sr hw ha.2
    refine va_astq hx hb hF.1 hh.1 hh.2 hS (r - 3) (ty w r - 11) (a - 3) (el3 (ty w r) - 1) (r := (RC (el3 (ty w r) - 1), TC (el3 (ty w r) - 1), fcn (el3 (ty w r) - 1))) (by rw [wl_at h3 hnr, cel_13 ht]) t1 (by rw [wl_at h3a hna, cel_obj hta t2]) (cok _ t2).1 hin hd (fun H1 locs1 a1 a2 a3 => ?_)
    have hset : (wl G w ad).set (r - 3) (ad r, .inl (g3 G (ty w r), ln w r, .inr (.inr (.inr (.inr (va_up (fun j : Nat => if gr w r (j : Int) = 0 then none else some (ad (gr w r (j : Int)))) (Int32.ofInt x).toNatClampNeg (some (ad a)))))))) = wl G (sr w r x a) ad := by
      refine wl_set h3 hnr rfl ?_ (fun z hz => cel_sr hz)
      rw [cel_13 (w := sr w r x a) ht]
      have hfun : (fun j : Nat => if gr (sr w r x a) r (j : Int) = 0 then none else some (ad (gr (sr w r x a) r (j : Int)))) = va_up (fun j : Nat => if gr w r (j : Int) = 0 then none else some (ad (gr w r (j : Int)))) (Int32.ofInt x).toNatClampNeg (some (ad a)) := by
        funext j
        show _ = (if j = (Int32.ofInt x).toNatClampNeg then _ else _)
        rw [gr_sr]
        by_cases hj : j = (Int32.ofInt x).toNatClampNeg
        · rw [if_pos hj, if_pos (show r = r ∧ (j : Int) = x from ⟨rfl, by rw [hj]; exact hix⟩), if_neg ha.1]
        · rw [if_neg hj, if_neg (show ¬ (r = r ∧ (j : Int) = x) from fun e => hj (by omega))]
      rw [hfun]
      try rfl
    rw [hset] at a1 a2
    exact k L H1 locs1 ad hL hwn ⟨a1, a2⟩ a3 (fun _ _ => rfl) (oks_w (w := w) rfl (oks_tl (oks_tl (oks_tl hst)))) (oks_w (w := w) rfl hls) (Nat.le_refl _) (Nat.le_refl _) (Nat.le_refl _)
  · cases hn
/-- a new cell: the world behind it -/
theorem wf_mk {G : GT} {w : Wd} {ad : Nat → Nat} {t n q : Nat} (h : WF G w ad) (ht : 1 ≤ t ∧ t ≤ 15) (hn : n ≤ 100000) : WF G (mk w t n) (va_up ad (nx w) q) := by
  obtain ⟨a1, a2, a3, a4, a5, a6, a7, a8, a9⟩ := h
  have e1 : ∀ r k, gi (mk w t n) r k = if r = nx w then 0 else gi w r k := fun r k => rfl
  have e2 : ∀ r k, gr (mk w t n) r k = if r = nx w then 0 else gr w r k := fun r k => rfl
  have e3 : ∀ r, ty (mk w t n) r = if r = nx w then t else ty w r := fun r => rfl
  have e4 : ∀ r, ln (mk w t n) r = if r = nx w then n else ln w r := fun r => rfl
  have e5 : nx (mk w t n) = nx w + 1 := rfl
  refine ⟨by rw [e5]; omega, fun r k => ?_, fun r hr => ?_, fun r k hl => ?_, ?_, ?_, ⟨?_, ?_, fun j hj => ?_⟩, ⟨?_, ?_, fun j hj => ?_⟩, fun r => ?_⟩
  · rw [e2, e5]
    split
    · omega
    · have := a2 r k; omega
  · rw [e3] at hr ⊢
    rw [e5]
    by_cases hx : r = nx w
    · rw [if_pos hx] at hr ⊢
      left; omega
    · rw [if_neg hx] at hr ⊢
      rcases a3 r hr with q | q | q
      · left; omega
      · right; left; exact q
      · right; right; exact q
  · rw [e1]
    by_cases hx : r = nx w
    · rw [if_pos hx]; exact ir0
    · rw [if_neg hx]
      refine a4 r k (fun h => hl ?_)
      unfold lgs at h ⊢
      rw [e3, if_neg hx]
      exact h
  · show (if 1 = nx w then q else ad 1) = _
    rw [if_neg (by omega)]; exact a5
  · show (if 2 = nx w then q else ad 2) = _
    rw [if_neg (by omega)]; exact a6
  · rw [e3, if_neg (by omega)]; exact a7.1
  · rw [e4, if_neg (by omega)]; exact a7.2.1
  · rw [e1, if_neg (by omega)]; exact a7.2.2 j hj
  · rw [e3, if_neg (by omega)]; exact a8.1
  · rw [e4, if_neg (by omega)]; exact a8.2.1
  · rw [e1, if_neg (by omega)]; exact a8.2.2 j hj
  · rw [e4]
    split
    · exact hn
    · exact a9 r
theorem wl_mk {G : GT} {w : Wd} {ad : Nat → Nat} {t n q : Nat} {x : va_E} (h : WF G w ad) (hx : cel G (mk w t n) (va_up ad (nx w) q) (nx w) = x) : wl G w ad ++ [(q, x)] = wl G (mk w t n) (va_up ad (nx w) q) := by
  refine wl_push h.1 rfl (by show (if nx w = nx w then q else ad (nx w)) = q; rw [if_pos rfl]) hx (fun r hr => ?_)
  have hne : r ≠ nx w := Nat.ne_of_lt hr
  have e1 : ∀ k, gi (mk w t n) r k = gi w r k := fun k => if_neg hne
  have e2 : ∀ k, gr (mk w t n) r k = gr w r k := fun k => if_neg hne
  have e3 : ty (mk w t n) r = ty w r := if_neg hne
  have e4 : ln (mk w t n) r = ln w r := if_neg hne
  have e5 : ∀ k, va_up ad (nx w) q (gr w r k) = ad (gr w r k) := fun k => if_neg (Nat.ne_of_lt (h.2.1 r k))
  refine ⟨if_neg hne, ?_⟩
  have e6 : ∀ z, fv (mk w t n) (va_up ad (nx w) q) r z = fv w ad r z := fun z => by
    unfold fv rf
    rw [e1, e2, e5]
  have e7 : fvs (mk w t n) (va_up ad (nx w) q) r = fvs w ad r := by
    unfold fvs
    rw [e3]
    exact List.map_congr_left (fun z _ => e6 _)
  unfold cel
  rw [e7, e3, e4]
  simp only [e1, e2, e5]
theorem fvs_new {w : Wd} {ad : Nat → Nat} {t n q : Nat} : fvs (mk w t n) (va_up ad (nx w) q) (nx w) = fvs (mk w t n) ad (nx w) := by
  unfold fvs
  refine List.map_congr_left (fun z _ => ?_)
  have e6 : ∀ z, gr (mk w t n) (nx w) z = 0 := fun z => if_pos rfl
  unfold fv rf
  rw [e6]
  rfl
/-- the arrays' kinds that the tables know are one -/
theorem cls_int {D : va_G} {ts : List (ClassId × FieldType)} {s : State} {G : GT} {cA : ClassId} (h1 : va_K (gD G) vwCl (tys G) s) (h2 : va_K D vwCl (ts ++ [(cA, .int)]) s) : cA = gI G := by
  have a1 := (h1.2 0 (gI G, .int) rfl).2
  have a2 := (h2.2 ts.length (cA, .int) (by simp)).2
  exact Option.some.inj ((show s.vm.findClass _ = some cA from a2).symm.trans (show s.vm.findClass _ = some (gI G) from a1))
theorem cls_ref {D : va_G} {ts : List (ClassId × FieldType)} {s : State} {G : GT} {cA : ClassId} {t : Nat} (ht : ref3 t) (h1 : va_K (gD G) vwCl (tys G) s) (h2 : va_K D vwCl (ts ++ [(cA, .object (RC (el3 t - 1)))]) s) : cA = g3 G t := by
  obtain ⟨-, -, -, -, -, a1⟩ := (h1.2 (t - 11) _ (tys_el ht).1).2
  obtain ⟨-, -, -, -, -, a2⟩ := (h2.2 ts.length (cA, .object (RC (el3 t - 1))) (by simp)).2
  exact Option.some.inj (a2.symm.trans a1)
theorem ad_mk {ad : Nat → Nat} {n q : Nat} : ∀ r, r < n → va_up ad n q r = ad r := fun _ hr => if_neg (Nat.ne_of_lt hr)
set_option maxHeartbeats 4000000 in
theorem st_new (c9 : Nat) : StY (.new c9) := by
  intro p l e R s m args below meth c H locs u0 s0 Q y G w w' ad pc pc' L ls ls' st st' ob hC hL hw hh hS hst hls htb hn hob hr k
  obtain ⟨hx, hb, hml, hown, hts, hlk, hF, hR, hl0, hnm, hy⟩ := hC
  obtain ⟨n9, hd, hlen, hmem, -⟩ := tbd hy htb
  have hd : decode (MB y) pc = .ok (_, n9) := hd
  have hlen := hlen rfl
  rw [hlen] at hd
  simp only [ins] at hn
  split at hn
  · rename_i hc
    simp only [n1, Option.some.injEq, Prod.mk.injEq] at hn
    obtain ⟨rfl, rfl, rfl, rfl, rfl⟩ := hn
    have hno : NOK (mcl y) (cpN (mcl y * 10000 + c9)) c9 := by
      have h := hmem
      simp only [mem] at h
      rw [show Nat.ble 800 c9 = false from by cases h9 : Nat.ble 800 c9 with
        | false => rfl
        | true => have := Nat.le_of_ble_eq_true h9; omega] at h
      simp only [cond_false, decide_eq_true_eq] at h
      exact NL9_ok (mcl y, c9) h
    have hd2 : rl (mcl y) pc (.new c9) = .new (cpN (mcl y * 10000 + c9)) := by
      have b : ∀ n, 800 ≤ n → Nat.beq c9 n = false := fun n hn => by
        cases h9 : Nat.beq c9 n with
        | false => rfl
        | true => have := Nat.eq_of_beq_eq_true h9; omega
      simp only [rl, b 801 (by omega), b 802 (by omega), b 803 (by omega), cond_false]
    rw [hd2] at hd
    obtain ⟨n1, n2, n3⟩ := hno
    obtain ⟨hc1, hc2, hc3, hc4⟩ := cok _ hc
    · have hr1 : uc w - u0 + 1 ≤ R.cells := by have h9 : uc w + 1 - u0 ≤ R.cells := hr.2.2.1; omega
      have hr2 : us w - s0 + fcn c9 ≤ R.slots := by have h9 : us w + fcn c9 - s0 ≤ R.slots := hr.2.2.2; omega
      refine va_new (fs := fvs (mk w (c9 + 1) (fcn c9)) ad (nx w)) hx hb hts hc2 (yC c9) hc3 hown (hts _ n1) (hts _ n2) (hts _ n3) hF.1 hh.1 hh.2 hS (fun q hq => Nat.le_trans hF.2.2.2.2.2.1.2.2.1 hq) hc1 ?_ hr1 hr2 hd (fun q9 H1 a1 a2 a3 => ?_)
      · intro j hj
        have e3 : ty (mk w (c9 + 1) (fcn c9)) (nx w) = c9 + 1 := if_pos rfl
        have e4 : (fvs (mk w (c9 + 1) (fcn c9)) ad (nx w))[j]? = some (fv (mk w (c9 + 1) (fcn c9)) ad (nx w) (c9 * 100 + j)) := fvs_at e3 hj
        unfold vp_V
        rw [List.getD_eq_getElem?_getD, e4, Option.getD_some]
        have hk := kok c9 j hc hj
        have hj9 : j < 100 := Nat.lt_of_lt_of_le hj (fcn_100 c9 hc)
        unfold KOK at hk
        rw [show (c9 * 100 + j) / 100 = c9 by omega, show (c9 * 100 + j) % 100 = j by omega] at hk
        have e5 : ∀ z, gi (mk w (c9 + 1) (fcn c9)) (nx w) z = 0 := fun z => if_pos rfl
        have e6 : ∀ z, gr (mk w (c9 + 1) (fcn c9)) (nx w) z = 0 := fun z => if_pos rfl
        unfold fv
        rw [e5, e6]
        rcases hk hj with ⟨h1, h2⟩ | ⟨h1, h2, -⟩ | ⟨h1, h2⟩
        · rw [if_pos h1, h2]; rfl
        · rw [if_neg (by omega), if_pos h1, h2]; rfl
        · rw [if_neg (by omega), if_neg (by omega), h2]; rfl
      have hwn := wf_mk (t := (c9 + 1)) (n := (fcn c9)) (q := q9) hw (by omega) (Nat.le_trans (fcn_100 c9 hc) (by decide))
      have hex := ad_mk (ad := ad) (n := nx w) (q := q9)
      rw [wl_mk hw (x := .inr (c9, fvs (mk w (c9 + 1) (fcn c9)) ad (nx w))) (by rw [cel_obj (c := c9) (show ty (mk w (c9 + 1) (fcn c9)) (nx w) = c9 + 1 from if_pos rfl) hc]; exact congrArg (fun z => Sum.inr (c9, z)) (fvs_new))] at a1 a2
      have hq9 : va_up ad (nx w) q9 (nx w) = q9 := if_pos rfl
      have k9 := k L H1 locs (va_up ad (nx w) q9) (LR_ext hex hls hL) hwn ⟨a1, a2⟩ a3 hex (oks_cons (show okv (mk w (c9 + 1) (fcn c9)) (vR (nx w)) from ⟨by have := hw.1; omega, Nat.lt_succ_self _⟩) (oks_up (Nat.le_succ _) hst)) (oks_up (Nat.le_succ _) hls) (Nat.le_succ _) (Nat.le_succ _) (Nat.le_add_right _ _)
      rw [List.map_cons, cvs_ext hex hst, show cv (va_up ad (nx w) q9) (vR (nx w)) = .ref q9 by show Value.ref _ = _; rw [hq9]] at k9
      have e1 : uc w - u0 + 1 = uc (mk w (c9 + 1) (fcn c9)) - u0 := by show _ = uc w + 1 - u0; omega
      have e2 : us w - s0 + (fcn c9) = us (mk w (c9 + 1) (fcn c9)) - s0 := by show _ = us w + (fcn c9) - s0; omega
      rw [e1, e2]
      exact k9
  · cases hn
set_option maxHeartbeats 4000000 in
theorem st_newarray (t9 : ArrayType) : StY (.newarray t9) := by
  intro p l e R s m args below meth c H locs u0 s0 Q y G w w' ad pc pc' L ls ls' st st' ob hC hL hw hh hS hst hls htb hn hob hr k
  obtain ⟨hx, hb, hml, hown, hts, hlk, hF, hR, hl0, hnm, hy⟩ := hC
  obtain ⟨n9, hd, hlen, hmem, -⟩ := tbd hy htb
  have hd : decode (MB y) pc = .ok (_, n9) := hd
  have hlen := hlen rfl
  rw [hlen] at hd
  simp only [ins] at hn
  split at hn
  · rename_i x st9
    have hx9 : ir x := oks_hd hst
    split at hn
    · rename_i hc
      subst hc
      simp only [n1, Option.some.injEq, Prod.mk.injEq] at hn
      obtain ⟨rfl, rfl, rfl, rfl, rfl⟩ := hn
      have hb9 := hob.1
      have hr1 : uc w - u0 + 1 ≤ R.cells := by have h9 : uc w + 1 - u0 ≤ R.cells := hr.2.2.1; omega
      have hr2 : us w - s0 + x.toNat ≤ R.slots := by have h9 : us w + x.toNat - s0 ≤ R.slots := hr.2.2.2; omega
      refine va_newa (ty := .int) (a0 := (x.toNat, .inl (fun _ => 0))) hx hb (atype := .int) (hts (.arrayClass .int) lib_in.2.2.2.2.2.2.2.2) rfl hF.1 hh.1 hh.2 hS (fun q hq => Nat.le_trans hF.2.2.2.2.2.1.2.2.1 hq) (fun cA => rfl) (fun h => absurd ((oi_lt hx9 ir0).mp h) (by omega)) (oi_cl hx9) (by show x.toNat * 4 ≤ _; omega) hr1 hr2 hd (fun q9 cA H1 aK a1 a2 a3 => ?_)
      have hcA := cls_int hF.1 aK
      subst hcA
      have hwn := wf_mk (t := 11) (n := x.toNat) (q := q9) hw (by omega) (by omega)
      have hex := ad_mk (ad := ad) (n := nx w) (q := q9)
      rw [wl_mk hw (x := .inl (gI G, x.toNat, .inl (fun _ => 0))) (by rw [cel_11 (show ty (mk w 11 x.toNat) (nx w) = 11 from if_pos rfl)]; rw [show ln (mk w 11 x.toNat) (nx w) = x.toNat from if_pos rfl]; simp only [show ∀ z, gi (mk w 11 x.toNat) (nx w) z = 0 from fun z => if_pos rfl]; rfl)] at a1 a2
      have hq9 : va_up ad (nx w) q9 (nx w) = q9 := if_pos rfl
      have k9 := k L H1 locs (va_up ad (nx w) q9) (LR_ext hex hls hL) hwn ⟨a1, a2⟩ a3 hex (oks_cons (show okv (mk w 11 x.toNat) (vR (nx w)) from ⟨by have := hw.1; omega, Nat.lt_succ_self _⟩) (oks_up (Nat.le_succ _) (oks_tl hst))) (oks_up (Nat.le_succ _) hls) (Nat.le_succ _) (Nat.le_succ _) (Nat.le_add_right _ _)
      rw [List.map_cons, cvs_ext hex (oks_tl hst), show cv (va_up ad (nx w) q9) (vR (nx w)) = .ref q9 by show Value.ref _ = _; rw [hq9]] at k9
      have e1 : uc w - u0 + 1 = uc (mk w 11 x.toNat) - u0 := by show _ = uc w + 1 - u0; omega
      have e2 : us w - s0 + x.toNat = us (mk w 11 x.toNat) - s0 := by show _ = us w + x.toNat - s0; omega
      rw [e1, e2]
      exact k9
    · cases hn
  · cases hn
set_option maxHeartbeats 4000000 in
theorem st_anewarray (t9 : Nat) : StY (.anewarray t9) := by
  intro p l e R s m args below meth c H locs u0 s0 Q y G w w' ad pc pc' L ls ls' st st' ob hC hL hw hh hS hst hls htb hn hob hr k
  obtain ⟨hx, hb, hml, hown, hts, hlk, hF, hR, hl0, hnm, hy⟩ := hC
  obtain ⟨n9, hd, hlen, hmem, -⟩ := tbd hy htb
  have hd : decode (MB y) pc = .ok (_, n9) := hd
  have hlen := hlen rfl
  rw [hlen] at hd
  simp only [ins] at hn
  split at hn
  · rename_i x st9
    have hx9 : ir x := oks_hd hst
    split at hn
    · rename_i hc
      simp only [n1, Option.some.injEq, Prod.mk.injEq] at hn
      obtain ⟨rfl, rfl, rfl, rfl, rfl⟩ := hn
      have hb9 := hob.1
      have hbo : BOK (mcl y) (cpA (mcl y * 10000 + t9)) t9 := by
        have h := hmem
        simp only [mem, decide_eq_true_eq] at h
        exact BL9_ok (mcl y, t9) h
      have hao : va_AO (RC (el3 t9 - 1)) s := by
        rcases hc with rfl | rfl | rfl
        · exact hF.2.1 (.arrayOver (.object RX7)) (List.mem_append_left _ (by decide +kernel))
        · exact hF.2.1 (.arrayOver (.object RX3)) (List.mem_append_left _ (by decide +kernel))
        · exact hF.2.1 (.arrayOver (.object RX5)) (List.mem_append_left _ (by decide +kernel))
      have hr1 : uc w - u0 + 1 ≤ R.cells := by have h9 : uc w + 1 - u0 ≤ R.cells := hr.2.2.1; omega
      have hr2 : us w - s0 + x.toNat ≤ R.slots := by have h9 : us w + x.toNat - s0 ≤ R.slots := hr.2.2.2; omega
      refine va_newq hx hb hown (hts _ hbo) hao hF.1 hh.1 hh.2 hS (fun q hq => Nat.le_trans hF.2.2.2.2.2.1.2.2.1 hq) (fun h => absurd ((oi_lt hx9 ir0).mp h) (by omega)) (oi_cl hx9) (by omega) hr1 hr2 hd (fun q9 cA H1 aK a1 a2 a3 => ?_)
      have hcA := cls_ref hc hF.1 aK
      subst hcA
      have hwn := wf_mk (t := t9) (n := x.toNat) (q := q9) hw (by omega) (by omega)
      have hex := ad_mk (ad := ad) (n := nx w) (q := q9)
      rw [wl_mk hw (x := .inl (g3 G t9, x.toNat, .inr (.inr (.inr (.inr (fun _ => none)))))) (by rw [cel_13 (show ref3 (ty (mk w t9 x.toNat) (nx w)) by rw [show ty (mk w t9 x.toNat) (nx w) = t9 from if_pos rfl]; exact hc)]; rw [show ty (mk w t9 x.toNat) (nx w) = t9 from if_pos rfl, show ln (mk w t9 x.toNat) (nx w) = x.toNat from if_pos rfl]; simp only [show ∀ z, gr (mk w t9 x.toNat) (nx w) z = 0 from fun z => if_pos rfl, if_true])] at a1 a2
      have hq9 : va_up ad (nx w) q9 (nx w) = q9 := if_pos rfl
      have k9 := k L H1 locs (va_up ad (nx w) q9) (LR_ext hex hls hL) hwn ⟨a1, a2⟩ a3 hex (oks_cons (show okv (mk w t9 x.toNat) (vR (nx w)) from ⟨by have := hw.1; omega, Nat.lt_succ_self _⟩) (oks_up (Nat.le_succ _) (oks_tl hst))) (oks_up (Nat.le_succ _) hls) (Nat.le_succ _) (Nat.le_succ _) (Nat.le_add_right _ _)
      rw [List.map_cons, cvs_ext hex (oks_tl hst), show cv (va_up ad (nx w) q9) (vR (nx w)) = .ref q9 by show Value.ref _ = _; rw [hq9]] at k9
      have e1 : uc w - u0 + 1 = uc (mk w t9 x.toNat) - u0 := by show _ = uc w + 1 - u0; omega
      have e2 : us w - s0 + x.toNat = us (mk w t9 x.toNat) - s0 := by show _ = us w + x.toNat - s0; omega
      rw [e1, e2]
      exact k9
    · cases hn
  · cases hn
set_option maxHeartbeats 4000000 in
theorem st_switch (d lo hi : Int) (f : Array Int) : StY (.tableswitch d lo hi f) := by
  intro p l e R s m args below meth c H locs u0 s0 Q y G w w' ad pc pc' L ls ls' st st' ob hC hL hw hh hS hst hls htb hn hob hr k
  obtain ⟨hx, hb, hml, hown, hts, hlk, hF, hR, hl0, hnm, hy⟩ := hC
  obtain ⟨n9, hd, hlen, hmem, -⟩ := tbd hy htb
  have hd : decode (MB y) pc = .ok (_, n9) := hd
  have hm := hmem
  simp only [mem, Bool.and_eq_true, decide_eq_true_eq, List.all_eq_true] at hm
  obtain ⟨⟨m1, m2⟩, m4⟩ := hm
  have hd : decode (MB y) pc = .ok (.tableswitch (d - pc) lo hi (f.map (fun t => t - (pc : Int))), n9) := hd
  simp only [ins] at hn
  split at hn
  · rename_i a st9
    simp only [n1, Option.some.injEq, Prod.mk.injEq] at hn
    obtain ⟨rfl, rfl, rfl, rfl, rfl⟩ := hn
    have ha : ir a := oks_hd hst
    by_cases hc : a < lo ∨ hi < a
    · rw [if_pos hc] at k
      refine lv_tableOut (tgt := d.toNat) hx hb hd (by rw [oi_t ha]; exact hc) (by rw [Int.toNat_of_nonneg m1]; omega) ?_
      exact k L H locs ad hL hw hh hS (fun _ _ => rfl) (oks_tl hst) hls (Nat.le_refl _) (Nat.le_refl _) (Nat.le_refl _)
    · rw [if_neg hc] at k
      have hc1 : ¬ a < lo := fun h => hc (Or.inl h)
      have hc2 : ¬ hi < a := fun h => hc (Or.inr h)
      have hsz : (a - lo).toNat < f.size := by omega
      have hf0 : 0 ≤ f.getD (a - lo).toNat 0 := by
        rw [Array.getD_eq_getD_getElem?, Array.getElem?_eq_getElem hsz, Option.getD_some]
        exact m2 _ (Array.getElem_mem_toList hsz)
      refine lv_tableIn (tgt := (f.getD (a - lo).toNat 0).toNat) (off := f.getD (a - lo).toNat 0 - (pc : Int)) hx hb hd (by rw [oi_t ha]; exact hc1) (by rw [oi_t ha]; exact hc2) ?_ (by rw [Int.toNat_of_nonneg hf0]; omega) ?_
      · rw [oi_t ha, Array.getElem?_map, Array.getD_eq_getD_getElem?, Array.getElem?_eq_getElem hsz]
        rfl
      · exact k L H locs ad hL hw hh hS (fun _ _ => rfl) (oks_tl hst) hls (Nat.le_refl _) (Nat.le_refl _) (Nat.le_refl _)
  · cases hn
set_option maxHeartbeats 4000000 in
theorem st_special (k9 : Nat) : StY (.invokespecial k9) := by
  intro p l e R s m args below meth c H locs u0 s0 Q y G w w' ad pc pc' L ls ls' st st' ob hC hL hw hh hS hst hls htb hn hob hr k
  obtain ⟨hx, hb, hml, hown, hts, hlk, hF, hR, hl0, hnm, hy⟩ := hC
  obtain ⟨n9, hd, hlen, hmem, -⟩ := tbd hy htb
  have hd : decode (MB y) pc = .ok (_, n9) := hd
  have hlen := hlen rfl
  rw [hlen] at hd
  simp only [ins] at hn
  split at hn
  · rename_i hk9
    subst hk9
    split at hn
    · rename_i r st9
      split at hn
      · rename_i hc
        simp only [n1, Option.some.injEq, Prod.mk.injEq] at hn
        obtain ⟨rfl, rfl, rfl, rfl, rfl⟩ := hn
        have ha : Cond.methodLink (RC (mcl y)) (cpM (mcl y * 10000 + 900)) objectInit ∈ wsL_law := by
          have h := hmem
          simp only [mem, show Nat.ble 900 900 = true from rfl, cond_true, Bool.and_eq_true, decide_eq_true_eq] at h
          exact (AL9_ok (mcl y, 900) h.1).1 rfl
        refine W.objInit hx hb hown (hts _ ha) (hts _ lib_in.1) (hts _ lib_in.2.1) rfl (by rw [hml]; exact hL.2.1) rfl hd (by omega) ?_ ?_
        · have h9 := wsm_cv (ad := ad) (l := st9)
          show 2 * 0 + _ + 12 ≤ _
          omega
        · exact k L H locs ad hL hw hh hS (fun _ _ => rfl) (oks_tl hst) hls (Nat.le_refl _) (Nat.le_refl _) (Nat.le_refl _)
      · cases hn
    · cases hn
  · cases hn
theorem wf_cy {G : GT} {w : Wd} {ad : Nat → Nat} {a b : Nat} {sp dp n : Int} (h : WF G w ad) (ha : ty w a = 11) (hb : ty w b = 11) : WF G (cy w a sp b dp n) ad := by
  have hb3 := wf_obj h hb (by omega) (by omega)
  obtain ⟨a1, a2, a3, a4, a5, a6, a7, a8, a9⟩ := h
  have e1 : ∀ r k, gi (cy w a sp b dp n) r k = if r = b ∧ dp ≤ k ∧ k < dp + n then gi w a (sp + (k - dp)) else gi w r k := fun r k => rfl
  refine ⟨a1, a2, a3, fun r' k' hl => ?_, a5, a6, ⟨a7.1, a7.2.1, fun j hj => ?_⟩, ⟨a8.1, a8.2.1, fun j hj => ?_⟩, a9⟩
  · rw [e1]
    split
    · exact a4 a _ (fun h9 => by rcases h9 with h9 | h9 <;> omega)
    · exact a4 r' k' hl
  · rw [e1, if_neg (by omega)]; exact a7.2.2 j hj
  · rw [e1, if_neg (by omega)]; exact a8.2.2 j hj
theorem cel_cy {G : GT} {w : Wd} {ad : Nat → Nat} {a b : Nat} {sp dp n : Int} {q : Nat} (h : q ≠ b) : cel G (cy w a sp b dp n) ad q = cel G w ad q := by
  have h1 : ∀ j, gi (cy w a sp b dp n) q j = gi w q j := fun j => if_neg (fun e => h e.1)
  have h2 : ∀ z, fv (cy w a sp b dp n) ad q z = fv w ad q z := fun z => by unfold fv; rw [h1]; rfl
  have h3 : fvs (cy w a sp b dp n) ad q = fvs w ad q := by
    unfold fvs
    exact List.map_congr_left (fun z _ => h2 _)
  unfold cel
  rw [h3]
  simp only [h1]
  rfl
set_option maxHeartbeats 4000000 in
theorem st_static (k9 : Nat) : StY (.invokestatic k9) := by
  intro p l e R s m args below meth c H locs u0 s0 Q y G w w' ad pc pc' L ls ls' st st' ob hC hL hw hh hS hst hls htb hn hob hr k
  obtain ⟨hx, hb, hml, hown, hts, hlk, hF, hR, hl0, hnm, hy⟩ := hC
  obtain ⟨n9, hd, hlen, hmem, -⟩ := tbd hy htb
  have hd : decode (MB y) pc = .ok (_, n9) := hd
  have hlen := hlen rfl
  rw [hlen] at hd
  simp only [ins] at hn
  split at hn
  · rename_i hk9
    subst hk9
    split at hn
    · rename_i b a st9
      split at hn
      · rename_i hc
        simp only [n1, Option.some.injEq, Prod.mk.injEq] at hn
        obtain ⟨rfl, rfl, rfl, rfl, rfl⟩ := hn
        have hlk9 : Cond.methodLink (RC (mcl y)) (cpM (mcl y * 10000 + 901)) Lib.Math.min.name ∈ wsL_law := by
          have h := hmem
          simp only [mem, show Nat.ble 900 901 = true from rfl, cond_true, Bool.and_eq_true, decide_eq_true_eq] at h
          exact (AL9_ok (mcl y, 901) h.1).2.1 rfl
        have ha : ir a := oks_hd (oks_tl hst)
        have hb9 : ir b := oks_hd hst
        refine va_mmin hx hb (by rw [hml]; exact hL.2.1.symm) hown (hts _ hlk9) (hts _ lib_in.2.2.1) (hts _ lib_in.2.2.2.1) (hts _ lib_in.2.2.2.2.1) (by omega) ?_ hr.2.2.1 hr.2.2.2 hd ?_
        · have h9 := wsm_cv (ad := ad) (l := st9)
          omega
        · have h9 : (if Int32.ofInt b < Int32.ofInt a then Int32.ofInt b else Int32.ofInt a) = Int32.ofInt (if b < a then b else a) := by
            by_cases hba : b < a
            · rw [if_pos hba, if_pos ((oi_lt hb9 ha).mpr hba)]
            · rw [if_neg hba, if_neg (fun h => hba ((oi_lt hb9 ha).mp h))]
          rw [h9]
          exact k L H locs ad hL hw hh hS (fun _ _ => rfl) (oks_cons (show okv w (vI (if b < a then b else a)) from by show ir _; split <;> assumption) (oks_tl (oks_tl hst))) hls (Nat.le_refl _) (Nat.le_refl _) (Nat.le_refl _)
      · cases hn
    · cases hn
  · split at hn
    · rename_i hk8 hk9
      subst hk9
      split at hn
      · rename_i n dp b sp a st9
        split at hn
        · rename_i hc
          simp only [n1, Option.some.injEq, Prod.mk.injEq] at hn
          obtain ⟨rfl, rfl, rfl, rfl, rfl⟩ := hn
          obtain ⟨o1, o2, o3, o4, o5, o6, o7⟩ := hob.1
          have hlk9 : Cond.methodLink (RC (mcl y)) (cpM (mcl y * 10000 + 902)) arraycopyName ∈ wsL_law := by
            have h := hmem
            simp only [mem, show Nat.ble 900 902 = true from rfl, cond_true, Bool.and_eq_true, decide_eq_true_eq] at h
            exact (AL9_ok (mcl y, 902) h.1).2.2 rfl
          have i1 : ir n := oks_hd hst
          have i2 : ir dp := oks_hd (oks_tl hst)
          have i3 : ir sp := oks_hd (oks_tl (oks_tl (oks_tl hst)))
          obtain ⟨h3a, hna⟩ := wf_obj hw o1 (by omega) (by omega)
          obtain ⟨h3b, hnb⟩ := wf_obj hw o2 (by omega) (by omega)
          have hwn : WF G (cy w a sp b dp n) ad := wf_cy hw o1 o2
          refine va_copyi hx hb (by rw [hml]; exact hL.2.1.symm) hown (hts _ hlk9) (hts _ lib_in.2.2.2.2.2.1) (hts _ lib_in.2.2.2.2.2.2.1) (hts _ lib_in.2.2.2.2.2.2.2.1) hF.1 hh.1 hh.2 hS (a - 3) (b - 3) 0 0 (by rw [wl_at h3a hna, cel_11 o1]) (by rw [wl_at h3b hnb, cel_11 o2]) (show (tys G)[0]? = some (gI G, .int) from rfl) (show (tys G)[0]? = some (gI G, .int) from rfl) rfl (fun h => absurd ((oi_lt i3 ir0).mp h) (by omega)) (fun h => absurd ((oi_lt i2 ir0).mp h) (by omega)) (fun h => absurd ((oi_lt i1 ir0).mp h) (by omega)) (by rw [oi_cl i3, oi_cl i1]; omega) (by rw [oi_cl i2, oi_cl i1]; omega) (fun _ _ => rfl) (by omega) ?_ hd (fun H1 locs1 a1 a2 a3 => ?_)
          · have h9 := wsm_cv (ad := ad) (l := st9)
            have h8 : nativeFrameWords "java/lang/System" "arraycopy" 5 ≤ 60 := by decide +kernel
            omega
          have hset : (wl G w ad).set (b - 3) (ad b, .inl (gI G, ln w b, .inl (va_cpy (fun j : Nat => Int32.ofInt (gi w a (j : Int))) (fun j : Nat => Int32.ofInt (gi w b (j : Int))) (Int32.ofInt sp).toNatClampNeg (Int32.ofInt dp).toNatClampNeg (Int32.ofInt n).toNatClampNeg))) = wl G (cy w a sp b dp n) ad := by
            refine wl_set h3b hnb rfl ?_ (fun z hz => cel_cy hz)
            rw [cel_11 (w := cy w a sp b dp n) o2]
            have hfun : (fun j : Nat => Int32.ofInt (gi (cy w a sp b dp n) b (j : Int))) = va_cpy (fun j : Nat => Int32.ofInt (gi w a (j : Int))) (fun j : Nat => Int32.ofInt (gi w b (j : Int))) (Int32.ofInt sp).toNatClampNeg (Int32.ofInt dp).toNatClampNeg (Int32.ofInt n).toNatClampNeg := by
              funext j
              rw [oi_cl i3, oi_cl i2, oi_cl i1]
              show Int32.ofInt (if b = b ∧ dp ≤ (j : Int) ∧ (j : Int) < dp + n then gi w a (sp + ((j : Int) - dp)) else gi w b (j : Int)) = if dp.toNat ≤ j ∧ j < dp.toNat + n.toNat then Int32.ofInt (gi w a ((sp.toNat + (j - dp.toNat) : Nat) : Int)) else Int32.ofInt (gi w b (j : Int))
              by_cases hj : dp ≤ (j : Int) ∧ (j : Int) < dp + n
              · rw [if_pos ⟨rfl, hj⟩, if_pos (by omega), show ((sp.toNat + (j - dp.toNat) : Nat) : Int) = sp + ((j : Int) - dp) by omega]
              · rw [if_neg (fun e => hj e.2), if_neg (by omega)]
            rw [hfun]
            rfl
          rw [hset] at a1 a2
          exact k L H1 locs1 ad hL hwn ⟨a1, a2⟩ a3 (fun _ _ => rfl) (oks_w (w := w) rfl (oks_tl (oks_tl (oks_tl (oks_tl (oks_tl hst)))))) (oks_w (w := w) rfl hls) (Nat.le_refl _) (Nat.le_refl _) (Nat.le_refl _)
        · cases hn
      · cases hn
    · cases hn
