/-! the instructions that read or write cells -/
theorem wf_obj {G : GT} {w : Wd} {ad : Nat → Nat} (h : WF G w ad) {r t : Nat} (ht : ty w r = t) (h1 : 1 ≤ t) (h2 : t ≤ 15) : 3 ≤ r ∧ r < nx w := by
  rcases h.2.2.1 r (by omega) with q | q | q
  · exact ⟨q.1, q.2.1⟩
  · omega
  · omega
theorem cel_obj {G : GT} {w : Wd} {ad : Nat → Nat} {r c : Nat} (ht : ty w r = c + 1) (hc : c < 9) : cel G w ad r = .inr (c, fvs w ad r) := by
  unfold cel
  rw [if_neg (by omega), if_neg (by omega), if_neg (by omega), ht]
  rfl
theorem fvs_at {w : Wd} {ad : Nat → Nat} {r c : Nat} (ht : ty w r = c + 1) {k : Nat} (hk : k < fcn c) : (fvs w ad r)[k]? = some (fv w ad r (c * 100 + k)) := by
  unfold fvs
  rw [ht, show c + 1 - 1 = c from rfl, List.getElem?_map, List.getElem?_range hk]
  rfl
theorem q_eq (q : Nat) : q / 100 * 100 + q % 100 = q := by omega
theorem gi_si (w : Wd) (r : Nat) (k v : Int) (r' : Nat) (k' : Int) : gi (si w r k v) r' k' = if r' = r ∧ k' = k then v else gi w r' k' := rfl
theorem gr_sr (w : Wd) (r : Nat) (k : Int) (v : Nat) (r' : Nat) (k' : Int) : gr (sr w r k v) r' k' = if r' = r ∧ k' = k then v else gr w r' k' := rfl
theorem cel_si {G : GT} {w : Wd} {ad : Nat → Nat} {r : Nat} {k v : Int} {q : Nat} (h : q ≠ r) : cel G (si w r k v) ad q = cel G w ad q := by
  have h1 : ∀ j, gi (si w r k v) q j = gi w q j := fun j => by rw [gi_si, if_neg (fun e => h e.1)]
  have h2 : ∀ z, fv (si w r k v) ad q z = fv w ad q z := fun z => by unfold fv; rw [h1]; rfl
  have h3 : fvs (si w r k v) ad q = fvs w ad q := by
    unfold fvs
    exact List.map_congr_left (fun z _ => h2 _)
  unfold cel
  rw [h3]
  simp only [h1]
  rfl
theorem cel_sr {G : GT} {w : Wd} {ad : Nat → Nat} {r : Nat} {k : Int} {v q : Nat} (h : q ≠ r) : cel G (sr w r k v) ad q = cel G w ad q := by
  have h1 : ∀ j, gr (sr w r k v) q j = gr w q j := fun j => by rw [gr_sr, if_neg (fun e => h e.1)]
  have h2 : ∀ z, fv (sr w r k v) ad q z = fv w ad q z := fun z => by unfold fv; rw [h1]; rfl
  have h3 : fvs (sr w r k v) ad q = fvs w ad q := by
    unfold fvs
    exact List.map_congr_left (fun z _ => h2 _)
  unfold cel
  rw [h3]
  simp only [h1]
  rfl
theorem fvs_si {w : Wd} {ad : Nat → Nat} {r c k : Nat} {v : Int} (ht : ty w r = c + 1) (hk : k < fcn c) {x : Value} (hx : fv (si w r (k : Int) v) ad r (c * 100 + k) = x) (h100 : fcn c ≤ 100) : (fvs w ad r).set k x = fvs (si w r (k : Int) v) ad r := by
  apply List.ext_getElem?
  intro i
  rw [List.getElem?_set]
  have hlen : (fvs w ad r).length = fcn c := by unfold fvs; rw [ht]; simp
  by_cases hi : k = i
  · subst hi
    rw [if_pos rfl, if_pos (by omega), fvs_at (w := si w r (k : Int) v) (c := c) ht hk, hx]
  · rw [if_neg hi]
    by_cases hl : i < fcn c
    · rw [fvs_at ht hl, fvs_at (w := si w r (k : Int) v) (c := c) ht hl]
      congr 1
      have e1 : (c * 100 + i) % 100 = i := by omega
      unfold fv
      have e2 : gi (si w r (k : Int) v) r (((c * 100 + i) % 100 : Nat) : Int) = gi w r (((c * 100 + i) % 100 : Nat) : Int) := if_neg (by rw [e1]; intro e; exact hi (by omega))
      rw [e2]
      rfl
    · rw [List.getElem?_eq_none (by omega), List.getElem?_eq_none (by unfold fvs; rw [show ty (si w r (k : Int) v) r = c + 1 from ht]; simp; omega)]
theorem fvs_sr {w : Wd} {ad : Nat → Nat} {r c k v : Nat} (ht : ty w r = c + 1) (hk : k < fcn c) {x : Value} (hx : fv (sr w r (k : Int) v) ad r (c * 100 + k) = x) (h100 : fcn c ≤ 100) : (fvs w ad r).set k x = fvs (sr w r (k : Int) v) ad r := by
  apply List.ext_getElem?
  intro i
  rw [List.getElem?_set]
  have hlen : (fvs w ad r).length = fcn c := by unfold fvs; rw [ht]; simp
  by_cases hi : k = i
  · subst hi
    rw [if_pos rfl, if_pos (by omega), fvs_at (w := sr w r (k : Int) v) (c := c) ht hk, hx]
  · rw [if_neg hi]
    by_cases hl : i < fcn c
    · rw [fvs_at ht hl, fvs_at (w := sr w r (k : Int) v) (c := c) ht hl]
      congr 1
      have e1 : (c * 100 + i) % 100 = i := by omega
      unfold fv
      have e2 : gr (sr w r (k : Int) v) r (((c * 100 + i) % 100 : Nat) : Int) = gr w r (((c * 100 + i) % 100 : Nat) : Int) := if_neg (by rw [e1]; intro e; exact hi (by omega))
      rw [e2]
      rfl
    · rw [List.getElem?_eq_none (by omega), List.getElem?_eq_none (by unfold fvs; rw [show ty (sr w r (k : Int) v) r = c + 1 from ht]; simp; omega)]
theorem fcn_100 : ∀ c, c < 9 → fcn c ≤ 100 := by decide +kernel
theorem decl_c : ∀ c, c < 9 → ∀ k, k < fcn c → (TC c k).1 = RC c := by decide +kernel
/-- the world behind a store of an int, or of a long where longs stand -/
theorem wf_si {G : GT} {w : Wd} {ad : Nat → Nat} {r : Nat} {k v : Int} (h : WF G w ad) (h3 : 3 ≤ r) (hv : ¬ lgs w r k → ir v) : WF G (si w r k v) ad := by
  obtain ⟨a1, a2, a3, a4, a5, a6, a7, a8, a9⟩ := h
  refine ⟨a1, a2, a3, fun r' k' hl => ?_, a5, a6, ⟨a7.1, a7.2.1, fun j hj => ?_⟩, ⟨a8.1, a8.2.1, fun j hj => ?_⟩, a9⟩
  · rw [gi_si]
    by_cases e : r' = r ∧ k' = k
    · rw [if_pos e]
      obtain ⟨rfl, rfl⟩ := e
      exact hv hl
    · rw [if_neg e]
      exact a4 r' k' hl
  · rw [gi_si, if_neg (by omega)]; exact a7.2.2 j hj
  · rw [gi_si, if_neg (by omega)]; exact a8.2.2 j hj
theorem wf_sr {G : GT} {w : Wd} {ad : Nat → Nat} {r : Nat} {k : Int} {v : Nat} (h : WF G w ad) (hv : v < nx w) : WF G (sr w r k v) ad := by
  obtain ⟨a1, a2, a3, a4, a5, a6, a7, a8, a9⟩ := h
  refine ⟨a1, fun r' k' => ?_, a3, a4, a5, a6, a7, a8, a9⟩
  rw [gr_sr]
  by_cases e : r' = r ∧ k' = k
  · rw [if_pos e]; exact hv
  · rw [if_neg e]; exact a2 r' k'
def nne (w : Cond) : Bool := match w with
  | .fieldLinkNest a _ b _ _ _ => decide (a ≠ b)
  | _ => true
theorem NW_ne : NW.all nne = true := by decide +kernel
theorem nest_no {o cp c k : Nat} {n d h : String} (hc : c < 9) (hk : k < fcn c) (ho : o = c) : ¬ Cond.fieldLinkNest (RC o) cp (TC c k).1 n d h ∈ NW := by
  intro hm
  have h1 := List.all_eq_true.mp NW_ne _ hm
  simp only [nne, decide_eq_true_eq] at h1
  exact h1 (by rw [decl_c c hc k hk, ho])
theorem mki_hi : ∀ y, y < 140 → 121 ≤ y → ¬ mki y = 2 := by decide +kernel
theorem fk2_9 : ∀ c, c < 9 → ∀ s, s < fcn c → fk (c * 100 + s) = 2 → c * 100 + s = 917 := by decide +kernel
theorem fk2 (q : Nat) (h1 : q / 100 < 9) (h2 : q % 100 < fcn (q / 100)) (h : fk q = 2) : q = 917 := by
  have h3 := fk2_9 _ h1 _ h2
  rw [q_eq] at h3
  exact h3 h
theorem oks_w {w w' : Wd} {l : List V} (hn : nx w' = nx w) (h : oks w l) : oks w' l := oks_up (Nat.le_of_eq hn.symm) h
set_option maxHeartbeats 4000000 in
theorem st_getfield (q : Nat) : StY (.getfield q) := by
  intro p l e R s m args below meth c H locs u0 s0 Q y G w w' ad pc pc' L ls ls' st st' ob hC hL hw hh hS hst hls htb hn hob hr k
  obtain ⟨hx, hb, hml, hown, hts, hlk, hF, hR, hl0, hnm, hy⟩ := hC
  obtain ⟨n9, hd, hlen, hmem, -⟩ := tbd hy htb
  have hd : decode (MB y) pc = .ok (_, n9) := hd
  have hlen := hlen rfl
  rw [hlen] at hd
  have hF2 := fok_of hmem
  obtain ⟨hq1, hq2, hln⟩ := hF2
  obtain ⟨hc1, hc2, hc3, hc4⟩ := cok _ hq1
  simp only [ins] at hn
  split at hn
  · rename_i r st9
    have key : ty w r = q / 100 + 1 → ∀ v : Value, fv w ad r q = v → (W p l e R s m args below meth c H locs (uc w - u0) (us w - s0) Q (F0 m (pc + 3) L (v :: st9.map (cv ad)))) → W p l e R s m args below meth c H locs (uc w - u0) (us w - s0) Q (F0 m pc L ((vR r :: st9).map (cv ad))) := by
      intro hty v hv k9
      obtain ⟨h3, hnr⟩ := wf_obj hw hty (by omega) (by omega)
      have he : (wl G w ad)[r - 3]? = some (ad r, .inr (q / 100, fvs w ad r)) := by rw [wl_at h3 hnr, cel_obj hty hq1]
      have hv9 : (fvs w ad r)[q % 100]? = some v := by rw [fvs_at hty hq2, q_eq, hv]
      rcases hln with hln | hln
      · exact va_get hx hb hts hc2 hown hF.1 hh.1 (r - 3) he hc1 (q % 100) hq2 (hts _ hln) (fun _ h9 => h9) hv9 hd k9
      · exact va_getN hx hb hts hc2 hown hF.1 hh.1 (r - 3) he hc1 (q % 100) hq2 (va_Nw.use rfl (hF.2.1 _ (List.mem_append_left _ hln))) (fun _ h9 => h9) hv9 hd k9
    split at hn
    · rename_i hk0
      simp only [n1, Option.some.injEq, Prod.mk.injEq] at hn
      obtain ⟨rfl, rfl, rfl, rfl, rfl⟩ := hn
      refine key hob.1 (.int (Int32.ofInt (gi w r ((q % 100 : Nat) : Int)))) (by unfold fv; rw [if_pos hk0]) ?_
      refine k L H locs ad hL hw hh hS (fun _ _ => rfl) (oks_cons ?_ (oks_tl hst)) hls (Nat.le_refl _) (Nat.le_refl _) (Nat.le_refl _)
      refine hw.2.2.2.1 r _ (fun h => ?_)
      have h1 := hob.1
      rcases h with h | ⟨h, h2⟩
      · omega
      · omega
    · split at hn
      · rename_i hk0 hk1
        simp only [n1, Option.some.injEq, Prod.mk.injEq] at hn
        obtain ⟨rfl, rfl, rfl, rfl, rfl⟩ := hn
        refine key hob.1.1 (.ref (ad (gr w r ((q % 100 : Nat) : Int)))) (by unfold fv; rw [if_neg hk0, if_pos hk1]; unfold rf; rw [if_neg hob.1.2]) ?_
        exact k L H locs ad hL hw hh hS (fun _ _ => rfl) (oks_cons (show okv w (vR _) from ⟨hob.1.2, hw.2.1 _ _⟩) (oks_tl hst)) hls (Nat.le_refl _) (Nat.le_refl _) (Nat.le_refl _)
      · rename_i hk0 hk1
        simp only [n1, Option.some.injEq, Prod.mk.injEq] at hn
        obtain ⟨rfl, rfl, rfl, rfl, rfl⟩ := hn
        refine key hob.1 (.long (Int64.ofInt (gi w r ((q % 100 : Nat) : Int)))) (by unfold fv; rw [if_neg hk0, if_neg hk1]) ?_
        exact k L H locs ad hL hw hh hS (fun _ _ => rfl) (oks_cons (show okv w (vL _) from trivial) (oks_tl hst)) hls (Nat.le_refl _) (Nat.le_refl _) (Nat.le_refl _)
  · cases hn
set_option maxHeartbeats 4000000 in
theorem st_putfield (q : Nat) : StY (.putfield q) := by
  intro p l e R s m args below meth c H locs u0 s0 Q y G w w' ad pc pc' L ls ls' st st' ob hC hL hw hh hS hst hls htb hn hob hr k
  obtain ⟨hx, hb, hml, hown, hts, hlk, hF, hR, hl0, hnm, hy⟩ := hC
  obtain ⟨n9, hd, hlen, hmem, -⟩ := tbd hy htb
  have hd : decode (MB y) pc = .ok (_, n9) := hd
  have hlen := hlen rfl
  rw [hlen] at hd
  have hF2 := pok_of hmem
  obtain ⟨hq1, hq2, hln⟩ := hF2
  obtain ⟨hc1, hc2, hc3, hc4⟩ := cok _ hq1
  have hkk := kok (q / 100) (q % 100) hq1 hq2
  unfold KOK at hkk
  rw [q_eq] at hkk
  have hkk := hkk hq2
  have hinit : fin q = true → meth.name = "<init>" ∧ mcl y = q / 100 := by
    intro hf
    have h := hmem
    simp only [mem, Bool.and_eq_true] at h
    have h2 := h.2
    rw [hf, cond_true] at h2
    simp only [Bool.and_eq_true, beq_iff_eq] at h2
    have hy2 : y < 121 := by
      rcases Nat.lt_or_ge y 121 with h9 | h9
      · exact h9
      · exact absurd h2.1 (mki_hi y hy h9)
    exact ⟨(hnm hy2).trans ((mok y hy2).2.2.2.2.2.2.2.2 h2.1).2, h2.2⟩
  have key : ∀ (r : Nat) (x : Value) (st9 : List V) (w9 : Wd), ty w r = q / 100 + 1 → WF G w9 ad → nx w9 = nx w → (fvs w ad r).set (q % 100) x = fvs w9 ad r → ty w9 r = ty w r → (∀ z, z ≠ r → cel G w9 ad z = cel G w ad z) → narrow (yC (q / 100) (q % 100)) x = x → fits (yC (q / 100) (q % 100)) x = true →
      (∀ (H1 : Heap) (locs1 : List Loc), WH G w9 ad H1 → va_S (AA G) s.heap H1 locs1 → W p l e R s m args below meth c H1 locs1 (uc w - u0) (us w - s0) Q (F0 m (pc + 3) L (st9.map (cv ad)))) → W p l e R s m args below meth c H locs (uc w - u0) (us w - s0) Q (F0 m pc L (x :: .ref (ad r) :: st9.map (cv ad))) := by
    intro r x st9 w9 hty hw9 hn9 hf9 ht9 ho9 hnar hfit k9
    obtain ⟨h3, hnr⟩ := wf_obj hw hty (by omega) (by omega)
    have he : (wl G w ad)[r - 3]? = some (ad r, .inr (q / 100, fvs w ad r)) := by rw [wl_at h3 hnr, cel_obj hty hq1]
    have hset : (wl G w ad).set (r - 3) (ad r, .inr (q / 100, (fvs w ad r).set (q % 100) x)) = wl G w9 ad := wl_set h3 hnr hn9 (by rw [cel_obj (ht9.trans hty) hq1, hf9]) ho9
    have hlen : q % 100 < (fvs w ad r).length := by unfold fvs; rw [hty]; simpa using hq2
    have fin9 : ∀ (H1 : Heap) (locs1 : List Loc), va_P (gD G) vwCl ((wl G w ad).set (r - 3) (ad r, .inr (q / 100, (fvs w ad r).set (q % 100) x))) H1 → va_D (AA G) ((wl G w ad).set (r - 3) (ad r, .inr (q / 100, (fvs w ad r).set (q % 100) x))) → va_S (AA G) s.heap H1 locs1 → W p l e R s m args below meth c H1 locs1 (uc w - u0) (us w - s0) Q (F0 m (pc + 3) L (st9.map (cv ad))) := by
      intro H1 locs1 a1 a2 a3
      rw [hset] at a1 a2
      exact k9 H1 locs1 ⟨a1, a2⟩ a3
    cases hfn : fin q with
    | false =>
      rcases hln with hln | hln
      · exact va_put hx hb hts hc2 (yC (q / 100)) hc3 hc4 hown hF.1 hh.1 hh.2 hS (r - 3) he hc1 (q % 100) hq2 (hts _ hln) (fun _ h9 => h9) hfn (hc3 _ hq2) hnar hfit hlen hd fin9
      · exact va_putN hx hb hts hc2 (yC (q / 100)) hc3 hc4 hown hF.1 hh.1 hh.2 hS (r - 3) he hc1 (q % 100) hq2 (va_Nw.use rfl (hF.2.1 _ (List.mem_append_left _ hln))) (fun _ h9 => h9) hfn (hc3 _ hq2) hnar hfit hlen hd fin9
    | true =>
      obtain ⟨hi1, hi2⟩ := hinit hfn
      rcases hln with hln | hln
      · exact va_putF hx hb hts hc2 (yC (q / 100)) hc3 hc4 hown hF.1 hh.1 hh.2 hS (r - 3) he hc1 (q % 100) hq2 (hts _ hln) (fun _ h9 => h9) hfn hi1 (by rw [decl_c _ hq1 _ hq2, hi2]) (hc3 _ hq2) hnar hfit hlen hd fin9
      · exact absurd hln (nest_no hq1 hq2 hi2)
  simp only [ins] at hn
  split at hn
  · rename_i a r st9
    split at hn
    · rename_i hk0
      simp only [n1, Option.some.injEq, Prod.mk.injEq] at hn
      obtain ⟨rfl, rfl, rfl, rfl, rfl⟩ := hn
      have hty := hob.1
      have hyc : yC (q / 100) (q % 100) = .int := by
        rcases hkk with h | h | h
        · exact h.2
        · omega
        · omega
      have hwn := wf_si (k := ((q % 100 : Nat) : Int)) (v := a) hw (wf_obj hw hty (by omega) (by omega)).1 (fun _ => oks_hd hst)
      refine key r (.int (Int32.ofInt a)) st9 (si w r ((q % 100 : Nat) : Int) a) hty hwn rfl (fvs_si hty hq2 (by rw [q_eq]; unfold fv; rw [if_pos hk0, gi_si, if_pos ⟨rfl, rfl⟩]) (fcn_100 _ hq1)) rfl (fun z hz => cel_si hz) (by rw [hyc]; rfl) (by rw [hyc]; rfl) (fun H1 locs1 hh1 hS1 => ?_)
      exact k L H1 locs1 ad hL hwn hh1 hS1 (fun _ _ => rfl) (oks_w (w := w) rfl (oks_tl (oks_tl hst))) (oks_w (w := w) rfl hls) (Nat.le_refl _) (Nat.le_refl _) (Nat.le_refl _)
    · cases hn
  · rename_i a r st9
    split at hn
    · rename_i hk0
      simp only [n1, Option.some.injEq, Prod.mk.injEq] at hn
      obtain ⟨rfl, rfl, rfl, rfl, rfl⟩ := hn
      have hty := hob.1
      have hyc : yC (q / 100) (q % 100) = .long := by
        rcases hkk with h | h | h
        · omega
        · omega
        · exact h.2
      have hq9 : lgs w r ((q % 100 : Nat) : Int) := by
        have h9 := fk2 q hq1 hq2 hk0
        subst h9
        exact Or.inr ⟨hty, rfl⟩
      have hwn := wf_si (k := ((q % 100 : Nat) : Int)) (v := a) hw (wf_obj hw hty (by omega) (by omega)).1 (fun h => absurd hq9 h)
      refine key r (.long (Int64.ofInt a)) st9 (si w r ((q % 100 : Nat) : Int) a) hty hwn rfl (fvs_si hty hq2 (by rw [q_eq]; unfold fv; rw [if_neg (by omega), if_neg (by omega), gi_si, if_pos ⟨rfl, rfl⟩]) (fcn_100 _ hq1)) rfl (fun z hz => cel_si hz) (by rw [hyc]; rfl) (by rw [hyc]; rfl) (fun H1 locs1 hh1 hS1 => ?_)
      exact k L H1 locs1 ad hL hwn hh1 hS1 (fun _ _ => rfl) (oks_w (w := w) rfl (oks_tl (oks_tl hst))) (oks_w (w := w) rfl hls) (Nat.le_refl _) (Nat.le_refl _) (Nat.le_refl _)
    · cases hn
  · rename_i a r st9
    split at hn
    · rename_i hk0
      simp only [n1, Option.some.injEq, Prod.mk.injEq] at hn
      obtain ⟨rfl, rfl, rfl, rfl, rfl⟩ := hn
      have hty := hob.1
      have hyc : narrow (yC (q / 100) (q % 100)) (.ref (ad a)) = .ref (ad a) ∧ fits (yC (q / 100) (q % 100)) (.ref (ad a)) = true := by
        rcases hkk with h | h | h
        · omega
        · exact ⟨(h.2.2 (ad a)).2.2.1, (h.2.2 (ad a)).1⟩
        · omega
      have ha := oks_hd hst
      have hwn := wf_sr (r := r) (k := ((q % 100 : Nat) : Int)) (v := a) hw ha.2
      refine key r (.ref (ad a)) st9 (sr w r ((q % 100 : Nat) : Int) a) hty hwn rfl (fvs_sr hty hq2 (by rw [q_eq]; unfold fv; rw [if_neg (by omega), if_pos hk0, gr_sr, if_pos ⟨rfl, rfl⟩]; unfold rf; rw [if_neg ha.1]) (fcn_100 _ hq1)) rfl (fun z hz => cel_sr hz) hyc.1 hyc.2 (fun H1 locs1 hh1 hS1 => ?_)
      exact k L H1 locs1 ad hL hwn hh1 hS1 (fun _ _ => rfl) (oks_w (w := w) rfl (oks_tl (oks_tl hst))) (oks_w (w := w) rfl hls) (Nat.le_refl _) (Nat.le_refl _) (Nat.le_refl _)
    · cases hn
  · cases hn
set_option maxHeartbeats 4000000 in
theorem st_getstatic (q : Nat) : StY (.getstatic q) := by
  intro p l e R s m args below meth c H locs u0 s0 Q y G w w' ad pc pc' L ls ls' st st' ob hC hL hw hh hS hst hls htb hn hob hr k
  obtain ⟨hx, hb, hml, hown, hts, hlk, hF, hR, hl0, hnm, hy⟩ := hC
  obtain ⟨n9, hd, hlen, hmem, -⟩ := tbd hy htb
  have hd : decode (MB y) pc = .ok (_, n9) := hd
  have hlen := hlen rfl
  rw [hlen] at hd
  simp only [ins] at hn
  simp only [n1, Option.some.injEq, Prod.mk.injEq] at hn
  obtain ⟨rfl, rfl, rfl, rfl, rfl⟩ := hn
  have ho : mcl y = 8 := by have h := hmem; simp only [mem] at h; exact Nat.eq_of_beq_eq_true h
  rw [ho] at hown
  refine va_gets hx hb hF.2.2.1 hS hown (hts _ st_in) (fun _ h9 => h9) hd ?_
  have h2 : cv ad (vR 2) = .ref (gT G) := by show Value.ref (ad 2) = _; rw [hw.2.2.2.2.2.1]
  rw [← h2]
  exact k L H locs ad hL hw hh hS (fun _ _ => rfl) (oks_cons (show okv w (vR 2) from ⟨by decide, Nat.lt_of_lt_of_le (by decide) hw.1⟩) hst) hls (Nat.le_refl _) (Nat.le_refl _) (Nat.le_refl _)
