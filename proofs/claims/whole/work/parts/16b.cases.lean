theorem h_append {w : Wd} {x m u L : Nat} {i : Int} {l5 l6 l7 l8 : V} {Q : Res → Wd → Prop} (h1 : ty w 1 = 16 ∧ ln w 1 = L) (hi : 0 ≤ i ∧ i + 3 < (L : Int) ∧ L ≤ 2048) (hc : EvQ 2 181 [vR x, vI (gi w 1 (i + 1)), vR u] w (fun r w2 => ∃ c, r = (0, vI c) ∧ WP 20 199 163 [vR 1, vR x, vR m, vR u, vI i, l5, l6, l7, l8] [vI c] w2 Q)) : WP 20 199 152 [vR 1, vR x, vR m, vR u, vI i, l5, l6, l7, l8] [] w Q := by
  refine WP.blk 1 ?_
  show WP 20 199 153 [vR 1, vR x, vR m, vR u, vI i, l5, l6, l7, l8] [vR x] w Q
  refine WP.blk 1 ?_
  show WP 20 199 154 [vR 1, vR x, vR m, vR u, vI i, l5, l6, l7, l8] [vR 1, vR x] w Q
  refine WP.blk 1 ?_
  show WP 20 199 156 [vR 1, vR x, vR m, vR u, vI i, l5, l6, l7, l8] [vI i, vR 1, vR x] w Q
  refine WP.blk 1 ?_
  show WP 20 199 157 [vR 1, vR x, vR m, vR u, vI i, l5, l6, l7, l8] [vI 1, vI i, vR 1, vR x] w Q
  refine WP.blk 1 ?_
  show ir (i + 1) ∧ WP 20 199 158 [vR 1, vR x, vR m, vR u, vI i, l5, l6, l7, l8] [vI (i + 1), vR 1, vR x] w Q
  refine ⟨by unfold ir; omega, ?_⟩
  refine WP.blk 1 ?_
  show ((ty w 1 = 11 ∨ ty w 1 = 16 ∨ ty w 1 = 17) ∧ 0 ≤ (i + 1) ∧ (i + 1) < (ln w 1 : Int)) ∧ WP 20 199 159 [vR 1, vR x, vR m, vR u, vI i, l5, l6, l7, l8] [vI (gi w 1 (i + 1)), vR x] w Q
  refine ⟨⟨Or.inr (Or.inl h1.1), by omega, by rw [h1.2]; omega⟩, ?_⟩
  refine WP.blk 1 ?_
  show WP 20 199 160 [vR 1, vR x, vR m, vR u, vI i, l5, l6, l7, l8] [vR u, vI (gi w 1 (i + 1)), vR x] w Q
  refine WP.call (a := [vR x, vI (gi w 1 (i + 1)), vR u]) (rest := []) rfl rfl rfl rfl trivial (by decide) hc (fun r w2 h => ?_)
  obtain ⟨c, rfl, h⟩ := h
  exact ⟨rfl, h⟩
theorem a_append {M : Nat → Int → Int} {S : SD} {c : Int} {x m u L : Nat} {i : Int} {l5 l6 l7 l8 : V} {Q : Res → Wd → Prop} (hS : isMod S m) (h1 : sT S 1 = 16 ∧ sN S 1 = L) (hu : sT S u = 12 ∧ sN S u = 1) (hi : 0 ≤ i ∧ i + 3 < (L : Int) ∧ L ≤ 2048) (hr : EvQ 2 126 [vR m, vI (M 1 (i + 1))] (M, S) (LQ S m u c (fun M3 => ∀ l5 l6, WP 20 199 1416 [vR 1, vR x, vR m, vR u, vI i, l5, l6, l7, l8] [] (M3, S) Q))) : WP 20 199 163 [vR 1, vR x, vR m, vR u, vI i, l5, l6, l7, l8] [vI c] (M, S) Q := by
  refine WP.blk 1 ?_
  show WP 20 199 165 [vR 1, vR x, vR m, vR u, vI i, vI c, l6, l7, l8] [] (M, S) Q
  refine WP.blk 1 ?_
  show WP 20 199 166 [vR 1, vR x, vR m, vR u, vI i, vI c, l6, l7, l8] [vR m] (M, S) Q
  refine WP.blk 1 ?_
  show WP 20 199 167 [vR 1, vR x, vR m, vR u, vI i, vI c, l6, l7, l8] [vR 1, vR m] (M, S) Q
  refine WP.blk 1 ?_
  show WP 20 199 169 [vR 1, vR x, vR m, vR u, vI i, vI c, l6, l7, l8] [vI i, vR 1, vR m] (M, S) Q
  refine WP.blk 1 ?_
  show WP 20 199 170 [vR 1, vR x, vR m, vR u, vI i, vI c, l6, l7, l8] [vI 1, vI i, vR 1, vR m] (M, S) Q
  refine WP.blk 1 ?_
  show ir (i + 1) ∧ WP 20 199 171 [vR 1, vR x, vR m, vR u, vI i, vI c, l6, l7, l8] [vI (i + 1), vR 1, vR m] (M, S) Q
  refine ⟨by unfold ir; omega, ?_⟩
  refine WP.blk 1 ?_
  show ((sT S 1 = 11 ∨ sT S 1 = 16 ∨ sT S 1 = 17) ∧ 0 ≤ (i + 1) ∧ (i + 1) < (sN S 1 : Int)) ∧ WP 20 199 172 [vR 1, vR x, vR m, vR u, vI i, vI c, l6, l7, l8] [vI (M 1 (i + 1)), vR m] (M, S) Q
  refine ⟨⟨Or.inr (Or.inl h1.1), by omega, by rw [h1.2]; omega⟩, ?_⟩
  refine WP.call (a := [vR m, vI (M 1 (i + 1))]) (rest := []) rfl rfl rfl rfl ⟨hS.1.1, trivial⟩ (by decide) hr (fun r w2 h => ?_)
  obtain ⟨y, M3, rfl, rfl, hc, h0, hP⟩ := h
  refine ⟨rfl, ?_⟩
  show WP 20 199 175 [vR 1, vR x, vR m, vR u, vI i, vI c, l6, l7, l8] [vI y] (M3, S) Q
  refine WP.blk 1 ?_
  show WP 20 199 177 [vR 1, vR x, vR m, vR u, vI i, vI c, vI y, l7, l8] [] (M3, S) Q
  refine WP.blk 1 ?_
  show WP 20 199 178 [vR 1, vR x, vR m, vR u, vI i, vI c, vI y, l7, l8] [vR m] (M3, S) Q
  refine WP.cl (a := [vR m]) (rest := []) rfl rfl rfl rfl ⟨hS.1.1, trivial⟩ (by decide) (q_thrown hS ⟨rfl, ?_⟩)
  show WP 20 199 181 [vR 1, vR x, vR m, vR u, vI i, vI c, vI y, l7, l8] [vI (M3 m 5)] (M3, S) Q
  refine WP.blk 1 ?_
  show WP 20 199 183 [vR 1, vR x, vR m, vR u, vI i, vI c, vI y, l7, l8] [vI c, vI (M3 m 5)] (M3, S) Q
  refine WP.blk 1 ?_
  show WP 20 199 (if cnd .eq (M3 m 5) c = true then 188 else 186) [vR 1, vR x, vR m, vR u, vI i, vI c, vI y, l7, l8] [] (M3, S) Q
  refine br_eq (fun _ => ?_) (fun hb => absurd hc hb)
  show WP 20 199 188 [vR 1, vR x, vR m, vR u, vI i, vI c, vI y, l7, l8] [] (M3, S) Q
  refine WP.blk 1 ?_
  show WP 20 199 190 [vR 1, vR x, vR m, vR u, vI i, vI c, vI y, l7, l8] [vI c] (M3, S) Q
  refine WP.blk 1 ?_
  show WP 20 199 (if cnd .ne c 0 = true then 205 else 193) [vR 1, vR x, vR m, vR u, vI i, vI c, vI y, l7, l8] [] (M3, S) Q
  refine br_ne (fun _ => ?_) (fun hb => ?_)
  · show WP 20 199 205 [vR 1, vR x, vR m, vR u, vI i, vI c, vI y, l7, l8] [] (M3, S) Q
    refine WP.blk 1 ?_
    exact hP _ _
  · show WP 20 199 193 [vR 1, vR x, vR m, vR u, vI i, vI c, vI y, l7, l8] [] (M3, S) Q
    refine WP.blk 1 ?_
    show WP 20 199 194 [vR 1, vR x, vR m, vR u, vI i, vI c, vI y, l7, l8] [vR u] (M3, S) Q
    refine WP.blk 1 ?_
    show WP 20 199 195 [vR 1, vR x, vR m, vR u, vI i, vI c, vI y, l7, l8] [vI 0, vR u] (M3, S) Q
    refine WP.blk 1 ?_
    show (sT S u = 12 ∧ (0 : Int) ≤ 0 ∧ (0 : Int) < (sN S u : Int)) ∧ WP 20 199 196 [vR 1, vR x, vR m, vR u, vI i, vI c, vI y, l7, l8] [vL (M3 u 0)] (M3, S) Q
    refine ⟨⟨hu.1, by decide, by rw [hu.2]; decide⟩, ?_⟩
    refine WP.blk 1 ?_
    show WP 20 199 198 [vR 1, vR x, vR m, vR u, vI i, vI c, vI y, l7, l8] [vI y, vL (M3 u 0)] (M3, S) Q
    refine WP.blk 1 ?_
    show WP 20 199 199 [vR 1, vR x, vR m, vR u, vI i, vI c, vI y, l7, l8] [vL y, vL (M3 u 0)] (M3, S) Q
    refine WP.blk 1 ?_
    show WP 20 199 200 [vR 1, vR x, vR m, vR u, vI i, vI c, vI y, l7, l8] [vI (lC (M3 u 0) y)] (M3, S) Q
    rw [h0 hb, lC_s]
    refine WP.blk 1 ?_
    show WP 20 199 (if cnd .eq 0 0 = true then 205 else 203) [vR 1, vR x, vR m, vR u, vI i, vI c, vI y, l7, l8] [] (M3, S) Q
    refine br_eq (fun _ => ?_) (fun hb => absurd rfl hb)
    show WP 20 199 205 [vR 1, vR x, vR m, vR u, vI i, vI c, vI y, l7, l8] [] (M3, S) Q
    refine WP.blk 1 ?_
    exact hP _ _
theorem h_cut {w : Wd} {x m u L : Nat} {i : Int} {l5 l6 l7 l8 : V} {Q : Res → Wd → Prop} (h1 : ty w 1 = 16 ∧ ln w 1 = L) (hi : 0 ≤ i ∧ i + 3 < (L : Int) ∧ L ≤ 2048) (hc : EvQ 8 182 [vR x, vI (gi w 1 (i + 1)), vI (gi w 1 (i + 2)), vI (gi w 1 (i + 3)), vR u] w (fun r w2 => ∃ c, r = (0, vI c) ∧ WP 20 199 257 [vR 1, vR x, vR m, vR u, vI i, l5, l6, l7, l8] [vI c] w2 Q)) : WP 20 199 234 [vR 1, vR x, vR m, vR u, vI i, l5, l6, l7, l8] [] w Q := by
  refine WP.blk 1 ?_
  show WP 20 199 235 [vR 1, vR x, vR m, vR u, vI i, l5, l6, l7, l8] [vR x] w Q
  refine WP.blk 1 ?_
  show WP 20 199 236 [vR 1, vR x, vR m, vR u, vI i, l5, l6, l7, l8] [vR 1, vR x] w Q
  refine WP.blk 1 ?_
  show WP 20 199 238 [vR 1, vR x, vR m, vR u, vI i, l5, l6, l7, l8] [vI i, vR 1, vR x] w Q
  refine WP.blk 1 ?_
  show WP 20 199 239 [vR 1, vR x, vR m, vR u, vI i, l5, l6, l7, l8] [vI 1, vI i, vR 1, vR x] w Q
  refine WP.blk 1 ?_
  show ir (i + 1) ∧ WP 20 199 240 [vR 1, vR x, vR m, vR u, vI i, l5, l6, l7, l8] [vI (i + 1), vR 1, vR x] w Q
  refine ⟨by unfold ir; omega, ?_⟩
  refine WP.blk 1 ?_
  show ((ty w 1 = 11 ∨ ty w 1 = 16 ∨ ty w 1 = 17) ∧ 0 ≤ (i + 1) ∧ (i + 1) < (ln w 1 : Int)) ∧ WP 20 199 241 [vR 1, vR x, vR m, vR u, vI i, l5, l6, l7, l8] [vI (gi w 1 (i + 1)), vR x] w Q
  refine ⟨⟨Or.inr (Or.inl h1.1), by omega, by rw [h1.2]; omega⟩, ?_⟩
  refine WP.blk 1 ?_
  show WP 20 199 242 [vR 1, vR x, vR m, vR u, vI i, l5, l6, l7, l8] [vR 1, vI (gi w 1 (i + 1)), vR x] w Q
  refine WP.blk 1 ?_
  show WP 20 199 244 [vR 1, vR x, vR m, vR u, vI i, l5, l6, l7, l8] [vI i, vR 1, vI (gi w 1 (i + 1)), vR x] w Q
  refine WP.blk 1 ?_
  show WP 20 199 245 [vR 1, vR x, vR m, vR u, vI i, l5, l6, l7, l8] [vI 2, vI i, vR 1, vI (gi w 1 (i + 1)), vR x] w Q
  refine WP.blk 1 ?_
  show ir (i + 2) ∧ WP 20 199 246 [vR 1, vR x, vR m, vR u, vI i, l5, l6, l7, l8] [vI (i + 2), vR 1, vI (gi w 1 (i + 1)), vR x] w Q
  refine ⟨by unfold ir; omega, ?_⟩
  refine WP.blk 1 ?_
  show ((ty w 1 = 11 ∨ ty w 1 = 16 ∨ ty w 1 = 17) ∧ 0 ≤ (i + 2) ∧ (i + 2) < (ln w 1 : Int)) ∧ WP 20 199 247 [vR 1, vR x, vR m, vR u, vI i, l5, l6, l7, l8] [vI (gi w 1 (i + 2)), vI (gi w 1 (i + 1)), vR x] w Q
  refine ⟨⟨Or.inr (Or.inl h1.1), by omega, by rw [h1.2]; omega⟩, ?_⟩
  refine WP.blk 1 ?_
  show WP 20 199 248 [vR 1, vR x, vR m, vR u, vI i, l5, l6, l7, l8] [vR 1, vI (gi w 1 (i + 2)), vI (gi w 1 (i + 1)), vR x] w Q
  refine WP.blk 1 ?_
  show WP 20 199 250 [vR 1, vR x, vR m, vR u, vI i, l5, l6, l7, l8] [vI i, vR 1, vI (gi w 1 (i + 2)), vI (gi w 1 (i + 1)), vR x] w Q
  refine WP.blk 1 ?_
  show WP 20 199 251 [vR 1, vR x, vR m, vR u, vI i, l5, l6, l7, l8] [vI 3, vI i, vR 1, vI (gi w 1 (i + 2)), vI (gi w 1 (i + 1)), vR x] w Q
  refine WP.blk 1 ?_
  show ir (i + 3) ∧ WP 20 199 252 [vR 1, vR x, vR m, vR u, vI i, l5, l6, l7, l8] [vI (i + 3), vR 1, vI (gi w 1 (i + 2)), vI (gi w 1 (i + 1)), vR x] w Q
  refine ⟨by unfold ir; omega, ?_⟩
  refine WP.blk 1 ?_
  show ((ty w 1 = 11 ∨ ty w 1 = 16 ∨ ty w 1 = 17) ∧ 0 ≤ (i + 3) ∧ (i + 3) < (ln w 1 : Int)) ∧ WP 20 199 253 [vR 1, vR x, vR m, vR u, vI i, l5, l6, l7, l8] [vI (gi w 1 (i + 3)), vI (gi w 1 (i + 2)), vI (gi w 1 (i + 1)), vR x] w Q
  refine ⟨⟨Or.inr (Or.inl h1.1), by omega, by rw [h1.2]; omega⟩, ?_⟩
  refine WP.blk 1 ?_
  show WP 20 199 254 [vR 1, vR x, vR m, vR u, vI i, l5, l6, l7, l8] [vR u, vI (gi w 1 (i + 3)), vI (gi w 1 (i + 2)), vI (gi w 1 (i + 1)), vR x] w Q
  refine WP.call (a := [vR x, vI (gi w 1 (i + 1)), vI (gi w 1 (i + 2)), vI (gi w 1 (i + 3)), vR u]) (rest := []) rfl rfl rfl rfl trivial (by decide) hc (fun r w2 h => ?_)
  obtain ⟨c, rfl, h⟩ := h
  exact ⟨rfl, h⟩
theorem a_cut {M : Nat → Int → Int} {S : SD} {c : Int} {x m u L : Nat} {i : Int} {l5 l6 l7 l8 : V} {Q : Res → Wd → Prop} (hS : isMod S m) (h1 : sT S 1 = 16 ∧ sN S 1 = L) (hu : sT S u = 12 ∧ sN S u = 1) (hi : 0 ≤ i ∧ i + 3 < (L : Int) ∧ L ≤ 2048) (hr : EvQ 3 135 [vR m, vI (M 1 (i + 1)), vI (M 1 (i + 2)), vI (M 1 (i + 3))] (M, S) (LQ S m u c (fun M3 => ∀ l5 l6, WP 20 199 1416 [vR 1, vR x, vR m, vR u, vI i, l5, l6, l7, l8] [] (M3, S) Q))) : WP 20 199 257 [vR 1, vR x, vR m, vR u, vI i, l5, l6, l7, l8] [vI c] (M, S) Q := by
  refine WP.blk 1 ?_
  show WP 20 199 259 [vR 1, vR x, vR m, vR u, vI i, vI c, l6, l7, l8] [] (M, S) Q
  refine WP.blk 1 ?_
  show WP 20 199 260 [vR 1, vR x, vR m, vR u, vI i, vI c, l6, l7, l8] [vR m] (M, S) Q
  refine WP.blk 1 ?_
  show WP 20 199 261 [vR 1, vR x, vR m, vR u, vI i, vI c, l6, l7, l8] [vR 1, vR m] (M, S) Q
  refine WP.blk 1 ?_
  show WP 20 199 263 [vR 1, vR x, vR m, vR u, vI i, vI c, l6, l7, l8] [vI i, vR 1, vR m] (M, S) Q
  refine WP.blk 1 ?_
  show WP 20 199 264 [vR 1, vR x, vR m, vR u, vI i, vI c, l6, l7, l8] [vI 1, vI i, vR 1, vR m] (M, S) Q
  refine WP.blk 1 ?_
  show ir (i + 1) ∧ WP 20 199 265 [vR 1, vR x, vR m, vR u, vI i, vI c, l6, l7, l8] [vI (i + 1), vR 1, vR m] (M, S) Q
  refine ⟨by unfold ir; omega, ?_⟩
  refine WP.blk 1 ?_
  show ((sT S 1 = 11 ∨ sT S 1 = 16 ∨ sT S 1 = 17) ∧ 0 ≤ (i + 1) ∧ (i + 1) < (sN S 1 : Int)) ∧ WP 20 199 266 [vR 1, vR x, vR m, vR u, vI i, vI c, l6, l7, l8] [vI (M 1 (i + 1)), vR m] (M, S) Q
  refine ⟨⟨Or.inr (Or.inl h1.1), by omega, by rw [h1.2]; omega⟩, ?_⟩
  refine WP.blk 1 ?_
  show WP 20 199 267 [vR 1, vR x, vR m, vR u, vI i, vI c, l6, l7, l8] [vR 1, vI (M 1 (i + 1)), vR m] (M, S) Q
  refine WP.blk 1 ?_
  show WP 20 199 269 [vR 1, vR x, vR m, vR u, vI i, vI c, l6, l7, l8] [vI i, vR 1, vI (M 1 (i + 1)), vR m] (M, S) Q
  refine WP.blk 1 ?_
  show WP 20 199 270 [vR 1, vR x, vR m, vR u, vI i, vI c, l6, l7, l8] [vI 2, vI i, vR 1, vI (M 1 (i + 1)), vR m] (M, S) Q
  refine WP.blk 1 ?_
  show ir (i + 2) ∧ WP 20 199 271 [vR 1, vR x, vR m, vR u, vI i, vI c, l6, l7, l8] [vI (i + 2), vR 1, vI (M 1 (i + 1)), vR m] (M, S) Q
  refine ⟨by unfold ir; omega, ?_⟩
  refine WP.blk 1 ?_
  show ((sT S 1 = 11 ∨ sT S 1 = 16 ∨ sT S 1 = 17) ∧ 0 ≤ (i + 2) ∧ (i + 2) < (sN S 1 : Int)) ∧ WP 20 199 272 [vR 1, vR x, vR m, vR u, vI i, vI c, l6, l7, l8] [vI (M 1 (i + 2)), vI (M 1 (i + 1)), vR m] (M, S) Q
  refine ⟨⟨Or.inr (Or.inl h1.1), by omega, by rw [h1.2]; omega⟩, ?_⟩
  refine WP.blk 1 ?_
  show WP 20 199 273 [vR 1, vR x, vR m, vR u, vI i, vI c, l6, l7, l8] [vR 1, vI (M 1 (i + 2)), vI (M 1 (i + 1)), vR m] (M, S) Q
  refine WP.blk 1 ?_
  show WP 20 199 275 [vR 1, vR x, vR m, vR u, vI i, vI c, l6, l7, l8] [vI i, vR 1, vI (M 1 (i + 2)), vI (M 1 (i + 1)), vR m] (M, S) Q
  refine WP.blk 1 ?_
  show WP 20 199 276 [vR 1, vR x, vR m, vR u, vI i, vI c, l6, l7, l8] [vI 3, vI i, vR 1, vI (M 1 (i + 2)), vI (M 1 (i + 1)), vR m] (M, S) Q
  refine WP.blk 1 ?_
  show ir (i + 3) ∧ WP 20 199 277 [vR 1, vR x, vR m, vR u, vI i, vI c, l6, l7, l8] [vI (i + 3), vR 1, vI (M 1 (i + 2)), vI (M 1 (i + 1)), vR m] (M, S) Q
  refine ⟨by unfold ir; omega, ?_⟩
  refine WP.blk 1 ?_
  show ((sT S 1 = 11 ∨ sT S 1 = 16 ∨ sT S 1 = 17) ∧ 0 ≤ (i + 3) ∧ (i + 3) < (sN S 1 : Int)) ∧ WP 20 199 278 [vR 1, vR x, vR m, vR u, vI i, vI c, l6, l7, l8] [vI (M 1 (i + 3)), vI (M 1 (i + 2)), vI (M 1 (i + 1)), vR m] (M, S) Q
  refine ⟨⟨Or.inr (Or.inl h1.1), by omega, by rw [h1.2]; omega⟩, ?_⟩
  refine WP.call (a := [vR m, vI (M 1 (i + 1)), vI (M 1 (i + 2)), vI (M 1 (i + 3))]) (rest := []) rfl rfl rfl rfl ⟨hS.1.1, trivial⟩ (by decide) hr (fun r w2 h => ?_)
  obtain ⟨y, M3, rfl, rfl, hc, h0, hP⟩ := h
  refine ⟨rfl, ?_⟩
  show WP 20 199 281 [vR 1, vR x, vR m, vR u, vI i, vI c, l6, l7, l8] [vI y] (M3, S) Q
  refine WP.blk 1 ?_
  show WP 20 199 283 [vR 1, vR x, vR m, vR u, vI i, vI c, vI y, l7, l8] [] (M3, S) Q
  refine WP.blk 1 ?_
  show WP 20 199 284 [vR 1, vR x, vR m, vR u, vI i, vI c, vI y, l7, l8] [vR m] (M3, S) Q
  refine WP.cl (a := [vR m]) (rest := []) rfl rfl rfl rfl ⟨hS.1.1, trivial⟩ (by decide) (q_thrown hS ⟨rfl, ?_⟩)
  show WP 20 199 287 [vR 1, vR x, vR m, vR u, vI i, vI c, vI y, l7, l8] [vI (M3 m 5)] (M3, S) Q
  refine WP.blk 1 ?_
  show WP 20 199 289 [vR 1, vR x, vR m, vR u, vI i, vI c, vI y, l7, l8] [vI c, vI (M3 m 5)] (M3, S) Q
  refine WP.blk 1 ?_
  show WP 20 199 (if cnd .eq (M3 m 5) c = true then 294 else 292) [vR 1, vR x, vR m, vR u, vI i, vI c, vI y, l7, l8] [] (M3, S) Q
  refine br_eq (fun _ => ?_) (fun hb => absurd hc hb)
  show WP 20 199 294 [vR 1, vR x, vR m, vR u, vI i, vI c, vI y, l7, l8] [] (M3, S) Q
  refine WP.blk 1 ?_
  show WP 20 199 296 [vR 1, vR x, vR m, vR u, vI i, vI c, vI y, l7, l8] [vI c] (M3, S) Q
  refine WP.blk 1 ?_
  show WP 20 199 (if cnd .ne c 0 = true then 311 else 299) [vR 1, vR x, vR m, vR u, vI i, vI c, vI y, l7, l8] [] (M3, S) Q
  refine br_ne (fun _ => ?_) (fun hb => ?_)
  · show WP 20 199 311 [vR 1, vR x, vR m, vR u, vI i, vI c, vI y, l7, l8] [] (M3, S) Q
    refine WP.blk 1 ?_
    exact hP _ _
  · show WP 20 199 299 [vR 1, vR x, vR m, vR u, vI i, vI c, vI y, l7, l8] [] (M3, S) Q
    refine WP.blk 1 ?_
    show WP 20 199 300 [vR 1, vR x, vR m, vR u, vI i, vI c, vI y, l7, l8] [vR u] (M3, S) Q
    refine WP.blk 1 ?_
    show WP 20 199 301 [vR 1, vR x, vR m, vR u, vI i, vI c, vI y, l7, l8] [vI 0, vR u] (M3, S) Q
    refine WP.blk 1 ?_
    show (sT S u = 12 ∧ (0 : Int) ≤ 0 ∧ (0 : Int) < (sN S u : Int)) ∧ WP 20 199 302 [vR 1, vR x, vR m, vR u, vI i, vI c, vI y, l7, l8] [vL (M3 u 0)] (M3, S) Q
    refine ⟨⟨hu.1, by decide, by rw [hu.2]; decide⟩, ?_⟩
    refine WP.blk 1 ?_
    show WP 20 199 304 [vR 1, vR x, vR m, vR u, vI i, vI c, vI y, l7, l8] [vI y, vL (M3 u 0)] (M3, S) Q
    refine WP.blk 1 ?_
    show WP 20 199 305 [vR 1, vR x, vR m, vR u, vI i, vI c, vI y, l7, l8] [vL y, vL (M3 u 0)] (M3, S) Q
    refine WP.blk 1 ?_
    show WP 20 199 306 [vR 1, vR x, vR m, vR u, vI i, vI c, vI y, l7, l8] [vI (lC (M3 u 0) y)] (M3, S) Q
    rw [h0 hb, lC_s]
    refine WP.blk 1 ?_
    show WP 20 199 (if cnd .eq 0 0 = true then 311 else 309) [vR 1, vR x, vR m, vR u, vI i, vI c, vI y, l7, l8] [] (M3, S) Q
    refine br_eq (fun _ => ?_) (fun hb => absurd rfl hb)
    show WP 20 199 311 [vR 1, vR x, vR m, vR u, vI i, vI c, vI y, l7, l8] [] (M3, S) Q
    refine WP.blk 1 ?_
    exact hP _ _
theorem h_remove {w : Wd} {x m u L : Nat} {i : Int} {l5 l6 l7 l8 : V} {Q : Res → Wd → Prop} (h1 : ty w 1 = 16 ∧ ln w 1 = L) (hi : 0 ≤ i ∧ i + 3 < (L : Int) ∧ L ≤ 2048) (hc : EvQ 8 183 [vR x, vI (gi w 1 (i + 1)), vR u] w (fun r w2 => ∃ c, r = (0, vI c) ∧ WP 20 199 325 [vR 1, vR x, vR m, vR u, vI i, l5, l6, l7, l8] [vI c] w2 Q)) : WP 20 199 314 [vR 1, vR x, vR m, vR u, vI i, l5, l6, l7, l8] [] w Q := by
  refine WP.blk 1 ?_
  show WP 20 199 315 [vR 1, vR x, vR m, vR u, vI i, l5, l6, l7, l8] [vR x] w Q
  refine WP.blk 1 ?_
  show WP 20 199 316 [vR 1, vR x, vR m, vR u, vI i, l5, l6, l7, l8] [vR 1, vR x] w Q
  refine WP.blk 1 ?_
  show WP 20 199 318 [vR 1, vR x, vR m, vR u, vI i, l5, l6, l7, l8] [vI i, vR 1, vR x] w Q
  refine WP.blk 1 ?_
  show WP 20 199 319 [vR 1, vR x, vR m, vR u, vI i, l5, l6, l7, l8] [vI 1, vI i, vR 1, vR x] w Q
  refine WP.blk 1 ?_
  show ir (i + 1) ∧ WP 20 199 320 [vR 1, vR x, vR m, vR u, vI i, l5, l6, l7, l8] [vI (i + 1), vR 1, vR x] w Q
  refine ⟨by unfold ir; omega, ?_⟩
  refine WP.blk 1 ?_
  show ((ty w 1 = 11 ∨ ty w 1 = 16 ∨ ty w 1 = 17) ∧ 0 ≤ (i + 1) ∧ (i + 1) < (ln w 1 : Int)) ∧ WP 20 199 321 [vR 1, vR x, vR m, vR u, vI i, l5, l6, l7, l8] [vI (gi w 1 (i + 1)), vR x] w Q
  refine ⟨⟨Or.inr (Or.inl h1.1), by omega, by rw [h1.2]; omega⟩, ?_⟩
  refine WP.blk 1 ?_
  show WP 20 199 322 [vR 1, vR x, vR m, vR u, vI i, l5, l6, l7, l8] [vR u, vI (gi w 1 (i + 1)), vR x] w Q
  refine WP.call (a := [vR x, vI (gi w 1 (i + 1)), vR u]) (rest := []) rfl rfl rfl rfl trivial (by decide) hc (fun r w2 h => ?_)
  obtain ⟨c, rfl, h⟩ := h
  exact ⟨rfl, h⟩
theorem a_remove {M : Nat → Int → Int} {S : SD} {c : Int} {x m u L : Nat} {i : Int} {l5 l6 l7 l8 : V} {Q : Res → Wd → Prop} (hS : isMod S m) (h1 : sT S 1 = 16 ∧ sN S 1 = L) (hu : sT S u = 12 ∧ sN S u = 1) (hi : 0 ≤ i ∧ i + 3 < (L : Int) ∧ L ≤ 2048) (hr : EvQ 3 136 [vR m, vI (M 1 (i + 1))] (M, S) (LQ S m u c (fun M3 => ∀ l5 l6, WP 20 199 1416 [vR 1, vR x, vR m, vR u, vI i, l5, l6, l7, l8] [] (M3, S) Q))) : WP 20 199 325 [vR 1, vR x, vR m, vR u, vI i, l5, l6, l7, l8] [vI c] (M, S) Q := by
  refine WP.blk 1 ?_
  show WP 20 199 327 [vR 1, vR x, vR m, vR u, vI i, vI c, l6, l7, l8] [] (M, S) Q
  refine WP.blk 1 ?_
  show WP 20 199 328 [vR 1, vR x, vR m, vR u, vI i, vI c, l6, l7, l8] [vR m] (M, S) Q
  refine WP.blk 1 ?_
  show WP 20 199 329 [vR 1, vR x, vR m, vR u, vI i, vI c, l6, l7, l8] [vR 1, vR m] (M, S) Q
  refine WP.blk 1 ?_
  show WP 20 199 331 [vR 1, vR x, vR m, vR u, vI i, vI c, l6, l7, l8] [vI i, vR 1, vR m] (M, S) Q
  refine WP.blk 1 ?_
  show WP 20 199 332 [vR 1, vR x, vR m, vR u, vI i, vI c, l6, l7, l8] [vI 1, vI i, vR 1, vR m] (M, S) Q
  refine WP.blk 1 ?_
  show ir (i + 1) ∧ WP 20 199 333 [vR 1, vR x, vR m, vR u, vI i, vI c, l6, l7, l8] [vI (i + 1), vR 1, vR m] (M, S) Q
  refine ⟨by unfold ir; omega, ?_⟩
  refine WP.blk 1 ?_
  show ((sT S 1 = 11 ∨ sT S 1 = 16 ∨ sT S 1 = 17) ∧ 0 ≤ (i + 1) ∧ (i + 1) < (sN S 1 : Int)) ∧ WP 20 199 334 [vR 1, vR x, vR m, vR u, vI i, vI c, l6, l7, l8] [vI (M 1 (i + 1)), vR m] (M, S) Q
  refine ⟨⟨Or.inr (Or.inl h1.1), by omega, by rw [h1.2]; omega⟩, ?_⟩
  refine WP.call (a := [vR m, vI (M 1 (i + 1))]) (rest := []) rfl rfl rfl rfl ⟨hS.1.1, trivial⟩ (by decide) hr (fun r w2 h => ?_)
  obtain ⟨y, M3, rfl, rfl, hc, h0, hP⟩ := h
  refine ⟨rfl, ?_⟩
  show WP 20 199 337 [vR 1, vR x, vR m, vR u, vI i, vI c, l6, l7, l8] [vI y] (M3, S) Q
  refine WP.blk 1 ?_
  show WP 20 199 339 [vR 1, vR x, vR m, vR u, vI i, vI c, vI y, l7, l8] [] (M3, S) Q
  refine WP.blk 1 ?_
  show WP 20 199 340 [vR 1, vR x, vR m, vR u, vI i, vI c, vI y, l7, l8] [vR m] (M3, S) Q
  refine WP.cl (a := [vR m]) (rest := []) rfl rfl rfl rfl ⟨hS.1.1, trivial⟩ (by decide) (q_thrown hS ⟨rfl, ?_⟩)
  show WP 20 199 343 [vR 1, vR x, vR m, vR u, vI i, vI c, vI y, l7, l8] [vI (M3 m 5)] (M3, S) Q
  refine WP.blk 1 ?_
  show WP 20 199 345 [vR 1, vR x, vR m, vR u, vI i, vI c, vI y, l7, l8] [vI c, vI (M3 m 5)] (M3, S) Q
  refine WP.blk 1 ?_
  show WP 20 199 (if cnd .eq (M3 m 5) c = true then 350 else 348) [vR 1, vR x, vR m, vR u, vI i, vI c, vI y, l7, l8] [] (M3, S) Q
  refine br_eq (fun _ => ?_) (fun hb => absurd hc hb)
  show WP 20 199 350 [vR 1, vR x, vR m, vR u, vI i, vI c, vI y, l7, l8] [] (M3, S) Q
  refine WP.blk 1 ?_
  show WP 20 199 352 [vR 1, vR x, vR m, vR u, vI i, vI c, vI y, l7, l8] [vI c] (M3, S) Q
  refine WP.blk 1 ?_
  show WP 20 199 (if cnd .ne c 0 = true then 367 else 355) [vR 1, vR x, vR m, vR u, vI i, vI c, vI y, l7, l8] [] (M3, S) Q
  refine br_ne (fun _ => ?_) (fun hb => ?_)
  · show WP 20 199 367 [vR 1, vR x, vR m, vR u, vI i, vI c, vI y, l7, l8] [] (M3, S) Q
    refine WP.blk 1 ?_
    exact hP _ _
  · show WP 20 199 355 [vR 1, vR x, vR m, vR u, vI i, vI c, vI y, l7, l8] [] (M3, S) Q
    refine WP.blk 1 ?_
    show WP 20 199 356 [vR 1, vR x, vR m, vR u, vI i, vI c, vI y, l7, l8] [vR u] (M3, S) Q
    refine WP.blk 1 ?_
    show WP 20 199 357 [vR 1, vR x, vR m, vR u, vI i, vI c, vI y, l7, l8] [vI 0, vR u] (M3, S) Q
    refine WP.blk 1 ?_
    show (sT S u = 12 ∧ (0 : Int) ≤ 0 ∧ (0 : Int) < (sN S u : Int)) ∧ WP 20 199 358 [vR 1, vR x, vR m, vR u, vI i, vI c, vI y, l7, l8] [vL (M3 u 0)] (M3, S) Q
    refine ⟨⟨hu.1, by decide, by rw [hu.2]; decide⟩, ?_⟩
    refine WP.blk 1 ?_
    show WP 20 199 360 [vR 1, vR x, vR m, vR u, vI i, vI c, vI y, l7, l8] [vI y, vL (M3 u 0)] (M3, S) Q
    refine WP.blk 1 ?_
    show WP 20 199 361 [vR 1, vR x, vR m, vR u, vI i, vI c, vI y, l7, l8] [vL y, vL (M3 u 0)] (M3, S) Q
    refine WP.blk 1 ?_
    show WP 20 199 362 [vR 1, vR x, vR m, vR u, vI i, vI c, vI y, l7, l8] [vI (lC (M3 u 0) y)] (M3, S) Q
    rw [h0 hb, lC_s]
    refine WP.blk 1 ?_
    show WP 20 199 (if cnd .eq 0 0 = true then 367 else 365) [vR 1, vR x, vR m, vR u, vI i, vI c, vI y, l7, l8] [] (M3, S) Q
    refine br_eq (fun _ => ?_) (fun hb => absurd rfl hb)
    show WP 20 199 367 [vR 1, vR x, vR m, vR u, vI i, vI c, vI y, l7, l8] [] (M3, S) Q
    refine WP.blk 1 ?_
    exact hP _ _
theorem h_drop {w : Wd} {x m u L : Nat} {i : Int} {l5 l6 l7 l8 : V} {Q : Res → Wd → Prop} (h1 : ty w 1 = 16 ∧ ln w 1 = L) (hi : 0 ≤ i ∧ i + 3 < (L : Int) ∧ L ≤ 2048) (hc : EvQ 8 184 [vR x, vI (gi w 1 (i + 1)), vR u] w (fun r w2 => ∃ c, r = (0, vI c) ∧ WP 20 199 381 [vR 1, vR x, vR m, vR u, vI i, l5, l6, l7, l8] [vI c] w2 Q)) : WP 20 199 370 [vR 1, vR x, vR m, vR u, vI i, l5, l6, l7, l8] [] w Q := by
  refine WP.blk 1 ?_
  show WP 20 199 371 [vR 1, vR x, vR m, vR u, vI i, l5, l6, l7, l8] [vR x] w Q
  refine WP.blk 1 ?_
  show WP 20 199 372 [vR 1, vR x, vR m, vR u, vI i, l5, l6, l7, l8] [vR 1, vR x] w Q
  refine WP.blk 1 ?_
  show WP 20 199 374 [vR 1, vR x, vR m, vR u, vI i, l5, l6, l7, l8] [vI i, vR 1, vR x] w Q
  refine WP.blk 1 ?_
  show WP 20 199 375 [vR 1, vR x, vR m, vR u, vI i, l5, l6, l7, l8] [vI 1, vI i, vR 1, vR x] w Q
  refine WP.blk 1 ?_
  show ir (i + 1) ∧ WP 20 199 376 [vR 1, vR x, vR m, vR u, vI i, l5, l6, l7, l8] [vI (i + 1), vR 1, vR x] w Q
  refine ⟨by unfold ir; omega, ?_⟩
  refine WP.blk 1 ?_
  show ((ty w 1 = 11 ∨ ty w 1 = 16 ∨ ty w 1 = 17) ∧ 0 ≤ (i + 1) ∧ (i + 1) < (ln w 1 : Int)) ∧ WP 20 199 377 [vR 1, vR x, vR m, vR u, vI i, l5, l6, l7, l8] [vI (gi w 1 (i + 1)), vR x] w Q
  refine ⟨⟨Or.inr (Or.inl h1.1), by omega, by rw [h1.2]; omega⟩, ?_⟩
  refine WP.blk 1 ?_
  show WP 20 199 378 [vR 1, vR x, vR m, vR u, vI i, l5, l6, l7, l8] [vR u, vI (gi w 1 (i + 1)), vR x] w Q
  refine WP.call (a := [vR x, vI (gi w 1 (i + 1)), vR u]) (rest := []) rfl rfl rfl rfl trivial (by decide) hc (fun r w2 h => ?_)
  obtain ⟨c, rfl, h⟩ := h
  exact ⟨rfl, h⟩
theorem a_drop {M : Nat → Int → Int} {S : SD} {c : Int} {x m u L : Nat} {i : Int} {l5 l6 l7 l8 : V} {Q : Res → Wd → Prop} (hS : isMod S m) (h1 : sT S 1 = 16 ∧ sN S 1 = L) (hu : sT S u = 12 ∧ sN S u = 1) (hi : 0 ≤ i ∧ i + 3 < (L : Int) ∧ L ≤ 2048) (hr : EvQ 3 137 [vR m, vI (M 1 (i + 1))] (M, S) (LQ S m u c (fun M3 => ∀ l5 l6, WP 20 199 1416 [vR 1, vR x, vR m, vR u, vI i, l5, l6, l7, l8] [] (M3, S) Q))) : WP 20 199 381 [vR 1, vR x, vR m, vR u, vI i, l5, l6, l7, l8] [vI c] (M, S) Q := by
  refine WP.blk 1 ?_
  show WP 20 199 383 [vR 1, vR x, vR m, vR u, vI i, vI c, l6, l7, l8] [] (M, S) Q
  refine WP.blk 1 ?_
  show WP 20 199 384 [vR 1, vR x, vR m, vR u, vI i, vI c, l6, l7, l8] [vR m] (M, S) Q
  refine WP.blk 1 ?_
  show WP 20 199 385 [vR 1, vR x, vR m, vR u, vI i, vI c, l6, l7, l8] [vR 1, vR m] (M, S) Q
  refine WP.blk 1 ?_
  show WP 20 199 387 [vR 1, vR x, vR m, vR u, vI i, vI c, l6, l7, l8] [vI i, vR 1, vR m] (M, S) Q
  refine WP.blk 1 ?_
  show WP 20 199 388 [vR 1, vR x, vR m, vR u, vI i, vI c, l6, l7, l8] [vI 1, vI i, vR 1, vR m] (M, S) Q
  refine WP.blk 1 ?_
  show ir (i + 1) ∧ WP 20 199 389 [vR 1, vR x, vR m, vR u, vI i, vI c, l6, l7, l8] [vI (i + 1), vR 1, vR m] (M, S) Q
  refine ⟨by unfold ir; omega, ?_⟩
  refine WP.blk 1 ?_
  show ((sT S 1 = 11 ∨ sT S 1 = 16 ∨ sT S 1 = 17) ∧ 0 ≤ (i + 1) ∧ (i + 1) < (sN S 1 : Int)) ∧ WP 20 199 390 [vR 1, vR x, vR m, vR u, vI i, vI c, l6, l7, l8] [vI (M 1 (i + 1)), vR m] (M, S) Q
  refine ⟨⟨Or.inr (Or.inl h1.1), by omega, by rw [h1.2]; omega⟩, ?_⟩
  refine WP.call (a := [vR m, vI (M 1 (i + 1))]) (rest := []) rfl rfl rfl rfl ⟨hS.1.1, trivial⟩ (by decide) hr (fun r w2 h => ?_)
  obtain ⟨y, M3, rfl, rfl, hc, h0, hP⟩ := h
  refine ⟨rfl, ?_⟩
  show WP 20 199 393 [vR 1, vR x, vR m, vR u, vI i, vI c, l6, l7, l8] [vI y] (M3, S) Q
  refine WP.blk 1 ?_
  show WP 20 199 395 [vR 1, vR x, vR m, vR u, vI i, vI c, vI y, l7, l8] [] (M3, S) Q
  refine WP.blk 1 ?_
  show WP 20 199 396 [vR 1, vR x, vR m, vR u, vI i, vI c, vI y, l7, l8] [vR m] (M3, S) Q
  refine WP.cl (a := [vR m]) (rest := []) rfl rfl rfl rfl ⟨hS.1.1, trivial⟩ (by decide) (q_thrown hS ⟨rfl, ?_⟩)
  show WP 20 199 399 [vR 1, vR x, vR m, vR u, vI i, vI c, vI y, l7, l8] [vI (M3 m 5)] (M3, S) Q
  refine WP.blk 1 ?_
  show WP 20 199 401 [vR 1, vR x, vR m, vR u, vI i, vI c, vI y, l7, l8] [vI c, vI (M3 m 5)] (M3, S) Q
  refine WP.blk 1 ?_
  show WP 20 199 (if cnd .eq (M3 m 5) c = true then 406 else 404) [vR 1, vR x, vR m, vR u, vI i, vI c, vI y, l7, l8] [] (M3, S) Q
  refine br_eq (fun _ => ?_) (fun hb => absurd hc hb)
  show WP 20 199 406 [vR 1, vR x, vR m, vR u, vI i, vI c, vI y, l7, l8] [] (M3, S) Q
  refine WP.blk 1 ?_
  show WP 20 199 408 [vR 1, vR x, vR m, vR u, vI i, vI c, vI y, l7, l8] [vI c] (M3, S) Q
  refine WP.blk 1 ?_
  show WP 20 199 (if cnd .ne c 0 = true then 423 else 411) [vR 1, vR x, vR m, vR u, vI i, vI c, vI y, l7, l8] [] (M3, S) Q
  refine br_ne (fun _ => ?_) (fun hb => ?_)
  · show WP 20 199 423 [vR 1, vR x, vR m, vR u, vI i, vI c, vI y, l7, l8] [] (M3, S) Q
    refine WP.blk 1 ?_
    exact hP _ _
  · show WP 20 199 411 [vR 1, vR x, vR m, vR u, vI i, vI c, vI y, l7, l8] [] (M3, S) Q
    refine WP.blk 1 ?_
    show WP 20 199 412 [vR 1, vR x, vR m, vR u, vI i, vI c, vI y, l7, l8] [vR u] (M3, S) Q
    refine WP.blk 1 ?_
    show WP 20 199 413 [vR 1, vR x, vR m, vR u, vI i, vI c, vI y, l7, l8] [vI 0, vR u] (M3, S) Q
    refine WP.blk 1 ?_
    show (sT S u = 12 ∧ (0 : Int) ≤ 0 ∧ (0 : Int) < (sN S u : Int)) ∧ WP 20 199 414 [vR 1, vR x, vR m, vR u, vI i, vI c, vI y, l7, l8] [vL (M3 u 0)] (M3, S) Q
    refine ⟨⟨hu.1, by decide, by rw [hu.2]; decide⟩, ?_⟩
    refine WP.blk 1 ?_
    show WP 20 199 416 [vR 1, vR x, vR m, vR u, vI i, vI c, vI y, l7, l8] [vI y, vL (M3 u 0)] (M3, S) Q
    refine WP.blk 1 ?_
    show WP 20 199 417 [vR 1, vR x, vR m, vR u, vI i, vI c, vI y, l7, l8] [vL y, vL (M3 u 0)] (M3, S) Q
    refine WP.blk 1 ?_
    show WP 20 199 418 [vR 1, vR x, vR m, vR u, vI i, vI c, vI y, l7, l8] [vI (lC (M3 u 0) y)] (M3, S) Q
    rw [h0 hb, lC_s]
    refine WP.blk 1 ?_
    show WP 20 199 (if cnd .eq 0 0 = true then 423 else 421) [vR 1, vR x, vR m, vR u, vI i, vI c, vI y, l7, l8] [] (M3, S) Q
    refine br_eq (fun _ => ?_) (fun hb => absurd rfl hb)
    show WP 20 199 423 [vR 1, vR x, vR m, vR u, vI i, vI c, vI y, l7, l8] [] (M3, S) Q
    refine WP.blk 1 ?_
    exact hP _ _
theorem h_setColor {w : Wd} {x m u L : Nat} {i : Int} {l5 l6 l7 l8 : V} {Q : Res → Wd → Prop} (h1 : ty w 1 = 16 ∧ ln w 1 = L) (hi : 0 ≤ i ∧ i + 3 < (L : Int) ∧ L ≤ 2048) (hc : EvQ 6 185 [vR x, vI (gi w 1 (i + 1)), vI (gi w 1 (i + 2)), vR u] w (fun r w2 => ∃ c, r = (0, vI c) ∧ WP 20 199 443 [vR 1, vR x, vR m, vR u, vI i, l5, l6, l7, l8] [vI c] w2 Q)) : WP 20 199 426 [vR 1, vR x, vR m, vR u, vI i, l5, l6, l7, l8] [] w Q := by
  refine WP.blk 1 ?_
  show WP 20 199 427 [vR 1, vR x, vR m, vR u, vI i, l5, l6, l7, l8] [vR x] w Q
  refine WP.blk 1 ?_
  show WP 20 199 428 [vR 1, vR x, vR m, vR u, vI i, l5, l6, l7, l8] [vR 1, vR x] w Q
  refine WP.blk 1 ?_
  show WP 20 199 430 [vR 1, vR x, vR m, vR u, vI i, l5, l6, l7, l8] [vI i, vR 1, vR x] w Q
  refine WP.blk 1 ?_
  show WP 20 199 431 [vR 1, vR x, vR m, vR u, vI i, l5, l6, l7, l8] [vI 1, vI i, vR 1, vR x] w Q
  refine WP.blk 1 ?_
  show ir (i + 1) ∧ WP 20 199 432 [vR 1, vR x, vR m, vR u, vI i, l5, l6, l7, l8] [vI (i + 1), vR 1, vR x] w Q
  refine ⟨by unfold ir; omega, ?_⟩
  refine WP.blk 1 ?_
  show ((ty w 1 = 11 ∨ ty w 1 = 16 ∨ ty w 1 = 17) ∧ 0 ≤ (i + 1) ∧ (i + 1) < (ln w 1 : Int)) ∧ WP 20 199 433 [vR 1, vR x, vR m, vR u, vI i, l5, l6, l7, l8] [vI (gi w 1 (i + 1)), vR x] w Q
  refine ⟨⟨Or.inr (Or.inl h1.1), by omega, by rw [h1.2]; omega⟩, ?_⟩
  refine WP.blk 1 ?_
  show WP 20 199 434 [vR 1, vR x, vR m, vR u, vI i, l5, l6, l7, l8] [vR 1, vI (gi w 1 (i + 1)), vR x] w Q
  refine WP.blk 1 ?_
  show WP 20 199 436 [vR 1, vR x, vR m, vR u, vI i, l5, l6, l7, l8] [vI i, vR 1, vI (gi w 1 (i + 1)), vR x] w Q
  refine WP.blk 1 ?_
  show WP 20 199 437 [vR 1, vR x, vR m, vR u, vI i, l5, l6, l7, l8] [vI 2, vI i, vR 1, vI (gi w 1 (i + 1)), vR x] w Q
  refine WP.blk 1 ?_
  show ir (i + 2) ∧ WP 20 199 438 [vR 1, vR x, vR m, vR u, vI i, l5, l6, l7, l8] [vI (i + 2), vR 1, vI (gi w 1 (i + 1)), vR x] w Q
  refine ⟨by unfold ir; omega, ?_⟩
  refine WP.blk 1 ?_
  show ((ty w 1 = 11 ∨ ty w 1 = 16 ∨ ty w 1 = 17) ∧ 0 ≤ (i + 2) ∧ (i + 2) < (ln w 1 : Int)) ∧ WP 20 199 439 [vR 1, vR x, vR m, vR u, vI i, l5, l6, l7, l8] [vI (gi w 1 (i + 2)), vI (gi w 1 (i + 1)), vR x] w Q
  refine ⟨⟨Or.inr (Or.inl h1.1), by omega, by rw [h1.2]; omega⟩, ?_⟩
  refine WP.blk 1 ?_
  show WP 20 199 440 [vR 1, vR x, vR m, vR u, vI i, l5, l6, l7, l8] [vR u, vI (gi w 1 (i + 2)), vI (gi w 1 (i + 1)), vR x] w Q
  refine WP.call (a := [vR x, vI (gi w 1 (i + 1)), vI (gi w 1 (i + 2)), vR u]) (rest := []) rfl rfl rfl rfl trivial (by decide) hc (fun r w2 h => ?_)
  obtain ⟨c, rfl, h⟩ := h
  exact ⟨rfl, h⟩
theorem a_setColor {M : Nat → Int → Int} {S : SD} {c : Int} {x m u L : Nat} {i : Int} {l5 l6 l7 l8 : V} {Q : Res → Wd → Prop} (hS : isMod S m) (h1 : sT S 1 = 16 ∧ sN S 1 = L) (hu : sT S u = 12 ∧ sN S u = 1) (hi : 0 ≤ i ∧ i + 3 < (L : Int) ∧ L ≤ 2048) (hr : EvQ 3 138 [vR m, vI (M 1 (i + 1)), vI (M 1 (i + 2))] (M, S) (LQ S m u c (fun M3 => ∀ l5 l6, WP 20 199 1416 [vR 1, vR x, vR m, vR u, vI i, l5, l6, l7, l8] [] (M3, S) Q))) : WP 20 199 443 [vR 1, vR x, vR m, vR u, vI i, l5, l6, l7, l8] [vI c] (M, S) Q := by
  refine WP.blk 1 ?_
  show WP 20 199 445 [vR 1, vR x, vR m, vR u, vI i, vI c, l6, l7, l8] [] (M, S) Q
  refine WP.blk 1 ?_
  show WP 20 199 446 [vR 1, vR x, vR m, vR u, vI i, vI c, l6, l7, l8] [vR m] (M, S) Q
  refine WP.blk 1 ?_
  show WP 20 199 447 [vR 1, vR x, vR m, vR u, vI i, vI c, l6, l7, l8] [vR 1, vR m] (M, S) Q
  refine WP.blk 1 ?_
  show WP 20 199 449 [vR 1, vR x, vR m, vR u, vI i, vI c, l6, l7, l8] [vI i, vR 1, vR m] (M, S) Q
  refine WP.blk 1 ?_
  show WP 20 199 450 [vR 1, vR x, vR m, vR u, vI i, vI c, l6, l7, l8] [vI 1, vI i, vR 1, vR m] (M, S) Q
  refine WP.blk 1 ?_
  show ir (i + 1) ∧ WP 20 199 451 [vR 1, vR x, vR m, vR u, vI i, vI c, l6, l7, l8] [vI (i + 1), vR 1, vR m] (M, S) Q
  refine ⟨by unfold ir; omega, ?_⟩
  refine WP.blk 1 ?_
  show ((sT S 1 = 11 ∨ sT S 1 = 16 ∨ sT S 1 = 17) ∧ 0 ≤ (i + 1) ∧ (i + 1) < (sN S 1 : Int)) ∧ WP 20 199 452 [vR 1, vR x, vR m, vR u, vI i, vI c, l6, l7, l8] [vI (M 1 (i + 1)), vR m] (M, S) Q
  refine ⟨⟨Or.inr (Or.inl h1.1), by omega, by rw [h1.2]; omega⟩, ?_⟩
  refine WP.blk 1 ?_
  show WP 20 199 453 [vR 1, vR x, vR m, vR u, vI i, vI c, l6, l7, l8] [vR 1, vI (M 1 (i + 1)), vR m] (M, S) Q
  refine WP.blk 1 ?_
  show WP 20 199 455 [vR 1, vR x, vR m, vR u, vI i, vI c, l6, l7, l8] [vI i, vR 1, vI (M 1 (i + 1)), vR m] (M, S) Q
  refine WP.blk 1 ?_
  show WP 20 199 456 [vR 1, vR x, vR m, vR u, vI i, vI c, l6, l7, l8] [vI 2, vI i, vR 1, vI (M 1 (i + 1)), vR m] (M, S) Q
  refine WP.blk 1 ?_
  show ir (i + 2) ∧ WP 20 199 457 [vR 1, vR x, vR m, vR u, vI i, vI c, l6, l7, l8] [vI (i + 2), vR 1, vI (M 1 (i + 1)), vR m] (M, S) Q
  refine ⟨by unfold ir; omega, ?_⟩
  refine WP.blk 1 ?_
  show ((sT S 1 = 11 ∨ sT S 1 = 16 ∨ sT S 1 = 17) ∧ 0 ≤ (i + 2) ∧ (i + 2) < (sN S 1 : Int)) ∧ WP 20 199 458 [vR 1, vR x, vR m, vR u, vI i, vI c, l6, l7, l8] [vI (M 1 (i + 2)), vI (M 1 (i + 1)), vR m] (M, S) Q
  refine ⟨⟨Or.inr (Or.inl h1.1), by omega, by rw [h1.2]; omega⟩, ?_⟩
  refine WP.call (a := [vR m, vI (M 1 (i + 1)), vI (M 1 (i + 2))]) (rest := []) rfl rfl rfl rfl ⟨hS.1.1, trivial⟩ (by decide) hr (fun r w2 h => ?_)
  obtain ⟨y, M3, rfl, rfl, hc, h0, hP⟩ := h
  refine ⟨rfl, ?_⟩
  show WP 20 199 461 [vR 1, vR x, vR m, vR u, vI i, vI c, l6, l7, l8] [vI y] (M3, S) Q
  refine WP.blk 1 ?_
  show WP 20 199 463 [vR 1, vR x, vR m, vR u, vI i, vI c, vI y, l7, l8] [] (M3, S) Q
  refine WP.blk 1 ?_
  show WP 20 199 464 [vR 1, vR x, vR m, vR u, vI i, vI c, vI y, l7, l8] [vR m] (M3, S) Q
  refine WP.cl (a := [vR m]) (rest := []) rfl rfl rfl rfl ⟨hS.1.1, trivial⟩ (by decide) (q_thrown hS ⟨rfl, ?_⟩)
  show WP 20 199 467 [vR 1, vR x, vR m, vR u, vI i, vI c, vI y, l7, l8] [vI (M3 m 5)] (M3, S) Q
  refine WP.blk 1 ?_
  show WP 20 199 469 [vR 1, vR x, vR m, vR u, vI i, vI c, vI y, l7, l8] [vI c, vI (M3 m 5)] (M3, S) Q
  refine WP.blk 1 ?_
  show WP 20 199 (if cnd .eq (M3 m 5) c = true then 474 else 472) [vR 1, vR x, vR m, vR u, vI i, vI c, vI y, l7, l8] [] (M3, S) Q
  refine br_eq (fun _ => ?_) (fun hb => absurd hc hb)
  show WP 20 199 474 [vR 1, vR x, vR m, vR u, vI i, vI c, vI y, l7, l8] [] (M3, S) Q
  refine WP.blk 1 ?_
  show WP 20 199 476 [vR 1, vR x, vR m, vR u, vI i, vI c, vI y, l7, l8] [vI c] (M3, S) Q
  refine WP.blk 1 ?_
  show WP 20 199 (if cnd .ne c 0 = true then 491 else 479) [vR 1, vR x, vR m, vR u, vI i, vI c, vI y, l7, l8] [] (M3, S) Q
  refine br_ne (fun _ => ?_) (fun hb => ?_)
  · show WP 20 199 491 [vR 1, vR x, vR m, vR u, vI i, vI c, vI y, l7, l8] [] (M3, S) Q
    refine WP.blk 1 ?_
    exact hP _ _
  · show WP 20 199 479 [vR 1, vR x, vR m, vR u, vI i, vI c, vI y, l7, l8] [] (M3, S) Q
    refine WP.blk 1 ?_
    show WP 20 199 480 [vR 1, vR x, vR m, vR u, vI i, vI c, vI y, l7, l8] [vR u] (M3, S) Q
    refine WP.blk 1 ?_
    show WP 20 199 481 [vR 1, vR x, vR m, vR u, vI i, vI c, vI y, l7, l8] [vI 0, vR u] (M3, S) Q
    refine WP.blk 1 ?_
    show (sT S u = 12 ∧ (0 : Int) ≤ 0 ∧ (0 : Int) < (sN S u : Int)) ∧ WP 20 199 482 [vR 1, vR x, vR m, vR u, vI i, vI c, vI y, l7, l8] [vL (M3 u 0)] (M3, S) Q
    refine ⟨⟨hu.1, by decide, by rw [hu.2]; decide⟩, ?_⟩
    refine WP.blk 1 ?_
    show WP 20 199 484 [vR 1, vR x, vR m, vR u, vI i, vI c, vI y, l7, l8] [vI y, vL (M3 u 0)] (M3, S) Q
    refine WP.blk 1 ?_
    show WP 20 199 485 [vR 1, vR x, vR m, vR u, vI i, vI c, vI y, l7, l8] [vL y, vL (M3 u 0)] (M3, S) Q
    refine WP.blk 1 ?_
    show WP 20 199 486 [vR 1, vR x, vR m, vR u, vI i, vI c, vI y, l7, l8] [vI (lC (M3 u 0) y)] (M3, S) Q
    rw [h0 hb, lC_s]
    refine WP.blk 1 ?_
    show WP 20 199 (if cnd .eq 0 0 = true then 491 else 489) [vR 1, vR x, vR m, vR u, vI i, vI c, vI y, l7, l8] [] (M3, S) Q
    refine br_eq (fun _ => ?_) (fun hb => absurd rfl hb)
    show WP 20 199 491 [vR 1, vR x, vR m, vR u, vI i, vI c, vI y, l7, l8] [] (M3, S) Q
    refine WP.blk 1 ?_
    exact hP _ _
theorem h_setLimits {w : Wd} {x m u L : Nat} {i : Int} {l5 l6 l7 l8 : V} {Q : Res → Wd → Prop} (h1 : ty w 1 = 16 ∧ ln w 1 = L) (hi : 0 ≤ i ∧ i + 3 < (L : Int) ∧ L ≤ 2048) (hc : EvQ 6 186 [vR x, vI (gi w 1 (i + 1)), vI (gi w 1 (i + 2)), vR u] w (fun r w2 => ∃ c, r = (0, vI c) ∧ WP 20 199 511 [vR 1, vR x, vR m, vR u, vI i, l5, l6, l7, l8] [vI c] w2 Q)) : WP 20 199 494 [vR 1, vR x, vR m, vR u, vI i, l5, l6, l7, l8] [] w Q := by
  refine WP.blk 1 ?_
  show WP 20 199 495 [vR 1, vR x, vR m, vR u, vI i, l5, l6, l7, l8] [vR x] w Q
  refine WP.blk 1 ?_
  show WP 20 199 496 [vR 1, vR x, vR m, vR u, vI i, l5, l6, l7, l8] [vR 1, vR x] w Q
  refine WP.blk 1 ?_
  show WP 20 199 498 [vR 1, vR x, vR m, vR u, vI i, l5, l6, l7, l8] [vI i, vR 1, vR x] w Q
  refine WP.blk 1 ?_
  show WP 20 199 499 [vR 1, vR x, vR m, vR u, vI i, l5, l6, l7, l8] [vI 1, vI i, vR 1, vR x] w Q
  refine WP.blk 1 ?_
  show ir (i + 1) ∧ WP 20 199 500 [vR 1, vR x, vR m, vR u, vI i, l5, l6, l7, l8] [vI (i + 1), vR 1, vR x] w Q
  refine ⟨by unfold ir; omega, ?_⟩
  refine WP.blk 1 ?_
  show ((ty w 1 = 11 ∨ ty w 1 = 16 ∨ ty w 1 = 17) ∧ 0 ≤ (i + 1) ∧ (i + 1) < (ln w 1 : Int)) ∧ WP 20 199 501 [vR 1, vR x, vR m, vR u, vI i, l5, l6, l7, l8] [vI (gi w 1 (i + 1)), vR x] w Q
  refine ⟨⟨Or.inr (Or.inl h1.1), by omega, by rw [h1.2]; omega⟩, ?_⟩
  refine WP.blk 1 ?_
  show WP 20 199 502 [vR 1, vR x, vR m, vR u, vI i, l5, l6, l7, l8] [vR 1, vI (gi w 1 (i + 1)), vR x] w Q
  refine WP.blk 1 ?_
  show WP 20 199 504 [vR 1, vR x, vR m, vR u, vI i, l5, l6, l7, l8] [vI i, vR 1, vI (gi w 1 (i + 1)), vR x] w Q
  refine WP.blk 1 ?_
  show WP 20 199 505 [vR 1, vR x, vR m, vR u, vI i, l5, l6, l7, l8] [vI 2, vI i, vR 1, vI (gi w 1 (i + 1)), vR x] w Q
  refine WP.blk 1 ?_
  show ir (i + 2) ∧ WP 20 199 506 [vR 1, vR x, vR m, vR u, vI i, l5, l6, l7, l8] [vI (i + 2), vR 1, vI (gi w 1 (i + 1)), vR x] w Q
  refine ⟨by unfold ir; omega, ?_⟩
  refine WP.blk 1 ?_
  show ((ty w 1 = 11 ∨ ty w 1 = 16 ∨ ty w 1 = 17) ∧ 0 ≤ (i + 2) ∧ (i + 2) < (ln w 1 : Int)) ∧ WP 20 199 507 [vR 1, vR x, vR m, vR u, vI i, l5, l6, l7, l8] [vI (gi w 1 (i + 2)), vI (gi w 1 (i + 1)), vR x] w Q
  refine ⟨⟨Or.inr (Or.inl h1.1), by omega, by rw [h1.2]; omega⟩, ?_⟩
  refine WP.blk 1 ?_
  show WP 20 199 508 [vR 1, vR x, vR m, vR u, vI i, l5, l6, l7, l8] [vR u, vI (gi w 1 (i + 2)), vI (gi w 1 (i + 1)), vR x] w Q
  refine WP.call (a := [vR x, vI (gi w 1 (i + 1)), vI (gi w 1 (i + 2)), vR u]) (rest := []) rfl rfl rfl rfl trivial (by decide) hc (fun r w2 h => ?_)
  obtain ⟨c, rfl, h⟩ := h
  exact ⟨rfl, h⟩
theorem a_setLimits {M : Nat → Int → Int} {S : SD} {c : Int} {x m u L : Nat} {i : Int} {l5 l6 l7 l8 : V} {Q : Res → Wd → Prop} (hS : isMod S m) (h1 : sT S 1 = 16 ∧ sN S 1 = L) (hu : sT S u = 12 ∧ sN S u = 1) (hi : 0 ≤ i ∧ i + 3 < (L : Int) ∧ L ≤ 2048) (hr : EvQ 3 139 [vR m, vI (M 1 (i + 1)), vI (M 1 (i + 2))] (M, S) (LQ S m u c (fun M3 => ∀ l5 l6, WP 20 199 1416 [vR 1, vR x, vR m, vR u, vI i, l5, l6, l7, l8] [] (M3, S) Q))) : WP 20 199 511 [vR 1, vR x, vR m, vR u, vI i, l5, l6, l7, l8] [vI c] (M, S) Q := by
  refine WP.blk 1 ?_
  show WP 20 199 513 [vR 1, vR x, vR m, vR u, vI i, vI c, l6, l7, l8] [] (M, S) Q
  refine WP.blk 1 ?_
  show WP 20 199 514 [vR 1, vR x, vR m, vR u, vI i, vI c, l6, l7, l8] [vR m] (M, S) Q
  refine WP.blk 1 ?_
  show WP 20 199 515 [vR 1, vR x, vR m, vR u, vI i, vI c, l6, l7, l8] [vR 1, vR m] (M, S) Q
  refine WP.blk 1 ?_
  show WP 20 199 517 [vR 1, vR x, vR m, vR u, vI i, vI c, l6, l7, l8] [vI i, vR 1, vR m] (M, S) Q
  refine WP.blk 1 ?_
  show WP 20 199 518 [vR 1, vR x, vR m, vR u, vI i, vI c, l6, l7, l8] [vI 1, vI i, vR 1, vR m] (M, S) Q
  refine WP.blk 1 ?_
  show ir (i + 1) ∧ WP 20 199 519 [vR 1, vR x, vR m, vR u, vI i, vI c, l6, l7, l8] [vI (i + 1), vR 1, vR m] (M, S) Q
  refine ⟨by unfold ir; omega, ?_⟩
  refine WP.blk 1 ?_
  show ((sT S 1 = 11 ∨ sT S 1 = 16 ∨ sT S 1 = 17) ∧ 0 ≤ (i + 1) ∧ (i + 1) < (sN S 1 : Int)) ∧ WP 20 199 520 [vR 1, vR x, vR m, vR u, vI i, vI c, l6, l7, l8] [vI (M 1 (i + 1)), vR m] (M, S) Q
  refine ⟨⟨Or.inr (Or.inl h1.1), by omega, by rw [h1.2]; omega⟩, ?_⟩
  refine WP.blk 1 ?_
  show WP 20 199 521 [vR 1, vR x, vR m, vR u, vI i, vI c, l6, l7, l8] [vR 1, vI (M 1 (i + 1)), vR m] (M, S) Q
  refine WP.blk 1 ?_
  show WP 20 199 523 [vR 1, vR x, vR m, vR u, vI i, vI c, l6, l7, l8] [vI i, vR 1, vI (M 1 (i + 1)), vR m] (M, S) Q
  refine WP.blk 1 ?_
  show WP 20 199 524 [vR 1, vR x, vR m, vR u, vI i, vI c, l6, l7, l8] [vI 2, vI i, vR 1, vI (M 1 (i + 1)), vR m] (M, S) Q
  refine WP.blk 1 ?_
  show ir (i + 2) ∧ WP 20 199 525 [vR 1, vR x, vR m, vR u, vI i, vI c, l6, l7, l8] [vI (i + 2), vR 1, vI (M 1 (i + 1)), vR m] (M, S) Q
  refine ⟨by unfold ir; omega, ?_⟩
  refine WP.blk 1 ?_
  show ((sT S 1 = 11 ∨ sT S 1 = 16 ∨ sT S 1 = 17) ∧ 0 ≤ (i + 2) ∧ (i + 2) < (sN S 1 : Int)) ∧ WP 20 199 526 [vR 1, vR x, vR m, vR u, vI i, vI c, l6, l7, l8] [vI (M 1 (i + 2)), vI (M 1 (i + 1)), vR m] (M, S) Q
  refine ⟨⟨Or.inr (Or.inl h1.1), by omega, by rw [h1.2]; omega⟩, ?_⟩
  refine WP.call (a := [vR m, vI (M 1 (i + 1)), vI (M 1 (i + 2))]) (rest := []) rfl rfl rfl rfl ⟨hS.1.1, trivial⟩ (by decide) hr (fun r w2 h => ?_)
  obtain ⟨y, M3, rfl, rfl, hc, h0, hP⟩ := h
  refine ⟨rfl, ?_⟩
  show WP 20 199 529 [vR 1, vR x, vR m, vR u, vI i, vI c, l6, l7, l8] [vI y] (M3, S) Q
  refine WP.blk 1 ?_
  show WP 20 199 531 [vR 1, vR x, vR m, vR u, vI i, vI c, vI y, l7, l8] [] (M3, S) Q
  refine WP.blk 1 ?_
  show WP 20 199 532 [vR 1, vR x, vR m, vR u, vI i, vI c, vI y, l7, l8] [vR m] (M3, S) Q
  refine WP.cl (a := [vR m]) (rest := []) rfl rfl rfl rfl ⟨hS.1.1, trivial⟩ (by decide) (q_thrown hS ⟨rfl, ?_⟩)
  show WP 20 199 535 [vR 1, vR x, vR m, vR u, vI i, vI c, vI y, l7, l8] [vI (M3 m 5)] (M3, S) Q
  refine WP.blk 1 ?_
  show WP 20 199 537 [vR 1, vR x, vR m, vR u, vI i, vI c, vI y, l7, l8] [vI c, vI (M3 m 5)] (M3, S) Q
  refine WP.blk 1 ?_
  show WP 20 199 (if cnd .eq (M3 m 5) c = true then 542 else 540) [vR 1, vR x, vR m, vR u, vI i, vI c, vI y, l7, l8] [] (M3, S) Q
  refine br_eq (fun _ => ?_) (fun hb => absurd hc hb)
  show WP 20 199 542 [vR 1, vR x, vR m, vR u, vI i, vI c, vI y, l7, l8] [] (M3, S) Q
  refine WP.blk 1 ?_
  show WP 20 199 544 [vR 1, vR x, vR m, vR u, vI i, vI c, vI y, l7, l8] [vI c] (M3, S) Q
  refine WP.blk 1 ?_
  show WP 20 199 (if cnd .ne c 0 = true then 559 else 547) [vR 1, vR x, vR m, vR u, vI i, vI c, vI y, l7, l8] [] (M3, S) Q
  refine br_ne (fun _ => ?_) (fun hb => ?_)
  · show WP 20 199 559 [vR 1, vR x, vR m, vR u, vI i, vI c, vI y, l7, l8] [] (M3, S) Q
    refine WP.blk 1 ?_
    exact hP _ _
  · show WP 20 199 547 [vR 1, vR x, vR m, vR u, vI i, vI c, vI y, l7, l8] [] (M3, S) Q
    refine WP.blk 1 ?_
    show WP 20 199 548 [vR 1, vR x, vR m, vR u, vI i, vI c, vI y, l7, l8] [vR u] (M3, S) Q
    refine WP.blk 1 ?_
    show WP 20 199 549 [vR 1, vR x, vR m, vR u, vI i, vI c, vI y, l7, l8] [vI 0, vR u] (M3, S) Q
    refine WP.blk 1 ?_
    show (sT S u = 12 ∧ (0 : Int) ≤ 0 ∧ (0 : Int) < (sN S u : Int)) ∧ WP 20 199 550 [vR 1, vR x, vR m, vR u, vI i, vI c, vI y, l7, l8] [vL (M3 u 0)] (M3, S) Q
    refine ⟨⟨hu.1, by decide, by rw [hu.2]; decide⟩, ?_⟩
    refine WP.blk 1 ?_
    show WP 20 199 552 [vR 1, vR x, vR m, vR u, vI i, vI c, vI y, l7, l8] [vI y, vL (M3 u 0)] (M3, S) Q
    refine WP.blk 1 ?_
    show WP 20 199 553 [vR 1, vR x, vR m, vR u, vI i, vI c, vI y, l7, l8] [vL y, vL (M3 u 0)] (M3, S) Q
    refine WP.blk 1 ?_
    show WP 20 199 554 [vR 1, vR x, vR m, vR u, vI i, vI c, vI y, l7, l8] [vI (lC (M3 u 0) y)] (M3, S) Q
    rw [h0 hb, lC_s]
    refine WP.blk 1 ?_
    show WP 20 199 (if cnd .eq 0 0 = true then 559 else 557) [vR 1, vR x, vR m, vR u, vI i, vI c, vI y, l7, l8] [] (M3, S) Q
    refine br_eq (fun _ => ?_) (fun hb => absurd rfl hb)
    show WP 20 199 559 [vR 1, vR x, vR m, vR u, vI i, vI c, vI y, l7, l8] [] (M3, S) Q
    refine WP.blk 1 ?_
    exact hP _ _
theorem h_clean {w : Wd} {x m u L : Nat} {i : Int} {l5 l6 l7 l8 : V} {Q : Res → Wd → Prop} (h1 : ty w 1 = 16 ∧ ln w 1 = L) (hi : 0 ≤ i ∧ i + 3 < (L : Int) ∧ L ≤ 2048) (hc : EvQ 6 187 [vR x, vI (gi w 1 (i + 1)), vR u] w (fun r w2 => ∃ c, r = (0, vI c) ∧ WP 20 199 573 [vR 1, vR x, vR m, vR u, vI i, l5, l6, l7, l8] [vI c] w2 Q)) : WP 20 199 562 [vR 1, vR x, vR m, vR u, vI i, l5, l6, l7, l8] [] w Q := by
  refine WP.blk 1 ?_
  show WP 20 199 563 [vR 1, vR x, vR m, vR u, vI i, l5, l6, l7, l8] [vR x] w Q
  refine WP.blk 1 ?_
  show WP 20 199 564 [vR 1, vR x, vR m, vR u, vI i, l5, l6, l7, l8] [vR 1, vR x] w Q
  refine WP.blk 1 ?_
  show WP 20 199 566 [vR 1, vR x, vR m, vR u, vI i, l5, l6, l7, l8] [vI i, vR 1, vR x] w Q
  refine WP.blk 1 ?_
  show WP 20 199 567 [vR 1, vR x, vR m, vR u, vI i, l5, l6, l7, l8] [vI 1, vI i, vR 1, vR x] w Q
  refine WP.blk 1 ?_
  show ir (i + 1) ∧ WP 20 199 568 [vR 1, vR x, vR m, vR u, vI i, l5, l6, l7, l8] [vI (i + 1), vR 1, vR x] w Q
  refine ⟨by unfold ir; omega, ?_⟩
  refine WP.blk 1 ?_
  show ((ty w 1 = 11 ∨ ty w 1 = 16 ∨ ty w 1 = 17) ∧ 0 ≤ (i + 1) ∧ (i + 1) < (ln w 1 : Int)) ∧ WP 20 199 569 [vR 1, vR x, vR m, vR u, vI i, l5, l6, l7, l8] [vI (gi w 1 (i + 1)), vR x] w Q
  refine ⟨⟨Or.inr (Or.inl h1.1), by omega, by rw [h1.2]; omega⟩, ?_⟩
  refine WP.blk 1 ?_
  show WP 20 199 570 [vR 1, vR x, vR m, vR u, vI i, l5, l6, l7, l8] [vR u, vI (gi w 1 (i + 1)), vR x] w Q
  refine WP.call (a := [vR x, vI (gi w 1 (i + 1)), vR u]) (rest := []) rfl rfl rfl rfl trivial (by decide) hc (fun r w2 h => ?_)
  obtain ⟨c, rfl, h⟩ := h
  exact ⟨rfl, h⟩
theorem a_clean {M : Nat → Int → Int} {S : SD} {c : Int} {x m u L : Nat} {i : Int} {l5 l6 l7 l8 : V} {Q : Res → Wd → Prop} (hS : isMod S m) (h1 : sT S 1 = 16 ∧ sN S 1 = L) (hu : sT S u = 12 ∧ sN S u = 1) (hi : 0 ≤ i ∧ i + 3 < (L : Int) ∧ L ≤ 2048) (hr : EvQ 3 140 [vR m, vI (M 1 (i + 1))] (M, S) (LQ S m u c (fun M3 => ∀ l5 l6, WP 20 199 1416 [vR 1, vR x, vR m, vR u, vI i, l5, l6, l7, l8] [] (M3, S) Q))) : WP 20 199 573 [vR 1, vR x, vR m, vR u, vI i, l5, l6, l7, l8] [vI c] (M, S) Q := by
  refine WP.blk 1 ?_
  show WP 20 199 575 [vR 1, vR x, vR m, vR u, vI i, vI c, l6, l7, l8] [] (M, S) Q
  refine WP.blk 1 ?_
  show WP 20 199 576 [vR 1, vR x, vR m, vR u, vI i, vI c, l6, l7, l8] [vR m] (M, S) Q
  refine WP.blk 1 ?_
  show WP 20 199 577 [vR 1, vR x, vR m, vR u, vI i, vI c, l6, l7, l8] [vR 1, vR m] (M, S) Q
  refine WP.blk 1 ?_
  show WP 20 199 579 [vR 1, vR x, vR m, vR u, vI i, vI c, l6, l7, l8] [vI i, vR 1, vR m] (M, S) Q
  refine WP.blk 1 ?_
  show WP 20 199 580 [vR 1, vR x, vR m, vR u, vI i, vI c, l6, l7, l8] [vI 1, vI i, vR 1, vR m] (M, S) Q
  refine WP.blk 1 ?_
  show ir (i + 1) ∧ WP 20 199 581 [vR 1, vR x, vR m, vR u, vI i, vI c, l6, l7, l8] [vI (i + 1), vR 1, vR m] (M, S) Q
  refine ⟨by unfold ir; omega, ?_⟩
  refine WP.blk 1 ?_
  show ((sT S 1 = 11 ∨ sT S 1 = 16 ∨ sT S 1 = 17) ∧ 0 ≤ (i + 1) ∧ (i + 1) < (sN S 1 : Int)) ∧ WP 20 199 582 [vR 1, vR x, vR m, vR u, vI i, vI c, l6, l7, l8] [vI (M 1 (i + 1)), vR m] (M, S) Q
  refine ⟨⟨Or.inr (Or.inl h1.1), by omega, by rw [h1.2]; omega⟩, ?_⟩
  refine WP.call (a := [vR m, vI (M 1 (i + 1))]) (rest := []) rfl rfl rfl rfl ⟨hS.1.1, trivial⟩ (by decide) hr (fun r w2 h => ?_)
  obtain ⟨y, M3, rfl, rfl, hc, h0, hP⟩ := h
  refine ⟨rfl, ?_⟩
  show WP 20 199 585 [vR 1, vR x, vR m, vR u, vI i, vI c, l6, l7, l8] [vI y] (M3, S) Q
  refine WP.blk 1 ?_
  show WP 20 199 587 [vR 1, vR x, vR m, vR u, vI i, vI c, vI y, l7, l8] [] (M3, S) Q
  refine WP.blk 1 ?_
  show WP 20 199 588 [vR 1, vR x, vR m, vR u, vI i, vI c, vI y, l7, l8] [vR m] (M3, S) Q
  refine WP.cl (a := [vR m]) (rest := []) rfl rfl rfl rfl ⟨hS.1.1, trivial⟩ (by decide) (q_thrown hS ⟨rfl, ?_⟩)
  show WP 20 199 591 [vR 1, vR x, vR m, vR u, vI i, vI c, vI y, l7, l8] [vI (M3 m 5)] (M3, S) Q
  refine WP.blk 1 ?_
  show WP 20 199 593 [vR 1, vR x, vR m, vR u, vI i, vI c, vI y, l7, l8] [vI c, vI (M3 m 5)] (M3, S) Q
  refine WP.blk 1 ?_
  show WP 20 199 (if cnd .eq (M3 m 5) c = true then 598 else 596) [vR 1, vR x, vR m, vR u, vI i, vI c, vI y, l7, l8] [] (M3, S) Q
  refine br_eq (fun _ => ?_) (fun hb => absurd hc hb)
  show WP 20 199 598 [vR 1, vR x, vR m, vR u, vI i, vI c, vI y, l7, l8] [] (M3, S) Q
  refine WP.blk 1 ?_
  show WP 20 199 600 [vR 1, vR x, vR m, vR u, vI i, vI c, vI y, l7, l8] [vI c] (M3, S) Q
  refine WP.blk 1 ?_
  show WP 20 199 (if cnd .ne c 0 = true then 615 else 603) [vR 1, vR x, vR m, vR u, vI i, vI c, vI y, l7, l8] [] (M3, S) Q
  refine br_ne (fun _ => ?_) (fun hb => ?_)
  · show WP 20 199 615 [vR 1, vR x, vR m, vR u, vI i, vI c, vI y, l7, l8] [] (M3, S) Q
    refine WP.blk 1 ?_
    exact hP _ _
  · show WP 20 199 603 [vR 1, vR x, vR m, vR u, vI i, vI c, vI y, l7, l8] [] (M3, S) Q
    refine WP.blk 1 ?_
    show WP 20 199 604 [vR 1, vR x, vR m, vR u, vI i, vI c, vI y, l7, l8] [vR u] (M3, S) Q
    refine WP.blk 1 ?_
    show WP 20 199 605 [vR 1, vR x, vR m, vR u, vI i, vI c, vI y, l7, l8] [vI 0, vR u] (M3, S) Q
    refine WP.blk 1 ?_
    show (sT S u = 12 ∧ (0 : Int) ≤ 0 ∧ (0 : Int) < (sN S u : Int)) ∧ WP 20 199 606 [vR 1, vR x, vR m, vR u, vI i, vI c, vI y, l7, l8] [vL (M3 u 0)] (M3, S) Q
    refine ⟨⟨hu.1, by decide, by rw [hu.2]; decide⟩, ?_⟩
    refine WP.blk 1 ?_
    show WP 20 199 608 [vR 1, vR x, vR m, vR u, vI i, vI c, vI y, l7, l8] [vI y, vL (M3 u 0)] (M3, S) Q
    refine WP.blk 1 ?_
    show WP 20 199 609 [vR 1, vR x, vR m, vR u, vI i, vI c, vI y, l7, l8] [vL y, vL (M3 u 0)] (M3, S) Q
    refine WP.blk 1 ?_
    show WP 20 199 610 [vR 1, vR x, vR m, vR u, vI i, vI c, vI y, l7, l8] [vI (lC (M3 u 0) y)] (M3, S) Q
    rw [h0 hb, lC_s]
    refine WP.blk 1 ?_
    show WP 20 199 (if cnd .eq 0 0 = true then 615 else 613) [vR 1, vR x, vR m, vR u, vI i, vI c, vI y, l7, l8] [] (M3, S) Q
    refine br_eq (fun _ => ?_) (fun hb => absurd rfl hb)
    show WP 20 199 615 [vR 1, vR x, vR m, vR u, vI i, vI c, vI y, l7, l8] [] (M3, S) Q
    refine WP.blk 1 ?_
    exact hP _ _
theorem h_value {w : Wd} {x m u L : Nat} {i : Int} {l5 l6 l7 l8 : V} {Q : Res → Wd → Prop} (h1 : ty w 1 = 16 ∧ ln w 1 = L) (hi : 0 ≤ i ∧ i + 3 < (L : Int) ∧ L ≤ 2048) (hc : EvQ 8 188 [vR x, vI (gi w 1 (i + 1)), vR u] w (fun r w2 => ∃ c, r = (0, vI c) ∧ WP 20 199 629 [vR 1, vR x, vR m, vR u, vI i, l5, l6, l7, l8] [vI c] w2 Q)) : WP 20 199 618 [vR 1, vR x, vR m, vR u, vI i, l5, l6, l7, l8] [] w Q := by
  refine WP.blk 1 ?_
  show WP 20 199 619 [vR 1, vR x, vR m, vR u, vI i, l5, l6, l7, l8] [vR x] w Q
  refine WP.blk 1 ?_
  show WP 20 199 620 [vR 1, vR x, vR m, vR u, vI i, l5, l6, l7, l8] [vR 1, vR x] w Q
  refine WP.blk 1 ?_
  show WP 20 199 622 [vR 1, vR x, vR m, vR u, vI i, l5, l6, l7, l8] [vI i, vR 1, vR x] w Q
  refine WP.blk 1 ?_
  show WP 20 199 623 [vR 1, vR x, vR m, vR u, vI i, l5, l6, l7, l8] [vI 1, vI i, vR 1, vR x] w Q
  refine WP.blk 1 ?_
  show ir (i + 1) ∧ WP 20 199 624 [vR 1, vR x, vR m, vR u, vI i, l5, l6, l7, l8] [vI (i + 1), vR 1, vR x] w Q
  refine ⟨by unfold ir; omega, ?_⟩
  refine WP.blk 1 ?_
  show ((ty w 1 = 11 ∨ ty w 1 = 16 ∨ ty w 1 = 17) ∧ 0 ≤ (i + 1) ∧ (i + 1) < (ln w 1 : Int)) ∧ WP 20 199 625 [vR 1, vR x, vR m, vR u, vI i, l5, l6, l7, l8] [vI (gi w 1 (i + 1)), vR x] w Q
  refine ⟨⟨Or.inr (Or.inl h1.1), by omega, by rw [h1.2]; omega⟩, ?_⟩
  refine WP.blk 1 ?_
  show WP 20 199 626 [vR 1, vR x, vR m, vR u, vI i, l5, l6, l7, l8] [vR u, vI (gi w 1 (i + 1)), vR x] w Q
  refine WP.call (a := [vR x, vI (gi w 1 (i + 1)), vR u]) (rest := []) rfl rfl rfl rfl trivial (by decide) hc (fun r w2 h => ?_)
  obtain ⟨c, rfl, h⟩ := h
  exact ⟨rfl, h⟩
theorem a_value {M : Nat → Int → Int} {S : SD} {c : Int} {x m u L : Nat} {i : Int} {l5 l6 l7 l8 : V} {Q : Res → Wd → Prop} (hS : isMod S m) (h1 : sT S 1 = 16 ∧ sN S 1 = L) (hu : sT S u = 12 ∧ sN S u = 1) (hi : 0 ≤ i ∧ i + 3 < (L : Int) ∧ L ≤ 2048) (hr : EvQ 7 150 [vR m, vI (M 1 (i + 1))] (M, S) (LQ S m u c (fun M3 => ∀ l5 l6, WP 20 199 1416 [vR 1, vR x, vR m, vR u, vI i, l5, l6, l7, l8] [] (M3, S) Q))) : WP 20 199 629 [vR 1, vR x, vR m, vR u, vI i, l5, l6, l7, l8] [vI c] (M, S) Q := by
  refine WP.blk 1 ?_
  show WP 20 199 631 [vR 1, vR x, vR m, vR u, vI i, vI c, l6, l7, l8] [] (M, S) Q
  refine WP.blk 1 ?_
  show WP 20 199 632 [vR 1, vR x, vR m, vR u, vI i, vI c, l6, l7, l8] [vR m] (M, S) Q
  refine WP.blk 1 ?_
  show WP 20 199 633 [vR 1, vR x, vR m, vR u, vI i, vI c, l6, l7, l8] [vR 1, vR m] (M, S) Q
  refine WP.blk 1 ?_
  show WP 20 199 635 [vR 1, vR x, vR m, vR u, vI i, vI c, l6, l7, l8] [vI i, vR 1, vR m] (M, S) Q
  refine WP.blk 1 ?_
  show WP 20 199 636 [vR 1, vR x, vR m, vR u, vI i, vI c, l6, l7, l8] [vI 1, vI i, vR 1, vR m] (M, S) Q
  refine WP.blk 1 ?_
  show ir (i + 1) ∧ WP 20 199 637 [vR 1, vR x, vR m, vR u, vI i, vI c, l6, l7, l8] [vI (i + 1), vR 1, vR m] (M, S) Q
  refine ⟨by unfold ir; omega, ?_⟩
  refine WP.blk 1 ?_
  show ((sT S 1 = 11 ∨ sT S 1 = 16 ∨ sT S 1 = 17) ∧ 0 ≤ (i + 1) ∧ (i + 1) < (sN S 1 : Int)) ∧ WP 20 199 638 [vR 1, vR x, vR m, vR u, vI i, vI c, l6, l7, l8] [vI (M 1 (i + 1)), vR m] (M, S) Q
  refine ⟨⟨Or.inr (Or.inl h1.1), by omega, by rw [h1.2]; omega⟩, ?_⟩
  refine WP.call (a := [vR m, vI (M 1 (i + 1))]) (rest := []) rfl rfl rfl rfl ⟨hS.1.1, trivial⟩ (by decide) hr (fun r w2 h => ?_)
  obtain ⟨y, M3, rfl, rfl, hc, h0, hP⟩ := h
  refine ⟨rfl, ?_⟩
  show WP 20 199 641 [vR 1, vR x, vR m, vR u, vI i, vI c, l6, l7, l8] [vI y] (M3, S) Q
  refine WP.blk 1 ?_
  show WP 20 199 643 [vR 1, vR x, vR m, vR u, vI i, vI c, vI y, l7, l8] [] (M3, S) Q
  refine WP.blk 1 ?_
  show WP 20 199 644 [vR 1, vR x, vR m, vR u, vI i, vI c, vI y, l7, l8] [vR m] (M3, S) Q
  refine WP.cl (a := [vR m]) (rest := []) rfl rfl rfl rfl ⟨hS.1.1, trivial⟩ (by decide) (q_thrown hS ⟨rfl, ?_⟩)
  show WP 20 199 647 [vR 1, vR x, vR m, vR u, vI i, vI c, vI y, l7, l8] [vI (M3 m 5)] (M3, S) Q
  refine WP.blk 1 ?_
  show WP 20 199 649 [vR 1, vR x, vR m, vR u, vI i, vI c, vI y, l7, l8] [vI c, vI (M3 m 5)] (M3, S) Q
  refine WP.blk 1 ?_
  show WP 20 199 (if cnd .eq (M3 m 5) c = true then 654 else 652) [vR 1, vR x, vR m, vR u, vI i, vI c, vI y, l7, l8] [] (M3, S) Q
  refine br_eq (fun _ => ?_) (fun hb => absurd hc hb)
  show WP 20 199 654 [vR 1, vR x, vR m, vR u, vI i, vI c, vI y, l7, l8] [] (M3, S) Q
  refine WP.blk 1 ?_
  show WP 20 199 656 [vR 1, vR x, vR m, vR u, vI i, vI c, vI y, l7, l8] [vI c] (M3, S) Q
  refine WP.blk 1 ?_
  show WP 20 199 (if cnd .ne c 0 = true then 671 else 659) [vR 1, vR x, vR m, vR u, vI i, vI c, vI y, l7, l8] [] (M3, S) Q
  refine br_ne (fun _ => ?_) (fun hb => ?_)
  · show WP 20 199 671 [vR 1, vR x, vR m, vR u, vI i, vI c, vI y, l7, l8] [] (M3, S) Q
    refine WP.blk 1 ?_
    exact hP _ _
  · show WP 20 199 659 [vR 1, vR x, vR m, vR u, vI i, vI c, vI y, l7, l8] [] (M3, S) Q
    refine WP.blk 1 ?_
    show WP 20 199 660 [vR 1, vR x, vR m, vR u, vI i, vI c, vI y, l7, l8] [vR u] (M3, S) Q
    refine WP.blk 1 ?_
    show WP 20 199 661 [vR 1, vR x, vR m, vR u, vI i, vI c, vI y, l7, l8] [vI 0, vR u] (M3, S) Q
    refine WP.blk 1 ?_
    show (sT S u = 12 ∧ (0 : Int) ≤ 0 ∧ (0 : Int) < (sN S u : Int)) ∧ WP 20 199 662 [vR 1, vR x, vR m, vR u, vI i, vI c, vI y, l7, l8] [vL (M3 u 0)] (M3, S) Q
    refine ⟨⟨hu.1, by decide, by rw [hu.2]; decide⟩, ?_⟩
    refine WP.blk 1 ?_
    show WP 20 199 664 [vR 1, vR x, vR m, vR u, vI i, vI c, vI y, l7, l8] [vI y, vL (M3 u 0)] (M3, S) Q
    refine WP.blk 1 ?_
    show WP 20 199 665 [vR 1, vR x, vR m, vR u, vI i, vI c, vI y, l7, l8] [vL y, vL (M3 u 0)] (M3, S) Q
    refine WP.blk 1 ?_
    show WP 20 199 666 [vR 1, vR x, vR m, vR u, vI i, vI c, vI y, l7, l8] [vI (lC (M3 u 0) y)] (M3, S) Q
    rw [h0 hb, lC_s]
    refine WP.blk 1 ?_
    show WP 20 199 (if cnd .eq 0 0 = true then 671 else 669) [vR 1, vR x, vR m, vR u, vI i, vI c, vI y, l7, l8] [] (M3, S) Q
    refine br_eq (fun _ => ?_) (fun hb => absurd rfl hb)
    show WP 20 199 671 [vR 1, vR x, vR m, vR u, vI i, vI c, vI y, l7, l8] [] (M3, S) Q
    refine WP.blk 1 ?_
    exact hP _ _
theorem h_stamp {w : Wd} {x m u L : Nat} {i : Int} {l5 l6 l7 l8 : V} {Q : Res → Wd → Prop} (h1 : ty w 1 = 16 ∧ ln w 1 = L) (hi : 0 ≤ i ∧ i + 3 < (L : Int) ∧ L ≤ 2048) (hc : EvQ 6 189 [vR x, vI (gi w 1 (i + 1)), vI (gi w 1 (i + 2)), vR u] w (fun r w2 => ∃ c, r = (0, vI c) ∧ WP 20 199 691 [vR 1, vR x, vR m, vR u, vI i, l5, l6, l7, l8] [vI c] w2 Q)) : WP 20 199 674 [vR 1, vR x, vR m, vR u, vI i, l5, l6, l7, l8] [] w Q := by
  refine WP.blk 1 ?_
  show WP 20 199 675 [vR 1, vR x, vR m, vR u, vI i, l5, l6, l7, l8] [vR x] w Q
  refine WP.blk 1 ?_
  show WP 20 199 676 [vR 1, vR x, vR m, vR u, vI i, l5, l6, l7, l8] [vR 1, vR x] w Q
  refine WP.blk 1 ?_
  show WP 20 199 678 [vR 1, vR x, vR m, vR u, vI i, l5, l6, l7, l8] [vI i, vR 1, vR x] w Q
  refine WP.blk 1 ?_
  show WP 20 199 679 [vR 1, vR x, vR m, vR u, vI i, l5, l6, l7, l8] [vI 1, vI i, vR 1, vR x] w Q
  refine WP.blk 1 ?_
  show ir (i + 1) ∧ WP 20 199 680 [vR 1, vR x, vR m, vR u, vI i, l5, l6, l7, l8] [vI (i + 1), vR 1, vR x] w Q
  refine ⟨by unfold ir; omega, ?_⟩
  refine WP.blk 1 ?_
  show ((ty w 1 = 11 ∨ ty w 1 = 16 ∨ ty w 1 = 17) ∧ 0 ≤ (i + 1) ∧ (i + 1) < (ln w 1 : Int)) ∧ WP 20 199 681 [vR 1, vR x, vR m, vR u, vI i, l5, l6, l7, l8] [vI (gi w 1 (i + 1)), vR x] w Q
  refine ⟨⟨Or.inr (Or.inl h1.1), by omega, by rw [h1.2]; omega⟩, ?_⟩
  refine WP.blk 1 ?_
  show WP 20 199 682 [vR 1, vR x, vR m, vR u, vI i, l5, l6, l7, l8] [vR 1, vI (gi w 1 (i + 1)), vR x] w Q
  refine WP.blk 1 ?_
  show WP 20 199 684 [vR 1, vR x, vR m, vR u, vI i, l5, l6, l7, l8] [vI i, vR 1, vI (gi w 1 (i + 1)), vR x] w Q
  refine WP.blk 1 ?_
  show WP 20 199 685 [vR 1, vR x, vR m, vR u, vI i, l5, l6, l7, l8] [vI 2, vI i, vR 1, vI (gi w 1 (i + 1)), vR x] w Q
  refine WP.blk 1 ?_
  show ir (i + 2) ∧ WP 20 199 686 [vR 1, vR x, vR m, vR u, vI i, l5, l6, l7, l8] [vI (i + 2), vR 1, vI (gi w 1 (i + 1)), vR x] w Q
  refine ⟨by unfold ir; omega, ?_⟩
  refine WP.blk 1 ?_
  show ((ty w 1 = 11 ∨ ty w 1 = 16 ∨ ty w 1 = 17) ∧ 0 ≤ (i + 2) ∧ (i + 2) < (ln w 1 : Int)) ∧ WP 20 199 687 [vR 1, vR x, vR m, vR u, vI i, l5, l6, l7, l8] [vI (gi w 1 (i + 2)), vI (gi w 1 (i + 1)), vR x] w Q
  refine ⟨⟨Or.inr (Or.inl h1.1), by omega, by rw [h1.2]; omega⟩, ?_⟩
  refine WP.blk 1 ?_
  show WP 20 199 688 [vR 1, vR x, vR m, vR u, vI i, l5, l6, l7, l8] [vR u, vI (gi w 1 (i + 2)), vI (gi w 1 (i + 1)), vR x] w Q
  refine WP.call (a := [vR x, vI (gi w 1 (i + 1)), vI (gi w 1 (i + 2)), vR u]) (rest := []) rfl rfl rfl rfl trivial (by decide) hc (fun r w2 h => ?_)
  obtain ⟨c, rfl, h⟩ := h
  exact ⟨rfl, h⟩
theorem a_stamp {M : Nat → Int → Int} {S : SD} {c : Int} {x m u L : Nat} {i : Int} {l5 l6 l7 l8 : V} {Q : Res → Wd → Prop} (hS : isMod S m) (h1 : sT S 1 = 16 ∧ sN S 1 = L) (hu : sT S u = 12 ∧ sN S u = 1) (hi : 0 ≤ i ∧ i + 3 < (L : Int) ∧ L ≤ 2048) (hr : EvQ 4 152 [vR m, vI (M 1 (i + 1)), vI (M 1 (i + 2))] (M, S) (LQ S m u c (fun M3 => ∀ l5 l6, WP 20 199 1416 [vR 1, vR x, vR m, vR u, vI i, l5, l6, l7, l8] [] (M3, S) Q))) : WP 20 199 691 [vR 1, vR x, vR m, vR u, vI i, l5, l6, l7, l8] [vI c] (M, S) Q := by
  refine WP.blk 1 ?_
  show WP 20 199 693 [vR 1, vR x, vR m, vR u, vI i, vI c, l6, l7, l8] [] (M, S) Q
  refine WP.blk 1 ?_
  show WP 20 199 694 [vR 1, vR x, vR m, vR u, vI i, vI c, l6, l7, l8] [vR m] (M, S) Q
  refine WP.blk 1 ?_
  show WP 20 199 695 [vR 1, vR x, vR m, vR u, vI i, vI c, l6, l7, l8] [vR 1, vR m] (M, S) Q
  refine WP.blk 1 ?_
  show WP 20 199 697 [vR 1, vR x, vR m, vR u, vI i, vI c, l6, l7, l8] [vI i, vR 1, vR m] (M, S) Q
  refine WP.blk 1 ?_
  show WP 20 199 698 [vR 1, vR x, vR m, vR u, vI i, vI c, l6, l7, l8] [vI 1, vI i, vR 1, vR m] (M, S) Q
  refine WP.blk 1 ?_
  show ir (i + 1) ∧ WP 20 199 699 [vR 1, vR x, vR m, vR u, vI i, vI c, l6, l7, l8] [vI (i + 1), vR 1, vR m] (M, S) Q
  refine ⟨by unfold ir; omega, ?_⟩
  refine WP.blk 1 ?_
  show ((sT S 1 = 11 ∨ sT S 1 = 16 ∨ sT S 1 = 17) ∧ 0 ≤ (i + 1) ∧ (i + 1) < (sN S 1 : Int)) ∧ WP 20 199 700 [vR 1, vR x, vR m, vR u, vI i, vI c, l6, l7, l8] [vI (M 1 (i + 1)), vR m] (M, S) Q
  refine ⟨⟨Or.inr (Or.inl h1.1), by omega, by rw [h1.2]; omega⟩, ?_⟩
  refine WP.blk 1 ?_
  show WP 20 199 701 [vR 1, vR x, vR m, vR u, vI i, vI c, l6, l7, l8] [vR 1, vI (M 1 (i + 1)), vR m] (M, S) Q
  refine WP.blk 1 ?_
  show WP 20 199 703 [vR 1, vR x, vR m, vR u, vI i, vI c, l6, l7, l8] [vI i, vR 1, vI (M 1 (i + 1)), vR m] (M, S) Q
  refine WP.blk 1 ?_
  show WP 20 199 704 [vR 1, vR x, vR m, vR u, vI i, vI c, l6, l7, l8] [vI 2, vI i, vR 1, vI (M 1 (i + 1)), vR m] (M, S) Q
  refine WP.blk 1 ?_
  show ir (i + 2) ∧ WP 20 199 705 [vR 1, vR x, vR m, vR u, vI i, vI c, l6, l7, l8] [vI (i + 2), vR 1, vI (M 1 (i + 1)), vR m] (M, S) Q
  refine ⟨by unfold ir; omega, ?_⟩
  refine WP.blk 1 ?_
  show ((sT S 1 = 11 ∨ sT S 1 = 16 ∨ sT S 1 = 17) ∧ 0 ≤ (i + 2) ∧ (i + 2) < (sN S 1 : Int)) ∧ WP 20 199 706 [vR 1, vR x, vR m, vR u, vI i, vI c, l6, l7, l8] [vI (M 1 (i + 2)), vI (M 1 (i + 1)), vR m] (M, S) Q
  refine ⟨⟨Or.inr (Or.inl h1.1), by omega, by rw [h1.2]; omega⟩, ?_⟩
  refine WP.call (a := [vR m, vI (M 1 (i + 1)), vI (M 1 (i + 2))]) (rest := []) rfl rfl rfl rfl ⟨hS.1.1, trivial⟩ (by decide) hr (fun r w2 h => ?_)
  obtain ⟨y, M3, rfl, rfl, hc, h0, hP⟩ := h
  refine ⟨rfl, ?_⟩
  show WP 20 199 709 [vR 1, vR x, vR m, vR u, vI i, vI c, l6, l7, l8] [vI y] (M3, S) Q
  refine WP.blk 1 ?_
  show WP 20 199 711 [vR 1, vR x, vR m, vR u, vI i, vI c, vI y, l7, l8] [] (M3, S) Q
  refine WP.blk 1 ?_
  show WP 20 199 712 [vR 1, vR x, vR m, vR u, vI i, vI c, vI y, l7, l8] [vR m] (M3, S) Q
  refine WP.cl (a := [vR m]) (rest := []) rfl rfl rfl rfl ⟨hS.1.1, trivial⟩ (by decide) (q_thrown hS ⟨rfl, ?_⟩)
  show WP 20 199 715 [vR 1, vR x, vR m, vR u, vI i, vI c, vI y, l7, l8] [vI (M3 m 5)] (M3, S) Q
  refine WP.blk 1 ?_
  show WP 20 199 717 [vR 1, vR x, vR m, vR u, vI i, vI c, vI y, l7, l8] [vI c, vI (M3 m 5)] (M3, S) Q
  refine WP.blk 1 ?_
  show WP 20 199 (if cnd .eq (M3 m 5) c = true then 722 else 720) [vR 1, vR x, vR m, vR u, vI i, vI c, vI y, l7, l8] [] (M3, S) Q
  refine br_eq (fun _ => ?_) (fun hb => absurd hc hb)
  show WP 20 199 722 [vR 1, vR x, vR m, vR u, vI i, vI c, vI y, l7, l8] [] (M3, S) Q
  refine WP.blk 1 ?_
  show WP 20 199 724 [vR 1, vR x, vR m, vR u, vI i, vI c, vI y, l7, l8] [vI c] (M3, S) Q
  refine WP.blk 1 ?_
  show WP 20 199 (if cnd .ne c 0 = true then 739 else 727) [vR 1, vR x, vR m, vR u, vI i, vI c, vI y, l7, l8] [] (M3, S) Q
  refine br_ne (fun _ => ?_) (fun hb => ?_)
  · show WP 20 199 739 [vR 1, vR x, vR m, vR u, vI i, vI c, vI y, l7, l8] [] (M3, S) Q
    refine WP.blk 1 ?_
    exact hP _ _
  · show WP 20 199 727 [vR 1, vR x, vR m, vR u, vI i, vI c, vI y, l7, l8] [] (M3, S) Q
    refine WP.blk 1 ?_
    show WP 20 199 728 [vR 1, vR x, vR m, vR u, vI i, vI c, vI y, l7, l8] [vR u] (M3, S) Q
    refine WP.blk 1 ?_
    show WP 20 199 729 [vR 1, vR x, vR m, vR u, vI i, vI c, vI y, l7, l8] [vI 0, vR u] (M3, S) Q
    refine WP.blk 1 ?_
    show (sT S u = 12 ∧ (0 : Int) ≤ 0 ∧ (0 : Int) < (sN S u : Int)) ∧ WP 20 199 730 [vR 1, vR x, vR m, vR u, vI i, vI c, vI y, l7, l8] [vL (M3 u 0)] (M3, S) Q
    refine ⟨⟨hu.1, by decide, by rw [hu.2]; decide⟩, ?_⟩
    refine WP.blk 1 ?_
    show WP 20 199 732 [vR 1, vR x, vR m, vR u, vI i, vI c, vI y, l7, l8] [vI y, vL (M3 u 0)] (M3, S) Q
    refine WP.blk 1 ?_
    show WP 20 199 733 [vR 1, vR x, vR m, vR u, vI i, vI c, vI y, l7, l8] [vL y, vL (M3 u 0)] (M3, S) Q
    refine WP.blk 1 ?_
    show WP 20 199 734 [vR 1, vR x, vR m, vR u, vI i, vI c, vI y, l7, l8] [vI (lC (M3 u 0) y)] (M3, S) Q
    rw [h0 hb, lC_s]
    refine WP.blk 1 ?_
    show WP 20 199 (if cnd .eq 0 0 = true then 739 else 737) [vR 1, vR x, vR m, vR u, vI i, vI c, vI y, l7, l8] [] (M3, S) Q
    refine br_eq (fun _ => ?_) (fun hb => absurd rfl hb)
    show WP 20 199 739 [vR 1, vR x, vR m, vR u, vI i, vI c, vI y, l7, l8] [] (M3, S) Q
    refine WP.blk 1 ?_
    exact hP _ _
theorem h_print {w : Wd} {x m u L : Nat} {i : Int} {l5 l6 l7 l8 : V} {Q : Res → Wd → Prop} (h1 : ty w 1 = 16 ∧ ln w 1 = L) (hi : 0 ≤ i ∧ i + 3 < (L : Int) ∧ L ≤ 2048) (hc : EvQ 5 190 [vR x, vI (gi w 1 (i + 1)), vI (gi w 1 (i + 2)), vI (if gi w 1 (i + 3) = 0 then 0 else 1), vR u] w (fun r w2 => ∃ c, r = (0, vI c) ∧ WP 20 199 773 [vR 1, vR x, vR m, vR u, vI i, l5, l6, l7, l8] [vI c] w2 Q)) : WP 20 199 742 [vR 1, vR x, vR m, vR u, vI i, l5, l6, l7, l8] [] w Q := by
  refine WP.blk 1 ?_
  show WP 20 199 743 [vR 1, vR x, vR m, vR u, vI i, l5, l6, l7, l8] [vR x] w Q
  refine WP.blk 1 ?_
  show WP 20 199 744 [vR 1, vR x, vR m, vR u, vI i, l5, l6, l7, l8] [vR 1, vR x] w Q
  refine WP.blk 1 ?_
  show WP 20 199 746 [vR 1, vR x, vR m, vR u, vI i, l5, l6, l7, l8] [vI i, vR 1, vR x] w Q
  refine WP.blk 1 ?_
  show WP 20 199 747 [vR 1, vR x, vR m, vR u, vI i, l5, l6, l7, l8] [vI 1, vI i, vR 1, vR x] w Q
  refine WP.blk 1 ?_
  show ir (i + 1) ∧ WP 20 199 748 [vR 1, vR x, vR m, vR u, vI i, l5, l6, l7, l8] [vI (i + 1), vR 1, vR x] w Q
  refine ⟨by unfold ir; omega, ?_⟩
  refine WP.blk 1 ?_
  show ((ty w 1 = 11 ∨ ty w 1 = 16 ∨ ty w 1 = 17) ∧ 0 ≤ (i + 1) ∧ (i + 1) < (ln w 1 : Int)) ∧ WP 20 199 749 [vR 1, vR x, vR m, vR u, vI i, l5, l6, l7, l8] [vI (gi w 1 (i + 1)), vR x] w Q
  refine ⟨⟨Or.inr (Or.inl h1.1), by omega, by rw [h1.2]; omega⟩, ?_⟩
  refine WP.blk 1 ?_
  show WP 20 199 750 [vR 1, vR x, vR m, vR u, vI i, l5, l6, l7, l8] [vR 1, vI (gi w 1 (i + 1)), vR x] w Q
  refine WP.blk 1 ?_
  show WP 20 199 752 [vR 1, vR x, vR m, vR u, vI i, l5, l6, l7, l8] [vI i, vR 1, vI (gi w 1 (i + 1)), vR x] w Q
  refine WP.blk 1 ?_
  show WP 20 199 753 [vR 1, vR x, vR m, vR u, vI i, l5, l6, l7, l8] [vI 2, vI i, vR 1, vI (gi w 1 (i + 1)), vR x] w Q
  refine WP.blk 1 ?_
  show ir (i + 2) ∧ WP 20 199 754 [vR 1, vR x, vR m, vR u, vI i, l5, l6, l7, l8] [vI (i + 2), vR 1, vI (gi w 1 (i + 1)), vR x] w Q
  refine ⟨by unfold ir; omega, ?_⟩
  refine WP.blk 1 ?_
  show ((ty w 1 = 11 ∨ ty w 1 = 16 ∨ ty w 1 = 17) ∧ 0 ≤ (i + 2) ∧ (i + 2) < (ln w 1 : Int)) ∧ WP 20 199 755 [vR 1, vR x, vR m, vR u, vI i, l5, l6, l7, l8] [vI (gi w 1 (i + 2)), vI (gi w 1 (i + 1)), vR x] w Q
  refine ⟨⟨Or.inr (Or.inl h1.1), by omega, by rw [h1.2]; omega⟩, ?_⟩
  refine WP.blk 1 ?_
  show WP 20 199 756 [vR 1, vR x, vR m, vR u, vI i, l5, l6, l7, l8] [vR 1, vI (gi w 1 (i + 2)), vI (gi w 1 (i + 1)), vR x] w Q
  refine WP.blk 1 ?_
  show WP 20 199 758 [vR 1, vR x, vR m, vR u, vI i, l5, l6, l7, l8] [vI i, vR 1, vI (gi w 1 (i + 2)), vI (gi w 1 (i + 1)), vR x] w Q
  refine WP.blk 1 ?_
  show WP 20 199 759 [vR 1, vR x, vR m, vR u, vI i, l5, l6, l7, l8] [vI 3, vI i, vR 1, vI (gi w 1 (i + 2)), vI (gi w 1 (i + 1)), vR x] w Q
  refine WP.blk 1 ?_
  show ir (i + 3) ∧ WP 20 199 760 [vR 1, vR x, vR m, vR u, vI i, l5, l6, l7, l8] [vI (i + 3), vR 1, vI (gi w 1 (i + 2)), vI (gi w 1 (i + 1)), vR x] w Q
  refine ⟨by unfold ir; omega, ?_⟩
  refine WP.blk 1 ?_
  show ((ty w 1 = 11 ∨ ty w 1 = 16 ∨ ty w 1 = 17) ∧ 0 ≤ (i + 3) ∧ (i + 3) < (ln w 1 : Int)) ∧ WP 20 199 761 [vR 1, vR x, vR m, vR u, vI i, l5, l6, l7, l8] [vI (gi w 1 (i + 3)), vI (gi w 1 (i + 2)), vI (gi w 1 (i + 1)), vR x] w Q
  refine ⟨⟨Or.inr (Or.inl h1.1), by omega, by rw [h1.2]; omega⟩, ?_⟩
  refine WP.blk 1 ?_
  show WP 20 199 (if cnd .eq (gi w 1 (i + 3)) 0 = true then 768 else 764) [vR 1, vR x, vR m, vR u, vI i, l5, l6, l7, l8] [vI (gi w 1 (i + 2)), vI (gi w 1 (i + 1)), vR x] w Q
  refine br_eq (fun hb => ?_) (fun hb => ?_)
  · rw [if_pos hb] at hc
    show WP 20 199 768 [vR 1, vR x, vR m, vR u, vI i, l5, l6, l7, l8] [vI (gi w 1 (i + 2)), vI (gi w 1 (i + 1)), vR x] w Q
    refine WP.blk 1 ?_
    show WP 20 199 769 [vR 1, vR x, vR m, vR u, vI i, l5, l6, l7, l8] [vI 0, vI (gi w 1 (i + 2)), vI (gi w 1 (i + 1)), vR x] w Q
    refine WP.blk 1 ?_
    show WP 20 199 770 [vR 1, vR x, vR m, vR u, vI i, l5, l6, l7, l8] [vR u, vI 0, vI (gi w 1 (i + 2)), vI (gi w 1 (i + 1)), vR x] w Q
    refine WP.call (a := [vR x, vI (gi w 1 (i + 1)), vI (gi w 1 (i + 2)), vI 0, vR u]) (rest := []) rfl rfl rfl rfl trivial (by decide) hc (fun r w2 h => ?_)
    obtain ⟨c, rfl, h⟩ := h
    exact ⟨rfl, h⟩
  · rw [if_neg hb] at hc
    show WP 20 199 764 [vR 1, vR x, vR m, vR u, vI i, l5, l6, l7, l8] [vI (gi w 1 (i + 2)), vI (gi w 1 (i + 1)), vR x] w Q
    refine WP.blk 1 ?_
    show WP 20 199 765 [vR 1, vR x, vR m, vR u, vI i, l5, l6, l7, l8] [vI 1, vI (gi w 1 (i + 2)), vI (gi w 1 (i + 1)), vR x] w Q
    refine WP.blk 1 ?_
    show WP 20 199 769 [vR 1, vR x, vR m, vR u, vI i, l5, l6, l7, l8] [vI 1, vI (gi w 1 (i + 2)), vI (gi w 1 (i + 1)), vR x] w Q
    refine WP.blk 1 ?_
    show WP 20 199 770 [vR 1, vR x, vR m, vR u, vI i, l5, l6, l7, l8] [vR u, vI 1, vI (gi w 1 (i + 2)), vI (gi w 1 (i + 1)), vR x] w Q
    refine WP.call (a := [vR x, vI (gi w 1 (i + 1)), vI (gi w 1 (i + 2)), vI 1, vR u]) (rest := []) rfl rfl rfl rfl trivial (by decide) hc (fun r w2 h => ?_)
    obtain ⟨c, rfl, h⟩ := h
    exact ⟨rfl, h⟩
theorem a_print {M : Nat → Int → Int} {S : SD} {c : Int} {x m u L : Nat} {i : Int} {l5 l6 l7 l8 : V} {Q : Res → Wd → Prop} (hS : isMod S m) (h1 : sT S 1 = 16 ∧ sN S 1 = L) (hu : sT S u = 12 ∧ sN S u = 1) (hi : 0 ≤ i ∧ i + 3 < (L : Int) ∧ L ≤ 2048) (hr : EvQ 3 153 [vR m, vI (M 1 (i + 1)), vI (M 1 (i + 2)), vI (if M 1 (i + 3) = 0 then 0 else 1)] (M, S) (LQ S m u c (fun M3 => ∀ l5 l6, WP 20 199 1416 [vR 1, vR x, vR m, vR u, vI i, l5, l6, l7, l8] [] (M3, S) Q))) : WP 20 199 773 [vR 1, vR x, vR m, vR u, vI i, l5, l6, l7, l8] [vI c] (M, S) Q := by
  refine WP.blk 1 ?_
  show WP 20 199 775 [vR 1, vR x, vR m, vR u, vI i, vI c, l6, l7, l8] [] (M, S) Q
  refine WP.blk 1 ?_
  show WP 20 199 776 [vR 1, vR x, vR m, vR u, vI i, vI c, l6, l7, l8] [vR m] (M, S) Q
  refine WP.blk 1 ?_
  show WP 20 199 777 [vR 1, vR x, vR m, vR u, vI i, vI c, l6, l7, l8] [vR 1, vR m] (M, S) Q
  refine WP.blk 1 ?_
  show WP 20 199 779 [vR 1, vR x, vR m, vR u, vI i, vI c, l6, l7, l8] [vI i, vR 1, vR m] (M, S) Q
  refine WP.blk 1 ?_
  show WP 20 199 780 [vR 1, vR x, vR m, vR u, vI i, vI c, l6, l7, l8] [vI 1, vI i, vR 1, vR m] (M, S) Q
  refine WP.blk 1 ?_
  show ir (i + 1) ∧ WP 20 199 781 [vR 1, vR x, vR m, vR u, vI i, vI c, l6, l7, l8] [vI (i + 1), vR 1, vR m] (M, S) Q
  refine ⟨by unfold ir; omega, ?_⟩
  refine WP.blk 1 ?_
  show ((sT S 1 = 11 ∨ sT S 1 = 16 ∨ sT S 1 = 17) ∧ 0 ≤ (i + 1) ∧ (i + 1) < (sN S 1 : Int)) ∧ WP 20 199 782 [vR 1, vR x, vR m, vR u, vI i, vI c, l6, l7, l8] [vI (M 1 (i + 1)), vR m] (M, S) Q
  refine ⟨⟨Or.inr (Or.inl h1.1), by omega, by rw [h1.2]; omega⟩, ?_⟩
  refine WP.blk 1 ?_
  show WP 20 199 783 [vR 1, vR x, vR m, vR u, vI i, vI c, l6, l7, l8] [vR 1, vI (M 1 (i + 1)), vR m] (M, S) Q
  refine WP.blk 1 ?_
  show WP 20 199 785 [vR 1, vR x, vR m, vR u, vI i, vI c, l6, l7, l8] [vI i, vR 1, vI (M 1 (i + 1)), vR m] (M, S) Q
  refine WP.blk 1 ?_
  show WP 20 199 786 [vR 1, vR x, vR m, vR u, vI i, vI c, l6, l7, l8] [vI 2, vI i, vR 1, vI (M 1 (i + 1)), vR m] (M, S) Q
  refine WP.blk 1 ?_
  show ir (i + 2) ∧ WP 20 199 787 [vR 1, vR x, vR m, vR u, vI i, vI c, l6, l7, l8] [vI (i + 2), vR 1, vI (M 1 (i + 1)), vR m] (M, S) Q
  refine ⟨by unfold ir; omega, ?_⟩
  refine WP.blk 1 ?_
  show ((sT S 1 = 11 ∨ sT S 1 = 16 ∨ sT S 1 = 17) ∧ 0 ≤ (i + 2) ∧ (i + 2) < (sN S 1 : Int)) ∧ WP 20 199 788 [vR 1, vR x, vR m, vR u, vI i, vI c, l6, l7, l8] [vI (M 1 (i + 2)), vI (M 1 (i + 1)), vR m] (M, S) Q
  refine ⟨⟨Or.inr (Or.inl h1.1), by omega, by rw [h1.2]; omega⟩, ?_⟩
  refine WP.blk 1 ?_
  show WP 20 199 789 [vR 1, vR x, vR m, vR u, vI i, vI c, l6, l7, l8] [vR 1, vI (M 1 (i + 2)), vI (M 1 (i + 1)), vR m] (M, S) Q
  refine WP.blk 1 ?_
  show WP 20 199 791 [vR 1, vR x, vR m, vR u, vI i, vI c, l6, l7, l8] [vI i, vR 1, vI (M 1 (i + 2)), vI (M 1 (i + 1)), vR m] (M, S) Q
  refine WP.blk 1 ?_
  show WP 20 199 792 [vR 1, vR x, vR m, vR u, vI i, vI c, l6, l7, l8] [vI 3, vI i, vR 1, vI (M 1 (i + 2)), vI (M 1 (i + 1)), vR m] (M, S) Q
  refine WP.blk 1 ?_
  show ir (i + 3) ∧ WP 20 199 793 [vR 1, vR x, vR m, vR u, vI i, vI c, l6, l7, l8] [vI (i + 3), vR 1, vI (M 1 (i + 2)), vI (M 1 (i + 1)), vR m] (M, S) Q
  refine ⟨by unfold ir; omega, ?_⟩
  refine WP.blk 1 ?_
  show ((sT S 1 = 11 ∨ sT S 1 = 16 ∨ sT S 1 = 17) ∧ 0 ≤ (i + 3) ∧ (i + 3) < (sN S 1 : Int)) ∧ WP 20 199 794 [vR 1, vR x, vR m, vR u, vI i, vI c, l6, l7, l8] [vI (M 1 (i + 3)), vI (M 1 (i + 2)), vI (M 1 (i + 1)), vR m] (M, S) Q
  refine ⟨⟨Or.inr (Or.inl h1.1), by omega, by rw [h1.2]; omega⟩, ?_⟩
  refine WP.blk 1 ?_
  show WP 20 199 (if cnd .eq (M 1 (i + 3)) 0 = true then 801 else 797) [vR 1, vR x, vR m, vR u, vI i, vI c, l6, l7, l8] [vI (M 1 (i + 2)), vI (M 1 (i + 1)), vR m] (M, S) Q
  refine br_eq (fun hb => ?_) (fun hb => ?_)
  · rw [if_pos hb] at hr
    show WP 20 199 801 [vR 1, vR x, vR m, vR u, vI i, vI c, l6, l7, l8] [vI (M 1 (i + 2)), vI (M 1 (i + 1)), vR m] (M, S) Q
    refine WP.blk 1 ?_
    show WP 20 199 802 [vR 1, vR x, vR m, vR u, vI i, vI c, l6, l7, l8] [vI 0, vI (M 1 (i + 2)), vI (M 1 (i + 1)), vR m] (M, S) Q
    refine WP.call (a := [vR m, vI (M 1 (i + 1)), vI (M 1 (i + 2)), vI 0]) (rest := []) rfl rfl rfl rfl ⟨hS.1.1, trivial⟩ (by decide) hr (fun r w2 h => ?_)
    obtain ⟨y, M3, rfl, rfl, hc, h0, hP⟩ := h
    refine ⟨rfl, ?_⟩
    show WP 20 199 805 [vR 1, vR x, vR m, vR u, vI i, vI c, l6, l7, l8] [vI y] (M3, S) Q
    refine WP.blk 1 ?_
    show WP 20 199 807 [vR 1, vR x, vR m, vR u, vI i, vI c, vI y, l7, l8] [] (M3, S) Q
    refine WP.blk 1 ?_
    show WP 20 199 808 [vR 1, vR x, vR m, vR u, vI i, vI c, vI y, l7, l8] [vR m] (M3, S) Q
    refine WP.cl (a := [vR m]) (rest := []) rfl rfl rfl rfl ⟨hS.1.1, trivial⟩ (by decide) (q_thrown hS ⟨rfl, ?_⟩)
    show WP 20 199 811 [vR 1, vR x, vR m, vR u, vI i, vI c, vI y, l7, l8] [vI (M3 m 5)] (M3, S) Q
    refine WP.blk 1 ?_
    show WP 20 199 813 [vR 1, vR x, vR m, vR u, vI i, vI c, vI y, l7, l8] [vI c, vI (M3 m 5)] (M3, S) Q
    refine WP.blk 1 ?_
    show WP 20 199 (if cnd .eq (M3 m 5) c = true then 818 else 816) [vR 1, vR x, vR m, vR u, vI i, vI c, vI y, l7, l8] [] (M3, S) Q
    refine br_eq (fun _ => ?_) (fun hb => absurd hc hb)
    show WP 20 199 818 [vR 1, vR x, vR m, vR u, vI i, vI c, vI y, l7, l8] [] (M3, S) Q
    refine WP.blk 1 ?_
    show WP 20 199 820 [vR 1, vR x, vR m, vR u, vI i, vI c, vI y, l7, l8] [vI c] (M3, S) Q
    refine WP.blk 1 ?_
    show WP 20 199 (if cnd .ne c 0 = true then 835 else 823) [vR 1, vR x, vR m, vR u, vI i, vI c, vI y, l7, l8] [] (M3, S) Q
    refine br_ne (fun _ => ?_) (fun hb => ?_)
    · show WP 20 199 835 [vR 1, vR x, vR m, vR u, vI i, vI c, vI y, l7, l8] [] (M3, S) Q
      refine WP.blk 1 ?_
      exact hP _ _
    · show WP 20 199 823 [vR 1, vR x, vR m, vR u, vI i, vI c, vI y, l7, l8] [] (M3, S) Q
      refine WP.blk 1 ?_
      show WP 20 199 824 [vR 1, vR x, vR m, vR u, vI i, vI c, vI y, l7, l8] [vR u] (M3, S) Q
      refine WP.blk 1 ?_
      show WP 20 199 825 [vR 1, vR x, vR m, vR u, vI i, vI c, vI y, l7, l8] [vI 0, vR u] (M3, S) Q
      refine WP.blk 1 ?_
      show (sT S u = 12 ∧ (0 : Int) ≤ 0 ∧ (0 : Int) < (sN S u : Int)) ∧ WP 20 199 826 [vR 1, vR x, vR m, vR u, vI i, vI c, vI y, l7, l8] [vL (M3 u 0)] (M3, S) Q
      refine ⟨⟨hu.1, by decide, by rw [hu.2]; decide⟩, ?_⟩
      refine WP.blk 1 ?_
      show WP 20 199 828 [vR 1, vR x, vR m, vR u, vI i, vI c, vI y, l7, l8] [vI y, vL (M3 u 0)] (M3, S) Q
      refine WP.blk 1 ?_
      show WP 20 199 829 [vR 1, vR x, vR m, vR u, vI i, vI c, vI y, l7, l8] [vL y, vL (M3 u 0)] (M3, S) Q
      refine WP.blk 1 ?_
      show WP 20 199 830 [vR 1, vR x, vR m, vR u, vI i, vI c, vI y, l7, l8] [vI (lC (M3 u 0) y)] (M3, S) Q
      rw [h0 hb, lC_s]
      refine WP.blk 1 ?_
      show WP 20 199 (if cnd .eq 0 0 = true then 835 else 833) [vR 1, vR x, vR m, vR u, vI i, vI c, vI y, l7, l8] [] (M3, S) Q
      refine br_eq (fun _ => ?_) (fun hb => absurd rfl hb)
      show WP 20 199 835 [vR 1, vR x, vR m, vR u, vI i, vI c, vI y, l7, l8] [] (M3, S) Q
      refine WP.blk 1 ?_
      exact hP _ _
  · rw [if_neg hb] at hr
    show WP 20 199 797 [vR 1, vR x, vR m, vR u, vI i, vI c, l6, l7, l8] [vI (M 1 (i + 2)), vI (M 1 (i + 1)), vR m] (M, S) Q
    refine WP.blk 1 ?_
    show WP 20 199 798 [vR 1, vR x, vR m, vR u, vI i, vI c, l6, l7, l8] [vI 1, vI (M 1 (i + 2)), vI (M 1 (i + 1)), vR m] (M, S) Q
    refine WP.blk 1 ?_
    show WP 20 199 802 [vR 1, vR x, vR m, vR u, vI i, vI c, l6, l7, l8] [vI 1, vI (M 1 (i + 2)), vI (M 1 (i + 1)), vR m] (M, S) Q
    refine WP.call (a := [vR m, vI (M 1 (i + 1)), vI (M 1 (i + 2)), vI 1]) (rest := []) rfl rfl rfl rfl ⟨hS.1.1, trivial⟩ (by decide) hr (fun r w2 h => ?_)
    obtain ⟨y, M3, rfl, rfl, hc, h0, hP⟩ := h
    refine ⟨rfl, ?_⟩
    show WP 20 199 805 [vR 1, vR x, vR m, vR u, vI i, vI c, l6, l7, l8] [vI y] (M3, S) Q
    refine WP.blk 1 ?_
    show WP 20 199 807 [vR 1, vR x, vR m, vR u, vI i, vI c, vI y, l7, l8] [] (M3, S) Q
    refine WP.blk 1 ?_
    show WP 20 199 808 [vR 1, vR x, vR m, vR u, vI i, vI c, vI y, l7, l8] [vR m] (M3, S) Q
    refine WP.cl (a := [vR m]) (rest := []) rfl rfl rfl rfl ⟨hS.1.1, trivial⟩ (by decide) (q_thrown hS ⟨rfl, ?_⟩)
    show WP 20 199 811 [vR 1, vR x, vR m, vR u, vI i, vI c, vI y, l7, l8] [vI (M3 m 5)] (M3, S) Q
    refine WP.blk 1 ?_
    show WP 20 199 813 [vR 1, vR x, vR m, vR u, vI i, vI c, vI y, l7, l8] [vI c, vI (M3 m 5)] (M3, S) Q
    refine WP.blk 1 ?_
    show WP 20 199 (if cnd .eq (M3 m 5) c = true then 818 else 816) [vR 1, vR x, vR m, vR u, vI i, vI c, vI y, l7, l8] [] (M3, S) Q
    refine br_eq (fun _ => ?_) (fun hb => absurd hc hb)
    show WP 20 199 818 [vR 1, vR x, vR m, vR u, vI i, vI c, vI y, l7, l8] [] (M3, S) Q
    refine WP.blk 1 ?_
    show WP 20 199 820 [vR 1, vR x, vR m, vR u, vI i, vI c, vI y, l7, l8] [vI c] (M3, S) Q
    refine WP.blk 1 ?_
    show WP 20 199 (if cnd .ne c 0 = true then 835 else 823) [vR 1, vR x, vR m, vR u, vI i, vI c, vI y, l7, l8] [] (M3, S) Q
    refine br_ne (fun _ => ?_) (fun hb => ?_)
    · show WP 20 199 835 [vR 1, vR x, vR m, vR u, vI i, vI c, vI y, l7, l8] [] (M3, S) Q
      refine WP.blk 1 ?_
      exact hP _ _
    · show WP 20 199 823 [vR 1, vR x, vR m, vR u, vI i, vI c, vI y, l7, l8] [] (M3, S) Q
      refine WP.blk 1 ?_
      show WP 20 199 824 [vR 1, vR x, vR m, vR u, vI i, vI c, vI y, l7, l8] [vR u] (M3, S) Q
      refine WP.blk 1 ?_
      show WP 20 199 825 [vR 1, vR x, vR m, vR u, vI i, vI c, vI y, l7, l8] [vI 0, vR u] (M3, S) Q
      refine WP.blk 1 ?_
      show (sT S u = 12 ∧ (0 : Int) ≤ 0 ∧ (0 : Int) < (sN S u : Int)) ∧ WP 20 199 826 [vR 1, vR x, vR m, vR u, vI i, vI c, vI y, l7, l8] [vL (M3 u 0)] (M3, S) Q
      refine ⟨⟨hu.1, by decide, by rw [hu.2]; decide⟩, ?_⟩
      refine WP.blk 1 ?_
      show WP 20 199 828 [vR 1, vR x, vR m, vR u, vI i, vI c, vI y, l7, l8] [vI y, vL (M3 u 0)] (M3, S) Q
      refine WP.blk 1 ?_
      show WP 20 199 829 [vR 1, vR x, vR m, vR u, vI i, vI c, vI y, l7, l8] [vL y, vL (M3 u 0)] (M3, S) Q
      refine WP.blk 1 ?_
      show WP 20 199 830 [vR 1, vR x, vR m, vR u, vI i, vI c, vI y, l7, l8] [vI (lC (M3 u 0) y)] (M3, S) Q
      rw [h0 hb, lC_s]
      refine WP.blk 1 ?_
      show WP 20 199 (if cnd .eq 0 0 = true then 835 else 833) [vR 1, vR x, vR m, vR u, vI i, vI c, vI y, l7, l8] [] (M3, S) Q
      refine br_eq (fun _ => ?_) (fun hb => absurd rfl hb)
      show WP 20 199 835 [vR 1, vR x, vR m, vR u, vI i, vI c, vI y, l7, l8] [] (M3, S) Q
      refine WP.blk 1 ?_
      exact hP _ _
theorem h_word {w : Wd} {x m u L : Nat} {i : Int} {l5 l6 l7 l8 : V} {Q : Res → Wd → Prop} (h1 : ty w 1 = 16 ∧ ln w 1 = L) (hi : 0 ≤ i ∧ i + 3 < (L : Int) ∧ L ≤ 2048) (hc : EvQ 8 191 [vR x, vI (gi w 1 (i + 1)), vI (gi w 1 (i + 2)), vR u] w (fun r w2 => ∃ c, r = (0, vI c) ∧ WP 20 199 855 [vR 1, vR x, vR m, vR u, vI i, l5, l6, l7, l8] [vI c] w2 Q)) : WP 20 199 838 [vR 1, vR x, vR m, vR u, vI i, l5, l6, l7, l8] [] w Q := by
  refine WP.blk 1 ?_
  show WP 20 199 839 [vR 1, vR x, vR m, vR u, vI i, l5, l6, l7, l8] [vR x] w Q
  refine WP.blk 1 ?_
  show WP 20 199 840 [vR 1, vR x, vR m, vR u, vI i, l5, l6, l7, l8] [vR 1, vR x] w Q
  refine WP.blk 1 ?_
  show WP 20 199 842 [vR 1, vR x, vR m, vR u, vI i, l5, l6, l7, l8] [vI i, vR 1, vR x] w Q
  refine WP.blk 1 ?_
  show WP 20 199 843 [vR 1, vR x, vR m, vR u, vI i, l5, l6, l7, l8] [vI 1, vI i, vR 1, vR x] w Q
  refine WP.blk 1 ?_
  show ir (i + 1) ∧ WP 20 199 844 [vR 1, vR x, vR m, vR u, vI i, l5, l6, l7, l8] [vI (i + 1), vR 1, vR x] w Q
  refine ⟨by unfold ir; omega, ?_⟩
  refine WP.blk 1 ?_
  show ((ty w 1 = 11 ∨ ty w 1 = 16 ∨ ty w 1 = 17) ∧ 0 ≤ (i + 1) ∧ (i + 1) < (ln w 1 : Int)) ∧ WP 20 199 845 [vR 1, vR x, vR m, vR u, vI i, l5, l6, l7, l8] [vI (gi w 1 (i + 1)), vR x] w Q
  refine ⟨⟨Or.inr (Or.inl h1.1), by omega, by rw [h1.2]; omega⟩, ?_⟩
  refine WP.blk 1 ?_
  show WP 20 199 846 [vR 1, vR x, vR m, vR u, vI i, l5, l6, l7, l8] [vR 1, vI (gi w 1 (i + 1)), vR x] w Q
  refine WP.blk 1 ?_
  show WP 20 199 848 [vR 1, vR x, vR m, vR u, vI i, l5, l6, l7, l8] [vI i, vR 1, vI (gi w 1 (i + 1)), vR x] w Q
  refine WP.blk 1 ?_
  show WP 20 199 849 [vR 1, vR x, vR m, vR u, vI i, l5, l6, l7, l8] [vI 2, vI i, vR 1, vI (gi w 1 (i + 1)), vR x] w Q
  refine WP.blk 1 ?_
  show ir (i + 2) ∧ WP 20 199 850 [vR 1, vR x, vR m, vR u, vI i, l5, l6, l7, l8] [vI (i + 2), vR 1, vI (gi w 1 (i + 1)), vR x] w Q
  refine ⟨by unfold ir; omega, ?_⟩
  refine WP.blk 1 ?_
  show ((ty w 1 = 11 ∨ ty w 1 = 16 ∨ ty w 1 = 17) ∧ 0 ≤ (i + 2) ∧ (i + 2) < (ln w 1 : Int)) ∧ WP 20 199 851 [vR 1, vR x, vR m, vR u, vI i, l5, l6, l7, l8] [vI (gi w 1 (i + 2)), vI (gi w 1 (i + 1)), vR x] w Q
  refine ⟨⟨Or.inr (Or.inl h1.1), by omega, by rw [h1.2]; omega⟩, ?_⟩
  refine WP.blk 1 ?_
  show WP 20 199 852 [vR 1, vR x, vR m, vR u, vI i, l5, l6, l7, l8] [vR u, vI (gi w 1 (i + 2)), vI (gi w 1 (i + 1)), vR x] w Q
  refine WP.call (a := [vR x, vI (gi w 1 (i + 1)), vI (gi w 1 (i + 2)), vR u]) (rest := []) rfl rfl rfl rfl trivial (by decide) hc (fun r w2 h => ?_)
  obtain ⟨c, rfl, h⟩ := h
  exact ⟨rfl, h⟩
theorem a_word {M : Nat → Int → Int} {S : SD} {c : Int} {x m u L : Nat} {i : Int} {l5 l6 l7 l8 : V} {Q : Res → Wd → Prop} (hS : isMod S m) (h1 : sT S 1 = 16 ∧ sN S 1 = L) (hu : sT S u = 12 ∧ sN S u = 1) (hi : 0 ≤ i ∧ i + 3 < (L : Int) ∧ L ≤ 2048) (hr : EvQ 9 156 [vR m, vI (M 1 (i + 1)), vI (M 1 (i + 2))] (M, S) (LQ S m u c (fun M3 => ∀ l5 l6, WP 20 199 1416 [vR 1, vR x, vR m, vR u, vI i, l5, l6, l7, l8] [] (M3, S) Q))) : WP 20 199 855 [vR 1, vR x, vR m, vR u, vI i, l5, l6, l7, l8] [vI c] (M, S) Q := by
  refine WP.blk 1 ?_
  show WP 20 199 857 [vR 1, vR x, vR m, vR u, vI i, vI c, l6, l7, l8] [] (M, S) Q
  refine WP.blk 1 ?_
  show WP 20 199 858 [vR 1, vR x, vR m, vR u, vI i, vI c, l6, l7, l8] [vR m] (M, S) Q
  refine WP.blk 1 ?_
  show WP 20 199 859 [vR 1, vR x, vR m, vR u, vI i, vI c, l6, l7, l8] [vR 1, vR m] (M, S) Q
  refine WP.blk 1 ?_
  show WP 20 199 861 [vR 1, vR x, vR m, vR u, vI i, vI c, l6, l7, l8] [vI i, vR 1, vR m] (M, S) Q
  refine WP.blk 1 ?_
  show WP 20 199 862 [vR 1, vR x, vR m, vR u, vI i, vI c, l6, l7, l8] [vI 1, vI i, vR 1, vR m] (M, S) Q
  refine WP.blk 1 ?_
  show ir (i + 1) ∧ WP 20 199 863 [vR 1, vR x, vR m, vR u, vI i, vI c, l6, l7, l8] [vI (i + 1), vR 1, vR m] (M, S) Q
  refine ⟨by unfold ir; omega, ?_⟩
  refine WP.blk 1 ?_
  show ((sT S 1 = 11 ∨ sT S 1 = 16 ∨ sT S 1 = 17) ∧ 0 ≤ (i + 1) ∧ (i + 1) < (sN S 1 : Int)) ∧ WP 20 199 864 [vR 1, vR x, vR m, vR u, vI i, vI c, l6, l7, l8] [vI (M 1 (i + 1)), vR m] (M, S) Q
  refine ⟨⟨Or.inr (Or.inl h1.1), by omega, by rw [h1.2]; omega⟩, ?_⟩
  refine WP.blk 1 ?_
  show WP 20 199 865 [vR 1, vR x, vR m, vR u, vI i, vI c, l6, l7, l8] [vR 1, vI (M 1 (i + 1)), vR m] (M, S) Q
  refine WP.blk 1 ?_
  show WP 20 199 867 [vR 1, vR x, vR m, vR u, vI i, vI c, l6, l7, l8] [vI i, vR 1, vI (M 1 (i + 1)), vR m] (M, S) Q
  refine WP.blk 1 ?_
  show WP 20 199 868 [vR 1, vR x, vR m, vR u, vI i, vI c, l6, l7, l8] [vI 2, vI i, vR 1, vI (M 1 (i + 1)), vR m] (M, S) Q
  refine WP.blk 1 ?_
  show ir (i + 2) ∧ WP 20 199 869 [vR 1, vR x, vR m, vR u, vI i, vI c, l6, l7, l8] [vI (i + 2), vR 1, vI (M 1 (i + 1)), vR m] (M, S) Q
  refine ⟨by unfold ir; omega, ?_⟩
  refine WP.blk 1 ?_
  show ((sT S 1 = 11 ∨ sT S 1 = 16 ∨ sT S 1 = 17) ∧ 0 ≤ (i + 2) ∧ (i + 2) < (sN S 1 : Int)) ∧ WP 20 199 870 [vR 1, vR x, vR m, vR u, vI i, vI c, l6, l7, l8] [vI (M 1 (i + 2)), vI (M 1 (i + 1)), vR m] (M, S) Q
  refine ⟨⟨Or.inr (Or.inl h1.1), by omega, by rw [h1.2]; omega⟩, ?_⟩
  refine WP.call (a := [vR m, vI (M 1 (i + 1)), vI (M 1 (i + 2))]) (rest := []) rfl rfl rfl rfl ⟨hS.1.1, trivial⟩ (by decide) hr (fun r w2 h => ?_)
  obtain ⟨y, M3, rfl, rfl, hc, h0, hP⟩ := h
  refine ⟨rfl, ?_⟩
  show WP 20 199 873 [vR 1, vR x, vR m, vR u, vI i, vI c, l6, l7, l8] [vI y] (M3, S) Q
  refine WP.blk 1 ?_
  show WP 20 199 875 [vR 1, vR x, vR m, vR u, vI i, vI c, vI y, l7, l8] [] (M3, S) Q
  refine WP.blk 1 ?_
  show WP 20 199 876 [vR 1, vR x, vR m, vR u, vI i, vI c, vI y, l7, l8] [vR m] (M3, S) Q
  refine WP.cl (a := [vR m]) (rest := []) rfl rfl rfl rfl ⟨hS.1.1, trivial⟩ (by decide) (q_thrown hS ⟨rfl, ?_⟩)
  show WP 20 199 879 [vR 1, vR x, vR m, vR u, vI i, vI c, vI y, l7, l8] [vI (M3 m 5)] (M3, S) Q
  refine WP.blk 1 ?_
  show WP 20 199 881 [vR 1, vR x, vR m, vR u, vI i, vI c, vI y, l7, l8] [vI c, vI (M3 m 5)] (M3, S) Q
  refine WP.blk 1 ?_
  show WP 20 199 (if cnd .eq (M3 m 5) c = true then 886 else 884) [vR 1, vR x, vR m, vR u, vI i, vI c, vI y, l7, l8] [] (M3, S) Q
  refine br_eq (fun _ => ?_) (fun hb => absurd hc hb)
  show WP 20 199 886 [vR 1, vR x, vR m, vR u, vI i, vI c, vI y, l7, l8] [] (M3, S) Q
  refine WP.blk 1 ?_
  show WP 20 199 888 [vR 1, vR x, vR m, vR u, vI i, vI c, vI y, l7, l8] [vI c] (M3, S) Q
  refine WP.blk 1 ?_
  show WP 20 199 (if cnd .ne c 0 = true then 903 else 891) [vR 1, vR x, vR m, vR u, vI i, vI c, vI y, l7, l8] [] (M3, S) Q
  refine br_ne (fun _ => ?_) (fun hb => ?_)
  · show WP 20 199 903 [vR 1, vR x, vR m, vR u, vI i, vI c, vI y, l7, l8] [] (M3, S) Q
    refine WP.blk 1 ?_
    exact hP _ _
  · show WP 20 199 891 [vR 1, vR x, vR m, vR u, vI i, vI c, vI y, l7, l8] [] (M3, S) Q
    refine WP.blk 1 ?_
    show WP 20 199 892 [vR 1, vR x, vR m, vR u, vI i, vI c, vI y, l7, l8] [vR u] (M3, S) Q
    refine WP.blk 1 ?_
    show WP 20 199 893 [vR 1, vR x, vR m, vR u, vI i, vI c, vI y, l7, l8] [vI 0, vR u] (M3, S) Q
    refine WP.blk 1 ?_
    show (sT S u = 12 ∧ (0 : Int) ≤ 0 ∧ (0 : Int) < (sN S u : Int)) ∧ WP 20 199 894 [vR 1, vR x, vR m, vR u, vI i, vI c, vI y, l7, l8] [vL (M3 u 0)] (M3, S) Q
    refine ⟨⟨hu.1, by decide, by rw [hu.2]; decide⟩, ?_⟩
    refine WP.blk 1 ?_
    show WP 20 199 896 [vR 1, vR x, vR m, vR u, vI i, vI c, vI y, l7, l8] [vI y, vL (M3 u 0)] (M3, S) Q
    refine WP.blk 1 ?_
    show WP 20 199 897 [vR 1, vR x, vR m, vR u, vI i, vI c, vI y, l7, l8] [vL y, vL (M3 u 0)] (M3, S) Q
    refine WP.blk 1 ?_
    show WP 20 199 898 [vR 1, vR x, vR m, vR u, vI i, vI c, vI y, l7, l8] [vI (lC (M3 u 0) y)] (M3, S) Q
    rw [h0 hb, lC_s]
    refine WP.blk 1 ?_
    show WP 20 199 (if cnd .eq 0 0 = true then 903 else 901) [vR 1, vR x, vR m, vR u, vI i, vI c, vI y, l7, l8] [] (M3, S) Q
    refine br_eq (fun _ => ?_) (fun hb => absurd rfl hb)
    show WP 20 199 903 [vR 1, vR x, vR m, vR u, vI i, vI c, vI y, l7, l8] [] (M3, S) Q
    refine WP.blk 1 ?_
    exact hP _ _
theorem h_letter {w : Wd} {x m u L : Nat} {i : Int} {l5 l6 l7 l8 : V} {Q : Res → Wd → Prop} (h1 : ty w 1 = 16 ∧ ln w 1 = L) (hi : 0 ≤ i ∧ i + 3 < (L : Int) ∧ L ≤ 2048) (hc : EvQ 4 192 [vR x, vI (gi w 1 (i + 1)), vI (gi w 1 (i + 2)), vR u] w (fun r w2 => ∃ c, r = (0, vI c) ∧ WP 20 199 923 [vR 1, vR x, vR m, vR u, vI i, l5, l6, l7, l8] [vI c] w2 Q)) : WP 20 199 906 [vR 1, vR x, vR m, vR u, vI i, l5, l6, l7, l8] [] w Q := by
  refine WP.blk 1 ?_
  show WP 20 199 907 [vR 1, vR x, vR m, vR u, vI i, l5, l6, l7, l8] [vR x] w Q
  refine WP.blk 1 ?_
  show WP 20 199 908 [vR 1, vR x, vR m, vR u, vI i, l5, l6, l7, l8] [vR 1, vR x] w Q
  refine WP.blk 1 ?_
  show WP 20 199 910 [vR 1, vR x, vR m, vR u, vI i, l5, l6, l7, l8] [vI i, vR 1, vR x] w Q
  refine WP.blk 1 ?_
  show WP 20 199 911 [vR 1, vR x, vR m, vR u, vI i, l5, l6, l7, l8] [vI 1, vI i, vR 1, vR x] w Q
  refine WP.blk 1 ?_
  show ir (i + 1) ∧ WP 20 199 912 [vR 1, vR x, vR m, vR u, vI i, l5, l6, l7, l8] [vI (i + 1), vR 1, vR x] w Q
  refine ⟨by unfold ir; omega, ?_⟩
  refine WP.blk 1 ?_
  show ((ty w 1 = 11 ∨ ty w 1 = 16 ∨ ty w 1 = 17) ∧ 0 ≤ (i + 1) ∧ (i + 1) < (ln w 1 : Int)) ∧ WP 20 199 913 [vR 1, vR x, vR m, vR u, vI i, l5, l6, l7, l8] [vI (gi w 1 (i + 1)), vR x] w Q
  refine ⟨⟨Or.inr (Or.inl h1.1), by omega, by rw [h1.2]; omega⟩, ?_⟩
  refine WP.blk 1 ?_
  show WP 20 199 914 [vR 1, vR x, vR m, vR u, vI i, l5, l6, l7, l8] [vR 1, vI (gi w 1 (i + 1)), vR x] w Q
  refine WP.blk 1 ?_
  show WP 20 199 916 [vR 1, vR x, vR m, vR u, vI i, l5, l6, l7, l8] [vI i, vR 1, vI (gi w 1 (i + 1)), vR x] w Q
  refine WP.blk 1 ?_
  show WP 20 199 917 [vR 1, vR x, vR m, vR u, vI i, l5, l6, l7, l8] [vI 2, vI i, vR 1, vI (gi w 1 (i + 1)), vR x] w Q
  refine WP.blk 1 ?_
  show ir (i + 2) ∧ WP 20 199 918 [vR 1, vR x, vR m, vR u, vI i, l5, l6, l7, l8] [vI (i + 2), vR 1, vI (gi w 1 (i + 1)), vR x] w Q
  refine ⟨by unfold ir; omega, ?_⟩
  refine WP.blk 1 ?_
  show ((ty w 1 = 11 ∨ ty w 1 = 16 ∨ ty w 1 = 17) ∧ 0 ≤ (i + 2) ∧ (i + 2) < (ln w 1 : Int)) ∧ WP 20 199 919 [vR 1, vR x, vR m, vR u, vI i, l5, l6, l7, l8] [vI (gi w 1 (i + 2)), vI (gi w 1 (i + 1)), vR x] w Q
  refine ⟨⟨Or.inr (Or.inl h1.1), by omega, by rw [h1.2]; omega⟩, ?_⟩
  refine WP.blk 1 ?_
  show WP 20 199 920 [vR 1, vR x, vR m, vR u, vI i, l5, l6, l7, l8] [vR u, vI (gi w 1 (i + 2)), vI (gi w 1 (i + 1)), vR x] w Q
  refine WP.call (a := [vR x, vI (gi w 1 (i + 1)), vI (gi w 1 (i + 2)), vR u]) (rest := []) rfl rfl rfl rfl trivial (by decide) hc (fun r w2 h => ?_)
  obtain ⟨c, rfl, h⟩ := h
  exact ⟨rfl, h⟩
theorem a_letter {M : Nat → Int → Int} {S : SD} {c : Int} {x m u L : Nat} {i : Int} {l5 l6 l7 l8 : V} {Q : Res → Wd → Prop} (hS : isMod S m) (h1 : sT S 1 = 16 ∧ sN S 1 = L) (hu : sT S u = 12 ∧ sN S u = 1) (hi : 0 ≤ i ∧ i + 3 < (L : Int) ∧ L ≤ 2048) (hr : EvQ 3 157 [vR m, vI (M 1 (i + 1)), vI (M 1 (i + 2))] (M, S) (LQ S m u c (fun M3 => ∀ l5 l6, WP 20 199 1416 [vR 1, vR x, vR m, vR u, vI i, l5, l6, l7, l8] [] (M3, S) Q))) : WP 20 199 923 [vR 1, vR x, vR m, vR u, vI i, l5, l6, l7, l8] [vI c] (M, S) Q := by
  refine WP.blk 1 ?_
  show WP 20 199 925 [vR 1, vR x, vR m, vR u, vI i, vI c, l6, l7, l8] [] (M, S) Q
  refine WP.blk 1 ?_
  show WP 20 199 926 [vR 1, vR x, vR m, vR u, vI i, vI c, l6, l7, l8] [vR m] (M, S) Q
  refine WP.blk 1 ?_
  show WP 20 199 927 [vR 1, vR x, vR m, vR u, vI i, vI c, l6, l7, l8] [vR 1, vR m] (M, S) Q
  refine WP.blk 1 ?_
  show WP 20 199 929 [vR 1, vR x, vR m, vR u, vI i, vI c, l6, l7, l8] [vI i, vR 1, vR m] (M, S) Q
  refine WP.blk 1 ?_
  show WP 20 199 930 [vR 1, vR x, vR m, vR u, vI i, vI c, l6, l7, l8] [vI 1, vI i, vR 1, vR m] (M, S) Q
  refine WP.blk 1 ?_
  show ir (i + 1) ∧ WP 20 199 931 [vR 1, vR x, vR m, vR u, vI i, vI c, l6, l7, l8] [vI (i + 1), vR 1, vR m] (M, S) Q
  refine ⟨by unfold ir; omega, ?_⟩
  refine WP.blk 1 ?_
  show ((sT S 1 = 11 ∨ sT S 1 = 16 ∨ sT S 1 = 17) ∧ 0 ≤ (i + 1) ∧ (i + 1) < (sN S 1 : Int)) ∧ WP 20 199 932 [vR 1, vR x, vR m, vR u, vI i, vI c, l6, l7, l8] [vI (M 1 (i + 1)), vR m] (M, S) Q
  refine ⟨⟨Or.inr (Or.inl h1.1), by omega, by rw [h1.2]; omega⟩, ?_⟩
  refine WP.blk 1 ?_
  show WP 20 199 933 [vR 1, vR x, vR m, vR u, vI i, vI c, l6, l7, l8] [vR 1, vI (M 1 (i + 1)), vR m] (M, S) Q
  refine WP.blk 1 ?_
  show WP 20 199 935 [vR 1, vR x, vR m, vR u, vI i, vI c, l6, l7, l8] [vI i, vR 1, vI (M 1 (i + 1)), vR m] (M, S) Q
  refine WP.blk 1 ?_
  show WP 20 199 936 [vR 1, vR x, vR m, vR u, vI i, vI c, l6, l7, l8] [vI 2, vI i, vR 1, vI (M 1 (i + 1)), vR m] (M, S) Q
  refine WP.blk 1 ?_
  show ir (i + 2) ∧ WP 20 199 937 [vR 1, vR x, vR m, vR u, vI i, vI c, l6, l7, l8] [vI (i + 2), vR 1, vI (M 1 (i + 1)), vR m] (M, S) Q
  refine ⟨by unfold ir; omega, ?_⟩
  refine WP.blk 1 ?_
  show ((sT S 1 = 11 ∨ sT S 1 = 16 ∨ sT S 1 = 17) ∧ 0 ≤ (i + 2) ∧ (i + 2) < (sN S 1 : Int)) ∧ WP 20 199 938 [vR 1, vR x, vR m, vR u, vI i, vI c, l6, l7, l8] [vI (M 1 (i + 2)), vI (M 1 (i + 1)), vR m] (M, S) Q
  refine ⟨⟨Or.inr (Or.inl h1.1), by omega, by rw [h1.2]; omega⟩, ?_⟩
  refine WP.call (a := [vR m, vI (M 1 (i + 1)), vI (M 1 (i + 2))]) (rest := []) rfl rfl rfl rfl ⟨hS.1.1, trivial⟩ (by decide) hr (fun r w2 h => ?_)
  obtain ⟨y, M3, rfl, rfl, hc, h0, hP⟩ := h
  refine ⟨rfl, ?_⟩
  show WP 20 199 941 [vR 1, vR x, vR m, vR u, vI i, vI c, l6, l7, l8] [vI y] (M3, S) Q
  refine WP.blk 1 ?_
  show WP 20 199 943 [vR 1, vR x, vR m, vR u, vI i, vI c, vI y, l7, l8] [] (M3, S) Q
  refine WP.blk 1 ?_
  show WP 20 199 944 [vR 1, vR x, vR m, vR u, vI i, vI c, vI y, l7, l8] [vR m] (M3, S) Q
  refine WP.cl (a := [vR m]) (rest := []) rfl rfl rfl rfl ⟨hS.1.1, trivial⟩ (by decide) (q_thrown hS ⟨rfl, ?_⟩)
  show WP 20 199 947 [vR 1, vR x, vR m, vR u, vI i, vI c, vI y, l7, l8] [vI (M3 m 5)] (M3, S) Q
  refine WP.blk 1 ?_
  show WP 20 199 949 [vR 1, vR x, vR m, vR u, vI i, vI c, vI y, l7, l8] [vI c, vI (M3 m 5)] (M3, S) Q
  refine WP.blk 1 ?_
  show WP 20 199 (if cnd .eq (M3 m 5) c = true then 954 else 952) [vR 1, vR x, vR m, vR u, vI i, vI c, vI y, l7, l8] [] (M3, S) Q
  refine br_eq (fun _ => ?_) (fun hb => absurd hc hb)
  show WP 20 199 954 [vR 1, vR x, vR m, vR u, vI i, vI c, vI y, l7, l8] [] (M3, S) Q
  refine WP.blk 1 ?_
  show WP 20 199 956 [vR 1, vR x, vR m, vR u, vI i, vI c, vI y, l7, l8] [vI c] (M3, S) Q
  refine WP.blk 1 ?_
  show WP 20 199 (if cnd .ne c 0 = true then 971 else 959) [vR 1, vR x, vR m, vR u, vI i, vI c, vI y, l7, l8] [] (M3, S) Q
  refine br_ne (fun _ => ?_) (fun hb => ?_)
  · show WP 20 199 971 [vR 1, vR x, vR m, vR u, vI i, vI c, vI y, l7, l8] [] (M3, S) Q
    refine WP.blk 1 ?_
    exact hP _ _
  · show WP 20 199 959 [vR 1, vR x, vR m, vR u, vI i, vI c, vI y, l7, l8] [] (M3, S) Q
    refine WP.blk 1 ?_
    show WP 20 199 960 [vR 1, vR x, vR m, vR u, vI i, vI c, vI y, l7, l8] [vR u] (M3, S) Q
    refine WP.blk 1 ?_
    show WP 20 199 961 [vR 1, vR x, vR m, vR u, vI i, vI c, vI y, l7, l8] [vI 0, vR u] (M3, S) Q
    refine WP.blk 1 ?_
    show (sT S u = 12 ∧ (0 : Int) ≤ 0 ∧ (0 : Int) < (sN S u : Int)) ∧ WP 20 199 962 [vR 1, vR x, vR m, vR u, vI i, vI c, vI y, l7, l8] [vL (M3 u 0)] (M3, S) Q
    refine ⟨⟨hu.1, by decide, by rw [hu.2]; decide⟩, ?_⟩
    refine WP.blk 1 ?_
    show WP 20 199 964 [vR 1, vR x, vR m, vR u, vI i, vI c, vI y, l7, l8] [vI y, vL (M3 u 0)] (M3, S) Q
    refine WP.blk 1 ?_
    show WP 20 199 965 [vR 1, vR x, vR m, vR u, vI i, vI c, vI y, l7, l8] [vL y, vL (M3 u 0)] (M3, S) Q
    refine WP.blk 1 ?_
    show WP 20 199 966 [vR 1, vR x, vR m, vR u, vI i, vI c, vI y, l7, l8] [vI (lC (M3 u 0) y)] (M3, S) Q
    rw [h0 hb, lC_s]
    refine WP.blk 1 ?_
    show WP 20 199 (if cnd .eq 0 0 = true then 971 else 969) [vR 1, vR x, vR m, vR u, vI i, vI c, vI y, l7, l8] [] (M3, S) Q
    refine br_eq (fun _ => ?_) (fun hb => absurd rfl hb)
    show WP 20 199 971 [vR 1, vR x, vR m, vR u, vI i, vI c, vI y, l7, l8] [] (M3, S) Q
    refine WP.blk 1 ?_
    exact hP _ _
theorem h_press {w : Wd} {x m u L : Nat} {i : Int} {l5 l6 l7 l8 : V} {Q : Res → Wd → Prop} (h1 : ty w 1 = 16 ∧ ln w 1 = L) (hi : 0 ≤ i ∧ i + 3 < (L : Int) ∧ L ≤ 2048) (hc : EvQ 7 193 [vR x, vI (gi w 1 (i + 1)), vI (gi w 1 (i + 2)), vR u] w (fun r w2 => ∃ c, r = (0, vI c) ∧ WP 20 199 991 [vR 1, vR x, vR m, vR u, vI i, l5, l6, l7, l8] [vI c] w2 Q)) : WP 20 199 974 [vR 1, vR x, vR m, vR u, vI i, l5, l6, l7, l8] [] w Q := by
  refine WP.blk 1 ?_
  show WP 20 199 975 [vR 1, vR x, vR m, vR u, vI i, l5, l6, l7, l8] [vR x] w Q
  refine WP.blk 1 ?_
  show WP 20 199 976 [vR 1, vR x, vR m, vR u, vI i, l5, l6, l7, l8] [vR 1, vR x] w Q
  refine WP.blk 1 ?_
  show WP 20 199 978 [vR 1, vR x, vR m, vR u, vI i, l5, l6, l7, l8] [vI i, vR 1, vR x] w Q
  refine WP.blk 1 ?_
  show WP 20 199 979 [vR 1, vR x, vR m, vR u, vI i, l5, l6, l7, l8] [vI 1, vI i, vR 1, vR x] w Q
  refine WP.blk 1 ?_
  show ir (i + 1) ∧ WP 20 199 980 [vR 1, vR x, vR m, vR u, vI i, l5, l6, l7, l8] [vI (i + 1), vR 1, vR x] w Q
  refine ⟨by unfold ir; omega, ?_⟩
  refine WP.blk 1 ?_
  show ((ty w 1 = 11 ∨ ty w 1 = 16 ∨ ty w 1 = 17) ∧ 0 ≤ (i + 1) ∧ (i + 1) < (ln w 1 : Int)) ∧ WP 20 199 981 [vR 1, vR x, vR m, vR u, vI i, l5, l6, l7, l8] [vI (gi w 1 (i + 1)), vR x] w Q
  refine ⟨⟨Or.inr (Or.inl h1.1), by omega, by rw [h1.2]; omega⟩, ?_⟩
  refine WP.blk 1 ?_
  show WP 20 199 982 [vR 1, vR x, vR m, vR u, vI i, l5, l6, l7, l8] [vR 1, vI (gi w 1 (i + 1)), vR x] w Q
  refine WP.blk 1 ?_
  show WP 20 199 984 [vR 1, vR x, vR m, vR u, vI i, l5, l6, l7, l8] [vI i, vR 1, vI (gi w 1 (i + 1)), vR x] w Q
  refine WP.blk 1 ?_
  show WP 20 199 985 [vR 1, vR x, vR m, vR u, vI i, l5, l6, l7, l8] [vI 2, vI i, vR 1, vI (gi w 1 (i + 1)), vR x] w Q
  refine WP.blk 1 ?_
  show ir (i + 2) ∧ WP 20 199 986 [vR 1, vR x, vR m, vR u, vI i, l5, l6, l7, l8] [vI (i + 2), vR 1, vI (gi w 1 (i + 1)), vR x] w Q
  refine ⟨by unfold ir; omega, ?_⟩
  refine WP.blk 1 ?_
  show ((ty w 1 = 11 ∨ ty w 1 = 16 ∨ ty w 1 = 17) ∧ 0 ≤ (i + 2) ∧ (i + 2) < (ln w 1 : Int)) ∧ WP 20 199 987 [vR 1, vR x, vR m, vR u, vI i, l5, l6, l7, l8] [vI (gi w 1 (i + 2)), vI (gi w 1 (i + 1)), vR x] w Q
  refine ⟨⟨Or.inr (Or.inl h1.1), by omega, by rw [h1.2]; omega⟩, ?_⟩
  refine WP.blk 1 ?_
  show WP 20 199 988 [vR 1, vR x, vR m, vR u, vI i, l5, l6, l7, l8] [vR u, vI (gi w 1 (i + 2)), vI (gi w 1 (i + 1)), vR x] w Q
  refine WP.call (a := [vR x, vI (gi w 1 (i + 1)), vI (gi w 1 (i + 2)), vR u]) (rest := []) rfl rfl rfl rfl trivial (by decide) hc (fun r w2 h => ?_)
  obtain ⟨c, rfl, h⟩ := h
  exact ⟨rfl, h⟩
theorem a_press {M : Nat → Int → Int} {S : SD} {c : Int} {x m u L : Nat} {i : Int} {l5 l6 l7 l8 : V} {Q : Res → Wd → Prop} (hS : isMod S m) (h1 : sT S 1 = 16 ∧ sN S 1 = L) (hu : sT S u = 12 ∧ sN S u = 1) (hi : 0 ≤ i ∧ i + 3 < (L : Int) ∧ L ≤ 2048) (hr : EvQ 6 158 [vR m, vI (M 1 (i + 1)), vI (M 1 (i + 2))] (M, S) (LQ S m u c (fun M3 => ∀ l5 l6, WP 20 199 1416 [vR 1, vR x, vR m, vR u, vI i, l5, l6, l7, l8] [] (M3, S) Q))) : WP 20 199 991 [vR 1, vR x, vR m, vR u, vI i, l5, l6, l7, l8] [vI c] (M, S) Q := by
  refine WP.blk 1 ?_
  show WP 20 199 993 [vR 1, vR x, vR m, vR u, vI i, vI c, l6, l7, l8] [] (M, S) Q
  refine WP.blk 1 ?_
  show WP 20 199 994 [vR 1, vR x, vR m, vR u, vI i, vI c, l6, l7, l8] [vR m] (M, S) Q
  refine WP.blk 1 ?_
  show WP 20 199 995 [vR 1, vR x, vR m, vR u, vI i, vI c, l6, l7, l8] [vR 1, vR m] (M, S) Q
  refine WP.blk 1 ?_
  show WP 20 199 997 [vR 1, vR x, vR m, vR u, vI i, vI c, l6, l7, l8] [vI i, vR 1, vR m] (M, S) Q
  refine WP.blk 1 ?_
  show WP 20 199 998 [vR 1, vR x, vR m, vR u, vI i, vI c, l6, l7, l8] [vI 1, vI i, vR 1, vR m] (M, S) Q
  refine WP.blk 1 ?_
  show ir (i + 1) ∧ WP 20 199 999 [vR 1, vR x, vR m, vR u, vI i, vI c, l6, l7, l8] [vI (i + 1), vR 1, vR m] (M, S) Q
  refine ⟨by unfold ir; omega, ?_⟩
  refine WP.blk 1 ?_
  show ((sT S 1 = 11 ∨ sT S 1 = 16 ∨ sT S 1 = 17) ∧ 0 ≤ (i + 1) ∧ (i + 1) < (sN S 1 : Int)) ∧ WP 20 199 1000 [vR 1, vR x, vR m, vR u, vI i, vI c, l6, l7, l8] [vI (M 1 (i + 1)), vR m] (M, S) Q
  refine ⟨⟨Or.inr (Or.inl h1.1), by omega, by rw [h1.2]; omega⟩, ?_⟩
  refine WP.blk 1 ?_
  show WP 20 199 1001 [vR 1, vR x, vR m, vR u, vI i, vI c, l6, l7, l8] [vR 1, vI (M 1 (i + 1)), vR m] (M, S) Q
  refine WP.blk 1 ?_
  show WP 20 199 1003 [vR 1, vR x, vR m, vR u, vI i, vI c, l6, l7, l8] [vI i, vR 1, vI (M 1 (i + 1)), vR m] (M, S) Q
  refine WP.blk 1 ?_
  show WP 20 199 1004 [vR 1, vR x, vR m, vR u, vI i, vI c, l6, l7, l8] [vI 2, vI i, vR 1, vI (M 1 (i + 1)), vR m] (M, S) Q
  refine WP.blk 1 ?_
  show ir (i + 2) ∧ WP 20 199 1005 [vR 1, vR x, vR m, vR u, vI i, vI c, l6, l7, l8] [vI (i + 2), vR 1, vI (M 1 (i + 1)), vR m] (M, S) Q
  refine ⟨by unfold ir; omega, ?_⟩
  refine WP.blk 1 ?_
  show ((sT S 1 = 11 ∨ sT S 1 = 16 ∨ sT S 1 = 17) ∧ 0 ≤ (i + 2) ∧ (i + 2) < (sN S 1 : Int)) ∧ WP 20 199 1006 [vR 1, vR x, vR m, vR u, vI i, vI c, l6, l7, l8] [vI (M 1 (i + 2)), vI (M 1 (i + 1)), vR m] (M, S) Q
  refine ⟨⟨Or.inr (Or.inl h1.1), by omega, by rw [h1.2]; omega⟩, ?_⟩
  refine WP.call (a := [vR m, vI (M 1 (i + 1)), vI (M 1 (i + 2))]) (rest := []) rfl rfl rfl rfl ⟨hS.1.1, trivial⟩ (by decide) hr (fun r w2 h => ?_)
  obtain ⟨y, M3, rfl, rfl, hc, h0, hP⟩ := h
  refine ⟨rfl, ?_⟩
  show WP 20 199 1009 [vR 1, vR x, vR m, vR u, vI i, vI c, l6, l7, l8] [vI y] (M3, S) Q
  refine WP.blk 1 ?_
  show WP 20 199 1011 [vR 1, vR x, vR m, vR u, vI i, vI c, vI y, l7, l8] [] (M3, S) Q
  refine WP.blk 1 ?_
  show WP 20 199 1012 [vR 1, vR x, vR m, vR u, vI i, vI c, vI y, l7, l8] [vR m] (M3, S) Q
  refine WP.cl (a := [vR m]) (rest := []) rfl rfl rfl rfl ⟨hS.1.1, trivial⟩ (by decide) (q_thrown hS ⟨rfl, ?_⟩)
  show WP 20 199 1015 [vR 1, vR x, vR m, vR u, vI i, vI c, vI y, l7, l8] [vI (M3 m 5)] (M3, S) Q
  refine WP.blk 1 ?_
  show WP 20 199 1017 [vR 1, vR x, vR m, vR u, vI i, vI c, vI y, l7, l8] [vI c, vI (M3 m 5)] (M3, S) Q
  refine WP.blk 1 ?_
  show WP 20 199 (if cnd .eq (M3 m 5) c = true then 1022 else 1020) [vR 1, vR x, vR m, vR u, vI i, vI c, vI y, l7, l8] [] (M3, S) Q
  refine br_eq (fun _ => ?_) (fun hb => absurd hc hb)
  show WP 20 199 1022 [vR 1, vR x, vR m, vR u, vI i, vI c, vI y, l7, l8] [] (M3, S) Q
  refine WP.blk 1 ?_
  show WP 20 199 1024 [vR 1, vR x, vR m, vR u, vI i, vI c, vI y, l7, l8] [vI c] (M3, S) Q
  refine WP.blk 1 ?_
  show WP 20 199 (if cnd .ne c 0 = true then 1039 else 1027) [vR 1, vR x, vR m, vR u, vI i, vI c, vI y, l7, l8] [] (M3, S) Q
  refine br_ne (fun _ => ?_) (fun hb => ?_)
  · show WP 20 199 1039 [vR 1, vR x, vR m, vR u, vI i, vI c, vI y, l7, l8] [] (M3, S) Q
    refine WP.blk 1 ?_
    exact hP _ _
  · show WP 20 199 1027 [vR 1, vR x, vR m, vR u, vI i, vI c, vI y, l7, l8] [] (M3, S) Q
    refine WP.blk 1 ?_
    show WP 20 199 1028 [vR 1, vR x, vR m, vR u, vI i, vI c, vI y, l7, l8] [vR u] (M3, S) Q
    refine WP.blk 1 ?_
    show WP 20 199 1029 [vR 1, vR x, vR m, vR u, vI i, vI c, vI y, l7, l8] [vI 0, vR u] (M3, S) Q
    refine WP.blk 1 ?_
    show (sT S u = 12 ∧ (0 : Int) ≤ 0 ∧ (0 : Int) < (sN S u : Int)) ∧ WP 20 199 1030 [vR 1, vR x, vR m, vR u, vI i, vI c, vI y, l7, l8] [vL (M3 u 0)] (M3, S) Q
    refine ⟨⟨hu.1, by decide, by rw [hu.2]; decide⟩, ?_⟩
    refine WP.blk 1 ?_
    show WP 20 199 1032 [vR 1, vR x, vR m, vR u, vI i, vI c, vI y, l7, l8] [vI y, vL (M3 u 0)] (M3, S) Q
    refine WP.blk 1 ?_
    show WP 20 199 1033 [vR 1, vR x, vR m, vR u, vI i, vI c, vI y, l7, l8] [vL y, vL (M3 u 0)] (M3, S) Q
    refine WP.blk 1 ?_
    show WP 20 199 1034 [vR 1, vR x, vR m, vR u, vI i, vI c, vI y, l7, l8] [vI (lC (M3 u 0) y)] (M3, S) Q
    rw [h0 hb, lC_s]
    refine WP.blk 1 ?_
    show WP 20 199 (if cnd .eq 0 0 = true then 1039 else 1037) [vR 1, vR x, vR m, vR u, vI i, vI c, vI y, l7, l8] [] (M3, S) Q
    refine br_eq (fun _ => ?_) (fun hb => absurd rfl hb)
    show WP 20 199 1039 [vR 1, vR x, vR m, vR u, vI i, vI c, vI y, l7, l8] [] (M3, S) Q
    refine WP.blk 1 ?_
    exact hP _ _
theorem h_write {w : Wd} {x m u L : Nat} {i : Int} {l5 l6 l7 l8 : V} {Q : Res → Wd → Prop} (h1 : ty w 1 = 16 ∧ ln w 1 = L) (hi : 0 ≤ i ∧ i + 3 < (L : Int) ∧ L ≤ 2048) (hc : EvQ 7 194 [vR x, vI (gi w 1 (i + 1)), vR u] w (fun r w2 => ∃ c, r = (0, vI c) ∧ WP 20 199 1053 [vR 1, vR x, vR m, vR u, vI i, l5, l6, l7, l8] [vI c] w2 Q)) : WP 20 199 1042 [vR 1, vR x, vR m, vR u, vI i, l5, l6, l7, l8] [] w Q := by
  refine WP.blk 1 ?_
  show WP 20 199 1043 [vR 1, vR x, vR m, vR u, vI i, l5, l6, l7, l8] [vR x] w Q
  refine WP.blk 1 ?_
  show WP 20 199 1044 [vR 1, vR x, vR m, vR u, vI i, l5, l6, l7, l8] [vR 1, vR x] w Q
  refine WP.blk 1 ?_
  show WP 20 199 1046 [vR 1, vR x, vR m, vR u, vI i, l5, l6, l7, l8] [vI i, vR 1, vR x] w Q
  refine WP.blk 1 ?_
  show WP 20 199 1047 [vR 1, vR x, vR m, vR u, vI i, l5, l6, l7, l8] [vI 1, vI i, vR 1, vR x] w Q
  refine WP.blk 1 ?_
  show ir (i + 1) ∧ WP 20 199 1048 [vR 1, vR x, vR m, vR u, vI i, l5, l6, l7, l8] [vI (i + 1), vR 1, vR x] w Q
  refine ⟨by unfold ir; omega, ?_⟩
  refine WP.blk 1 ?_
  show ((ty w 1 = 11 ∨ ty w 1 = 16 ∨ ty w 1 = 17) ∧ 0 ≤ (i + 1) ∧ (i + 1) < (ln w 1 : Int)) ∧ WP 20 199 1049 [vR 1, vR x, vR m, vR u, vI i, l5, l6, l7, l8] [vI (gi w 1 (i + 1)), vR x] w Q
  refine ⟨⟨Or.inr (Or.inl h1.1), by omega, by rw [h1.2]; omega⟩, ?_⟩
  refine WP.blk 1 ?_
  show WP 20 199 1050 [vR 1, vR x, vR m, vR u, vI i, l5, l6, l7, l8] [vR u, vI (gi w 1 (i + 1)), vR x] w Q
  refine WP.call (a := [vR x, vI (gi w 1 (i + 1)), vR u]) (rest := []) rfl rfl rfl rfl trivial (by decide) hc (fun r w2 h => ?_)
  obtain ⟨c, rfl, h⟩ := h
  exact ⟨rfl, h⟩
theorem a_write {M : Nat → Int → Int} {S : SD} {c : Int} {x m u L : Nat} {i : Int} {l5 l6 l7 l8 : V} {Q : Res → Wd → Prop} (hS : isMod S m) (h1 : sT S 1 = 16 ∧ sN S 1 = L) (hu : sT S u = 12 ∧ sN S u = 1) (hi : 0 ≤ i ∧ i + 3 < (L : Int) ∧ L ≤ 2048) (hr : EvQ 7 159 [vR m, vI (M 1 (i + 1))] (M, S) (LQ S m u c (fun M3 => ∀ l5 l6, WP 20 199 1416 [vR 1, vR x, vR m, vR u, vI i, l5, l6, l7, l8] [] (M3, S) Q))) : WP 20 199 1053 [vR 1, vR x, vR m, vR u, vI i, l5, l6, l7, l8] [vI c] (M, S) Q := by
  refine WP.blk 1 ?_
  show WP 20 199 1055 [vR 1, vR x, vR m, vR u, vI i, vI c, l6, l7, l8] [] (M, S) Q
  refine WP.blk 1 ?_
  show WP 20 199 1056 [vR 1, vR x, vR m, vR u, vI i, vI c, l6, l7, l8] [vR m] (M, S) Q
  refine WP.blk 1 ?_
  show WP 20 199 1057 [vR 1, vR x, vR m, vR u, vI i, vI c, l6, l7, l8] [vR 1, vR m] (M, S) Q
  refine WP.blk 1 ?_
  show WP 20 199 1059 [vR 1, vR x, vR m, vR u, vI i, vI c, l6, l7, l8] [vI i, vR 1, vR m] (M, S) Q
  refine WP.blk 1 ?_
  show WP 20 199 1060 [vR 1, vR x, vR m, vR u, vI i, vI c, l6, l7, l8] [vI 1, vI i, vR 1, vR m] (M, S) Q
  refine WP.blk 1 ?_
  show ir (i + 1) ∧ WP 20 199 1061 [vR 1, vR x, vR m, vR u, vI i, vI c, l6, l7, l8] [vI (i + 1), vR 1, vR m] (M, S) Q
  refine ⟨by unfold ir; omega, ?_⟩
  refine WP.blk 1 ?_
  show ((sT S 1 = 11 ∨ sT S 1 = 16 ∨ sT S 1 = 17) ∧ 0 ≤ (i + 1) ∧ (i + 1) < (sN S 1 : Int)) ∧ WP 20 199 1062 [vR 1, vR x, vR m, vR u, vI i, vI c, l6, l7, l8] [vI (M 1 (i + 1)), vR m] (M, S) Q
  refine ⟨⟨Or.inr (Or.inl h1.1), by omega, by rw [h1.2]; omega⟩, ?_⟩
  refine WP.call (a := [vR m, vI (M 1 (i + 1))]) (rest := []) rfl rfl rfl rfl ⟨hS.1.1, trivial⟩ (by decide) hr (fun r w2 h => ?_)
  obtain ⟨y, M3, rfl, rfl, hc, h0, hP⟩ := h
  refine ⟨rfl, ?_⟩
  show WP 20 199 1065 [vR 1, vR x, vR m, vR u, vI i, vI c, l6, l7, l8] [vI y] (M3, S) Q
  refine WP.blk 1 ?_
  show WP 20 199 1067 [vR 1, vR x, vR m, vR u, vI i, vI c, vI y, l7, l8] [] (M3, S) Q
  refine WP.blk 1 ?_
  show WP 20 199 1068 [vR 1, vR x, vR m, vR u, vI i, vI c, vI y, l7, l8] [vR m] (M3, S) Q
  refine WP.cl (a := [vR m]) (rest := []) rfl rfl rfl rfl ⟨hS.1.1, trivial⟩ (by decide) (q_thrown hS ⟨rfl, ?_⟩)
  show WP 20 199 1071 [vR 1, vR x, vR m, vR u, vI i, vI c, vI y, l7, l8] [vI (M3 m 5)] (M3, S) Q
  refine WP.blk 1 ?_
  show WP 20 199 1073 [vR 1, vR x, vR m, vR u, vI i, vI c, vI y, l7, l8] [vI c, vI (M3 m 5)] (M3, S) Q
  refine WP.blk 1 ?_
  show WP 20 199 (if cnd .eq (M3 m 5) c = true then 1078 else 1076) [vR 1, vR x, vR m, vR u, vI i, vI c, vI y, l7, l8] [] (M3, S) Q
  refine br_eq (fun _ => ?_) (fun hb => absurd hc hb)
  show WP 20 199 1078 [vR 1, vR x, vR m, vR u, vI i, vI c, vI y, l7, l8] [] (M3, S) Q
  refine WP.blk 1 ?_
  show WP 20 199 1080 [vR 1, vR x, vR m, vR u, vI i, vI c, vI y, l7, l8] [vI c] (M3, S) Q
  refine WP.blk 1 ?_
  show WP 20 199 (if cnd .ne c 0 = true then 1095 else 1083) [vR 1, vR x, vR m, vR u, vI i, vI c, vI y, l7, l8] [] (M3, S) Q
  refine br_ne (fun _ => ?_) (fun hb => ?_)
  · show WP 20 199 1095 [vR 1, vR x, vR m, vR u, vI i, vI c, vI y, l7, l8] [] (M3, S) Q
    refine WP.blk 1 ?_
    exact hP _ _
  · show WP 20 199 1083 [vR 1, vR x, vR m, vR u, vI i, vI c, vI y, l7, l8] [] (M3, S) Q
    refine WP.blk 1 ?_
    show WP 20 199 1084 [vR 1, vR x, vR m, vR u, vI i, vI c, vI y, l7, l8] [vR u] (M3, S) Q
    refine WP.blk 1 ?_
    show WP 20 199 1085 [vR 1, vR x, vR m, vR u, vI i, vI c, vI y, l7, l8] [vI 0, vR u] (M3, S) Q
    refine WP.blk 1 ?_
    show (sT S u = 12 ∧ (0 : Int) ≤ 0 ∧ (0 : Int) < (sN S u : Int)) ∧ WP 20 199 1086 [vR 1, vR x, vR m, vR u, vI i, vI c, vI y, l7, l8] [vL (M3 u 0)] (M3, S) Q
    refine ⟨⟨hu.1, by decide, by rw [hu.2]; decide⟩, ?_⟩
    refine WP.blk 1 ?_
    show WP 20 199 1088 [vR 1, vR x, vR m, vR u, vI i, vI c, vI y, l7, l8] [vI y, vL (M3 u 0)] (M3, S) Q
    refine WP.blk 1 ?_
    show WP 20 199 1089 [vR 1, vR x, vR m, vR u, vI i, vI c, vI y, l7, l8] [vL y, vL (M3 u 0)] (M3, S) Q
    refine WP.blk 1 ?_
    show WP 20 199 1090 [vR 1, vR x, vR m, vR u, vI i, vI c, vI y, l7, l8] [vI (lC (M3 u 0) y)] (M3, S) Q
    rw [h0 hb, lC_s]
    refine WP.blk 1 ?_
    show WP 20 199 (if cnd .eq 0 0 = true then 1095 else 1093) [vR 1, vR x, vR m, vR u, vI i, vI c, vI y, l7, l8] [] (M3, S) Q
    refine br_eq (fun _ => ?_) (fun hb => absurd rfl hb)
    show WP 20 199 1095 [vR 1, vR x, vR m, vR u, vI i, vI c, vI y, l7, l8] [] (M3, S) Q
    refine WP.blk 1 ?_
    exact hP _ _
theorem h_needed {w : Wd} {x m u L : Nat} {i : Int} {l5 l6 l7 l8 : V} {Q : Res → Wd → Prop} (h1 : ty w 1 = 16 ∧ ln w 1 = L) (hi : 0 ≤ i ∧ i + 3 < (L : Int) ∧ L ≤ 2048) (hc : EvQ 6 195 [vR x, vI (gi w 1 (i + 1)), vR u] w (fun r w2 => ∃ c, r = (0, vI c) ∧ WP 20 199 1135 [vR 1, vR x, vR m, vR u, vI i, l5, l6, l7, l8] [vI c] w2 Q)) : WP 20 199 1124 [vR 1, vR x, vR m, vR u, vI i, l5, l6, l7, l8] [] w Q := by
  refine WP.blk 1 ?_
  show WP 20 199 1125 [vR 1, vR x, vR m, vR u, vI i, l5, l6, l7, l8] [vR x] w Q
  refine WP.blk 1 ?_
  show WP 20 199 1126 [vR 1, vR x, vR m, vR u, vI i, l5, l6, l7, l8] [vR 1, vR x] w Q
  refine WP.blk 1 ?_
  show WP 20 199 1128 [vR 1, vR x, vR m, vR u, vI i, l5, l6, l7, l8] [vI i, vR 1, vR x] w Q
  refine WP.blk 1 ?_
  show WP 20 199 1129 [vR 1, vR x, vR m, vR u, vI i, l5, l6, l7, l8] [vI 1, vI i, vR 1, vR x] w Q
  refine WP.blk 1 ?_
  show ir (i + 1) ∧ WP 20 199 1130 [vR 1, vR x, vR m, vR u, vI i, l5, l6, l7, l8] [vI (i + 1), vR 1, vR x] w Q
  refine ⟨by unfold ir; omega, ?_⟩
  refine WP.blk 1 ?_
  show ((ty w 1 = 11 ∨ ty w 1 = 16 ∨ ty w 1 = 17) ∧ 0 ≤ (i + 1) ∧ (i + 1) < (ln w 1 : Int)) ∧ WP 20 199 1131 [vR 1, vR x, vR m, vR u, vI i, l5, l6, l7, l8] [vI (gi w 1 (i + 1)), vR x] w Q
  refine ⟨⟨Or.inr (Or.inl h1.1), by omega, by rw [h1.2]; omega⟩, ?_⟩
  refine WP.blk 1 ?_
  show WP 20 199 1132 [vR 1, vR x, vR m, vR u, vI i, l5, l6, l7, l8] [vR u, vI (gi w 1 (i + 1)), vR x] w Q
  refine WP.call (a := [vR x, vI (gi w 1 (i + 1)), vR u]) (rest := []) rfl rfl rfl rfl trivial (by decide) hc (fun r w2 h => ?_)
  obtain ⟨c, rfl, h⟩ := h
  exact ⟨rfl, h⟩
theorem a_needed {M : Nat → Int → Int} {S : SD} {c : Int} {x m u L : Nat} {i : Int} {l5 l6 l7 l8 : V} {Q : Res → Wd → Prop} (hS : isMod S m) (h1 : sT S 1 = 16 ∧ sN S 1 = L) (hu : sT S u = 12 ∧ sN S u = 1) (hi : 0 ≤ i ∧ i + 3 < (L : Int) ∧ L ≤ 2048) (hr : EvQ 5 165 [vR m, vI (M 1 (i + 1))] (M, S) (LQ S m u c (fun M3 => ∀ l5 l6, WP 20 199 1416 [vR 1, vR x, vR m, vR u, vI i, l5, l6, l7, l8] [] (M3, S) Q))) : WP 20 199 1135 [vR 1, vR x, vR m, vR u, vI i, l5, l6, l7, l8] [vI c] (M, S) Q := by
  refine WP.blk 1 ?_
  show WP 20 199 1137 [vR 1, vR x, vR m, vR u, vI i, vI c, l6, l7, l8] [] (M, S) Q
  refine WP.blk 1 ?_
  show WP 20 199 1138 [vR 1, vR x, vR m, vR u, vI i, vI c, l6, l7, l8] [vR m] (M, S) Q
  refine WP.blk 1 ?_
  show WP 20 199 1139 [vR 1, vR x, vR m, vR u, vI i, vI c, l6, l7, l8] [vR 1, vR m] (M, S) Q
  refine WP.blk 1 ?_
  show WP 20 199 1141 [vR 1, vR x, vR m, vR u, vI i, vI c, l6, l7, l8] [vI i, vR 1, vR m] (M, S) Q
  refine WP.blk 1 ?_
  show WP 20 199 1142 [vR 1, vR x, vR m, vR u, vI i, vI c, l6, l7, l8] [vI 1, vI i, vR 1, vR m] (M, S) Q
  refine WP.blk 1 ?_
  show ir (i + 1) ∧ WP 20 199 1143 [vR 1, vR x, vR m, vR u, vI i, vI c, l6, l7, l8] [vI (i + 1), vR 1, vR m] (M, S) Q
  refine ⟨by unfold ir; omega, ?_⟩
  refine WP.blk 1 ?_
  show ((sT S 1 = 11 ∨ sT S 1 = 16 ∨ sT S 1 = 17) ∧ 0 ≤ (i + 1) ∧ (i + 1) < (sN S 1 : Int)) ∧ WP 20 199 1144 [vR 1, vR x, vR m, vR u, vI i, vI c, l6, l7, l8] [vI (M 1 (i + 1)), vR m] (M, S) Q
  refine ⟨⟨Or.inr (Or.inl h1.1), by omega, by rw [h1.2]; omega⟩, ?_⟩
  refine WP.call (a := [vR m, vI (M 1 (i + 1))]) (rest := []) rfl rfl rfl rfl ⟨hS.1.1, trivial⟩ (by decide) hr (fun r w2 h => ?_)
  obtain ⟨y, M3, rfl, rfl, hc, h0, hP⟩ := h
  refine ⟨rfl, ?_⟩
  show WP 20 199 1147 [vR 1, vR x, vR m, vR u, vI i, vI c, l6, l7, l8] [vI y] (M3, S) Q
  refine WP.blk 1 ?_
  show WP 20 199 1149 [vR 1, vR x, vR m, vR u, vI i, vI c, vI y, l7, l8] [] (M3, S) Q
  refine WP.blk 1 ?_
  show WP 20 199 1150 [vR 1, vR x, vR m, vR u, vI i, vI c, vI y, l7, l8] [vR m] (M3, S) Q
  refine WP.cl (a := [vR m]) (rest := []) rfl rfl rfl rfl ⟨hS.1.1, trivial⟩ (by decide) (q_thrown hS ⟨rfl, ?_⟩)
  show WP 20 199 1153 [vR 1, vR x, vR m, vR u, vI i, vI c, vI y, l7, l8] [vI (M3 m 5)] (M3, S) Q
  refine WP.blk 1 ?_
  show WP 20 199 1155 [vR 1, vR x, vR m, vR u, vI i, vI c, vI y, l7, l8] [vI c, vI (M3 m 5)] (M3, S) Q
  refine WP.blk 1 ?_
  show WP 20 199 (if cnd .eq (M3 m 5) c = true then 1160 else 1158) [vR 1, vR x, vR m, vR u, vI i, vI c, vI y, l7, l8] [] (M3, S) Q
  refine br_eq (fun _ => ?_) (fun hb => absurd hc hb)
  show WP 20 199 1160 [vR 1, vR x, vR m, vR u, vI i, vI c, vI y, l7, l8] [] (M3, S) Q
  refine WP.blk 1 ?_
  show WP 20 199 1162 [vR 1, vR x, vR m, vR u, vI i, vI c, vI y, l7, l8] [vI c] (M3, S) Q
  refine WP.blk 1 ?_
  show WP 20 199 (if cnd .ne c 0 = true then 1177 else 1165) [vR 1, vR x, vR m, vR u, vI i, vI c, vI y, l7, l8] [] (M3, S) Q
  refine br_ne (fun _ => ?_) (fun hb => ?_)
  · show WP 20 199 1177 [vR 1, vR x, vR m, vR u, vI i, vI c, vI y, l7, l8] [] (M3, S) Q
    refine WP.blk 1 ?_
    exact hP _ _
  · show WP 20 199 1165 [vR 1, vR x, vR m, vR u, vI i, vI c, vI y, l7, l8] [] (M3, S) Q
    refine WP.blk 1 ?_
    show WP 20 199 1166 [vR 1, vR x, vR m, vR u, vI i, vI c, vI y, l7, l8] [vR u] (M3, S) Q
    refine WP.blk 1 ?_
    show WP 20 199 1167 [vR 1, vR x, vR m, vR u, vI i, vI c, vI y, l7, l8] [vI 0, vR u] (M3, S) Q
    refine WP.blk 1 ?_
    show (sT S u = 12 ∧ (0 : Int) ≤ 0 ∧ (0 : Int) < (sN S u : Int)) ∧ WP 20 199 1168 [vR 1, vR x, vR m, vR u, vI i, vI c, vI y, l7, l8] [vL (M3 u 0)] (M3, S) Q
    refine ⟨⟨hu.1, by decide, by rw [hu.2]; decide⟩, ?_⟩
    refine WP.blk 1 ?_
    show WP 20 199 1170 [vR 1, vR x, vR m, vR u, vI i, vI c, vI y, l7, l8] [vI y, vL (M3 u 0)] (M3, S) Q
    refine WP.blk 1 ?_
    show WP 20 199 1171 [vR 1, vR x, vR m, vR u, vI i, vI c, vI y, l7, l8] [vL y, vL (M3 u 0)] (M3, S) Q
    refine WP.blk 1 ?_
    show WP 20 199 1172 [vR 1, vR x, vR m, vR u, vI i, vI c, vI y, l7, l8] [vI (lC (M3 u 0) y)] (M3, S) Q
    rw [h0 hb, lC_s]
    refine WP.blk 1 ?_
    show WP 20 199 (if cnd .eq 0 0 = true then 1177 else 1175) [vR 1, vR x, vR m, vR u, vI i, vI c, vI y, l7, l8] [] (M3, S) Q
    refine br_eq (fun _ => ?_) (fun hb => absurd rfl hb)
    show WP 20 199 1177 [vR 1, vR x, vR m, vR u, vI i, vI c, vI y, l7, l8] [] (M3, S) Q
    refine WP.blk 1 ?_
    exact hP _ _
theorem h_order {w : Wd} {x m u L : Nat} {i : Int} {l5 l6 l7 l8 : V} {Q : Res → Wd → Prop} (h1 : ty w 1 = 16 ∧ ln w 1 = L) (hi : 0 ≤ i ∧ i + 3 < (L : Int) ∧ L ≤ 2048) (hc : EvQ 17 196 [vR x, vI (gi w 1 (i + 1)), vR u] w (fun r w2 => ∃ c, r = (0, vI c) ∧ WP 20 199 1191 [vR 1, vR x, vR m, vR u, vI i, l5, l6, l7, l8] [vI c] w2 Q)) : WP 20 199 1180 [vR 1, vR x, vR m, vR u, vI i, l5, l6, l7, l8] [] w Q := by
  refine WP.blk 1 ?_
  show WP 20 199 1181 [vR 1, vR x, vR m, vR u, vI i, l5, l6, l7, l8] [vR x] w Q
  refine WP.blk 1 ?_
  show WP 20 199 1182 [vR 1, vR x, vR m, vR u, vI i, l5, l6, l7, l8] [vR 1, vR x] w Q
  refine WP.blk 1 ?_
  show WP 20 199 1184 [vR 1, vR x, vR m, vR u, vI i, l5, l6, l7, l8] [vI i, vR 1, vR x] w Q
  refine WP.blk 1 ?_
  show WP 20 199 1185 [vR 1, vR x, vR m, vR u, vI i, l5, l6, l7, l8] [vI 1, vI i, vR 1, vR x] w Q
  refine WP.blk 1 ?_
  show ir (i + 1) ∧ WP 20 199 1186 [vR 1, vR x, vR m, vR u, vI i, l5, l6, l7, l8] [vI (i + 1), vR 1, vR x] w Q
  refine ⟨by unfold ir; omega, ?_⟩
  refine WP.blk 1 ?_
  show ((ty w 1 = 11 ∨ ty w 1 = 16 ∨ ty w 1 = 17) ∧ 0 ≤ (i + 1) ∧ (i + 1) < (ln w 1 : Int)) ∧ WP 20 199 1187 [vR 1, vR x, vR m, vR u, vI i, l5, l6, l7, l8] [vI (gi w 1 (i + 1)), vR x] w Q
  refine ⟨⟨Or.inr (Or.inl h1.1), by omega, by rw [h1.2]; omega⟩, ?_⟩
  refine WP.blk 1 ?_
  show WP 20 199 1188 [vR 1, vR x, vR m, vR u, vI i, l5, l6, l7, l8] [vR u, vI (gi w 1 (i + 1)), vR x] w Q
  refine WP.call (a := [vR x, vI (gi w 1 (i + 1)), vR u]) (rest := []) rfl rfl rfl rfl trivial (by decide) hc (fun r w2 h => ?_)
  obtain ⟨c, rfl, h⟩ := h
  exact ⟨rfl, h⟩
theorem a_order {M : Nat → Int → Int} {S : SD} {c : Int} {x m u L : Nat} {i : Int} {l5 l6 l7 l8 : V} {Q : Res → Wd → Prop} (hS : isMod S m) (h1 : sT S 1 = 16 ∧ sN S 1 = L) (hu : sT S u = 12 ∧ sN S u = 1) (hi : 0 ≤ i ∧ i + 3 < (L : Int) ∧ L ≤ 2048) (hr : EvQ 8 170 [vR m, vI (M 1 (i + 1))] (M, S) (LQ S m u c (fun M3 => ∀ l5 l6, WP 20 199 1416 [vR 1, vR x, vR m, vR u, vI i, l5, l6, l7, l8] [] (M3, S) Q))) : WP 20 199 1191 [vR 1, vR x, vR m, vR u, vI i, l5, l6, l7, l8] [vI c] (M, S) Q := by
  refine WP.blk 1 ?_
  show WP 20 199 1193 [vR 1, vR x, vR m, vR u, vI i, vI c, l6, l7, l8] [] (M, S) Q
  refine WP.blk 1 ?_
  show WP 20 199 1194 [vR 1, vR x, vR m, vR u, vI i, vI c, l6, l7, l8] [vR m] (M, S) Q
  refine WP.blk 1 ?_
  show WP 20 199 1195 [vR 1, vR x, vR m, vR u, vI i, vI c, l6, l7, l8] [vR 1, vR m] (M, S) Q
  refine WP.blk 1 ?_
  show WP 20 199 1197 [vR 1, vR x, vR m, vR u, vI i, vI c, l6, l7, l8] [vI i, vR 1, vR m] (M, S) Q
  refine WP.blk 1 ?_
  show WP 20 199 1198 [vR 1, vR x, vR m, vR u, vI i, vI c, l6, l7, l8] [vI 1, vI i, vR 1, vR m] (M, S) Q
  refine WP.blk 1 ?_
  show ir (i + 1) ∧ WP 20 199 1199 [vR 1, vR x, vR m, vR u, vI i, vI c, l6, l7, l8] [vI (i + 1), vR 1, vR m] (M, S) Q
  refine ⟨by unfold ir; omega, ?_⟩
  refine WP.blk 1 ?_
  show ((sT S 1 = 11 ∨ sT S 1 = 16 ∨ sT S 1 = 17) ∧ 0 ≤ (i + 1) ∧ (i + 1) < (sN S 1 : Int)) ∧ WP 20 199 1200 [vR 1, vR x, vR m, vR u, vI i, vI c, l6, l7, l8] [vI (M 1 (i + 1)), vR m] (M, S) Q
  refine ⟨⟨Or.inr (Or.inl h1.1), by omega, by rw [h1.2]; omega⟩, ?_⟩
  refine WP.call (a := [vR m, vI (M 1 (i + 1))]) (rest := []) rfl rfl rfl rfl ⟨hS.1.1, trivial⟩ (by decide) hr (fun r w2 h => ?_)
  obtain ⟨y, M3, rfl, rfl, hc, h0, hP⟩ := h
  refine ⟨rfl, ?_⟩
  show WP 20 199 1203 [vR 1, vR x, vR m, vR u, vI i, vI c, l6, l7, l8] [vI y] (M3, S) Q
  refine WP.blk 1 ?_
  show WP 20 199 1205 [vR 1, vR x, vR m, vR u, vI i, vI c, vI y, l7, l8] [] (M3, S) Q
  refine WP.blk 1 ?_
  show WP 20 199 1206 [vR 1, vR x, vR m, vR u, vI i, vI c, vI y, l7, l8] [vR m] (M3, S) Q
  refine WP.cl (a := [vR m]) (rest := []) rfl rfl rfl rfl ⟨hS.1.1, trivial⟩ (by decide) (q_thrown hS ⟨rfl, ?_⟩)
  show WP 20 199 1209 [vR 1, vR x, vR m, vR u, vI i, vI c, vI y, l7, l8] [vI (M3 m 5)] (M3, S) Q
  refine WP.blk 1 ?_
  show WP 20 199 1211 [vR 1, vR x, vR m, vR u, vI i, vI c, vI y, l7, l8] [vI c, vI (M3 m 5)] (M3, S) Q
  refine WP.blk 1 ?_
  show WP 20 199 (if cnd .eq (M3 m 5) c = true then 1216 else 1214) [vR 1, vR x, vR m, vR u, vI i, vI c, vI y, l7, l8] [] (M3, S) Q
  refine br_eq (fun _ => ?_) (fun hb => absurd hc hb)
  show WP 20 199 1216 [vR 1, vR x, vR m, vR u, vI i, vI c, vI y, l7, l8] [] (M3, S) Q
  refine WP.blk 1 ?_
  show WP 20 199 1218 [vR 1, vR x, vR m, vR u, vI i, vI c, vI y, l7, l8] [vI c] (M3, S) Q
  refine WP.blk 1 ?_
  show WP 20 199 (if cnd .ne c 0 = true then 1233 else 1221) [vR 1, vR x, vR m, vR u, vI i, vI c, vI y, l7, l8] [] (M3, S) Q
  refine br_ne (fun _ => ?_) (fun hb => ?_)
  · show WP 20 199 1233 [vR 1, vR x, vR m, vR u, vI i, vI c, vI y, l7, l8] [] (M3, S) Q
    refine WP.blk 1 ?_
    exact hP _ _
  · show WP 20 199 1221 [vR 1, vR x, vR m, vR u, vI i, vI c, vI y, l7, l8] [] (M3, S) Q
    refine WP.blk 1 ?_
    show WP 20 199 1222 [vR 1, vR x, vR m, vR u, vI i, vI c, vI y, l7, l8] [vR u] (M3, S) Q
    refine WP.blk 1 ?_
    show WP 20 199 1223 [vR 1, vR x, vR m, vR u, vI i, vI c, vI y, l7, l8] [vI 0, vR u] (M3, S) Q
    refine WP.blk 1 ?_
    show (sT S u = 12 ∧ (0 : Int) ≤ 0 ∧ (0 : Int) < (sN S u : Int)) ∧ WP 20 199 1224 [vR 1, vR x, vR m, vR u, vI i, vI c, vI y, l7, l8] [vL (M3 u 0)] (M3, S) Q
    refine ⟨⟨hu.1, by decide, by rw [hu.2]; decide⟩, ?_⟩
    refine WP.blk 1 ?_
    show WP 20 199 1226 [vR 1, vR x, vR m, vR u, vI i, vI c, vI y, l7, l8] [vI y, vL (M3 u 0)] (M3, S) Q
    refine WP.blk 1 ?_
    show WP 20 199 1227 [vR 1, vR x, vR m, vR u, vI i, vI c, vI y, l7, l8] [vL y, vL (M3 u 0)] (M3, S) Q
    refine WP.blk 1 ?_
    show WP 20 199 1228 [vR 1, vR x, vR m, vR u, vI i, vI c, vI y, l7, l8] [vI (lC (M3 u 0) y)] (M3, S) Q
    rw [h0 hb, lC_s]
    refine WP.blk 1 ?_
    show WP 20 199 (if cnd .eq 0 0 = true then 1233 else 1231) [vR 1, vR x, vR m, vR u, vI i, vI c, vI y, l7, l8] [] (M3, S) Q
    refine br_eq (fun _ => ?_) (fun hb => absurd rfl hb)
    show WP 20 199 1233 [vR 1, vR x, vR m, vR u, vI i, vI c, vI y, l7, l8] [] (M3, S) Q
    refine WP.blk 1 ?_
    exact hP _ _
theorem h_bestCut {w : Wd} {x m u L : Nat} {i : Int} {l5 l6 l7 l8 : V} {Q : Res → Wd → Prop} (h1 : ty w 1 = 16 ∧ ln w 1 = L) (hi : 0 ≤ i ∧ i + 3 < (L : Int) ∧ L ≤ 2048) (hc : EvQ 9 197 [vR x, vI (gi w 1 (i + 1)), vI (gi w 1 (i + 2)), vR u] w (fun r w2 => ∃ c, r = (0, vI c) ∧ WP 20 199 1266 [vR 1, vR x, vR m, vR u, vI i, l5, l6, l7, l8] [vI c] w2 Q)) : WP 20 199 1249 [vR 1, vR x, vR m, vR u, vI i, l5, l6, l7, l8] [] w Q := by
  refine WP.blk 1 ?_
  show WP 20 199 1250 [vR 1, vR x, vR m, vR u, vI i, l5, l6, l7, l8] [vR x] w Q
  refine WP.blk 1 ?_
  show WP 20 199 1251 [vR 1, vR x, vR m, vR u, vI i, l5, l6, l7, l8] [vR 1, vR x] w Q
  refine WP.blk 1 ?_
  show WP 20 199 1253 [vR 1, vR x, vR m, vR u, vI i, l5, l6, l7, l8] [vI i, vR 1, vR x] w Q
  refine WP.blk 1 ?_
  show WP 20 199 1254 [vR 1, vR x, vR m, vR u, vI i, l5, l6, l7, l8] [vI 1, vI i, vR 1, vR x] w Q
  refine WP.blk 1 ?_
  show ir (i + 1) ∧ WP 20 199 1255 [vR 1, vR x, vR m, vR u, vI i, l5, l6, l7, l8] [vI (i + 1), vR 1, vR x] w Q
  refine ⟨by unfold ir; omega, ?_⟩
  refine WP.blk 1 ?_
  show ((ty w 1 = 11 ∨ ty w 1 = 16 ∨ ty w 1 = 17) ∧ 0 ≤ (i + 1) ∧ (i + 1) < (ln w 1 : Int)) ∧ WP 20 199 1256 [vR 1, vR x, vR m, vR u, vI i, l5, l6, l7, l8] [vI (gi w 1 (i + 1)), vR x] w Q
  refine ⟨⟨Or.inr (Or.inl h1.1), by omega, by rw [h1.2]; omega⟩, ?_⟩
  refine WP.blk 1 ?_
  show WP 20 199 1257 [vR 1, vR x, vR m, vR u, vI i, l5, l6, l7, l8] [vR 1, vI (gi w 1 (i + 1)), vR x] w Q
  refine WP.blk 1 ?_
  show WP 20 199 1259 [vR 1, vR x, vR m, vR u, vI i, l5, l6, l7, l8] [vI i, vR 1, vI (gi w 1 (i + 1)), vR x] w Q
  refine WP.blk 1 ?_
  show WP 20 199 1260 [vR 1, vR x, vR m, vR u, vI i, l5, l6, l7, l8] [vI 2, vI i, vR 1, vI (gi w 1 (i + 1)), vR x] w Q
  refine WP.blk 1 ?_
  show ir (i + 2) ∧ WP 20 199 1261 [vR 1, vR x, vR m, vR u, vI i, l5, l6, l7, l8] [vI (i + 2), vR 1, vI (gi w 1 (i + 1)), vR x] w Q
  refine ⟨by unfold ir; omega, ?_⟩
  refine WP.blk 1 ?_
  show ((ty w 1 = 11 ∨ ty w 1 = 16 ∨ ty w 1 = 17) ∧ 0 ≤ (i + 2) ∧ (i + 2) < (ln w 1 : Int)) ∧ WP 20 199 1262 [vR 1, vR x, vR m, vR u, vI i, l5, l6, l7, l8] [vI (gi w 1 (i + 2)), vI (gi w 1 (i + 1)), vR x] w Q
  refine ⟨⟨Or.inr (Or.inl h1.1), by omega, by rw [h1.2]; omega⟩, ?_⟩
  refine WP.blk 1 ?_
  show WP 20 199 1263 [vR 1, vR x, vR m, vR u, vI i, l5, l6, l7, l8] [vR u, vI (gi w 1 (i + 2)), vI (gi w 1 (i + 1)), vR x] w Q
  refine WP.call (a := [vR x, vI (gi w 1 (i + 1)), vI (gi w 1 (i + 2)), vR u]) (rest := []) rfl rfl rfl rfl trivial (by decide) hc (fun r w2 h => ?_)
  obtain ⟨c, rfl, h⟩ := h
  exact ⟨rfl, h⟩
theorem a_bestCut {M : Nat → Int → Int} {S : SD} {c : Int} {x m u L : Nat} {i : Int} {l5 l6 l7 l8 : V} {Q : Res → Wd → Prop} (hS : isMod S m) (h1 : sT S 1 = 16 ∧ sN S 1 = L) (hu : sT S u = 12 ∧ sN S u = 1) (hi : 0 ≤ i ∧ i + 3 < (L : Int) ∧ L ≤ 2048) (hr : EvQ 7 174 [vR m, vI (M 1 (i + 1)), vI (M 1 (i + 2))] (M, S) (LQ S m u c (fun M3 => ∀ l5 l6, WP 20 199 1416 [vR 1, vR x, vR m, vR u, vI i, l5, l6, l7, l8] [] (M3, S) Q))) : WP 20 199 1266 [vR 1, vR x, vR m, vR u, vI i, l5, l6, l7, l8] [vI c] (M, S) Q := by
  refine WP.blk 1 ?_
  show WP 20 199 1268 [vR 1, vR x, vR m, vR u, vI i, vI c, l6, l7, l8] [] (M, S) Q
  refine WP.blk 1 ?_
  show WP 20 199 1269 [vR 1, vR x, vR m, vR u, vI i, vI c, l6, l7, l8] [vR m] (M, S) Q
  refine WP.blk 1 ?_
  show WP 20 199 1270 [vR 1, vR x, vR m, vR u, vI i, vI c, l6, l7, l8] [vR 1, vR m] (M, S) Q
  refine WP.blk 1 ?_
  show WP 20 199 1272 [vR 1, vR x, vR m, vR u, vI i, vI c, l6, l7, l8] [vI i, vR 1, vR m] (M, S) Q
  refine WP.blk 1 ?_
  show WP 20 199 1273 [vR 1, vR x, vR m, vR u, vI i, vI c, l6, l7, l8] [vI 1, vI i, vR 1, vR m] (M, S) Q
  refine WP.blk 1 ?_
  show ir (i + 1) ∧ WP 20 199 1274 [vR 1, vR x, vR m, vR u, vI i, vI c, l6, l7, l8] [vI (i + 1), vR 1, vR m] (M, S) Q
  refine ⟨by unfold ir; omega, ?_⟩
  refine WP.blk 1 ?_
  show ((sT S 1 = 11 ∨ sT S 1 = 16 ∨ sT S 1 = 17) ∧ 0 ≤ (i + 1) ∧ (i + 1) < (sN S 1 : Int)) ∧ WP 20 199 1275 [vR 1, vR x, vR m, vR u, vI i, vI c, l6, l7, l8] [vI (M 1 (i + 1)), vR m] (M, S) Q
  refine ⟨⟨Or.inr (Or.inl h1.1), by omega, by rw [h1.2]; omega⟩, ?_⟩
  refine WP.blk 1 ?_
  show WP 20 199 1276 [vR 1, vR x, vR m, vR u, vI i, vI c, l6, l7, l8] [vR 1, vI (M 1 (i + 1)), vR m] (M, S) Q
  refine WP.blk 1 ?_
  show WP 20 199 1278 [vR 1, vR x, vR m, vR u, vI i, vI c, l6, l7, l8] [vI i, vR 1, vI (M 1 (i + 1)), vR m] (M, S) Q
  refine WP.blk 1 ?_
  show WP 20 199 1279 [vR 1, vR x, vR m, vR u, vI i, vI c, l6, l7, l8] [vI 2, vI i, vR 1, vI (M 1 (i + 1)), vR m] (M, S) Q
  refine WP.blk 1 ?_
  show ir (i + 2) ∧ WP 20 199 1280 [vR 1, vR x, vR m, vR u, vI i, vI c, l6, l7, l8] [vI (i + 2), vR 1, vI (M 1 (i + 1)), vR m] (M, S) Q
  refine ⟨by unfold ir; omega, ?_⟩
  refine WP.blk 1 ?_
  show ((sT S 1 = 11 ∨ sT S 1 = 16 ∨ sT S 1 = 17) ∧ 0 ≤ (i + 2) ∧ (i + 2) < (sN S 1 : Int)) ∧ WP 20 199 1281 [vR 1, vR x, vR m, vR u, vI i, vI c, l6, l7, l8] [vI (M 1 (i + 2)), vI (M 1 (i + 1)), vR m] (M, S) Q
  refine ⟨⟨Or.inr (Or.inl h1.1), by omega, by rw [h1.2]; omega⟩, ?_⟩
  refine WP.call (a := [vR m, vI (M 1 (i + 1)), vI (M 1 (i + 2))]) (rest := []) rfl rfl rfl rfl ⟨hS.1.1, trivial⟩ (by decide) hr (fun r w2 h => ?_)
  obtain ⟨y, M3, rfl, rfl, hc, h0, hP⟩ := h
  refine ⟨rfl, ?_⟩
  show WP 20 199 1284 [vR 1, vR x, vR m, vR u, vI i, vI c, l6, l7, l8] [vI y] (M3, S) Q
  refine WP.blk 1 ?_
  show WP 20 199 1286 [vR 1, vR x, vR m, vR u, vI i, vI c, vI y, l7, l8] [] (M3, S) Q
  refine WP.blk 1 ?_
  show WP 20 199 1287 [vR 1, vR x, vR m, vR u, vI i, vI c, vI y, l7, l8] [vR m] (M3, S) Q
  refine WP.cl (a := [vR m]) (rest := []) rfl rfl rfl rfl ⟨hS.1.1, trivial⟩ (by decide) (q_thrown hS ⟨rfl, ?_⟩)
  show WP 20 199 1290 [vR 1, vR x, vR m, vR u, vI i, vI c, vI y, l7, l8] [vI (M3 m 5)] (M3, S) Q
  refine WP.blk 1 ?_
  show WP 20 199 1292 [vR 1, vR x, vR m, vR u, vI i, vI c, vI y, l7, l8] [vI c, vI (M3 m 5)] (M3, S) Q
  refine WP.blk 1 ?_
  show WP 20 199 (if cnd .eq (M3 m 5) c = true then 1297 else 1295) [vR 1, vR x, vR m, vR u, vI i, vI c, vI y, l7, l8] [] (M3, S) Q
  refine br_eq (fun _ => ?_) (fun hb => absurd hc hb)
  show WP 20 199 1297 [vR 1, vR x, vR m, vR u, vI i, vI c, vI y, l7, l8] [] (M3, S) Q
  refine WP.blk 1 ?_
  show WP 20 199 1299 [vR 1, vR x, vR m, vR u, vI i, vI c, vI y, l7, l8] [vI c] (M3, S) Q
  refine WP.blk 1 ?_
  show WP 20 199 (if cnd .ne c 0 = true then 1314 else 1302) [vR 1, vR x, vR m, vR u, vI i, vI c, vI y, l7, l8] [] (M3, S) Q
  refine br_ne (fun _ => ?_) (fun hb => ?_)
  · show WP 20 199 1314 [vR 1, vR x, vR m, vR u, vI i, vI c, vI y, l7, l8] [] (M3, S) Q
    refine WP.blk 1 ?_
    exact hP _ _
  · show WP 20 199 1302 [vR 1, vR x, vR m, vR u, vI i, vI c, vI y, l7, l8] [] (M3, S) Q
    refine WP.blk 1 ?_
    show WP 20 199 1303 [vR 1, vR x, vR m, vR u, vI i, vI c, vI y, l7, l8] [vR u] (M3, S) Q
    refine WP.blk 1 ?_
    show WP 20 199 1304 [vR 1, vR x, vR m, vR u, vI i, vI c, vI y, l7, l8] [vI 0, vR u] (M3, S) Q
    refine WP.blk 1 ?_
    show (sT S u = 12 ∧ (0 : Int) ≤ 0 ∧ (0 : Int) < (sN S u : Int)) ∧ WP 20 199 1305 [vR 1, vR x, vR m, vR u, vI i, vI c, vI y, l7, l8] [vL (M3 u 0)] (M3, S) Q
    refine ⟨⟨hu.1, by decide, by rw [hu.2]; decide⟩, ?_⟩
    refine WP.blk 1 ?_
    show WP 20 199 1307 [vR 1, vR x, vR m, vR u, vI i, vI c, vI y, l7, l8] [vI y, vL (M3 u 0)] (M3, S) Q
    refine WP.blk 1 ?_
    show WP 20 199 1308 [vR 1, vR x, vR m, vR u, vI i, vI c, vI y, l7, l8] [vL y, vL (M3 u 0)] (M3, S) Q
    refine WP.blk 1 ?_
    show WP 20 199 1309 [vR 1, vR x, vR m, vR u, vI i, vI c, vI y, l7, l8] [vI (lC (M3 u 0) y)] (M3, S) Q
    rw [h0 hb, lC_s]
    refine WP.blk 1 ?_
    show WP 20 199 (if cnd .eq 0 0 = true then 1314 else 1312) [vR 1, vR x, vR m, vR u, vI i, vI c, vI y, l7, l8] [] (M3, S) Q
    refine br_eq (fun _ => ?_) (fun hb => absurd rfl hb)
    show WP 20 199 1314 [vR 1, vR x, vR m, vR u, vI i, vI c, vI y, l7, l8] [] (M3, S) Q
    refine WP.blk 1 ?_
    exact hP _ _
theorem h_undo {w : Wd} {x m u L : Nat} {i : Int} {l5 l6 l7 l8 : V} {Q : Res → Wd → Prop} (h1 : ty w 1 = 16 ∧ ln w 1 = L) (hi : 0 ≤ i ∧ i + 3 < (L : Int) ∧ L ≤ 2048) (hc : EvQ 8 198 [vR x, vR u] w (fun r w2 => ∃ c, r = (0, vI c) ∧ WP 20 199 1363 [vR 1, vR x, vR m, vR u, vI i, l5, l6, l7, l8] [vI c] w2 Q)) : WP 20 199 1358 [vR 1, vR x, vR m, vR u, vI i, l5, l6, l7, l8] [] w Q := by
  refine WP.blk 1 ?_
  show WP 20 199 1359 [vR 1, vR x, vR m, vR u, vI i, l5, l6, l7, l8] [vR x] w Q
  refine WP.blk 1 ?_
  show WP 20 199 1360 [vR 1, vR x, vR m, vR u, vI i, l5, l6, l7, l8] [vR u, vR x] w Q
  refine WP.call (a := [vR x, vR u]) (rest := []) rfl rfl rfl rfl trivial (by decide) hc (fun r w2 h => ?_)
  obtain ⟨c, rfl, h⟩ := h
  exact ⟨rfl, h⟩
theorem a_undo {M : Nat → Int → Int} {S : SD} {c : Int} {x m u L : Nat} {i : Int} {l5 l6 l7 l8 : V} {Q : Res → Wd → Prop} (hS : isMod S m) (h1 : sT S 1 = 16 ∧ sN S 1 = L) (hu : sT S u = 12 ∧ sN S u = 1) (hi : 0 ≤ i ∧ i + 3 < (L : Int) ∧ L ≤ 2048) (hr : EvQ 3 114 [vR m] (M, S) (LQ S m u c (fun M3 => ∀ l5 l6, WP 20 199 1416 [vR 1, vR x, vR m, vR u, vI i, l5, l6, l7, l8] [] (M3, S) Q))) : WP 20 199 1363 [vR 1, vR x, vR m, vR u, vI i, l5, l6, l7, l8] [vI c] (M, S) Q := by
  refine WP.blk 1 ?_
  show WP 20 199 1365 [vR 1, vR x, vR m, vR u, vI i, vI c, l6, l7, l8] [] (M, S) Q
  refine WP.blk 1 ?_
  show WP 20 199 1366 [vR 1, vR x, vR m, vR u, vI i, vI c, l6, l7, l8] [vR m] (M, S) Q
  refine WP.call (a := [vR m]) (rest := []) rfl rfl rfl rfl ⟨hS.1.1, trivial⟩ (by decide) hr (fun r w2 h => ?_)
  obtain ⟨y, M3, rfl, rfl, hc, h0, hP⟩ := h
  refine ⟨rfl, ?_⟩
  show WP 20 199 1369 [vR 1, vR x, vR m, vR u, vI i, vI c, l6, l7, l8] [vI y] (M3, S) Q
  refine WP.blk 1 ?_
  show WP 20 199 1371 [vR 1, vR x, vR m, vR u, vI i, vI c, vI y, l7, l8] [] (M3, S) Q
  refine WP.blk 1 ?_
  show WP 20 199 1372 [vR 1, vR x, vR m, vR u, vI i, vI c, vI y, l7, l8] [vR m] (M3, S) Q
  refine WP.cl (a := [vR m]) (rest := []) rfl rfl rfl rfl ⟨hS.1.1, trivial⟩ (by decide) (q_thrown hS ⟨rfl, ?_⟩)
  show WP 20 199 1375 [vR 1, vR x, vR m, vR u, vI i, vI c, vI y, l7, l8] [vI (M3 m 5)] (M3, S) Q
  refine WP.blk 1 ?_
  show WP 20 199 1377 [vR 1, vR x, vR m, vR u, vI i, vI c, vI y, l7, l8] [vI c, vI (M3 m 5)] (M3, S) Q
  refine WP.blk 1 ?_
  show WP 20 199 (if cnd .eq (M3 m 5) c = true then 1382 else 1380) [vR 1, vR x, vR m, vR u, vI i, vI c, vI y, l7, l8] [] (M3, S) Q
  refine br_eq (fun _ => ?_) (fun hb => absurd hc hb)
  show WP 20 199 1382 [vR 1, vR x, vR m, vR u, vI i, vI c, vI y, l7, l8] [] (M3, S) Q
  refine WP.blk 1 ?_
  show WP 20 199 1384 [vR 1, vR x, vR m, vR u, vI i, vI c, vI y, l7, l8] [vI c] (M3, S) Q
  refine WP.blk 1 ?_
  show WP 20 199 (if cnd .ne c 0 = true then 1399 else 1387) [vR 1, vR x, vR m, vR u, vI i, vI c, vI y, l7, l8] [] (M3, S) Q
  refine br_ne (fun _ => ?_) (fun hb => ?_)
  · show WP 20 199 1399 [vR 1, vR x, vR m, vR u, vI i, vI c, vI y, l7, l8] [] (M3, S) Q
    refine WP.blk 1 ?_
    exact hP _ _
  · show WP 20 199 1387 [vR 1, vR x, vR m, vR u, vI i, vI c, vI y, l7, l8] [] (M3, S) Q
    refine WP.blk 1 ?_
    show WP 20 199 1388 [vR 1, vR x, vR m, vR u, vI i, vI c, vI y, l7, l8] [vR u] (M3, S) Q
    refine WP.blk 1 ?_
    show WP 20 199 1389 [vR 1, vR x, vR m, vR u, vI i, vI c, vI y, l7, l8] [vI 0, vR u] (M3, S) Q
    refine WP.blk 1 ?_
    show (sT S u = 12 ∧ (0 : Int) ≤ 0 ∧ (0 : Int) < (sN S u : Int)) ∧ WP 20 199 1390 [vR 1, vR x, vR m, vR u, vI i, vI c, vI y, l7, l8] [vL (M3 u 0)] (M3, S) Q
    refine ⟨⟨hu.1, by decide, by rw [hu.2]; decide⟩, ?_⟩
    refine WP.blk 1 ?_
    show WP 20 199 1392 [vR 1, vR x, vR m, vR u, vI i, vI c, vI y, l7, l8] [vI y, vL (M3 u 0)] (M3, S) Q
    refine WP.blk 1 ?_
    show WP 20 199 1393 [vR 1, vR x, vR m, vR u, vI i, vI c, vI y, l7, l8] [vL y, vL (M3 u 0)] (M3, S) Q
    refine WP.blk 1 ?_
    show WP 20 199 1394 [vR 1, vR x, vR m, vR u, vI i, vI c, vI y, l7, l8] [vI (lC (M3 u 0) y)] (M3, S) Q
    rw [h0 hb, lC_s]
    refine WP.blk 1 ?_
    show WP 20 199 (if cnd .eq 0 0 = true then 1399 else 1397) [vR 1, vR x, vR m, vR u, vI i, vI c, vI y, l7, l8] [] (M3, S) Q
    refine br_eq (fun _ => ?_) (fun hb => absurd rfl hb)
    show WP 20 199 1399 [vR 1, vR x, vR m, vR u, vI i, vI c, vI y, l7, l8] [] (M3, S) Q
    refine WP.blk 1 ?_
    exact hP _ _
theorem b_clearText {w : Wd} {x m u L : Nat} {i : Int} {l5 l6 l7 l8 : V} {Q : Res → Wd → Prop} (hx : ty w x = 9) (hc : EvQ 1 64 [vR x] w (fun r w2 => ∃ a, r = (0, vI a) ∧ ty w2 m = 10 ∧ EvQ 1 127 [vR m] w2 (fun r2 w3 => r2 = (0, vI a) ∧ WP 20 199 1416 [vR 1, vR x, vR m, vR u, vI i, l5, l6, l7, l8] [] w3 Q))) : WP 20 199 208 [vR 1, vR x, vR m, vR u, vI i, l5, l6, l7, l8] [] w Q := by
  refine WP.blk 1 ?_
  show WP 20 199 209 [vR 1, vR x, vR m, vR u, vI i, l5, l6, l7, l8] [vR x] w Q
  refine WP.call (a := [vR x]) (rest := []) rfl rfl rfl rfl ⟨hx, trivial⟩ (by decide) hc (fun r w2 h => ?_)
  obtain ⟨a, rfl, hm, h⟩ := h
  refine ⟨rfl, ?_⟩
  show WP 20 199 212 [vR 1, vR x, vR m, vR u, vI i, l5, l6, l7, l8] [vI a] w2 Q
  refine WP.blk 1 ?_
  show WP 20 199 213 [vR 1, vR x, vR m, vR u, vI i, l5, l6, l7, l8] [vR m, vI a] w2 Q
  refine WP.call (a := [vR m]) (rest := [vI a]) rfl rfl rfl rfl ⟨hm, trivial⟩ (by decide) h (fun r w3 h => ?_)
  obtain ⟨rfl, h⟩ := h
  refine ⟨rfl, ?_⟩
  show WP 20 199 216 [vR 1, vR x, vR m, vR u, vI i, l5, l6, l7, l8] [vI a, vI a] w3 Q
  refine WP.blk 1 ?_
  show WP 20 199 (if cnd .eq a a = true then 1416 else 219) [vR 1, vR x, vR m, vR u, vI i, l5, l6, l7, l8] [] w3 Q
  exact br_eq (fun _ => h) (fun hb => absurd rfl hb)
theorem b_parse {w : Wd} {x m u L : Nat} {i : Int} {l5 l6 l7 l8 : V} {Q : Res → Wd → Prop} (hx : ty w x = 9) (hc : EvQ 7 65 [vR x] w (fun r w2 => ∃ a, r = (0, vI a) ∧ ty w2 m = 10 ∧ EvQ 5 132 [vR m] w2 (fun r2 w3 => r2 = (0, vI a) ∧ WP 20 199 1416 [vR 1, vR x, vR m, vR u, vI i, l5, l6, l7, l8] [] w3 Q))) : WP 20 199 221 [vR 1, vR x, vR m, vR u, vI i, l5, l6, l7, l8] [] w Q := by
  refine WP.blk 1 ?_
  show WP 20 199 222 [vR 1, vR x, vR m, vR u, vI i, l5, l6, l7, l8] [vR x] w Q
  refine WP.call (a := [vR x]) (rest := []) rfl rfl rfl rfl ⟨hx, trivial⟩ (by decide) hc (fun r w2 h => ?_)
  obtain ⟨a, rfl, hm, h⟩ := h
  refine ⟨rfl, ?_⟩
  show WP 20 199 225 [vR 1, vR x, vR m, vR u, vI i, l5, l6, l7, l8] [vI a] w2 Q
  refine WP.blk 1 ?_
  show WP 20 199 226 [vR 1, vR x, vR m, vR u, vI i, l5, l6, l7, l8] [vR m, vI a] w2 Q
  refine WP.call (a := [vR m]) (rest := [vI a]) rfl rfl rfl rfl ⟨hm, trivial⟩ (by decide) h (fun r w3 h => ?_)
  obtain ⟨rfl, h⟩ := h
  refine ⟨rfl, ?_⟩
  show WP 20 199 229 [vR 1, vR x, vR m, vR u, vI i, l5, l6, l7, l8] [vI a, vI a] w3 Q
  refine WP.blk 1 ?_
  show WP 20 199 (if cnd .eq a a = true then 1416 else 232) [vR 1, vR x, vR m, vR u, vI i, l5, l6, l7, l8] [] w3 Q
  exact br_eq (fun _ => h) (fun hb => absurd rfl hb)
theorem b_writeAll {w : Wd} {x m u L : Nat} {i : Int} {l5 l6 l7 l8 : V} {Q : Res → Wd → Prop} (hx : ty w x = 9) (hc : EvQ 6 79 [vR x] w (fun r w2 => ∃ a, r = (0, vI a) ∧ ty w2 m = 10 ∧ EvQ 7 160 [vR m] w2 (fun r2 w3 => r2 = (0, vI a) ∧ WP 20 199 1416 [vR 1, vR x, vR m, vR u, vI i, l5, l6, l7, l8] [] w3 Q))) : WP 20 199 1098 [vR 1, vR x, vR m, vR u, vI i, l5, l6, l7, l8] [] w Q := by
  refine WP.blk 1 ?_
  show WP 20 199 1099 [vR 1, vR x, vR m, vR u, vI i, l5, l6, l7, l8] [vR x] w Q
  refine WP.call (a := [vR x]) (rest := []) rfl rfl rfl rfl ⟨hx, trivial⟩ (by decide) hc (fun r w2 h => ?_)
  obtain ⟨a, rfl, hm, h⟩ := h
  refine ⟨rfl, ?_⟩
  show WP 20 199 1102 [vR 1, vR x, vR m, vR u, vI i, l5, l6, l7, l8] [vI a] w2 Q
  refine WP.blk 1 ?_
  show WP 20 199 1103 [vR 1, vR x, vR m, vR u, vI i, l5, l6, l7, l8] [vR m, vI a] w2 Q
  refine WP.call (a := [vR m]) (rest := [vI a]) rfl rfl rfl rfl ⟨hm, trivial⟩ (by decide) h (fun r w3 h => ?_)
  obtain ⟨rfl, h⟩ := h
  refine ⟨rfl, ?_⟩
  show WP 20 199 1106 [vR 1, vR x, vR m, vR u, vI i, l5, l6, l7, l8] [vI a, vI a] w3 Q
  refine WP.blk 1 ?_
  show WP 20 199 (if cnd .eq a a = true then 1416 else 1109) [vR 1, vR x, vR m, vR u, vI i, l5, l6, l7, l8] [] w3 Q
  exact br_eq (fun _ => h) (fun hb => absurd rfl hb)
theorem b_fewest {w : Wd} {x m u L : Nat} {i : Int} {l5 l6 l7 l8 : V} {Q : Res → Wd → Prop} (hx : ty w x = 9) (hc : EvQ 7 80 [vR x] w (fun r w2 => ∃ a, r = (0, vI a) ∧ ty w2 m = 10 ∧ EvQ 7 164 [vR m] w2 (fun r2 w3 => r2 = (0, vI a) ∧ WP 20 199 1416 [vR 1, vR x, vR m, vR u, vI i, l5, l6, l7, l8] [] w3 Q))) : WP 20 199 1111 [vR 1, vR x, vR m, vR u, vI i, l5, l6, l7, l8] [] w Q := by
  refine WP.blk 1 ?_
  show WP 20 199 1112 [vR 1, vR x, vR m, vR u, vI i, l5, l6, l7, l8] [vR x] w Q
  refine WP.call (a := [vR x]) (rest := []) rfl rfl rfl rfl ⟨hx, trivial⟩ (by decide) hc (fun r w2 h => ?_)
  obtain ⟨a, rfl, hm, h⟩ := h
  refine ⟨rfl, ?_⟩
  show WP 20 199 1115 [vR 1, vR x, vR m, vR u, vI i, l5, l6, l7, l8] [vI a] w2 Q
  refine WP.blk 1 ?_
  show WP 20 199 1116 [vR 1, vR x, vR m, vR u, vI i, l5, l6, l7, l8] [vR m, vI a] w2 Q
  refine WP.call (a := [vR m]) (rest := [vI a]) rfl rfl rfl rfl ⟨hm, trivial⟩ (by decide) h (fun r w3 h => ?_)
  obtain ⟨rfl, h⟩ := h
  refine ⟨rfl, ?_⟩
  show WP 20 199 1119 [vR 1, vR x, vR m, vR u, vI i, l5, l6, l7, l8] [vI a, vI a] w3 Q
  refine WP.blk 1 ?_
  show WP 20 199 (if cnd .eq a a = true then 1416 else 1122) [vR 1, vR x, vR m, vR u, vI i, l5, l6, l7, l8] [] w3 Q
  exact br_eq (fun _ => h) (fun hb => absurd rfl hb)
theorem b_leastCleanings {w : Wd} {x m u L : Nat} {i : Int} {l5 l6 l7 l8 : V} {Q : Res → Wd → Prop} (hx : ty w x = 9) (hc : EvQ 16 83 [vR x] w (fun r w2 => ∃ a, r = (0, vI a) ∧ ty w2 m = 10 ∧ EvQ 8 171 [vR m] w2 (fun r2 w3 => r2 = (0, vI a) ∧ WP 20 199 1416 [vR 1, vR x, vR m, vR u, vI i, l5, l6, l7, l8] [] w3 Q))) : WP 20 199 1236 [vR 1, vR x, vR m, vR u, vI i, l5, l6, l7, l8] [] w Q := by
  refine WP.blk 1 ?_
  show WP 20 199 1237 [vR 1, vR x, vR m, vR u, vI i, l5, l6, l7, l8] [vR x] w Q
  refine WP.call (a := [vR x]) (rest := []) rfl rfl rfl rfl ⟨hx, trivial⟩ (by decide) hc (fun r w2 h => ?_)
  obtain ⟨a, rfl, hm, h⟩ := h
  refine ⟨rfl, ?_⟩
  show WP 20 199 1240 [vR 1, vR x, vR m, vR u, vI i, l5, l6, l7, l8] [vI a] w2 Q
  refine WP.blk 1 ?_
  show WP 20 199 1241 [vR 1, vR x, vR m, vR u, vI i, l5, l6, l7, l8] [vR m, vI a] w2 Q
  refine WP.call (a := [vR m]) (rest := [vI a]) rfl rfl rfl rfl ⟨hm, trivial⟩ (by decide) h (fun r w3 h => ?_)
  obtain ⟨rfl, h⟩ := h
  refine ⟨rfl, ?_⟩
  show WP 20 199 1244 [vR 1, vR x, vR m, vR u, vI i, l5, l6, l7, l8] [vI a, vI a] w3 Q
  refine WP.blk 1 ?_
  show WP 20 199 (if cnd .eq a a = true then 1416 else 1247) [vR 1, vR x, vR m, vR u, vI i, l5, l6, l7, l8] [] w3 Q
  exact br_eq (fun _ => h) (fun hb => absurd rfl hb)
theorem b_digest {w : Wd} {x m u L : Nat} {i : Int} {l5 l6 l7 l8 : V} {Q : Res → Wd → Prop} (hx : ty w x = 9) (hc : EvQ 8 87 [vR x] w (fun r w2 => ∃ a, r = (0, vL a) ∧ ty w2 m = 10 ∧ EvQ 10 178 [vR m] w2 (fun r2 w3 => r2 = (0, vL a) ∧ WP 20 199 1416 [vR 1, vR x, vR m, vR u, vI i, l5, l6, l7, l8] [] w3 Q))) : WP 20 199 1402 [vR 1, vR x, vR m, vR u, vI i, l5, l6, l7, l8] [] w Q := by
  refine WP.blk 1 ?_
  show WP 20 199 1403 [vR 1, vR x, vR m, vR u, vI i, l5, l6, l7, l8] [vR x] w Q
  refine WP.call (a := [vR x]) (rest := []) rfl rfl rfl rfl ⟨hx, trivial⟩ (by decide) hc (fun r w2 h => ?_)
  obtain ⟨a, rfl, hm, h⟩ := h
  refine ⟨rfl, ?_⟩
  show WP 20 199 1406 [vR 1, vR x, vR m, vR u, vI i, l5, l6, l7, l8] [vL a] w2 Q
  refine WP.blk 1 ?_
  show WP 20 199 1407 [vR 1, vR x, vR m, vR u, vI i, l5, l6, l7, l8] [vR m, vL a] w2 Q
  refine WP.call (a := [vR m]) (rest := [vL a]) rfl rfl rfl rfl ⟨hm, trivial⟩ (by decide) h (fun r w3 h => ?_)
  obtain ⟨rfl, h⟩ := h
  refine ⟨rfl, ?_⟩
  show WP 20 199 1410 [vR 1, vR x, vR m, vR u, vI i, l5, l6, l7, l8] [vL a, vL a] w3 Q
  refine WP.blk 1 ?_
  show WP 20 199 1411 [vR 1, vR x, vR m, vR u, vI i, l5, l6, l7, l8] [vI (lC a a)] w3 Q
  rw [lC_s]
  refine WP.blk 1 ?_
  show WP 20 199 (if cnd .eq 0 0 = true then 1416 else 1414) [vR 1, vR x, vR m, vR u, vI i, l5, l6, l7, l8] [] w3 Q
  exact br_eq (fun _ => h) (fun hb => absurd rfl hb)
