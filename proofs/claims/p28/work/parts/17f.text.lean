/-! the text while it is written: state, stamps, words, letters of the open item -/
theorem psN_c {t t' g : Int → Int} : ∀ n : Nat, (∀ i : Int, 0 ≤ i → i < n → t i = t' i) → psN t g n = psN t' g n
  | 0, _ => rfl
  | n + 1, h => by
    show (match psN t g n with | none => none | some z => nxt z.1 z.2 (t n)) = (match psN t' g n with | none => none | some z => nxt z.1 z.2 (t' n))
    rw [psN_c n (fun i a b => h i a (by omega)), h n (by omega) (by omega)]
theorem ps_up {t g : Int → Int} {l v : Int} (hl : 0 ≤ l) : ps (uf t l v) g l = ps t g l := psN_c _ (fun i a b => uf_ne (by omega))
theorem ps_add {t g h : Int → Int} {l v st : Int} (hl : 0 ≤ l) (hs : ps t g l = some (st, h)) : ps (uf t l v) g (l + 1) = nxt st h v := by
  rw [ps_s hl ((ps_up hl).trans hs), uf_eq]
def PT (f tx : Int → Int) (l st a b n : Int) : Prop := ∃ g, ps tx (st0 f) l = some (st, g) ∧ g 0 = a ∧ g 1 = b ∧ (st = 1 → g (7 + 9 * (a - 1)) = n) ∧ (st = 2 → g (97 + 14 * (b - 1)) = n)
section PT
variable {f tx : Int → Int} {l a b n v : Int}
theorem pt_0 : PT f tx 0 0 0 0 0 := ⟨st0 f, rfl, rfl, rfl, fun h => absurd h (by decide), fun h => absurd h (by decide)⟩
theorem pt_stamp (hl : 0 ≤ l) (ha : 0 ≤ a ∧ a < 10) (hv : v = 42) (h : PT f tx l 0 a b n) : PT f (uf tx l v) (l + 1) 1 (a + 1) b 0 := by
  obtain ⟨g, h1, h2, h3, -, -⟩ := h
  refine ⟨opS g, ?_, ?_, ?_, fun _ => ?_, fun h => absurd h (by decide)⟩
  · rw [ps_add hl h1]
    unfold nxt
    rw [if_pos rfl, if_pos ⟨hv, by omega⟩]
  · rw [← h2]; exact uf_eq _ _ _
  · rw [← h3]
    unfold opS clrS clrR
    rw [uf_ne (by omega), uf_ne (by omega), if_neg (by omega)]
  · rw [show a + 1 - 1 = a by omega, ← h2]
    unfold opS clrS clrR
    rw [uf_ne (by omega), uf_ne (by omega), if_pos (by omega)]
theorem pt_word (hl : 0 ≤ l) (hb : 0 ≤ b ∧ b < 7) (hv : 48 ≤ v ∧ v ≤ 51) (h : PT f tx l 0 a b n) : PT f (uf tx l v) (l + 1) 2 a (b + 1) 0 := by
  obtain ⟨g, h1, h2, h3, -, -⟩ := h
  refine ⟨opW g (v - 48), ?_, ?_, ?_, fun h => absurd h (by decide), fun _ => ?_⟩
  · rw [ps_add hl h1]
    unfold nxt
    rw [if_pos rfl, if_neg (by omega), if_pos ⟨hv, by omega⟩]
  · rw [← h2]
    unfold opW
    rw [uf_ne (by omega), uf_ne (by omega), uf_ne (by omega)]
  · rw [← h3]; exact uf_eq _ _ _
  · rw [show b + 1 - 1 = b by omega, ← h3]
    unfold opW
    rw [uf_ne (by omega), uf_ne (by omega), uf_eq]
theorem pt_let1 (hl : 0 ≤ l) (ha : 1 ≤ a) (hn : 0 ≤ n ∧ n < 5) (hv : 97 ≤ v ∧ v ≤ 122) (h : PT f tx l 1 a b n) : PT f (uf tx l v) (l + 1) 1 a b (n + 1) := by
  obtain ⟨g, h1, h2, h3, h4, -⟩ := h
  have h4 := h4 rfl
  refine ⟨adL g (7 + 9 * (a - 1)) (7 + 9 * (a - 1) + 1) (v - 97), ?_, ?_, ?_, fun _ => ?_, fun h => absurd h (by decide)⟩
  · rw [ps_add hl h1]
    unfold nxt atS fiS moS
    rw [if_neg (by decide), if_pos rfl, if_pos rfl, if_pos rfl, h2, if_pos ⟨hv, by omega⟩]
  · unfold adL
    rw [uf_ne (by omega), uf_ne (by omega), h2]
  · unfold adL
    rw [uf_ne (by omega), uf_ne (by omega), h3]
  · unfold adL
    rw [uf_eq, h4]
theorem pt_let2 (hl : 0 ≤ l) (hb : 1 ≤ b) (hn : 0 ≤ n ∧ n < 12) (hv : 97 ≤ v ∧ v ≤ 122) (h : PT f tx l 2 a b n) : PT f (uf tx l v) (l + 1) 2 a b (n + 1) := by
  obtain ⟨g, h1, h2, h3, -, h4⟩ := h
  have h4 := h4 rfl
  refine ⟨adL g (97 + 14 * (b - 1)) (97 + 14 * (b - 1) + 2) (v - 97), ?_, ?_, ?_, fun h => absurd h (by decide), fun _ => ?_⟩
  · rw [ps_add hl h1]
    unfold nxt
    rw [if_neg (by decide), show atS 2 g = 97 + 14 * (g 1 - 1) from if_neg (by decide), show fiS 2 g = 97 + 14 * (g 1 - 1) + 2 from if_neg (by decide), show moS 2 = 12 from if_neg (by decide), h3, if_pos ⟨hv, by omega⟩]
  · unfold adL
    rw [uf_ne (by omega), uf_ne (by omega), h2]
  · unfold adL
    rw [uf_ne (by omega), uf_ne (by omega), h3]
  · unfold adL
    rw [uf_eq, h4]
theorem pt_end1 (hl : 0 ≤ l) (hn : 0 < n) (hv : v = 59) (h : PT f tx l 1 a b n) : PT f (uf tx l v) (l + 1) 0 a b 0 := by
  obtain ⟨g, h1, h2, h3, h4, -⟩ := h
  have h4 := h4 rfl
  refine ⟨g, ?_, h2, h3, fun h => absurd h (by decide), fun h => absurd h (by decide)⟩
  rw [ps_add hl h1]
  unfold nxt atS
  rw [if_neg (by decide), if_neg (by omega), if_pos rfl, h2, if_pos ⟨hv, by omega⟩]
theorem pt_end2 (hl : 0 ≤ l) (hn : 0 < n) (hv : v = 59) (h : PT f tx l 2 a b n) : PT f (uf tx l v) (l + 1) 0 a b 0 := by
  obtain ⟨g, h1, h2, h3, -, h4⟩ := h
  have h4 := h4 rfl
  refine ⟨g, ?_, h2, h3, fun h => absurd h (by decide), fun h => absurd h (by decide)⟩
  rw [ps_add hl h1]
  unfold nxt
  rw [if_neg (by decide), show atS 2 g = 97 + 14 * (g 1 - 1) from if_neg (by decide), if_neg (by omega), h3, if_pos ⟨hv, by omega⟩]
end PT
section TXT
variable {N B N' : Int} {x L : Nat} {w : Wd} {f : Int → Int} {fs : List (Int → Int)} {sv : Int} {tx : Int → Int} {l : Int} {Q : Res → Wd → Prop}
theorem t_le (h : LwT N B x L w f fs sv tx l) (hN : N ≤ N') : LwT N' B x L w f fs sv tx l := by
  obtain ⟨p, h⟩ := h
  exact ⟨p, lp_le h hN⟩
theorem t_s (h : LwT N B x L w f fs sv tx l) : LwS N B x L w f fs sv := ⟨tx, l, h⟩
theorem u_append {v : Int} (h : LwT N B x L w f fs sv tx l) (hN : N + 1 ≤ N') (hv : 0 ≤ v ∧ v ≤ 127) (hl : l < 150) (k : ∀ w', LwT N' B x L w' f fs sv (uf tx l v) (l + 1) → Q (0, vI (l + 1)) w') : EvQ 2 121 [vR x, vI v] w Q := by
  obtain ⟨p, hL⟩ := h
  obtain ⟨h1, ⟨a1, a2, a3, a4, a5, a6, a7⟩, h3, h4, h5, h6⟩ := hL
  refine w_append h1.1.1.1.1 (t_append (M := w.1) (S := w.2) (ox := w.1 x) (tx := tx) h1.1.1 rfl a3 (by rw [a4]; exact h4.1) (fun M2 hq _ _ e1 e2 => Or.inl ⟨_, rfl, ?_⟩) (fun hc => absurd hv hc) (fun _ hc => by rw [a4] at hc; omega))
  rw [a4] at e1 e2 ⊢
  have u1 : (uc (M2, w.2) : Int) = uc w := rfl
  have u2 : (us (M2, w.2) : Int) = us w := rfl
  have hx := h1.2.2
  refine k (M2, w.2) ⟨p, h1, ⟨AskR_fr (fun q a b c => hq q (by omega) (by omega)) a1, HisF_fr h1.1.1.2.2.2.1 (fun q a b => hq q (by omega) (by omega)) a2, e2, by show M2 x 1 = l + 1; rw [e1]; exact uf_eq _ _ _, CstR_fr (fun q a b => hq q (by omega) (by omega)) a5, InkZ_fr (fun q a b => hq q (by omega) (by omega)) a6, CstR_fr (fun q a b => hq q (by omega) (by omega)) a7⟩, h3, ⟨by omega, fun i a b => ?_⟩, ⟨by rw [u1]; omega, by rw [u2]; omega⟩, h6⟩
  by_cases e : i = l
  · rw [e, uf_eq]; exact hv
  · rw [uf_ne e]; exact h4.2 i a (by omega)
theorem u_clear (h : LwS N B x L w f fs sv) (hN : N + 1 ≤ N') (k : ∀ w' tx l, LwT N' B x L w' f fs sv tx 0 → 0 ≤ l → Q (0, vI l) w') : EvQ 1 64 [vR x] w Q := by
  obtain ⟨tx, l, p, hL⟩ := h
  obtain ⟨h1, ⟨a1, a2, a3, a4, a5, a6, a7⟩, h3, h4, h5, h6⟩ := hL
  refine t_clearText (M := w.1) (S := w.2) (ox := w.1 x) h1.1.1 rfl (fun M2 hq e1 => ?_)
  rw [a4]
  have u1 : (uc (M2, w.2) : Int) = uc w := rfl
  have u2 : (us (M2, w.2) : Int) = us w := rfl
  have hx := h1.2.2
  exact k (M2, w.2) tx l ⟨p, h1, ⟨AskR_fr (fun q a b c => hq q (by omega)) a1, HisF_fr h1.1.1.2.2.2.1 (fun q a b => hq q (by omega)) a2, (hq _ (by omega)).trans a3, by show M2 x 1 = 0; rw [e1]; exact uf_eq _ _ _, CstR_fr (fun q a b => hq q (by omega)) a5, InkZ_fr (fun q a b => hq q (by omega)) a6, CstR_fr (fun q a b => hq q (by omega)) a7⟩, h3, ⟨by omega, fun i a b => by omega⟩, ⟨by rw [u1]; omega, by rw [u2]; omega⟩, h6⟩ h4.1.1
theorem u_parse {a b n : Int} (h : LwT N B x L w f fs sv tx l) (hN : N + 1 ≤ N') (hl : fs.length ≤ 3) (hp : PT f tx l 0 a b n) (k : ∀ w' g, LwT N' B x L w' g (f :: fs) (nsv sv) tx l → ps tx (st0 f) l = some (0, g) → Q (0, vI (a + b)) w') : EvQ 7 65 [vR x] w Q := by
  obtain ⟨p, hL⟩ := h
  obtain ⟨g0, e0, e1, e2, -, -⟩ := hp
  have hL2 := hL
  obtain ⟨h1, ⟨a1, a2, a3, a4, a5, a6, a7⟩, h3, h4, h5, h6⟩ := hL
  refine t_parse (M := w.1) (S := w.2) (ox := w.1 x) (tx := tx) h1.1.1 a1 h1.2.2 h3.1.1 a2 rfl a3 (by rw [a4]; exact h4.1) (fun i a b => by rw [a4] at b; have := h4.2 i a b; omega) a5 a6 h6 (fun g M2 R2 hq hR hX hA hH hps hc => ?_) (fun e M2 hq he hA hH hc => ?_)
  · rw [a4] at hps
    have eg : g = g0 := congrArg Prod.snd (Option.some.inj (hps.symm.trans e0))
    rw [eg, e1, e2]
    rw [eg] at hA
    exact k _ g0 (lp_chg hL2 (by omega) hl (fun q a => hq q (by omega) (by omega) (by omega)) hX hA hH hc ⟨pw_row h6.1 (pw_i e0) h3.1.1, inkN_pw (pw_i e0)⟩ (Int.le_refl _) h6.2) e0
  · rw [a4] at he
    exact (err_ok he e0).elim
end TXT
