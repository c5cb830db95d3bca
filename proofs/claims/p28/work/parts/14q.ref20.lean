/-- the digest once a word is mixed in -/
def DigW (f : Int → Int) (w h h2 : Int) : Prop := ∃ (n : Int) (c : Int → Int), (BestP f w c n ∨ (n = 0 ∧ ∀ c n, ¬ BestP f w c n)) ∧ h2 = mx c n (mx (fun k => f (97 + 14 * w + 2 + k)) (f (97 + 14 * w)) (mx (tw f w) 6 h))
