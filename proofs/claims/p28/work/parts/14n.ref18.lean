/-- letters per press -/
noncomputable def lpp (f : Int → Int) : UInt64 := if sm (ps1 f) (f 1) = 0 then 0 else FP.ddiv (FP.i2d (Int32.ofInt (sm (lt1 f) (f 1)))) (FP.i2d (Int32.ofInt (sm (ps1 f) (f 1))))
