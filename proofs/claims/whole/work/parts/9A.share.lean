/-! share -/
def okQ (x : UInt32) : Bool := decide (n32 x) && (decide (n64 (FP.f2d x)) && decide (Op.cmpValue (FP.dcmp (FP.f2d x) (FP.f2d x)) .l = 0))
theorem okQ_all : ∀ c, c < 101 → ∀ a, a < 101 → c = 0 ∨ okQ (FP.fdiv (FP.i2f (nI a)) (FP.i2f (nI c))) = true := by decide +kernel
theorem okQ_0 : okQ (fcn 0) = true := by decide +kernel
