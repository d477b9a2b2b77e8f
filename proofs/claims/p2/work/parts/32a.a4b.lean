/-- both sides' state behind a wall that is taken -/
def wdr (σ : mm_S) (j w : Int32) : mm_S := mm_up (mm_up (mm_up (mm_up (mm_up σ 18 j.toNatClampNeg w) 0 3 0) 10 0 0) 82 j.toNatClampNeg w) 10 12 0
