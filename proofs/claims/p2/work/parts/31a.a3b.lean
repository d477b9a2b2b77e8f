/-- both sides' state behind a least that is taken -/
def ldr (σ : mm_S) (r w h : Int32) : mm_S := mm_up (mm_up (mm_up (mm_up (mm_up (mm_up (mm_up σ 13 r.toNatClampNeg w) 14 r.toNatClampNeg h) 0 3 0) 10 0 0) 78 r.toNatClampNeg w) 79 r.toNatClampNeg h) 10 12 0
