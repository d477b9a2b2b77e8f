/-- both sides' state behind corners that are taken -/
def cdr (σ : mm_S) (a b c e : Int32) : mm_S := mm_up (mm_up (mm_up (mm_up (mm_up (mm_up (mm_up (mm_up (mm_up (mm_up (mm_up (mm_up (mm_up σ 19 0 a) 19 1 b) 19 2 c) 19 3 e) 1 9 1) 0 3 0) 10 0 0) 83 0 a) 83 1 b) 83 2 c) 83 3 e) 10 10 1) 10 12 0
theorem mdr_cg {σ σ' : mm_S} {r : Int32} (h75 : σ' 75 = σ 75) : mdr σ' r = mdr σ r := by
  unfold mdr
  rw [h75]
