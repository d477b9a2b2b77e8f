/-! one call on fresh objects (scripts of at most 5 ints) -/
theorem law_one {d : Nat} {xs : Nat → Int32} {len : Nat} (hlen : len ≤ 5)
    (harm : len = 5 → (∀ (o5 o6 : Option Value) (σ : mm_S) (f : Nat → Int64) (t : Nat), lw d xs len 512 847 (lL (nI 0) o5 o6) [] σ f t) → ∀ q ∈ [112, 172, 240, 312, 372, 420, 431, 444, 469, 537, 593, 661, 729, 797, 822, 847], lw d xs len 512 q (lL (nI 0) none none) [] ms_0 (fun _ => 0) 0) :
    lw d xs len 512 20 [some (.ref 200), some (.ref 0), some (.ref 10), some (.ref 201), none, none, none] [] ms_0 (fun _ => 0) 0 := by
  refine lb_20 (lb_23 (fun _ => lb_853) (fun z => ?_))
  have hle : len = 5 := by
    have h1 : ¬ len < 5 * 0 + 5 := fun q => z ((law_cond (i := 0) (by omega) (by omega)).mpr q)
    omega
  refine lb_32 (pk_in 0 len (by omega)) (law_sw (harm hle (fun o5 o6 σ f t => ?_)))
  refine lb_847 ?_
  rw [show nI 0 + (5 : Int32) = nI (5 * 1) from rfl]
  exact lb_23 (fun _ => lb_853) (fun z => absurd ((law_cond (i := 1) (by omega) (by omega)).mpr (by omega)) z)
