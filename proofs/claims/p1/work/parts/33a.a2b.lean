/-- both sides' state behind corners that are taken -/
def cdr (σ : mm_S) (a b c e : Int32) : mm_S := mm_up (mm_up (mm_up (mm_up (mm_up (mm_up (mm_up (mm_up (mm_up (mm_up (mm_up (mm_up (mm_up σ 19 0 a) 19 1 b) 19 2 c) 19 3 e) 1 9 1) 0 3 0) 10 0 0) 83 0 a) 83 1 b) 83 2 c) 83 3 e) 10 10 1) 10 12 0
theorem mdr_cg {σ σ' : mm_S} {r : Int32} (h75 : σ' 75 = σ 75) : mdr σ' r = mdr σ r := by
  unfold mdr
  rw [h75]
theorem arm_2 {d : Nat} {xs : Nat → Int32} {len t : Nat} {x4 : Int32} {o5 o6 : Option Value} {σ : mm_S} {f : Nat → Int64} (hR : Rm σ) (h1 : vp_in (x4 + (1 : Int32)) len) (h2 : vp_in (x4 + (2 : Int32)) len) (h3 : vp_in (x4 + (3 : Int32)) len) (h4 : vp_in (x4 + (4 : Int32)) len) (ht : t < 512)
    (k1 : lw (d + 3) xs len 512 847 (lL x4 (some (.int 1)) o6) [] (mm_up σ 10 0 1) f (t + 1))
    (k0 : xall σ (xs (x4 + 1).toNatClampNeg) (xs (x4 + 2).toNatClampNeg) (xs (x4 + 3).toNatClampNeg) (xs (x4 + 4).toNatClampNeg) → lw (d + 3) xs len 512 847 (lL x4 (some (.int 0)) o6) [] (cdr σ (xs (x4 + 1).toNatClampNeg) (xs (x4 + 2).toNatClampNeg) (xs (x4 + 3).toNatClampNeg) (xs (x4 + 4).toNatClampNeg)) f (t + 1)) :
    lw (d + 3) xs len 512 240 (lL x4 o5 o6) [] σ f t := by
  have fin : ∀ (k : Int32) (τ : mm_S), τ 10 0 = k → lw (d + 3) xs len 512 847 (lL x4 (some (.int k)) o6) [] τ f (t + 1) → lw (d + 3) xs len 512 298 (lL x4 (some (.int k)) o6) [] τ f (t + 1) := fun k τ hk hc => by
    refine lb_298 (c_86 ?_)
    show lw (d + 3) xs len 512 302 (lL x4 (some (.int k)) o6) [.int (τ 10 0)] τ f (t + 1)
    exact lb_302 (fun _ => lb_309 hc) (fun h => absurd hk h)
  refine lb_240 h1 h2 h3 h4 ht ⟨rfl, x_corners (d := d + 2) (fun hn => ⟨rfl, ?_⟩) (fun hm => ⟨rfl, ?_⟩)⟩
  · exact lb_268 h1 h2 h3 h4 (c_92 (d := d + 1) (fun _ => fin 1 _ mm_up_s k1) (fun hm => absurd ((Rm_all hR).mpr hm) hn))
  · have hm2 := (Rm_all hR).mp hm
    refine lb_268 h1 h2 h3 h4 (c_92 (d := d + 1) (fun hn => absurd ?_ hn) (fun _ => fin 0 _ ?_ (k0 hm)))
    · unfold mall
      have e75 : (mm_up (mm_up (mm_up (mm_up (mm_up (mm_up σ 19 0 (xs (x4 + 1).toNatClampNeg)) 19 1 (xs (x4 + 2).toNatClampNeg)) 19 2 (xs (x4 + 3).toNatClampNeg)) 19 3 (xs (x4 + 4).toNatClampNeg)) 1 9 1) 0 3 0) 75 = σ 75 := by
        rw [mm_up_n (by decide), mm_up_n (by decide), mm_up_n (by decide), mm_up_n (by decide), mm_up_n (by decide), mm_up_n (by decide)]
      rw [mdr_cg e75, mdr_cg e75, mdr_cg e75, mdr_cg e75]
      exact hm2
    · rw [mm_up_eq, pk_un (by decide), mm_up_eq, pk_un (by decide), mm_up_n (by decide), mm_up_n (by decide), mm_up_n (by decide), mm_up_n (by decide)]
      exact mm_up_s
