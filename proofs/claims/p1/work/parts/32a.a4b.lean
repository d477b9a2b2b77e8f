/-- both sides' state behind a wall that is taken -/
def wdr (σ : mm_S) (j w : Int32) : mm_S := mm_up (mm_up (mm_up (mm_up (mm_up σ 18 j.toNatClampNeg w) 0 3 0) 10 0 0) 82 j.toNatClampNeg w) 10 12 0
theorem arm_4 {d : Nat} {xs : Nat → Int32} {len t : Nat} {x4 : Int32} {o5 o6 : Option Value} {σ : mm_S} {f : Nat → Int64} (hJ : Jm σ) (h1 : vp_in (x4 + (1 : Int32)) len) (h2 : vp_in (x4 + (2 : Int32)) len) (ht : t < 512)
    (k1 : lw (d + 3) xs len 512 847 (lL x4 (some (.int 1)) o6) [] (mm_up σ 10 0 1) f (t + 1))
    (k0 : xj σ (xs (x4 + 1).toNatClampNeg) = 1 → lw (d + 3) xs len 512 847 (lL x4 (some (.int 0)) o6) [] (wdr σ (xs (x4 + 1).toNatClampNeg) (xs (x4 + 2).toNatClampNeg)) f (t + 1)) :
    lw (d + 3) xs len 512 372 (lL x4 o5 o6) [] σ f t := by
  have fin : ∀ (k : Int32) (τ : mm_S), τ 10 0 = k → lw (d + 3) xs len 512 847 (lL x4 (some (.int k)) o6) [] τ f (t + 1) → lw (d + 3) xs len 512 406 (lL x4 (some (.int k)) o6) [] τ f (t + 1) := fun k τ hk hc => by
    refine lb_406 (c_86 ?_)
    show lw (d + 3) xs len 512 410 (lL x4 (some (.int k)) o6) [.int (τ 10 0)] τ f (t + 1)
    exact lb_410 (fun _ => lb_417 hc) (fun h => absurd hk h)
  have hjj := Jm_j (j := xs (x4 + 1).toNatClampNeg) hJ
  refine lb_372 h1 h2 ht ⟨rfl, x_wall (d := d + 3) hJ (fun hn => ⟨rfl, ?_⟩) (fun hm => ⟨rfl, ?_⟩)⟩
  · exact lb_388 h1 h2 (c_94 (d := d + 2) (fun h => xj_in hJ (hjj.mp h)) (fun _ => fin 1 _ mm_up_s k1) (fun hm => absurd ⟨hjj.mp hm.1, hm.2⟩ hn))
  · have e6 : (mm_up (mm_up σ 18 (xs (x4 + 1).toNatClampNeg).toNatClampNeg (xs (x4 + 2).toNatClampNeg)) 0 3 0) 10 6 = σ 10 6 := by
      rw [mm_up_n (by decide), mm_up_n (by decide)]
    refine lb_388 h1 h2 (c_94 (d := d + 2) (fun h => xj_in hJ hm.1) (fun hn => absurd ⟨?_, hm.2⟩ hn) (fun _ => fin 0 _ ?_ (k0 hm.1)))
    · rw [mm_up_eq, pk_un (by decide), mm_up_n (by decide)]
      exact mm_up_s
    · rw [e6]; exact hjj.mpr hm.1
