/-- both sides' state behind a least that is taken -/
def ldr (σ : mm_S) (r w h : Int32) : mm_S := mm_up (mm_up (mm_up (mm_up (mm_up (mm_up (mm_up σ 13 r.toNatClampNeg w) 14 r.toNatClampNeg h) 0 3 0) 10 0 0) 78 r.toNatClampNeg w) 79 r.toNatClampNeg h) 10 12 0
theorem arm_3 {d : Nat} {xs : Nat → Int32} {len t : Nat} {x4 : Int32} {o5 o6 : Option Value} {σ : mm_S} {f : Nat → Int64} (hR : Rm σ) (h1 : vp_in (x4 + (1 : Int32)) len) (h2 : vp_in (x4 + (2 : Int32)) len) (h3 : vp_in (x4 + (3 : Int32)) len) (ht : t < 512)
    (k1 : lw (d + 3) xs len 512 847 (lL x4 (some (.int 1)) o6) [] (mm_up σ 10 0 1) f (t + 1))
    (k0 : xd σ (xs (x4 + 1).toNatClampNeg) = 1 → lw (d + 3) xs len 512 847 (lL x4 (some (.int 0)) o6) [] (ldr σ (xs (x4 + 1).toNatClampNeg) (xs (x4 + 2).toNatClampNeg) (xs (x4 + 3).toNatClampNeg)) f (t + 1)) :
    lw (d + 3) xs len 512 312 (lL x4 o5 o6) [] σ f t := by
  have fin : ∀ (k : Int32) (τ : mm_S), τ 10 0 = k → lw (d + 3) xs len 512 847 (lL x4 (some (.int k)) o6) [] τ f (t + 1) → lw (d + 3) xs len 512 358 (lL x4 (some (.int k)) o6) [] τ f (t + 1) := fun k τ hk hc => by
    refine lb_358 (c_86 ?_)
    show lw (d + 3) xs len 512 362 (lL x4 (some (.int k)) o6) [.int (τ 10 0)] τ f (t + 1)
    exact lb_362 (fun _ => lb_369 hc) (fun h => absurd hk h)
  have hdr := Rm_dr (r := xs (x4 + 1).toNatClampNeg) hR
  refine lb_312 h1 h2 h3 ht ⟨rfl, x_least (d := d + 2) (fun hn => ⟨rfl, ?_⟩) (fun hm => ⟨rfl, ?_⟩)⟩
  · exact lb_334 h1 h2 h3 (c_93 (d := d + 1) (fun _ => fin 1 _ mm_up_s k1) (fun hm => absurd ⟨hdr.mpr hm.1, hm.2⟩ hn))
  · have e75 : mdr (mm_up (mm_up (mm_up σ 13 (xs (x4 + 1).toNatClampNeg).toNatClampNeg (xs (x4 + 2).toNatClampNeg)) 14 (xs (x4 + 1).toNatClampNeg).toNatClampNeg (xs (x4 + 3).toNatClampNeg)) 0 3 0) (xs (x4 + 1).toNatClampNeg) = mdr σ (xs (x4 + 1).toNatClampNeg) := by
      unfold mdr
      rw [mm_up_n (by decide), mm_up_n (by decide), mm_up_n (by decide)]
    refine lb_334 h1 h2 h3 (c_93 (d := d + 1) (fun hn => absurd ⟨?_, hm.2⟩ hn) (fun _ => fin 0 _ ?_ (k0 hm.1)))
    · rw [mm_up_eq, pk_un (by decide), mm_up_n (by decide), mm_up_n (by decide)]
      exact mm_up_s
    · rw [e75]; exact hdr.mp hm.1
