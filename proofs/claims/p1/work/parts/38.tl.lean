/-! the tails of the arms whose answers are compared -/
theorem lg_cmp_self (x : Int64) : lg_cmp x x = 0 := by
  unfold lg_cmp
  rw [if_neg (Int64.lt_irrefl (a := x)), if_pos rfl]
theorem arml_1 {d : Nat} {xs : Nat → Int32} {len t : Nat} {x4 k b : Int32} {o6 : Option Value} {σ : mm_S} {f : Nat → Int64} (hk : σ 10 0 = k) (hf : k = 0 → f 0 = b.toInt64) (hc : lw d xs len 512 847 (lL x4 (some (.int k)) (some (.int b))) [] σ f t) : lw d xs len 512 207 (lL x4 (some (.int k)) o6) [.int b] σ f t :=
  lb_207 (c_86 (lb_213 (fun _ => lb_220 (fun h0 => lb_225 (fun _ => lb_237 hc) (fun z => absurd (by rw [hf h0]; exact lg_cmp_self _) z)) (fun _ => lb_237 hc)) (fun z => absurd hk z)))
theorem arml_8 {d : Nat} {xs : Nat → Int32} {len t : Nat} {x4 k b : Int32} {o6 : Option Value} {σ : mm_S} {f : Nat → Int64} (hk : σ 10 0 = k) (hf : k = 0 → f 0 = b.toInt64) (hc : lw d xs len 512 847 (lL x4 (some (.int k)) (some (.int b))) [] σ f t) : lw d xs len 512 504 (lL x4 (some (.int k)) o6) [.int b] σ f t :=
  lb_504 (c_86 (lb_510 (fun _ => lb_517 (fun h0 => lb_522 (fun _ => lb_534 hc) (fun z => absurd (by rw [hf h0]; exact lg_cmp_self _) z)) (fun _ => lb_534 hc)) (fun z => absurd hk z)))
theorem arml_9 {d : Nat} {xs : Nat → Int32} {len t : Nat} {x4 k b : Int32} {o6 : Option Value} {σ : mm_S} {f : Nat → Int64} (hk : σ 10 0 = k) (hf : k = 0 → f 0 = b.toInt64) (hc : lw d xs len 512 847 (lL x4 (some (.int k)) (some (.int b))) [] σ f t) : lw d xs len 512 560 (lL x4 (some (.int k)) o6) [.int b] σ f t :=
  lb_560 (c_86 (lb_566 (fun _ => lb_573 (fun h0 => lb_578 (fun _ => lb_590 hc) (fun z => absurd (by rw [hf h0]; exact lg_cmp_self _) z)) (fun _ => lb_590 hc)) (fun z => absurd hk z)))
theorem arml_10 {d : Nat} {xs : Nat → Int32} {len t : Nat} {x4 k b : Int32} {o6 : Option Value} {σ : mm_S} {f : Nat → Int64} (hk : σ 10 0 = k) (hf : k = 0 → f 0 = b.toInt64) (hc : lw d xs len 512 847 (lL x4 (some (.int k)) (some (.int b))) [] σ f t) : lw d xs len 512 628 (lL x4 (some (.int k)) o6) [.int b] σ f t :=
  lb_628 (c_86 (lb_634 (fun _ => lb_641 (fun h0 => lb_646 (fun _ => lb_658 hc) (fun z => absurd (by rw [hf h0]; exact lg_cmp_self _) z)) (fun _ => lb_658 hc)) (fun z => absurd hk z)))
theorem arml_11 {d : Nat} {xs : Nat → Int32} {len t : Nat} {x4 k b : Int32} {o6 : Option Value} {σ : mm_S} {f : Nat → Int64} (hk : σ 10 0 = k) (hf : k = 0 → f 0 = b.toInt64) (hc : lw d xs len 512 847 (lL x4 (some (.int k)) (some (.int b))) [] σ f t) : lw d xs len 512 696 (lL x4 (some (.int k)) o6) [.int b] σ f t :=
  lb_696 (c_86 (lb_702 (fun _ => lb_709 (fun h0 => lb_714 (fun _ => lb_726 hc) (fun z => absurd (by rw [hf h0]; exact lg_cmp_self _) z)) (fun _ => lb_726 hc)) (fun z => absurd hk z)))
theorem arml_12 {d : Nat} {xs : Nat → Int32} {len t : Nat} {x4 k b : Int32} {o6 : Option Value} {σ : mm_S} {f : Nat → Int64} (hk : σ 10 0 = k) (hf : k = 0 → f 0 = b.toInt64) (hc : lw d xs len 512 847 (lL x4 (some (.int k)) (some (.int b))) [] σ f t) : lw d xs len 512 764 (lL x4 (some (.int k)) o6) [.int b] σ f t :=
  lb_764 (c_86 (lb_770 (fun _ => lb_777 (fun h0 => lb_782 (fun _ => lb_794 hc) (fun z => absurd (by rw [hf h0]; exact lg_cmp_self _) z)) (fun _ => lb_794 hc)) (fun z => absurd hk z)))
