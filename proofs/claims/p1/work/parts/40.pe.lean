/-! the arms at an empty sketch -/
def E0 (σ : mm_S) : Prop := (σ 1 10 = 0) ∧ (σ 1 11 = 0) ∧ (σ 1 12 = 0) ∧ (σ 0 3 = 0) ∧ (σ 3 1 = 0) ∧ (σ 9 1 = 0) ∧ (σ 2 4 = 0) ∧ (σ 2 5 = 0) ∧ (∀ j, j < 9 → σ 75 j = 0) ∧ (σ 10 6 = 0) ∧ (σ 10 12 = 0) ∧ (σ 10 13 = -1) ∧ (σ 10 15 = 0) ∧ (σ 10 16 = 0) ∧ (σ 10 34 = 0)
theorem E0.dr {σ : mm_S} (h : E0 σ) : σ 1 10 = 0 := h.1
theorem E0.rm {σ : mm_S} (h : E0 σ) : σ 1 11 = 0 := h.2.1
theorem E0.jn {σ : mm_S} (h : E0 σ) : σ 1 12 = 0 := h.2.2.1
theorem E0.pl {σ : mm_S} (h : E0 σ) : σ 0 3 = 0 := h.2.2.2.1
theorem E0.ws {σ : mm_S} (h : E0 σ) : σ 3 1 = 0 := h.2.2.2.2.1
theorem E0.wy {σ : mm_S} (h : E0 σ) : σ 9 1 = 0 := h.2.2.2.2.2.1
theorem E0.co {σ : mm_S} (h : E0 σ) : σ 2 4 = 0 := h.2.2.2.2.2.2.1
theorem E0.ci {σ : mm_S} (h : E0 σ) : σ 2 5 = 0 := h.2.2.2.2.2.2.2.1
theorem E0.mr {σ : mm_S} (h : E0 σ) : ∀ j, j < 9 → σ 75 j = 0 := h.2.2.2.2.2.2.2.2.1
theorem E0.mj {σ : mm_S} (h : E0 σ) : σ 10 6 = 0 := h.2.2.2.2.2.2.2.2.2.1
theorem E0.mp {σ : mm_S} (h : E0 σ) : σ 10 12 = 0 := h.2.2.2.2.2.2.2.2.2.2.1
theorem E0.mk {σ : mm_S} (h : E0 σ) : σ 10 13 = -1 := h.2.2.2.2.2.2.2.2.2.2.2.1
theorem E0.mo {σ : mm_S} (h : E0 σ) : σ 10 15 = 0 := h.2.2.2.2.2.2.2.2.2.2.2.2.1
theorem E0.mf {σ : mm_S} (h : E0 σ) : σ 10 16 = 0 := h.2.2.2.2.2.2.2.2.2.2.2.2.2.1
theorem E0.mw {σ : mm_S} (h : E0 σ) : σ 10 34 = 0 := h.2.2.2.2.2.2.2.2.2.2.2.2.2.2
theorem hs_0 (n : Int32) : hs 0 n = 0 := by
  unfold hs
  rw [if_neg]
  simp
theorem E0_xd {σ : mm_S} (e : E0 σ) (r : Int32) : xd σ r = 0 := by
  unfold xd
  rw [e.dr, hs_0]
  split
  · rfl
  · split <;> rfl
theorem E0_md {σ : mm_S} (e : E0 σ) (r : Int32) : mdr σ r = 0 := by
  unfold mdr
  by_cases h : mi r 0 8 = 0
  · rw [if_pos h]
  · rw [if_neg h]
    obtain ⟨j, hj, ej⟩ := vp_in_of (mi_in ((mi_01 r 0 8).resolve_left h)) (by decide)
    rw [if_pos]
    rw [ej, show (nI j).toNatClampNeg = j from pk_cl j]; exact e.mr j hj
theorem E0_rc {σ : mm_S} (h : ∀ j, j < 9 → σ 75 j = 0) : rc σ 9 = 0 := by
  simp only [rc, h 0 (by decide), h 1 (by decide), h 2 (by decide), h 3 (by decide), h 4 (by decide), h 5 (by decide), h 6 (by decide), h 7 (by decide), h 8 (by decide)]
  rfl
section PE
variable {d : Nat} {xs : Nat → Int32} {len t : Nat} {x4 : Int32} {o5 o6 : Option Value} {σ : mm_S} {f : Nat → Int64}
theorem pe_5 (fin : ∀ (o5 o6 : Option Value) (σ : mm_S) (f : Nat → Int64) (t : Nat), lw (d + 9) xs len 512 847 (lL x4 o5 o6) [] σ f t) : lw (d + 9) xs len 512 420 (lL x4 o5 o6) [] σ f t :=
  lb_420 (c_0 (lb_424 (c_95 (fun _ _ => lb_428 (fin _ _ _ _ _)))))
theorem pe_1 (e : E0 σ) (h1 : vp_in (x4 + (1 : Int32)) len) (h2 : vp_in (x4 + (2 : Int32)) len) (ht : t < 512) (fin : ∀ (o5 o6 : Option Value) (σ : mm_S) (f : Nat → Int64) (t : Nat), lw (d + 9) xs len 512 847 (lL x4 o5 o6) [] σ f t) : lw (d + 9) xs len 512 172 (lL x4 o5 o6) [] σ f t := by
  have z := E0_xd e
  have y := E0_md e
  have go : lw (d + 9) xs len 512 189 (lL x4 o5 o6) [.int 1] σ f (t + 1) := by
    refine lb_189 h1 h2 (ke_91 ?_)
    have leaf : mw (d + 9) mt_91 (fun v τ => lw (d + 9) xs len 512 207 (lL x4 (some (.int 1)) o6) (v.toList ++ []) τ f (t + 1)) 22 [some (.ref 10), some (.int (xs (x4 + 1).toNatClampNeg)), some (.int (xs (x4 + 2).toNatClampNeg))] [.ref 10] σ :=
      kb_91_22 (fun g => absurd (show (1 : Int32) ≤ 0 from g) (by decide)) (fun _ => kb_91_60 (arml_1 mm_up_s (fun q => absurd q (by decide)) (fin _ _ _ _ _)))
    refine kb_91_0 (fun _ => leaf) (fun _ => kb_91_6 (c_88 (kb_91_11 (fun _ => leaf) (fun g => absurd (y _) g))))
  refine lb_172 h1 h2 ht ⟨⟨rfl, rfl⟩, xz_1 (fun _ g => absurd (z _) g) (fun _ g => absurd (z _) g) (fun _ g => absurd (z _) g) (fun _ g => absurd (z _) g) (fun _ => Or.inl ⟨rfl, go⟩) (fun _ _ => Or.inl ⟨rfl, go⟩) (fun _ g => absurd (z _) g) (fun _ g => absurd (z _) g) (fun _ g => absurd (z _) g) (fun _ g => absurd (z _) g)⟩
theorem pe_7 (e : E0 σ) (h1 : vp_in (x4 + (1 : Int32)) len) (fin : ∀ (o5 o6 : Option Value) (σ : mm_S) (f : Nat → Int64) (t : Nat), lw (d + 9) xs len 512 847 (lL x4 o5 o6) [] σ f t) : lw (d + 9) xs len 512 444 (lL x4 o5 o6) [] σ f t := by
  have hv : f_2 σ (xs (x4 + 1).toNatClampNeg) = -1 := by
    unfold f_2 f_22
    split
    · rfl
    · rename_i g
      rw [e.ws, if_pos (Int32.not_lt.mp g)]
  refine lb_444 h1 (c_2 (fun g g' => absurd (by rw [e.ws]; exact Int32.not_lt.mp g) g') (lb_454 h1 (c_143 (fun g => absurd e.mk g) (fun g => absurd e.mk g) (fun _ => ?_) (fun g => absurd e.mk g) (fun g => absurd e.mk g) (fun g => absurd e.mk g) (fun g => absurd e.mk g))))
  exact lb_464 (fun _ => fin _ _ _ _ _) (fun g => absurd hv g)
theorem pe_8 (e : E0 σ) (h1 : vp_in (x4 + (1 : Int32)) len) (h2 : vp_in (x4 + (2 : Int32)) len) (ht : t < 512) (fin : ∀ (o5 o6 : Option Value) (σ : mm_S) (f : Nat → Int64) (t : Nat), lw (d + 9) xs len 512 847 (lL x4 o5 o6) [] σ f t) : lw (d + 9) xs len 512 469 (lL x4 o5 o6) [] σ f t := by
  have go : lw (d + 9) xs len 512 486 (lL x4 o5 o6) [.int 1] σ f (t + 1) := by
    refine lb_486 h1 h2 (c_144 (q0 := fun _ => arml_8 mm_up_s (fun q => absurd q (by decide)) (fin _ _ _ _ _)) ?_ ?_ ?_ ?_ ?_ ?_ ?_ ?_ ?_ ?_) <;> exact fun g => absurd e.mp g
  refine lb_469 h1 h2 ht ⟨⟨rfl, rfl⟩, ?_⟩
  refine xz_5 (q0 := fun _ => Or.inl ⟨rfl, ?_⟩) ?_ ?_ ?_ ?_ ?_ ?_ <;> first | exact fun g => absurd e.pl g | exact go
theorem pe_9 (e : E0 σ) (h1 : vp_in (x4 + (1 : Int32)) len) (ht : t < 512) (fin : ∀ (o5 o6 : Option Value) (σ : mm_S) (f : Nat → Int64) (t : Nat), lw (d + 9) xs len 512 847 (lL x4 o5 o6) [] σ f t) : lw (d + 9) xs len 512 537 (lL x4 o5 o6) [] σ f t := by
  have go : lw (d + 9) xs len 512 548 (lL x4 o5 o6) [.int 1] σ f (t + 1) := by
    refine lb_548 h1 (ks_145_0 (q0 := fun _ => arml_9 mm_up_s (fun q => absurd q (by decide)) (fin _ _ _ _ _)) ?_ ?_) <;> exact fun g => absurd e.mp g
  refine lb_537 h1 ht ⟨⟨rfl, rfl⟩, ?_⟩
  refine xz_6 (q0 := fun _ => Or.inl ⟨rfl, ?_⟩) ?_ ?_ ?_ ?_ ?_ <;> first | exact fun g => absurd e.pl g | exact go
theorem pe_10 (e : E0 σ) (h1 : vp_in (x4 + (1 : Int32)) len) (h2 : vp_in (x4 + (2 : Int32)) len) (ht : t < 512) (fin : ∀ (o5 o6 : Option Value) (σ : mm_S) (f : Nat → Int64) (t : Nat), lw (d + 9) xs len 512 847 (lL x4 o5 o6) [] σ f t) : lw (d + 9) xs len 512 593 (lL x4 o5 o6) [] σ f t := by
  have go : lw (d + 9) xs len 512 610 (lL x4 o5 o6) [.int 1] σ f (t + 1) := by
    refine lb_610 h1 h2 (c_146 (q0 := fun _ => arml_10 mm_up_s (fun q => absurd q (by decide)) (fin _ _ _ _ _)) ?_ ?_ ?_ ?_ ?_ ?_ ?_ ?_ ?_ ?_ ?_ ?_ ?_ ?_ ?_ ?_ ?_ ?_ ?_ ?_ ?_ ?_ ?_ ?_ ?_ ?_ ?_ ?_ ?_ ?_ ?_ ?_ ?_ ?_ ?_ ?_ ?_ ?_ ?_ ?_ ?_ ?_ ?_ ?_ ?_) <;> exact fun g => absurd e.mp g
  refine lb_593 h1 h2 ht ⟨⟨rfl, rfl⟩, ?_⟩
  refine xz_7 (q0 := fun _ => Or.inl ⟨rfl, ?_⟩) ?_ ?_ ?_ ?_ ?_ ?_ ?_ ?_ ?_ ?_ ?_ ?_ ?_ ?_ ?_ <;> first | exact fun g => absurd e.pl g | exact go
theorem pe_11 (e : E0 σ) (h1 : vp_in (x4 + (1 : Int32)) len) (h2 : vp_in (x4 + (2 : Int32)) len) (ht : t < 512) (fin : ∀ (o5 o6 : Option Value) (σ : mm_S) (f : Nat → Int64) (t : Nat), lw (d + 9) xs len 512 847 (lL x4 o5 o6) [] σ f t) : lw (d + 9) xs len 512 661 (lL x4 o5 o6) [] σ f t := by
  have go : lw (d + 9) xs len 512 678 (lL x4 o5 o6) [.int 1] σ f (t + 1) := by
    refine lb_678 h1 h2 (c_147 (q0 := fun _ => arml_11 mm_up_s (fun q => absurd q (by decide)) (fin _ _ _ _ _)) ?_ ?_ ?_ ?_ ?_ ?_ ?_ ?_ ?_ ?_) <;> exact fun g => absurd e.mp g
  refine lb_661 h1 h2 ht ⟨⟨rfl, rfl⟩, ?_⟩
  refine xz_8 (q0 := fun _ => Or.inl ⟨rfl, ?_⟩) ?_ ?_ ?_ ?_ ?_ ?_ ?_ ?_ ?_ <;> first | exact fun g => absurd e.pl g | exact go
theorem pe_12 (e : E0 σ) (h1 : vp_in (x4 + (1 : Int32)) len) (h2 : vp_in (x4 + (2 : Int32)) len) (ht : t < 512) (fin : ∀ (o5 o6 : Option Value) (σ : mm_S) (f : Nat → Int64) (t : Nat), lw (d + 9) xs len 512 847 (lL x4 o5 o6) [] σ f t) : lw (d + 9) xs len 512 729 (lL x4 o5 o6) [] σ f t := by
  have z := E0_xd e
  have y := E0_md e
  have go : lw (d + 9) xs len 512 746 (lL x4 o5 o6) [.int 1] σ f (t + 1) := by
    refine lb_746 h1 h2 (ke_148 (kb_148_0 (c_88 (kb_148_6 (fun _ => kb_148_21 (fun g => absurd (show (1 : Int32) ≤ 0 from g) (by decide)) (fun _ => kb_148_32 ?_)) (fun g => absurd (y _) g)))))
    exact arml_12 mm_up_s (fun q => absurd q (by decide)) (fin _ _ _ _ _)
  exact lb_729 h1 h2 ht ⟨⟨rfl, rfl⟩, rfl, xr_9_0 (c_7 (xr_9_8 (fun _ => xr_9_22 ⟨rfl, go⟩) (fun g => absurd (z _) g)))⟩
theorem pe_13 (e : E0 σ) (h1 : vp_in (x4 + (1 : Int32)) len) (fin : ∀ (o5 o6 : Option Value) (σ : mm_S) (f : Nat → Int64) (t : Nat), lw (d + 9) xs len 512 847 (lL x4 o5 o6) [] σ f t) : lw (d + 9) xs len 512 797 (lL x4 o5 o6) [] σ f t := by
  have hv : f_3 σ (xs (x4 + 1).toNatClampNeg) = -1 := by
    unfold f_3 f_85
    split
    · rfl
    · rename_i g
      rw [e.wy, if_pos (Int32.not_lt.mp g)]
  have hm : mi (xs (x4 + 1).toNatClampNeg) 0 (σ 10 34 - 1) = 0 := by
    unfold mi
    rw [e.mw]
    split
    · rfl
    · rename_i g
      rw [if_pos]
      have h := Int32.not_lt.mp g
      rw [Int32.le_iff_toInt_le] at h
      rw [Int32.lt_iff_toInt_lt]
      have a : ((0 : Int32) - 1).toInt = -1 := by decide
      have b : (0 : Int32).toInt = 0 := by decide
      omega
  refine lb_797 h1 (c_3 (fun g g' => absurd (by rw [e.wy]; exact Int32.not_lt.mp g) g') (lb_807 h1 (c_149 (fun g => absurd hm g) (fun _ => ?_) (fun g => absurd hm g))))
  exact lb_817 (fun _ => fin _ _ _ _ _) (fun g => absurd hv g)
theorem pe_14 (e : E0 σ) (h1 : vp_in (x4 + (1 : Int32)) len) (fin : ∀ (o5 o6 : Option Value) (σ : mm_S) (f : Nat → Int64) (t : Nat), lw (d + 9) xs len 512 847 (lL x4 o5 o6) [] σ f t) : lw (d + 9) xs len 512 822 (lL x4 o5 o6) [] σ f t := by
  have fq : ∀ (τ : mm_S) (v w : Int32), v = w → lw (d + 9) xs len 512 842 (lL x4 o5 o6) [.int w, .int v] τ f t := fun τ v w h => lb_842 (fun _ => fin _ _ _ _ _) (fun g => absurd h g)
  have hr : nI (rc (mm_up σ 10 0 (0 : Int32)) 9) = 0 := by
    rw [E0_rc (fun j hj => by rw [mm_up_n (by decide)]; exact e.mr j hj)]
    rfl
  refine lb_822 h1 (c_155 (fun g => lb_832 h1 ?_) (fun g => lb_832 h1 ?_) (fun g => lb_832 h1 ?_) (fun g => lb_832 h1 ?_) (fun g => lb_832 h1 ?_) (fun g0 g1 g2 g3 g4 => lb_832 h1 ?_))
  · refine c_150 (fun _ => fq _ _ _ ?_) (fun h => absurd g h) (fun h => absurd g h) (fun h => absurd g h) (fun h => absurd g h) (fun h => absurd g h) (fun h => absurd g h)
    rw [hr]; exact e.rm
  · refine c_150 (fun h => absurd (g.symm.trans h) (by decide)) (fun _ _ => fq _ _ _ ?_) (fun _ h => absurd g h) (fun _ h => absurd g h) (fun _ h => absurd g h) (fun _ h => absurd g h) (fun _ h => absurd g h)
    rw [e.jn, e.mj]
  · refine c_150 (fun h => absurd (g.symm.trans h) (by decide)) (fun _ h => absurd (g.symm.trans h) (by decide)) (fun _ _ _ => fq _ _ _ ?_) (fun _ _ h => absurd g h) (fun _ _ h => absurd g h) (fun _ _ h => absurd g h) (fun _ _ h => absurd g h)
    rw [e.co, e.mo]
  · refine c_150 (fun h => absurd (g.symm.trans h) (by decide)) (fun _ h => absurd (g.symm.trans h) (by decide)) (fun _ _ h => absurd (g.symm.trans h) (by decide)) (fun _ _ _ _ => fq _ _ _ ?_) (fun _ _ _ h => absurd g h) (fun _ _ _ h => absurd g h) (fun _ _ _ h => absurd g h)
    rw [e.ci, e.mf]
  · refine c_150 (fun h => absurd (g.symm.trans h) (by decide)) (fun _ h => absurd (g.symm.trans h) (by decide)) (fun _ _ h => absurd (g.symm.trans h) (by decide)) (fun _ _ _ h => absurd (g.symm.trans h) (by decide)) (fun _ _ _ _ _ _ => fq _ _ _ ?_) (fun _ _ _ _ _ h => absurd e.mp h) (fun _ _ _ _ h => absurd g h)
    rw [e.pl, if_pos rfl]
  · exact c_150 (fun h => absurd h g0) (fun _ h => absurd h g1) (fun _ _ h => absurd h g2) (fun _ _ _ h => absurd h g3) (fun _ _ _ _ h => absurd h g4) (fun _ _ _ _ h => absurd h g4) (fun _ _ _ _ _ => fq _ _ _ rfl)
/-- sortAround where there is no join -/
theorem c_104e {Q : mm_Q} {σ : mm_S} (e6 : σ 10 6 = 0) (q : ∀ τ : mm_S, (∀ k, k ≠ 87 → τ k = σ k) → Q none τ) : mD (d + 1) 104 [.ref 10] σ Q := by
  refine ke_104 (kb_104_0 ?_)
  refine lp_dn (P := fun i => ∀ τ : mm_S, (∀ k, k ≠ 87 → τ k = σ k) → ∀ o2 o3, mw d mt_104 Q 2 [some (.ref 10), some (.int (nI i)), o2, o3] [] τ) 9 ?_ ?_ 0 (by omega) σ (fun _ _ => rfl) none none
  · intro τ h o2 o3
    exact kb_104_2 (fun _ => kb_104_154 (q τ h)) (fun g => absurd (by decide) g)
  · intro i hi ih τ h o2 o3
    refine kb_104_2 (fun g => absurd g (hI_nle (a := 9) (by omega) hi)) (fun _ => kb_104_8 (pk_in i 9 hi) (kb_104_17 (fun _ => kb_104_148 ?_) (fun g => absurd ?_ g)))
    · rw [nI_1]
      exact ih _ (fun k hk => by rw [mm_up_n hk]; exact h k hk) _ _
    · rw [mm_up_n (by decide), h 10 (by decide), e6]; decide
theorem pe_6 (e : E0 σ) (fin : ∀ (o5 o6 : Option Value) (σ : mm_S) (f : Nat → Int64) (t : Nat), lw (d + 9) xs len 512 847 (lL x4 o5 o6) [] σ f t) : lw (d + 9) xs len 512 431 (lL x4 o5 o6) [] σ f t := by
  have J : Jr (mm_up (mm_up (mm_up σ 3 1 0) 2 4 0) 2 5 0) 0 := ⟨by decide, by rw [mm_up_n (by decide), mm_up_n (by decide), mm_up_n (by decide)]; exact e.jn, fun k hk => absurd hk (Nat.not_lt_zero k)⟩
  refine lb_431 (ke_1 (kb_1_0 (ke_18 (kb_18_0 (c_19 (kb_18_7 (c_23 J (fun a b h => ?_) (fun _ _ => ?_))))))))
  · rcases h with h | h
    · exact absurd h.2.1 (Nat.not_lt_zero b)
    · exact absurd h.2.1 (Nat.not_lt_zero a)
  · refine kb_18_28 (fun _ => kb_18_33 (fun _ => kb_18_64 (kb_1_7 (fun g => absurd g (by decide)) (fun _ => kb_1_18 (lb_435 ?_)))) (fun g => absurd ?_ g)) (fun g => absurd rfl g)
    · refine ke_142 (kb_142_0 (c_99 (n := 0) ⟨by decide, ?_, fun k hk => absurd hk (Nat.not_lt_zero k)⟩ (fun a b h => ?_) (fun _ _ => ?_)))
      · rw [mm_up_o (by decide), mm_up_o (by decide), mm_up_o (by decide), mm_up_o (by decide), mm_up_n (by decide), mm_up_n (by decide), mm_up_n (by decide), mm_up_n (by decide)]; exact e.mj
      · rcases h with h | h
        · exact absurd h.2.1 (Nat.not_lt_zero b)
        · exact absurd h.2.1 (Nat.not_lt_zero a)
      · refine kb_142_24 (fun _ => kb_142_33 (c_104e ?_ (fun τ hτ => kb_142_37 (c_108 (kb_142_41 (fun _ => kb_142_59 ?_) (fun g => absurd ?_ g)))))) (fun g => absurd rfl g)
        · rw [mm_up_o (by decide), mm_up_o (by decide), mm_up_o (by decide), mm_up_o (by decide), mm_up_n (by decide), mm_up_n (by decide), mm_up_n (by decide), mm_up_n (by decide)]; exact e.mj
        · refine c_141 (fun g => absurd g (by decide)) (fun _ => kb_142_64 (lb_439 (fun _ => fin _ _ _ _ _) (fun g => absurd rfl g)))
        · rw [E0_rc (fun j hj => ?_)]
          · decide
          · rw [hτ 75 (by decide), mm_up_n (by decide), mm_up_n (by decide), mm_up_n (by decide), mm_up_n (by decide), mm_up_n (by decide), mm_up_n (by decide), mm_up_n (by decide), mm_up_n (by decide)]; exact e.mr j hj
    · rw [mm_up_n (by decide), mm_up_n (by decide), mm_up_n (by decide), e.rm]; decide
end PE
