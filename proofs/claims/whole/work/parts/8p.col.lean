-- the colours of the faces
def b0v : V2 := (-1, 64)
theorem b0_r {σ : mm_S} {v j : Nat} : gcr b0v (vc σ v j) < 0 ↔ xs σ v < xs σ j := by
  have : gcr b0v (vc σ v j) = - (64 * (pX σ j - pX σ v) + (pY σ j - pY σ v)) := by unfold gcr b0v vc; grind
  rw [this]; unfold xs; omega
theorem b0_p : 0 < gdt b0v b0v := by decide
theorem b0_n {σ : mm_S} {n m v j : Nat} (W : PW σ n m) (hv : rmx m v) (hj : rmx m j) (ne : v ≠ j) : ¬ gsd b0v (vc σ v j) := fun h => by
  have h0 := h.1
  have : gcr b0v (vc σ v j) = - (64 * (pX σ j - pX σ v) + (pY σ j - pY σ v)) := by unfold gcr b0v vc; grind
  rw [this] at h0
  exact ne (W.xi hv hj (by unfold xs; omega))
/-- a closed line: a set of joins, an even number at each room -/
def CE (σ : mm_S) (m : Nat) (C : Nat → Nat → Prop) : Prop := (∀ a b, C a b → C b a) ∧ (∀ a b, C a b → rmx m a ∧ aj σ a b) ∧ ∀ z, z < 9 → xf (fun j => bo (C z j)) 9 = false
noncomputable def Qc (σ : mm_S) (C : Nat → Nat → Prop) (v : Nat) : Bool := xf (fun a => xf (fun b => bo (C a b ∧ xs σ a < xs σ v ∧ xs σ v < xs σ b ∧ orn (xs σ) (pY σ) a b v < 0)) 9) 9
noncomputable def Tc (σ : mm_S) (C : Nat → Nat → Prop) (v w : Nat) : Bool := xf (fun j => bo (C v j ∧ gso b0v (vc σ v j) (vc σ v w))) 9
noncomputable def kap (σ : mm_S) (C : Nat → Nat → Prop) (x : Nat × Nat) : Bool := xor (Qc σ C x.1) (Tc σ C x.1 x.2)
theorem gso_b0 {σ : mm_S} {v j w : Nat} : gso b0v (vc σ v j) (vc σ v w) ↔ (xs σ v < xs σ j ∧ ¬ xs σ v < xs σ w) ∨ ((xs σ v < xs σ j ↔ xs σ v < xs σ w) ∧ 0 < orn (xs σ) (pY σ) v w j) := by
  have e : gcr (vc σ v j) (vc σ v w) < 0 ↔ 0 < orn (xs σ) (pY σ) v w j := by
    rw [xs_orn, gcr_anti (vc σ v w) (vc σ v j)]; omega
  unfold gso
  rw [b0_r, b0_r, e]
/-- over a corner -/
theorem kap_nx {σ : mm_S} {n m v w w' : Nat} {C : Nat → Nat → Prop} (W : PW σ n m) (H : CE σ m C) (hv : rmx m v) (h : nxt (aj σ v) (vc σ v) w w') : Tc σ C v w' = xor (Tc σ C v w) (bo (C v w)) := by
  obtain ⟨aw, aw', h⟩ := h
  have G := W.1.gdd W.2.1 hv.1 hv.2
  have B : ∀ j, aj σ v j → ¬ gsd b0v (vc σ v j) := fun j hj => b0_n W hv (W.ed hv hj).1 (W.ed hv hj).2.1
  have tot : ∀ i j, aj σ v i → aj σ v j → i ≠ j → gso b0v (vc σ v i) (vc σ v j) ∨ gso b0v (vc σ v j) (vc σ v i) := fun i j hi hj ne => gtot b0_p (G.1 i hi) (G.1 j hj) (B i hi) (B j hj) (G.2 i j hi hj ne)
  have tr : ∀ i j k, aj σ v i → aj σ v j → aj σ v k → i ≠ k → gso b0v (vc σ v i) (vc σ v j) → gso b0v (vc σ v j) (vc σ v k) → gso b0v (vc σ v i) (vc σ v k) := fun i j k hi hj hk ne a b => gtrans b0_p (G.1 i hi) (G.1 k hk) (B i hi) (B j hj) (B k hk) (G.2 i k hi hk ne) a b
  have g3 : ∀ i j k, aj σ v i → aj σ v j → aj σ v k → i ≠ j → i ≠ k → j ≠ k → gso b0v (vc σ v i) (vc σ v j) → gso b0v (vc σ v j) (vc σ v k) → gso (vc σ v i) (vc σ v j) (vc σ v k) ∧ gso (vc σ v j) (vc σ v k) (vc σ v i) ∧ gso (vc σ v k) (vc σ v i) (vc σ v j) := fun i j k hi hj hk n1 n2 n3 a b =>
    gah_3 b0_p (G.1 i hi) (G.1 j hj) (G.1 k hk) (G.2 i j hi hj n1) (G.2 i k hi hk n2) (G.2 j k hj hk n3) (Or.inr ⟨B i hi, B j hj, a⟩) (Or.inr ⟨B j hj, B k hk, b⟩)
  have ca : ∀ j, C v j → aj σ v j := fun j hj => (H.2.1 v j hj).2
  have irr : ∀ j, ¬ gso b0v (vc σ v j) (vc σ v j) := fun j hj => gso_asym hj hj
  have w9 := aw.1
  -- one room alone
  have single : ∀ f : Nat → Bool, (∀ j, j < 9 → f j = xor (bo (C v j ∧ gso b0v (vc σ v j) (vc σ v w))) (bo (j = w ∧ C v w))) → xf f 9 = xor (Tc σ C v w) (bo (C v w)) := fun f hf => by
    rw [xf_cg 9 hf, xf_x]
    show xor (Tc σ C v w) _ = _
    congr 1
    rw [xf_1 (i := w) 9 w9 (fun j _ ne => bo_f.mpr (fun z => ne z.1))]
    exact bo_cg ⟨fun z => z.2, fun z => ⟨rfl, z⟩⟩
  rcases h with ⟨e, all⟩ | ⟨ne, hn⟩
  · subst e
    have nC : ¬ C v w' := fun hC => by
      have := H.2.2 v hv.1
      rw [xf_1 (i := w') 9 aw'.1 (fun j _ nj => bo_f.mpr (fun z => nj (all j (ca j z)))), bo_t.mpr hC] at this
      exact absurd this (by decide)
    rw [bo_f.mpr nC]
    cases Tc σ C v w' <;> rfl
  · rcases tot w w' aw aw' (fun z => ne z.symm) with k | k
    · -- w before w'
      refine single _ (fun j _ => ?_)
      by_cases hC : C v j
      · have aj' := ca j hC
        by_cases ejw : j = w
        · subst ejw
          rw [bo_t.mpr ⟨hC, k⟩, bo_f.mpr (fun z => irr j z.2), bo_t.mpr ⟨rfl, hC⟩]; rfl
        · rw [bo_f.mpr (fun z => ejw z.1 : ¬ (j = w ∧ C v w))]
          have q : (C v j ∧ gso b0v (vc σ v j) (vc σ v w')) ↔ (C v j ∧ gso b0v (vc σ v j) (vc σ v w)) := by
            constructor
            · rintro ⟨_, z⟩
              refine ⟨hC, ?_⟩
              rcases tot j w aj' aw ejw with y | y
              · exact y
              · exfalso
                have jw' : j ≠ w' := fun q => by subst q; exact irr j z
                exact gso_asym (g3 w j w' aw aj' aw' (fun q => ejw q.symm) (fun q => ne q.symm) jw' y z).1 (hn j aj' ejw jw')
            · rintro ⟨_, z⟩
              refine ⟨hC, tr j w w' aj' aw aw' (fun q => ?_) z k⟩
              subst q
              exact gso_asym z k
          rw [bo_cg q]
          cases bo (C v j ∧ gso b0v (vc σ v j) (vc σ v w)) <;> rfl
      · rw [bo_f.mpr (fun z => hC z.1), bo_f.mpr (fun z => hC z.1), bo_f.mpr (fun z => hC (by rw [z.1]; exact z.2))]; rfl
    · -- w is the last, w' the first
      have first : ∀ j, aj σ v j → ¬ gso b0v (vc σ v j) (vc σ v w') := fun j hj z => by
        have jw' : j ≠ w' := fun q => by subst q; exact irr j z
        have jw : j ≠ w := fun q => by subst q; exact gso_asym z k
        exact gso_asym (g3 j w' w hj aw' aw jw' jw ne z k).2.2 (hn j hj jw jw')
      have last : ∀ j, aj σ v j → j ≠ w → gso b0v (vc σ v j) (vc σ v w) := fun j hj jw => by
        rcases tot j w hj aw jw with y | y
        · exact y
        · exfalso
          have jw' : j ≠ w' := fun q => by subst q; exact gso_asym y k
          exact gso_asym (g3 w' w j aw' aw hj ne (fun q => jw' q.symm) (fun q => jw q.symm) k y).2.1 (hn j hj jw jw')
      have t0 : Tc σ C v w' = false := xf_0 9 (fun j _ => bo_f.mpr (fun z => first j (ca j z.1) z.2))
      rw [t0, ← H.2.2 v hv.1]
      refine single _ (fun j _ => ?_)
      by_cases hC : C v j
      · by_cases ejw : j = w
        · subst ejw
          rw [bo_t.mpr hC, bo_f.mpr (fun z => irr j z.2), bo_t.mpr ⟨rfl, hC⟩]; rfl
        · rw [bo_t.mpr hC, bo_t.mpr ⟨hC, last j (ca j hC) ejw⟩, bo_f.mpr (fun z => ejw z.1)]; rfl
      · rw [bo_f.mpr hC, bo_f.mpr (fun z => hC z.1), bo_f.mpr (fun z => hC (by rw [z.1]; exact z.2))]; rfl
/-- from one side of a join to the other -/
theorem kap_r {σ : mm_S} {n m v w : Nat} {C : Nat → Nat → Prop} (W : PW σ n m) (H : CE σ m C) (hv : rmx m v) (hvw : aj σ v w) (lt : xs σ v < xs σ w) : kap σ C (w, v) = xor (kap σ C (v, w)) (bo (C v w)) := by
  obtain ⟨hw, vw, hwv, _⟩ := W.ed hv hvw
  have G := W.1.gdd W.2.1 hw.1 hw.2
  have rc : ∀ a b, C a b → rmx m a ∧ rmx m b ∧ aj σ a b ∧ a ≠ b := fun a b h => by
    obtain ⟨h1, h2⟩ := H.2.1 a b h
    obtain ⟨h3, h4, _⟩ := W.ed h1 h2
    exact ⟨h1, h3, h2, h4⟩
  have xne : ∀ a b, rmx m a → rmx m b → a ≠ b → xs σ a ≠ xs σ b := fun a b ha hb ne e => ne (W.xi ha hb e)
  have S := sweep (X := xs σ) (Y := pY σ) (C := C) lt H.1 (fun a b h => xne a b (rc a b h).1 (rc a b h).2.1 (rc a b h).2.2.2) (fun a b h => ⟨by
      by_cases e : a = v
      · exact Or.inl e
      · exact Or.inr (xne a v (rc a b h).1 hv e), by
      by_cases e : a = w
      · exact Or.inl e
      · exact Or.inr (xne a w (rc a b h).1 hw e)⟩) H.2.2 (fun a b h h1 h2 => W.on (rc a b h).1 (rc a b h).2.2.1 hv h1 h2) (fun a b h h1 h2 => W.on (rc a b h).1 (rc a b h).2.2.1 hw h1 h2) (fun a b h h1 h2 => W.on hv hvw (rc a b h).1 h1 h2) (fun a b h _ => W.nc (rc a b h).1 (rc a b h).2.2.1 hv hvw)
  -- the left end
  have eL : uL (xs σ) (pY σ) C v w = kap σ C (v, w) := by
    unfold uL kap
    have q : ∀ a b, a < 9 → b < 9 → bo (C a b ∧ xs σ a < xs σ b ∧ xs σ a < xs σ w ∧ xs σ v < xs σ b ∧ ¬ (a = v ∧ b = w) ∧ LCx (xs σ) (pY σ) v w a b ∧ ¬ xs σ v < xs σ a) = xor (bo (C a b ∧ xs σ a < xs σ v ∧ xs σ v < xs σ b ∧ orn (xs σ) (pY σ) a b v < 0)) (bo (a = v) && bo (C v b ∧ gso b0v (vc σ v b) (vc σ v w))) := fun a b _ _ => by
      rw [← bo_and]
      by_cases e : a = v
      · subst e
        rw [bo_f.mpr (fun z => by have := z.2.1; omega : ¬ (C a b ∧ xs σ a < xs σ a ∧ xs σ a < xs σ b ∧ orn (xs σ) (pY σ) a b a < 0))]
        have : (C a b ∧ xs σ a < xs σ b ∧ xs σ a < xs σ w ∧ xs σ a < xs σ b ∧ ¬ (a = a ∧ b = w) ∧ LCx (xs σ) (pY σ) a w a b ∧ ¬ xs σ a < xs σ a) ↔ (a = a ∧ C a b ∧ gso b0v (vc σ a b) (vc σ a w)) := by
          rw [gso_b0]
          constructor
          · rintro ⟨h1, h2, _, _, _, h6, _⟩
            refine ⟨rfl, h1, Or.inr ⟨⟨fun _ => lt, fun _ => h2⟩, ?_⟩⟩
            rcases h6 with h | h | h
            · omega
            · exact h.2
            · omega
          · rintro ⟨_, h1, h⟩
            rcases h with h | ⟨h2, h3⟩
            · exact absurd lt h.2
            · refine ⟨h1, h2.mpr lt, lt, h2.mpr lt, fun z => ?_, Or.inr (Or.inl ⟨rfl, h3⟩), by omega⟩
              rw [z.2, orn_z] at h3
              omega
        rw [bo_cg this]
        cases bo (a = a ∧ C a b ∧ gso b0v (vc σ a b) (vc σ a w)) <;> rfl
      · rw [bo_f.mpr (fun z => e z.1 : ¬ (a = v ∧ C v b ∧ gso b0v (vc σ v b) (vc σ v w)))]
        have : (C a b ∧ xs σ a < xs σ b ∧ xs σ a < xs σ w ∧ xs σ v < xs σ b ∧ ¬ (a = v ∧ b = w) ∧ LCx (xs σ) (pY σ) v w a b ∧ ¬ xs σ v < xs σ a) ↔ (C a b ∧ xs σ a < xs σ v ∧ xs σ v < xs σ b ∧ orn (xs σ) (pY σ) a b v < 0) := by
          constructor
          · rintro ⟨h1, h2, _, h4, _, h6, h7⟩
            have := xne a v (rc a b h1).1 hv e
            refine ⟨h1, by omega, h4, ?_⟩
            rcases h6 with h | h | h
            · exact h.2
            · exact absurd h.1 e
            · exact absurd h.1 h7
          · rintro ⟨h1, h2, h3, h4⟩
            exact ⟨h1, by omega, by omega, h3, fun z => e z.1, Or.inl ⟨h2, h4⟩, by omega⟩
        rw [bo_cg this]
        cases bo (C a b ∧ xs σ a < xs σ v ∧ xs σ v < xs σ b ∧ orn (xs σ) (pY σ) a b v < 0) <;> rfl
    rw [xf2_cg q, xf2_x]
    show xor (Qc σ C v) _ = xor (Qc σ C v) (Tc σ C v w)
    congr 1
    rw [xf_cg 9 (fun a _ => xf_and 9), xf_1 (i := v) 9 hv.1 (fun a _ ne => by rw [bo_f.mpr ne]; rfl), bo_t.mpr rfl]
    rfl
  -- the right end
  have eR : uR (xs σ) (pY σ) C v w = xor (Qc σ C w) (xf (fun a => bo (C w a ∧ xs σ a < xs σ w ∧ 0 < orn (xs σ) (pY σ) v w a)) 9) := by
    unfold uR
    have q : ∀ a b, a < 9 → b < 9 → bo (C a b ∧ xs σ a < xs σ b ∧ xs σ a < xs σ w ∧ xs σ v < xs σ b ∧ ¬ (a = v ∧ b = w) ∧ RCx (xs σ) (pY σ) v w a b ∧ ¬ xs σ b < xs σ w) = xor (bo (C a b ∧ xs σ a < xs σ w ∧ xs σ w < xs σ b ∧ orn (xs σ) (pY σ) a b w < 0)) (bo (b = w) && bo (C w a ∧ xs σ a < xs σ w ∧ 0 < orn (xs σ) (pY σ) v w a)) := fun a b _ _ => by
      rw [← bo_and]
      by_cases e : b = w
      · subst e
        rw [bo_f.mpr (fun z => by have := z.2.2.1; omega : ¬ (C a b ∧ xs σ a < xs σ b ∧ xs σ b < xs σ b ∧ orn (xs σ) (pY σ) a b b < 0))]
        have : (C a b ∧ xs σ a < xs σ b ∧ xs σ a < xs σ b ∧ xs σ v < xs σ b ∧ ¬ (a = v ∧ b = b) ∧ RCx (xs σ) (pY σ) v b a b ∧ ¬ xs σ b < xs σ b) ↔ (b = b ∧ C b a ∧ xs σ a < xs σ b ∧ 0 < orn (xs σ) (pY σ) v b a) := by
          constructor
          · rintro ⟨h1, h2, _, _, _, h6, _⟩
            refine ⟨rfl, H.1 a b h1, h2, ?_⟩
            rcases h6 with h | h | h
            · omega
            · exact h.2
            · omega
          · rintro ⟨_, h1, h2, h3⟩
            refine ⟨H.1 b a h1, h2, h2, lt, fun z => ?_, Or.inr (Or.inl ⟨rfl, h3⟩), by omega⟩
            rw [z.1, orn_y] at h3
            omega
        rw [bo_cg this]
        cases bo (b = b ∧ C b a ∧ xs σ a < xs σ b ∧ 0 < orn (xs σ) (pY σ) v b a) <;> rfl
      · rw [bo_f.mpr (fun z => e z.1 : ¬ (b = w ∧ C w a ∧ xs σ a < xs σ w ∧ 0 < orn (xs σ) (pY σ) v w a))]
        have : (C a b ∧ xs σ a < xs σ b ∧ xs σ a < xs σ w ∧ xs σ v < xs σ b ∧ ¬ (a = v ∧ b = w) ∧ RCx (xs σ) (pY σ) v w a b ∧ ¬ xs σ b < xs σ w) ↔ (C a b ∧ xs σ a < xs σ w ∧ xs σ w < xs σ b ∧ orn (xs σ) (pY σ) a b w < 0) := by
          constructor
          · rintro ⟨h1, h2, h3, h4, _, h6, h7⟩
            have := xne b w (rc a b h1).2.1 hw e
            refine ⟨h1, h3, by omega, ?_⟩
            rcases h6 with h | h | h
            · exact h.2
            · exact absurd h.1 e
            · exact absurd h.1 h7
          · rintro ⟨h1, h2, h3, h4⟩
            exact ⟨h1, by omega, h2, by omega, fun z => e z.2, Or.inl ⟨h3, h4⟩, by omega⟩
        rw [bo_cg this]
        cases bo (C a b ∧ xs σ a < xs σ w ∧ xs σ w < xs σ b ∧ orn (xs σ) (pY σ) a b w < 0) <;> rfl
    rw [xf2_cg q, xf2_x]
    congr 1
    rw [xf_sw, xf_cg 9 (fun b _ => xf_and 9), xf_1 (i := w) 9 hw.1 (fun b _ ne => by rw [bo_f.mpr ne]; rfl), bo_t.mpr rfl]
    rfl
  -- what comes before v at w
  have eT : xor (Tc σ C w v) (xf (fun a => bo (C w a ∧ xs σ a < xs σ w ∧ 0 < orn (xs σ) (pY σ) v w a)) 9) = bo (C v w) := by
    have wv : bo (C v w) = xf (fun j => bo (j = v ∧ C w v)) 9 := by
      rw [xf_1 (i := v) 9 hv.1 (fun j _ ne => bo_f.mpr (fun z => ne z.1))]
      exact bo_cg ⟨fun z => ⟨rfl, H.1 v w z⟩, fun z => H.1 w v z.2⟩
    apply xor_f
    rw [wv]
    unfold Tc
    rw [← xf_x, ← xf_x, ← H.2.2 w hw.1]
    refine xf_cg 9 (fun j _ => ?_)
    by_cases hC : C w j
    · obtain ⟨_, hj, awj, wj⟩ := rc w j hC
      rw [bo_t.mpr hC]
      by_cases ej : j = v
      · subst ej
        have x1 : ¬ gso b0v (vc σ w j) (vc σ w j) := fun z => gso_asym z z
        rw [bo_f.mpr (fun z => x1 z.2), bo_f.mpr (fun z => by have := z.2.2; rw [orn_y] at this; omega), bo_t.mpr ⟨rfl, hC⟩]; rfl
      · rw [bo_f.mpr (fun z => ej z.1 : ¬ (j = v ∧ C w v))]
        have e0 : orn (xs σ) (pY σ) v w j = orn (xs σ) (pY σ) w j v := orn_c
        have e1 : orn (xs σ) (pY σ) w v j = - orn (xs σ) (pY σ) w j v := orn_s
        have nv : ¬ xs σ w < xs σ v := by omega
        rcases Int.lt_or_gt_of_ne (xne w j hw hj wj) with k | k
        · rw [bo_t.mpr ⟨hC, gso_b0.mpr (Or.inl ⟨k, nv⟩)⟩, bo_f.mpr (fun z => by have := z.2.1; omega)]; rfl
        · -- both to the left
          have nz : orn (xs σ) (pY σ) w j v ≠ 0 := fun z => by
            rw [xs_orn] at z
            have z0 : gcr (vc σ w j) (vc σ w v) = 0 := by omega
            have z1 := gcr_anti (vc σ w v) (vc σ w j)
            have r1 := b0_r (σ := σ) (v := w) (j := j)
            have r2 := b0_r (σ := σ) (v := w) (j := v)
            have t := gtot b0_p (G.1 j awj) (G.1 v hwv) (b0_n W hw hj wj) (b0_n W hw hv (fun q => vw q.symm)) (G.2 j v awj hwv ej)
            unfold gso at t
            rcases t with (⟨p, _⟩ | ⟨_, p⟩) | (⟨p, _⟩ | ⟨_, p⟩)
            · have := r1.mp p; omega
            · omega
            · have := r2.mp p; omega
            · omega
          by_cases s : 0 < orn (xs σ) (pY σ) w j v
          · rw [bo_f.mpr (fun z => by
              rcases gso_b0.mp z.2 with h | h
              · omega
              · omega), bo_t.mpr ⟨hC, k, by omega⟩]; rfl
          · rw [bo_t.mpr ⟨hC, gso_b0.mpr (Or.inr ⟨⟨fun h => by omega, fun h => by omega⟩, by omega⟩)⟩, bo_f.mpr (fun z => by have := z.2.2; omega)]; rfl
    · rw [bo_f.mpr (fun z => hC z.1), bo_f.mpr (fun z => hC z.1), bo_f.mpr (fun z => hC (by rw [z.1]; exact z.2)), bo_f.mpr hC]; rfl
  have fin : kap σ C (w, v) = xor (Qc σ C w) (Tc σ C w v) := rfl
  rw [fin, ← eL, S, eR, ← eT]
  cases Qc σ C w <;> cases Tc σ C w v <;> cases xf (fun a => bo (C w a ∧ xs σ a < xs σ w ∧ 0 < orn (xs σ) (pY σ) v w a)) 9 <;> rfl
theorem kap_op {σ : mm_S} {n m v w : Nat} {C : Nat → Nat → Prop} (W : PW σ n m) (H : CE σ m C) (hv : rmx m v) (hvw : aj σ v w) : kap σ C (w, v) = xor (kap σ C (v, w)) (bo (C v w)) := by
  obtain ⟨hw, vw, hwv, _⟩ := W.ed hv hvw
  rcases Int.lt_or_gt_of_ne (fun e => vw (W.xi hv hw e)) with k | k
  · exact kap_r W H hv hvw k
  · have := kap_r W H hw hwv k
    rw [this, bo_cg (show C w v ↔ C v w from ⟨H.1 w v, H.1 v w⟩)]
    cases kap σ C (w, v) <;> cases bo (C v w) <;> rfl
/-- a face has one colour -/
theorem kap_ph {σ : mm_S} {n m : Nat} {C : Nat → Nat → Prop} {B : Nat → Nat → Nat} (W : PW σ n m) (H : CE σ m C) (hB : BN σ m B) {x : Nat × Nat} (hx : Dt σ m x) : kap σ C (ph B x) = kap σ C x := by
  obtain ⟨i, j⟩ := x
  have hi : rmx m i := ⟨hx.1, hx.2.1⟩
  obtain ⟨hj, ne, hji, _⟩ := W.ed hi hx.2.2
  have hn := hB j i hj.1 hj.2 hji
  have e1 := kap_nx W H hj hn
  have e2 := kap_op W H hi hx.2.2
  show xor (Qc σ C j) (Tc σ C j (B j i)) = kap σ C (i, j)
  have e3 : xor (Qc σ C j) (Tc σ C j i) = xor (kap σ C (i, j)) (bo (C i j)) := e2
  rw [e1, bo_cg (show C j i ↔ C i j from ⟨H.1 j i, H.1 i j⟩)]
  cases hq : Qc σ C j <;> cases ht : Tc σ C j i <;> cases hk : kap σ C (i, j) <;> cases hb : bo (C i j) <;> rw [hq, ht, hk, hb] at e3 <;> first | rfl | exact absurd e3 (by decide)
theorem kap_it {σ : mm_S} {n m : Nat} {C : Nat → Nat → Prop} {B : Nat → Nat → Nat} (W : PW σ n m) (H : CE σ m C) (hB : BN σ m B) {x : Nat × Nat} (hx : Dt σ m x) : ∀ k, kap σ C (it (ph B) x k) = kap σ C x
  | 0 => rfl
  | k + 1 => by
    show kap σ C (ph B (it (ph B) x k)) = _
    rw [kap_ph W H hB (it_D (D := Dt σ m) (fun x h => pn_D W.1 hB x h) hx k)]
    exact kap_it W H hB hx k
/-- outside it is all one -/
theorem kap_o {σ : mm_S} {n m s t : Nat} {C : Nat → Nat → Prop} (W : PW σ n m) (H : CE σ m C) (hs : wms σ m 9 s) (ht : nms σ s 9 t) : kap σ C (s, t) = false := by
  have rs : rmx m s := ⟨hs.1, hs.2.2.1⟩
  have least : ∀ a, rmx m a → ¬ xs σ a < xs σ s := fun a ha h => by
    have := hs.2.2.2 a ha.1 ha.2
    have g1 := W.1.xy a ha.1 ha.2
    have g2 := W.1.xy s rs.1 rs.2
    unfold cG at g1 g2
    unfold fw at this
    unfold xs at h
    omega
  have q : Qc σ C s = false := xf_0 9 (fun a _ => xf_0 9 (fun b _ => bo_f.mpr (fun z => least a (H.2.1 a b z.1).1 z.2.1)))
  have t' : Tc σ C s t = false := xf_0 9 (fun j _ => bo_f.mpr (fun ⟨hC, hg⟩ => by
    obtain ⟨_, hj⟩ := H.2.1 s j hC
    by_cases e : j = t
    · subst e; exact gso_asym hg hg
    · have n1 := ht.2.2 j hj.1 hj e
      have r1 := least t (W.ed rs ht.1).1
      have x1 : xs σ s < xs σ t := by
        rcases Int.lt_trichotomy (xs σ s) (xs σ t) with k | k | k
        · exact k
        · exact absurd (W.xi rs (W.ed rs ht.1).1 k) (W.ed rs ht.1).2.1
        · exact absurd k r1
      rcases gso_b0.mp hg with h | h
      · exact h.2 x1
      · have := h.2
        rw [xs_orn] at this
        omega))
  show xor (Qc σ C s) (Tc σ C s t) = false
  rw [q, t']; rfl
