/-! wallOf: both sides answer alike -/
theorem mxl {va vb w1 w2 : Int32} (e1 : w1 = va) (e2 : w2 = vb) (g : w1 ≤ w2) : w2 = if va < vb then vb else va := by
  subst e1 e2
  by_cases h : w1 < w2
  · rw [if_pos h]
  · rw [if_neg h]; exact (Int32.le_antisymm g (Int32.not_lt.mp h)).symm
theorem mxg {va vb w1 w2 : Int32} (e1 : w1 = va) (e2 : w2 = vb) (g : ¬ w1 ≤ w2) : w1 = if va < vb then vb else va := by
  subst e1 e2
  rw [if_neg (fun h => g (Int32.le_of_lt h))]
theorem mnl {va vb w1 w2 : Int32} (e1 : w1 = va) (e2 : w2 = vb) (g : ¬ w2 ≤ w1) : w1 = if vb < va then vb else va := by
  subst e1 e2
  rw [if_neg (fun h => g (Int32.le_of_lt h))]
theorem mng {va vb w1 w2 : Int32} (e1 : w1 = va) (e2 : w2 = vb) (g : w2 ≤ w1) : w2 = if vb < va then vb else va := by
  subst e1 e2
  by_cases h : w2 < w1
  · rw [if_pos h]
  · rw [if_neg h]; exact Int32.le_antisymm g (Int32.not_lt.mp h)
theorem ag_wall {σ : mm_S} {n m : Nat} (X : XI σ n m) (x1 x2 : Int32) : AGr 7 146 [.ref 0, .int x1, .int x2] [.ref 10, .int x1, .int x2] σ := by
  have Z := X.1.1
  have n21 := Z.ck.jn.1
  have pm : σ 10 12 = σ 0 3 := X.1.2.2.2.2
  by_cases p : σ 0 3 = 0
  · have p' : σ 10 12 = 0 := pm.trans p
    refine ⟨1, 0, fun d Q XQ a _ _ => ?_, Or.inr (Or.inl rfl), fun d Q q => ?_⟩
    · refine xz_7 (d := d + 2) (q0 := fun _ => a rfl) ?_ ?_ ?_ ?_ ?_ ?_ ?_ ?_ ?_ ?_ ?_ ?_ ?_ ?_ ?_ <;> exact fun g => absurd p g
    · refine c_146 (q0 := fun _ => q 0 (fun h => absurd h (by decide))) ?_ ?_ ?_ ?_ ?_ ?_ ?_ ?_ ?_ ?_ ?_ ?_ ?_ ?_ ?_ ?_ ?_ ?_ ?_ ?_ ?_ ?_ ?_ ?_ ?_ ?_ ?_ ?_ ?_ ?_ ?_ ?_ ?_ ?_ ?_ ?_ ?_ ?_ ?_ ?_ ?_ ?_ ?_ ?_ ?_ <;> exact fun g => absurd p' g
  have p' : ¬ σ 10 12 = 0 := by rw [pm]; exact p
  by_cases ok : (∃ k, k < n ∧ x1 = nI k) ∧ ∃ j, j < 3 ∧ x2 = nI j
  · obtain ⟨⟨k, hk, rfl⟩, j, hj, rfl⟩ := ok
    obtain ⟨B, s, t, L, f, Mk, lab, pp, K, D, V, P⟩ := X.px p
    obtain ⟨a, b, ha, hb, _, _, _, e16, e17⟩ := Z.ck.je k hk
    obtain ⟨e45, d4⟩ := P.dd k hk
    have ck : (nI k).toNatClampNeg = k := nI_clamp (by omega)
    have mj := mi_nI (b := 2) (by decide) (show j ≤ 2 by omega)
    have xk : xj σ (nI k) = 1 := xj_1.mpr ⟨nI_nlt (b := 0) (Nat.zero_le k) (by omega), by rw [Z.ck.jn.2]; exact hI_nle (by omega) hk⟩
    have mk : ¬ mi (nI k) 0 (σ 10 6 - 1) = 0 := by rw [(Jm_j Z.jm).mpr xk]; decide
    have xk0 : ¬ xj σ (nI k) = 0 := by rw [xk]; decide
    have j2 : ¬ nI j < 0 := nI_nlt (b := 0) (Nat.zero_le j) (by omega)
    have j3 : nI j ≤ 2 := hI_le (b := 2) (by decide) (by omega)
    have e95 : σ 95 (nI k).toNatClampNeg = nI (D k) := by rw [ck]; exact P.rp.dd k hk
    have e80 : σ 80 (nI k).toNatClampNeg = nI a := by rw [ck, (Z.jj k hk).1]; exact e16
    have e81 : σ 81 (nI k).toNatClampNeg = nI b := by rw [ck, (Z.jj k hk).2]; exact e17
    have h21 : vp_in (nI k) 21 := pk_in k 21 (by omega)
    have h80 : ∀ c, c < 2 → vp_in (f_135 (σ 80 (nI k).toNatClampNeg) (nI c)) 18 := fun c hc => by rw [e80]; exact at_in ha hc
    have h81 : ∀ c, c < 2 → vp_in (f_135 (σ 81 (nI k).toNatClampNeg) (nI c)) 18 := fun c hc => by rw [e81]; exact at_in hb hc
    have R : ∀ c, c < 2 → σ 96 (f_135 (σ 80 (nI k).toNatClampNeg) (nI c)).toNatClampNeg = nI (V (4 * a + c)) ∧ σ 96 (f_135 (σ 81 (nI k).toNatClampNeg) (nI c)).toNatClampNeg = nI (V (4 * b + c)) ∧ σ 97 (f_135 (σ 80 (nI k).toNatClampNeg) (nI c)).toNatClampNeg = nI (V (4 * a + 2 + c)) ∧ σ 97 (f_135 (σ 81 (nI k).toNatClampNeg) (nI c)).toNatClampNeg = nI (V (4 * b + 2 + c)) := fun c hc => by
      rw [e80, e81]
      exact ⟨(PX_r P.rp ha hc).1, (PX_r P.rp hb hc).1, (PX_r P.rp ha hc).2, (PX_r P.rp hb hc).2⟩
    have f74 : (1 : Int32) - f_74 σ (nI k) = nI (1 - D k / 2) := by unfold f_74; rw [ck, e45, nd_2 _ d4, nd_3 _ (by omega)]
    have v74 : vp_in ((1 : Int32) - f_74 σ (nI k)) 4 := by rw [f74]; exact pk_in (1 - D k / 2) 4 (by omega)
    have v75 : vp_in (((1 : Int32) - f_74 σ (nI k)) + (2 : Int32)) 4 := by rw [f74, nd_4 _ (by omega)]; exact pk_in (1 - D k / 2 + 2) 4 (by omega)
    have v16 : vp_in (σ 16 (nI k).toNatClampNeg) 9 := by rw [ck, e16]; exact pk_in a 9 ha
    have v17 : vp_in (σ 17 (nI k).toNatClampNeg) 9 := by rw [ck, e17]; exact pk_in b 9 hb
    have f78 : ∀ c, c = 1 - D k / 2 → f_78 σ (nI k) = if nI (V (4 * a + c)) < nI (V (4 * b + c)) then nI (V (4 * b + c)) else nI (V (4 * a + c)) := fun c hc => by
      subst hc
      unfold f_78
      rw [f74, ck, e16, e17, nI_clamp (show a < 2 ^ 31 by omega), nI_clamp (show b < 2 ^ 31 by omega), nI_clamp (by omega), P.pf.1 a _ ha (by omega), P.pf.1 b _ hb (by omega)]
    have f79 : ∀ c, c = 1 - D k / 2 → f_79 σ (nI k) = if nI (V (4 * b + 2 + c)) < nI (V (4 * a + 2 + c)) then nI (V (4 * b + 2 + c)) else nI (V (4 * a + 2 + c)) := fun c hc => by
      subst hc
      unfold f_79
      rw [f74, nd_4 _ (by omega), ck, e16, e17, nI_clamp (show a < 2 ^ 31 by omega), nI_clamp (show b < 2 ^ 31 by omega), nI_clamp (by omega), P.pf.1 a _ ha (by omega), P.pf.1 b _ hb (by omega), show 4 * a + (1 - D k / 2 + 2) = 4 * a + 2 + (1 - D k / 2) by omega, show 4 * b + (1 - D k / 2 + 2) = 4 * b + 2 + (1 - D k / 2) by omega]
    have c1 : σ 95 (nI k).toNatClampNeg = 0 ∨ σ 95 (nI k).toNatClampNeg = 1 → 1 = 1 - D k / 2 := fun h => by
      rw [e95] at h
      rcases h with h | h
      · have := (nI_eq (a := D k) (b := 0) (by omega) (by decide)).mp h; omega
      · have := (nI_eq (a := D k) (b := 1) (by omega) (by decide)).mp h; omega
    have c0 : ¬ σ 95 (nI k).toNatClampNeg = 0 → ¬ σ 95 (nI k).toNatClampNeg = 1 → 0 = 1 - D k / 2 := fun h h' => by
      rw [e95] at h h'
      have h1 : D k ≠ 0 := fun e => h (by rw [e]; rfl)
      have h2 : D k ≠ 1 := fun e => h' (by rw [e]; rfl)
      omega
    refine ⟨0, if j = 0 then σ 45 k else if j = 1 then f_78 σ (nI k) else f_79 σ (nI k), fun d Q XQ _ _ c => ?_, Or.inl rfl, fun d Q q => ?_⟩
    · have cv := c rfl
      refine xz_7 (d := d + 2) (fun _ _ _ _ _ => h21) (fun _ _ _ _ _ _ => h21) (fun _ _ _ _ _ _ => v16) (fun _ _ _ _ _ _ => v74) (fun _ _ _ _ _ _ => v17) (fun _ _ _ _ _ _ => h21) (fun _ _ _ _ _ _ => v16) (fun _ _ _ _ _ _ => v75) (fun _ _ _ _ _ _ => v17) (fun g => absurd g p) (fun _ g => absurd g xk0) (fun _ _ g => absurd g j2) (fun _ _ _ _ g => ?_) (fun _ _ _ _ g g' => ?_) (fun _ _ _ _ g g' => ?_) (fun _ _ _ g => absurd j3 g)
      · have : j = 0 := (nI_eq (a := j) (b := 0) (by omega) (by decide)).mp g
        rw [if_pos this] at cv
        rw [ck]; exact cv
      · have : j = 1 := (nI_eq (a := j) (b := 1) (by omega) (by decide)).mp g'
        rw [if_neg (by omega), if_pos this] at cv
        exact cv
      · have h0 : ¬ j = 0 := fun e => g (by rw [e]; rfl)
        have h1 : ¬ j = 1 := fun e => g' (by rw [e]; rfl)
        rw [if_neg h0, if_neg h1] at cv
        exact cv
    · have w1 : ∀ w, ¬ nI j = 0 → nI j = 1 → w = f_78 σ (nI k) → Q (some (.int w)) (mm_up σ 10 0 0) := fun w _ g e => q w (fun _ => by
        have : j = 1 := (nI_eq (a := j) (b := 1) (by omega) (by decide)).mp g
        rw [if_neg (by omega), if_pos this]; exact e)
      have w2 : ∀ w, ¬ nI j = 0 → ¬ nI j = 1 → w = f_79 σ (nI k) → Q (some (.int w)) (mm_up σ 10 0 0) := fun w g g' e => q w (fun _ => by
        have h0 : ¬ j = 0 := fun e => g (by rw [e]; rfl)
        have h1 : ¬ j = 1 := fun e => g' (by rw [e]; rfl)
        rw [if_neg h0, if_neg h1]; exact e)
      have w0 : nI j = 0 → Q (some (.int (σ 95 (nI k).toNatClampNeg))) (mm_up σ 10 0 0) := fun g => q _ (fun _ => by
        have : j = 0 := (nI_eq (a := j) (b := 0) (by omega) (by decide)).mp g
        rw [if_pos this, e95, e45])
      apply c_146
      all_goals first
        | exact fun g => absurd g p'
        | exact fun _ g => absurd g mk
        | exact fun _ _ g => absurd g mj
        | exact fun _ _ _ g => w0 g
        | exact fun _ _ _ g1 g2 g3 g4 => w1 _ g1 g3 (by rw [f78 1 (c1 (Or.inl g2))]; exact mxl (R 1 (by decide)).1 (R 1 (by decide)).2.1 g4)
        | exact fun _ _ _ g1 g2 g3 g4 => w1 _ g1 g3 (by rw [f78 1 (c1 (Or.inl g2))]; exact mxg (R 1 (by decide)).1 (R 1 (by decide)).2.1 g4)
        | exact fun _ _ _ g1 g2 g3 g4 => w2 _ g1 g3 (by rw [f79 1 (c1 (Or.inl g2))]; exact mng (R 1 (by decide)).2.2.1 (R 1 (by decide)).2.2.2 g4)
        | exact fun _ _ _ g1 g2 g3 g4 => w2 _ g1 g3 (by rw [f79 1 (c1 (Or.inl g2))]; exact mnl (R 1 (by decide)).2.2.1 (R 1 (by decide)).2.2.2 g4)
        | exact fun _ _ _ g1 _ g2 g3 g4 => w1 _ g1 g3 (by rw [f78 1 (c1 (Or.inr g2))]; exact mxl (R 1 (by decide)).1 (R 1 (by decide)).2.1 g4)
        | exact fun _ _ _ g1 _ g2 g3 g4 => w1 _ g1 g3 (by rw [f78 1 (c1 (Or.inr g2))]; exact mxg (R 1 (by decide)).1 (R 1 (by decide)).2.1 g4)
        | exact fun _ _ _ g1 _ g2 g3 g4 => w2 _ g1 g3 (by rw [f79 1 (c1 (Or.inr g2))]; exact mng (R 1 (by decide)).2.2.1 (R 1 (by decide)).2.2.2 g4)
        | exact fun _ _ _ g1 _ g2 g3 g4 => w2 _ g1 g3 (by rw [f79 1 (c1 (Or.inr g2))]; exact mnl (R 1 (by decide)).2.2.1 (R 1 (by decide)).2.2.2 g4)
        | exact fun _ _ _ g1 g g2 g3 g4 => w1 _ g1 g3 (by rw [f78 0 (c0 g g2)]; exact mxl (R 0 (by decide)).1 (R 0 (by decide)).2.1 g4)
        | exact fun _ _ _ g1 g g2 g3 g4 => w1 _ g1 g3 (by rw [f78 0 (c0 g g2)]; exact mxg (R 0 (by decide)).1 (R 0 (by decide)).2.1 g4)
        | exact fun _ _ _ g1 g g2 g3 g4 => w2 _ g1 g3 (by rw [f79 0 (c0 g g2)]; exact mng (R 0 (by decide)).2.2.1 (R 0 (by decide)).2.2.2 g4)
        | exact fun _ _ _ g1 g g2 g3 g4 => w2 _ g1 g3 (by rw [f79 0 (c0 g g2)]; exact mnl (R 0 (by decide)).2.2.1 (R 0 (by decide)).2.2.2 g4)
        | (intros; first | exact h21 | exact h80 0 (by decide) | exact h80 1 (by decide) | exact h81 0 (by decide) | exact h81 1 (by decide))
  · have bad : ¬ xj σ x1 = 0 → ¬ x2 < 0 → x2 ≤ 2 → False := fun g1 g2 g3 => by
      obtain ⟨k, hk, e⟩ := xj_n Z.jm Z.ck.jn.2 n21 ((xj_01 σ x1).resolve_left g1)
      obtain ⟨j, hj, e'⟩ := in_3 g2 g3
      exact ok ⟨⟨k, hk, e⟩, j, hj, e'⟩
    have bad' : ¬ mi x1 0 (σ 10 6 - 1) = 0 → ¬ mi x2 0 2 = 0 → False := fun g1 g2 => by
      obtain ⟨k, hk, e⟩ := xj_n Z.jm Z.ck.jn.2 n21 ((Jm_j Z.jm).mp ((mi_01 _ _ _).resolve_left g1))
      obtain ⟨j, hj, e'⟩ := in_mi (b := 2) (by decide) g2
      exact ok ⟨⟨k, hk, e⟩, j, by omega, e'⟩
    refine ⟨2, 0, fun d Q XQ _ b _ => ?_, Or.inr (Or.inr rfl), fun d Q q => ?_⟩
    · apply xz_7 (d := d + 2)
      all_goals first
        | exact fun g => absurd g p
        | exact fun _ _ => b rfl
        | exact fun _ _ _ => b rfl
        | exact fun _ _ _ _ => b rfl
        | exact fun _ g1 g2 g3 _ => (bad g1 g2 g3).elim
        | exact fun _ g1 g2 g3 _ _ => (bad g1 g2 g3).elim
    · have q2 := q 0 (fun h => absurd h (by decide))
      apply c_146
      all_goals first
        | exact fun g => absurd g p'
        | exact fun _ _ => q2
        | exact fun _ _ _ => q2
        | (intro _ g1 g2; exact (bad' g1 g2).elim)
