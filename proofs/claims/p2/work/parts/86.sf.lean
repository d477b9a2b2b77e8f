-- the calls that only look, on every kept state
theorem ZI.jm {σ : mm_S} {n m : Nat} (Z : ZI σ n m) : Jm σ := by
  have h := Z.ck.jn
  refine ⟨by rw [Z.mk.jn.2, h.2], ?_, ?_⟩
  · rw [h.2]; exact nI_nlt (b := 0) (Nat.zero_le n) (by omega)
  · rw [h.2]; exact hI_le (b := 21) (by omega) h.1
theorem xj_n {σ : mm_S} {n : Nat} {x : Int32} (hJ : Jm σ) (e : σ 1 12 = nI n) (hn : n ≤ 21) (h : xj σ x = 1) : ∃ k, k < n ∧ x = nI k := by
  obtain ⟨k, hk, rfl⟩ := vp_in_of (xj_in hJ h) (by decide)
  refine ⟨k, ?_, rfl⟩
  rcases Nat.lt_or_ge k n with c | c
  · exact c
  · exfalso
    unfold xj at h
    rw [e] at h
    split at h
    · exact absurd h (by decide)
    · rw [if_pos (hI_le (by omega) c)] at h
      exact absurd h (by decide)
theorem in_4 {x : Int32} (h1 : ¬ x < 0) (h2 : x < 4) : ∃ j, j < 4 ∧ x = nI j := by
  have a := Int32.le_iff_toInt_le.mp (Int32.not_lt.mp h1)
  have b := Int32.lt_iff_toInt_lt.mp h2
  have c : (0 : Int32).toInt = 0 := by decide
  have e : (4 : Int32).toInt = 4 := by decide
  refine ⟨x.toInt.toNat, by omega, Int32.toInt_inj.mp ?_⟩
  rw [nI_toInt (by omega)]
  omega
theorem in_mi {x : Int32} {b : Nat} (hb : b < 1000) (h : ¬ mi x 0 (nI b) = 0) : ∃ j, j ≤ b ∧ x = nI j := by
  unfold mi at h
  by_cases h1 : x < 0
  · rw [if_pos h1] at h; exact absurd rfl h
  · rw [if_neg h1] at h
    by_cases h2 : nI b < x
    · rw [if_pos h2] at h; exact absurd rfl h
    · have a := Int32.le_iff_toInt_le.mp (Int32.not_lt.mp h1)
      have b' := Int32.le_iff_toInt_le.mp (Int32.not_lt.mp h2)
      have c : (0 : Int32).toInt = 0 := by decide
      rw [nI_toInt (by omega)] at b'
      refine ⟨x.toInt.toNat, by omega, Int32.toInt_inj.mp ?_⟩
      rw [nI_toInt (by omega)]
      omega
theorem xd_n0 {σ : mm_S} {x : Int32} (h : ¬ xd σ x = 0) : ∃ i, i < 9 ∧ x = nI i := xd_1 ((xd_01 σ x).resolve_left h)
theorem mdr_n0 {σ : mm_S} {x : Int32} (h : ¬ mdr σ x = 0) : ∃ i, i < 9 ∧ x = nI i := by
  have : mi x 0 8 = 1 := by
    rcases mi_01 x 0 8 with z | z
    · exact absurd (by unfold mdr; rw [if_pos z]) h
    · exact z
  exact mi8 this
theorem at_in {r b : Nat} (hr : r < 9) (hb : b < 2) : vp_in (f_135 (nI r) (nI b)) 18 := by rw [at_n r hr b hb]; exact pk_in (2 * r + b) 18 (by omega)
theorem nd_1 : ∀ j, j < 4 → nI j &&& (1 : Int32) = nI (j % 2) := by decide
theorem nd_2 : ∀ w, w < 4 → nI w >>> ((1 : Int32) &&& 31) = nI (w / 2) := by decide
theorem nd_3 : ∀ w, w < 2 → (1 : Int32) - nI w = nI (1 - w) := by decide
theorem nd_4 : ∀ w, w < 2 → nI w + (2 : Int32) = nI (w + 2) := by decide
section SF
variable {d n m : Nat} {Q : mm_Q} {XQ : Nat → mm_S → Prop} {σ : mm_S}
theorem s_2 {x1 : Int32} (Z : ZI σ n m) (q : Q (some (.int (f_2 σ x1))) σ) : mD (d + 2) 2 [.ref 0, .int x1] σ Q := c_2 (fun h1 h2 => by
  have : x1 < 4 := by
    rcases Z.wn with e | e | e <;> rw [e] at h2 <;> exact Int32.lt_of_lt_of_le (Int32.not_le.mp h2) (by decide)
  obtain ⟨j, hj, rfl⟩ := in_4 h1 this
  refine pk_in j 3 ?_
  rcases Nat.lt_or_ge j 3 with c | c
  · exact c
  · exfalso
    have : j = 3 := by omega
    subst this
    rcases Z.wn with e | e | e <;> rw [e] at h2 <;> exact h2 (by decide)) q
theorem s_3 {x1 : Int32} (Z : ZI σ n m) (q : Q (some (.int (f_3 σ x1))) σ) : mD (d + 2) 3 [.ref 0, .int x1] σ Q := c_3 (fun h1 h2 => by
  obtain ⟨w, w9, e, _, _⟩ := Z.wy
  rw [e] at h2
  have a := Int32.le_iff_toInt_le.mp (Int32.not_lt.mp h1)
  have b := Int32.lt_iff_toInt_lt.mp (Int32.not_le.mp h2)
  have c : (0 : Int32).toInt = 0 := by decide
  rw [nI_toInt (by omega)] at b
  have ex : x1 = nI x1.toInt.toNat := Int32.toInt_inj.mp (by rw [nI_toInt (by omega)]; omega)
  rw [ex]
  exact pk_in x1.toInt.toNat 9 (by omega)) q
theorem s_5 {x1 x2 : Int32} (q : ∀ v, Q (some (.int v)) σ) (e0 : XQ 0 σ) (e2 : XQ 2 σ) : xD (d + 2) 5 [.ref 0, .int x1, .int x2] σ Q XQ :=
  xz_5 (fun _ h _ _ => by obtain ⟨i, hi, rfl⟩ := xd_n0 h; exact pk_in i 9 hi) (fun _ _ h1 h2 => by obtain ⟨j, hj, rfl⟩ := in_4 h1 h2; exact pk_in j 4 hj) (fun _ => e2) (fun _ _ => e0) (fun _ _ _ => e0) (fun _ _ _ _ => q _) (fun _ _ _ _ => e0)
theorem s_6 {x1 : Int32} (q : ∀ v, Q (some (.int v)) σ) (e0 : XQ 0 σ) (e2 : XQ 2 σ) : xD (d + 3) 6 [.ref 0, .int x1] σ Q XQ :=
  xz_6 (fun _ h1 _ h2 => by
    obtain ⟨j, hj, rfl⟩ := in_4 h1 (Int32.lt_of_lt_of_le (Int32.not_le.mp h2) (by decide))
    refine pk_in j 2 ?_
    rcases Nat.lt_or_ge j 2 with c | c
    · exact c
    · exact absurd (hI_le (a := 2) (by omega) c) h2) (fun _ => e2) (fun _ _ => e0) (fun _ _ _ _ => q _) (fun _ _ _ _ => q _) (fun _ _ _ => e0)
theorem s_7 {x1 x2 : Int32} (Z : ZI σ n m) (q : ∀ v, Q (some (.int v)) σ) (e0 : XQ 0 σ) (e2 : XQ 2 σ) : xD (d + 4) 7 [.ref 0, .int x1, .int x2] σ Q XQ := by
  have A : ¬ xj σ x1 = 0 → vp_in x1 21 ∧ vp_in (σ 16 x1.toNatClampNeg) 9 ∧ vp_in (σ 17 x1.toNatClampNeg) 9 ∧ vp_in ((1 : Int32) - f_74 σ x1) 4 ∧ vp_in (((1 : Int32) - f_74 σ x1) + (2 : Int32)) 4 := fun h => by
    obtain ⟨k, hk, rfl⟩ := xj_n Z.jm Z.ck.jn.2 Z.ck.jn.1 ((xj_01 σ x1).resolve_left h)
    have n21 := Z.ck.jn.1
    obtain ⟨a, b, ha, hb, _, _, _, ea, eb⟩ := Z.ck.je k hk
    obtain ⟨w, hw, ew⟩ := Z.dg k (by omega)
    have ck : (nI k).toNatClampNeg = k := nI_clamp (by omega)
    unfold f_74
    rw [ck, ea, eb, ew, nd_2 w hw, nd_3 _ (by omega), nd_4 _ (by omega)]
    exact ⟨pk_in k 21 (by omega), pk_in a 9 ha, pk_in b 9 hb, pk_in (1 - w / 2) 4 (by omega), pk_in (1 - w / 2 + 2) 4 (by omega)⟩
  exact xz_7 (fun _ h _ _ _ => (A h).1) (fun _ h _ _ _ _ => (A h).1) (fun _ h _ _ _ _ => (A h).2.1) (fun _ h _ _ _ _ => (A h).2.2.2.1) (fun _ h _ _ _ _ => (A h).2.2.1) (fun _ h _ _ _ _ => (A h).1) (fun _ h _ _ _ _ => (A h).2.1) (fun _ h _ _ _ _ => (A h).2.2.2.2) (fun _ h _ _ _ _ => (A h).2.2.1) (fun _ => e2) (fun _ _ => e0) (fun _ _ _ => e0) (fun _ _ _ _ _ => q _) (fun _ _ _ _ _ _ => q _) (fun _ _ _ _ _ _ => q _) (fun _ _ _ _ => e0)
theorem s_8 {x1 x2 : Int32} (q : ∀ v, Q (some (.int v)) σ) (e0 : XQ 0 σ) (e2 : XQ 2 σ) : xD (d + 2) 8 [.ref 0, .int x1, .int x2] σ Q XQ :=
  xz_8 (fun _ h _ _ => by obtain ⟨i, hi, rfl⟩ := xd_n0 h; exact pk_in i 13 (by omega)) (fun _ h _ _ _ => by obtain ⟨i, hi, rfl⟩ := xd_n0 h; exact pk_in i 9 hi) (fun _ _ h1 h2 _ => by obtain ⟨j, hj, rfl⟩ := in_4 h1 h2; rw [nd_1 j hj, nd_4 _ (by omega)]; exact pk_in (j % 2 + 2) 4 (by omega)) (fun _ _ h1 h2 _ => by obtain ⟨j, hj, rfl⟩ := in_4 h1 h2; rw [nd_1 j hj]; exact pk_in (j % 2) 4 (by omega)) (fun _ => e2) (fun _ _ => e0) (fun _ _ _ => e0) (fun _ _ _ _ _ => q _) (fun _ _ _ _ _ => q _) (fun _ _ _ _ => e0)
theorem s_143 {x1 : Int32} (q : ∀ v, Q (some (.int v)) (mm_up σ 10 0 0)) : mD (d + 2) 143 [.ref 10, .int x1] σ Q :=
  c_143 (fun _ _ h => by obtain ⟨j, hj, rfl⟩ := in_mi (b := 1) (by omega) h; exact pk_in j 3 (by omega)) (fun _ _ h => by obtain ⟨j, hj, rfl⟩ := in_mi (b := 2) (by omega) h; exact pk_in j 3 (by omega)) (fun _ => q _) (fun _ _ _ => q _) (fun _ _ _ => q _) (fun _ _ _ => q _) (fun _ _ _ => q _)
theorem s_144 {x1 x2 : Int32} (q : ∀ v e, Q (some (.int v)) (mm_up σ 10 0 e)) : mD (d + 3) 144 [.ref 10, .int x1, .int x2] σ Q := by
  have A : ¬ mdr σ x1 = 0 → vp_in (f_135 x1 1) 18 ∧ vp_in (f_135 x1 0) 18 := fun h => by
    obtain ⟨i, hi, rfl⟩ := mdr_n0 h
    exact ⟨at_in (b := 1) hi (by omega), at_in (b := 0) hi (by omega)⟩
  exact c_144 (fun _ h _ _ _ => (A h).1) (fun _ h _ _ _ => (A h).2) (fun _ h _ _ _ => (A h).1) (fun _ h _ _ _ => (A h).2) (fun _ => q _ _) (fun _ _ => q _ _) (fun _ _ _ => q _ _) (fun _ _ _ _ _ => q _ _) (fun _ _ _ _ _ => q _ _) (fun _ _ _ _ _ => q _ _) (fun _ _ _ _ _ => q _ _)
theorem s_145 {x1 : Int32} (q : ∀ v e, Q (some (.int v)) (mm_up σ 10 0 e)) : mD (d + 2) 145 [.ref 10, .int x1] σ Q := by
  refine ks_145_0 (fun _ => q _ _) (fun _ _ => q _ _) (fun _ _ => ?_)
  refine lp_dn (P := fun i => ∀ x2, mw (d + 1) mt_145 Q 42 [some (.ref 10), some (.int x1), some (.int x2), some (.int (nI i))] [] (mm_up σ 10 0 0)) 9 ?_ ?_ 0 (by omega) 0
  · intro x2
    exact ks_145_42 (fun h => absurd (by decide) h) (fun _ _ => q _ _) (fun _ _ _ => q _ _) (fun _ _ _ => q _ _) (fun h => absurd (by decide) h) (fun h => absurd (by decide) h)
  · intro i hi ih x2
    have nl : ¬ (9 : Int32) ≤ nI i := hI_nle (a := 9) (by omega) hi
    refine ks_145_42 (fun _ => pk_in i 9 hi) (fun h => absurd h nl) (fun h => absurd h nl) (fun h => absurd h nl) (fun _ _ => ?_) (fun _ _ => ?_)
    · rw [nI_1]; exact ih _
    · rw [nI_1]; exact ih _
theorem s_147 {x1 x2 : Int32} (q : ∀ v e, Q (some (.int v)) (mm_up σ 10 0 e)) : mD (d + 3) 147 [.ref 10, .int x1, .int x2] σ Q := by
  have A : ¬ mdr σ x1 = 0 → vp_in (f_135 x1 1) 18 ∧ vp_in (f_135 x1 0) 18 := fun h => by
    obtain ⟨i, hi, rfl⟩ := mdr_n0 h
    exact ⟨at_in (b := 1) hi (by omega), at_in (b := 0) hi (by omega)⟩
  have B : ¬ mi x2 0 3 = 0 → vp_in ((9 : Int32) + x2) 13 := fun h => by
    obtain ⟨j, hj, rfl⟩ := in_mi (b := 3) (by omega) h
    rw [nI_9]; exact pk_in (9 + j) 13 (by omega)
  apply c_147 <;> intros <;> first | exact q _ _ | exact B (by assumption) | exact (A (by assumption)).1 | exact (A (by assumption)).2
theorem s_146 {x1 x2 : Int32} (Z : ZI σ n m) (q : ∀ v e, Q (some (.int v)) (mm_up σ 10 0 e)) : mD (d + 3) 146 [.ref 10, .int x1, .int x2] σ Q := by
  have A : ¬ mi x1 0 (σ 10 6 - 1) = 0 → vp_in x1 21 ∧ vp_in (f_135 (σ 80 x1.toNatClampNeg) 0) 18 ∧ vp_in (f_135 (σ 80 x1.toNatClampNeg) 1) 18 ∧ vp_in (f_135 (σ 81 x1.toNatClampNeg) 0) 18 ∧ vp_in (f_135 (σ 81 x1.toNatClampNeg) 1) 18 := fun h => by
    have h1 := (Jm_j Z.jm).mp ((mi_01 _ _ _).resolve_left h)
    obtain ⟨k, hk, rfl⟩ := xj_n Z.jm Z.ck.jn.2 Z.ck.jn.1 h1
    have n21 := Z.ck.jn.1
    obtain ⟨a, b, ha, hb, _, _, _, ea, eb⟩ := Z.mk.je k hk
    rw [nI_clamp (by omega), ea, eb]
    exact ⟨pk_in k 21 (by omega), at_in (b := 0) ha (by omega), at_in (b := 1) ha (by omega), at_in (b := 0) hb (by omega), at_in (b := 1) hb (by omega)⟩
  apply c_146 <;> intros <;> first | exact q _ _ | exact (A (by assumption)).1 | exact (A (by assumption)).2.1 | exact (A (by assumption)).2.2.1 | exact (A (by assumption)).2.2.2.1 | exact (A (by assumption)).2.2.2.2
theorem s_149i {x1 : Int32} (Z : ZI σ n m) : ¬ ((mi x1 (0 : Int32) ((σ 10 34) - (1 : Int32))) = 0) → vp_in x1 9 := fun h => by
  obtain ⟨w, w9, _, e, _⟩ := Z.wy
  rw [e] at h
  match w with
  | 0 =>
    exfalso
    apply h
    unfold mi
    split
    · rfl
    · rename_i g
      rw [if_pos]
      refine Int32.lt_of_lt_of_le (b := 0) (by decide) (Int32.not_lt.mp g)
  | w + 1 =>
    have e1 : nI (w + 1) - 1 = nI w := nI_sub (b := 1) (by omega)
    rw [e1] at h
    obtain ⟨j, hj, rfl⟩ := in_mi (by omega) h
    exact pk_in j 9 (by omega)
theorem s_149 {x1 : Int32} (Z : ZI σ n m) (q : ∀ v, Q (some (.int v)) (mm_up σ 10 0 0)) : mD (d + 2) 149 [.ref 10, .int x1] σ Q :=
  c_149 (s_149i Z) (fun _ => q _) (fun _ => q _)
theorem s_150 {x1 : Int32} (q : ∀ v, Q (some (.int v)) (mm_up σ 10 0 0)) : mD (d + 2) 150 [.ref 10, .int x1] σ Q :=
  c_150 (fun _ => q _) (fun _ _ => q _) (fun _ _ _ => q _) (fun _ _ _ _ => q _) (fun _ _ _ _ _ _ => q _) (fun _ _ _ _ _ _ => q _) (fun _ _ _ _ _ => q _)
theorem s_155 {x : Int32} (q : ∀ v, Q (some (.int v)) σ) : mD (d + 1) 155 [.ref 0, .int x] σ Q :=
  c_155 (fun _ => q _) (fun _ => q _) (fun _ => q _) (fun _ => q _) (fun _ => q _) (fun _ _ _ _ _ => q _)
end SF
