-- way on both sides keeps the invariant, and the answers are the same
theorem x_way {d n m : Nat} {Q : mm_Q} {XQ : Nat → mm_S → Prop} {x1 x2 : Int32} {σ : mm_S} (C : CK σ n m) (e0 : (xd σ x1 = 0 ∨ xd σ x2 = 0) → XQ 0 σ)
    (q : ∀ a b, a < 9 → b < 9 → x1 = nI a → x2 = nI b → xd σ x1 = 1 → xd σ x2 = 1 → ∀ τ w, (∀ c, c ≠ 9 → c ≠ 73 → c ≠ 74 → τ c = σ c) → w ≤ 9 → τ 9 1 = nI w → WP (Gj σ n) b a w (τ 73) → Q (some (.int (nI w))) τ) : xD (d + 5) 9 [.ref 0, .int x1, .int x2] σ Q XQ := by
  refine ⟨rfl, xr_9_0 (c_7 (xr_9_8 (fun g => xr_9_22 (e0 (Or.inl g))) (fun g => xr_9_11 (c_7 (xr_9_19 (fun h => xr_9_22 (e0 (Or.inr h))) (fun h => xr_9_32 ?_))))))⟩
  have d1 : xd σ x1 = 1 := (xd_01 σ x1).resolve_left g
  have d2 : xd σ x2 = 1 := (xd_01 σ x2).resolve_left h
  obtain ⟨a, ha, rfl⟩ := xd_1 d1
  obtain ⟨b, hb, rfl⟩ := xd_1 d2
  exact c_81 C ha hb ((C.dr b hb).mp d2) (fun τ w f1 w9 e W => xr_9_41 (q a b ha hb rfl rfl d1 d2 τ w f1 w9 e W))
theorem Gm_eq {σ τ : mm_S} {n m : Nat} (Z : ZI σ n m) (h80 : τ 80 = σ 80) (h81 : τ 81 = σ 81) : Gm τ n = Gj σ n := by
  funext v u
  refine propext ⟨?_, ?_⟩
  · rintro ⟨k, hk, h⟩
    refine ⟨k, hk, ?_⟩
    unfold Em at h
    rw [h80, h81, (Z.jj k hk).1, (Z.jj k hk).2] at h
    exact h
  · rintro ⟨k, hk, h⟩
    refine ⟨k, hk, ?_⟩
    unfold Em
    rw [h80, h81, (Z.jj k hk).1, (Z.jj k hk).2]
    exact h
theorem ZI_way {σ τ ρ : mm_S} {n m w : Nat} (Z : ZI σ n m) (f1 : ∀ c, c ≠ 9 → c ≠ 73 → c ≠ 74 → τ c = σ c) (F : WF τ ρ) (w9 : w ≤ 9) (e1 : τ 9 1 = nI w) (e2 : ρ 10 34 = nI w) (e3 : ∀ i, i < w → ρ 98 i = τ 73 i) : ZI ρ n m := by
  have h : ∀ c, (c = 1 ∨ c = 3 ∨ (11 ≤ c ∧ c ≤ 59) ∨ (75 ≤ c ∧ c ≤ 83)) → ρ c = σ c := fun c hc => by
    rw [F.1 c (by omega) (by omega) (by omega)]; exact f1 c (by omega) (by omega) (by omega)
  have h10 : ∀ j, j ≠ 0 → j ≠ 34 → ρ 10 j = σ 10 j := fun j a b => by rw [F.2.1 j a b, f1 10 (by decide) (by decide) (by decide)]
  have h1 := h 1 (by omega)
  refine ⟨CK_cg h1 (h 11 (by omega)) (h 12 (by omega)) (h 15 (by omega)) (h 16 (by omega)) (h 17 (by omega)) Z.ck, ?_, BG_cg (fun c _ _ => h c (by omega)) Z.bg, DG_cg (h 45 (by omega)) Z.dg, ?_, MK_cg (h10 6 (by omega) (by omega)) (h10 10 (by omega) (by omega)) (h 75 (by omega)) (h 80 (by omega)) (h 81 (by omega)) (h 83 (by omega)) Z.mk, Rm_cg (by rw [h1]) (h 11 (by omega)) (h 12 (by omega)) (h 75 (by omega)) (h 76 (by omega)) (h 77 (by omega)) Z.rm, ?_, ?_, ?_, ?_, ?_⟩
  · unfold COk; rw [h1, h 19 (by omega)]; exact Z.co
  · unfold WN; rw [h 3 (by omega)]; exact Z.wn
  · intro k hk; rw [h 80 (by omega), h 81 (by omega), h 16 (by omega), h 17 (by omega)]; exact Z.jj k hk
  · rw [h10 10 (by omega) (by omega), h1, h 83 (by omega), h 19 (by omega)]; exact Z.cc
  · intro j hj; rw [h 75 (by omega), h 78 (by omega), h 79 (by omega), h 13 (by omega), h 14 (by omega)]; exact Z.wh j hj
  · intro k hk; rw [h 82 (by omega), h 18 (by omega)]; exact Z.ww k hk
  · exact ⟨w, w9, by rw [F.1 9 (by decide) (by decide) (by decide)]; exact e1, e2, fun i hi => by rw [e3 i hi, F.1 73 (by decide) (by decide) (by decide)]⟩
theorem mdr_75 {σ τ : mm_S} (h : τ 75 = σ 75) (x : Int32) : mdr τ x = mdr σ x := by unfold mdr; rw [h]
/-- the reference's way behind the class's -/
theorem s_148 {d n m a b w : Nat} {Q : mm_Q} {σ τ : mm_S} (Z : ZI σ n m) (d1 : xd σ (nI a) = 1) (d2 : xd σ (nI b) = 1) (ha : a < 9) (hb : b < 9) (f1 : ∀ c, c ≠ 9 → c ≠ 73 → c ≠ 74 → τ c = σ c) (w9 : w ≤ 9) (e1 : τ 9 1 = nI w) (W : WP (Gj σ n) b a w (τ 73))
    (q : ∀ ρ, ZI ρ n m → ρ 10 0 = 0 → Q (some (.int (nI w))) ρ) : mD (d + 3) 148 [.ref 10, .int (nI a), .int (nI b)] τ Q := by
  have k1 : ¬ mdr τ (nI a) = 0 := by rw [mdr_75 (f1 75 (by decide) (by decide) (by decide)), (Rm_dr Z.rm).mp d1]; decide
  have k2 : ¬ mdr τ (nI b) = 0 := by rw [mdr_75 (f1 75 (by decide) (by decide) (by decide)), (Rm_dr Z.rm).mp d2]; decide
  have e10 : τ 10 = σ 10 := f1 10 (by decide) (by decide) (by decide)
  refine c_148 (n := n) (MK_cg (by rw [e10]) (by rw [e10]) (f1 75 (by decide) (by decide) (by decide)) (f1 80 (by decide) (by decide) (by decide)) (f1 81 (by decide) (by decide) (by decide)) (f1 83 (by decide) (by decide) (by decide)) Z.mk) (fun h => absurd h (fun z => z.elim k1 k2)) (fun a' b' ha' hb' ea eb _ _ ρ w' F w9' e2 W' => ?_)
  have := nI9 ha ha' ea
  subst this
  have := nI9 hb hb' eb
  subst this
  rw [Gm_eq Z (f1 80 (by decide) (by decide) (by decide)) (f1 81 (by decide) (by decide) (by decide))] at W'
  obtain ⟨ew, ef⟩ := WP_u W W'
  subst ew
  exact q ρ (ZI_way Z f1 F w9 e1 e2 (fun i hi => (ef i hi).symm)) F.2.2
theorem s_148n {d n m : Nat} {Q : mm_Q} {σ : mm_S} {x1 x2 : Int32} (Z : ZI σ n m) (h : xd σ x1 = 0 ∨ xd σ x2 = 0) (q : Q (some (.int 0)) (mm_up σ 10 0 1)) : mD (d + 3) 148 [.ref 10, .int x1, .int x2] σ Q := by
  refine c_148 Z.mk (fun _ => q) (fun a b ha hb ea eb k1 k2 => ?_)
  exfalso
  have one : ∀ x, ¬ mdr σ x = 0 → xd σ x = 1 := fun x k => (Rm_dr Z.rm).mpr (by
    unfold mdr at k ⊢
    by_cases h1 : mi x 0 8 = 0
    · rw [if_pos h1] at k; exact absurd rfl k
    · rw [if_neg h1] at k ⊢
      by_cases h2 : σ 75 x.toNatClampNeg = 0
      · rw [if_pos h2] at k; exact absurd rfl k
      · rw [if_neg h2])
  rcases h with h | h
  · rw [one _ k1] at h; exact absurd h (by decide)
  · rw [one _ k2] at h; exact absurd h (by decide)
theorem wr_eq {σ : mm_S} {n m : Nat} {x : Int32} (Z : ZI σ n m) : ((mi x 0 (σ 10 34 - 1)) = 0 → f_3 σ x = -1) ∧ (¬ (mi x 0 (σ 10 34 - 1)) = 0 → f_3 σ x = σ 98 x.toNatClampNeg) := by
  obtain ⟨w, w9, e1, e2, e3⟩ := Z.wy
  unfold f_3 f_85
  rw [e1, e2]
  by_cases h1 : x < 0
  · have z : mi x 0 (nI w - 1) = 0 := by unfold mi; rw [if_pos h1]
    exact ⟨fun _ => by rw [if_pos h1], fun h => absurd z h⟩
  · rw [if_neg h1]
    have a := Int32.le_iff_toInt_le.mp (Int32.not_lt.mp h1)
    have c : (0 : Int32).toInt = 0 := by decide
    have ew : (nI w - 1).toInt = (w : Int) - 1 := pk_sub_toInt (a := w) (b := 1) (by omega) (by omega)
    by_cases h2 : nI w ≤ x
    · have b := Int32.le_iff_toInt_le.mp h2
      rw [nI_toInt (by omega)] at b
      have z : mi x 0 (nI w - 1) = 0 := by
        unfold mi
        rw [if_neg h1, if_pos (Int32.lt_iff_toInt_lt.mpr (by omega))]
      exact ⟨fun _ => by rw [if_pos h2], fun h => absurd z h⟩
    · rw [if_neg h2]
      have b := Int32.lt_iff_toInt_lt.mp (Int32.not_le.mp h2)
      rw [nI_toInt (by omega)] at b
      have z : ¬ mi x 0 (nI w - 1) = 0 := by
        unfold mi
        rw [if_neg h1, if_neg (fun y => by have := Int32.lt_iff_toInt_lt.mp y; omega)]
        decide
      refine ⟨fun h => absurd h z, fun _ => ?_⟩
      have ex : x = nI x.toInt.toNat := Int32.toInt_inj.mp (by rw [nI_toInt (by omega)]; omega)
      rw [ex, nI_clamp (by omega)]
      exact (e3 _ (by omega)).symm
theorem b0_b : ∀ r, r < 9 → ∀ v, v < 13 → ms_0 (50 + 1 + r) v = 0 := by decide +kernel
theorem b0_d : ∀ e, e < 21 → ms_0 45 e = 0 := by decide +kernel
theorem b0_w : ∀ j, j < 9 → ms_0 75 j = 0 ∧ ms_0 78 j = 1 ∧ ms_0 79 j = 1 := by decide +kernel
theorem b0_1 : ms_0 1 10 = nI 0 ∧ ms_0 1 11 = nI 0 ∧ ms_0 1 12 = nI 0 ∧ ms_0 1 9 = 0 ∧ ms_0 3 1 = 0 ∧ ms_0 10 6 = nI 0 ∧ ms_0 10 10 = 0 ∧ ms_0 9 1 = nI 0 ∧ ms_0 10 34 = nI 0 := by decide +kernel
theorem ZI_0i : ZI ms_0 0 0 := by
  obtain ⟨a10, a11, a12, a9, w3, m6, m10, y1, y2⟩ := b0_1
  have nx : ∀ j, j < 9 → ¬ xd ms_0 (nI j) = 1 := fun j hj h => by
    have := (xd_m (by decide) a10 hj).mp h
    rw [tb_0] at this
    exact absurd this (by decide)
  have nt : ∀ {j}, (0 : Nat).testBit j = true → False := fun h => by rw [tb_0] at h; exact absurd h (by decide)
  exact ⟨⟨by rw [a11, bcn_0], ⟨by decide, a10⟩, fun j hj => xd_m (by decide) a10 hj, fun j _ h => (nt h).elim, fun i j _ _ h => (nt h).elim, ⟨by decide, a12⟩, fun k hk => absurd hk (Nat.not_lt_zero k), fun i _ h => (nt h).elim, fun i j _ h => (nt h).elim⟩, ⟨Or.inl a9, fun h => absurd (a9.symm.trans h) (by decide)⟩, fun r v hr hv => ⟨0, by decide, b0_b r hr v hv⟩, fun e he => ⟨0, by decide, b0_d e he⟩, Or.inl w3, ⟨⟨by decide, m6⟩, fun k hk => absurd hk (Nat.not_lt_zero k), fun k _ hk => absurd hk (Nat.not_lt_zero k), Or.inl m10, fun h => absurd (m10.symm.trans h) (by decide)⟩, fun j hj => ⟨⟨fun h => absurd h (nx j hj), fun h => absurd (b0_w j hj).1 h⟩, fun h => absurd h (nx j hj)⟩, fun k hk => absurd hk (Nat.not_lt_zero k), ⟨by rw [m10, a9], fun h => absurd (a9.symm.trans h) (by decide)⟩, fun j hj => ⟨fun _ => (b0_w j hj).2, fun h => absurd (b0_w j hj).1 h⟩, fun k hk => absurd hk (Nat.not_lt_zero k), ⟨0, by decide, y1, y2, fun i hi => absurd hi (Nat.not_lt_zero i)⟩⟩
theorem ZI.jnn {σ : mm_S} {n m : Nat} (Z : ZI σ n m) : Jn σ n := by
  refine ⟨Z.ck.Jr, ⟨Z.mk.jn.1, Z.mk.jn.2, fun k hk => ?_⟩, fun a b ha hb => ?_⟩
  · obtain ⟨x, y, hx, hy, _, _, _, ex, ey⟩ := Z.mk.je k hk
    rw [ex, ey]
    exact ⟨pk_in x 9 hx, pk_in y 9 hy⟩
  · obtain ⟨i, hi, rfl⟩ := xd_1 ha
    obtain ⟨j, hj, rfl⟩ := xd_1 hb
    rw [nI_clamp (by omega), Gj_hs Z.ck hi ((Z.ck.dr i hi).mp ha) hj]
    constructor
    · rintro ⟨k, hk, h⟩
      refine ⟨k, hk, ?_⟩
      unfold mjn
      rw [(Z.jj k hk).1, (Z.jj k hk).2]
      exact h
    · rintro ⟨k, hk, h⟩
      refine ⟨k, hk, ?_⟩
      unfold mjn at h
      rw [(Z.jj k hk).1, (Z.jj k hk).2] at h
      exact h
