/-! class: the places end -/
/-- HouseDesk$Places.raise -/
theorem c_73 {d : Nat} {Q : mm_Q} {x1 x2 x3 : Int32} {σ : mm_S} (H1 : vp_in x1 9) (H2 : vp_in x2 4) (q0 : x3 ≤ (σ (62 + 1 + x1.toNatClampNeg) x2.toNatClampNeg) → Q (none) σ) (q1 : ¬ (x3 ≤ (σ (62 + 1 + x1.toNatClampNeg) x2.toNatClampNeg)) → Q (none) (mm_up (mm_up σ (62 + 1 + x1.toNatClampNeg) x2.toNatClampNeg x3) 8 2 (1 : Int32))) : mD (d + 1) 73 [.ref 8, .int x1, .int x2, .int x3] σ Q := ke_73 (kb_73_0 H1 H2 (fun g0 => (kb_73_26 (q0 g0))) (fun g0 => (kb_73_12 H1 H2 (q1 g0))))
/-- what settle may change -/
def PI (τ0 τ : mm_S) : Prop := ∀ c, c ≠ 8 → (c < 63 ∨ 72 < c) → τ c = τ0 c
/-- what the places stand on -/
def PG (τ : mm_S) (n : Nat) : Prop := (n ≤ 21 ∧ τ 1 12 = nI n) ∧ (∀ k, k < n → ∃ a b, a < 9 ∧ b < 9 ∧ τ 16 k = nI a ∧ τ 17 k = nI b) ∧ DG τ
theorem PI_up {τ0 τ : mm_S} {c j : Nat} {x : Int32} (I : PI τ0 τ) (h : c = 8 ∨ (62 < c ∧ c < 73)) : PI τ0 (mm_up τ c j x) := fun c' h1 h2 => by rw [mm_up_n (by omega)]; exact I c' h1 h2
theorem c_73s {d i p : Nat} {Q : mm_Q} {τ0 τ : mm_S} {x : Int32} (I : PI τ0 τ) (hi : i < 9) (hp : p < 4) (q : ∀ τ', PI τ0 τ' → Q none τ') : mD (d + 1) 73 [.ref 8, .int (nI i), .int (nI p), .int x] τ Q := by
  refine c_73 (pk_in i 9 hi) (pk_in p 4 hp) (fun _ => q τ I) (fun _ => q _ ?_)
  rw [nI_clamp (show i < 2 ^ 31 by omega)]
  exact PI_up (PI_up I (by omega)) (by omega)
theorem ax_n : ∀ w, w < 4 → nI w >>> ((1 : Int32) &&& 31) = nI (w / 2) ∧ w / 2 < 2 ∧ (1 : Int32) - nI (w / 2) = nI (1 - w / 2) := by decide
theorem PG_e {τ0 τ : mm_S} {n e : Nat} (G : PG τ0 n) (I : PI τ0 τ) (he : e < n) : ∃ a b x, a < 9 ∧ b < 9 ∧ x < 2 ∧ τ 16 (nI e).toNatClampNeg = nI a ∧ τ 17 (nI e).toNatClampNeg = nI b ∧ f_74 τ (nI e) = nI x ∧ (1 : Int32) - nI x = nI (1 - x) ∧ vp_in (nI e) 21 := by
  obtain ⟨⟨n21, _⟩, je, dg⟩ := G
  obtain ⟨a, b, ha, hb, e1, e2⟩ := je e he
  obtain ⟨w, hw, ew⟩ := dg e (by omega)
  have ce : (nI e).toNatClampNeg = e := nI_clamp (by omega)
  obtain ⟨a1, a2, a3⟩ := ax_n w hw
  refine ⟨a, b, w / 2, ha, hb, a2, by rw [ce, I 16 (by omega) (by omega)]; exact e1, by rw [ce, I 17 (by omega) (by omega)]; exact e2, ?_, a3, pk_in e 21 (by omega)⟩
  unfold f_74
  rw [ce, I 45 (by omega) (by omega), ew]
  exact a1
theorem c_75s {d n e : Nat} {Q : mm_Q} {τ0 τ : mm_S} (G : PG τ0 n) (I : PI τ0 τ) (he : e < n) (q : ∀ τ', PI τ0 τ' → Q none τ') : mD (d + 2) 75 [.ref 8, .int (nI e)] τ Q := by
  obtain ⟨a, b, x, ha, hb, hx, e16, e17, e74, ex, iv⟩ := PG_e G I he
  have x2 : nI x + (2 : Int32) = nI (x + 2) := nI_add x 2
  have fin : ∀ (x3 : Int32) (y4 y5 : Nat) (τ : mm_S), y4 < 9 → y5 < 9 → PI τ0 τ → mw (d + 1) mt_75 Q 98 [some (.ref 8), some (.int (nI e)), some (.int (nI x)), some (.int x3), some (.int (nI y4)), some (.int (nI y5))] [] τ := fun x3 y4 y5 τ h4 h5 I => by
    refine kb_75_98 (pk_in y4 9 h4) (by rw [x2]; exact pk_in (x + 2) 4 (by omega)) ?_
    exact c_73s I h5 (by omega) (fun τ' I' => kb_75_116 (q τ' I'))
  have go : ∀ (x3 : Int32) (y4 : Nat), y4 < 9 → (mw (d + 1) mt_75 Q 57 [some (.ref 8), some (.int (nI e)), some (.int (nI x)), some (.int x3), some (.int (nI y4)), none] [] τ ∧ mw (d + 1) mt_75 Q 69 [some (.ref 8), some (.int (nI e)), some (.int (nI x)), some (.int x3), some (.int (nI y4)), none] [] τ) := fun x3 y4 h4 => by
    constructor
    · refine kb_75_57 iv (by rw [e17]; exact pk_in b 9 hb) (pk_in x 4 (by omega)) ?_
      rw [x2, e17]
      exact c_73s I h4 (by omega) (fun τ' I' => fin x3 y4 b τ' h4 hb I')
    · refine kb_75_69 iv (by rw [e16]; exact pk_in a 9 ha) (pk_in x 4 (by omega)) ?_
      rw [x2, e16]
      exact c_73s I h4 (by omega) (fun τ' I' => fin x3 y4 a τ' h4 ha I')
  refine ke_75 (kb_75_0 (c_74 iv ?_))
  rw [e74]
  refine kb_75_5 iv (fun _ => kb_75_20 (fun z => absurd z (by decide)) (fun _ => kb_75_30 iv ?_ ?_)) (fun _ => kb_75_24 (fun _ => kb_75_42 iv ?_ ?_) (fun z => absurd rfl z))
  · rw [e16]; exact fun _ => (go _ a ha).2
  · rw [e16]; exact fun _ => (go _ a ha).1
  · rw [e17]; exact fun _ => (go _ b hb).2
  · rw [e17]; exact fun _ => (go _ b hb).1
theorem c_76s {d n e : Nat} {Q : mm_Q} {τ0 τ : mm_S} (G : PG τ0 n) (I : PI τ0 τ) (he : e < n) (q : ∀ τ', PI τ0 τ' → Q none τ') : mD (d + 3) 76 [.ref 8, .int (nI e)] τ Q := by
  obtain ⟨a, b, x, ha, hb, hx, e16, e17, e74, ex, iv⟩ := PG_e G I he
  have x2 : nI (1 - x) + (2 : Int32) = nI (1 - x + 2) := nI_add _ 2
  refine ke_76 (kb_76_0 (c_74 iv ?_))
  rw [e74]
  refine kb_76_6 ?_
  rw [ex]
  refine c_78 ?_ ?_ ?_ ?_ ?_
  all_goals first
    | exact iv
    | (rw [e16]; exact pk_in a 9 ha)
    | (rw [e17]; exact pk_in b 9 hb)
    | (rw [e74, ex]; exact pk_in (1 - x) 4 (by omega))
    | skip
  refine kb_76_13 iv iv ?_
  rw [e16, x2]
  refine c_73s I ha (by omega) (fun τ' I' => kb_76_41 iv ?_)
  obtain ⟨a', b', x', ha', hb', hx', e16', e17', e74', ex', iv'⟩ := PG_e G I' he
  rw [e17', x2]
  exact c_73s I' hb' (by omega) (fun τ'' I'' => kb_76_58 (q τ'' I''))
theorem c_77s {d x : Nat} {Q : mm_Q} {τ0 τ : mm_S} {s : Int32} (I : PI τ0 τ) (hx : x < 2) (q : ∀ τ', PI τ0 τ' → Q none τ') : mD (d + 3) 77 [.ref 8, .int (nI x), .int s] τ Q := by
  have x2 : nI x + (2 : Int32) = nI (x + 2) := nI_add x 2
  refine ke_77 (kb_77_0 ?_)
  refine lp_dn (P := fun i => ∀ y, mw (d + 2) mt_77 Q 5 [some (.ref 8), some (.int (nI x)), some (.int s), some (.int y), some (.int (nI i))] [] τ) 9 ?_ ?_ 0 (by omega) 0
  · intro y
    refine kb_77_5 (fun _ => kb_77_47 ?_) (fun g => absurd (by decide) g)
    refine lp_dn (P := fun i => ∀ τ, PI τ0 τ → mw (d + 2) mt_77 Q 50 [some (.ref 8), some (.int (nI x)), some (.int s), some (.int y), some (.int (nI i))] [] τ) 9 ?_ ?_ 0 (by omega) τ I
    · intro τ I
      exact kb_77_50 (fun _ => kb_77_86 (pk_in x 2 hx) (q _ (PI_up I (by omega)))) (fun g => absurd (by decide) g)
    · intro i hi ih τ I
      refine kb_77_50 (fun g => absurd g (hI_nle (a := 9) (by omega) hi)) (fun _ => kb_77_57 (c_53 (pk_in i 13 (by omega)) (kb_77_67 (fun _ => kb_77_80 (by rw [nI_1]; exact ih τ I)) (fun _ => kb_77_70 ?_))))
      rw [x2]
      exact c_73s I hi (by omega) (fun τ' I' => kb_77_80 (by rw [nI_1]; exact ih τ' I'))
  · intro i hi ih y
    refine kb_77_5 (fun g => absurd g (hI_nle (a := 9) (by omega) hi)) (fun _ => kb_77_12 (c_53 (pk_in i 13 (by omega)) (kb_77_22 (fun _ => kb_77_41 (by rw [nI_1]; exact ih y)) (fun _ => kb_77_25 (pk_in i 9 hi) (by rw [x2]; exact pk_in (x + 2) 4 (by omega)) (c_151 (kb_77_40 (by rw [nI_1]; exact ih _)))))))
theorem c_72 {d n : Nat} {Q : mm_Q} {τ : mm_S} (G : PG τ n) (q : ∀ τ', PI τ τ' → Q none τ') : mD (d + 4) 72 [.ref 8] τ Q := by
  have n21 := G.1.1
  refine ke_72 (kb_72_0 ?_)
  refine lp_dn (P := fun i => ∀ ρ, PI τ ρ → ∀ o2, mw (d + 3) mt_72 Q 2 [some (.ref 8), some (.int (nI i)), o2] [] ρ) 9 ?_ ?_ 0 (by omega) τ (fun _ _ _ => rfl) none
  · intro ρ I o2
    refine kb_72_2 (fun _ => kb_72_36 ?_) (fun g => absurd (by decide) g)
    refine lp_dn (P := fun k => ∀ ρ, PI τ ρ → ∀ o2, mw (d + 3) mt_72 Q 43 [some (.ref 8), some (.int (nI k)), o2] [] ρ) 100 ?_ ?_ 0 (by omega) _ (PI_up I (by omega)) o2
    · intro ρ I o2
      exact kb_72_43 (fun _ => kb_72_181 (q ρ I)) (fun g => absurd (by decide) g)
    · intro k hk ih ρ I o2
      refine kb_72_43 (fun g => absurd g (hI_nle (a := 100) (by omega) hk)) (fun _ => kb_72_49 (fun _ => kb_72_181 (q ρ I)) (fun _ => kb_72_56 ?_))
      refine lp_dn (P := fun e => ∀ ρ, PI τ ρ → mw (d + 3) mt_72 Q 63 [some (.ref 8), some (.int (nI k)), some (.int (nI e))] [] ρ) n ?_ ?_ 0 (Nat.zero_le n) _ (PI_up I (by omega))
      · intro ρ I
        have e12 : ρ 1 12 = nI n := by rw [I 1 (by omega) (by omega)]; exact G.1.2
        refine kb_72_63 (fun _ => kb_72_90 ?_) (fun g => absurd (by rw [e12]; exact hI_le (by omega) (Nat.le_refl n)) g)
        refine lp_dn (P := fun i => ∀ ρ, PI τ ρ → mw (d + 3) mt_72 Q 92 [some (.ref 8), some (.int (nI k)), some (.int (nI i))] [] ρ) 9 ?_ ?_ 0 (by omega) ρ I
        · intro ρ I
          refine kb_72_92 (fun _ => kb_72_163 (c_77s (x := 0) I (by omega) (fun τ1 I1 => kb_72_169 (c_77s (x := 1) I1 (by omega) (fun τ2 I2 => kb_72_175 ?_))))) (fun g => absurd (by decide) g)
          rw [nI_1]
          exact ih τ2 I2 _
        · intro i hi ihi ρ I
          have i4 : ∀ p, p < 4 → vp_in (nI p) 4 := fun p hp => pk_in p 4 hp
          refine kb_72_92 (fun g => absurd g (hI_nle (a := 9) (by omega) hi)) (fun _ => kb_72_98 (c_7 (kb_72_106 (fun _ => kb_72_157 (by rw [nI_1]; exact ihi ρ I)) (fun _ => kb_72_109 (pk_in i 9 hi) (i4 0 (by omega)) (pk_in i 9 hi) (c_73s (p := 2) I hi (by omega) (fun τ1 I1 => kb_72_133 (pk_in i 9 hi) (i4 1 (by omega)) (pk_in i 9 hi) (c_73s (p := 3) I1 hi (by omega) (fun τ2 I2 => kb_72_157 (by rw [nI_1]; exact ihi τ2 I2)))))))))
      · intro e he ihe ρ I
        have e12 : ρ 1 12 = nI n := by rw [I 1 (by omega) (by omega)]; exact G.1.2
        refine kb_72_63 (fun g => absurd g (by rw [e12]; exact hI_nle (by omega) he)) (fun _ => kb_72_74 (c_75s G I he (fun τ1 I1 => kb_72_79 (c_76s G I1 he (fun τ2 I2 => kb_72_84 ?_)))))
        rw [nI_1]
        exact ihe τ2 I2
  · intro i hi ih ρ I o2
    refine kb_72_2 (fun g => absurd g (hI_nle (a := 9) (by omega) hi)) (fun _ => kb_72_8 ?_)
    refine lp_dn (P := fun p => ∀ ρ, PI τ ρ → mw (d + 3) mt_72 Q 10 [some (.ref 8), some (.int (nI i)), some (.int (nI p))] [] ρ) 4 ?_ ?_ 0 (by omega) ρ I
    · intro ρ I
      exact kb_72_10 (fun _ => kb_72_30 (by rw [nI_1]; exact ih ρ I _)) (fun g => absurd (by decide) g)
    · intro p hp ihp ρ I
      refine kb_72_10 (fun g => absurd g (hI_nle (a := 4) (by omega) hp)) (fun _ => kb_72_15 (pk_in i 9 hi) (pk_in p 4 hp) ?_)
      rw [nI_1, nI_clamp (show i < 2 ^ 31 by omega)]
      exact ihp _ (PI_up I (by omega))
