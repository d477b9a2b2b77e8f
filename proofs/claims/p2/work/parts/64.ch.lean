/-! class: weigh, isSooner, shiftOpen, canBeMet, choose: they end and leave the sketch alone -/
/-- HouseDesk$Layout.shiftOpen, from 0 -/
theorem ks_65_0 {d : Nat} {Q : mm_Q} {x1 x2 : Int32} {σ : mm_S} (q0 : mw d mt_65 Q 4 [some (.ref 7), some (.int x1), some (.int x2), some (.int ((3 : Int32) * x1))] [] σ) : mD (d + 1) 65 [.ref 7, .int x1, .int x2] σ Q := ke_65 (kb_65_0 q0)
/-- HouseDesk$Layout.shiftOpen, from 4 -/
theorem ks_65_4 {d : Nat} {Q : mm_Q} {x1 x2 x3 : Int32} {σ : mm_S} (H1 : ¬ ((((3 : Int32) * x1) + (3 : Int32)) ≤ x3) → vp_in x3 126) (H2 : ¬ ((((3 : Int32) * x1) + (3 : Int32)) ≤ x3) → vp_in (σ 46 x3.toNatClampNeg) 9) (q0 : (((3 : Int32) * x1) + (3 : Int32)) ≤ x3 → Q (none) σ) (q1 : ¬ ((((3 : Int32) * x1) + (3 : Int32)) ≤ x3) → mw d mt_65 Q 4 [some (.ref 7), some (.int x1), some (.int x2), some (.int (x3 + 1))] [] (mm_up σ 49 (σ 46 x3.toNatClampNeg).toNatClampNeg ((σ 49 (σ 46 x3.toNatClampNeg).toNatClampNeg) + x2))) : mw d mt_65 Q 4 [some (.ref 7), some (.int x1), some (.int x2), some (.int x3)] [] σ := (kb_65_4 (fun g0 => (kb_65_34 (q0 g0))) (fun g0 => (kb_65_13 (H1 g0) (H2 g0) (H2 g0) (q1 g0))))
/-- HouseDesk$Layout.canBeMet, from 0 -/
theorem ks_66_0 {d : Nat} {Q : mm_Q} {x1 : Int32} {σ : mm_S} (q0 : mw d mt_66 Q 4 [some (.ref 7), some (.int x1), some (.int ((3 : Int32) * x1))] [] σ) : mD (d + 1) 66 [.ref 7, .int x1] σ Q := ke_66 (kb_66_0 q0)
/-- HouseDesk$Layout.canBeMet, from 4 -/
theorem ks_66_4 {d : Nat} {Q : mm_Q} {x1 x2 : Int32} {σ : mm_S} (H1 : ¬ ((((3 : Int32) * x1) + (3 : Int32)) ≤ x2) → vp_in x2 126) (H2 : ¬ ((((3 : Int32) * x1) + (3 : Int32)) ≤ x2) → vp_in (σ 46 x2.toNatClampNeg) 9) (q0 : (((3 : Int32) * x1) + (3 : Int32)) ≤ x2 → Q (some (.int (1 : Int32))) σ) (q1 : ¬ ((((3 : Int32) * x1) + (3 : Int32)) ≤ x2) → (σ 48 (σ 46 x2.toNatClampNeg).toNatClampNeg) ≤ (σ 49 (σ 46 x2.toNatClampNeg).toNatClampNeg) → mw d mt_66 Q 4 [some (.ref 7), some (.int x1), some (.int (x2 + 1))] [] σ) (q2 : ¬ ((((3 : Int32) * x1) + (3 : Int32)) ≤ x2) → ¬ ((σ 48 (σ 46 x2.toNatClampNeg).toNatClampNeg) ≤ (σ 49 (σ 46 x2.toNatClampNeg).toNatClampNeg)) → Q (some (.int (0 : Int32))) σ) : mw d mt_66 Q 4 [some (.ref 7), some (.int x1), some (.int x2)] [] σ := (kb_66_4 (fun g0 => (kb_66_46 (q0 g0))) (fun g0 => (kb_66_13 (H1 g0) (H2 g0) (H1 g0) (H2 g0) (fun g1 => (kb_66_40 (q1 g0 g1))) (fun g1 => (kb_66_38 (q2 g0 g1))))))
def dv (w : Nat) : Nat := if w = 0 then 2 else if w = 1 then 0 else if w = 2 then 3 else 1
theorem mm_tab_n : ∀ w, w < 4 → mm_tab w = .int (nI (dv w)) ∧ dv w < 4 := by
  intro w hw
  match w, hw with
  | 0, _ => exact ⟨rfl, by decide⟩
  | 1, _ => exact ⟨rfl, by decide⟩
  | 2, _ => exact ⟨rfl, by decide⟩
  | 3, _ => exact ⟨rfl, by decide⟩
  | w + 4, h => omega
theorem LI_k {τ0 τ : mm_S} (I : LI τ0 τ) {c : Nat} (h : c = 1 ∨ c = 5 ∨ c = 16 ∨ c = 17 ∨ c = 46 ∨ c = 60 ∨ c = 61) : τ c = τ0 c := I.1 c (by omega) (by omega) (by omega) (by omega) (by omega) (by omega)
theorem c_154s {d n f R e : Nat} {V : Nat → Nat → Prop} {Q : mm_Q} {τ0 τ : mm_S} (G : LG τ0 V n f R) (I : LI τ0 τ) (he : e < n) (q : ∀ w, w < 4 → Q (some (.int (nI w))) τ) : mD (d + 1) 154 [.ref 7, .int (nI e)] τ Q := by
  have n21 := G.jn.1
  obtain ⟨a, b, ha, hb, e1, e2⟩ := G.je e he
  have ce : (nI e).toNatClampNeg = e := nI_clamp (by omega)
  have t16 : τ 16 (nI e).toNatClampNeg = nI a := by rw [ce, LI_k I (by omega)]; exact e1
  have t17 : τ 17 (nI e).toNatClampNeg = nI b := by rw [ce, LI_k I (by omega)]; exact e2
  obtain ⟨w, hw, ew⟩ := I.2.2.1 a b ha (by omega)
  have br : ms_br τ (nI e) = nI w := by
    unfold ms_br
    rw [t16, t17, nI_clamp (by omega), nI_clamp (by omega)]; exact ew
  refine c_154 ⟨pk_in e 21 (by omega), by rw [t16]; exact pk_in a 9 ha, by rw [t17]; exact pk_in b 13 (by omega), by rw [br]; exact pk_in w 4 hw⟩ ?_
  unfold ms_dir
  rw [br, nI_clamp (by omega), (mm_tab_n w hw).1]
  exact q _ (mm_tab_n w hw).2
theorem c_71 {d n f R : Nat} {V : Nat → Nat → Prop} {Q : mm_Q} {τ0 τ : mm_S} (G : LG τ0 V n f R) (I : LI τ0 τ) (q : ∀ x, x = 0 ∨ x = 1 → Q (some (.int x)) τ) : mD (d + 2) 71 [.ref 7] τ Q := by
  have n21 := G.jn.1
  have e12 : τ 1 12 = nI n := by rw [LI_k I (by omega)]; exact G.jn.2
  refine ke_71 (kb_71_0 ?_)
  refine lp_dn (P := fun e => ∀ o2, mw (d + 1) mt_71 Q 2 [some (.ref 7), some (.int (nI e)), o2] [] τ) n ?_ ?_ 0 (Nat.zero_le n) none
  · intro o2
    exact kb_71_2 (fun _ => kb_71_51 (q 0 (Or.inl rfl))) (fun g => absurd (by rw [e12]; exact hI_le (by omega) (Nat.le_refl n)) g)
  · intro e he ih o2
    refine kb_71_2 (fun g => absurd g (by rw [e12]; exact hI_nle (by omega) he)) (fun _ => kb_71_13 (c_154s G I he (fun w hw => kb_71_18 (pk_in e 21 (by omega)) (fun _ => kb_71_45 (by rw [nI_1]; exact ih _)) (fun _ => kb_71_29 (pk_in e 21 (by omega)) (fun _ => kb_71_43 (q 0 (Or.inl rfl))) (fun _ => kb_71_39 (q 1 (Or.inr rfl)))))))
theorem c_67 {d n f R : Nat} {V : Nat → Nat → Prop} {Q : mm_Q} {τ0 τ : mm_S} (G : LG τ0 V n f R) (I : LI τ0 τ) (q : ∀ τ', LI τ0 τ' → Q none τ') : mD (d + 4) 67 [.ref 7] τ Q := by
  have n21 := G.jn.1
  have r9 := G.rr.1
  have store : ∀ τ, LI τ0 τ → ∀ x1, mw (d + 3) mt_67 Q 49 [some (.ref 7), some (.int x1)] [] τ := by
    intro τ I x1
    refine kb_67_49 ?_
    have I1 : LI τ0 (mm_up τ 7 8 1) := by
      obtain ⟨i1, i2, i3, i4⟩ := I
      exact ⟨fun c h1 h2 h3 h4 h5 h6 => by rw [mm_up_n h1]; exact i1 c h1 h2 h3 h4 h5 h6, Or.inr mm_up_s, fun r v hr hv => by rw [mm_up_n (by omega)]; exact i3 r v hr hv, fun e he => by rw [mm_up_n (by omega)]; exact i4 e he⟩
    refine lp_dn (P := fun e => ∀ τ, LI τ0 τ → mw (d + 3) mt_67 Q 56 [some (.ref 7), some (.int (nI e))] [] τ) n ?_ ?_ 0 (Nat.zero_le n) _ I1
    · intro τ I
      have e12 : τ 1 12 = nI n := by rw [LI_k I (by omega)]; exact G.jn.2
      exact kb_67_56 (fun _ => kb_67_84 (q τ I)) (fun g => absurd (by rw [e12]; exact hI_le (by omega) (Nat.le_refl n)) g)
    · intro e he ih τ I
      have e12 : τ 1 12 = nI n := by rw [LI_k I (by omega)]; exact G.jn.2
      refine kb_67_56 (fun g => absurd g (by rw [e12]; exact hI_nle (by omega) he)) (fun _ => kb_67_67 (c_154s G I he (fun w hw => kb_67_77 (pk_in e 21 (by omega)) ?_)))
      rw [nI_1, nI_clamp (show e < 2 ^ 31 by omega)]
      refine ih _ ?_
      obtain ⟨i1, i2, i3, i4⟩ := I
      refine ⟨fun c h1 h2 h3 h4 h5 h6 => by rw [mm_up_n h2]; exact i1 c h1 h2 h3 h4 h5 h6, by rw [mm_up_n (by decide)]; exact i2, fun r v hr hv => by rw [mm_up_n (by omega)]; exact i3 r v hr hv, fun e' he' => ?_⟩
      by_cases ee : e' = e
      · subst ee; exact ⟨w, hw, mm_up_s⟩
      · rw [mm_up_o ee]; exact i4 e' he'
  refine ke_67 (kb_67_0 ?_)
  refine lp_dn (P := fun k => ∀ τ, LI τ0 τ → mw (d + 3) mt_67 Q 2 [some (.ref 7), some (.int (nI k))] [] τ) R ?_ ?_ 0 (Nat.zero_le R) τ I
  · intro τ I
    have e11 : τ 1 11 = nI R := by rw [LI_k I (by omega)]; exact G.rr.2
    refine kb_67_2 (fun _ => kb_67_35 (fun _ => store τ I _) (fun _ => kb_67_42 (c_71 G I (fun x hx => kb_67_46 (fun _ => kb_67_84 (q τ I)) (fun _ => store τ I _))))) (fun g => absurd (by rw [e11]; exact hI_le (by omega) (Nat.le_refl R)) g)
  · intro k hk ih τ I
    have e11 : τ 1 11 = nI R := by rw [LI_k I (by omega)]; exact G.rr.2
    obtain ⟨r, v, hr, hv, e1, e2⟩ := G.od k hk
    have ck : (nI k).toNatClampNeg = k := nI_clamp (by omega)
    refine kb_67_2 (fun g => absurd g (by rw [e11]; exact hI_nle (by omega) hk)) (fun _ => kb_67_13 (pk_in k 9 (by omega)) (pk_in k 9 (by omega)) ?_)
    rw [ck, LI_k I (by omega), LI_k I (by omega), e1, e2]
    exact c_68 G I hr hv (fun τ' I' => kb_67_29 (by rw [nI_1]; exact ih τ' I'))
theorem nI_mul (a b : Nat) : nI a * nI b = nI (a * b) := (Int32.ofNat_mul a b).symm
theorem nI_3 {g : Nat} : (3 : Int32) * nI g = nI (3 * g) := nI_mul 3 g
theorem nI_a3 {g : Nat} : nI g + (3 : Int32) = nI (g + 3) := nI_add g 3
theorem LI_o {τ0 τ : mm_S} {c j : Nat} {x : Int32} (I : LI τ0 τ) (h : c = 47 ∨ c = 48 ∨ c = 49) : LI τ0 (mm_up τ c j x) := by
  obtain ⟨i1, i2, i3, i4⟩ := I
  exact ⟨fun c' h1 h2 h3 h4 h5 h6 => by rw [mm_up_n (by omega)]; exact i1 c' h1 h2 h3 h4 h5 h6, by rw [mm_up_n (by omega)]; exact i2, fun r v hr hv => by rw [mm_up_n (by omega)]; exact i3 r v hr hv, fun e he => by rw [mm_up_n (by omega)]; exact i4 e he⟩
theorem c_65 {d n f R g : Nat} {V : Nat → Nat → Prop} {Q : mm_Q} {τ0 τ : mm_S} {x : Int32} (G : LG τ0 V n f R) (I : LI τ0 τ) (hg : g < f) (q : ∀ τ', LI τ0 τ' → Q none τ') : mD (d + 1) 65 [.ref 7, .int (nI g), .int x] τ Q := by
  have f42 := G.fc.1
  refine ks_65_0 ?_
  rw [nI_3]
  have key := lp_dn (P := fun i => ∀ τ, LI τ0 τ → mw d mt_65 Q 4 [some (.ref 7), some (.int (nI g)), some (.int x), some (.int (nI (3 * g + i)))] [] τ) 3 ?_ ?_ 0 (by omega) τ I
  · exact key
  · intro τ I
    have g3 : (3 : Int32) * nI g + 3 ≤ nI (3 * g + 3) := by rw [nI_3, nI_a3]; exact hI_le (by omega) (Nat.le_refl _)
    exact ks_65_4 (fun z => absurd g3 z) (fun z => absurd g3 z) (fun _ => q τ I) (fun z => absurd g3 z)
  · intro i hi ih τ I
    have g3 : ¬ ((3 : Int32) * nI g + 3 ≤ nI (3 * g + i)) := by rw [nI_3, nI_a3]; exact hI_nle (by omega) (by omega)
    obtain ⟨b, hb, eb⟩ := G.bd g i hg hi
    have e46 : τ 46 (nI (3 * g + i)).toNatClampNeg = nI b := by rw [nI_clamp (by omega), LI_k I (by omega)]; exact eb
    refine ks_65_4 (fun _ => pk_in (3 * g + i) 126 (by omega)) (fun _ => by rw [e46]; exact pk_in b 9 hb) (fun z => absurd z g3) (fun _ => ?_)
    rw [nI_1]
    exact ih _ (LI_o I (by omega))
theorem c_66 {d n f R g : Nat} {V : Nat → Nat → Prop} {Q : mm_Q} {τ0 τ : mm_S} (G : LG τ0 V n f R) (I : LI τ0 τ) (hg : g < f) (q : ∀ x, x = 0 ∨ x = 1 → Q (some (.int x)) τ) : mD (d + 1) 66 [.ref 7, .int (nI g)] τ Q := by
  have f42 := G.fc.1
  refine ks_66_0 ?_
  rw [nI_3]
  have key := lp_dn (P := fun i => mw d mt_66 Q 4 [some (.ref 7), some (.int (nI g)), some (.int (nI (3 * g + i)))] [] τ) 3 ?_ ?_ 0 (by omega)
  · exact key
  · have g3 : (3 : Int32) * nI g + 3 ≤ nI (3 * g + 3) := by rw [nI_3, nI_a3]; exact hI_le (by omega) (Nat.le_refl _)
    exact ks_66_4 (fun z => absurd g3 z) (fun z => absurd g3 z) (fun _ => q 1 (Or.inr rfl)) (fun z => absurd g3 z) (fun z => absurd g3 z)
  · intro i hi ih
    have g3 : ¬ ((3 : Int32) * nI g + 3 ≤ nI (3 * g + i)) := by rw [nI_3, nI_a3]; exact hI_nle (by omega) (by omega)
    obtain ⟨b, hb, eb⟩ := G.bd g i hg hi
    have e46 : τ 46 (nI (3 * g + i)).toNatClampNeg = nI b := by rw [nI_clamp (by omega), LI_k I (by omega)]; exact eb
    refine ks_66_4 (fun _ => pk_in (3 * g + i) 126 (by omega)) (fun _ => by rw [e46]; exact pk_in b 9 hb) (fun z => absurd z g3) (fun _ _ => ?_) (fun _ _ => q 0 (Or.inl rfl))
    rw [nI_1]
    exact ih
theorem c_64 {n f R : Nat} {V : Nat → Nat → Prop} {τ0 : mm_S} (G : LG τ0 V n f R) : ∀ (e d g : Nat) (Q : mm_Q) (τ : mm_S), g + e = f → LI τ0 τ → (∀ τ', LI τ0 τ' → Q none τ') → mD (d + e + 5) 64 [.ref 7, .int (nI g)] τ Q := by
  have f42 := G.fc.1
  intro e
  induction e with
  | zero =>
    intro d g Q τ hg I q
    have e56 : τ 5 6 = nI f := by rw [LI_k I (by omega)]; exact G.fc.2
    refine ke_64 (kb_64_0 (fun z => absurd z (by rw [e56]; exact nI_nlt (by omega) (by omega))) (fun _ => kb_64_11 (c_67 G I (fun τ' I' => kb_64_15 (q τ' I')))))
  | succ e ih =>
    intro d g Q τ hg I q
    have hgf : g < f := by omega
    have e56 : τ 5 6 = nI f := by rw [LI_k I (by omega)]; exact G.fc.2
    show mD (d + e + 5 + 1) 64 [.ref 7, .int (nI g)] τ Q
    refine ke_64 (kb_64_0 (fun _ => kb_64_16 (c_65 (d := d + e + 4) G I hgf (fun τ1 I1 => kb_64_22 ?_))) (fun z => absurd (by rw [e56]; exact nI_lt hgf (by omega)) z))
    rw [nI_3]
    have key := lp_dn (P := fun i => ∀ τ, LI τ0 τ → ∀ o3, mw (d + e + 5) mt_64 Q 26 [some (.ref 7), some (.int (nI g)), some (.int (nI (3 * g + i))), o3] [] τ) 3 ?_ ?_ 0 (by omega) τ1 I1 none
    · exact key
    · intro τ I o3
      have g3 : (3 : Int32) * nI g + 3 ≤ nI (3 * g + 3) := by rw [nI_3, nI_a3]; exact hI_le (by omega) (Nat.le_refl _)
      exact kb_64_26 (fun _ => kb_64_99 (c_65 (d := d + e + 4) G I hgf (fun τ2 I2 => kb_64_105 (q τ2 I2)))) (fun z => absurd g3 z)
    · intro i hi ihi τ I o3
      have g3 : ¬ ((3 : Int32) * nI g + 3 ≤ nI (3 * g + i)) := by rw [nI_3, nI_a3]; exact hI_nle (by omega) (by omega)
      obtain ⟨b, hb, eb⟩ := G.bd g i hgf hi
      have e46 : τ 46 (nI (3 * g + i)).toNatClampNeg = nI b := by rw [nI_clamp (by omega), LI_k I (by omega)]; exact eb
      have iv : vp_in (τ 46 (nI (3 * g + i)).toNatClampNeg) 9 := by rw [e46]; exact pk_in b 9 hb
      have back : ∀ τ, LI τ0 τ → mw (d + e + 5) mt_64 Q 83 [some (.ref 7), some (.int (nI g)), some (.int (nI (3 * g + i))), some (.int (nI b))] [] τ := fun τ I => by
        refine kb_64_83 (pk_in b 9 hb) (pk_in b 9 hb) ?_
        rw [nI_1]
        exact ihi _ (LI_o I (by omega)) _
      refine kb_64_26 (fun z => absurd z g3) (fun _ => kb_64_35 (pk_in (3 * g + i) 126 (by omega)) (pk_in g 42 (by omega)) iv iv iv (fun _ => ?_) (fun _ => ?_))
      · rw [e46]
        exact back _ (LI_o (LI_o I (by omega)) (by omega))
      · rw [e46]
        refine kb_64_68 (c_66 (d := d + e + 4) G (LI_o (LI_o I (by omega)) (by omega)) hgf (fun x _ => kb_64_73 (fun _ => back _ (LI_o (LI_o I (by omega)) (by omega))) (fun _ => kb_64_76 ?_)))
        rw [nI_1]
        exact ih d (g + 1) _ _ (by omega) (LI_o (LI_o I (by omega)) (by omega)) (fun τ' I' => back τ' I')
