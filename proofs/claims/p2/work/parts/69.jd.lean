/-! class: judge and plan end, and leave the sketch alone -/
def jfr (σ τ : mm_S) : Prop := ∀ c, (c = 0 ∨ c = 1 ∨ c = 9 ∨ c = 10 ∨ (11 ≤ c ∧ c ≤ 19) ∨ 73 ≤ c) → τ c = σ c
def COk (σ : mm_S) : Prop := (σ 1 9 = 0 ∨ σ 1 9 = 1) ∧ (σ 1 9 = 1 → ∀ i, i < 4 → ∃ a, a < 9 ∧ σ 19 i = nI a)
theorem BG_cg {σ τ : mm_S} (h : ∀ c, 51 ≤ c → c ≤ 59 → τ c = σ c) (B : BG σ) : BG τ := fun r v hr hv => by rw [h _ (by omega) (by omega)]; exact B r v hr hv
theorem DG_cg {σ τ : mm_S} (h : τ 45 = σ 45) (B : DG σ) : DG τ := fun e he => by rw [h]; exact B e he
def WN (τ : mm_S) : Prop := τ 3 1 = 0 ∨ τ 3 1 = 2 ∨ τ 3 1 = 3
theorem c_18 {d n m : Nat} {Q : mm_Q} {σ : mm_S} (C : CK σ n m) (K0 : COk σ) (hB : BG σ) (hD : DG σ) (q : ∀ τ a, jfr σ τ → BG τ → DG τ → WN τ → Q (some (.int a)) τ) : mD (d + 62) 18 [.ref 2] σ Q := by
  refine ke_18 (kb_18_0 (c_19 (kb_18_7 ?_)))
  have F2 : ∀ c, c ≠ 2 → c ≠ 3 → (mm_up (mm_up (mm_up σ 3 1 (0 : Int32)) 2 4 (0 : Int32)) 2 5 (0 : Int32)) c = σ c := fun c h2 h3 => by rw [mm_up_n h2, mm_up_n h2, mm_up_n h3]
  have W0 : (mm_up (mm_up (mm_up σ 3 1 (0 : Int32)) 2 4 (0 : Int32)) 2 5 (0 : Int32)) 3 1 = 0 := by rw [mm_up_n (by decide), mm_up_n (by decide)]; exact mm_up_s
  generalize mm_up (mm_up (mm_up σ 3 1 (0 : Int32)) 2 4 (0 : Int32)) 2 5 (0 : Int32) = σ2 at F2 W0
  have C2 : CK σ2 n m := CK_cg (F2 1 (by decide) (by decide)) (F2 11 (by decide) (by decide)) (F2 12 (by decide) (by decide)) (F2 15 (by decide) (by decide)) (F2 16 (by decide) (by decide)) (F2 17 (by decide) (by decide)) C
  have J2 : ∀ τ, (∀ c, c ≠ 2 → c ≠ 3 → c ≠ 20 → (c < 5 ∨ c = 9 ∨ c = 10 ∨ (11 ≤ c ∧ c ≤ 19) ∨ 73 ≤ c) → τ c = σ2 c) → jfr σ τ := fun τ h c hc => by rw [h c (by omega) (by omega) (by omega) (by omega)]; exact F2 c (by omega) (by omega)
  have e11 : σ2 1 11 = nI (bc m 9) := C2.cr
  have b9 := bc_n m 9
  have B2 : BG σ2 := BG_cg (fun c h1 h2 => F2 c (by omega) (by omega)) hB
  have D2 : DG σ2 := DG_cg (F2 45 (by decide) (by decide)) hD
  refine c_23 C2.Jr (fun a b _ => ?_) (fun N _ => ?_)
  · refine kb_18_28 (fun z => absurd z (by decide)) (fun _ => kb_18_31 (q _ _ (J2 _ (fun c h2 h3 h20 _ => ?_)) (BG_cg (fun c h1 h2 => ?_) B2) (DG_cg ?_ D2) (Or.inr (Or.inl mm_up_s))))
    · unfold tw2; rw [mm_up_n h3, mm_up_n h20, mm_up_n h20]
    · unfold tw2; rw [mm_up_n (by omega), mm_up_n (by omega), mm_up_n (by omega)]
    · unfold tw2; rw [mm_up_n (by omega), mm_up_n (by omega), mm_up_n (by omega)]
  · refine kb_18_28 (fun _ => kb_18_33 (fun _ => kb_18_64 (q _ _ (J2 _ (fun _ _ _ _ _ => rfl)) B2 D2 (Or.inl W0))) (fun hr => kb_18_44 ?_)) (fun z => absurd rfl z)
    have h3 : 3 ≤ bc m 9 := by
      rcases Nat.lt_or_ge (bc m 9) 3 with y | y
      · exact absurd (by rw [e11]; exact (nI_ltI (b := 3) (by omega) (by omega)).mpr y) hr
      · exact y
    refine c_31 C2 (by omega) (fun Z => kb_18_51 (fun z => absurd z (by decide)) (fun _ => kb_18_54 ?_)) (fun _ => kb_18_51 (fun _ => kb_18_64 (q _ _ (J2 _ (fun _ _ _ _ _ => rfl)) B2 D2 (Or.inl W0))) (fun z => absurd rfl z))
    refine c_32 C2 N (by omega) (fun i hi mi => Cn_aj Z h3 hi mi) (fun τ s t L fr H W T O => kb_18_61 (fun z => absurd z (by decide)) (fun _ => kb_18_66 ?_)) (fun τ s t fr H W T _ => kb_18_61 (fun _ => kb_18_64 (q _ _ (J2 _ (fun c _ _ _ h => fr.1 c (by omega) (by omega))) (BG_cg (fun c h1 h2 => fr.1 c (by omega) (by omega)) B2) (DG_cg (fr.1 45 (by omega) (by omega)) D2) (Or.inl (by rw [fr.1 3 (by omega) (by omega)]; exact W0)))) (fun z => absurd rfl z))
    have AJ := wo_aj C2 H W.1 W.2.2.1 T.1
    refine c_39 C2 N (fun c h1 h2 => fr.1 c h1 h2) H W.1 W.2.2.1 T.1 O (fun τ1 f I => kb_18_73 ?_)
    obtain ⟨i1, i2, S, i4⟩ := I
    have k1 : ∀ c, c ≠ 5 → (c < 22 ∨ 43 < c) → τ1 c = σ2 c := fun c h1 h2 => by rw [i1 c h1 (by omega)]; exact fr.1 c h1 (by omega)
    -- the state behind the counts
    have F3 : ∀ c, c ≠ 2 → (mm_up (mm_up τ1 2 4 (τ1 5 3)) 2 5 ((mm_up τ1 2 4 (τ1 5 3)) 5 6)) c = τ1 c := fun c h => by rw [mm_up_n h, mm_up_n h]
    generalize mm_up (mm_up τ1 2 4 (τ1 5 3)) 2 5 ((mm_up τ1 2 4 (τ1 5 3)) 5 6) = τ2 at F3
    have k2 : ∀ c, c ≠ 2 → c ≠ 5 → (c < 22 ∨ 43 < c) → τ2 c = σ2 c := fun c h0 h1 h2 => by rw [F3 c h0]; exact k1 c h1 h2
    have H1 : BH σ2 τ1 m := BH_cg (fun k h1 h2 => i1 k (by omega) (by omega)) H
    have f42 : f ≤ 42 := by
      obtain ⟨v, hv, _⟩ := S.ct
      have := bc_n v 42
      omega
    have faces : ∀ g, g < f → ∃ M, M < 512 ∧ τ2 43 g = nI M := fun g hg => by
      obtain ⟨M, m1, m2, _⟩ := S.fr g hg
      exact ⟨M, m1, by rw [F3 43 (by decide)]; exact m2⟩
    refine c_43 (by rw [F3 5 (by decide)]; exact S.fc) f42 faces (fun _ => kb_18_106 (fun z => absurd z (by decide)) (fun _ => kb_18_109 (q _ _ (J2 _ (fun c h2 h3 h20 h => ?_)) (BG_cg (fun c h1 h2 => ?_) B2) (DG_cg ?_ D2) (Or.inr (Or.inr mm_up_s))))) (fun wz => kb_18_106 (fun _ => kb_18_111 ?_) (fun z => absurd rfl z))
    · unfold tw3; rw [mm_up_n h3, mm_up_n h20, mm_up_n h20, mm_up_n h20]; exact k2 c h2 (by omega) (by omega)
    · unfold tw3; rw [mm_up_n (by omega), mm_up_n (by omega), mm_up_n (by omega), mm_up_n (by omega)]; exact k2 c (by omega) (by omega) (by omega)
    · unfold tw3; rw [mm_up_n (by omega), mm_up_n (by omega), mm_up_n (by omega), mm_up_n (by omega)]; exact k2 45 (by omega) (by omega) (by omega)
    have three : ∀ g, g < f → ∃ M, M < 512 ∧ τ2 43 g = nI M ∧ bc M 9 = 3 := fun g hg => by
      obtain ⟨M, m1, m2⟩ := faces g hg
      refine ⟨M, m1, m2, ?_⟩
      have up := wfb_0 faces f (Nat.le_refl f) wz g M hg m1 m2
      have lo3 := FS_3 C2 H1 S Z h3 hg m1 (by rw [← F3 43 (by decide)]; exact m2)
      have e13 : bc M 9 ≤ bc M 13 := by
        show bc M 9 ≤ bc M 9 + _ + _ + _ + _
        omega
      omega
    have O1 : OA τ L (wo (Bf τ) s t) := OL_OA O (fun k => (AJ k).1)
    have O2 : OA τ2 L (wo (Bf τ) s t) := OA_cg (by rw [F3 5 (by decide), i2 3 (by decide)]) (by rw [F3 31 (by decide), i1 31 (by decide) (by omega)]) (by rw [F3 32 (by decide), i1 32 (by decide) (by omega)]) O1
    have l9 := O1.2.1
    have stop : ∀ (τ' : mm_S), (∀ c, c ≠ 44 → (c < 22 ∨ 30 < c) → c ≠ 3 → c ≠ 20 → τ' c = τ2 c) → jfr σ τ' ∧ BG τ' ∧ DG τ' := fun τ' h => ⟨J2 _ (fun c h2 h3 h20 hh => by rw [h c (by omega) (by omega) h3 h20]; exact k2 c h2 (by omega) (by omega)), BG_cg (fun c h1 h2 => by rw [h c (by omega) (by omega) (by omega) (by omega)]; exact k2 c (by omega) (by omega) (by omega)) B2, DG_cg (by rw [h 45 (by omega) (by omega) (by omega) (by omega)]; exact k2 45 (by omega) (by omega) (by omega)) D2⟩
    have s1 : τ2 1 = σ2 1 := k2 1 (by decide) (by decide) (by omega)
    have s19 : τ2 19 = σ2 19 := k2 19 (by decide) (by decide) (by omega)
    have pl : ∀ i, i < 9 → (∃ k, k < L ∧ τ2 32 i = nI k) ∨ τ2 32 i = -1 := fun i hi => by
      obtain ⟨_, _, _, _, _, _, arr, non⟩ := O
      have e32 : τ2 32 = τ 32 := by rw [F3 32 (by decide), i1 32 (by decide) (by omega)]
      rw [e32]
      by_cases ex : ∃ j, j < L ∧ wo (Bf τ) s t j = i
      · obtain ⟨j, hj, e⟩ := ex
        exact Or.inl ⟨j, hj, by rw [← e]; exact (arr j hj).2⟩
      · exact Or.inr (non i hi (fun j hj e => ex ⟨j, hj, e⟩))
    refine c_47 (by omega) O2.2.2.1 (by rw [s1, F2 1 (by decide) (by decide)]; exact K0.1) (fun h i hi => ?_) pl (fun p c hc hp hs => kb_18_118 (fun z => absurd z (by decide)) (fun _ => kb_18_123 ?_)) (fun _ => kb_18_118 (fun _ => kb_18_121 ?_) (fun z => absurd rfl z))
    · rw [s19, F2 19 (by decide) (by decide)]
      rw [s1, F2 1 (by decide) (by decide)] at h
      exact K0.2 h i hi
    · refine c_54 C2 s1 (k2 15 (by decide) (by decide) (by omega)) O2 hc hp (fun τ3 K f3 hK B => kb_18_130 ?_)
      have O3 : OA τ3 L (wo (Bf τ) s t) := OA_cg (by rw [f3 5 (by decide)]) (f3 31 (by decide)) (f3 32 (by decide)) O2
      have hK' : ∀ v, v < 13 → τ3 44 v = nI (K v) ∧ K v < 8192 := fun v hv => ⟨hK v hv, B.1 v hv⟩
      have TP3 : TP τ3 L := ⟨⟨f, f42, by rw [f3 5 (by decide), F3 5 (by decide)]; exact S.fc⟩, l9, O3.2.2.1, fun i hi => by rw [f3 32 (by decide)]; exact pl i hi⟩
      refine c_55 TP3 hK' (fun i j k _ _ => kb_18_141 (fun z => absurd z (by decide)) (fun _ => kb_18_144 ?_)) (fun _ => kb_18_141 (fun _ => kb_18_146 ?_) (fun z => absurd rfl z))
      · obtain ⟨x1, x2, x3⟩ := stop (tw3n τ3 i j k) (fun c h1 _ h3 h20 => by unfold tw3n; rw [mm_up_n h3, mm_up_n h20, mm_up_n h20, mm_up_n h20]; exact f3 c h1)
        exact q _ _ x1 x2 x3 (Or.inr (Or.inr mm_up_s))
      · obtain ⟨l1, _, _, eL, eL1, dis, _, _⟩ := id O
        refine c_59 O3 dis hK' (fun τ4 f4 row rws => kb_18_153 ?_)
        have k4 : ∀ c, (c < 22 ∨ 30 < c) → c ≠ 44 → τ4 c = τ2 c := fun c h1 h2 => by rw [f4 c h1]; exact f3 c h2
        have O4 : OA τ4 L (wo (Bf τ) s t) := OA_cg (by rw [f4 5 (by omega)]) (f4 31 (by omega)) (f4 32 (by omega)) O3
        have oin : ∀ k, k < L → ∃ s', s' < 4 ∧ (K (wo (Bf τ) s t k)).testBit (9 + s') = true := fun k hk => by
          obtain ⟨s', h4, ho⟩ := cover (o := wo (Bf τ) s t) (fun i hi => (hp i hi).1) hs hk
          exact ⟨s', h4, (B.2.2.1 _ s' (AJ k).1 h4).mpr ho⟩
        have vg := vg_ok C2 H O AJ (fun a ha => by rw [f3 _ (by omega), F3 _ (by omega), i1 _ (by omega) (by omega)]) i4 S.rg (fun c h1 h2 => by rw [f4 c (by omega), f3 c (by omega), F3 c (by omega)]) row rws oin
        have x4 := stop τ4 (fun c h1 h2 _ _ => k4 c h2 h1)
        refine c_61 (d := d + 1) C2 Z (by rw [k4 1 (by omega) (by omega)]; exact s1) (by rw [k4 15 (by omega) (by omega)]; exact k2 15 (by decide) (by decide) (by omega)) (by rw [k4 16 (by omega) (by omega)]; exact k2 16 (by decide) (by decide) (by omega)) (by rw [k4 17 (by omega) (by omega)]; exact k2 17 (by decide) (by decide) (by omega)) f42 (by rw [k4 5 (by omega) (by omega), F3 5 (by decide)]; exact S.fc) (fun g hg => ?_) O4 dis (fun k hk => (AJ k).2.1) (fun v hv => by rw [f4 44 (by omega)]; exact hK' v hv) (V := VV σ2 m L (wo (Bf τ) s t) K) (fun k s' hk F => ⟨(AJ k).2.1, Or.inr ⟨k, s', 0, hk, rfl, F, by decide, by rw [Nat.add_zero, Nat.mod_eq_of_lt F.1], fun i hi => ?_⟩⟩) (fun r v hr mr hrv => ⟨mr, Or.inl ⟨hrv.1, hrv⟩⟩) vg x4.2.1 x4.2.2 (fun τ5 f5 B5 D5 => kb_18_160 ?_)
        · obtain ⟨M, m1, m2, m3⟩ := three g hg
          exact ⟨M, m1, by rw [k4 43 (by omega) (by omega)]; exact m2, m3⟩
        · have i0 : i = 0 := by omega
          subst i0
          rw [Nat.add_zero, Nat.mod_eq_of_lt F.1]
          exact FSd_on F (oin k hk)
        · have g1 : τ5 1 = σ2 1 := by rw [f5 1 (by decide) (by omega), k4 1 (by omega) (by omega)]; exact s1
          have g16 : τ5 16 = σ2 16 := by rw [f5 16 (by decide) (by omega), k4 16 (by omega) (by omega)]; exact k2 16 (by decide) (by decide) (by omega)
          have g17 : τ5 17 = σ2 17 := by rw [f5 17 (by decide) (by omega), k4 17 (by omega) (by omega)]; exact k2 17 (by decide) (by decide) (by omega)
          refine c_72 (n := n) ⟨⟨C2.jn.1, by rw [g1]; exact C2.jn.2⟩, fun k hk => ?_, D5⟩ (fun τ6 f6 => kb_18_167 (q _ _ (fun c hc => ?_) (BG_cg (fun c h1 h2 => f6 c (by omega) (by omega)) B5) (DG_cg (f6 45 (by omega) (by omega)) D5) (Or.inl (by rw [f6 3 (by omega) (by omega), f5 3 (by omega) (by omega), k4 3 (by omega) (by omega), k2 3 (by omega) (by omega) (by omega)]; exact W0))))
          · obtain ⟨a, b, ha, hb, _, _, _, e1, e2⟩ := C2.je k hk
            exact ⟨a, b, ha, hb, by rw [g16]; exact e1, by rw [g17]; exact e2⟩
          · rw [f6 c (by omega) (by omega), f5 c (by omega) (by omega)]
            exact x4.1 c hc
    · obtain ⟨x1, x2, x3⟩ := stop τ2 (fun _ _ _ _ _ => rfl)
      exact q _ _ x1 x2 x3 (Or.inl (by rw [k2 3 (by omega) (by omega) (by omega)]; exact W0))
