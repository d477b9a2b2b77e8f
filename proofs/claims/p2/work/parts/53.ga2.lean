/-! class: goAround, its contract -/
/-- HouseDesk$Walks.goAround, from 49 -/
theorem ks_32_49 {d : Nat} {Q : mm_Q} {x1 x2 x3 x4 x5 : Int32} {o6 : Option Value} {σ : mm_S} (H1 : ¬ ((9 : Int32) < x5) → vp_in x3 9) (H2 : ¬ ((9 : Int32) < x5) → (σ 32 x3.toNatClampNeg) < 0 → vp_in x3 9) (H3 : ¬ ((9 : Int32) < x5) → (σ 32 x3.toNatClampNeg) < 0 → vp_in (σ 5 3) 9) (H4 : ¬ ((9 : Int32) < x5) → (σ 32 x3.toNatClampNeg) < 0 → vp_in x4 9) (H5 : ¬ ((9 : Int32) < x5) → (σ 32 x3.toNatClampNeg) < 0 → vp_in x3 13) (q0 : (9 : Int32) < x5 → Q (some (.int (0 : Int32))) σ) (q1 : ¬ ((9 : Int32) < x5) → (σ 32 x3.toNatClampNeg) < 0 → mw d mt_32 Q 49 [some (.ref 5), some (.int x1), some (.int x2), some (.int x4), some (.int ((mm_up (mm_up (mm_up σ 32 x3.toNatClampNeg (σ 5 3)) 31 (σ 5 3).toNatClampNeg x3) 5 3 ((σ 5 3) + (1 : Int32))) (21 + 1 + x4.toNatClampNeg) x3.toNatClampNeg)), some (.int (x5 + 1)), some (.int ((mm_up (mm_up (mm_up σ 32 x3.toNatClampNeg (σ 5 3)) 31 (σ 5 3).toNatClampNeg x3) 5 3 ((σ 5 3) + (1 : Int32))) (21 + 1 + x4.toNatClampNeg) x3.toNatClampNeg))] [] (mm_up (mm_up (mm_up σ 32 x3.toNatClampNeg (σ 5 3)) 31 (σ 5 3).toNatClampNeg x3) 5 3 ((σ 5 3) + (1 : Int32)))) (q2 : ¬ ((9 : Int32) < x5) → ¬ ((σ 32 x3.toNatClampNeg) < 0) → x3 = x1 → x4 = x2 → Q (some (.int (1 : Int32))) σ) (q3 : ¬ ((9 : Int32) < x5) → ¬ ((σ 32 x3.toNatClampNeg) < 0) → x3 = x1 → ¬ (x4 = x2) → Q (some (.int (0 : Int32))) σ) (q4 : ¬ ((9 : Int32) < x5) → ¬ ((σ 32 x3.toNatClampNeg) < 0) → ¬ (x3 = x1) → Q (some (.int (0 : Int32))) σ) : mw d mt_32 Q 49 [some (.ref 5), some (.int x1), some (.int x2), some (.int x3), some (.int x4), some (.int x5), o6] [] σ := (kb_32_49 (fun g0 => (kb_32_136 (q0 g0))) (fun g0 => (kb_32_56 (H1 g0) (fun g1 => (kb_32_82 (H2 g0 g1) (H3 g0 g1) (H4 g0 g1) (H5 g0 g1) (q1 g0 g1))) (fun g1 => (kb_32_65 (fun g2 => (kb_32_70 (fun g3 => (kb_32_76 (q2 g0 g1 g2 g3))) (fun g3 => (kb_32_80 (q3 g0 g1 g2 g3))))) (fun g2 => (kb_32_80 (q4 g0 g1 g2))))))))
theorem xd_cg {σ ρ : mm_S} (h : ρ 1 = σ 1) : xd ρ = xd σ := by
  funext i
  unfold xd
  rw [h]
theorem pX_cg {σ ρ : mm_S} (h : ρ 11 = σ 11) : pX ρ = pX σ := by
  funext i
  unfold pX
  rw [h]
theorem pY_cg {σ ρ : mm_S} (h : ρ 12 = σ 12) : pY ρ = pY σ := by
  funext i
  unfold pY
  rw [h]
theorem CK_cg {σ ρ : mm_S} {n m : Nat} (h1 : ρ 1 = σ 1) (h11 : ρ 11 = σ 11) (h12 : ρ 12 = σ 12) (h15 : ρ 15 = σ 15) (h16 : ρ 16 = σ 16) (h17 : ρ 17 = σ 17) (C : CK σ n m) : CK ρ n m := by
  unfold CK at *
  rw [h1, h15, h16, h17, xd_cg h1, pX_cg h11, pY_cg h12, cG_cg h11 h12, aj_cg h15]
  exact C
theorem f_17_cg {σ ρ : mm_S} (h11 : ρ 11 = σ 11) (h12 : ρ 12 = σ 12) : f_17 ρ = f_17 σ := by
  funext a b c
  unfold f_17
  rw [h11, h12]
theorem f_27_cg {σ ρ : mm_S} (h11 : ρ 11 = σ 11) (h12 : ρ 12 = σ 12) (h16 : ρ 16 = σ 16) (h17 : ρ 17 = σ 17) : f_27 ρ = f_27 σ := by
  funext a b
  unfold f_27 f_11
  rw [f_17_cg h11 h12, h11, h12, h16, h17]
theorem f_29_cg {σ ρ : mm_S} (h11 : ρ 11 = σ 11) (h12 : ρ 12 = σ 12) (h16 : ρ 16 = σ 16) (h17 : ρ 17 = σ 17) : f_29 ρ = f_29 σ := by
  funext a b
  unfold f_29 f_30
  rw [f_17_cg h11 h12, h16, h17]
theorem NC_cg {σ ρ : mm_S} {n : Nat} (h11 : ρ 11 = σ 11) (h12 : ρ 12 = σ 12) (h16 : ρ 16 = σ 16) (h17 : ρ 17 = σ 17) (N : NC σ n) : NC ρ n := by
  unfold NC cxx f_26 at *
  rw [f_27_cg h11 h12 h16 h17, f_29_cg h11 h12 h16 h17, h16, h17]
  exact N
theorem fw_cg {σ ρ : mm_S} (h11 : ρ 11 = σ 11) (h12 : ρ 12 = σ 12) : fw ρ = fw σ := by
  funext i j
  unfold fw
  rw [pX_cg h11, pY_cg h12]
theorem wms_cg {σ ρ : mm_S} (h11 : ρ 11 = σ 11) (h12 : ρ 12 = σ 12) : wms ρ = wms σ := by
  funext m n s
  unfold wms
  rw [fw_cg h11 h12]
theorem nms_cg {σ ρ : mm_S} (h11 : ρ 11 = σ 11) (h12 : ρ 12 = σ 12) (h15 : ρ 15 = σ 15) : nms ρ = nms σ := by
  funext s n t
  unfold nms
  rw [aj_cg h15, vc_cg h11 h12]
theorem c_32 {d n m : Nat} {Q : mm_Q} {σ : mm_S} (C : CK σ n m) (N : NC σ n) (h0 : 0 < bc m 9) (ha : ∀ i, i < 9 → m.testBit i = true → ∃ j, aj σ i j)
    (q1 : ∀ τ s t L, fr32 σ τ → BH σ τ m → wms σ m 9 s → nms σ s 9 t → OL τ s t L → Q (some (.int 1)) τ)
    (q0 : ∀ τ s t, fr32 σ τ → BH σ τ m → wms σ m 9 s → nms σ s 9 t → NS τ s t → Q (some (.int 0)) τ) : mD (d + 5) 32 [.ref 5] σ Q := by
  refine ke_32 (kb_32_0 (c_33 C N (fun τ0 hf0 hB0 => kb_32_4 ?_)))
  refine lp_dn (P := fun i => ∀ τ : mm_S, (∀ k, k ≠ 32 → τ k = τ0 k) → (∀ j, j < i → τ 32 j = -1) → mw (d + 4) mt_32 Q 6 [some (.ref 5), some (.int (nI i)), none, none, none, none, none] [] τ) 9 ?_ ?_ 0 (by omega) τ0 (fun _ _ => rfl) (fun j hj => absurd hj (Nat.not_lt_zero j))
  · intro τ hτ hm1
    refine kb_32_6 (fun _ => kb_32_25 ?_) (fun g => absurd (by decide) g)
    have fr : ∀ k, k ≠ 5 → k ≠ 32 → (k < 22 ∨ 30 < k) → (mm_up τ 5 3 0) k = σ k := fun k k1 k2 k3 => by rw [mm_up_n k1, hτ k k2]; exact hf0 k k3
    have r1 := fr 1 (by omega) (by omega) (by omega)
    have r11 := fr 11 (by omega) (by omega) (by omega)
    have r12 := fr 12 (by omega) (by omega) (by omega)
    have r15 := fr 15 (by omega) (by omega) (by omega)
    have r16 := fr 16 (by omega) (by omega) (by omega)
    have r17 := fr 17 (by omega) (by omega) (by omega)
    have C' := CK_cg r1 r11 r12 r15 r16 r17 C
    have N' := NC_cg (n := n) r11 r12 r16 r17 N
    refine c_36 C' h0 (fun s W' => kb_32_34 (c_38 C' N' W' ?_ (fun t T' => kb_32_40 ?_)))
    · rw [aj_cg r15]
      rw [wms_cg r11 r12] at W'
      exact ha s W'.1 W'.2.2.1
    · have W : wms σ m 9 s := by rw [wms_cg r11 r12] at W'; exact W'
      have T : nms σ s 9 t := by rw [nms_cg r11 r12 r15] at T'; exact T'
      have hB : BH σ (mm_up τ 5 3 0) m := fun a b h1 h2 h3 => DD_cg (by rw [mm_up_n (by omega), hτ _ (by omega)]) (hB0 a b h1 h2 h3)
      have hm1' : ∀ j, j < 9 → (mm_up τ 5 3 0) 32 j = -1 := fun j hj => by rw [mm_up_n (by decide)]; exact hm1 j hj
      have h5 : ∀ j, j ≠ 3 → (mm_up τ 5 3 0) 5 j = σ 5 j := fun j hj => by rw [mm_up_o hj, hτ 5 (by decide), hf0 5 (by omega)]
      have h53 : (mm_up τ 5 3 0) 5 3 = nI 0 := mm_up_s
      clear hm1
      generalize mm_up τ 5 3 0 = ρ at *
      have AJ := wo_aj C hB W.1 W.2.2.1 T.1
      have key := lp_dn (P := fun k => ∀ (τ : mm_S) (v : Nat), (∀ c, c ≠ 5 → c ≠ 31 → c ≠ 32 → τ c = ρ c) → (∀ j, j ≠ 3 → τ 5 j = ρ 5 j) → τ 5 3 = nI k → v < 512 → bc v 9 = k → (∀ i j, i < j → j < k → wo (Bf ρ) s t i ≠ wo (Bf ρ) s t j) → (∀ j, j < k → τ 31 j = nI (wo (Bf ρ) s t j) ∧ τ 32 (wo (Bf ρ) s t j) = nI j) → (∀ i, i < 9 → (v.testBit i = true ↔ ∃ j, j < k ∧ wo (Bf ρ) s t j = i)) → (∀ i, i < 9 → (∀ j, j < k → wo (Bf ρ) s t j ≠ i) → τ 32 i = -1) → ∀ o6, mw (d + 4) mt_32 Q 49 [some (.ref 5), some (.int (nI s)), some (.int (nI t)), some (.int (nI (wo (Bf ρ) s t k))), some (.int (nI (wo (Bf ρ) s t (k + 1)))), some (.int (nI k)), o6] [] τ) 10 ?_ ?_ 0 (by omega)
      · exact key ρ 0 (fun _ _ _ _ => rfl) (fun _ _ => rfl) h53 (by decide) (by decide) (fun i j _ hj => absurd hj (Nat.not_lt_zero j)) (fun j hj => absurd hj (Nat.not_lt_zero j)) (fun i _ => ⟨fun z => absurd z (by simp), fun z => absurd z.choose_spec.1 (Nat.not_lt_zero _)⟩) (fun i hi _ => hm1' i hi) none
      · intro τ v _ _ _ _ hv _ _ _ _ _
        have := bc_n v 9
        omega
      · intro k hk ih τ v f1 f2 f3 v9 hv dis arr vb non o6
        obtain ⟨a1, a2, a3⟩ := AJ k
        obtain ⟨b1, b2, b3⟩ := AJ (k + 1)
        have ck : (nI (wo (Bf ρ) s t k)).toNatClampNeg = wo (Bf ρ) s t k := nI_clamp (by omega)
        have ck1 : (nI (wo (Bf ρ) s t (k + 1))).toNatClampNeg = wo (Bf ρ) s t (k + 1) := nI_clamp (by omega)
        have hBf : ∀ a b, a < 9 → Bf τ a b = Bf ρ a b := Bf_cg (fun c h1 h2 => f1 c (by omega) (by omega) (by omega))
        have hwo : ∀ j, wo (Bf τ) s t j = wo (Bf ρ) s t j := fun j => congrArg Prod.fst (wo_cg (fun i => hBf _ _ (AJ (i + 1)).1) j)
        have hfr : fr32 σ τ := ⟨fun c h1 h2 => by rw [f1 c h1 (by omega) (by omega)]; exact fr c h1 (by omega) (by omega), fun j hj => by rw [f2 j hj]; exact h5 j hj⟩
        have hBH : BH σ τ m := fun a b h1 h2 h3 => DD_cg (f1 _ (by omega) (by omega) (by omega)) (hB a b h1 h2 h3)
        have st : ∀ x : Nat, x < 9 → ∀ y : Nat, y < 9 → nI x = nI y → x = y := fun x hx y hy h => nI9 hx hy h
        have twice : ¬ τ 32 (nI (wo (Bf ρ) s t k)).toNatClampNeg < 0 → ∃ j, j < k ∧ wo (Bf ρ) s t j = wo (Bf ρ) s t k := fun z => by
          refine Classical.byContradiction (fun hn => z ?_)
          rw [ck, non _ a1 (fun j hj e => hn ⟨j, hj, e⟩)]
          decide
        have fresh : τ 32 (nI (wo (Bf ρ) s t k)).toNatClampNeg < 0 → ∀ j, j < k → wo (Bf ρ) s t j ≠ wo (Bf ρ) s t k := fun z j hj e => by
          rw [ck, ← e, (arr j hj).2] at z
          exact absurd z (nI_pos (by omega))
        have k9 : τ 32 (nI (wo (Bf ρ) s t k)).toNatClampNeg < 0 → k < 9 := fun z => by
          rcases Nat.lt_or_ge k 9 with y | y
          · exact y
          · have e9 : k = 9 := by omega
            obtain ⟨j, hj, e⟩ := (vb _ a1).mp (bc_full 9 (by omega) _ a1)
            exact absurd e (fresh z j hj)
        have ns : ¬ τ 32 (nI (wo (Bf ρ) s t k)).toNatClampNeg < 0 → ¬ (wo (Bf ρ) s t k = s ∧ wo (Bf ρ) s t (k + 1) = t) → NS τ s t := fun z hne => by
          refine ⟨k, by omega, fun i j h1 h2 => ?_, ?_, ?_⟩
          · rw [hwo, hwo]; exact dis i j h1 h2
          · obtain ⟨j, hj, e⟩ := twice z
            exact ⟨j, hj, by rw [hwo, hwo]; exact e⟩
          · rw [hwo, hwo]; exact hne
        have t9 : t < 9 := T.1.1
        refine ks_32_49 (fun _ => pk_in _ 9 a1) (fun _ _ => pk_in _ 9 a1) (fun _ z => ?_) (fun _ _ => pk_in _ 9 b1) (fun _ _ => pk_in (wo (Bf ρ) s t k) 13 (by omega)) (fun g => absurd g ?_) (fun _ z => ?_) (fun _ z e1 e2 => q1 τ s t k hfr hBH W T ?_) (fun _ z e1 e2 => q0 τ s t hfr hBH W T (ns z (fun w => e2 (by rw [w.2])))) (fun _ z e1 => q0 τ s t hfr hBH W T (ns z (fun w => e1 (by rw [w.1]))))
        · rw [f3]; exact pk_in k 9 (k9 z)
        · exact nI_nlt (a := 9) (b := k) (by omega) (by omega)
        · have kk := k9 z
          have fr' := fresh z
          rw [f3, ck, ck1, nI_clamp (show k < 2 ^ 31 by omega), nI_1]
          have rd : (mm_up (mm_up (mm_up τ 32 (wo (Bf ρ) s t k) (nI k)) 31 k (nI (wo (Bf ρ) s t k))) 5 3 (nI (k + 1))) (21 + 1 + wo (Bf ρ) s t (k + 1)) (wo (Bf ρ) s t k) = nI (wo (Bf ρ) s t (k + 2)) := by
            rw [mm_up_n (by omega), mm_up_n (by omega), mm_up_n (by omega), f1 _ (by omega) (by omega) (by omega), wo_2]
            exact (BH_sp hB b1 b2 (C.aj_sym a1 a2 a3)).1
          rw [rd]
          refine ih _ (v ||| 2 ^ wo (Bf ρ) s t k) (fun c h1 h2 h3 => ?_) (fun j hj => ?_) mm_up_s ?_ ?_ (fun i j h1 h2 => ?_) (fun j hj => ?_) (fun i hi => ?_) (fun i hi hn => ?_) _
          · rw [mm_up_n h1, mm_up_n h2, mm_up_n h3]; exact f1 c h1 h2 h3
          · rw [mm_up_o hj, mm_up_n (by decide), mm_up_n (by decide)]; exact f2 j hj
          · exact Nat.or_lt_two_pow (n := 9) v9 (Nat.pow_lt_pow_right (by decide) a1)
          · rw [bc_add (fun y => by
              obtain ⟨j, hj, e⟩ := (vb _ a1).mp y
              exact fr' j hj e), if_pos a1, hv]
          · by_cases e : j = k
            · subst e; exact fr' i h1
            · exact dis i j h1 (by omega)
          · rw [mm_up_n (by decide), mm_up_n (show (32 : Nat) ≠ 5 by decide), mm_up_n (show (32 : Nat) ≠ 31 by decide)]
            by_cases e : j = k
            · subst e; exact ⟨mm_up_s, mm_up_s⟩
            · obtain ⟨p, r⟩ := arr j (by omega)
              refine ⟨?_, ?_⟩
              · rw [mm_up_o e, mm_up_n (by decide)]; exact p
              · rw [mm_up_o (fr' j (by omega))]; exact r
          · rw [Nat.testBit_or, Nat.testBit_two_pow, Bool.or_eq_true, vb i hi]
            constructor
            · rintro (⟨j, hj, e⟩ | e)
              · exact ⟨j, by omega, e⟩
              · exact ⟨k, by omega, by simpa using e⟩
            · rintro ⟨j, hj, e⟩
              by_cases ek : j = k
              · subst ek; exact Or.inr (by simpa using e)
              · exact Or.inl ⟨j, by omega, e⟩
          · rw [mm_up_n (by decide), mm_up_n (by decide), mm_up_o (fun y => hn k (by omega) y.symm)]
            exact non i hi (fun j hj => hn j (by omega))
        · have e1' := st _ a1 _ W.1 e1
          have e2' := st _ b1 _ t9 e2
          have k1 : 1 ≤ k := by obtain ⟨j, hj, _⟩ := twice z; omega
          refine ⟨k1, by omega, f3, by rw [hwo]; exact e1', by rw [hwo]; exact e2', fun i j h1 h2 => by rw [hwo, hwo]; exact dis i j h1 h2, fun j hj => by rw [hwo]; exact arr j hj, fun i hi hn => non i hi (fun j hj => by rw [← hwo]; exact hn j hj)⟩
  · intro i hi ih τ hτ hm1
    refine kb_32_6 (fun g => absurd g (hI_nle (a := 9) (by omega) hi)) (fun _ => kb_32_12 (pk_in i 9 hi) ?_)
    rw [nI_1, nI_clamp (show i < 2 ^ 31 by omega)]
    refine ih _ (fun k hk => by rw [mm_up_n hk]; exact hτ k hk) (fun j hj => ?_)
    by_cases e : j = i
    · subst e; exact mm_up_s
    · rw [mm_up_o e]; exact hm1 j (by omega)
