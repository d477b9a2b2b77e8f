section
/-! the reference: raiseJoin, whole -/
def CVj (V : Nat → Nat) (r o t wsh : Nat) : Prop := V (4 * r + 2 + (1 - t)) = V (4 * o + (1 - t)) ∧ V (4 * r + t) + wsh ≤ V (4 * r + 2 + t) ∧ V (4 * o + t) + wsh ≤ V (4 * r + 2 + t) ∧ V (4 * r + t) + wsh ≤ V (4 * o + 2 + t) ∧ V (4 * o + t) + wsh ≤ V (4 * o + 2 + t)
theorem c_140t {d k a b Dk wsh : Nat} {Q : mm_Q} {τ : mm_S} {V : Nat → Nat} {WD HT : Nat} (hk : k < 21) (ha : a < 9) (hb : b < 9) (ab : a ≠ b) (hD : Dk < 4) (e95 : τ 95 k = nI Dk) (e80 : τ 80 k = nI a) (e81 : τ 81 k = nI b) (I : INp V WD HT τ) (V40 : ∀ x, V x ≤ 4050) (e82 : τ 82 k = nI wsh)
    (C : CVj V (if Dk % 2 = 0 then a else b) (if Dk % 2 = 0 then b else a) (1 - Dk / 2) wsh)
    (q : ∀ τ', Sfp V WD HT τ τ' → (τ' = τ → Cjn τ (if Dk % 2 = 0 then a else b) (if Dk % 2 = 0 then b else a) (1 - Dk / 2) wsh) → Q none τ') : mD (d + 3) 140 [.ref 10, .int (nI k)] τ Q := by
  have vk : vp_in (nI k) 21 := pk_in k 21 hk
  have ck : (nI k).toNatClampNeg = k := nI_clamp (by omega)
  have n44 : ∀ t, t < 2 → CVj V a b t wsh → (∀ τ', Sfp V WD HT τ τ' → (τ' = τ → Cjn τ a b t wsh) → Q none τ') → ∀ o3 o4 o5 o6, mw (d + 2) mt_140 Q 44 [some (.ref 10), some (.int (nI k)), some (.int (nI t)), o3, o4, o5, o6] [] τ := fun t ht c q' o3 o4 o5 o6 => by
    have eo : f_101 τ (nI k) (τ 80 k) = nI b := by unfold f_101; rw [ck, if_pos rfl]; exact e81
    refine kb_140_44 vk (c_101 vk ?_)
    rw [ck, eo, e80]
    exact c_140m hk ha hb ht I V40 e82 c.1 c.2.1 c.2.2.1 c.2.2.2.1 c.2.2.2.2 q' _ _ _
  have n53 : ∀ t, t < 2 → CVj V b a t wsh → (∀ τ', Sfp V WD HT τ τ' → (τ' = τ → Cjn τ b a t wsh) → Q none τ') → ∀ o3 o4 o5 o6, mw (d + 2) mt_140 Q 53 [some (.ref 10), some (.int (nI k)), some (.int (nI t)), o3, o4, o5, o6] [] τ := fun t ht c q' o3 o4 o5 o6 => by
    have eo : f_101 τ (nI k) (τ 81 k) = nI a := by unfold f_101; rw [ck, if_neg (by rw [e80, e81]; exact fun z => ab (nI9 ha hb z))]; exact e80
    refine kb_140_53 vk (c_101 vk ?_)
    rw [ck, eo, e81]
    exact c_140m hk hb ha ht I V40 e82 c.1 c.2.1 c.2.2.1 c.2.2.2.1 c.2.2.2.2 q' _ _ _
  have x95 : τ 95 (nI k).toNatClampNeg = nI Dk := by rw [ck]; exact e95
  rcases (show Dk = 0 ∨ Dk = 1 ∨ Dk = 2 ∨ Dk = 3 by omega) with e | e | e | e <;> subst e
  · exact ke_140 (kb_140_0 vk (fun _ => kb_140_19 vk (fun _ => n44 1 (by decide) C q _ _ _ _) (fun g => absurd x95 g)) (fun g => absurd x95 g))
  · exact ke_140 (kb_140_0 vk (fun g => absurd (x95.symm.trans g) (by decide)) (fun _ => kb_140_9 vk (fun _ => kb_140_19 vk (fun g => absurd (x95.symm.trans g) (by decide)) (fun _ => kb_140_34 vk (fun g => absurd (x95.symm.trans g) (by decide)) (fun _ => n53 1 (by decide) C q _ _ _ _))) (fun g => absurd x95 g)))
  · exact ke_140 (kb_140_0 vk (fun g => absurd (x95.symm.trans g) (by decide)) (fun _ => kb_140_9 vk (fun g => absurd (x95.symm.trans g) (by decide)) (fun _ => kb_140_23 vk (fun g => absurd (x95.symm.trans g) (by decide)) (fun _ => kb_140_34 vk (fun _ => n44 0 (by decide) C q _ _ _ _) (fun g => absurd x95 g)))))
  · exact ke_140 (kb_140_0 vk (fun g => absurd (x95.symm.trans g) (by decide)) (fun _ => kb_140_9 vk (fun g => absurd (x95.symm.trans g) (by decide)) (fun _ => kb_140_23 vk (fun g => absurd (x95.symm.trans g) (by decide)) (fun _ => kb_140_34 vk (fun g => absurd (x95.symm.trans g) (by decide)) (fun _ => n53 0 (by decide) C q _ _ _ _)))))
end
section
/-! the reference: findPlaces -/
theorem Sm_44 {τ : mm_S} {x : Int32} : Sm (mm_up τ 10 44 x) = Sm τ := by
  unfold Sm
  rw [mm_up_o (by decide), mm_up_o (by decide), mm_up_n (by decide), mm_up_n (by decide)]
theorem c_138t {d n KE KN WD HT : Nat} {Q : mm_Q} {σ : mm_S} {rm ea no : Nat → Prop} {D ja jb wsh wid hgt V : Nat → Nat} (hn : n ≤ 21) (e6 : σ 10 6 = nI n)
    (jn : ∀ k, k < n → ja k < 9 ∧ jb k < 9 ∧ ja k ≠ jb k ∧ D k < 4 ∧ σ 95 k = nI (D k) ∧ σ 80 k = nI (ja k) ∧ σ 81 k = nI (jb k) ∧ σ 82 k = nI (wsh k))
    (hrm : ∀ i, rm i → i < 9) (dr : ∀ i, i < 9 → (¬ σ 75 i = 0 ↔ rm i)) (sz : ∀ i, rm i → σ 78 i = nI (wid i) ∧ σ 79 i = nI (hgt i))
    (eE : σ 91 10 = nI KE) (eN : σ 91 9 = nI KN) (bE : KE < 2 ^ 13) (bN : KN < 2 ^ 13) (hea : ∀ i, ea i ↔ rm i ∧ KE.testBit i = true) (hno : ∀ i, no i ↔ rm i ∧ KN.testBit i = true)
    (V40 : ∀ x, V x ≤ 4050) (cE : ∀ i, ea i → V (4 * i + 2) = WD) (cN : ∀ i, no i → V (4 * i + 3) = HT)
    (Ls : LSo (CSt rm n D ja jb wsh wid hgt ea no) V)
    (q : ∀ τ, FP σ τ → PVr τ V → ((∃ i, ea i) → τ 10 32 = nI WD) → ((∃ i, no i) → τ 10 33 = nI HT) → Q none τ) : mD (d + 4) 138 [.ref 10] σ Q := by
  have CJ : ∀ k, k < n → CVj V (if D k % 2 = 0 then ja k else jb k) (if D k % 2 = 0 then jb k else ja k) (1 - D k / 2) (wsh k) := fun k hk => by
    obtain ⟨_, _, _, d4, _⟩ := jn k hk
    have e1 : 1 - (1 - D k / 2) = D k / 2 := by omega
    have s1 := Ls.1 _ _ _ (Or.inl ⟨k, hk, rfl, Or.inl ⟨rfl, rfl⟩⟩)
    have s2 := Ls.1 _ _ _ (Or.inl ⟨k, hk, rfl, Or.inr ⟨rfl, rfl⟩⟩)
    have s3 : ∀ X Y, (X = ja k ∨ X = jb k) → (Y = ja k ∨ Y = jb k) → V (4 * X + (1 - D k / 2)) + wsh k ≤ V (4 * Y + 2 + (1 - D k / 2)) := fun X Y h1 h2 => by
      have := Ls.1 _ _ _ (Or.inr (Or.inl ⟨k, X, Y, hk, rfl, h1, h2, rfl, rfl⟩))
      rw [show 4 * Y + 2 + (1 - D k / 2) = 4 * Y + (1 - D k / 2) + 2 by omega]; exact this
    unfold lowr higr at s1 s2
    have hl : (if D k % 2 = 0 then ja k else jb k) = ja k ∨ (if D k % 2 = 0 then ja k else jb k) = jb k := by split <;> simp
    have hh : (if D k % 2 = 0 then jb k else ja k) = ja k ∨ (if D k % 2 = 0 then jb k else ja k) = jb k := by split <;> simp
    generalize (if D k % 2 = 0 then ja k else jb k) = r at *
    generalize (if D k % 2 = 0 then jb k else ja k) = o at *
    refine ⟨?_, s3 r r hl hl, s3 o r hh hl, s3 r o hl hh, s3 o o hh hh⟩
    rw [e1, show 4 * r + 2 + D k / 2 = 4 * r + D k / 2 + 2 by omega]
    omega
  have lp : ∀ s, ∀ τ x1, FP σ τ → INp V WD HT τ → ¬ τ 10 44 = 0 → Sm τ < s → mw (d + 3) mt_138 Q 43 [some (.ref 10), some (.int x1)] [] τ := by
    intro s
    induction s with
    | zero => intro τ x1 F _ _ hs; exact absurd hs (by omega)
    | succ s ih =>
      intro τ x1 F I nz hs
      refine kb_138_43 (fun g => absurd g nz) (fun _ => kb_138_50 ?_)
      obtain ⟨τa, hτa⟩ : ∃ τa, τa = mm_up τ 10 44 0 := ⟨_, rfl⟩
      rw [← hτa]
      have F0 : FP σ τa := by rw [hτa]; exact FP_t F ⟨fun c a _ _ => mm_up_n a, fun j _ _ e => mm_up_o e⟩
      have S0 : Sm τa = Sm τ := by rw [hτa]; exact Sm_44
      have a44 : τa 10 44 = 0 := by rw [hτa]; exact mm_up_s
      have I0 : INp V WD HT τa := by
        obtain ⟨⟨v, vV, pv⟩, ⟨w, lw, ew⟩, ⟨h, lh, eh⟩⟩ := I
        rw [hτa]
        exact ⟨⟨v, vV, fun i a hi ha => by rw [mm_up_n (by decide), mm_up_n (by decide)]; exact pv i a hi ha⟩, ⟨w, lw, by rw [mm_up_o (by decide)]; exact ew⟩, ⟨h, lh, by rw [mm_up_o (by decide)]; exact eh⟩⟩
      have FG : ∀ ρ, Sfp V WD HT τa ρ → FP σ ρ := fun ρ G => FP_t F0 G.2.1
      refine lp_dn (P := fun r => ∀ ρ : mm_S, Sfp V WD HT τa ρ → (ρ = τa → ∀ i, i < r → rm i → Crm τa i (wid i) (hgt i) (KE.testBit i = true) (KN.testBit i = true)) → mw (d + 3) mt_138 Q 57 [some (.ref 10), some (.int (nI r))] [] ρ) 9 ?_ ?_ 0 (by omega) _ (Sfp_r I0) (fun _ i hi => absurd hi (Nat.not_lt_zero i))
      · intro ρ G hC
        refine kb_138_57 (fun _ => kb_138_83 ?_) (fun g => absurd (by decide) g)
        refine lp_dn (P := fun k => ∀ ρ : mm_S, Sfp V WD HT τa ρ → (ρ = τa → (∀ i, i < 9 → rm i → Crm τa i (wid i) (hgt i) (KE.testBit i = true) (KN.testBit i = true)) ∧ ∀ j, j < k → Cjn τa (if D j % 2 = 0 then ja j else jb j) (if D j % 2 = 0 then jb j else ja j) (1 - D j / 2) (wsh j)) → mw (d + 3) mt_138 Q 85 [some (.ref 10), some (.int (nI k))] [] ρ) n ?_ ?_ 0 (by omega) ρ G (fun e => ⟨hC e, fun j hj => absurd hj (Nat.not_lt_zero j)⟩)
        · intro ρ G hC
          have F1 := FG ρ G
          refine kb_138_85 (fun _ => kb_138_104 ?_) (fun g => absurd (by rw [F1.2 6 (by decide) (by decide) (by decide), e6]; exact hI_le (by omega) (Nat.le_refl n)) g)
          rcases G.2.2 with h | ⟨h1, h2⟩
          · obtain ⟨cr, cj⟩ := hC h
            refine kb_138_43 (fun _ => kb_138_107 ?_) (fun g => absurd (by rw [h]; exact a44) g)
            rw [h] at F1 ⊢
            obtain ⟨⟨v, vV, pv⟩, _, _⟩ := id I0
            have v40 : ∀ x, v x ≤ 4050 := fun x => Nat.le_trans (vV x) (V40 x)
            have sol : Sol (CSt rm n D ja jb wsh wid hgt ea no) v := by
              rintro x y c (⟨k, hk, rfl, h⟩ | ⟨k, X, Y, hk, rfl, hX, hY, rfl, rfl⟩ | ⟨i, hi, h⟩ | ⟨i, j, rfl, h⟩)
              · obtain ⟨_, _, _, d4, _⟩ := jn k hk
                have := (cj k hk v v40 pv).1
                rw [show 1 - (1 - D k / 2) = D k / 2 by omega] at this
                unfold lowr higr at h
                generalize (if D k % 2 = 0 then ja k else jb k) = r at *
                generalize (if D k % 2 = 0 then jb k else ja k) = o at *
                rw [show 4 * r + 2 + D k / 2 = 4 * r + D k / 2 + 2 by omega] at this
                rcases h with ⟨rfl, rfl⟩ | ⟨rfl, rfl⟩ <;> omega
              · obtain ⟨_, g1, g2, g3, g4⟩ := cj k hk v v40 pv
                rw [show 4 * Y + (1 - D k / 2) + 2 = 4 * Y + 2 + (1 - D k / 2) by omega]
                by_cases c : D k % 2 = 0
                · simp only [if_pos c] at g1 g2 g3 g4
                  rcases hX with rfl | rfl <;> rcases hY with rfl | rfl <;> assumption
                · simp only [if_neg c] at g1 g2 g3 g4
                  rcases hX with rfl | rfl <;> rcases hY with rfl | rfl <;> assumption
              · obtain ⟨g1, g2, _⟩ := cr i (hrm i hi) hi v v40 pv
                rcases h with ⟨rfl, rfl, rfl⟩ | ⟨rfl, rfl, rfl⟩
                · exact g1
                · exact g2
              · rcases h with ⟨h1, h2, rfl, rfl⟩ | ⟨h1, h2, rfl, rfl⟩
                · have k1 := (hea i).mp h1; have k2 := (hea j).mp h2
                  have e1 := (cr i (hrm i k1.1) k1.1 v v40 pv).2.2.1 k1.2
                  have e2 := (cr j (hrm j k2.1) k2.1 v v40 pv).2.2.1 k2.2
                  have b1 := v40 (4 * i + 2); have b2 := v40 (4 * j + 2)
                  have := (nI_eq (by omega) (by omega)).mp (e1.symm.trans e2)
                  omega
                · have k1 := (hno i).mp h1; have k2 := (hno j).mp h2
                  have e1 := (cr i (hrm i k1.1) k1.1 v v40 pv).2.2.2 k1.2
                  have e2 := (cr j (hrm j k2.1) k2.1 v v40 pv).2.2.2 k2.2
                  have b1 := v40 (4 * i + 3); have b2 := v40 (4 * j + 3)
                  have := (nI_eq (by omega) (by omega)).mp (e1.symm.trans e2)
                  omega
            have eV : v = V := funext (fun x => Nat.le_antisymm (vV x) (Ls.2 v sol x))
            subst eV
            refine q τa F1 pv (fun ⟨i, hi⟩ => ?_) (fun ⟨i, hi⟩ => ?_)
            · have k1 := (hea i).mp hi
              rw [(cr i (hrm i k1.1) k1.1 v v40 pv).2.2.1 k1.2, cE i hi]
            · have k1 := (hno i).mp hi
              rw [(cr i (hrm i k1.1) k1.1 v v40 pv).2.2.2 k1.2, cN i hi]
          · exact ih ρ _ F1 G.1 (by rw [h1]; decide) (by omega)
        · intro k hk ihk ρ G hC
          have F1 := FG ρ G
          obtain ⟨a9, b9, ne, d4, f95, f80, f81, f82⟩ := jn k hk
          refine kb_138_85 (fun g => absurd g (by rw [F1.2 6 (by decide) (by decide) (by decide), e6]; exact hI_nle (by omega) hk)) (fun _ => kb_138_93 (c_140t (by omega) a9 b9 ne d4 (by rw [F1.1 95 (by decide) (by decide) (by decide)]; exact f95) (by rw [F1.1 80 (by decide) (by decide) (by decide)]; exact f80) (by rw [F1.1 81 (by decide) (by decide) (by decide)]; exact f81) G.1 V40 (by rw [F1.1 82 (by decide) (by decide) (by decide)]; exact f82) (CJ k hk) (fun ρ' G' hJ => kb_138_98 ?_)))
          rw [nI_1]
          refine ihk ρ' (Sfp_t G G') (fun e => ?_)
          have e1 := Sfp_e G G' e
          refine ⟨(hC e1).1, fun j hj => ?_⟩
          by_cases c : j = k
          · subst c
            have := hJ (e.trans e1.symm)
            rw [e1] at this; exact this
          · exact (hC e1).2 j (by omega)
      · intro r hr ihr ρ G hC
        have F1 := FG ρ G
        have x75 : ρ 75 (nI r).toNatClampNeg = σ 75 r := by rw [nI_clamp (by omega), F1.1 75 (by decide) (by decide) (by decide)]
        refine kb_138_57 (fun g => absurd g (hI_nle (a := 9) (by omega) hr)) (fun _ => kb_138_63 (pk_in r 9 hr) (fun g => kb_138_77 ?_) (fun g => kb_138_72 ?_))
        · rw [nI_1]
          refine ihr ρ G (fun e i hi hm => ?_)
          by_cases c : i = r
          · subst c; rw [x75] at g; exact absurd g ((dr i hr).mpr hm)
          · exact hC e i (by omega) hm
        · rw [x75] at g
          have hm := (dr r hr).mp g
          refine c_139t hr G.1 V40 (by rw [F1.1 78 (by decide) (by decide) (by decide)]; exact (sz r hm).1) (by rw [F1.1 79 (by decide) (by decide) (by decide)]; exact (sz r hm).2) (Ls.1 _ _ _ (Or.inr (Or.inr (Or.inl ⟨r, hm, Or.inl ⟨rfl, rfl, rfl⟩⟩)))) (Ls.1 _ _ _ (Or.inr (Or.inr (Or.inl ⟨r, hm, Or.inr ⟨rfl, rfl, rfl⟩⟩)))) (by rw [F1.1 91 (by decide) (by decide) (by decide)]; exact eE) (by rw [F1.1 91 (by decide) (by decide) (by decide)]; exact eN) bE bN (fun h => cE r ((hea r).mpr ⟨hm, h⟩)) (fun h => cN r ((hno r).mpr ⟨hm, h⟩)) (fun ρ' G' hJ => kb_138_77 ?_)
          rw [nI_1]
          refine ihr ρ' (Sfp_t G G') (fun e i hi hm' => ?_)
          have e1 := Sfp_e G G' e
          by_cases c : i = r
          · subst c
            have := hJ (e.trans e1.symm)
            rw [e1] at this; exact this
          · exact hC e1 i (by omega) hm'
  refine ke_138 (kb_138_0 ?_)
  refine lp_dn (P := fun i => ∀ ρ : mm_S, FP σ ρ → (∀ x, x < i → ρ 96 x = 0 ∧ ρ 97 x = 0) → mw (d + 3) mt_138 Q 2 [some (.ref 10), some (.int (nI i))] [] ρ) 18 ?_ ?_ 0 (by omega) σ ⟨fun _ _ _ _ => rfl, fun _ _ _ _ => rfl⟩ (fun x hx => absurd hx (Nat.not_lt_zero x))
  · intro ρ F z
    refine kb_138_2 (fun _ => kb_138_28 (lp _ _ _ (FP_t F ⟨fun c a _ _ => by rw [mm_up_n a, mm_up_n a, mm_up_n a], fun j a b e => by rw [mm_up_o e, mm_up_o b, mm_up_o a]⟩) ⟨⟨fun _ => 0, fun _ => Nat.zero_le _, fun i a hi ha => ?_⟩, ⟨0, Nat.zero_le _, ?_⟩, ⟨0, Nat.zero_le _, ?_⟩⟩ (by rw [mm_up_s]; decide) (Nat.lt_succ_self _))) (fun g => absurd (by decide) g)
    · rw [mm_up_n (by decide), mm_up_n (by decide), mm_up_n (by decide), mm_up_n (by decide), mm_up_n (by decide), mm_up_n (by decide)]; exact z (2 * i + a) (by omega)
    · rw [mm_up_o (by decide), mm_up_o (by decide)]; exact mm_up_s
    · rw [mm_up_o (by decide)]; exact mm_up_s
  · intro i hi ih ρ F z
    refine kb_138_2 (fun g => absurd g (hI_nle (a := 18) (by omega) hi)) (fun _ => kb_138_8 (pk_in i 18 hi) (pk_in i 18 hi) ?_)
    rw [nI_1, nI_clamp (show i < 2 ^ 31 by omega)]
    refine ih _ (FP_t F ⟨fun c a b e => by rw [mm_up_n e, mm_up_n b], fun j _ _ _ => by rw [mm_up_n (by decide), mm_up_n (by decide)]⟩) (fun x hx => ?_)
    by_cases c : x = i
    · subst c
      exact ⟨by rw [mm_up_n (by decide)]; exact mm_up_s, mm_up_s⟩
    · rw [mm_up_n (show (96 : Nat) ≠ 97 by decide), mm_up_o c, mm_up_o c, mm_up_n (show (97 : Nat) ≠ 96 by decide)]; exact z x (by omega)
end
section
/-! what layRings wants, from a plan -/
theorem mjn_u {σ τ : mm_S} {n m a b k l : Nat} (Z : ZI σ n m) (t80 : τ 80 = σ 80) (t81 : τ 81 = σ 81) (hk : k < n) (hl : l < n) (h : mjn τ (nI a) (nI b) k) (h' : mjn τ (nI a) (nI b) l) : k = l := by
  unfold mjn at h h'
  rw [t80, t81] at h h'
  rcases h with ⟨p, q⟩ | ⟨p, q⟩
  · exact Z.mk.jd k l hk hl a b p q h'
  · exact Z.mk.jd k l hk hl b a p q h'.symm
theorem PLD.ox {σ τ : mm_S} {n m : Nat} {B : Nat → Nat → Nat} {s t L f : Nat} {Mk : Nat → Nat} {lab : Nat × Nat → Int32} {p K : Nat → Nat} (P : PLD σ n m B s t L f Mk lab p K) (hn : n ≤ 21) (e6 : τ 10 6 = nI n) (l9 : L ≤ 9) (e15 : τ 10 15 = nI L) (ol : ∀ k, k < L → τ 85 k = nI (wo B s t k)) (e83 : τ 83 0 = nI (wo B s t (p 0))) (h92 : ∀ i, i < 4 → τ 92 i = nI (frm L p i) ∧ τ 93 i = nI (tom L p i)) : OX τ n L (p 0) (wo B s t) (bo4 L p) := by
  have l3 := P.l3
  obtain ⟨b0, b1, b2, b3, b4, b5, _⟩ := P.dsk.bm
  exact ⟨hn, e6, by omega, l9, e15, fun k hk => ⟨(P.wa k).1.1, ol k hk⟩, fun i j h1 h2 => P.wd h1 (by omega), P.pl 0 (by decide), e83, fun i hi => by rw [← P.fb hi, ← P.tb hi]; exact h92 i hi, b0, b1, b2, b3, b4, b5⟩
end
section
/-! what findPlaces wants of the sides -/
theorem LSo_ea {rm ea no : Nat → Prop} {n : Nat} {D ja jb wsh wid hgt V : Nat → Nat} (Ls : LSo (CSt rm n D ja jb wsh wid hgt ea no) V) : ∃ WD HT, (∀ i, ea i → V (4 * i + 2) = WD) ∧ ∀ i, no i → V (4 * i + 3) = HT := by
  have h1 : ∃ WD, ∀ i, ea i → V (4 * i + 2) = WD := by
    by_cases h : ∃ i, ea i
    · obtain ⟨i0, e0⟩ := h
      refine ⟨V (4 * i0 + 2), fun i hi => ?_⟩
      have a := Ls.1 _ _ _ (Or.inr (Or.inr (Or.inr ⟨i, i0, rfl, Or.inl ⟨hi, e0, rfl, rfl⟩⟩)))
      have b := Ls.1 _ _ _ (Or.inr (Or.inr (Or.inr ⟨i0, i, rfl, Or.inl ⟨e0, hi, rfl, rfl⟩⟩)))
      omega
    · exact ⟨0, fun i hi => absurd ⟨i, hi⟩ h⟩
  have h2 : ∃ HT, ∀ i, no i → V (4 * i + 3) = HT := by
    by_cases h : ∃ i, no i
    · obtain ⟨i0, e0⟩ := h
      refine ⟨V (4 * i0 + 3), fun i hi => ?_⟩
      have a := Ls.1 _ _ _ (Or.inr (Or.inr (Or.inr ⟨i, i0, rfl, Or.inr ⟨hi, e0, rfl, rfl⟩⟩)))
      have b := Ls.1 _ _ _ (Or.inr (Or.inr (Or.inr ⟨i0, i, rfl, Or.inr ⟨e0, hi, rfl, rfl⟩⟩)))
      omega
    · exact ⟨0, fun i hi => absurd ⟨i, hi⟩ h⟩
  obtain ⟨WD, a⟩ := h1
  obtain ⟨HT, b⟩ := h2
  exact ⟨WD, HT, a, b⟩
theorem PLD.nes {σ : mm_S} {n m : Nat} {B : Nat → Nat → Nat} {s t L f : Nat} {Mk : Nat → Nat} {lab : Nat × Nat → Int32} {p K : Nat → Nat} (P : PLD σ n m B s t L f Mk lab p K) {s' r : Nat} (hs : s' < 4) : neS K s' r ↔ rmx m r ∧ (K (9 + s')).testBit r = true := by
  unfold neS
  constructor
  · rintro ⟨r9, h⟩
    have h' : nrP σ m B s t L p r (9 + s') := (P.kn (u := r) (by omega)).mp h
    have sy := P.gp.sy _ _ h'
    refine ⟨?_, (P.kn (u := 9 + s') (by omega)).mpr sy⟩
    rcases (P.gp.2.2.1 _ _ h').2 with g | g
    · exact g
    · omega
  · rintro ⟨hr, h⟩
    have h' : nrP σ m B s t L p (9 + s') r := (P.kn (u := 9 + s') (by omega)).mp h
    have r9 := hr.1
    exact ⟨r9, (P.kn (u := r) (by omega)).mpr (P.gp.sy _ _ h')⟩
end
