section
/-! class: goInside -/
/-- HouseDesk$Walks.goInside, from 7 -/
theorem ks_39_7 {d : Nat} {Q : mm_Q} {x1 : Int32} {σ : mm_S} (H1 : ¬ ((σ 1 12) ≤ x1) → vp_in x1 21) (H2 : ¬ ((σ 1 12) ≤ x1) → vp_in (σ 16 x1.toNatClampNeg) 9) (H3 : ¬ ((σ 1 12) ≤ x1) → vp_in (σ 17 x1.toNatClampNeg) 9) (H4 : ¬ ((σ 1 12) ≤ x1) → vp_in ((mm_up σ (33 + 1 + (σ 16 x1.toNatClampNeg).toNatClampNeg) (σ 17 x1.toNatClampNeg).toNatClampNeg (-2 : Int32)) 17 x1.toNatClampNeg) 9) (H5 : ¬ ((σ 1 12) ≤ x1) → vp_in ((mm_up σ (33 + 1 + (σ 16 x1.toNatClampNeg).toNatClampNeg) (σ 17 x1.toNatClampNeg).toNatClampNeg (-2 : Int32)) 16 x1.toNatClampNeg) 9) (q0 : (σ 1 12) ≤ x1 → mw d mt_39 Q 78 [some (.ref 5), some (.int (0 : Int32))] [] σ) (q1 : ¬ ((σ 1 12) ≤ x1) → mw d mt_39 Q 7 [some (.ref 5), some (.int (x1 + 1))] [] (mm_up (mm_up σ (33 + 1 + (σ 16 x1.toNatClampNeg).toNatClampNeg) (σ 17 x1.toNatClampNeg).toNatClampNeg (-2 : Int32)) (33 + 1 + ((mm_up σ (33 + 1 + (σ 16 x1.toNatClampNeg).toNatClampNeg) (σ 17 x1.toNatClampNeg).toNatClampNeg (-2 : Int32)) 17 x1.toNatClampNeg).toNatClampNeg) ((mm_up σ (33 + 1 + (σ 16 x1.toNatClampNeg).toNatClampNeg) (σ 17 x1.toNatClampNeg).toNatClampNeg (-2 : Int32)) 16 x1.toNatClampNeg).toNatClampNeg (-2 : Int32))) : mw d mt_39 Q 7 [some (.ref 5), some (.int x1)] [] σ := (kb_39_7 (fun g0 => (kb_39_76 (q0 g0))) (fun g0 => (kb_39_18 (H1 g0) (H2 g0) (H1 g0) (H3 g0) (H1 g0) (H4 g0) (H1 g0) (H5 g0) (q1 g0))))
/-- HouseDesk$Walks.goInside, from 78 -/
theorem ks_39_78 {d : Nat} {Q : mm_Q} {x1 : Int32} {σ : mm_S} (H1 : ¬ ((σ 5 3) ≤ x1) → vp_in x1 9) (H2 : ¬ ((σ 5 3) ≤ x1) → vp_in (σ 31 x1.toNatClampNeg) 9) (H3 : ¬ ((σ 5 3) ≤ x1) → ¬ ((σ 5 3) ≤ (x1 + (1 : Int32))) → vp_in (x1 + (1 : Int32)) 9) (H4 : ¬ ((σ 5 3) ≤ x1) → vp_in (f_40 σ x1) 9) (q0 : (σ 5 3) ≤ x1 → mw (d + 1) mt_39 Q 112 [some (.ref 5), some (.int (0 : Int32))] [] σ) (q1 : ¬ ((σ 5 3) ≤ x1) → mw (d + 1) mt_39 Q 78 [some (.ref 5), some (.int (x1 + 1))] [] (mm_up σ (33 + 1 + (σ 31 x1.toNatClampNeg).toNatClampNeg) (f_40 σ x1).toNatClampNeg (-1 : Int32))) : mw (d + 1) mt_39 Q 78 [some (.ref 5), some (.int x1)] [] σ := (kb_39_78 (fun g0 => (kb_39_110 (q0 g0))) (fun g0 => (kb_39_86 (H1 g0) (H2 g0) (c_40 (H3 g0) (kb_39_102 (mr_33 (H2 g0) (H4 g0)) (q1 g0))))))
theorem BH_cg {σ τ τ' : mm_S} {m : Nat} (h : ∀ k, 22 ≤ k → k ≤ 30 → τ' k = τ k) (H : BH σ τ m) : BH σ τ' m := fun a b h1 h2 h3 => DD_cg (h _ (by omega) (by omega)) (H a b h1 h2 h3)
/-- the k-th dart of the outline -/
def od (τ : mm_S) (s t k : Nat) : Nat × Nat := (wo (Bf τ) s t k, wo (Bf τ) s t (k + 1))
/-- what goInside leaves behind -/
def GI (σ τ τ' : mm_S) (m s t L f : Nat) : Prop := (∀ c, c ≠ 5 → (c < 34 ∨ 43 < c) → τ' c = τ c) ∧ (∀ j, j ≠ 6 → τ' 5 j = τ 5 j) ∧ FS σ τ' m f ∧ ∀ x, Dt σ m x → ¬ Fw τ' x = -2 ∧ (Fw τ' x = -1 ↔ ∃ k, k < L ∧ x = od τ s t k)
theorem f_40_o {τ : mm_S} {s t L k : Nat} (O : OL τ s t L) (hk : k < L) : f_40 τ (nI k) = nI (wo (Bf τ) s t (k + 1)) := by
  obtain ⟨l1, l9, e3, eL, eL1, dis, arr, non⟩ := O
  unfold f_40
  rw [e3, nI_1]
  by_cases h : k + 1 = L
  · rw [if_pos (hI_le (by omega) (by omega)), (arr 0 (by omega)).1, h, eL]; rfl
  · rw [if_neg (hI_nle (by omega) (by omega)), nI_clamp (by omega)]
    exact (arr (k + 1) (by omega)).1
theorem c_39 {d n m s t L : Nat} {Q : mm_Q} {σ τ : mm_S} (C : CK σ n m) (N : NC σ n) (F : ∀ c, c ≠ 5 → (c < 22 ∨ 32 < c) → τ c = σ c) (H : BH σ τ m) (s9 : s < 9) (ms : m.testBit s = true) (hst : aj σ s t) (O : OL τ s t L)
    (q : ∀ τ' f, GI σ τ τ' m s t L f → Q none τ') : mD (d + 2) 39 [.ref 5] τ Q := by
  have AJ := wo_aj C H s9 ms hst
  have n21 := C.jn.1
  obtain ⟨l1, l9, e3, eL, eL1, dis, arr, non⟩ := id O
  have oD : ∀ k, Dt σ m (od τ s t k) := fun k => AJ k
  have ophi : ∀ k, ph (Bf τ) (od τ s t k) = od τ s t (k + 1) := fun k => rfl
  have oL : od τ s t L = od τ s t 0 := by unfold od; rw [eL, eL1]; rfl
  refine ke_39 (kb_39_0 ?_)
  -- first: all darts unwalked
  refine lp_dn (P := fun e => ∀ ρ : mm_S, (∀ c, c ≠ 5 → (c < 34 ∨ 42 < c) → ρ c = τ c) → (∀ j, j ≠ 6 → ρ 5 j = τ 5 j) → ρ 5 6 = nI 0 → (∀ k, k < e → ∀ a b, a < 9 → b < 9 → σ 16 k = nI a → σ 17 k = nI b → Fw ρ (a, b) = -2 ∧ Fw ρ (b, a) = -2) → mw (d + 1) mt_39 Q 7 [some (.ref 5), some (.int (nI e))] [] ρ) n ?_ ?_ 0 (Nat.zero_le n) _ (fun c h _ => mm_up_n h) (fun j hj => mm_up_o hj) mm_up_s (fun k hk => absurd hk (Nat.not_lt_zero k))
  · intro ρ fr f5 f56 hF
    have r1 : ρ 1 12 = nI n := by rw [fr 1 (by omega) (by omega), F 1 (by omega) (by omega)]; exact C.jn.2
    have gt : ρ 1 12 ≤ nI n := by rw [r1]; exact hI_le (by omega) (Nat.le_refl n)
    refine ks_39_7 (fun g => absurd gt g) (fun g => absurd gt g) (fun g => absurd gt g) (fun g => absurd gt g) (fun g => absurd gt g) (fun _ => ?_) (fun g => absurd gt g)
    have hF2 : ∀ x, Dt σ m x → Fw ρ x = -2 := fun x hx => by
      obtain ⟨h1, h2, h3⟩ := hx
      obtain ⟨k, hk, hh, h9⟩ := (C.ja x.1 x.2 h1 h2).mp h3
      rcases hh with ⟨p, r⟩ | ⟨p, r⟩
      · exact (hF k hk x.1 x.2 h1 h9 p r).1
      · exact (hF k hk x.2 x.1 h9 h1 p r).2
    clear hF
    -- second: the outline
    refine lp_dn (P := fun k => ∀ ρ : mm_S, (∀ c, c ≠ 5 → (c < 34 ∨ 42 < c) → ρ c = τ c) → (∀ j, j ≠ 6 → ρ 5 j = τ 5 j) → ρ 5 6 = nI 0 → (∀ x, Dt σ m x → (Fw ρ x = -1 ∧ ∃ j, j < k ∧ x = od τ s t j) ∨ (Fw ρ x = -2 ∧ ∀ j, j < k → x ≠ od τ s t j)) → mw (d + 1) mt_39 Q 78 [some (.ref 5), some (.int (nI k))] [] ρ) L ?_ ?_ 0 (Nat.zero_le L) ρ fr f5 f56 (fun x hx => Or.inr ⟨hF2 x hx, fun j hj => absurd hj (Nat.not_lt_zero j)⟩)
    · intro ρ fr f5 f56 lab
      have e53 : ρ 5 3 = nI L := by rw [f5 3 (by decide)]; exact e3
      have g3 : ρ 5 3 ≤ nI L := by rw [e53]; exact hI_le (by omega) (Nat.le_refl L)
      refine ks_39_78 (fun g => absurd g3 g) (fun g => absurd g3 g) (fun g => absurd g3 g) (fun g => absurd g3 g) (fun _ => ?_) (fun g => absurd g3 g)
      have hB : ∀ a b, a < 9 → Bf ρ a b = Bf τ a b := Bf_cg (fun c h1 h2 => fr c (by omega) (by omega))
      have hph : ∀ y, Dt σ m y → ph (Bf ρ) y = ph (Bf τ) y := fun y hy => by unfold ph; rw [hB _ _ (Dt_2 C hy).1]
      have S0 : FS σ ρ m 0 := by
        refine ⟨f56, fun y hy => ?_, fun y hy => ?_, fun g hg => absurd hg (Nat.not_lt_zero g), ⟨0, by omega, fun c _ h => absurd h (by simp)⟩⟩
        · rw [hph y hy]
          rcases lab y hy with ⟨a1, j, hj, a2⟩ | ⟨a1, a2⟩
          · rcases lab _ (ph_D C H y hy) with ⟨b1, _⟩ | ⟨b1, b2⟩
            · rw [a1, b1]
            · exfalso
              rw [a2, ophi] at b2
              by_cases ej : j + 1 = L
              · exact b2 0 (by omega) (by rw [ej]; exact oL)
              · exact b2 (j + 1) (by omega) rfl
          · rcases lab _ (ph_D C H y hy) with ⟨b1, j, hj, b2⟩ | ⟨b1, b2⟩
            · exfalso
              rcases Nat.eq_zero_or_pos j with jz | jz
              · subst jz
                rw [← oL] at b2
                obtain ⟨k', ek⟩ : ∃ k', L = k' + 1 := ⟨L - 1, by omega⟩
                rw [ek, ← ophi] at b2
                exact a2 k' (by omega) (ph_inj C N H _ _ hy (oD k') b2)
              · obtain ⟨j', rfl⟩ : ∃ j', j = j' + 1 := ⟨j - 1, by omega⟩
                rw [← ophi] at b2
                exact a2 j' (by omega) (ph_inj C N H _ _ hy (oD j') b2)
            · rw [a1, b1]
        · rcases lab y hy with ⟨a1, _⟩ | ⟨a1, _⟩
          · exact Or.inr (Or.inl a1)
          · exact Or.inl a1
      -- third: the walks
      refine lp_dn (P := fun e => ∀ (π : mm_S) (f : Nat), (∀ c, c ≠ 5 → (c < 34 ∨ 43 < c) → π c = τ c) → (∀ j, j ≠ 6 → π 5 j = τ 5 j) → FS σ π m f → (∀ x, Dt σ m x → (Fw π x = -1 ↔ ∃ k, k < L ∧ x = od τ s t k)) → (∀ k, k < e → ¬ Fw π (dcd σ (2 * k)) = -2 ∧ ¬ Fw π (dcd σ (2 * k + 1)) = -2) → mw (d + 1) mt_39 Q 112 [some (.ref 5), some (.int (nI e))] [] π) n ?_ ?_ 0 (Nat.zero_le n) ρ 0 (fun c h1 h2 => fr c h1 (by omega)) f5 S0 (fun x hx => ?_) (fun k hk => absurd hk (Nat.not_lt_zero k))
      · intro π f fr5 g5 S lab5 done
        have r1 : π 1 12 = nI n := by rw [fr5 1 (by omega) (by omega), F 1 (by omega) (by omega)]; exact C.jn.2
        refine kb_39_112 (fun _ => kb_39_173 (q π f ⟨fr5, g5, S, fun x hx => ⟨?_, lab5 x hx⟩⟩)) (fun g => absurd ?_ g)
        · obtain ⟨c, c1, c2⟩ := dcd_ex C hx
          obtain ⟨d1, d2⟩ := done (c / 2) (by omega)
          rcases Nat.mod_two_eq_zero_or_one c with z | z
          · rw [show 2 * (c / 2) = c by omega, c2] at d1; exact d1
          · rw [show 2 * (c / 2) + 1 = c by omega, c2] at d2; exact d2
        · rw [r1]; exact hI_le (by omega) (Nat.le_refl n)
      · intro e he ih π f fr5 g5 S lab5 done
        obtain ⟨a, b, ha, hb, hne, ma, mb, e1, e2⟩ := C.je e he
        have ce : (nI e).toNatClampNeg = e := nI_clamp (by omega)
        have D0 := dcd_D C (c := 2 * e) (by omega)
        have D1 := dcd_D C (c := 2 * e + 1) (by omega)
        have d0 : dcd σ (2 * e) = (a, b) := by
          unfold dcd; rw [if_pos (by omega), show 2 * e / 2 = e by omega, e1, e2, nI_clamp (by omega), nI_clamp (by omega)]
        have d1 : dcd σ (2 * e + 1) = (b, a) := by
          unfold dcd; rw [if_neg (by omega), show (2 * e + 1) / 2 = e by omega, e1, e2, nI_clamp (by omega), nI_clamp (by omega)]
        have step : ∀ (π π' : mm_S) (f f' : Nat), wf σ π π' m f f' → (∀ c, c ≠ 5 → (c < 34 ∨ 43 < c) → π c = τ c) → (∀ j, j ≠ 6 → π 5 j = τ 5 j) → (∀ x, Dt σ m x → (Fw π x = -1 ↔ ∃ k, k < L ∧ x = od τ s t k)) → (∀ c, c ≠ 5 → (c < 34 ∨ 43 < c) → π' c = τ c) ∧ (∀ j, j ≠ 6 → π' 5 j = τ 5 j) ∧ FS σ π' m f' ∧ (∀ x, Dt σ m x → (Fw π' x = -1 ↔ ∃ k, k < L ∧ x = od τ s t k)) ∧ (∀ x, Dt σ m x → ¬ Fw π x = -2 → ¬ Fw π' x = -2) := by
          intro π π' f f' ⟨w1, w2, w3, w4, w5⟩ fr5 g5 lab5
          have f41 : ∀ g, g < f' → g < 2 ^ 31 := fun g hg => by
            obtain ⟨v, hv, _⟩ := w3.ct
            have := bc_n v 42
            omega
          refine ⟨fun c h1 h2 => by rw [w1 c h1 h2]; exact fr5 c h1 h2, fun j hj => by rw [w2 j hj]; exact g5 j hj, w3, fun x hx => ?_, fun x hx hn => ?_⟩
          · rw [← lab5 x hx]
            rcases w5 x hx with z | ⟨z, g, hg, y⟩
            · rw [z]
            · rw [z, y]
              exact ⟨fun w => absurd w (nI_m1 (f41 g hg)), fun w => absurd w (by decide)⟩
          · rcases w5 x hx with z | ⟨z, g, hg, y⟩
            · rw [z]; exact hn
            · exact absurd z hn
        have BHπ : ∀ π : mm_S, (∀ c, c ≠ 5 → (c < 34 ∨ 43 < c) → π c = τ c) → BH σ π m := fun π h => BH_cg (fun k h1 h2 => h k (by omega) (by omega)) H
        have end16 : ∀ π : mm_S, (∀ c, c ≠ 5 → (c < 34 ∨ 43 < c) → π c = τ c) → π 16 (nI e).toNatClampNeg = nI a ∧ π 17 (nI e).toNatClampNeg = nI b := fun π h => by
          rw [ce, h 16 (by omega) (by omega), h 17 (by omega) (by omega), F 16 (by omega) (by omega), F 17 (by omega) (by omega)]
          exact ⟨e1, e2⟩
        refine kb_39_112 (fun g => absurd g ?_) (fun _ => kb_39_123 (pk_in e 21 (by omega)) (pk_in e 21 (by omega)) ?_)
        · rw [fr5 1 (by omega) (by omega), F 1 (by omega) (by omega), C.jn.2]; exact hI_nle (by omega) he
        · rw [(end16 π fr5).1, (end16 π fr5).2]
          rw [d0] at D0
          rw [d1] at D1
          refine c_42 (x := (a, b)) C N (BHπ π fr5) S D0 (fun π1 f1 W1 n1 => ?_)
          obtain ⟨p1, p2, p3, p4, p5⟩ := step π π1 f f1 W1 fr5 g5 lab5
          refine kb_39_145 (pk_in e 21 (by omega)) (pk_in e 21 (by omega)) ?_
          rw [(end16 π1 p1).1, (end16 π1 p1).2]
          refine c_42 (x := (b, a)) C N (BHπ π1 p1) p3 D1 (fun π2 f2 W2 n2 => kb_39_167 ?_)
          obtain ⟨r1, r2, r3, r4, r5⟩ := step π1 π2 f1 f2 W2 p1 p2 p4
          rw [nI_1]
          refine ih π2 f2 r1 r2 r3 r4 (fun k hk => ?_)
          by_cases ek : k = e
          · subst ek
            rw [d0, d1]
            exact ⟨r5 _ D0 n1, n2⟩
          · obtain ⟨u1, u2⟩ := done k (by omega)
            have E0 := dcd_D C (c := 2 * k) (by omega)
            have E1 := dcd_D C (c := 2 * k + 1) (by omega)
            exact ⟨r5 _ E0 (p5 _ E0 u1), r5 _ E1 (p5 _ E1 u2)⟩
      · rcases lab x hx with ⟨a1, a2⟩ | ⟨a1, a2⟩
        · exact ⟨fun _ => a2, fun _ => a1⟩
        · rw [a1]
          exact ⟨fun w => absurd w (by decide), fun ⟨k, hk, w⟩ => absurd w (a2 k hk)⟩
    · intro k hk ih ρ fr f5 f56 lab
      have e53 : ρ 5 3 = nI L := by rw [f5 3 (by decide)]; exact e3
      have g3 : ¬ (ρ 5 3 ≤ nI k) := by rw [e53]; exact hI_nle (by omega) hk
      have ck : (nI k).toNatClampNeg = k := nI_clamp (by omega)
      obtain ⟨a1, a2, a3⟩ := AJ k
      obtain ⟨b1, b2, b3⟩ := AJ (k + 1)
      have r31 : ρ 31 (nI k).toNatClampNeg = nI (wo (Bf τ) s t k) := by rw [ck, fr 31 (by omega) (by omega)]; exact (arr k hk).1
      have r40 : f_40 ρ (nI k) = nI (wo (Bf τ) s t (k + 1)) := by
        rw [← f_40_o O hk]
        unfold f_40
        rw [e53, e3, fr 31 (by omega) (by omega)]
      refine ks_39_78 (fun _ => pk_in k 9 (by omega)) (fun _ => by rw [r31]; exact pk_in _ 9 a1) (fun _ z => ?_) (fun _ => by rw [r40]; exact pk_in _ 9 b1) (fun g => absurd g g3) (fun _ => ?_)
      · rw [nI_1]
        rw [e53, nI_1] at z
        exact pk_in (k + 1) 9 (by
          rcases Nat.lt_or_ge (k + 1) L with y | y
          · omega
          · exact absurd (hI_le (by omega) y) z)
      · rw [nI_1, r31, r40, nI_clamp (show wo (Bf τ) s t k < 2 ^ 31 by omega), nI_clamp (show wo (Bf τ) s t (k + 1) < 2 ^ 31 by omega)]
        refine ih _ (fun c h1 h2 => by rw [mm_up_n (by omega)]; exact fr c h1 h2) (fun j hj => by rw [mm_up_n (by omega)]; exact f5 j hj) (by rw [mm_up_n (by omega)]; exact f56) (fun x hx => ?_)
        have hu := Fw_up (τ := ρ) (x := od τ s t k) (y := x) (v := -1)
        rw [show Fw (mm_up ρ (33 + 1 + wo (Bf τ) s t k) (wo (Bf τ) s t (k + 1)) (-1)) x = if x = od τ s t k then -1 else Fw ρ x from hu]
        by_cases e : x = od τ s t k
        · rw [if_pos e]; exact Or.inl ⟨rfl, k, by omega, e⟩
        · rw [if_neg e]
          rcases lab x hx with ⟨u1, j, hj, u2⟩ | ⟨u1, u2⟩
          · exact Or.inl ⟨u1, j, by omega, u2⟩
          · refine Or.inr ⟨u1, fun j hj => ?_⟩
            by_cases ej : j = k
            · rw [ej]; exact e
            · exact u2 j (by omega)
  · intro e he ih ρ fr f5 f56 hF
    obtain ⟨a, b, ha, hb, hne, ma, mb, e1, e2⟩ := C.je e he
    have ce : (nI e).toNatClampNeg = e := nI_clamp (by omega)
    have r16 : ρ 16 (nI e).toNatClampNeg = nI a := by rw [ce, fr 16 (by omega) (by omega), F 16 (by omega) (by omega)]; exact e1
    have r17 : ρ 17 (nI e).toNatClampNeg = nI b := by rw [ce, fr 17 (by omega) (by omega), F 17 (by omega) (by omega)]; exact e2
    have ca : (nI a).toNatClampNeg = a := nI_clamp (by omega)
    have cb : (nI b).toNatClampNeg = b := nI_clamp (by omega)
    have g3 : ¬ (ρ 1 12 ≤ nI e) := by rw [fr 1 (by omega) (by omega), F 1 (by omega) (by omega), C.jn.2]; exact hI_nle (by omega) he
    have u16 : (mm_up ρ (33 + 1 + a) b (-2)) 16 (nI e).toNatClampNeg = nI a := by rw [mm_up_n (by omega)]; exact r16
    have u17 : (mm_up ρ (33 + 1 + a) b (-2)) 17 (nI e).toNatClampNeg = nI b := by rw [mm_up_n (by omega)]; exact r17
    refine ks_39_7 (fun _ => pk_in e 21 (by omega)) (fun _ => by rw [r16]; exact pk_in a 9 ha) (fun _ => by rw [r17]; exact pk_in b 9 hb) (fun _ => by rw [r16, r17, ca, cb, u17]; exact pk_in b 9 hb) (fun _ => by rw [r16, r17, ca, cb, u16]; exact pk_in a 9 ha) (fun g => absurd g g3) (fun _ => ?_)
    rw [nI_1, r16, r17, ca, cb, u16, u17, ca, cb]
    refine ih _ (fun c h1 h2 => by rw [mm_up_n (by omega), mm_up_n (by omega)]; exact fr c h1 h2) (fun j hj => by rw [mm_up_n (by omega), mm_up_n (by omega)]; exact f5 j hj) (by rw [mm_up_n (by omega), mm_up_n (by omega)]; exact f56) (fun k hk x y hx hy h1 h2 => ?_)
    have hu : ∀ z, Fw (mm_up (mm_up ρ (33 + 1 + a) b (-2)) (33 + 1 + b) a (-2)) z = if z = (b, a) then -2 else if z = (a, b) then -2 else Fw ρ z := fun z => by
      have h1 := Fw_up (τ := mm_up ρ (33 + 1 + a) b (-2)) (x := (b, a)) (y := z) (v := -2)
      have h2 := Fw_up (τ := ρ) (x := (a, b)) (y := z) (v := -2)
      rw [← h2]; exact h1
    rw [hu, hu]
    by_cases ek : k = e
    · subst ek
      have p1 := nI9 hx ha (h1.symm.trans e1)
      have p2 := nI9 hy hb (h2.symm.trans e2)
      subst p1; subst p2
      simp
    · obtain ⟨v1, v2⟩ := hF k (by omega) x y hx hy h1 h2
      rw [v1, v2]
      simp
end
section
/-! class: bitCount, lowest as a number, findWideFace -/
def F153 (x0 : Int32) : Int32 := ((((((((x0 - ((x0.toUInt32 >>> ((1 : Int32).toUInt32 &&& Int32.toUInt32 31)).toInt32 &&& (1431655765 : Int32))) &&& (858993459 : Int32)) + (((x0 - ((x0.toUInt32 >>> ((1 : Int32).toUInt32 &&& Int32.toUInt32 31)).toInt32 &&& (1431655765 : Int32))).toUInt32 >>> ((2 : Int32).toUInt32 &&& Int32.toUInt32 31)).toInt32 &&& (858993459 : Int32))) + ((((x0 - ((x0.toUInt32 >>> ((1 : Int32).toUInt32 &&& Int32.toUInt32 31)).toInt32 &&& (1431655765 : Int32))) &&& (858993459 : Int32)) + (((x0 - ((x0.toUInt32 >>> ((1 : Int32).toUInt32 &&& Int32.toUInt32 31)).toInt32 &&& (1431655765 : Int32))).toUInt32 >>> ((2 : Int32).toUInt32 &&& Int32.toUInt32 31)).toInt32 &&& (858993459 : Int32))).toUInt32 >>> ((4 : Int32).toUInt32 &&& Int32.toUInt32 31)).toInt32) &&& (252645135 : Int32)) + ((((((x0 - ((x0.toUInt32 >>> ((1 : Int32).toUInt32 &&& Int32.toUInt32 31)).toInt32 &&& (1431655765 : Int32))) &&& (858993459 : Int32)) + (((x0 - ((x0.toUInt32 >>> ((1 : Int32).toUInt32 &&& Int32.toUInt32 31)).toInt32 &&& (1431655765 : Int32))).toUInt32 >>> ((2 : Int32).toUInt32 &&& Int32.toUInt32 31)).toInt32 &&& (858993459 : Int32))) + ((((x0 - ((x0.toUInt32 >>> ((1 : Int32).toUInt32 &&& Int32.toUInt32 31)).toInt32 &&& (1431655765 : Int32))) &&& (858993459 : Int32)) + (((x0 - ((x0.toUInt32 >>> ((1 : Int32).toUInt32 &&& Int32.toUInt32 31)).toInt32 &&& (1431655765 : Int32))).toUInt32 >>> ((2 : Int32).toUInt32 &&& Int32.toUInt32 31)).toInt32 &&& (858993459 : Int32))).toUInt32 >>> ((4 : Int32).toUInt32 &&& Int32.toUInt32 31)).toInt32) &&& (252645135 : Int32)).toUInt32 >>> ((8 : Int32).toUInt32 &&& Int32.toUInt32 31)).toInt32) + (((((((x0 - ((x0.toUInt32 >>> ((1 : Int32).toUInt32 &&& Int32.toUInt32 31)).toInt32 &&& (1431655765 : Int32))) &&& (858993459 : Int32)) + (((x0 - ((x0.toUInt32 >>> ((1 : Int32).toUInt32 &&& Int32.toUInt32 31)).toInt32 &&& (1431655765 : Int32))).toUInt32 >>> ((2 : Int32).toUInt32 &&& Int32.toUInt32 31)).toInt32 &&& (858993459 : Int32))) + ((((x0 - ((x0.toUInt32 >>> ((1 : Int32).toUInt32 &&& Int32.toUInt32 31)).toInt32 &&& (1431655765 : Int32))) &&& (858993459 : Int32)) + (((x0 - ((x0.toUInt32 >>> ((1 : Int32).toUInt32 &&& Int32.toUInt32 31)).toInt32 &&& (1431655765 : Int32))).toUInt32 >>> ((2 : Int32).toUInt32 &&& Int32.toUInt32 31)).toInt32 &&& (858993459 : Int32))).toUInt32 >>> ((4 : Int32).toUInt32 &&& Int32.toUInt32 31)).toInt32) &&& (252645135 : Int32)) + ((((((x0 - ((x0.toUInt32 >>> ((1 : Int32).toUInt32 &&& Int32.toUInt32 31)).toInt32 &&& (1431655765 : Int32))) &&& (858993459 : Int32)) + (((x0 - ((x0.toUInt32 >>> ((1 : Int32).toUInt32 &&& Int32.toUInt32 31)).toInt32 &&& (1431655765 : Int32))).toUInt32 >>> ((2 : Int32).toUInt32 &&& Int32.toUInt32 31)).toInt32 &&& (858993459 : Int32))) + ((((x0 - ((x0.toUInt32 >>> ((1 : Int32).toUInt32 &&& Int32.toUInt32 31)).toInt32 &&& (1431655765 : Int32))) &&& (858993459 : Int32)) + (((x0 - ((x0.toUInt32 >>> ((1 : Int32).toUInt32 &&& Int32.toUInt32 31)).toInt32 &&& (1431655765 : Int32))).toUInt32 >>> ((2 : Int32).toUInt32 &&& Int32.toUInt32 31)).toInt32 &&& (858993459 : Int32))).toUInt32 >>> ((4 : Int32).toUInt32 &&& Int32.toUInt32 31)).toInt32) &&& (252645135 : Int32)).toUInt32 >>> ((8 : Int32).toUInt32 &&& Int32.toUInt32 31)).toInt32).toUInt32 >>> ((16 : Int32).toUInt32 &&& Int32.toUInt32 31)).toInt32) &&& (63 : Int32))
theorem c_153 {d : Nat} {Q : mm_Q} {x : Int32} {σ : mm_S} (q : Q (some (.int (F153 x))) σ) : mD (d + 1) 153 [.int x] σ Q := ke_153 (kb_153_0 q)
set_option maxRecDepth 1000000 in
theorem F153_bc0 : ∀ a, a < 16 → ∀ m, m < 512 → F153 (nI (512 * a + m)) = nI (bc (512 * a + m) 13) := by decide +kernel
theorem F153_bc {m : Nat} (h : m < 8192) : F153 (nI m) = nI (bc m 13) := by
  have := F153_bc0 (m / 512) (by omega) (m % 512) (by omega)
  rw [show 512 * (m / 512) + m % 512 = m by omega] at this
  exact this
/-- the lowest bit -/
def lo (m : Nat) : Nat → Nat → Nat
  | 0, i => i
  | k + 1, i => if m.testBit i = true then i else lo m k (i + 1)
theorem lo_eq {m i : Nat} : ∀ k j, j + k = 13 → j ≤ i → i ≤ 13 → (∀ l, l < i → m.testBit l = false) → (i < 13 → m.testBit i = true) → lo m k j = i
  | 0, j, h1, h2, h3, _, _ => by show j = i; omega
  | k + 1, j, h1, h2, h3, h4, h5 => by
    show (if m.testBit j = true then j else lo m k (j + 1)) = i
    by_cases e : j = i
    · subst e; rw [if_pos (h5 (by omega))]
    · rw [if_neg (by rw [h4 j (by omega)]; decide)]
      exact lo_eq k (j + 1) (by omega) (by omega) h3 h4 h5
def F5 (x : Int32) : Int32 := nI (lo x.toNatClampNeg 13 0)
theorem F5_n {m : Nat} (h : m < 2 ^ 31) : F5 (nI m) = nI (lo m 13 0) := by unfold F5; rw [nI_clamp h]
theorem c_5f {d : Nat} {Q : mm_Q} {x : Int32} {σ : mm_S} (h : ¬ x < 0) (q : Q (some (.int (F5 x))) σ) : mD (d + 2) 5 [.int x] σ Q := by
  obtain ⟨m, hm, e⟩ := nI_of h
  subst e
  rw [F5_n hm] at q
  refine c_5 hm (fun i h1 h2 h3 => ?_)
  rw [lo_eq 13 0 rfl (Nat.zero_le i) h1 h2 h3] at q
  exact q
end
section
/-! class: findWideFace -/
/-- HouseDesk$Walks.threeLeast -/
def f_44 (x0 : Int32) : Int32 := (x0 ^^^ (f_6 (f_6 (f_6 x0))))
theorem c_44 {d : Nat} {Q : mm_Q} {x0 : Int32} {σ : mm_S} (q : Q (some (.int (f_44 x0))) σ) : mD (d + 2) 44 [.int x0] σ Q := ke_44 (kb_44_0 (c_6 (kb_44_4 (c_6 (kb_44_7 (c_6 (kb_44_10 q)))))))
/-- HouseDesk$Walks.comesBefore -/
def f_45 (x0 x1 : Int32) : Int32 := (hs x0 (F5 (x0 ^^^ x1)))
theorem f_45_01 (x0 x1 : Int32) : (f_45 x0 x1) = 0 ∨ (f_45 x0 x1) = 1 := by
  unfold f_45
  repeat' split
  all_goals first | exact Or.inl rfl | exact Or.inr rfl | exact (hs_01 _ _)
theorem c_45 {d : Nat} {Q : mm_Q} {x0 x1 : Int32} {σ : mm_S} (H1 : ¬ (x0 ^^^ x1) < 0) (q : Q (some (.int (f_45 x0 x1))) σ) : mD (d + 3) 45 [.int x0, .int x1] σ Q := ke_45 (kb_45_0 (c_5f H1 (kb_45_7 (c_4 (kb_45_10 (hs_01 _ _) q)))))
/-- HouseDesk$Walks.findWideFace, from 0 -/
theorem ks_43_0 {d : Nat} {Q : mm_Q} {σ : mm_S} (q0 : mw d mt_43 Q 4 [some (.ref 5), some (.ref 3), some (.int (0 : Int32)), some (.int (0 : Int32)), none] [] σ) : mD (d + 1) 43 [.ref 5, .ref 3] σ Q := ke_43 (kb_43_0 q0)
/-- HouseDesk$Walks.findWideFace, from 4 -/
theorem ks_43_4 {d : Nat} {Q : mm_Q} {x2 x3 : Int32} {o4 : Option Value} {σ : mm_S} (H1 : (σ 5 6) ≤ x3 → ¬ (x2 = 0) → ¬ x2 < 0) (H2 : (σ 5 6) ≤ x3 → ¬ (x2 = 0) → ¬ (f_6 x2) < 0) (H3 : (σ 5 6) ≤ x3 → ¬ (x2 = 0) → ¬ (f_6 (f_6 x2)) < 0) (H4 : ¬ ((σ 5 6) ≤ x3) → vp_in x3 42) (H5 : ¬ ((σ 5 6) ≤ x3) → ¬ ((F153 (σ 43 x3.toNatClampNeg)) ≤ (3 : Int32)) → vp_in x3 42) (H6 : ¬ ((σ 5 6) ≤ x3) → ¬ ((F153 (σ 43 x3.toNatClampNeg)) ≤ (3 : Int32)) → ¬ (x2 = 0) → ¬ ((f_44 (σ 43 x3.toNatClampNeg)) ^^^ x2) < 0) (q0 : (σ 5 6) ≤ x3 → x2 = 0 → x2 = 0 → Q (some (.int (0 : Int32))) σ) (q1 : (σ 5 6) ≤ x3 → x2 = 0 → ¬ (x2 = 0) → Q (some (.int (1 : Int32))) σ) (q2 : (σ 5 6) ≤ x3 → ¬ (x2 = 0) → x2 = 0 → Q (some (.int (0 : Int32))) (mm_up (mm_up (mm_up (mm_up σ 20 0 (F5 x2)) 20 1 (F5 (f_6 x2))) 20 2 (F5 (f_6 (f_6 x2)))) 3 1 (3 : Int32))) (q3 : (σ 5 6) ≤ x3 → ¬ (x2 = 0) → ¬ (x2 = 0) → Q (some (.int (1 : Int32))) (mm_up (mm_up (mm_up (mm_up σ 20 0 (F5 x2)) 20 1 (F5 (f_6 x2))) 20 2 (F5 (f_6 (f_6 x2)))) 3 1 (3 : Int32))) (q4 : ¬ ((σ 5 6) ≤ x3) → (F153 (σ 43 x3.toNatClampNeg)) ≤ (3 : Int32) → mw (d + 3) mt_43 Q 4 [some (.ref 5), some (.ref 3), some (.int x2), some (.int (x3 + 1)), o4] [] σ) (q5 : ¬ ((σ 5 6) ≤ x3) → ¬ ((F153 (σ 43 x3.toNatClampNeg)) ≤ (3 : Int32)) → x2 = 0 → mw (d + 3) mt_43 Q 4 [some (.ref 5), some (.ref 3), some (.int (f_44 (σ 43 x3.toNatClampNeg))), some (.int (x3 + 1)), some (.int (f_44 (σ 43 x3.toNatClampNeg)))] [] σ) (q6 : ¬ ((σ 5 6) ≤ x3) → ¬ ((F153 (σ 43 x3.toNatClampNeg)) ≤ (3 : Int32)) → ¬ (x2 = 0) → (f_45 (f_44 (σ 43 x3.toNatClampNeg)) x2) = 0 → mw (d + 3) mt_43 Q 4 [some (.ref 5), some (.ref 3), some (.int x2), some (.int (x3 + 1)), some (.int (f_44 (σ 43 x3.toNatClampNeg)))] [] σ) (q7 : ¬ ((σ 5 6) ≤ x3) → ¬ ((F153 (σ 43 x3.toNatClampNeg)) ≤ (3 : Int32)) → ¬ (x2 = 0) → ¬ ((f_45 (f_44 (σ 43 x3.toNatClampNeg)) x2) = 0) → mw (d + 3) mt_43 Q 4 [some (.ref 5), some (.ref 3), some (.int (f_44 (σ 43 x3.toNatClampNeg))), some (.int (x3 + 1)), some (.int (f_44 (σ 43 x3.toNatClampNeg)))] [] σ) : mw (d + 3) mt_43 Q 4 [some (.ref 5), some (.ref 3), some (.int x2), some (.int x3), o4] [] σ := (kb_43_4 (fun g0 => (kb_43_58 (fun g1 => (kb_43_86 (fun g2 => (kb_43_94 (q0 g0 g1 g2))) (fun g2 => (kb_43_90 (q1 g0 g1 g2))))) (fun g1 => (kb_43_62 (c_6 (kb_43_66 (c_5f (H1 g0 g1) (kb_43_72 (c_5f (H2 g0 g1) (kb_43_76 (c_6 (kb_43_80 (c_5f (H3 g0 g1) (kb_43_83 (c_21 (kb_43_86 (fun g2 => (kb_43_94 (q2 g0 g1 g2))) (fun g2 => (kb_43_90 (q3 g0 g1 g2))))))))))))))))))) (fun g0 => (kb_43_12 (H4 g0) (c_153 (kb_43_21 (fun g1 => (kb_43_52 (q4 g0 g1))) (fun g1 => (kb_43_25 (H5 g0 g1) (c_44 (kb_43_34 (fun g2 => (kb_43_49 (q5 g0 g1 g2))) (fun g2 => (kb_43_40 (c_45 (H6 g0 g1 g2) (kb_43_46 (fun g3 => (kb_43_52 (q6 g0 g1 g2 g3))) (fun g3 => (kb_43_49 (q7 g0 g1 g2 g3))))))))))))))))
/-- the three lowest bits -/
def t3 (m : Nat) : Nat := m ^^^ ((m &&& (m - 1)) &&& ((m &&& (m - 1)) - 1) &&& (((m &&& (m - 1)) &&& ((m &&& (m - 1)) - 1)) - 1))
set_option maxRecDepth 100000 in
theorem f_6_n0 : ∀ m, m < 512 → f_6 (nI m) = nI (m &&& (m - 1)) ∧ (m &&& (m - 1)) < 512 := by decide +kernel
set_option maxRecDepth 100000 in
theorem f_44_n0 : ∀ m, m < 512 → f_44 (nI m) = nI (t3 m) ∧ t3 m < 512 ∧ (3 < bc m 13 → t3 m ≠ 0) := by decide +kernel
/-- what findWideFace has best behind k faces -/
def wfb (σ : mm_S) : Nat → Int32
  | 0 => 0
  | k + 1 => if F153 (σ 43 k) ≤ 3 then wfb σ k else if wfb σ k = 0 then f_44 (σ 43 k) else if f_45 (f_44 (σ 43 k)) (wfb σ k) = 0 then wfb σ k else f_44 (σ 43 k)
theorem wfb_n {σ : mm_S} {f : Nat} (h : ∀ g, g < f → ∃ M, M < 512 ∧ σ 43 g = nI M) : ∀ k, k ≤ f → ∃ w, w < 512 ∧ wfb σ k = nI w
  | 0, _ => ⟨0, by decide, rfl⟩
  | k + 1, hk => by
    obtain ⟨w, w1, w2⟩ := wfb_n h k (by omega)
    obtain ⟨M, m1, m2⟩ := h k (by omega)
    have t := f_44_n0 M m1
    unfold wfb
    rw [m2, w2, t.1]
    split
    · exact ⟨w, w1, rfl⟩
    · split
      · exact ⟨t3 M, t.2.1, rfl⟩
      · split
        · exact ⟨w, w1, rfl⟩
        · exact ⟨t3 M, t.2.1, rfl⟩
/-- no face has more than three rooms, where none is found -/
theorem wfb_0 {σ : mm_S} {f : Nat} (h : ∀ g, g < f → ∃ M, M < 512 ∧ σ 43 g = nI M) : ∀ k, k ≤ f → wfb σ k = 0 → ∀ g M, g < k → M < 512 → σ 43 g = nI M → bc M 13 ≤ 3
  | 0, _, _, g, _, hg, _, _ => absurd hg (Nat.not_lt_zero g)
  | k + 1, hk, hz, g, M, hg, hM, e => by
    obtain ⟨w, w1, w2⟩ := wfb_n h k (by omega)
    obtain ⟨M', m1, m2⟩ := h k (by omega)
    have t := f_44_n0 M' m1
    have F := F153_bc (m := M') (by omega)
    have b13 := bc_n M' 13
    unfold wfb at hz
    rw [m2, t.1, F] at hz
    by_cases c : nI (bc M' 13) ≤ 3
    · rw [if_pos c] at hz
      by_cases eg : g = k
      · subst eg
        rw [m2] at e
        have := (nI_eq (by omega) (by omega)).mp e
        subst this
        exact (nI_leI (b := 3) (by omega) (by omega)).mp c
      · exact wfb_0 h k (by omega) hz g M (by omega) hM e
    · exfalso
      have nz : t3 M' ≠ 0 := t.2.2 (by
        rcases Nat.lt_or_ge 3 (bc M' 13) with y | y
        · exact y
        · exact absurd ((nI_leI (b := 3) (by omega) (by omega)).mpr y) c)
      have nz' : ¬ nI (t3 M') = 0 := nI_ne0 (by omega) (by omega)
      rw [if_neg c] at hz
      by_cases wz : wfb σ k = 0
      · rw [if_pos wz] at hz; exact nz' hz
      · rw [if_neg wz] at hz
        split at hz
        · exact wz hz
        · exact nz' hz
def tw3 (σ : mm_S) (b : Int32) : mm_S := mm_up (mm_up (mm_up (mm_up σ 20 0 (F5 b)) 20 1 (F5 (f_6 b))) 20 2 (F5 (f_6 (f_6 b)))) 3 1 3
theorem c_43 {d f : Nat} {Q : mm_Q} {σ : mm_S} (h6 : σ 5 6 = nI f) (f42 : f ≤ 42) (h : ∀ g, g < f → ∃ M, M < 512 ∧ σ 43 g = nI M) (q1 : ¬ wfb σ f = 0 → Q (some (.int 1)) (tw3 σ (wfb σ f))) (q0 : wfb σ f = 0 → Q (some (.int 0)) σ) : mD (d + 4) 43 [.ref 5, .ref 3] σ Q := by
  have ps : ∀ {x : Int32} {w : Nat}, x = nI w → w < 512 → ¬ x < 0 := fun e hw => by rw [e]; exact nI_pos (by omega)
  refine ks_43_0 ?_
  refine lp_dn (P := fun k => ∀ o4, mw (d + 3) mt_43 Q 4 [some (.ref 5), some (.ref 3), some (.int (wfb σ k)), some (.int (nI k)), o4] [] σ) f ?_ ?_ 0 (Nat.zero_le f) none
  · intro o4
    obtain ⟨w, w1, w2⟩ := wfb_n h f (Nat.le_refl f)
    have g6 : σ 5 6 ≤ nI f := by rw [h6]; exact hI_le (by omega) (Nat.le_refl f)
    have s1 := f_6_n0 w w1
    have s2 := f_6_n0 _ s1.2
    refine ks_43_4 (fun _ _ => ps w2 w1) (fun _ _ => ?_) (fun _ _ => ?_) (fun g => absurd g6 g) (fun g => absurd g6 g) (fun g => absurd g6 g) (fun _ z _ => q0 z) (fun _ z z' => absurd z z') (fun _ z z' => absurd z' z) (fun _ z _ => q1 z) (fun g => absurd g6 g) (fun g => absurd g6 g) (fun g => absurd g6 g) (fun g => absurd g6 g)
    · rw [w2]; exact ps s1.1 s1.2
    · rw [w2, s1.1]; exact ps s2.1 s2.2
  · intro k hk ih o4
    obtain ⟨w, w1, w2⟩ := wfb_n h k (by omega)
    obtain ⟨M, m1, m2⟩ := h k (by omega)
    have ck : (nI k).toNatClampNeg = k := nI_clamp (by omega)
    have g6 : ¬ (σ 5 6 ≤ nI k) := by rw [h6]; exact hI_nle (by omega) hk
    have t := f_44_n0 M m1
    have nx : ∀ y o4, wfb σ (k + 1) = y → mw (d + 3) mt_43 Q 4 [some (.ref 5), some (.ref 3), some (.int y), some (.int (nI k + 1)), o4] [] σ := fun y o4 e => by
      rw [nI_1, ← e]; exact ih o4
    have iv : vp_in (nI k) 42 := pk_in k 42 (by omega)
    refine ks_43_4 (fun g => absurd g g6) (fun g => absurd g g6) (fun g => absurd g g6) (fun _ => iv) (fun _ _ => iv) (fun _ _ _ => ?_) (fun g => absurd g g6) (fun g => absurd g g6) (fun g => absurd g g6) (fun g => absurd g g6) (fun _ a => nx _ _ ?_) (fun _ a b => nx _ _ ?_) (fun _ a b c => nx _ _ ?_) (fun _ a b c => nx _ _ ?_)
    · rw [ck, m2, w2, t.1, xor_bit]
      exact ps rfl (Nat.xor_lt_two_pow (n := 9) t.2.1 w1)
    · rw [ck] at a
      rw [wfb, if_pos a]
    · rw [ck] at a ⊢
      rw [wfb, if_neg a, if_pos b]
    · rw [ck] at a c
      rw [wfb, if_neg a, if_neg b, if_pos c]
    · rw [ck] at a c ⊢
      rw [wfb, if_neg a, if_neg b, if_neg c]
end
section
/-! class: the sides: small ones, cornersFit -/
/-- HouseDesk$Sides.sideBehind -/
def f_50 (x0 : Int32) : Int32 := (if (3 : Int32) ≤ x0 then (0 : Int32) else (x0 + (1 : Int32)))
theorem c_50 {d : Nat} {Q : mm_Q} {x0 : Int32} {σ : mm_S} (q : Q (some (.int (f_50 x0))) σ) : mD (d + 1) 50 [.int x0] σ Q := ke_50 (kb_50_0 (fun g0 => (kb_50_11 (q_pos g0 q))) (fun g0 => (kb_50_5 (q_neg g0 q))))
/-- HouseDesk$Sides.sideBefore -/
def f_51 (x0 : Int32) : Int32 := (if x0 ≤ 0 then (3 : Int32) else (x0 - (1 : Int32)))
theorem c_51 {d : Nat} {Q : mm_Q} {x0 : Int32} {σ : mm_S} (q : Q (some (.int (f_51 x0))) σ) : mD (d + 1) 51 [.int x0] σ Q := ke_51 (kb_51_0 (fun g0 => (kb_51_10 (q_pos g0 q))) (fun g0 => (kb_51_4 (q_neg g0 q))))
/-- HouseDesk$Sides.lastOf -/
def f_49 (σ : mm_S) (x1 : Int32) : Int32 := (σ 19 (f_50 x1).toNatClampNeg)
theorem c_49 {d : Nat} {Q : mm_Q} {x1 : Int32} {σ : mm_S} (H1 : vp_in (f_50 x1) 4) (q : Q (some (.int (f_49 σ x1))) σ) : mD (d + 2) 49 [.ref 6, .int x1] σ Q := ke_49 (kb_49_0 (c_50 (kb_49_11 H1 q)))
/-- HouseDesk$Sides.stepsAlong -/
def f_48 (σ : mm_S) (x1 : Int32) : Int32 := (if 0 ≤ ((σ 32 (f_49 σ x1).toNatClampNeg) - (σ 32 (σ 19 x1.toNatClampNeg).toNatClampNeg)) then ((σ 32 (f_49 σ x1).toNatClampNeg) - (σ 32 (σ 19 x1.toNatClampNeg).toNatClampNeg)) else (((σ 32 (f_49 σ x1).toNatClampNeg) - (σ 32 (σ 19 x1.toNatClampNeg).toNatClampNeg)) + (σ 5 3)))
theorem c_48 {d : Nat} {Q : mm_Q} {x1 : Int32} {σ : mm_S} (H1 : vp_in (f_50 x1) 4) (H2 : vp_in (f_49 σ x1) 9) (H3 : vp_in x1 4) (H4 : vp_in (σ 19 x1.toNatClampNeg) 9) (q : Q (some (.int (f_48 σ x1))) σ) : mD (d + 3) 48 [.ref 6, .int x1] σ Q := ke_48 (kb_48_0 (c_49 H1 (kb_48_12 H2 H3 H4 (fun g0 => (kb_48_48 (q_pos g0 q))) (fun g0 => (kb_48_36 (q_neg g0 q))))))
/-- HouseDesk$Sides.cornersFit, from 0 -/
theorem ks_47_0 {d : Nat} {Q : mm_Q} {σ : mm_S} (q0 : (σ 1 9) = 0 → Q (some (.int (0 : Int32))) σ) (q1 : ¬ ((σ 1 9) = 0) → mw d mt_47 Q 16 [some (.ref 6), some (.int (0 : Int32)), some (.int (0 : Int32))] [] σ) : mD (d + 1) 47 [.ref 6] σ Q := ke_47 (kb_47_0 (fun g0 => (kb_47_10 (q0 g0))) (fun g0 => (kb_47_12 (q1 g0))))
/-- HouseDesk$Sides.cornersFit, from 16 -/
theorem ks_47_16 {d : Nat} {Q : mm_Q} {x1 x2 : Int32} {σ : mm_S} (H1 : ¬ ((4 : Int32) ≤ x2) → vp_in x2 4) (H2 : ¬ ((4 : Int32) ≤ x2) → vp_in (σ 19 x2.toNatClampNeg) 9) (H3 : ¬ ((4 : Int32) ≤ x2) → 0 ≤ (σ 32 (σ 19 x2.toNatClampNeg).toNatClampNeg) → vp_in (f_50 x2) 4) (H4 : ¬ ((4 : Int32) ≤ x2) → 0 ≤ (σ 32 (σ 19 x2.toNatClampNeg).toNatClampNeg) → vp_in (f_49 σ x2) 9) (H5 : ¬ ((4 : Int32) ≤ x2) → 0 ≤ (σ 32 (σ 19 x2.toNatClampNeg).toNatClampNeg) → vp_in x2 4) (H6 : ¬ ((4 : Int32) ≤ x2) → 0 ≤ (σ 32 (σ 19 x2.toNatClampNeg).toNatClampNeg) → vp_in (σ 19 x2.toNatClampNeg) 9) (q0 : (4 : Int32) ≤ x2 → x1 = (σ 5 3) → Q (some (.int (1 : Int32))) σ) (q1 : (4 : Int32) ≤ x2 → ¬ (x1 = (σ 5 3)) → Q (some (.int (0 : Int32))) σ) (q2 : ¬ ((4 : Int32) ≤ x2) → 0 ≤ (σ 32 (σ 19 x2.toNatClampNeg).toNatClampNeg) → mw (d + 3) mt_47 Q 16 [some (.ref 6), some (.int (x1 + (f_48 σ x2))), some (.int (x2 + 1))] [] σ) (q3 : ¬ ((4 : Int32) ≤ x2) → ¬ (0 ≤ (σ 32 (σ 19 x2.toNatClampNeg).toNatClampNeg)) → Q (some (.int (0 : Int32))) σ) : mw (d + 3) mt_47 Q 16 [some (.ref 6), some (.int x1), some (.int x2)] [] σ := (kb_47_16 (fun g0 => (kb_47_57 (fun g1 => (kb_47_68 (q0 g0 g1))) (fun g1 => (kb_47_72 (q1 g0 g1))))) (fun g0 => (kb_47_21 (H1 g0) (H2 g0) (fun g1 => (kb_47_43 (c_48 (H3 g0 g1) (H4 g0 g1) (H5 g0 g1) (H6 g0 g1) (kb_47_49 (q2 g0 g1))))) (fun g1 => (kb_47_41 (q3 g0 g1))))))
def nx4 (i : Nat) : Nat := if i = 3 then 0 else i + 1
def pv4 (i : Nat) : Nat := if i = 0 then 3 else i - 1
theorem f_50_n : ∀ i, i < 4 → f_50 (nI i) = nI (nx4 i) ∧ nx4 i < 4 := by decide
theorem f_51_n : ∀ i, i < 4 → f_51 (nI i) = nI (pv4 i) ∧ pv4 i < 4 := by decide
theorem f_52_n : ∀ i, i < 4 → f_52 (nI i) = nI (2 ^ (9 + i)) := by decide
/-- steps along a side -/
def st (L : Nat) (p : Nat → Nat) (i : Nat) : Nat := if p (nx4 i) < p i then p (nx4 i) + L - p i else p (nx4 i) - p i
theorem st_dec : ∀ L, L < 10 → ∀ a, a < L → ∀ b, b < L → (if 0 ≤ nI b - nI a then nI b - nI a else nI b - nI a + nI L) = nI (if b < a then b + L - a else b - a) := by decide
theorem st_lt {L : Nat} {p : Nat → Nat} {i : Nat} (hp : p (nx4 i) < L) (hq : p i < L) : st L p i < L := by unfold st; split <;> omega
theorem f_48_st {τ : mm_S} {L i : Nat} {p c : Nat → Nat} (hL : L < 10) (e3 : τ 5 3 = nI L) (hi : i < 4) (hc : ∀ i, i < 4 → c i < 9 ∧ τ 19 i = nI (c i)) (hp : ∀ i, i < 4 → p i < L ∧ τ 32 (c i) = nI (p i)) : f_48 τ (nI i) = nI (st L p i) := by
  obtain ⟨e50, n4⟩ := f_50_n i hi
  unfold f_48 f_49
  rw [e50, nI_clamp (show nx4 i < 2 ^ 31 by omega), nI_clamp (show i < 2 ^ 31 by omega), (hc i hi).2, (hc _ n4).2, nI_clamp (show c i < 2 ^ 31 by have := (hc i hi).1; omega), nI_clamp (show c (nx4 i) < 2 ^ 31 by have := (hc _ n4).1; omega), (hp i hi).2, (hp _ n4).2, e3]
  exact st_dec L hL _ (hp i hi).1 _ (hp _ n4).1
def sm48 (σ : mm_S) : Nat → Int32
  | 0 => 0
  | i + 1 => sm48 σ i + f_48 σ (nI i)
theorem c_47 {d L : Nat} {Q : mm_Q} {τ : mm_S} (hL : L < 10) (e3 : τ 5 3 = nI L) (hn : τ 1 9 = 0 ∨ τ 1 9 = 1) (hc : τ 1 9 = 1 → ∀ i, i < 4 → ∃ a, a < 9 ∧ τ 19 i = nI a) (hpl : ∀ i, i < 9 → (∃ k, k < L ∧ τ 32 i = nI k) ∨ τ 32 i = -1)
    (q1 : ∀ p c : Nat → Nat, (∀ i, i < 4 → c i < 9 ∧ τ 19 i = nI (c i)) → (∀ i, i < 4 → p i < L ∧ τ 32 (c i) = nI (p i)) → st L p 0 + st L p 1 + st L p 2 + st L p 3 = L → Q (some (.int 1)) τ)
    (q0 : τ 1 9 = 0 ∨ (τ 1 9 = 1 ∧ ∃ i a, i < 4 ∧ a < 9 ∧ τ 19 i = nI a ∧ τ 32 a = -1) ∨ (∃ p c : Nat → Nat, (∀ i, i < 4 → c i < 9 ∧ τ 19 i = nI (c i)) ∧ (∀ i, i < 4 → p i < L ∧ τ 32 (c i) = nI (p i)) ∧ st L p 0 + st L p 1 + st L p 2 + st L p 3 ≠ L) → Q (some (.int 0)) τ) : mD (d + 4) 47 [.ref 6] τ Q := by
  refine ks_47_0 (fun z => q0 (Or.inl z)) (fun z => ?_)
  have h1 := hn.resolve_left z
  have hc' := hc h1
  have ex : ∃ c : Nat → Nat, ∀ i, i < 4 → c i < 9 ∧ τ 19 i = nI (c i) := ⟨fun i => (τ 19 i).toNatClampNeg, fun i hi => by
    obtain ⟨a, ha, e⟩ := hc' i hi
    show (τ 19 i).toNatClampNeg < 9 ∧ τ 19 i = nI (τ 19 i).toNatClampNeg
    rw [e, nI_clamp (by omega)]
    exact ⟨ha, rfl⟩⟩
  obtain ⟨c, hcc⟩ := ex
  refine lp_dn (P := fun s => (∀ i, i < s → ∃ k, k < L ∧ τ 32 (c i) = nI k) → mw (d + 3) mt_47 Q 16 [some (.ref 6), some (.int (sm48 τ s)), some (.int (nI s))] [] τ) 4 ?_ ?_ 0 (by omega) (fun i hi => absurd hi (Nat.not_lt_zero i))
  · intro hp
    have g4 : (4 : Int32) ≤ nI 4 := by decide
    have hp' : ∀ i, i < 4 → (τ 32 (c i)).toNatClampNeg < L ∧ τ 32 (c i) = nI (τ 32 (c i)).toNatClampNeg := fun i hi => by
      obtain ⟨k, hk, e⟩ := hp i hi
      rw [e, nI_clamp (by omega)]
      exact ⟨hk, rfl⟩
    generalize hpd : (fun i => (τ 32 (c i)).toNatClampNeg) = p at *
    have hpp : ∀ i, i < 4 → p i < L ∧ τ 32 (c i) = nI (p i) := fun i hi => by rw [← hpd]; exact hp' i hi
    have es : ∀ i, i < 4 → f_48 τ (nI i) = nI (st L p i) := fun i hi => f_48_st hL e3 hi hcc hpp
    have bd : ∀ i, i < 4 → st L p i < L := fun i hi => st_lt (hpp _ (f_50_n i hi).2).1 (hpp i hi).1
    have sum : sm48 τ 4 = nI (st L p 0 + st L p 1 + st L p 2 + st L p 3) := by
      show (((0 : Int32) + f_48 τ (nI 0)) + f_48 τ (nI 1) + f_48 τ (nI 2)) + f_48 τ (nI 3) = _
      rw [es 0 (by omega), es 1 (by omega), es 2 (by omega), es 3 (by omega), show (0 : Int32) = nI 0 from rfl, nI_add, nI_add, nI_add, nI_add, Nat.zero_add]
    have b0 := bd 0 (by omega)
    have b1 := bd 1 (by omega)
    have b2 := bd 2 (by omega)
    have b3 := bd 3 (by omega)
    refine ks_47_16 (fun g => absurd g4 g) (fun g => absurd g4 g) (fun g => absurd g4 g) (fun g => absurd g4 g) (fun g => absurd g4 g) (fun g => absurd g4 g) (fun _ e => q1 p c hcc hpp ?_) (fun _ e => q0 (Or.inr (Or.inr ⟨p, c, hcc, hpp, fun y => e ?_⟩))) (fun g => absurd g4 g) (fun g => absurd g4 g)
    · rw [sum, e3] at e
      exact (nI_eq (by omega) (by omega)).mp e
    · rw [sum, e3, y]
  · intro s hs ih hp
    have cs : (nI s).toNatClampNeg = s := nI_clamp (by omega)
    obtain ⟨c9, ec⟩ := hcc s hs
    have cc : (τ 19 (nI s).toNatClampNeg).toNatClampNeg = c s := by rw [cs, ec, nI_clamp (by omega)]
    obtain ⟨e50, n4⟩ := f_50_n s hs
    have g4 : ¬ ((4 : Int32) ≤ nI s) := hI_nle (a := 4) (by omega) hs
    have i19 : vp_in (τ 19 (nI s).toNatClampNeg) 9 := by rw [cs, ec]; exact pk_in _ 9 c9
    refine ks_47_16 (fun _ => pk_in s 4 hs) (fun _ => i19) (fun _ _ => by rw [e50]; exact pk_in _ 4 n4) (fun _ _ => ?_) (fun _ _ => pk_in s 4 hs) (fun _ _ => i19) (fun g => absurd g g4) (fun g => absurd g g4) (fun _ z => ?_) (fun _ z => q0 (Or.inr (Or.inl ⟨h1, s, c s, hs, c9, ec, ?_⟩)))
    · unfold f_49
      rw [e50, nI_clamp (by omega), (hcc _ n4).2]
      exact pk_in _ 9 (hcc _ n4).1
    · rw [nI_1]
      refine ih (fun i hi => ?_)
      by_cases e : i = s
      · subst e
        rcases hpl (c i) c9 with y | y
        · exact y
        · rw [cc, y] at z; exact absurd z (by decide)
      · exact hp i (by omega)
    · rcases hpl (c s) c9 with ⟨k, hk, y⟩ | y
      · rw [cc, y] at z
        exact absurd (by rw [ge0, nI_toInt (by omega)]; omega) z
      · exact y
end
section
/-! class: joinOutline -/
/-- HouseDesk$Sides.joinOutline, from 2 -/
theorem ks_54_2 {d : Nat} {Q : mm_Q} {x1 : Int32} {o2 o3 o4 : Option Value} {σ : mm_S} (H1 : ¬ ((9 : Int32) ≤ x1) → vp_in x1 13) (H2 : ¬ ((9 : Int32) ≤ x1) → vp_in x1 9) (q0 : (9 : Int32) ≤ x1 → mw (d + 2) mt_54 Q 46 [some (.ref 6), some (.int (0 : Int32)), o2, o3, o4] [] σ) (q1 : ¬ ((9 : Int32) ≤ x1) → (xd σ x1) = 0 → mw (d + 2) mt_54 Q 2 [some (.ref 6), some (.int (x1 + 1)), o2, o3, o4] [] (mm_up σ 44 x1.toNatClampNeg (0 : Int32))) (q2 : ¬ ((9 : Int32) ≤ x1) → ¬ ((xd σ x1) = 0) → mw (d + 2) mt_54 Q 2 [some (.ref 6), some (.int (x1 + 1)), o2, o3, o4] [] (mm_up σ 44 x1.toNatClampNeg (σ 15 x1.toNatClampNeg))) : mw (d + 2) mt_54 Q 2 [some (.ref 6), some (.int x1), o2, o3, o4] [] σ := (kb_54_2 (fun g0 => (kb_54_44 (q0 g0))) (fun g0 => (kb_54_8 (c_7 (kb_54_21 (fun g1 => (kb_54_36 (H1 g0) (q1 g0 g1))) (fun g1 => (kb_54_24 (H2 g0) (H1 g0) (q2 g0 g1))))))))
/-- HouseDesk$Sides.joinOutline, from 46 -/
theorem ks_54_46 {d : Nat} {Q : mm_Q} {x1 : Int32} {o2 o3 o4 : Option Value} {σ : mm_S} (H1 : ¬ ((4 : Int32) ≤ x1) → vp_in ((9 : Int32) + x1) 13) (q0 : (4 : Int32) ≤ x1 → mw (d + 1) mt_54 Q 83 [some (.ref 6), some (.int (0 : Int32)), o2, o3, o4] [] σ) (q1 : ¬ ((4 : Int32) ≤ x1) → mw (d + 1) mt_54 Q 46 [some (.ref 6), some (.int (x1 + 1)), o2, o3, o4] [] (mm_up σ 44 ((9 : Int32) + x1).toNatClampNeg ((f_52 (f_50 x1)) ||| (f_52 (f_51 x1))))) : mw (d + 1) mt_54 Q 46 [some (.ref 6), some (.int x1), o2, o3, o4] [] σ := (kb_54_46 (fun g0 => (kb_54_81 (q0 g0))) (fun g0 => (kb_54_51 (c_50 (kb_54_63 (c_52 (kb_54_66 (c_51 (kb_54_70 (c_52 (kb_54_73 (H1 g0) (q1 g0))))))))))))
/-- HouseDesk$Sides.joinOutline, from 83 -/
theorem ks_54_83 {d : Nat} {Q : mm_Q} {x1 : Int32} {o2 o3 o4 : Option Value} {σ : mm_S} (H1 : ¬ ((4 : Int32) ≤ x1) → vp_in x1 4) (H2 : ¬ ((4 : Int32) ≤ x1) → vp_in (f_50 x1) 4) (H3 : ¬ ((4 : Int32) ≤ x1) → vp_in (f_49 σ x1) 9) (H4 : ¬ ((4 : Int32) ≤ x1) → vp_in (σ 19 x1.toNatClampNeg) 9) (q0 : (4 : Int32) ≤ x1 → Q (none) σ) (q1 : ¬ ((4 : Int32) ≤ x1) → mw (d + 3) mt_54 Q 107 [some (.ref 6), some (.int x1), some (.int (σ 19 x1.toNatClampNeg)), some (.int (f_48 σ x1)), some (.int (0 : Int32))] [] σ) : mw (d + 3) mt_54 Q 83 [some (.ref 6), some (.int x1), o2, o3, o4] [] σ := (kb_54_83 (fun g0 => (kb_54_170 (q0 g0))) (fun g0 => (kb_54_88 (H1 g0) (c_48 (H2 g0) (H3 g0) (H1 g0) (H4 g0) (kb_54_103 (q1 g0))))))
/-- HouseDesk$Sides.joinOutline, from 107 -/
theorem ks_54_107 {d : Nat} {Q : mm_Q} {x1 x2 x3 x4 : Int32} {σ : mm_S} (H1 : ¬ (x3 < x4) → vp_in ((9 : Int32) + x1) 13) (H2 : ¬ (x3 < x4) → vp_in x2 13) (H3 : ¬ (x3 < x4) → vp_in x2 9) (H4 : ¬ (x3 < x4) → ¬ (((mm_up (mm_up σ 44 ((9 : Int32) + x1).toNatClampNeg ((σ 44 ((9 : Int32) + x1).toNatClampNeg) ||| ((1 : Int32) <<< (x2 &&& 31)))) 44 x2.toNatClampNeg (((mm_up σ 44 ((9 : Int32) + x1).toNatClampNeg ((σ 44 ((9 : Int32) + x1).toNatClampNeg) ||| ((1 : Int32) <<< (x2 &&& 31)))) 44 x2.toNatClampNeg) ||| (f_52 x1))) 5 3) ≤ ((σ 32 x2.toNatClampNeg) + (1 : Int32))) → vp_in ((σ 32 x2.toNatClampNeg) + (1 : Int32)) 9) (q0 : x3 < x4 → mw (d + 1) mt_54 Q 83 [some (.ref 6), some (.int (x1 + 1)), some (.int x2), some (.int x3), some (.int x4)] [] σ) (q1 : ¬ (x3 < x4) → mw (d + 1) mt_54 Q 107 [some (.ref 6), some (.int x1), some (.int (f_40 (mm_up (mm_up σ 44 ((9 : Int32) + x1).toNatClampNeg ((σ 44 ((9 : Int32) + x1).toNatClampNeg) ||| ((1 : Int32) <<< (x2 &&& 31)))) 44 x2.toNatClampNeg (((mm_up σ 44 ((9 : Int32) + x1).toNatClampNeg ((σ 44 ((9 : Int32) + x1).toNatClampNeg) ||| ((1 : Int32) <<< (x2 &&& 31)))) 44 x2.toNatClampNeg) ||| (f_52 x1))) (σ 32 x2.toNatClampNeg))), some (.int x3), some (.int (x4 + 1))] [] (mm_up (mm_up σ 44 ((9 : Int32) + x1).toNatClampNeg ((σ 44 ((9 : Int32) + x1).toNatClampNeg) ||| ((1 : Int32) <<< (x2 &&& 31)))) 44 x2.toNatClampNeg (((mm_up σ 44 ((9 : Int32) + x1).toNatClampNeg ((σ 44 ((9 : Int32) + x1).toNatClampNeg) ||| ((1 : Int32) <<< (x2 &&& 31)))) 44 x2.toNatClampNeg) ||| (f_52 x1)))) : mw (d + 1) mt_54 Q 107 [some (.ref 6), some (.int x1), some (.int x2), some (.int x3), some (.int x4)] [] σ := (kb_54_107 (fun g0 => (kb_54_164 (q0 g0))) (fun g0 => (kb_54_113 (H1 g0) (H1 g0) (H2 g0) (c_52 (kb_54_139 (H2 g0) (H3 g0) (c_40 (H4 g0) (kb_54_157 (q1 g0))))))))
/-- the outline by its arrays -/
def OA (τ : mm_S) (L : Nat) (o : Nat → Nat) : Prop := 1 ≤ L ∧ L ≤ 9 ∧ τ 5 3 = nI L ∧ (∀ k, k < L → o k < 9 ∧ τ 31 k = nI (o k) ∧ τ 32 (o k) = nI k) ∧ (∀ i k, i < 9 → k < L → τ 32 i = nI k → i = o k)
theorem OA_cg {τ τ' : mm_S} {L : Nat} {o : Nat → Nat} (h5 : τ' 5 3 = τ 5 3) (h31 : τ' 31 = τ 31) (h32 : τ' 32 = τ 32) (O : OA τ L o) : OA τ' L o := by
  unfold OA at *
  rw [h5, h31, h32]
  exact O
theorem OA_40 {τ : mm_S} {L k : Nat} {o : Nat → Nat} (O : OA τ L o) (hk : k < L) : f_40 τ (nI k) = nI (o ((k + 1) % L)) := by
  obtain ⟨l1, l9, e3, arr, -⟩ := O
  unfold f_40
  rw [e3, nI_1]
  by_cases h : k + 1 = L
  · rw [if_pos (hI_le (by omega) (by omega)), (arr 0 (by omega)).2.1, h, Nat.mod_self]
  · rw [if_neg (hI_nle (by omega) (by omega)), nI_clamp (by omega), Nat.mod_eq_of_lt (show k + 1 < L by omega)]
    exact (arr (k + 1) (by omega)).2.1
/-- room r is among the first j steps of side s -/
def onp (o p : Nat → Nat) (L s j r : Nat) : Prop := ∃ i, i < j ∧ o ((p s + i) % L) = r
def NB (σ : mm_S) (m : Nat) (o p : Nat → Nat) (L : Nat) (cnt K : Nat → Nat) : Prop :=
  (∀ v, v < 13 → K v < 8192) ∧
  (∀ v w, v < 9 → w < 9 → ((K v).testBit w = true ↔ m.testBit v = true ∧ aj σ v w)) ∧
  (∀ v s, v < 9 → s < 4 → ((K v).testBit (9 + s) = true ↔ onp o p L s (cnt s) v)) ∧
  (∀ s w, s < 4 → w < 9 → ((K (9 + s)).testBit w = true ↔ onp o p L s (cnt s) w)) ∧
  (∀ s s', s < 4 → s' < 4 → ((K (9 + s)).testBit (9 + s') = true ↔ s' = nx4 s ∨ s' = pv4 s))
theorem onp_up {o p : Nat → Nat} {L s j r : Nat} : onp o p L s (j + 1) r ↔ onp o p L s j r ∨ o ((p s + j) % L) = r := by
  unfold onp
  constructor
  · rintro ⟨i, hi, e⟩
    by_cases z : i = j
    · subst z; exact Or.inr e
    · exact Or.inl ⟨i, by omega, e⟩
  · rintro (⟨i, hi, e⟩ | e)
    · exact ⟨i, by omega, e⟩
    · exact ⟨j, by omega, e⟩
theorem NB_up {σ : mm_S} {m L s r : Nat} {o p cnt K : Nat → Nat} (B : NB σ m o p L cnt K) (hs : s < 4) (hr : r < 9) (er : o ((p s + cnt s) % L) = r) :
    NB σ m o p L (fun s' => if s' = s then cnt s + 1 else cnt s') (fun v => if v = r then K r ||| 2 ^ (9 + s) else if v = 9 + s then K (9 + s) ||| 2 ^ r else K v) := by
  obtain ⟨b1, b2, b3, b4, b5⟩ := B
  have tb : ∀ a k w : Nat, (a ||| 2 ^ k).testBit w = true ↔ a.testBit w = true ∨ k = w := fun a k w => by
    rw [Nat.testBit_or, Nat.testBit_two_pow, Bool.or_eq_true]
    simp
  refine ⟨fun v hv => ?_, fun v w hv hw => ?_, fun v s' hv hs' => ?_, fun s' w hs' hw => ?_, fun s1 s2 h1 h2 => ?_⟩
  · simp only
    split
    · exact Nat.or_lt_two_pow (n := 13) (b1 r (by omega)) (Nat.pow_lt_pow_right (by decide) (by omega))
    · split
      · exact Nat.or_lt_two_pow (n := 13) (b1 _ (by omega)) (Nat.pow_lt_pow_right (by decide) (by omega))
      · exact b1 v hv
  · simp only
    by_cases e : v = r
    · subst e
      rw [if_pos rfl, tb, b2 v w hv hw]
      constructor
      · rintro (z | z)
        · exact z
        · omega
      · exact Or.inl
    · rw [if_neg e, if_neg (by omega)]; exact b2 v w hv hw
  · simp only
    by_cases e : v = r
    · subst e
      rw [if_pos rfl, tb, b3 v s' hv hs']
      by_cases es : s' = s
      · subst es
        rw [if_pos rfl, onp_up]
        constructor
        · intro _; exact Or.inr er
        · intro _; exact Or.inr rfl
      · rw [if_neg es]
        constructor
        · rintro (z | z)
          · exact z
          · omega
        · exact Or.inl
    · rw [if_neg e, if_neg (by omega), b3 v s' hv hs']
      by_cases es : s' = s
      · subst es
        rw [if_pos rfl, onp_up]
        constructor
        · exact Or.inl
        · rintro (z | z)
          · exact z
          · exact absurd (z.symm.trans er) e
      · rw [if_neg es]
  · simp only
    rw [if_neg (by omega)]
    by_cases es : s' = s
    · subst es
      rw [if_pos rfl, if_pos rfl, tb, b4 s' w hs' hw, onp_up, er]
    · rw [if_neg (by omega), if_neg es]; exact b4 s' w hs' hw
  · simp only
    rw [if_neg (by omega)]
    by_cases es : s1 = s
    · subst es
      rw [if_pos rfl, tb, b5 s1 s2 h1 h2]
      constructor
      · rintro (z | z)
        · exact z
        · omega
      · exact Or.inl
    · rw [if_neg (by omega)]; exact b5 s1 s2 h1 h2
theorem f5052 : ∀ s, s < 4 → f_52 (f_50 (nI s)) ||| f_52 (f_51 (nI s)) = nI (2 ^ (9 + nx4 s) ||| 2 ^ (9 + pv4 s)) := by decide
theorem two_sides : ∀ s, s < 4 → (2 ^ (9 + nx4 s) ||| 2 ^ (9 + pv4 s)) < 8192 ∧ (∀ w, w < 9 → (2 ^ (9 + nx4 s) ||| 2 ^ (9 + pv4 s)).testBit w = false) ∧ (∀ s', s' < 4 → ((2 ^ (9 + nx4 s) ||| 2 ^ (9 + pv4 s)).testBit (9 + s') = true ↔ s' = nx4 s ∨ s' = pv4 s)) := by decide
theorem nI_9 {s : Nat} : (9 : Int32) + nI s = nI (9 + s) := nI_add 9 s
theorem c_54 {d n m L : Nat} {Q : mm_Q} {σ τ : mm_S} {o p c : Nat → Nat} (C : CK σ n m) (t1 : τ 1 = σ 1) (t15 : τ 15 = σ 15) (O : OA τ L o)
    (hc : ∀ i, i < 4 → c i < 9 ∧ τ 19 i = nI (c i)) (hp : ∀ i, i < 4 → p i < L ∧ τ 32 (c i) = nI (p i))
    (q : ∀ τ' K, (∀ k, k ≠ 44 → τ' k = τ k) → (∀ v, v < 13 → τ' 44 v = nI (K v)) → NB σ m o p L (fun s => st L p s + 1) K → Q none τ') : mD (d + 4) 54 [.ref 6] τ Q := by
  obtain ⟨l1, l9, e3, arr, inv⟩ := id O
  refine ke_54 (kb_54_0 ?_)
  refine lp_dn (P := fun i => ∀ ρ : mm_S, (∀ k, k ≠ 44 → ρ k = τ k) → (∀ j, j < i → ∃ q, q < 512 ∧ ρ 44 j = nI q ∧ ∀ w, w < 9 → (q.testBit w = true ↔ m.testBit j = true ∧ aj σ j w)) → mw (d + 3) mt_54 Q 2 [some (.ref 6), some (.int (nI i)), none, none, none] [] ρ) 9 ?_ ?_ 0 (by omega) τ (fun _ _ => rfl) (fun j hj => absurd hj (Nat.not_lt_zero j))
  · intro ρ fr h9
    have g9 : (9 : Int32) ≤ nI 9 := by decide
    refine ks_54_2 (fun g => absurd g9 g) (fun g => absurd g9 g) (fun _ => ?_) (fun g => absurd g9 g) (fun g => absurd g9 g)
    refine lp_dn (P := fun s => ∀ ρ : mm_S, (∀ k, k ≠ 44 → ρ k = τ k) → (∀ j, j < 9 → ∃ q, q < 512 ∧ ρ 44 j = nI q ∧ ∀ w, w < 9 → (q.testBit w = true ↔ m.testBit j = true ∧ aj σ j w)) → (∀ s', s' < s → ρ 44 (9 + s') = nI (2 ^ (9 + nx4 s') ||| 2 ^ (9 + pv4 s'))) → mw (d + 3) mt_54 Q 46 [some (.ref 6), some (.int (nI s)), none, none, none] [] ρ) 4 ?_ ?_ 0 (by omega) ρ fr h9 (fun j hj => absurd hj (Nat.not_lt_zero j))
    · intro ρ fr h9 h4
      have g4 : (4 : Int32) ≤ nI 4 := by decide
      refine ks_54_46 (fun g => absurd g4 g) (fun _ => ?_) (fun g => absurd g4 g)
      have K0 : ∃ K : Nat → Nat, (∀ v, v < 13 → ρ 44 v = nI (K v)) ∧ NB σ m o p L (fun _ => 0) K := by
        have hv : ∀ v, v < 13 → ∃ q, q < 8192 ∧ ρ 44 v = nI q := fun v hv => by
          rcases Nat.lt_or_ge v 9 with z | z
          · obtain ⟨q, q1, q2, _⟩ := h9 v z; exact ⟨q, by omega, q2⟩
          · obtain ⟨s, hs, rfl⟩ : ∃ s, s < 4 ∧ v = 9 + s := ⟨v - 9, by omega, by omega⟩
            exact ⟨_, (two_sides s hs).1, h4 s hs⟩
        have hK : ∀ v, v < 13 → ρ 44 v = nI (ρ 44 v).toNatClampNeg ∧ (ρ 44 v).toNatClampNeg < 8192 := fun v h => by
          obtain ⟨q, q1, q2⟩ := hv v h
          rw [q2, nI_clamp (by omega)]
          exact ⟨rfl, q1⟩
        have no : ∀ s r, ¬ onp o p L s 0 r := fun s r ⟨i, hi, _⟩ => absurd hi (Nat.not_lt_zero i)
        refine ⟨fun v => (ρ 44 v).toNatClampNeg, fun v h => (hK v h).1, fun v h => (hK v h).2, fun v w hv hw => ?_, fun v s hv hs => ?_, fun s w hs hw => ?_, fun s s' hs hs' => ?_⟩
        · obtain ⟨q, q1, q2, q3⟩ := h9 v hv
          show (ρ 44 v).toNatClampNeg.testBit w = true ↔ _
          rw [q2, nI_clamp (by omega)]
          exact q3 w hw
        · obtain ⟨q, q1, q2, q3⟩ := h9 v hv
          show (ρ 44 v).toNatClampNeg.testBit (9 + s) = true ↔ _
          rw [q2, nI_clamp (by omega), tb_lt (k := 9) q1 (by omega)]
          exact ⟨fun z => absurd z (by decide), fun z => absurd z (no s v)⟩
        · show (ρ 44 (9 + s)).toNatClampNeg.testBit w = true ↔ _
          rw [h4 s hs, nI_clamp (by have := (two_sides s hs).1; omega), (two_sides s hs).2.1 w hw]
          exact ⟨fun z => absurd z (by decide), fun z => absurd z (no s w)⟩
        · show (ρ 44 (9 + s)).toNatClampNeg.testBit (9 + s') = true ↔ _
          rw [h4 s hs, nI_clamp (by have := (two_sides s hs).1; omega)]
          exact (two_sides s hs).2.2 s' hs'
      obtain ⟨K0, k1, k2⟩ := K0
      clear h9 h4
      refine lp_dn (P := fun s => ∀ (ρ : mm_S) (K : Nat → Nat), (∀ k, k ≠ 44 → ρ k = τ k) → (∀ v, v < 13 → ρ 44 v = nI (K v)) → NB σ m o p L (fun s' => if s' < s then st L p s' + 1 else 0) K → ∀ o2 o3 o4, mw (d + 3) mt_54 Q 83 [some (.ref 6), some (.int (nI s)), o2, o3, o4] [] ρ) 4 ?_ ?_ 0 (by omega) ρ K0 fr k1 k2 none none none
      · intro ρ K fr hK B o2 o3 o4
        refine ks_54_83 (fun g => absurd g4 g) (fun g => absurd g4 g) (fun g => absurd g4 g) (fun g => absurd g4 g) (fun _ => q ρ K fr hK ?_) (fun g => absurd g4 g)
        obtain ⟨b1, b2, b3, b4, b5⟩ := B
        refine ⟨b1, b2, fun v s hv hs => ?_, fun s w hs hw => ?_, b5⟩
        · have := b3 v s hv hs
          simp only [if_pos hs] at this
          exact this
        · have := b4 s w hs hw
          simp only [if_pos hs] at this
          exact this
      · intro s hs ih ρ K fr hK B o2 o3 o4
        obtain ⟨e50, n4⟩ := f_50_n s hs
        have cs : (nI s).toNatClampNeg = s := nI_clamp (by omega)
        have hc' : ∀ i, i < 4 → c i < 9 ∧ ρ 19 i = nI (c i) := fun i hi => by rw [fr 19 (by decide)]; exact hc i hi
        have hp' : ∀ i, i < 4 → p i < L ∧ ρ 32 (c i) = nI (p i) := fun i hi => by rw [fr 32 (by decide)]; exact hp i hi
        have O' : OA ρ L o := OA_cg (by rw [fr 5 (by decide)]) (fr 31 (by decide)) (fr 32 (by decide)) O
        have g4' : ¬ ((4 : Int32) ≤ nI s) := hI_nle (a := 4) (by omega) hs
        refine ks_54_83 (fun _ => pk_in s 4 hs) (fun _ => by rw [e50]; exact pk_in _ 4 n4) (fun _ => ?_) (fun _ => by rw [cs, (hc' s hs).2]; exact pk_in _ 9 (hc' s hs).1) (fun g => absurd g g4') (fun _ => ?_)
        · unfold f_49
          rw [e50, nI_clamp (by omega), (hc' _ n4).2]
          exact pk_in _ 9 (hc' _ n4).1
        · rw [f_48_st (by omega) O'.2.2.1 hs hc' hp', cs, (hc' s hs).2]
          have stl : st L p s < L := st_lt (hp' _ n4).1 (hp' s hs).1
          have c0 : c s = o ((p s + 0) % L) := by
            rw [Nat.add_zero, Nat.mod_eq_of_lt (hp s hs).1]
            exact inv (c s) (p s) (hc s hs).1 (hp s hs).1 (hp s hs).2
          rw [c0]
          refine lp_dn (P := fun j => ∀ (ρ : mm_S) (K : Nat → Nat), (∀ k, k ≠ 44 → ρ k = τ k) → (∀ v, v < 13 → ρ 44 v = nI (K v)) → NB σ m o p L (fun s' => if s' < s then st L p s' + 1 else if s' = s then j else 0) K → mw (d + 3) mt_54 Q 107 [some (.ref 6), some (.int (nI s)), some (.int (nI (o ((p s + j) % L)))), some (.int (nI (st L p s))), some (.int (nI j))] [] ρ) (st L p s + 1) ?_ ?_ 0 (by omega) ρ K fr hK ?_
          · intro ρ K fr hK B
            have gl : nI (st L p s) < nI (st L p s + 1) := nI_lt (by omega) (by omega)
            refine ks_54_107 (fun g => absurd gl g) (fun g => absurd gl g) (fun g => absurd gl g) (fun g => absurd gl g) (fun _ => ?_) (fun g => absurd gl g)
            rw [nI_1]
            refine ih ρ K fr hK ?_ _ _ _
            have ec : (fun s' => if s' < s then st L p s' + 1 else if s' = s then st L p s + 1 else 0) = (fun s' => if s' < s + 1 then st L p s' + 1 else 0) := by
              funext s'
              by_cases e1 : s' < s
              · rw [if_pos e1, if_pos (by omega)]
              · by_cases e2 : s' = s
                · subst e2; rw [if_neg e1, if_pos rfl, if_pos (by omega)]
                · rw [if_neg e1, if_neg e2, if_neg (by omega)]
            rw [ec] at B
            exact B
          · intro j hj ihj ρ K fr hK B
            have kl : (p s + j) % L < L := Nat.mod_lt _ (by omega)
            obtain ⟨r9, r31, r32⟩ := arr _ kl
            have O' : OA ρ L o := OA_cg (by rw [fr 5 (by decide)]) (fr 31 (by decide)) (fr 32 (by decide)) O
            have gl : ¬ (nI (st L p s) < nI j) := nI_nlt (by omega) (by omega)
            generalize hr : o ((p s + j) % L) = r at *
            have cr : (nI r).toNatClampNeg = r := nI_clamp (by omega)
            have c9 : (nI (9 + s)).toNatClampNeg = 9 + s := nI_clamp (by omega)
            have rr : ρ 32 r = nI ((p s + j) % L) := by rw [fr 32 (by decide)]; exact r32
            have st1 : (mm_up (mm_up ρ 44 (9 + s) ((ρ 44 (9 + s)) ||| ((1 : Int32) <<< (nI r &&& 31)))) 44 r (((mm_up ρ 44 (9 + s) ((ρ 44 (9 + s)) ||| ((1 : Int32) <<< (nI r &&& 31)))) 44 r) ||| (f_52 (nI s)))) = mm_up (mm_up ρ 44 (9 + s) (nI (K (9 + s) ||| 2 ^ r))) 44 r (nI (K r ||| 2 ^ (9 + s))) := by
              rw [mm_up_o (show r ≠ 9 + s by omega), hK r (by omega), hK (9 + s) (by omega), one_sh (by omega), f_52_n s hs, or_bit, or_bit]
            refine ks_54_107 (fun _ => by rw [nI_9]; exact pk_in (9 + s) 13 (by omega)) (fun _ => pk_in r 13 (by omega)) (fun _ => pk_in r 9 r9) (fun _ z => ?_) (fun g => absurd g gl) (fun _ => ?_)
            · rw [cr, rr, nI_1]
              refine pk_in _ 9 ?_
              rw [cr, rr, nI_1, mm_up_n (by decide), mm_up_n (by decide), fr 5 (by decide), e3] at z
              rcases Nat.lt_or_ge ((p s + j) % L + 1) L with y | y
              · omega
              · exact absurd (hI_le (by omega) y) z
            · rw [nI_9, c9, cr, st1, rr, nI_1]
              have O2 : OA (mm_up (mm_up ρ 44 (9 + s) (nI (K (9 + s) ||| 2 ^ r))) 44 r (nI (K r ||| 2 ^ (9 + s)))) L o := OA_cg (by rw [mm_up_n (by decide), mm_up_n (by decide)]) (by rw [mm_up_n (by decide), mm_up_n (by decide)]) (by rw [mm_up_n (by decide), mm_up_n (by decide)]) O'
              rw [OA_40 O2 kl, show ((p s + j) % L + 1) % L = (p s + (j + 1)) % L by rw [Nat.mod_add_mod]; rfl]
              have B' := NB_up (r := r) B hs r9 (by
                show o ((p s + (if s < s then st L p s + 1 else if s = s then j else 0)) % L) = r
                rw [if_neg (Nat.lt_irrefl s), if_pos rfl]
                exact hr)
              refine ihj _ (fun v => if v = r then K r ||| 2 ^ (9 + s) else if v = 9 + s then K (9 + s) ||| 2 ^ r else K v) (fun k hk => by rw [mm_up_n hk, mm_up_n hk]; exact fr k hk) (fun v hv => ?_) ?_
              · by_cases e1 : v = r
                · subst e1; simp only [if_true]; exact mm_up_s
                · rw [mm_up_o e1]
                  show _ = nI (if v = r then K r ||| 2 ^ (9 + s) else if v = 9 + s then K (9 + s) ||| 2 ^ r else K v)
                  rw [if_neg e1]
                  by_cases e2 : v = 9 + s
                  · subst e2; rw [if_pos rfl]; exact mm_up_s
                  · rw [if_neg e2, mm_up_o e2]; exact hK v hv
              · have ec : (fun s' => if s' = s then (if s < s then st L p s + 1 else if s = s then j else 0) + 1 else if s' < s then st L p s' + 1 else if s' = s then j else 0) = (fun s' => if s' < s then st L p s' + 1 else if s' = s then j + 1 else 0) := by
                  funext s'
                  by_cases e2 : s' = s
                  · subst e2; simp
                  · simp [e2]
                rw [ec] at B'
                exact B'
          · have ec : (fun s' => if s' < s then st L p s' + 1 else 0) = (fun s' => if s' < s then st L p s' + 1 else if s' = s then 0 else 0) := by
              funext s'
              simp
            rw [ec] at B
            exact B
    · intro s hs ih ρ fr h9 h4
      refine ks_54_46 (fun _ => by rw [nI_9]; exact pk_in (9 + s) 13 (by omega)) (fun g => absurd g (hI_nle (a := 4) (by omega) hs)) (fun _ => ?_)
      rw [nI_1, nI_9, nI_clamp (by omega), f5052 s hs]
      refine ih _ (fun k hk => by rw [mm_up_n hk]; exact fr k hk) (fun j hj => ?_) (fun s' hs' => ?_)
      · obtain ⟨q, q1, q2, q3⟩ := h9 j hj
        exact ⟨q, q1, by rw [mm_up_o (by omega)]; exact q2, q3⟩
      · by_cases e : s' = s
        · subst e; exact mm_up_s
        · rw [mm_up_o (by omega)]; exact h4 s' (by omega)
  · intro i hi ih ρ fr h9
    have ci : (nI i).toNatClampNeg = i := nI_clamp (by omega)
    have xe : xd ρ = xd σ := xd_cg (by rw [fr 1 (by decide)]; exact t1)
    have nx : ∀ (q : Nat), q < 512 → (∀ w, w < 9 → (q.testBit w = true ↔ m.testBit i = true ∧ aj σ i w)) → mw (d + 3) mt_54 Q 2 [some (.ref 6), some (.int (nI i + 1)), none, none, none] [] (mm_up ρ 44 (nI i).toNatClampNeg (nI q)) := fun q hq hb => by
      rw [nI_1, ci]
      refine ih _ (fun k hk => by rw [mm_up_n hk]; exact fr k hk) (fun j hj => ?_)
      by_cases e : j = i
      · subst e; exact ⟨q, hq, mm_up_s, hb⟩
      · obtain ⟨q', q1, q2, q3⟩ := h9 j (by omega)
        exact ⟨q', q1, by rw [mm_up_o e]; exact q2, q3⟩
    refine ks_54_2 (fun _ => pk_in i 13 (by omega)) (fun _ => pk_in i 9 hi) (fun g => absurd g (hI_nle (a := 9) (by omega) hi)) (fun _ z => nx 0 (by decide) (fun w hw => ?_)) (fun _ z => ?_)
    · rw [xe] at z
      refine ⟨fun y => absurd y (by simp), fun y => ?_⟩
      rw [(C.dr i hi).mpr y.1] at z
      exact absurd z (by decide)
    · rw [xe] at z
      have mi := (C.dr i hi).mp ((xd_01 _ _).resolve_left z)
      obtain ⟨q', q1, q2⟩ := C.jm i hi mi
      have e15 : ρ 15 (nI i).toNatClampNeg = nI q' := by rw [ci, fr 15 (by decide), t15]; exact q2
      rw [e15]
      refine nx q' q1 (fun w hw => ?_)
      rw [aj_bit q1 q2]
      exact ⟨fun y => ⟨mi, hw, y⟩, fun y => y.2.2⟩
end
section
/-! class: findLooseTriangle -/
def isf (σ : mm_S) (x : Int32) : Nat → Int32
  | 0 => 0
  | k + 1 => if isf σ x k = 1 then 1 else if σ 43 k = x then 1 else 0
theorem isf_01 (σ : mm_S) (x : Int32) : ∀ k, isf σ x k = 0 ∨ isf σ x k = 1
  | 0 => Or.inl rfl
  | k + 1 => by
    unfold isf
    repeat' split
    all_goals first | exact Or.inl rfl | exact Or.inr rfl
theorem isf_1 {σ : mm_S} {x : Int32} : ∀ k, (isf σ x k = 1 ↔ ∃ g, g < k ∧ σ 43 g = x)
  | 0 => ⟨fun z => absurd z (show ¬ (0 : Int32) = 1 by decide), fun ⟨g, hg, _⟩ => absurd hg (Nat.not_lt_zero g)⟩
  | k + 1 => by
    have ih := isf_1 (σ := σ) (x := x) k
    unfold isf
    by_cases a : isf σ x k = 1
    · rw [if_pos a]
      obtain ⟨g, hg, e⟩ := ih.mp a
      exact ⟨fun _ => ⟨g, by omega, e⟩, fun _ => rfl⟩
    · rw [if_neg a]
      by_cases b : σ 43 k = x
      · rw [if_pos b]; exact ⟨fun _ => ⟨k, by omega, b⟩, fun _ => rfl⟩
      · rw [if_neg b]
        refine ⟨fun z => absurd z (by decide), fun ⟨g, hg, e⟩ => ?_⟩
        by_cases eg : g = k
        · subst eg; exact absurd e b
        · exact absurd (ih.mpr ⟨g, by omega, e⟩) a
def F46 (σ : mm_S) (x : Int32) : Int32 := isf σ x (σ 5 6).toNatClampNeg
theorem F46_01 (σ : mm_S) (x : Int32) : F46 σ x = 0 ∨ F46 σ x = 1 := isf_01 σ x _
def FC (σ : mm_S) : Prop := ∃ f, f ≤ 42 ∧ σ 5 6 = nI f
theorem c_46 {d : Nat} {Q : mm_Q} {x : Int32} {σ : mm_S} (h : FC σ) (q : Q (some (.int (F46 σ x))) σ) : mD (d + 1) 46 [.ref 5, .int x] σ Q := by
  obtain ⟨f, hf, e6⟩ := h
  have eF : F46 σ x = isf σ x f := by unfold F46; rw [e6, nI_clamp (by omega)]
  rw [eF] at q
  refine ke_46 (kb_46_0 ?_)
  refine lp_dn (P := fun k => (∀ g, g < k → ¬ σ 43 g = x) → mw d mt_46 Q 2 [some (.ref 5), some (.int x), some (.int (nI k))] [] σ) f ?_ ?_ 0 (Nat.zero_le f) (fun g hg => absurd hg (Nat.not_lt_zero g))
  · intro h
    refine kb_46_2 (fun _ => kb_46_28 ?_) (fun g => absurd ?_ g)
    · rcases isf_01 σ x f with z | z
      · rw [z] at q; exact q
      · obtain ⟨g, hg, e⟩ := (isf_1 f).mp z
        exact absurd e (h g hg)
    · rw [e6]; exact hI_le (by omega) (Nat.le_refl f)
  · intro k hk ih h
    have ck : (nI k).toNatClampNeg = k := nI_clamp (by omega)
    refine kb_46_2 (fun g => absurd g (by rw [e6]; exact hI_nle (by omega) hk)) (fun _ => kb_46_10 (pk_in k 42 (by omega)) (fun z => kb_46_20 ?_) (fun z => kb_46_22 ?_))
    · rw [ck] at z
      rw [(isf_1 f).mpr ⟨k, hk, z⟩] at q
      exact q
    · rw [nI_1]
      rw [ck] at z
      refine ih (fun g hg => ?_)
      by_cases e : g = k
      · subst e; exact z
      · exact h g (by omega)
/-- HouseDesk$Sides.follows -/
def f_58 (σ : mm_S) (x1 x2 x3 : Int32) : Int32 := (if x1 = (f_49 σ x3) then (0 : Int32) else (if (f_40 σ (σ 32 x1.toNatClampNeg)) = x2 then (1 : Int32) else (0 : Int32)))
theorem f_58_01 (σ : mm_S) (x1 x2 x3 : Int32) : (f_58 σ x1 x2 x3) = 0 ∨ (f_58 σ x1 x2 x3) = 1 := by
  unfold f_58
  repeat' split
  all_goals first | exact Or.inl rfl | exact Or.inr rfl
theorem c_58 {d : Nat} {Q : mm_Q} {x1 x2 x3 : Int32} {σ : mm_S} (H1 : vp_in (f_50 x3) 4) (H2 : ¬ (x1 = (f_49 σ x3)) → vp_in x1 9) (H3 : ¬ (x1 = (f_49 σ x3)) → ¬ ((σ 5 3) ≤ ((σ 32 x1.toNatClampNeg) + (1 : Int32))) → vp_in ((σ 32 x1.toNatClampNeg) + (1 : Int32)) 9) (q : Q (some (.int (f_58 σ x1 x2 x3))) σ) : mD (d + 3) 58 [.ref 6, .int x1, .int x2, .int x3] σ Q := ke_58 (kb_58_0 (c_49 H1 (kb_58_6 (fun g0 => (kb_58_33 (q_pos g0 q))) (fun g0 => (kb_58_9 (H2 g0) (c_40 (H3 g0) (kb_58_25 (fun g1 => (kb_58_29 (q_pos g1 (q_neg g0 q)))) (fun g1 => (kb_58_33 (q_neg g1 (q_neg g0 q)))))))))))
/-- HouseDesk$Sides.boundsFace -/
def f_57 (σ : mm_S) (x1 x2 x3 : Int32) : Int32 := (if (9 : Int32) ≤ x3 then (if (9 : Int32) ≤ x2 then (if x2 = (9 : Int32) then (if x3 = (12 : Int32) then (if (9 : Int32) ≤ x1 then (0 : Int32) else (if (σ 19 0) = x1 then (1 : Int32) else (0 : Int32))) else (if (9 : Int32) ≤ x1 then (0 : Int32) else (if (σ 19 (x3 - (9 : Int32)).toNatClampNeg) = x1 then (1 : Int32) else (0 : Int32)))) else (if (9 : Int32) ≤ x1 then (0 : Int32) else (if (σ 19 (x3 - (9 : Int32)).toNatClampNeg) = x1 then (1 : Int32) else (0 : Int32)))) else (if (f_58 σ x1 x2 (x3 - (9 : Int32))) = 0 then (if (f_58 σ x2 x1 (x3 - (9 : Int32))) = 0 then (0 : Int32) else (1 : Int32)) else (1 : Int32))) else (F46 σ ((((1 : Int32) <<< (x1 &&& 31)) ||| ((1 : Int32) <<< (x2 &&& 31))) ||| ((1 : Int32) <<< (x3 &&& 31)))))
theorem f_57_01 (σ : mm_S) (x1 x2 x3 : Int32) : (f_57 σ x1 x2 x3) = 0 ∨ (f_57 σ x1 x2 x3) = 1 := by
  unfold f_57
  repeat' split
  all_goals first | exact Or.inl rfl | exact Or.inr rfl | exact (F46_01 _ _) | exact (f_58_01 _ _ _ _)
theorem c_57 {d : Nat} {Q : mm_Q} {x1 x2 x3 : Int32} {σ : mm_S} (H1 : (9 : Int32) ≤ x3 → (9 : Int32) ≤ x2 → x2 = (9 : Int32) → ¬ (x3 = (12 : Int32)) → ¬ ((9 : Int32) ≤ x1) → vp_in (x3 - (9 : Int32)) 4) (H2 : (9 : Int32) ≤ x3 → (9 : Int32) ≤ x2 → ¬ (x2 = (9 : Int32)) → ¬ ((9 : Int32) ≤ x1) → vp_in (x3 - (9 : Int32)) 4) (H3 : (9 : Int32) ≤ x3 → ¬ ((9 : Int32) ≤ x2) → vp_in (f_50 (x3 - (9 : Int32))) 4) (H4 : (9 : Int32) ≤ x3 → ¬ ((9 : Int32) ≤ x2) → ¬ (x1 = (f_49 σ (x3 - (9 : Int32)))) → vp_in x1 9) (H5 : (9 : Int32) ≤ x3 → ¬ ((9 : Int32) ≤ x2) → ¬ (x1 = (f_49 σ (x3 - (9 : Int32)))) → ¬ ((σ 5 3) ≤ ((σ 32 x1.toNatClampNeg) + (1 : Int32))) → vp_in ((σ 32 x1.toNatClampNeg) + (1 : Int32)) 9) (H6 : (9 : Int32) ≤ x3 → ¬ ((9 : Int32) ≤ x2) → (f_58 σ x1 x2 (x3 - (9 : Int32))) = 0 → vp_in (f_50 (x3 - (9 : Int32))) 4) (H7 : (9 : Int32) ≤ x3 → ¬ ((9 : Int32) ≤ x2) → (f_58 σ x1 x2 (x3 - (9 : Int32))) = 0 → ¬ (x2 = (f_49 σ (x3 - (9 : Int32)))) → vp_in x2 9) (H8 : (9 : Int32) ≤ x3 → ¬ ((9 : Int32) ≤ x2) → (f_58 σ x1 x2 (x3 - (9 : Int32))) = 0 → ¬ (x2 = (f_49 σ (x3 - (9 : Int32)))) → ¬ ((σ 5 3) ≤ ((σ 32 x2.toNatClampNeg) + (1 : Int32))) → vp_in ((σ 32 x2.toNatClampNeg) + (1 : Int32)) 9) (H9 : ¬ ((9 : Int32) ≤ x3) → FC σ) (q : Q (some (.int (f_57 σ x1 x2 x3))) σ) : mD (d + 4) 57 [.ref 6, .int x1, .int x2, .int x3] σ Q := ke_57 (kb_57_0 (fun g0 => (kb_57_25 (fun g1 => (kb_57_63 (fun g2 => (kb_57_69 (fun g3 => (kb_57_75 (fun g4 => (kb_57_117 (q_pos g4 (q_pos g3 (q_pos g2 (q_pos g1 (q_pos g0 q))))))) (fun g4 => (kb_57_88 (fun g5 => (absurd (show (1 : Int32) = 0 from g5) (by decide))) (fun _ => (kb_57_100 (pk_in 0 4 (by decide)) (fun g5 => (kb_57_113 (q_pos g5 (q_neg g4 (q_pos g3 (q_pos g2 (q_pos g1 (q_pos g0 q)))))))) (fun g5 => (kb_57_117 (q_neg g5 (q_neg g4 (q_pos g3 (q_pos g2 (q_pos g1 (q_pos g0 q)))))))))))))) (fun g3 => (kb_57_79 (fun g4 => (kb_57_117 (q_pos g4 (q_neg g3 (q_pos g2 (q_pos g1 (q_pos g0 q))))))) (fun g4 => (kb_57_88 (fun _ => (kb_57_104 (H1 g0 g1 g2 g3 g4) (fun g5 => (kb_57_113 (q_pos g5 (q_neg g4 (q_neg g3 (q_pos g2 (q_pos g1 (q_pos g0 q)))))))) (fun g5 => (kb_57_117 (q_neg g5 (q_neg g4 (q_neg g3 (q_pos g2 (q_pos g1 (q_pos g0 q)))))))))) (fun g5 => (absurd (show ¬ ((0 : Int32) = 0) from g5) (by decide))))))))) (fun g2 => (kb_57_79 (fun g3 => (kb_57_117 (q_pos g3 (q_neg g2 (q_pos g1 (q_pos g0 q)))))) (fun g3 => (kb_57_88 (fun _ => (kb_57_104 (H2 g0 g1 g2 g3) (fun g4 => (kb_57_113 (q_pos g4 (q_neg g3 (q_neg g2 (q_pos g1 (q_pos g0 q))))))) (fun g4 => (kb_57_117 (q_neg g4 (q_neg g3 (q_neg g2 (q_pos g1 (q_pos g0 q))))))))) (fun g4 => (absurd (show ¬ ((0 : Int32) = 0) from g4) (by decide))))))))) (fun g1 => (kb_57_31 (c_58 (H3 g0 g1) (H4 g0 g1) (H5 g0 g1) (kb_57_41 (fun g2 => (kb_57_44 (c_58 (H6 g0 g1 g2) (H7 g0 g1 g2) (H8 g0 g1 g2) (kb_57_54 (fun g3 => (kb_57_61 (q_pos g3 (q_pos g2 (q_neg g1 (q_pos g0 q)))))) (fun g3 => (kb_57_57 (q_neg g3 (q_pos g2 (q_neg g1 (q_pos g0 q)))))))))) (fun g2 => (kb_57_57 (q_neg g2 (q_neg g1 (q_pos g0 q))))))))))) (fun g0 => (kb_57_6 (c_46 (H9 g0) (kb_57_24 (F46_01 _ _) (q_neg g0 q))))))
/-- what the class's triangles stand on -/
def TP (τ : mm_S) (L : Nat) : Prop := FC τ ∧ L ≤ 9 ∧ τ 5 3 = nI L ∧ ∀ i, i < 9 → (∃ k, k < L ∧ τ 32 i = nI k) ∨ τ 32 i = -1
theorem TP_40 {τ : mm_S} {L i : Nat} (T : TP τ L) (hi : i < 9) : ¬ (τ 5 3 ≤ τ 32 (nI i).toNatClampNeg + 1) → vp_in (τ 32 (nI i).toNatClampNeg + 1) 9 := by
  obtain ⟨-, l9, e3, hp⟩ := T
  rw [nI_clamp (show i < 2 ^ 31 by omega), e3]
  rcases hp i hi with ⟨k, hk, e⟩ | e
  · rw [e, nI_1]
    intro z
    refine pk_in (k + 1) 9 ?_
    rcases Nat.lt_or_ge (k + 1) L with y | y
    · omega
    · exact absurd (hI_le (by omega) y) z
  · rw [e]
    intro _
    exact pk_in 0 9 (by decide)
theorem sub9 : ∀ s, s < 4 → nI (9 + s) - 9 = nI s := by decide
theorem c_57n {d i j k L : Nat} {Q : mm_Q} {τ : mm_S} (T : TP τ L) (hij : i < j) (hjk : j < k) (hk : k < 13) (q : Q (some (.int (f_57 τ (nI i) (nI j) (nI k)))) τ) : mD (d + 4) 57 [.ref 6, .int (nI i), .int (nI j), .int (nI k)] τ Q := by
  have le9 : ∀ {a : Nat}, a < 13 → ((9 : Int32) ≤ nI a → 9 ≤ a) := fun {a} ha h => (nI_leI (a := 9) (by omega) (by omega)).mp h
  have nle9 : ∀ {a : Nat}, a < 13 → (¬ (9 : Int32) ≤ nI a → a < 9) := fun {a} ha h => by
    rcases Nat.lt_or_ge a 9 with y | y
    · exact y
    · exact absurd (hI_le (a := 9) (by omega) y) h
  have sb : (9 : Int32) ≤ nI k → vp_in (nI k - 9) 4 := fun h => by
    obtain ⟨s, hs, e⟩ : ∃ s, s < 4 ∧ k = 9 + s := ⟨k - 9, by have := le9 hk h; omega, by have := le9 hk h; omega⟩
    rw [e, sub9 s hs]; exact pk_in s 4 hs
  have s5 : (9 : Int32) ≤ nI k → vp_in (f_50 (nI k - 9)) 4 := fun h => by
    obtain ⟨s, hs, e⟩ : ∃ s, s < 4 ∧ k = 9 + s := ⟨k - 9, by have := le9 hk h; omega, by have := le9 hk h; omega⟩
    rw [e, sub9 s hs, (f_50_n s hs).1]; exact pk_in _ 4 (f_50_n s hs).2
  refine c_57 (fun a _ _ _ _ => sb a) (fun a _ _ _ => sb a) (fun a _ => s5 a) (fun _ b _ => pk_in i 9 ?_) (fun _ b _ => TP_40 T ?_) (fun a _ _ => s5 a) (fun _ b _ _ => pk_in j 9 ?_) (fun _ b _ _ => TP_40 T ?_) (fun _ => T.1) q
  · have := nle9 (by omega) b; omega
  · have := nle9 (by omega) b; omega
  · exact nle9 (by omega) b
  · exact nle9 (by omega) b
/-- three nodes, each joined with the others, that bound no face -/
def tri (τ : mm_S) (K : Nat → Nat) (i j k : Nat) : Prop := i < j ∧ j < k ∧ k < 13 ∧ (K i).testBit j = true ∧ (K i).testBit k = true ∧ (K j).testBit k = true ∧ f_57 τ (nI i) (nI j) (nI k) = 0
theorem c_56 {d i j L : Nat} {Q : mm_Q} {τ : mm_S} {K : Nat → Nat} (T : TP τ L) (hK : ∀ v, v < 13 → τ 44 v = nI (K v) ∧ K v < 8192) (hij : i < j) (hj : j < 13) (hb : (K i).testBit j = true)
    (q1 : ∀ k, tri τ K i j k → (∀ k', k' < k → ¬ tri τ K i j k') → Q (some (.int (nI k))) τ) (q0 : (∀ k, ¬ tri τ K i j k) → Q (some (.int (-1))) τ) : mD (d + 5) 56 [.ref 6, .int (nI i), .int (nI j)] τ Q := by
  have ki := hK i (by omega)
  have kj := hK j hj
  refine ke_56 (kb_56_0 (pk_in i 13 (by omega)) (pk_in j 13 hj) ?_)
  rw [nI_clamp (show i < 2 ^ 31 by omega), nI_clamp (show j < 2 ^ 31 by omega), ki.1, kj.1, and_bit, nI_1]
  have hlt : K i &&& K j < 2 ^ 13 := Nat.and_lt_two_pow _ kj.2
  refine lp_dn (P := fun k => j < k → (∀ k', k' < k → ¬ tri τ K i j k') → mw (d + 4) mt_56 Q 19 [some (.ref 6), some (.int (nI i)), some (.int (nI j)), some (.int (nI (K i &&& K j))), some (.int (nI k))] [] τ) 13 ?_ ?_ (j + 1) (by omega) (by omega) (fun k' hk' h => absurd h.2.1 (by omega))
  · intro _ h
    refine kb_56_19 (fun _ => kb_56_55 (q0 (fun k hk => h k hk.2.2.1 hk))) (fun g => absurd (by decide) g)
  · intro k hk ih hjk h
    have both : (K i &&& K j).testBit k = true ↔ (K i).testBit k = true ∧ (K j).testBit k = true := by rw [Nat.testBit_and, Bool.and_eq_true]
    have nx : ¬ tri τ K i j k → mw (d + 4) mt_56 Q 49 [some (.ref 6), some (.int (nI i)), some (.int (nI j)), some (.int (nI (K i &&& K j))), some (.int (nI k))] [] τ := fun hn => by
      refine kb_56_49 ?_
      rw [nI_1]
      refine ih (by omega) (fun k' hk' => ?_)
      by_cases e : k' = k
      · subst e; exact hn
      · exact h k' (by omega)
    refine kb_56_19 (fun g => absurd g (hI_nle (a := 13) (by omega) hk)) (fun _ => kb_56_26 (c_4 (kb_56_32 (fun z => nx (fun t => ?_)) (fun z => kb_56_35 (c_57n T hij hjk hk (kb_56_43 (fun w => kb_56_46 (q1 k ?_ h)) (fun w => nx (fun t => w t.2.2.2.2.2.2))))))))
    · have := (hs_b0 (by omega) (by omega)).mp z
      rw [both.mpr ⟨t.2.2.2.2.1, t.2.2.2.2.2.1⟩] at this
      exact absurd this (by decide)
    · have hk2 := both.mp ((hs_b1 (by omega) (by omega)).mp ((hs_01 _ _).resolve_left z))
      exact ⟨hij, hjk, hk, hb, hk2.1, hk2.2, w⟩
def tw3n (σ : mm_S) (a b c : Nat) : mm_S := mm_up (mm_up (mm_up (mm_up σ 20 0 (nI a)) 20 1 (nI b)) 20 2 (nI c)) 3 1 3
theorem c_55 {d L : Nat} {Q : mm_Q} {τ : mm_S} {K : Nat → Nat} (T : TP τ L) (hK : ∀ v, v < 13 → τ 44 v = nI (K v) ∧ K v < 8192)
    (q1 : ∀ i j k, tri τ K i j k → (∀ i' j' k', (i' < i ∨ (i' = i ∧ (j' < j ∨ (j' = j ∧ k' < k)))) → ¬ tri τ K i' j' k') → Q (some (.int 1)) (tw3n τ i j k)) (q0 : (∀ i j k, ¬ tri τ K i j k) → Q (some (.int 0)) τ) : mD (d + 6) 55 [.ref 6, .ref 3] τ Q := by
  refine ke_55 (kb_55_0 ?_)
  refine lp_dn (P := fun i => (∀ i' j k, i' < i → ¬ tri τ K i' j k) → ∀ o3 o4, mw (d + 5) mt_55 Q 2 [some (.ref 6), some (.ref 3), some (.int (nI i)), o3, o4] [] τ) 13 ?_ ?_ 0 (by omega) (fun i' j k h => absurd h (Nat.not_lt_zero i')) none none
  · intro h o3 o4
    exact kb_55_2 (fun _ => kb_55_70 (q0 (fun i j k t => h i j k (by have := t.1; have := t.2.1; have := t.2.2.1; omega) t))) (fun g => absurd (by decide) g)
  · intro i hi ih h o3 o4
    refine kb_55_2 (fun g => absurd g (hI_nle (a := 13) (by omega) hi)) (fun _ => kb_55_8 ?_)
    rw [nI_1]
    refine lp_dn (P := fun j => i < j → (∀ j' k, j' < j → ¬ tri τ K i j' k) → ∀ o4, mw (d + 5) mt_55 Q 12 [some (.ref 6), some (.ref 3), some (.int (nI i)), some (.int (nI j)), o4] [] τ) 13 ?_ ?_ (i + 1) (by omega) (by omega) (fun j' k hj t => absurd t.1 (by omega)) o4
    · intro _ hj o4
      refine kb_55_12 (fun _ => kb_55_64 ?_) (fun g => absurd (by decide) g)
      rw [nI_1]
      refine ih (fun i' j k hi' => ?_) _ _
      by_cases e : i' = i
      · subst e; exact fun t => hj j k (by have := t.2.1; have := t.2.2.1; omega) t
      · exact h i' j k (by omega)
    · intro j hj ihj hij hjj o4
      have ki := hK i hi
      have nx : (∀ k, ¬ tri τ K i j k) → ∀ x4, mw (d + 5) mt_55 Q 58 [some (.ref 6), some (.ref 3), some (.int (nI i)), some (.int (nI j)), some (.int x4)] [] τ := fun hn x4 => by
        refine kb_55_58 ?_
        rw [nI_1]
        refine ihj (by omega) (fun j' k hj' => ?_) _
        by_cases e : j' = j
        · subst e; exact hn k
        · exact hjj j' k (by omega)
      refine kb_55_12 (fun g => absurd g (hI_nle (a := 13) (by omega) hj)) (fun _ => kb_55_18 (pk_in i 13 hi) (c_4 ?_))
      rw [nI_clamp (show i < 2 ^ 31 by omega), ki.1]
      refine kb_55_28 (fun z => kb_55_40 (fun _ => nx (fun k t => ?_) _) (fun g => absurd (by decide) g)) (fun z => kb_55_31 (c_56 T hK hij hj ((hs_b1 (by omega) (by omega)).mp ((hs_01 _ _).resolve_left z)) (fun k t hk => kb_55_37 (fun g => absurd g (nI_pos (by have := t.2.2.1; omega))) (fun _ => kb_55_48 (c_21 (kb_55_56 (q1 i j k t (fun i' j' k' hh => ?_)))))) (fun hn => kb_55_37 (fun _ => nx hn _) (fun g => absurd (by decide) g))))
      · have := (hs_b0 (by omega) (by omega)).mp z
        rw [t.2.2.2.1] at this
        exact absurd this (by decide)
      · rcases hh with hh | ⟨rfl, hh | ⟨rfl, hh⟩⟩
        · exact h i' j' k' hh
        · exact hjj j' k' hh
        · exact hk k' hh
end
section
/-! class: firstSideOf, takePlaces -/
/-- HouseDesk$Sides.firstSideOf, from 0 -/
theorem ks_60_0 {d : Nat} {Q : mm_Q} {x1 : Int32} {σ : mm_S} (q0 : mw d mt_60 Q 2 [some (.ref 6), some (.int x1), some (.int (0 : Int32))] [] σ) : mD (d + 1) 60 [.ref 6, .int x1] σ Q := ke_60 (kb_60_0 q0)
/-- HouseDesk$Sides.firstSideOf, from 2 -/
theorem ks_60_2 {d : Nat} {Q : mm_Q} {x1 x2 : Int32} {σ : mm_S} (H1 : ¬ ((4 : Int32) ≤ x2) → vp_in x1 13) (q0 : (4 : Int32) ≤ x2 → Q (some (.int (0 : Int32))) σ) (q1 : ¬ ((4 : Int32) ≤ x2) → (f_53 σ x1 x2) = 0 → mw (d + 2) mt_60 Q 2 [some (.ref 6), some (.int x1), some (.int (x2 + 1))] [] σ) (q2 : ¬ ((4 : Int32) ≤ x2) → ¬ ((f_53 σ x1 x2) = 0) → (f_53 σ x1 (f_51 x2)) = 0 → Q (some (.int x2)) σ) (q3 : ¬ ((4 : Int32) ≤ x2) → ¬ ((f_53 σ x1 x2) = 0) → ¬ ((f_53 σ x1 (f_51 x2)) = 0) → mw (d + 2) mt_60 Q 2 [some (.ref 6), some (.int x1), some (.int (x2 + 1))] [] σ) : mw (d + 2) mt_60 Q 2 [some (.ref 6), some (.int x1), some (.int x2)] [] σ := (kb_60_2 (fun g0 => (kb_60_36 (q0 g0))) (fun g0 => (kb_60_7 (c_53 (H1 g0) (kb_60_13 (fun g1 => (kb_60_30 (q1 g0 g1))) (fun g1 => (kb_60_16 (c_51 (kb_60_22 (c_53 (H1 g0) (kb_60_25 (fun g2 => (kb_60_28 (q2 g0 g1 g2))) (fun g2 => (kb_60_30 (q3 g0 g1 g2))))))))))))))
theorem f_53_b {τ : mm_S} {r s : Nat} {K : Nat → Nat} (hr : r < 13) (hs : s < 4) (hK : τ 44 r = nI (K r) ∧ K r < 8192) : f_53 τ (nI r) (nI s) = 0 ↔ (K r).testBit (9 + s) = false := by
  unfold f_53
  rw [nI_clamp (show r < 2 ^ 31 by omega), hK.1, f_52_n s hs, and_bit]
  have hl : K r &&& 2 ^ (9 + s) < 2 ^ 13 := Nat.and_lt_two_pow _ (Nat.pow_lt_pow_right (by decide) (by omega))
  have key : nI (K r &&& 2 ^ (9 + s)) = 0 ↔ (K r).testBit (9 + s) = false := by
    rw [show (0 : Int32) = nI 0 from rfl, nI_eq (by omega) (by omega)]
    constructor
    · intro h
      have := congrArg (fun x => x.testBit (9 + s)) h
      simpa [Nat.testBit_and, Nat.testBit_two_pow_self] using this
    · intro h
      apply Nat.eq_of_testBit_eq
      intro i
      rw [Nat.testBit_and, Nat.testBit_two_pow]
      by_cases e : 9 + s = i
      · subst e; simp [h]
      · simp [e]
  by_cases c : nI (K r &&& 2 ^ (9 + s)) = 0
  · rw [if_pos c]; exact ⟨fun _ => key.mp c, fun _ => rfl⟩
  · rw [if_neg c]; exact ⟨fun z => absurd z (by decide), fun z => absurd (key.mpr z) c⟩
/-- the first side of a node -/
def FSd (K : Nat → Nat) (r s : Nat) : Prop := s < 4 ∧ (((K r).testBit (9 + s) = true ∧ (K r).testBit (9 + pv4 s) = false ∧ ∀ s', s' < s → ¬ ((K r).testBit (9 + s') = true ∧ (K r).testBit (9 + pv4 s') = false)) ∨ (s = 0 ∧ ∀ s', s' < 4 → (K r).testBit (9 + s') = true → (K r).testBit (9 + pv4 s') = true))
theorem FSd_on {K : Nat → Nat} {r s : Nat} (F : FSd K r s) (h : ∃ s', s' < 4 ∧ (K r).testBit (9 + s') = true) : (K r).testBit (9 + s) = true := by
  obtain ⟨hs, F⟩ := F
  rcases F with F | ⟨rfl, F⟩
  · exact F.1
  · obtain ⟨s', h1, h2⟩ := h
    have f1 := F 1 (by decide)
    have f2 := F 2 (by decide)
    have f3 := F 3 (by decide)
    simp only [pv4] at f1 f2 f3
    match s', h1, h2 with
    | 0, _, h2 => exact h2
    | 1, _, h2 => exact f1 h2
    | 2, _, h2 => exact f1 (f2 h2)
    | 3, _, h2 => exact f1 (f2 (f3 h2))
    | s' + 4, h1, _ => omega
theorem c_60 {d r : Nat} {Q : mm_Q} {τ : mm_S} {K : Nat → Nat} (hr : r < 13) (hK : τ 44 r = nI (K r) ∧ K r < 8192) (q : ∀ s, FSd K r s → Q (some (.int (nI s))) τ) : mD (d + 3) 60 [.ref 6, .int (nI r)] τ Q := by
  refine ks_60_0 ?_
  refine lp_dn (P := fun s => (∀ s', s' < s → ¬ ((K r).testBit (9 + s') = true ∧ (K r).testBit (9 + pv4 s') = false)) → mw (d + 2) mt_60 Q 2 [some (.ref 6), some (.int (nI r)), some (.int (nI s))] [] τ) 4 ?_ ?_ 0 (by omega) (fun s' h => absurd h (Nat.not_lt_zero s'))
  · intro h
    have g4 : (4 : Int32) ≤ nI 4 := by decide
    refine ks_60_2 (fun g => absurd g4 g) (fun _ => q 0 ⟨by decide, Or.inr ⟨rfl, fun s' h1 h2 => ?_⟩⟩) (fun g => absurd g4 g) (fun g => absurd g4 g) (fun g => absurd g4 g)
    cases z : (K r).testBit (9 + pv4 s') with
    | true => rfl
    | false => exact absurd ⟨h2, z⟩ (h s' h1)
  · intro s hs ih h
    obtain ⟨e51, p4⟩ := f_51_n s hs
    have b1 := f_53_b (K := K) hr hs hK
    have b2 := f_53_b (K := K) hr p4 hK
    have nx : ¬ ((K r).testBit (9 + s) = true ∧ (K r).testBit (9 + pv4 s) = false) → mw (d + 2) mt_60 Q 2 [some (.ref 6), some (.int (nI r)), some (.int (nI s + 1))] [] τ := fun hn => by
      rw [nI_1]
      refine ih (fun s' hs' => ?_)
      by_cases e : s' = s
      · subst e; exact hn
      · exact h s' (by omega)
    have tr : ¬ (K r).testBit (9 + s) = false → (K r).testBit (9 + s) = true := fun z => by
      cases y : (K r).testBit (9 + s) with
      | true => rfl
      | false => exact absurd y z
    refine ks_60_2 (fun _ => pk_in r 13 hr) (fun g => absurd g (hI_nle (a := 4) (by omega) hs)) (fun _ a => nx (fun z => ?_)) (fun _ a b => q s ⟨hs, Or.inl ⟨tr (fun z => a (b1.mpr z)), ?_, h⟩⟩) (fun _ a b => nx (fun z => ?_))
    · rw [b1.mp a] at z; exact absurd z.1 (by decide)
    · rw [e51] at b; exact b2.mp b
    · rw [e51] at b; exact b (b2.mpr z.2)
def bef (prev s0 : Nat) : Nat → Nat
  | 0 => prev
  | j + 1 => 9 + (s0 + j) % 4
theorem bef_inj {prev s0 i j : Nat} (hp : prev < 9) (hi : i ≤ 4) (hj : j ≤ 4) (h : bef prev s0 i = bef prev s0 j) : i = j := by
  match i, j with
  | 0, 0 => rfl
  | 0, j + 1 => simp only [bef] at h; omega
  | i + 1, 0 => simp only [bef] at h; omega
  | i + 1, j + 1 => simp only [bef] at h; omega
theorem bef_lt {prev s0 j : Nat} (hp : prev < 9) : bef prev s0 j < 13 := by
  match j with
  | 0 => simp only [bef]; omega
  | j + 1 => simp only [bef]; omega
/-- the row of an outline room with its sides put in -/
def RW (τ τ' : mm_S) (K : Nat → Nat) (r prev next s0 : Nat) : Prop := ∃ c, c ≤ 4 ∧ (∀ j, j < c → (K r).testBit (9 + (s0 + j) % 4) = true) ∧ (c = 4 ∨ (K r).testBit (9 + (s0 + c) % 4) = false) ∧ (∀ j, j < c → τ' (21 + 1 + r) (bef prev s0 j) = nI (9 + (s0 + j) % 4)) ∧ τ' (21 + 1 + r) (bef prev s0 c) = nI next ∧ ∀ v, (∀ j, j ≤ c → v ≠ bef prev s0 j) → τ' (21 + 1 + r) v = τ (21 + 1 + r) v
theorem nx4_mod : ∀ s, s < 4 → nx4 s = (s + 1) % 4 := by decide
theorem f_50_m {s j : Nat} : f_50 (nI ((s + j) % 4)) = nI ((s + (j + 1)) % 4) := by
  have h : (s + j) % 4 < 4 := Nat.mod_lt _ (by decide)
  rw [(f_50_n _ h).1, nx4_mod _ h, Nat.mod_add_mod]
  rfl
theorem OA_41 {τ : mm_S} {L k : Nat} {o : Nat → Nat} (O : OA τ L o) (hk : k < L) : f_41 τ (nI k) = nI (o ((k + L - 1) % L)) := by
  obtain ⟨l1, l9, e3, arr, -⟩ := O
  unfold f_41
  by_cases h : k = 0
  · subst h
    rw [if_pos (by decide), e3, show nI L - 1 = nI (L - 1) by obtain ⟨L', rfl⟩ : ∃ L', L = L' + 1 := ⟨L - 1, by omega⟩; exact nI_pred L', nI_clamp (by omega), (arr (L - 1) (by omega)).2.1, Nat.zero_add, Nat.mod_eq_of_lt (by omega)]
  · rw [if_neg (nI_nle (by omega) (by omega)), show nI k - 1 = nI (k - 1) by obtain ⟨k', rfl⟩ : ∃ k', k = k' + 1 := ⟨k - 1, by omega⟩; exact nI_pred k', nI_clamp (by omega), (arr (k - 1) (by omega)).2.1, show k + L - 1 = (k - 1) + L by omega, Nat.add_mod_right, Nat.mod_eq_of_lt (by omega)]
theorem c_59 {d L : Nat} {Q : mm_Q} {τ : mm_S} {o K : Nat → Nat} (O : OA τ L o) (dis : ∀ i j, i < j → j < L → o i ≠ o j) (hK : ∀ v, v < 13 → τ 44 v = nI (K v) ∧ K v < 8192)
    (q : ∀ τ' : mm_S, (∀ c, (c < 22 ∨ 30 < c) → τ' c = τ c) → (∀ r, r < 9 → (∀ k, k < L → o k ≠ r) → τ' (21 + 1 + r) = τ (21 + 1 + r)) → (∀ k, k < L → ∃ s0, FSd K (o k) s0 ∧ RW τ τ' K (o k) (o ((k + L - 1) % L)) (o ((k + 1) % L)) s0) → Q none τ') : mD (d + 4) 59 [.ref 6] τ Q := by
  obtain ⟨l1, l9, e3, arr, inv⟩ := id O
  refine ke_59 (kb_59_0 ?_)
  refine lp_dn (P := fun k => ∀ ρ : mm_S, (∀ c, (c < 22 ∨ 30 < c) → ρ c = τ c) → (∀ r, r < 9 → (∀ j, j < k → o j ≠ r) → ρ (21 + 1 + r) = τ (21 + 1 + r)) → (∀ j, j < k → ∃ s0, FSd K (o j) s0 ∧ RW τ ρ K (o j) (o ((j + L - 1) % L)) (o ((j + 1) % L)) s0) → ∀ o2 o3 o4 o5, mw (d + 3) mt_59 Q 2 [some (.ref 6), some (.int (nI k)), o2, o3, o4, o5] [] ρ) L ?_ ?_ 0 (Nat.zero_le L) τ (fun _ _ => rfl) (fun _ _ _ => rfl) (fun j hj => absurd hj (Nat.not_lt_zero j)) none none none none
  · intro ρ fr row rw' o2 o3 o4 o5
    refine kb_59_2 (fun _ => kb_59_118 (q ρ fr row rw')) (fun g => absurd ?_ g)
    rw [fr 5 (by omega), e3]; exact hI_le (by omega) (Nat.le_refl L)
  · intro k hk ih ρ fr row rw' o2 o3 o4 o5
    have ck : (nI k).toNatClampNeg = k := nI_clamp (by omega)
    have O' : OA ρ L o := OA_cg (by rw [fr 5 (by omega)]) (fr 31 (by omega)) (fr 32 (by omega)) O
    obtain ⟨r9, r31, r32⟩ := arr k hk
    have e31 : ρ 31 (nI k).toNatClampNeg = nI (o k) := by rw [ck, fr 31 (by omega)]; exact r31
    have pl : (k + L - 1) % L < L := Nat.mod_lt _ (by omega)
    have nl : (k + 1) % L < L := Nat.mod_lt _ (by omega)
    have p9 := (arr _ pl).1
    have n9 := (arr _ nl).1
    refine kb_59_2 (fun g => absurd g (by rw [fr 5 (by omega), e3]; exact hI_nle (by omega) hk)) (fun _ => kb_59_13 (pk_in k 9 (by omega)) (c_41 (fun _ => ?_) (fun z => ?_) ?_))
    · rw [fr 5 (by omega), e3, show nI L - 1 = nI (L - 1) by obtain ⟨L', rfl⟩ : ∃ L', L = L' + 1 := ⟨L - 1, by omega⟩; exact nI_pred L']
      exact pk_in (L - 1) 9 (by omega)
    · have k0 : k ≠ 0 := fun e => z (by rw [e]; decide)
      rw [show nI k - 1 = nI (k - 1) by obtain ⟨k', rfl⟩ : ∃ k', k = k' + 1 := ⟨k - 1, by omega⟩; exact nI_pred k']
      exact pk_in (k - 1) 9 (by omega)
    · rw [OA_41 O' hk, e31]
      generalize hpv : o ((k + L - 1) % L) = pv at *
      generalize hnx : o ((k + 1) % L) = nx at *
      have hK' : ∀ π : mm_S, (∀ c, (c < 22 ∨ 30 < c) → π c = τ c) → ∀ v, v < 13 → π 44 v = nI (K v) ∧ K v < 8192 := fun π h v hv => by rw [h 44 (by omega)]; exact hK v hv
      refine kb_59_31 (c_60 (by omega) (hK' ρ fr _ (by omega)) (fun s0 F => kb_59_37 ?_))
      have s4 := F.1
      have cr : (nI (o k)).toNatClampNeg = o k := nI_clamp (by omega)
      have fin : ∀ (c : Nat) (π : mm_S) (x4 x5 : Int32), c ≤ 4 → (∀ c, (c < 22 ∨ 30 < c) → π c = τ c) → (∀ r, r < 9 → r ≠ o k → π (21 + 1 + r) = ρ (21 + 1 + r)) → (∀ j, j < c → (K (o k)).testBit (9 + (s0 + j) % 4) = true) → (c = 4 ∨ (K (o k)).testBit (9 + (s0 + c) % 4) = false) → (∀ j, j < c → π (21 + 1 + o k) (bef pv s0 j) = nI (9 + (s0 + j) % 4)) → (∀ v, (∀ j, j < c → v ≠ bef pv s0 j) → π (21 + 1 + o k) v = ρ (21 + 1 + o k) v) → mw (d + 3) mt_59 Q 93 [some (.ref 6), some (.int (nI k)), some (.int (nI (o k))), some (.int (nI (bef pv s0 c))), some (.int x4), some (.int x5)] [] π := by
        intro c π x4 x5 hc frp oth on1 on2 w1 w2
        have O2 : OA π L o := OA_cg (by rw [frp 5 (by omega)]) (frp 31 (by omega)) (frp 32 (by omega)) O
        have bl := bef_lt (prev := pv) (s0 := s0) (j := c) p9
        refine kb_59_93 (pk_in _ 9 r9) (c_40 (fun z => ?_) ?_)
        · rw [nI_1]
          refine pk_in (k + 1) 9 ?_
          rw [frp 5 (by omega), e3, nI_1] at z
          rcases Nat.lt_or_ge (k + 1) L with y | y
          · omega
          · exact absurd (hI_le (by omega) y) z
        · rw [OA_40 O2 hk, hnx, cr]
          refine kb_59_111 (mr21n r9 bl) ?_
          rw [nI_1, nI_clamp (show bef pv s0 c < 2 ^ 31 by omega)]
          refine ih _ (fun c' h => by rw [mm_up_n (by omega)]; exact frp c' h) (fun r hr hn => ?_) (fun j hj => ?_) _ _ _ _
          · have hrk : r ≠ o k := fun e => hn k (by omega) e.symm
            rw [mm_up_n (by omega), oth r hr hrk]
            exact row r hr (fun j hj => hn j (by omega))
          · by_cases ej : j = k
            · subst ej
              refine ⟨s0, F, c, hc, on1, on2, fun i hi => ?_, ?_, fun v hv => ?_⟩
              · rw [hpv, mm_up_o (fun e => absurd (bef_inj p9 (by omega) hc e) (by omega))]; exact w1 i hi
              · rw [hpv, hnx]; exact mm_up_s
              · rw [hpv] at hv
                rw [mm_up_o (hv c (Nat.le_refl c)), w2 v (fun i hi => hv i (by omega)), row (o j) r9 (fun i hi => dis i j hi hk)]
            · obtain ⟨s1, F1, c1, a1, a2, a3, a4, a5, a6⟩ := rw' j (by omega)
              have ne : o j ≠ o k := dis j k (by omega) hk
              have j9 := (arr j (by omega)).1
              have same : (mm_up π (21 + 1 + o k) (bef pv s0 c) (nI nx)) (21 + 1 + o j) = ρ (21 + 1 + o j) := by
                rw [mm_up_n (by omega)]; exact oth _ j9 ne
              refine ⟨s1, F1, c1, a1, a2, a3, ?_, ?_, ?_⟩
              · rw [same]; exact a4
              · rw [same]; exact a5
              · rw [same]; exact a6
      refine lp_dn (P := fun n => ∀ π : mm_S, (∀ c, (c < 22 ∨ 30 < c) → π c = τ c) → (∀ r, r < 9 → r ≠ o k → π (21 + 1 + r) = ρ (21 + 1 + r)) → (∀ j, j < n → (K (o k)).testBit (9 + (s0 + j) % 4) = true) → (∀ j, j < n → π (21 + 1 + o k) (bef pv s0 j) = nI (9 + (s0 + j) % 4)) → (∀ v, (∀ j, j < n → v ≠ bef pv s0 j) → π (21 + 1 + o k) v = ρ (21 + 1 + o k) v) → mw (d + 3) mt_59 Q 42 [some (.ref 6), some (.int (nI k)), some (.int (nI (o k))), some (.int (nI (bef pv s0 n))), some (.int (nI ((s0 + n) % 4))), some (.int (nI n))] [] π) 4 ?_ ?_ 0 (by omega) ρ fr (fun _ _ _ => rfl) (fun j hj => absurd hj (Nat.not_lt_zero j)) (fun j hj => absurd hj (Nat.not_lt_zero j)) (fun _ _ => rfl) |> fun z => by
        rw [show (s0 + 0) % 4 = s0 by rw [Nat.add_zero]; exact Nat.mod_eq_of_lt s4] at z
        exact z
      · intro π frp oth on1 w1 w2
        exact kb_59_42 (fun _ => fin 4 π _ _ (Nat.le_refl 4) frp oth on1 (Or.inl rfl) w1 w2) (fun g => absurd (by decide) g)
      · intro n hn ihn π frp oth on1 w1 w2
        have m4 : (s0 + n) % 4 < 4 := Nat.mod_lt _ (by decide)
        have b53 := f_53_b (K := K) (r := o k) (s := (s0 + n) % 4) (by omega) m4 (hK' π frp _ (by omega))
        have bl := bef_lt (prev := pv) (s0 := s0) (j := n) p9
        refine kb_59_42 (fun g => absurd g (hI_nle (a := 4) (by omega) hn)) (fun _ => kb_59_48 (c_53 (pk_in (o k) 13 (by omega)) (kb_59_55 (fun z => fin n π _ _ (by omega) frp oth on1 (Or.inr (b53.mp z)) w1 w2) (fun z => kb_59_58 (pk_in _ 9 r9) (pk_in _ 13 bl) (c_50 (kb_59_85 ?_))))))
        have onn : (K (o k)).testBit (9 + (s0 + n) % 4) = true := by
          cases y : (K (o k)).testBit (9 + (s0 + n) % 4) with
          | true => rfl
          | false => exact absurd (b53.mpr y) z
        rw [nI_1, f_50_m, nI_9, cr, nI_clamp (show bef pv s0 n < 2 ^ 31 by omega)]
        refine ihn _ (fun c' h => by rw [mm_up_n (by omega)]; exact frp c' h) (fun r hr hne => by rw [mm_up_n (by omega)]; exact oth r hr hne) (fun j hj => ?_) (fun j hj => ?_) (fun v hv => ?_)
        · by_cases e : j = n
          · subst e; exact onn
          · exact on1 j (by omega)
        · by_cases e : j = n
          · subst e; exact mm_up_s
          · rw [mm_up_o (fun y => e (bef_inj p9 (by omega) (by omega) y))]; exact w1 j (by omega)
        · rw [mm_up_o (hv n (by omega))]; exact w2 v (fun j hj => hv j (by omega))
end
section
/-! class: the layout ends and leaves the sketch alone: lookAround, directionOf, isSooner, weigh -/
/-- HouseDesk$Layout.opposite -/
def f_69 (x0 : Int32) : Int32 := (f_50 (f_50 x0))
theorem c_69 {d : Nat} {Q : mm_Q} {x0 : Int32} {σ : mm_S} (q : Q (some (.int (f_69 x0))) σ) : mD (d + 2) 69 [.int x0] σ Q := ke_69 (kb_69_0 (c_50 (kb_69_4 (c_50 (kb_69_7 q)))))
/-- HouseDesk$Layout.hasCorner -/
def f_70 (σ : mm_S) (x1 x2 x3 : Int32) : Int32 := (if (9 : Int32) ≤ x2 then (1 : Int32) else (if (9 : Int32) ≤ x3 then (1 : Int32) else (if (σ 47 (σ (33 + 1 + x2.toNatClampNeg) x1.toNatClampNeg).toNatClampNeg) = x1 then (0 : Int32) else (1 : Int32))))
theorem f_70_01 (σ : mm_S) (x1 x2 x3 : Int32) : (f_70 σ x1 x2 x3) = 0 ∨ (f_70 σ x1 x2 x3) = 1 := by
  unfold f_70
  repeat' split
  all_goals first | exact Or.inl rfl | exact Or.inr rfl
theorem c_70 {d : Nat} {Q : mm_Q} {x1 x2 x3 : Int32} {σ : mm_S} (H1 : ¬ ((9 : Int32) ≤ x2) → ¬ ((9 : Int32) ≤ x3) → vp_in x2 9) (H2 : ¬ ((9 : Int32) ≤ x2) → ¬ ((9 : Int32) ≤ x3) → vp_in x1 9) (H3 : ¬ ((9 : Int32) ≤ x2) → ¬ ((9 : Int32) ≤ x3) → vp_in (σ (33 + 1 + x2.toNatClampNeg) x1.toNatClampNeg) 42) (q : Q (some (.int (f_70 σ x1 x2 x3))) σ) : mD (d + 1) 70 [.ref 7, .int x1, .int x2, .int x3] σ Q := ke_70 (kb_70_0 (fun g0 => (kb_70_32 (q_pos g0 q))) (fun g0 => (kb_70_6 (fun g1 => (kb_70_32 (q_pos g1 (q_neg g0 q)))) (fun g1 => (kb_70_12 (H1 g0 g1) (H2 g0 g1) (H3 g0 g1) (fun g2 => (kb_70_36 (q_pos g2 (q_neg g1 (q_neg g0 q))))) (fun g2 => (kb_70_32 (q_neg g2 (q_neg g1 (q_neg g0 q))))))))))
/-- HouseDesk$Layout.lookAround, from 0 -/
theorem ks_68_0 {d : Nat} {Q : mm_Q} {x1 x2 : Int32} {σ : mm_S} (H1 : x2 < (9 : Int32) → vp_in x2 9) (H2 : x2 < (9 : Int32) → vp_in x1 13) (H3 : ¬ (x2 < (9 : Int32)) → vp_in x1 13) (q0 : x2 < (9 : Int32) → mw (d + 2) mt_68 Q 42 [some (.ref 7), some (.int x1), some (.int x2), some (.int (f_69 (σ (50 + 1 + x2.toNatClampNeg) x1.toNatClampNeg))), some (.int x2), some (.int (F153 (σ 44 x1.toNatClampNeg))), none] [] σ) (q1 : ¬ (x2 < (9 : Int32)) → mw (d + 2) mt_68 Q 42 [some (.ref 7), some (.int x1), some (.int x2), some (.int (x2 - (9 : Int32))), some (.int x2), some (.int (F153 (σ 44 x1.toNatClampNeg))), none] [] σ) : mD (d + 3) 68 [.ref 7, .int x1, .int x2] σ Q := ke_68 (kb_68_0 (fun g0 => (kb_68_13 (H1 g0) (H2 g0) (c_69 (kb_68_24 (H2 g0) (c_153 (kb_68_40 (q0 g0))))))) (fun g0 => (kb_68_6 (H3 g0) (c_153 (kb_68_40 (q1 g0))))))
/-- HouseDesk$Layout.lookAround, from 42 -/
theorem ks_68_42 {d : Nat} {Q : mm_Q} {x1 x2 x3 x4 x5 : Int32} {o6 : Option Value} {σ : mm_S} (H1 : ¬ (x5 ≤ 0) → vp_in x1 9) (H2 : ¬ (x5 ≤ 0) → vp_in x4 13) (H3 : ¬ (x5 ≤ 0) → ¬ ((9 : Int32) ≤ x4) → ¬ ((9 : Int32) ≤ ((mm_up σ (50 + 1 + x1.toNatClampNeg) x4.toNatClampNeg x3) (21 + 1 + x1.toNatClampNeg) x4.toNatClampNeg)) → vp_in x4 9) (H4 : ¬ (x5 ≤ 0) → ¬ ((9 : Int32) ≤ x4) → ¬ ((9 : Int32) ≤ ((mm_up σ (50 + 1 + x1.toNatClampNeg) x4.toNatClampNeg x3) (21 + 1 + x1.toNatClampNeg) x4.toNatClampNeg)) → vp_in x1 9) (H5 : ¬ (x5 ≤ 0) → ¬ ((9 : Int32) ≤ x4) → ¬ ((9 : Int32) ≤ ((mm_up σ (50 + 1 + x1.toNatClampNeg) x4.toNatClampNeg x3) (21 + 1 + x1.toNatClampNeg) x4.toNatClampNeg)) → vp_in ((mm_up σ (50 + 1 + x1.toNatClampNeg) x4.toNatClampNeg x3) (33 + 1 + x4.toNatClampNeg) x1.toNatClampNeg) 42) (q0 : x5 ≤ 0 → Q (none) σ) (q1 : ¬ (x5 ≤ 0) → (f_70 (mm_up σ (50 + 1 + x1.toNatClampNeg) x4.toNatClampNeg x3) x1 x4 ((mm_up σ (50 + 1 + x1.toNatClampNeg) x4.toNatClampNeg x3) (21 + 1 + x1.toNatClampNeg) x4.toNatClampNeg)) = 0 → mw (d + 1) mt_68 Q 42 [some (.ref 7), some (.int x1), some (.int x2), some (.int x3), some (.int ((mm_up σ (50 + 1 + x1.toNatClampNeg) x4.toNatClampNeg x3) (21 + 1 + x1.toNatClampNeg) x4.toNatClampNeg)), some (.int (x5 + (-1))), some (.int ((mm_up σ (50 + 1 + x1.toNatClampNeg) x4.toNatClampNeg x3) (21 + 1 + x1.toNatClampNeg) x4.toNatClampNeg))] [] (mm_up σ (50 + 1 + x1.toNatClampNeg) x4.toNatClampNeg x3)) (q2 : ¬ (x5 ≤ 0) → ¬ ((f_70 (mm_up σ (50 + 1 + x1.toNatClampNeg) x4.toNatClampNeg x3) x1 x4 ((mm_up σ (50 + 1 + x1.toNatClampNeg) x4.toNatClampNeg x3) (21 + 1 + x1.toNatClampNeg) x4.toNatClampNeg)) = 0) → mw (d + 1) mt_68 Q 42 [some (.ref 7), some (.int x1), some (.int x2), some (.int (f_50 x3)), some (.int ((mm_up σ (50 + 1 + x1.toNatClampNeg) x4.toNatClampNeg x3) (21 + 1 + x1.toNatClampNeg) x4.toNatClampNeg)), some (.int (x5 + (-1))), some (.int ((mm_up σ (50 + 1 + x1.toNatClampNeg) x4.toNatClampNeg x3) (21 + 1 + x1.toNatClampNeg) x4.toNatClampNeg))] [] (mm_up σ (50 + 1 + x1.toNatClampNeg) x4.toNatClampNeg x3)) : mw (d + 1) mt_68 Q 42 [some (.ref 7), some (.int x1), some (.int x2), some (.int x3), some (.int x4), some (.int x5), o6] [] σ := (kb_68_42 (fun g0 => (kb_68_98 (q0 g0))) (fun g0 => (kb_68_47 (H1 g0) (H2 g0) (H1 g0) (H2 g0) (c_70 (H3 g0) (H4 g0) (H5 g0) (kb_68_80 (fun g1 => (kb_68_88 (q1 g0 g1))) (fun g1 => (kb_68_83 (c_50 (kb_68_87 (q2 g0 g1))))))))))
def BG (τ : mm_S) : Prop := ∀ r v, r < 9 → v < 13 → ∃ w, w < 4 ∧ τ (50 + 1 + r) v = nI w
def DG (τ : mm_S) : Prop := ∀ e, e < 21 → ∃ w, w < 4 ∧ τ 45 e = nI w
/-- what the layout stands on -/
def LG (τ : mm_S) (V : Nat → Nat → Prop) (n f R : Nat) : Prop := (∀ r v, r < 9 → V r v → v < 13 ∧ ∃ g, τ (21 + 1 + r) v = nI g ∧ V r g ∧ (v < 9 → g < 9 → ∃ h, h < f ∧ τ (33 + 1 + v) r = nI h)) ∧ (f ≤ 42 ∧ τ 5 6 = nI f) ∧ (∀ v, v < 13 → ∃ q, q < 8192 ∧ τ 44 v = nI q) ∧ (n ≤ 21 ∧ τ 1 12 = nI n) ∧ (∀ k, k < n → ∃ a b, a < 9 ∧ b < 9 ∧ τ 16 k = nI a ∧ τ 17 k = nI b) ∧ (R ≤ 9 ∧ τ 1 11 = nI R) ∧ (∀ g i, g < f → i < 3 → ∃ b, b < 9 ∧ τ 46 (3 * g + i) = nI b) ∧ (∀ k, k < R → ∃ r v, r < 9 ∧ V r v ∧ τ 60 k = nI r ∧ τ 61 k = nI v)
theorem LG.vg {τ : mm_S} {V : Nat → Nat → Prop} {n f R : Nat} (h : LG τ V n f R) : ∀ r v, r < 9 → V r v → v < 13 ∧ ∃ g, τ (21 + 1 + r) v = nI g ∧ V r g ∧ (v < 9 → g < 9 → ∃ h, h < f ∧ τ (33 + 1 + v) r = nI h) := h.1
theorem LG.fc {τ : mm_S} {V : Nat → Nat → Prop} {n f R : Nat} (h : LG τ V n f R) : f ≤ 42 ∧ τ 5 6 = nI f := h.2.1
theorem LG.nr {τ : mm_S} {V : Nat → Nat → Prop} {n f R : Nat} (h : LG τ V n f R) : ∀ v, v < 13 → ∃ q, q < 8192 ∧ τ 44 v = nI q := h.2.2.1
theorem LG.jn {τ : mm_S} {V : Nat → Nat → Prop} {n f R : Nat} (h : LG τ V n f R) : n ≤ 21 ∧ τ 1 12 = nI n := h.2.2.2.1
theorem LG.je {τ : mm_S} {V : Nat → Nat → Prop} {n f R : Nat} (h : LG τ V n f R) : ∀ k, k < n → ∃ a b, a < 9 ∧ b < 9 ∧ τ 16 k = nI a ∧ τ 17 k = nI b := h.2.2.2.2.1
theorem LG.rr {τ : mm_S} {V : Nat → Nat → Prop} {n f R : Nat} (h : LG τ V n f R) : R ≤ 9 ∧ τ 1 11 = nI R := h.2.2.2.2.2.1
theorem LG.bd {τ : mm_S} {V : Nat → Nat → Prop} {n f R : Nat} (h : LG τ V n f R) : ∀ g i, g < f → i < 3 → ∃ b, b < 9 ∧ τ 46 (3 * g + i) = nI b := h.2.2.2.2.2.2.1
theorem LG.od {τ : mm_S} {V : Nat → Nat → Prop} {n f R : Nat} (h : LG τ V n f R) : ∀ k, k < R → ∃ r v, r < 9 ∧ V r v ∧ τ 60 k = nI r ∧ τ 61 k = nI v := h.2.2.2.2.2.2.2
def LI (τ0 τ : mm_S) : Prop := (∀ c, c ≠ 7 → c ≠ 45 → c ≠ 47 → c ≠ 48 → c ≠ 49 → (c < 51 ∨ 59 < c) → τ c = τ0 c) ∧ (τ 7 8 = 0 ∨ τ 7 8 = 1) ∧ BG τ ∧ DG τ
theorem nI_pm (n : Nat) : nI (n + 1) + (-1) = nI n := by
  rw [← nI_1, Int32.add_assoc, show (1 : Int32) + (-1) = 0 by decide, Int32.add_zero]
theorem f_50_4 : ∀ w, w < 4 → ∃ w', w' < 4 ∧ f_50 (nI w) = nI w' := fun w hw => ⟨nx4 w, (f_50_n w hw).2, (f_50_n w hw).1⟩
theorem LI_b {τ0 τ : mm_S} {r v w : Nat} (I : LI τ0 τ) (hr : r < 9) (hw : w < 4) : LI τ0 (mm_up τ (50 + 1 + r) v (nI w)) := by
  obtain ⟨i1, i2, i3, i4⟩ := I
  refine ⟨fun c h1 h2 h3 h4 h5 h6 => by rw [mm_up_n (by omega)]; exact i1 c h1 h2 h3 h4 h5 h6, by rw [mm_up_n (by omega)]; exact i2, fun r' v' hr' hv' => ?_, fun e he => by rw [mm_up_n (by omega)]; exact i4 e he⟩
  by_cases e : r' = r
  · subst e
    by_cases e2 : v' = v
    · subst e2; exact ⟨w, hw, mm_up_s⟩
    · rw [mm_up_o e2]; exact i3 r' v' hr' hv'
  · rw [mm_up_n (by omega)]; exact i3 r' v' hr' hv'
theorem c_68 {d n f R r v : Nat} {V : Nat → Nat → Prop} {Q : mm_Q} {τ0 τ : mm_S} (G : LG τ0 V n f R) (I : LI τ0 τ) (hr : r < 9) (hv : V r v) (q : ∀ τ', LI τ0 τ' → Q none τ') : mD (d + 3) 68 [.ref 7, .int (nI r), .int (nI v)] τ Q := by
  have v13 := (G.vg r v hr hv).1
  have cr : (nI r).toNatClampNeg = r := nI_clamp (by omega)
  have loop : ∀ (k : Nat), k ≤ 13 → ∀ (τ : mm_S) (w v : Nat) (x2 : Int32) (o6 : Option Value), LI τ0 τ → w < 4 → V r v → mw (d + 2) mt_68 Q 42 [some (.ref 7), some (.int (nI r)), some (.int x2), some (.int (nI w)), some (.int (nI v)), some (.int (nI k)), o6] [] τ := by
    intro k
    induction k with
    | zero =>
      intro _ τ w v x2 o6 I hw hv
      refine ks_68_42 (fun g => absurd (by decide) g) (fun g => absurd (by decide) g) (fun g => absurd (by decide) g) (fun g => absurd (by decide) g) (fun g => absurd (by decide) g) (fun _ => q τ I) (fun g => absurd (by decide) g) (fun g => absurd (by decide) g)
    | succ k ih =>
      intro hk τ w v x2 o6 I hw hv
      obtain ⟨v13, g, e1, e2, e3⟩ := G.vg r v hr hv
      have cv : (nI v).toNatClampNeg = v := nI_clamp (by omega)
      have g13 := (G.vg r g hr e2).1
      have I' := LI_b (v := v) I hr hw
      have rd : (mm_up τ (50 + 1 + r) v (nI w)) (21 + 1 + r) v = nI g := by
        rw [I'.1 _ (by omega) (by omega) (by omega) (by omega) (by omega) (by omega)]; exact e1
      have lt9 : ∀ a, a < 13 → ¬ ((9 : Int32) ≤ nI a) → a < 9 := fun a ha h => by
        rcases Nat.lt_or_ge a 9 with y | y
        · exact y
        · exact absurd (hI_le (a := 9) (by omega) y) h
      obtain ⟨w', hw', ew⟩ := f_50_4 w hw
      refine ks_68_42 (fun _ => pk_in r 9 hr) (fun _ => pk_in v 13 v13) (fun _ a _ => pk_in v 9 (lt9 v v13 a)) (fun _ _ _ => pk_in r 9 hr) (fun _ a b => ?_) (fun z => absurd z (nI_nle (by omega) (by omega))) (fun _ _ => ?_) (fun _ _ => ?_)
      · rw [cr, cv, rd] at b
        obtain ⟨h, h1, h2⟩ := e3 (lt9 v v13 a) (lt9 g g13 b)
        have v9 := lt9 v v13 a
        rw [cr, cv, I'.1 (33 + 1 + v) (by omega) (by omega) (by omega) (by omega) (by omega) (by omega), h2]
        exact pk_in h 42 (by have := G.fc.1; omega)
      · rw [cr, cv, rd, nI_pm]
        exact ih (by omega) _ w g x2 _ I' hw e2
      · rw [cr, cv, rd, nI_pm, ew]
        exact ih (by omega) _ w' g x2 _ I' hw' e2
  obtain ⟨qn, q1, q2⟩ := G.nr r (by omega)
  have e44 : τ 44 (nI r).toNatClampNeg = nI qn := by rw [cr, I.1 44 (by decide) (by decide) (by decide) (by decide) (by decide) (by omega)]; exact q2
  refine ks_68_0 (fun z => pk_in v 9 ?_) (fun _ => pk_in r 13 (by omega)) (fun _ => pk_in r 13 (by omega)) (fun z => ?_) (fun z => ?_)
  · exact (nI_ltI (b := 9) (by omega) (by omega)).mp z
  · have v9 : v < 9 := (nI_ltI (b := 9) (by omega) (by omega)).mp z
    obtain ⟨w, hw, ew⟩ := I.2.2.1 v r v9 (by omega)
    obtain ⟨w1, hw1, ew1⟩ := f_50_4 w hw
    obtain ⟨w2, hw2, ew2⟩ := f_50_4 w1 hw1
    rw [e44, F153_bc q1, nI_clamp (show v < 2 ^ 31 by omega), cr, ew]
    unfold f_69
    rw [ew1, ew2]
    exact loop _ (bc_n _ 13) τ w2 v _ _ I hw2 hv
  · have v9 : 9 ≤ v := by
      rcases Nat.lt_or_ge v 9 with y | y
      · exact absurd ((nI_ltI (b := 9) (by omega) (by omega)).mpr y) z
      · exact y
    obtain ⟨s, hs, es⟩ : ∃ s, s < 4 ∧ v = 9 + s := ⟨v - 9, by omega, by omega⟩
    rw [e44, F153_bc q1]
    subst es
    rw [sub9 s hs]
    exact loop _ (bc_n _ 13) τ s _ _ _ I hs hv
end
section
/-! class: weigh, isSooner, shiftOpen, canBeMet, choose: they end and leave the sketch alone -/
/-- HouseDesk$Layout.shiftOpen, from 0 -/
theorem ks_65_0 {d : Nat} {Q : mm_Q} {x1 x2 : Int32} {σ : mm_S} (q0 : mw d mt_65 Q 4 [some (.ref 7), some (.int x1), some (.int x2), some (.int ((3 : Int32) * x1))] [] σ) : mD (d + 1) 65 [.ref 7, .int x1, .int x2] σ Q := ke_65 (kb_65_0 q0)
/-- HouseDesk$Layout.shiftOpen, from 4 -/
theorem ks_65_4 {d : Nat} {Q : mm_Q} {x1 x2 x3 : Int32} {σ : mm_S} (H1 : ¬ ((((3 : Int32) * x1) + (3 : Int32)) ≤ x3) → vp_in x3 126) (H2 : ¬ ((((3 : Int32) * x1) + (3 : Int32)) ≤ x3) → vp_in (σ 46 x3.toNatClampNeg) 9) (q0 : (((3 : Int32) * x1) + (3 : Int32)) ≤ x3 → Q (none) σ) (q1 : ¬ ((((3 : Int32) * x1) + (3 : Int32)) ≤ x3) → mw d mt_65 Q 4 [some (.ref 7), some (.int x1), some (.int x2), some (.int (x3 + 1))] [] (mm_up σ 49 (σ 46 x3.toNatClampNeg).toNatClampNeg ((σ 49 (σ 46 x3.toNatClampNeg).toNatClampNeg) + x2))) : mw d mt_65 Q 4 [some (.ref 7), some (.int x1), some (.int x2), some (.int x3)] [] σ := (kb_65_4 (fun g0 => (kb_65_34 (q0 g0))) (fun g0 => (kb_65_13 (H1 g0) (H2 g0) (H2 g0) (q1 g0))))
/-- HouseDesk$Layout.canBeMet, from 0 -/
theorem ks_66_0 {d : Nat} {Q : mm_Q} {x1 : Int32} {σ : mm_S} (q0 : mw d mt_66 Q 4 [some (.ref 7), some (.int x1), some (.int ((3 : Int32) * x1))] [] σ) : mD (d + 1) 66 [.ref 7, .int x1] σ Q := ke_66 (kb_66_0 q0)
/-- HouseDesk$Layout.canBeMet, from 4 -/
theorem ks_66_4 {d : Nat} {Q : mm_Q} {x1 x2 : Int32} {σ : mm_S} (H1 : ¬ ((((3 : Int32) * x1) + (3 : Int32)) ≤ x2) → vp_in x2 126) (H2 : ¬ ((((3 : Int32) * x1) + (3 : Int32)) ≤ x2) → vp_in (σ 46 x2.toNatClampNeg) 9) (q0 : (((3 : Int32) * x1) + (3 : Int32)) ≤ x2 → Q (some (.int (1 : Int32))) σ) (q1 : ¬ ((((3 : Int32) * x1) + (3 : Int32)) ≤ x2) → (σ 48 (σ 46 x2.toNatClampNeg).toNatClampNeg) ≤ (σ 49 (σ 46 x2.toNatClampNeg).toNatClampNeg) → mw d mt_66 Q 4 [some (.ref 7), some (.int x1), some (.int (x2 + 1))] [] σ) (q2 : ¬ ((((3 : Int32) * x1) + (3 : Int32)) ≤ x2) → ¬ ((σ 48 (σ 46 x2.toNatClampNeg).toNatClampNeg) ≤ (σ 49 (σ 46 x2.toNatClampNeg).toNatClampNeg)) → Q (some (.int (0 : Int32))) σ) : mw d mt_66 Q 4 [some (.ref 7), some (.int x1), some (.int x2)] [] σ := (kb_66_4 (fun g0 => (kb_66_46 (q0 g0))) (fun g0 => (kb_66_13 (H1 g0) (H2 g0) (H1 g0) (H2 g0) (fun g1 => (kb_66_40 (q1 g0 g1))) (fun g1 => (kb_66_38 (q2 g0 g1))))))
def dv (w : Nat) : Nat := if w = 0 then 2 else if w = 1 then 0 else if w = 2 then 3 else 1
theorem mm_tab_n : ∀ w, w < 4 → mm_tab w = .int (nI (dv w)) ∧ dv w < 4 := by
  intro w hw
  match w, hw with
  | 0, _ => exact ⟨rfl, by decide⟩
  | 1, _ => exact ⟨rfl, by decide⟩
  | 2, _ => exact ⟨rfl, by decide⟩
  | 3, _ => exact ⟨rfl, by decide⟩
  | w + 4, h => omega
theorem LI_k {τ0 τ : mm_S} (I : LI τ0 τ) {c : Nat} (h : c = 1 ∨ c = 5 ∨ c = 16 ∨ c = 17 ∨ c = 46 ∨ c = 60 ∨ c = 61) : τ c = τ0 c := I.1 c (by omega) (by omega) (by omega) (by omega) (by omega) (by omega)
theorem c_154s {d n f R e : Nat} {V : Nat → Nat → Prop} {Q : mm_Q} {τ0 τ : mm_S} (G : LG τ0 V n f R) (I : LI τ0 τ) (he : e < n) (q : ∀ w, w < 4 → Q (some (.int (nI w))) τ) : mD (d + 1) 154 [.ref 7, .int (nI e)] τ Q := by
  have n21 := G.jn.1
  obtain ⟨a, b, ha, hb, e1, e2⟩ := G.je e he
  have ce : (nI e).toNatClampNeg = e := nI_clamp (by omega)
  have t16 : τ 16 (nI e).toNatClampNeg = nI a := by rw [ce, LI_k I (by omega)]; exact e1
  have t17 : τ 17 (nI e).toNatClampNeg = nI b := by rw [ce, LI_k I (by omega)]; exact e2
  obtain ⟨w, hw, ew⟩ := I.2.2.1 a b ha (by omega)
  have br : ms_br τ (nI e) = nI w := by
    unfold ms_br
    rw [t16, t17, nI_clamp (by omega), nI_clamp (by omega)]; exact ew
  refine c_154 ⟨pk_in e 21 (by omega), by rw [t16]; exact pk_in a 9 ha, by rw [t17]; exact pk_in b 13 (by omega), by rw [br]; exact pk_in w 4 hw⟩ ?_
  unfold ms_dir
  rw [br, nI_clamp (by omega), (mm_tab_n w hw).1]
  exact q _ (mm_tab_n w hw).2
theorem c_71 {d n f R : Nat} {V : Nat → Nat → Prop} {Q : mm_Q} {τ0 τ : mm_S} (G : LG τ0 V n f R) (I : LI τ0 τ) (q : ∀ x, x = 0 ∨ x = 1 → Q (some (.int x)) τ) : mD (d + 2) 71 [.ref 7] τ Q := by
  have n21 := G.jn.1
  have e12 : τ 1 12 = nI n := by rw [LI_k I (by omega)]; exact G.jn.2
  refine ke_71 (kb_71_0 ?_)
  refine lp_dn (P := fun e => ∀ o2, mw (d + 1) mt_71 Q 2 [some (.ref 7), some (.int (nI e)), o2] [] τ) n ?_ ?_ 0 (Nat.zero_le n) none
  · intro o2
    exact kb_71_2 (fun _ => kb_71_51 (q 0 (Or.inl rfl))) (fun g => absurd (by rw [e12]; exact hI_le (by omega) (Nat.le_refl n)) g)
  · intro e he ih o2
    refine kb_71_2 (fun g => absurd g (by rw [e12]; exact hI_nle (by omega) he)) (fun _ => kb_71_13 (c_154s G I he (fun w hw => kb_71_18 (pk_in e 21 (by omega)) (fun _ => kb_71_45 (by rw [nI_1]; exact ih _)) (fun _ => kb_71_29 (pk_in e 21 (by omega)) (fun _ => kb_71_43 (q 0 (Or.inl rfl))) (fun _ => kb_71_39 (q 1 (Or.inr rfl)))))))
theorem c_67 {d n f R : Nat} {V : Nat → Nat → Prop} {Q : mm_Q} {τ0 τ : mm_S} (G : LG τ0 V n f R) (I : LI τ0 τ) (q : ∀ τ', LI τ0 τ' → Q none τ') : mD (d + 4) 67 [.ref 7] τ Q := by
  have n21 := G.jn.1
  have r9 := G.rr.1
  have store : ∀ τ, LI τ0 τ → ∀ x1, mw (d + 3) mt_67 Q 49 [some (.ref 7), some (.int x1)] [] τ := by
    intro τ I x1
    refine kb_67_49 ?_
    have I1 : LI τ0 (mm_up τ 7 8 1) := by
      obtain ⟨i1, i2, i3, i4⟩ := I
      exact ⟨fun c h1 h2 h3 h4 h5 h6 => by rw [mm_up_n h1]; exact i1 c h1 h2 h3 h4 h5 h6, Or.inr mm_up_s, fun r v hr hv => by rw [mm_up_n (by omega)]; exact i3 r v hr hv, fun e he => by rw [mm_up_n (by omega)]; exact i4 e he⟩
    refine lp_dn (P := fun e => ∀ τ, LI τ0 τ → mw (d + 3) mt_67 Q 56 [some (.ref 7), some (.int (nI e))] [] τ) n ?_ ?_ 0 (Nat.zero_le n) _ I1
    · intro τ I
      have e12 : τ 1 12 = nI n := by rw [LI_k I (by omega)]; exact G.jn.2
      exact kb_67_56 (fun _ => kb_67_84 (q τ I)) (fun g => absurd (by rw [e12]; exact hI_le (by omega) (Nat.le_refl n)) g)
    · intro e he ih τ I
      have e12 : τ 1 12 = nI n := by rw [LI_k I (by omega)]; exact G.jn.2
      refine kb_67_56 (fun g => absurd g (by rw [e12]; exact hI_nle (by omega) he)) (fun _ => kb_67_67 (c_154s G I he (fun w hw => kb_67_77 (pk_in e 21 (by omega)) ?_)))
      rw [nI_1, nI_clamp (show e < 2 ^ 31 by omega)]
      refine ih _ ?_
      obtain ⟨i1, i2, i3, i4⟩ := I
      refine ⟨fun c h1 h2 h3 h4 h5 h6 => by rw [mm_up_n h2]; exact i1 c h1 h2 h3 h4 h5 h6, by rw [mm_up_n (by decide)]; exact i2, fun r v hr hv => by rw [mm_up_n (by omega)]; exact i3 r v hr hv, fun e' he' => ?_⟩
      by_cases ee : e' = e
      · subst ee; exact ⟨w, hw, mm_up_s⟩
      · rw [mm_up_o ee]; exact i4 e' he'
  refine ke_67 (kb_67_0 ?_)
  refine lp_dn (P := fun k => ∀ τ, LI τ0 τ → mw (d + 3) mt_67 Q 2 [some (.ref 7), some (.int (nI k))] [] τ) R ?_ ?_ 0 (Nat.zero_le R) τ I
  · intro τ I
    have e11 : τ 1 11 = nI R := by rw [LI_k I (by omega)]; exact G.rr.2
    refine kb_67_2 (fun _ => kb_67_35 (fun _ => store τ I _) (fun _ => kb_67_42 (c_71 G I (fun x hx => kb_67_46 (fun _ => kb_67_84 (q τ I)) (fun _ => store τ I _))))) (fun g => absurd (by rw [e11]; exact hI_le (by omega) (Nat.le_refl R)) g)
  · intro k hk ih τ I
    have e11 : τ 1 11 = nI R := by rw [LI_k I (by omega)]; exact G.rr.2
    obtain ⟨r, v, hr, hv, e1, e2⟩ := G.od k hk
    have ck : (nI k).toNatClampNeg = k := nI_clamp (by omega)
    refine kb_67_2 (fun g => absurd g (by rw [e11]; exact hI_nle (by omega) hk)) (fun _ => kb_67_13 (pk_in k 9 (by omega)) (pk_in k 9 (by omega)) ?_)
    rw [ck, LI_k I (by omega), LI_k I (by omega), e1, e2]
    exact c_68 G I hr hv (fun τ' I' => kb_67_29 (by rw [nI_1]; exact ih τ' I'))
theorem nI_mul (a b : Nat) : nI a * nI b = nI (a * b) := (Int32.ofNat_mul a b).symm
theorem nI_3 {g : Nat} : (3 : Int32) * nI g = nI (3 * g) := nI_mul 3 g
theorem nI_a3 {g : Nat} : nI g + (3 : Int32) = nI (g + 3) := nI_add g 3
theorem LI_o {τ0 τ : mm_S} {c j : Nat} {x : Int32} (I : LI τ0 τ) (h : c = 47 ∨ c = 48 ∨ c = 49) : LI τ0 (mm_up τ c j x) := by
  obtain ⟨i1, i2, i3, i4⟩ := I
  exact ⟨fun c' h1 h2 h3 h4 h5 h6 => by rw [mm_up_n (by omega)]; exact i1 c' h1 h2 h3 h4 h5 h6, by rw [mm_up_n (by omega)]; exact i2, fun r v hr hv => by rw [mm_up_n (by omega)]; exact i3 r v hr hv, fun e he => by rw [mm_up_n (by omega)]; exact i4 e he⟩
theorem c_65 {d n f R g : Nat} {V : Nat → Nat → Prop} {Q : mm_Q} {τ0 τ : mm_S} {x : Int32} (G : LG τ0 V n f R) (I : LI τ0 τ) (hg : g < f) (q : ∀ τ', LI τ0 τ' → Q none τ') : mD (d + 1) 65 [.ref 7, .int (nI g), .int x] τ Q := by
  have f42 := G.fc.1
  refine ks_65_0 ?_
  rw [nI_3]
  have key := lp_dn (P := fun i => ∀ τ, LI τ0 τ → mw d mt_65 Q 4 [some (.ref 7), some (.int (nI g)), some (.int x), some (.int (nI (3 * g + i)))] [] τ) 3 ?_ ?_ 0 (by omega) τ I
  · exact key
  · intro τ I
    have g3 : (3 : Int32) * nI g + 3 ≤ nI (3 * g + 3) := by rw [nI_3, nI_a3]; exact hI_le (by omega) (Nat.le_refl _)
    exact ks_65_4 (fun z => absurd g3 z) (fun z => absurd g3 z) (fun _ => q τ I) (fun z => absurd g3 z)
  · intro i hi ih τ I
    have g3 : ¬ ((3 : Int32) * nI g + 3 ≤ nI (3 * g + i)) := by rw [nI_3, nI_a3]; exact hI_nle (by omega) (by omega)
    obtain ⟨b, hb, eb⟩ := G.bd g i hg hi
    have e46 : τ 46 (nI (3 * g + i)).toNatClampNeg = nI b := by rw [nI_clamp (by omega), LI_k I (by omega)]; exact eb
    refine ks_65_4 (fun _ => pk_in (3 * g + i) 126 (by omega)) (fun _ => by rw [e46]; exact pk_in b 9 hb) (fun z => absurd z g3) (fun _ => ?_)
    rw [nI_1]
    exact ih _ (LI_o I (by omega))
theorem c_66 {d n f R g : Nat} {V : Nat → Nat → Prop} {Q : mm_Q} {τ0 τ : mm_S} (G : LG τ0 V n f R) (I : LI τ0 τ) (hg : g < f) (q : ∀ x, x = 0 ∨ x = 1 → Q (some (.int x)) τ) : mD (d + 1) 66 [.ref 7, .int (nI g)] τ Q := by
  have f42 := G.fc.1
  refine ks_66_0 ?_
  rw [nI_3]
  have key := lp_dn (P := fun i => mw d mt_66 Q 4 [some (.ref 7), some (.int (nI g)), some (.int (nI (3 * g + i)))] [] τ) 3 ?_ ?_ 0 (by omega)
  · exact key
  · have g3 : (3 : Int32) * nI g + 3 ≤ nI (3 * g + 3) := by rw [nI_3, nI_a3]; exact hI_le (by omega) (Nat.le_refl _)
    exact ks_66_4 (fun z => absurd g3 z) (fun z => absurd g3 z) (fun _ => q 1 (Or.inr rfl)) (fun z => absurd g3 z) (fun z => absurd g3 z)
  · intro i hi ih
    have g3 : ¬ ((3 : Int32) * nI g + 3 ≤ nI (3 * g + i)) := by rw [nI_3, nI_a3]; exact hI_nle (by omega) (by omega)
    obtain ⟨b, hb, eb⟩ := G.bd g i hg hi
    have e46 : τ 46 (nI (3 * g + i)).toNatClampNeg = nI b := by rw [nI_clamp (by omega), LI_k I (by omega)]; exact eb
    refine ks_66_4 (fun _ => pk_in (3 * g + i) 126 (by omega)) (fun _ => by rw [e46]; exact pk_in b 9 hb) (fun z => absurd z g3) (fun _ _ => ?_) (fun _ _ => q 0 (Or.inl rfl))
    rw [nI_1]
    exact ih
theorem c_64 {n f R : Nat} {V : Nat → Nat → Prop} {τ0 : mm_S} (G : LG τ0 V n f R) : ∀ (e d g : Nat) (Q : mm_Q) (τ : mm_S), g + e = f → LI τ0 τ → (∀ τ', LI τ0 τ' → Q none τ') → mD (d + e + 5) 64 [.ref 7, .int (nI g)] τ Q := by
  have f42 := G.fc.1
  intro e
  induction e with
  | zero =>
    intro d g Q τ hg I q
    have e56 : τ 5 6 = nI f := by rw [LI_k I (by omega)]; exact G.fc.2
    refine ke_64 (kb_64_0 (fun z => absurd z (by rw [e56]; exact nI_nlt (by omega) (by omega))) (fun _ => kb_64_11 (c_67 G I (fun τ' I' => kb_64_15 (q τ' I')))))
  | succ e ih =>
    intro d g Q τ hg I q
    have hgf : g < f := by omega
    have e56 : τ 5 6 = nI f := by rw [LI_k I (by omega)]; exact G.fc.2
    show mD (d + e + 5 + 1) 64 [.ref 7, .int (nI g)] τ Q
    refine ke_64 (kb_64_0 (fun _ => kb_64_16 (c_65 (d := d + e + 4) G I hgf (fun τ1 I1 => kb_64_22 ?_))) (fun z => absurd (by rw [e56]; exact nI_lt hgf (by omega)) z))
    rw [nI_3]
    have key := lp_dn (P := fun i => ∀ τ, LI τ0 τ → ∀ o3, mw (d + e + 5) mt_64 Q 26 [some (.ref 7), some (.int (nI g)), some (.int (nI (3 * g + i))), o3] [] τ) 3 ?_ ?_ 0 (by omega) τ1 I1 none
    · exact key
    · intro τ I o3
      have g3 : (3 : Int32) * nI g + 3 ≤ nI (3 * g + 3) := by rw [nI_3, nI_a3]; exact hI_le (by omega) (Nat.le_refl _)
      exact kb_64_26 (fun _ => kb_64_99 (c_65 (d := d + e + 4) G I hgf (fun τ2 I2 => kb_64_105 (q τ2 I2)))) (fun z => absurd g3 z)
    · intro i hi ihi τ I o3
      have g3 : ¬ ((3 : Int32) * nI g + 3 ≤ nI (3 * g + i)) := by rw [nI_3, nI_a3]; exact hI_nle (by omega) (by omega)
      obtain ⟨b, hb, eb⟩ := G.bd g i hgf hi
      have e46 : τ 46 (nI (3 * g + i)).toNatClampNeg = nI b := by rw [nI_clamp (by omega), LI_k I (by omega)]; exact eb
      have iv : vp_in (τ 46 (nI (3 * g + i)).toNatClampNeg) 9 := by rw [e46]; exact pk_in b 9 hb
      have back : ∀ τ, LI τ0 τ → mw (d + e + 5) mt_64 Q 83 [some (.ref 7), some (.int (nI g)), some (.int (nI (3 * g + i))), some (.int (nI b))] [] τ := fun τ I => by
        refine kb_64_83 (pk_in b 9 hb) (pk_in b 9 hb) ?_
        rw [nI_1]
        exact ihi _ (LI_o I (by omega)) _
      refine kb_64_26 (fun z => absurd z g3) (fun _ => kb_64_35 (pk_in (3 * g + i) 126 (by omega)) (pk_in g 42 (by omega)) iv iv iv (fun _ => ?_) (fun _ => ?_))
      · rw [e46]
        exact back _ (LI_o (LI_o I (by omega)) (by omega))
      · rw [e46]
        refine kb_64_68 (c_66 (d := d + e + 4) G (LI_o (LI_o I (by omega)) (by omega)) hgf (fun x _ => kb_64_73 (fun _ => back _ (LI_o (LI_o I (by omega)) (by omega))) (fun _ => kb_64_76 ?_)))
        rw [nI_1]
        exact ih d (g + 1) _ _ (by omega) (LI_o (LI_o I (by omega)) (by omega)) (fun τ' I' => back τ' I')
end
