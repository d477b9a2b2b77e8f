/-! class: goInside -/
/-- HouseDesk$Walks.goInside, from 7 -/
theorem ks_39_7 {d : Nat} {Q : mm_Q} {x1 : Int32} {σ : mm_S} (H1 : ¬ ((σ 1 12) ≤ x1) → vp_in x1 21) (H2 : ¬ ((σ 1 12) ≤ x1) → vp_in (σ 16 x1.toNatClampNeg) 9) (H3 : ¬ ((σ 1 12) ≤ x1) → vp_in (σ 17 x1.toNatClampNeg) 9) (H4 : ¬ ((σ 1 12) ≤ x1) → vp_in ((mm_up σ (33 + 1 + (σ 16 x1.toNatClampNeg).toNatClampNeg) (σ 17 x1.toNatClampNeg).toNatClampNeg (-2 : Int32)) 17 x1.toNatClampNeg) 9) (H5 : ¬ ((σ 1 12) ≤ x1) → vp_in ((mm_up σ (33 + 1 + (σ 16 x1.toNatClampNeg).toNatClampNeg) (σ 17 x1.toNatClampNeg).toNatClampNeg (-2 : Int32)) 16 x1.toNatClampNeg) 9) (q0 : (σ 1 12) ≤ x1 → mw d mt_39 Q 78 [some (.ref 5), some (.int (0 : Int32))] [] σ) (q1 : ¬ ((σ 1 12) ≤ x1) → mw d mt_39 Q 7 [some (.ref 5), some (.int (x1 + 1))] [] (mm_up (mm_up σ (33 + 1 + (σ 16 x1.toNatClampNeg).toNatClampNeg) (σ 17 x1.toNatClampNeg).toNatClampNeg (-2 : Int32)) (33 + 1 + ((mm_up σ (33 + 1 + (σ 16 x1.toNatClampNeg).toNatClampNeg) (σ 17 x1.toNatClampNeg).toNatClampNeg (-2 : Int32)) 17 x1.toNatClampNeg).toNatClampNeg) ((mm_up σ (33 + 1 + (σ 16 x1.toNatClampNeg).toNatClampNeg) (σ 17 x1.toNatClampNeg).toNatClampNeg (-2 : Int32)) 16 x1.toNatClampNeg).toNatClampNeg (-2 : Int32))) : mw d mt_39 Q 7 [some (.ref 5), some (.int x1)] [] σ := (kb_39_7 (fun g0 => (kb_39_76 (q0 g0))) (fun g0 => (kb_39_18 (H1 g0) (H2 g0) (H1 g0) (H3 g0) (H1 g0) (H4 g0) (H1 g0) (H5 g0) (q1 g0))))
/-- HouseDesk$Walks.goInside, from 78 -/
theorem ks_39_78 {d : Nat} {Q : mm_Q} {x1 : Int32} {σ : mm_S} (H1 : ¬ ((σ 5 3) ≤ x1) → vp_in x1 9) (H2 : ¬ ((σ 5 3) ≤ x1) → vp_in (σ 31 x1.toNatClampNeg) 9) (H3 : ¬ ((σ 5 3) ≤ x1) → ¬ ((σ 5 3) ≤ (x1 + (1 : Int32))) → vp_in (x1 + (1 : Int32)) 9) (H4 : ¬ ((σ 5 3) ≤ x1) → vp_in (f_40 σ x1) 9) (q0 : (σ 5 3) ≤ x1 → mw (d + 1) mt_39 Q 112 [some (.ref 5), some (.int (0 : Int32))] [] σ) (q1 : ¬ ((σ 5 3) ≤ x1) → mw (d + 1) mt_39 Q 78 [some (.ref 5), some (.int (x1 + 1))] [] (mm_up σ (33 + 1 + (σ 31 x1.toNatClampNeg).toNatClampNeg) (f_40 σ x1).toNatClampNeg (-1 : Int32))) : mw (d + 1) mt_39 Q 78 [some (.ref 5), some (.int x1)] [] σ := (kb_39_78 (fun g0 => (kb_39_110 (q0 g0))) (fun g0 => (kb_39_86 (H1 g0) (H2 g0) (c_40 (H3 g0) (kb_39_102 (mr_33 (H2 g0) (H4 g0)) (q1 g0))))))
theorem BH_cg {σ τ τ' : mm_S} {m : Nat} (h : ∀ k, 22 ≤ k → k ≤ 30 → τ' k = τ k) (H : BH σ τ m) : BH σ τ' m := fun a b h1 h2 h3 => DD_cg (h _ (by omega) (by omega)) (H a b h1 h2 h3)
/-- the k-th dart of the outline -/
def od (τ : mm_S) (s t k : Nat) : Nat × Nat := (wo (Bf τ) s t k, wo (Bf τ) s t (k + 1))
/-- what goInside leaves behind -/
def GI (σ τ τ' : mm_S) (m s t L f : Nat) : Prop := (∀ c, c ≠ 5 → (c < 34 ∨ 43 < c) → τ' c = τ c) ∧ (∀ j, j ≠ 6 → τ' 5 j = τ 5 j) ∧ FS σ τ' m f ∧ ∀ x, Dt σ m x → ¬ Fw τ' x = -2 ∧ (Fw τ' x = -1 ↔ ∃ k, k < L ∧ x = od τ s t k)
theorem f_40_o {τ : mm_S} {s t L k : Nat} (O : OL τ s t L) (hk : k < L) : f_40 τ (nI k) = nI (wo (Bf τ) s t (k + 1)) := by
  obtain ⟨l1, l9, e3, eL, eL1, dis, arr, non⟩ := O
  unfold f_40
  rw [e3, nI_1]
  by_cases h : k + 1 = L
  · rw [if_pos (hI_le (by omega) (by omega)), (arr 0 (by omega)).1, h, eL]; rfl
  · rw [if_neg (hI_nle (by omega) (by omega)), nI_clamp (by omega)]
    exact (arr (k + 1) (by omega)).1
theorem c_39 {d n m s t L : Nat} {Q : mm_Q} {σ τ : mm_S} (C : CK σ n m) (N : NC σ n) (F : ∀ c, c ≠ 5 → (c < 22 ∨ 32 < c) → τ c = σ c) (H : BH σ τ m) (s9 : s < 9) (ms : m.testBit s = true) (hst : aj σ s t) (O : OL τ s t L)
    (q : ∀ τ' f, GI σ τ τ' m s t L f → Q none τ') : mD (d + 2) 39 [.ref 5] τ Q := by
  have AJ := wo_aj C H s9 ms hst
  have n21 := C.jn.1
  obtain ⟨l1, l9, e3, eL, eL1, dis, arr, non⟩ := id O
  have oD : ∀ k, Dt σ m (od τ s t k) := fun k => AJ k
  have ophi : ∀ k, ph (Bf τ) (od τ s t k) = od τ s t (k + 1) := fun k => rfl
  have oL : od τ s t L = od τ s t 0 := by unfold od; rw [eL, eL1]; rfl
  refine ke_39 (kb_39_0 ?_)
  -- first: all darts unwalked
  refine lp_dn (P := fun e => ∀ ρ : mm_S, (∀ c, c ≠ 5 → (c < 34 ∨ 42 < c) → ρ c = τ c) → (∀ j, j ≠ 6 → ρ 5 j = τ 5 j) → ρ 5 6 = nI 0 → (∀ k, k < e → ∀ a b, a < 9 → b < 9 → σ 16 k = nI a → σ 17 k = nI b → Fw ρ (a, b) = -2 ∧ Fw ρ (b, a) = -2) → mw (d + 1) mt_39 Q 7 [some (.ref 5), some (.int (nI e))] [] ρ) n ?_ ?_ 0 (Nat.zero_le n) _ (fun c h _ => mm_up_n h) (fun j hj => mm_up_o hj) mm_up_s (fun k hk => absurd hk (Nat.not_lt_zero k))
  · intro ρ fr f5 f56 hF
    have r1 : ρ 1 12 = nI n := by rw [fr 1 (by omega) (by omega), F 1 (by omega) (by omega)]; exact C.jn.2
    have gt : ρ 1 12 ≤ nI n := by rw [r1]; exact hI_le (by omega) (Nat.le_refl n)
    refine ks_39_7 (fun g => absurd gt g) (fun g => absurd gt g) (fun g => absurd gt g) (fun g => absurd gt g) (fun g => absurd gt g) (fun _ => ?_) (fun g => absurd gt g)
    have hF2 : ∀ x, Dt σ m x → Fw ρ x = -2 := fun x hx => by
      obtain ⟨h1, h2, h3⟩ := hx
      obtain ⟨k, hk, hh, h9⟩ := (C.ja x.1 x.2 h1 h2).mp h3
      rcases hh with ⟨p, r⟩ | ⟨p, r⟩
      · exact (hF k hk x.1 x.2 h1 h9 p r).1
      · exact (hF k hk x.2 x.1 h9 h1 p r).2
    clear hF
    -- second: the outline
    refine lp_dn (P := fun k => ∀ ρ : mm_S, (∀ c, c ≠ 5 → (c < 34 ∨ 42 < c) → ρ c = τ c) → (∀ j, j ≠ 6 → ρ 5 j = τ 5 j) → ρ 5 6 = nI 0 → (∀ x, Dt σ m x → (Fw ρ x = -1 ∧ ∃ j, j < k ∧ x = od τ s t j) ∨ (Fw ρ x = -2 ∧ ∀ j, j < k → x ≠ od τ s t j)) → mw (d + 1) mt_39 Q 78 [some (.ref 5), some (.int (nI k))] [] ρ) L ?_ ?_ 0 (Nat.zero_le L) ρ fr f5 f56 (fun x hx => Or.inr ⟨hF2 x hx, fun j hj => absurd hj (Nat.not_lt_zero j)⟩)
    · intro ρ fr f5 f56 lab
      have e53 : ρ 5 3 = nI L := by rw [f5 3 (by decide)]; exact e3
      have g3 : ρ 5 3 ≤ nI L := by rw [e53]; exact hI_le (by omega) (Nat.le_refl L)
      refine ks_39_78 (fun g => absurd g3 g) (fun g => absurd g3 g) (fun g => absurd g3 g) (fun g => absurd g3 g) (fun _ => ?_) (fun g => absurd g3 g)
      have hB : ∀ a b, a < 9 → Bf ρ a b = Bf τ a b := Bf_cg (fun c h1 h2 => fr c (by omega) (by omega))
      have hph : ∀ y, Dt σ m y → ph (Bf ρ) y = ph (Bf τ) y := fun y hy => by unfold ph; rw [hB _ _ (Dt_2 C hy).1]
      have S0 : FS σ ρ m 0 := by
        refine ⟨f56, fun y hy => ?_, fun y hy => ?_, fun g hg => absurd hg (Nat.not_lt_zero g), ⟨0, by omega, fun c _ h => absurd h (by simp)⟩⟩
        · rw [hph y hy]
          rcases lab y hy with ⟨a1, j, hj, a2⟩ | ⟨a1, a2⟩
          · rcases lab _ (ph_D C H y hy) with ⟨b1, _⟩ | ⟨b1, b2⟩
            · rw [a1, b1]
            · exfalso
              rw [a2, ophi] at b2
              by_cases ej : j + 1 = L
              · exact b2 0 (by omega) (by rw [ej]; exact oL)
              · exact b2 (j + 1) (by omega) rfl
          · rcases lab _ (ph_D C H y hy) with ⟨b1, j, hj, b2⟩ | ⟨b1, b2⟩
            · exfalso
              rcases Nat.eq_zero_or_pos j with jz | jz
              · subst jz
                rw [← oL] at b2
                obtain ⟨k', ek⟩ : ∃ k', L = k' + 1 := ⟨L - 1, by omega⟩
                rw [ek, ← ophi] at b2
                exact a2 k' (by omega) (ph_inj C N H _ _ hy (oD k') b2)
              · obtain ⟨j', rfl⟩ : ∃ j', j = j' + 1 := ⟨j - 1, by omega⟩
                rw [← ophi] at b2
                exact a2 j' (by omega) (ph_inj C N H _ _ hy (oD j') b2)
            · rw [a1, b1]
        · rcases lab y hy with ⟨a1, _⟩ | ⟨a1, _⟩
          · exact Or.inr (Or.inl a1)
          · exact Or.inl a1
      -- third: the walks
      refine lp_dn (P := fun e => ∀ (π : mm_S) (f : Nat), (∀ c, c ≠ 5 → (c < 34 ∨ 43 < c) → π c = τ c) → (∀ j, j ≠ 6 → π 5 j = τ 5 j) → FS σ π m f → (∀ x, Dt σ m x → (Fw π x = -1 ↔ ∃ k, k < L ∧ x = od τ s t k)) → (∀ k, k < e → ¬ Fw π (dcd σ (2 * k)) = -2 ∧ ¬ Fw π (dcd σ (2 * k + 1)) = -2) → mw (d + 1) mt_39 Q 112 [some (.ref 5), some (.int (nI e))] [] π) n ?_ ?_ 0 (Nat.zero_le n) ρ 0 (fun c h1 h2 => fr c h1 (by omega)) f5 S0 (fun x hx => ?_) (fun k hk => absurd hk (Nat.not_lt_zero k))
      · intro π f fr5 g5 S lab5 done
        have r1 : π 1 12 = nI n := by rw [fr5 1 (by omega) (by omega), F 1 (by omega) (by omega)]; exact C.jn.2
        refine kb_39_112 (fun _ => kb_39_173 (q π f ⟨fr5, g5, S, fun x hx => ⟨?_, lab5 x hx⟩⟩)) (fun g => absurd ?_ g)
        · obtain ⟨c, c1, c2⟩ := dcd_ex C hx
          obtain ⟨d1, d2⟩ := done (c / 2) (by omega)
          rcases Nat.mod_two_eq_zero_or_one c with z | z
          · rw [show 2 * (c / 2) = c by omega, c2] at d1; exact d1
          · rw [show 2 * (c / 2) + 1 = c by omega, c2] at d2; exact d2
        · rw [r1]; exact hI_le (by omega) (Nat.le_refl n)
      · intro e he ih π f fr5 g5 S lab5 done
        obtain ⟨a, b, ha, hb, hne, ma, mb, e1, e2⟩ := C.je e he
        have ce : (nI e).toNatClampNeg = e := nI_clamp (by omega)
        have D0 := dcd_D C (c := 2 * e) (by omega)
        have D1 := dcd_D C (c := 2 * e + 1) (by omega)
        have d0 : dcd σ (2 * e) = (a, b) := by
          unfold dcd; rw [if_pos (by omega), show 2 * e / 2 = e by omega, e1, e2, nI_clamp (by omega), nI_clamp (by omega)]
        have d1 : dcd σ (2 * e + 1) = (b, a) := by
          unfold dcd; rw [if_neg (by omega), show (2 * e + 1) / 2 = e by omega, e1, e2, nI_clamp (by omega), nI_clamp (by omega)]
        have step : ∀ (π π' : mm_S) (f f' : Nat), wf σ π π' m f f' → (∀ c, c ≠ 5 → (c < 34 ∨ 43 < c) → π c = τ c) → (∀ j, j ≠ 6 → π 5 j = τ 5 j) → (∀ x, Dt σ m x → (Fw π x = -1 ↔ ∃ k, k < L ∧ x = od τ s t k)) → (∀ c, c ≠ 5 → (c < 34 ∨ 43 < c) → π' c = τ c) ∧ (∀ j, j ≠ 6 → π' 5 j = τ 5 j) ∧ FS σ π' m f' ∧ (∀ x, Dt σ m x → (Fw π' x = -1 ↔ ∃ k, k < L ∧ x = od τ s t k)) ∧ (∀ x, Dt σ m x → ¬ Fw π x = -2 → ¬ Fw π' x = -2) := by
          intro π π' f f' ⟨w1, w2, w3, w4, w5⟩ fr5 g5 lab5
          have f41 : ∀ g, g < f' → g < 2 ^ 31 := fun g hg => by
            obtain ⟨v, hv, _⟩ := w3.ct
            have := bc_n v 42
            omega
          refine ⟨fun c h1 h2 => by rw [w1 c h1 h2]; exact fr5 c h1 h2, fun j hj => by rw [w2 j hj]; exact g5 j hj, w3, fun x hx => ?_, fun x hx hn => ?_⟩
          · rw [← lab5 x hx]
            rcases w5 x hx with z | ⟨z, g, hg, y⟩
            · rw [z]
            · rw [z, y]
              exact ⟨fun w => absurd w (nI_m1 (f41 g hg)), fun w => absurd w (by decide)⟩
          · rcases w5 x hx with z | ⟨z, g, hg, y⟩
            · rw [z]; exact hn
            · exact absurd z hn
        have BHπ : ∀ π : mm_S, (∀ c, c ≠ 5 → (c < 34 ∨ 43 < c) → π c = τ c) → BH σ π m := fun π h => BH_cg (fun k h1 h2 => h k (by omega) (by omega)) H
        have end16 : ∀ π : mm_S, (∀ c, c ≠ 5 → (c < 34 ∨ 43 < c) → π c = τ c) → π 16 (nI e).toNatClampNeg = nI a ∧ π 17 (nI e).toNatClampNeg = nI b := fun π h => by
          rw [ce, h 16 (by omega) (by omega), h 17 (by omega) (by omega), F 16 (by omega) (by omega), F 17 (by omega) (by omega)]
          exact ⟨e1, e2⟩
        refine kb_39_112 (fun g => absurd g ?_) (fun _ => kb_39_123 (pk_in e 21 (by omega)) (pk_in e 21 (by omega)) ?_)
        · rw [fr5 1 (by omega) (by omega), F 1 (by omega) (by omega), C.jn.2]; exact hI_nle (by omega) he
        · rw [(end16 π fr5).1, (end16 π fr5).2]
          rw [d0] at D0
          rw [d1] at D1
          refine c_42 (x := (a, b)) C N (BHπ π fr5) S D0 (fun π1 f1 W1 n1 => ?_)
          obtain ⟨p1, p2, p3, p4, p5⟩ := step π π1 f f1 W1 fr5 g5 lab5
          refine kb_39_145 (pk_in e 21 (by omega)) (pk_in e 21 (by omega)) ?_
          rw [(end16 π1 p1).1, (end16 π1 p1).2]
          refine c_42 (x := (b, a)) C N (BHπ π1 p1) p3 D1 (fun π2 f2 W2 n2 => kb_39_167 ?_)
          obtain ⟨r1, r2, r3, r4, r5⟩ := step π1 π2 f1 f2 W2 p1 p2 p4
          rw [nI_1]
          refine ih π2 f2 r1 r2 r3 r4 (fun k hk => ?_)
          by_cases ek : k = e
          · subst ek
            rw [d0, d1]
            exact ⟨r5 _ D0 n1, n2⟩
          · obtain ⟨u1, u2⟩ := done k (by omega)
            have E0 := dcd_D C (c := 2 * k) (by omega)
            have E1 := dcd_D C (c := 2 * k + 1) (by omega)
            exact ⟨r5 _ E0 (p5 _ E0 u1), r5 _ E1 (p5 _ E1 u2)⟩
      · rcases lab x hx with ⟨a1, a2⟩ | ⟨a1, a2⟩
        · exact ⟨fun _ => a2, fun _ => a1⟩
        · rw [a1]
          exact ⟨fun w => absurd w (by decide), fun ⟨k, hk, w⟩ => absurd w (a2 k hk)⟩
    · intro k hk ih ρ fr f5 f56 lab
      have e53 : ρ 5 3 = nI L := by rw [f5 3 (by decide)]; exact e3
      have g3 : ¬ (ρ 5 3 ≤ nI k) := by rw [e53]; exact hI_nle (by omega) hk
      have ck : (nI k).toNatClampNeg = k := nI_clamp (by omega)
      obtain ⟨a1, a2, a3⟩ := AJ k
      obtain ⟨b1, b2, b3⟩ := AJ (k + 1)
      have r31 : ρ 31 (nI k).toNatClampNeg = nI (wo (Bf τ) s t k) := by rw [ck, fr 31 (by omega) (by omega)]; exact (arr k hk).1
      have r40 : f_40 ρ (nI k) = nI (wo (Bf τ) s t (k + 1)) := by
        rw [← f_40_o O hk]
        unfold f_40
        rw [e53, e3, fr 31 (by omega) (by omega)]
      refine ks_39_78 (fun _ => pk_in k 9 (by omega)) (fun _ => by rw [r31]; exact pk_in _ 9 a1) (fun _ z => ?_) (fun _ => by rw [r40]; exact pk_in _ 9 b1) (fun g => absurd g g3) (fun _ => ?_)
      · rw [nI_1]
        rw [e53, nI_1] at z
        exact pk_in (k + 1) 9 (by
          rcases Nat.lt_or_ge (k + 1) L with y | y
          · omega
          · exact absurd (hI_le (by omega) y) z)
      · rw [nI_1, r31, r40, nI_clamp (show wo (Bf τ) s t k < 2 ^ 31 by omega), nI_clamp (show wo (Bf τ) s t (k + 1) < 2 ^ 31 by omega)]
        refine ih _ (fun c h1 h2 => by rw [mm_up_n (by omega)]; exact fr c h1 h2) (fun j hj => by rw [mm_up_n (by omega)]; exact f5 j hj) (by rw [mm_up_n (by omega)]; exact f56) (fun x hx => ?_)
        have hu := Fw_up (τ := ρ) (x := od τ s t k) (y := x) (v := -1)
        rw [show Fw (mm_up ρ (33 + 1 + wo (Bf τ) s t k) (wo (Bf τ) s t (k + 1)) (-1)) x = if x = od τ s t k then -1 else Fw ρ x from hu]
        by_cases e : x = od τ s t k
        · rw [if_pos e]; exact Or.inl ⟨rfl, k, by omega, e⟩
        · rw [if_neg e]
          rcases lab x hx with ⟨u1, j, hj, u2⟩ | ⟨u1, u2⟩
          · exact Or.inl ⟨u1, j, by omega, u2⟩
          · refine Or.inr ⟨u1, fun j hj => ?_⟩
            by_cases ej : j = k
            · rw [ej]; exact e
            · exact u2 j (by omega)
  · intro e he ih ρ fr f5 f56 hF
    obtain ⟨a, b, ha, hb, hne, ma, mb, e1, e2⟩ := C.je e he
    have ce : (nI e).toNatClampNeg = e := nI_clamp (by omega)
    have r16 : ρ 16 (nI e).toNatClampNeg = nI a := by rw [ce, fr 16 (by omega) (by omega), F 16 (by omega) (by omega)]; exact e1
    have r17 : ρ 17 (nI e).toNatClampNeg = nI b := by rw [ce, fr 17 (by omega) (by omega), F 17 (by omega) (by omega)]; exact e2
    have ca : (nI a).toNatClampNeg = a := nI_clamp (by omega)
    have cb : (nI b).toNatClampNeg = b := nI_clamp (by omega)
    have g3 : ¬ (ρ 1 12 ≤ nI e) := by rw [fr 1 (by omega) (by omega), F 1 (by omega) (by omega), C.jn.2]; exact hI_nle (by omega) he
    have u16 : (mm_up ρ (33 + 1 + a) b (-2)) 16 (nI e).toNatClampNeg = nI a := by rw [mm_up_n (by omega)]; exact r16
    have u17 : (mm_up ρ (33 + 1 + a) b (-2)) 17 (nI e).toNatClampNeg = nI b := by rw [mm_up_n (by omega)]; exact r17
    refine ks_39_7 (fun _ => pk_in e 21 (by omega)) (fun _ => by rw [r16]; exact pk_in a 9 ha) (fun _ => by rw [r17]; exact pk_in b 9 hb) (fun _ => by rw [r16, r17, ca, cb, u17]; exact pk_in b 9 hb) (fun _ => by rw [r16, r17, ca, cb, u16]; exact pk_in a 9 ha) (fun g => absurd g g3) (fun _ => ?_)
    rw [nI_1, r16, r17, ca, cb, u16, u17, ca, cb]
    refine ih _ (fun c h1 h2 => by rw [mm_up_n (by omega), mm_up_n (by omega)]; exact fr c h1 h2) (fun j hj => by rw [mm_up_n (by omega), mm_up_n (by omega)]; exact f5 j hj) (by rw [mm_up_n (by omega), mm_up_n (by omega)]; exact f56) (fun k hk x y hx hy h1 h2 => ?_)
    have hu : ∀ z, Fw (mm_up (mm_up ρ (33 + 1 + a) b (-2)) (33 + 1 + b) a (-2)) z = if z = (b, a) then -2 else if z = (a, b) then -2 else Fw ρ z := fun z => by
      have h1 := Fw_up (τ := mm_up ρ (33 + 1 + a) b (-2)) (x := (b, a)) (y := z) (v := -2)
      have h2 := Fw_up (τ := ρ) (x := (a, b)) (y := z) (v := -2)
      rw [← h2]; exact h1
    rw [hu, hu]
    by_cases ek : k = e
    · subst ek
      have p1 := nI9 hx ha (h1.symm.trans e1)
      have p2 := nI9 hy hb (h2.symm.trans e2)
      subst p1; subst p2
      simp
    · obtain ⟨v1, v2⟩ := hF k (by omega) x y hx hy h1 h2
      rw [v1, v2]
      simp
