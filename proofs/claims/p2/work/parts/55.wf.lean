/-! class: walkFace -/
/-- HouseDesk$Walks.roomBehind -/
def f_40 (σ : mm_S) (x1 : Int32) : Int32 := (if (σ 5 3) ≤ (x1 + (1 : Int32)) then (σ 31 0) else (σ 31 (x1 + (1 : Int32)).toNatClampNeg))
theorem c_40 {d : Nat} {Q : mm_Q} {x1 : Int32} {σ : mm_S} (H1 : ¬ ((σ 5 3) ≤ (x1 + (1 : Int32))) → vp_in (x1 + (1 : Int32)) 9) (q : Q (some (.int (f_40 σ x1))) σ) : mD (d + 1) 40 [.ref 5, .int x1] σ Q := ke_40 (kb_40_0 (fun g0 => (kb_40_20 (pk_in 0 9 (by decide)) (q_pos g0 q))) (fun g0 => (kb_40_14 (H1 g0) (q_neg g0 q))))
/-- HouseDesk$Walks.roomBefore -/
def f_41 (σ : mm_S) (x1 : Int32) : Int32 := (if x1 ≤ 0 then (σ 31 ((σ 5 3) - (1 : Int32)).toNatClampNeg) else (σ 31 (x1 - (1 : Int32)).toNatClampNeg))
theorem c_41 {d : Nat} {Q : mm_Q} {x1 : Int32} {σ : mm_S} (H1 : x1 ≤ 0 → vp_in ((σ 5 3) - (1 : Int32)) 9) (H2 : ¬ (x1 ≤ 0) → vp_in (x1 - (1 : Int32)) 9) (q : Q (some (.int (f_41 σ x1))) σ) : mD (d + 1) 41 [.ref 5, .int x1] σ Q := ke_41 (kb_41_0 (fun g0 => (kb_41_14 (H1 g0) (q_pos g0 q))) (fun g0 => (kb_41_8 (H2 g0) (q_neg g0 q))))
/-- HouseDesk$Walks.walkFace, from 0 -/
theorem ks_42_0 {d : Nat} {Q : mm_Q} {x1 x2 : Int32} {σ : mm_S} (H1 : vp_in x1 9) (H2 : vp_in x2 9) (q0 : (σ (33 + 1 + x1.toNatClampNeg) x2.toNatClampNeg) = (-2 : Int32) → mw d mt_42 Q 25 [some (.ref 5), some (.int x1), some (.int x2), some (.int x1), some (.int x2), some (.int (0 : Int32)), some (.int (0 : Int32)), none] [] σ) (q1 : ¬ ((σ (33 + 1 + x1.toNatClampNeg) x2.toNatClampNeg) = (-2 : Int32)) → Q (none) σ) : mD (d + 1) 42 [.ref 5, .int x1, .int x2] σ Q := ke_42 (kb_42_0 H1 H2 (fun g0 => (kb_42_14 (q0 g0))) (fun g0 => (kb_42_13 (q1 g0))))
/-- HouseDesk$Walks.walkFace, from 25 -/
theorem ks_42_25 {d : Nat} {Q : mm_Q} {x1 x2 x3 x4 x5 x6 : Int32} {o7 : Option Value} {σ : mm_S} (H1 : (42 : Int32) ≤ x6 → vp_in (σ 5 6) 42) (H2 : ¬ ((42 : Int32) ≤ x6) → vp_in x3 9) (H3 : ¬ ((42 : Int32) ≤ x6) → vp_in x4 9) (H4 : ¬ ((42 : Int32) ≤ x6) → vp_in x3 13) (H5 : ¬ ((42 : Int32) ≤ x6) → vp_in (σ 5 6) 42) (q0 : (42 : Int32) ≤ x6 → Q (none) (mm_up (mm_up σ 43 (σ 5 6).toNatClampNeg x5) 5 6 ((σ 5 6) + (1 : Int32)))) (q1 : ¬ ((42 : Int32) ≤ x6) → (σ (33 + 1 + x3.toNatClampNeg) x4.toNatClampNeg) = (-2 : Int32) → mw d mt_42 Q 25 [some (.ref 5), some (.int x1), some (.int x2), some (.int x4), some (.int ((mm_up σ (33 + 1 + x3.toNatClampNeg) x4.toNatClampNeg (σ 5 6)) (21 + 1 + x4.toNatClampNeg) x3.toNatClampNeg)), some (.int (x5 ||| ((1 : Int32) <<< (x3 &&& 31)))), some (.int (x6 + 1)), some (.int ((mm_up σ (33 + 1 + x3.toNatClampNeg) x4.toNatClampNeg (σ 5 6)) (21 + 1 + x4.toNatClampNeg) x3.toNatClampNeg))] [] (mm_up σ (33 + 1 + x3.toNatClampNeg) x4.toNatClampNeg (σ 5 6))) (q2 : ¬ ((42 : Int32) ≤ x6) → ¬ ((σ (33 + 1 + x3.toNatClampNeg) x4.toNatClampNeg) = (-2 : Int32)) → Q (none) (mm_up (mm_up σ 43 (σ 5 6).toNatClampNeg x5) 5 6 ((σ 5 6) + (1 : Int32)))) : mw d mt_42 Q 25 [some (.ref 5), some (.int x1), some (.int x2), some (.int x3), some (.int x4), some (.int x5), some (.int x6), o7] [] σ := (kb_42_25 (fun g0 => (kb_42_91 (H1 g0) (q0 g0))) (fun g0 => (kb_42_32 (H2 g0) (H3 g0) (fun g1 => (kb_42_46 (H2 g0) (H3 g0) (H3 g0) (H4 g0) (q1 g0 g1))) (fun g1 => (kb_42_91 (H5 g0) (q2 g0 g1))))))
theorem it_cg {D : Nat × Nat → Prop} {f f' : Nat × Nat → Nat × Nat} (hD : ∀ x, D x → D (f x)) (h : ∀ x, D x → f' x = f x) {x : Nat × Nat} (hx : D x) : ∀ k, it f' x k = it f x k
  | 0 => rfl
  | k + 1 => by
    show f' (it f' x k) = f (it f x k)
    rw [it_cg hD h hx k]
    exact h _ (it_D hD hx k)
/-- what walkFace leaves behind -/
def wf (σ τ τ' : mm_S) (m f f' : Nat) : Prop := (∀ c, c ≠ 5 → (c < 34 ∨ 43 < c) → τ' c = τ c) ∧ (∀ j, j ≠ 6 → τ' 5 j = τ 5 j) ∧ FS σ τ' m f' ∧ f ≤ f' ∧ ∀ y, Dt σ m y → (Fw τ' y = Fw τ y ∨ (Fw τ y = -2 ∧ ∃ g, g < f' ∧ Fw τ' y = nI g))
theorem c_42 {d n m f : Nat} {x : Nat × Nat} {Q : mm_Q} {σ τ : mm_S} (C : CK σ n m) (N : NC σ n) (H : BH σ τ m) (S : FS σ τ m f) (hx : Dt σ m x)
    (q : ∀ τ' f', wf σ τ τ' m f f' → ¬ Fw τ' x = -2 → Q none τ') : mD (d + 1) 42 [.ref 5, .int (nI x.1), .int (nI x.2)] τ Q := by
  have x2 := (Dt_2 C hx).1
  have c1 : (nI x.1).toNatClampNeg = x.1 := nI_clamp (by have := hx.1; omega)
  have c2 : (nI x.2).toNatClampNeg = x.2 := nI_clamp (by omega)
  refine ks_42_0 (pk_in _ 9 hx.1) (pk_in _ 9 x2) (fun z => ?_) (fun z => q τ f ⟨fun _ _ _ => rfl, fun _ _ => rfl, S, Nat.le_refl f, fun y _ => Or.inl rfl⟩ (by rw [c1, c2] at z; exact z))
  rw [c1, c2] at z
  have hx2 : Fw τ x = -2 := z
  have f42 := FS_lt C S hx hx2
  have n21 := C.jn.1
  have OD := it_D (ph_D C H) hx
  -- the end of the walk
  have fin : ∀ (k : Nat) (ρ : mm_S) (v M : Nat), (∀ c, (c < 34 ∨ 42 < c) → ρ c = τ c) → (∀ y, Dt σ m y → (Fw ρ y = nI f ∧ ∃ j, j < k ∧ y = it (ph (Bf τ)) x j) ∨ (Fw ρ y = Fw τ y ∧ ∀ j, j < k → y ≠ it (ph (Bf τ)) x j)) → M < 512 → (∀ a, a < 9 → (M.testBit a = true ↔ ∃ j, j < k ∧ (it (ph (Bf τ)) x j).1 = a)) → f + k ≤ bc v 42 → (∀ c, c < 42 → v.testBit c = true → Dt σ m (dcd σ c) ∧ ((∃ g, g < f ∧ Fw τ (dcd σ c) = nI g) ∨ ∃ j, j < k ∧ dcd σ c = it (ph (Bf τ)) x j)) → (∀ a b, a < b → b < k → it (ph (Bf τ)) x a ≠ it (ph (Bf τ)) x b) → (∀ j, j < k → Fw τ (it (ph (Bf τ)) x j) = -2) → (∃ j, j < k ∧ it (ph (Bf τ)) x k = it (ph (Bf τ)) x j) → Q none (mm_up (mm_up ρ 43 (ρ 5 6).toNatClampNeg (nI M)) 5 6 ((ρ 5 6) + 1)) := by
    intro k ρ v M fr lab m9 mb hv hc dis old ⟨j, hj, e⟩
    have j0 := it_back (ph_D C H) (ph_inj C N H) hx hj e dis
    subst j0
    rw [fr 5 (by omega), S.fc, nI_clamp (show f < 2 ^ 31 by omega), nI_1]
    generalize hρ' : mm_up (mm_up ρ 43 f (nI M)) 5 6 (nI (f + 1)) = ρ'
    have rF : ∀ y, Dt σ m y → Fw ρ' y = Fw ρ y := fun y hy => by
      have y9 := hy.1
      unfold Fw
      rw [← hρ', mm_up_n (by omega), mm_up_n (by omega)]
    have hB : ∀ a b, a < 9 → Bf ρ' a b = Bf τ a b := Bf_cg (fun c h1 h2 => by rw [← hρ', mm_up_n (by omega), mm_up_n (by omega)]; exact fr c (by omega))
    have hph : ∀ y, Dt σ m y → ph (Bf ρ') y = ph (Bf τ) y := fun y hy => by
      unfold ph
      rw [hB _ _ (Dt_2 C hy).1]
    have lab' : ∀ y, Dt σ m y → (Fw ρ' y = nI f ∧ ∃ j, j < k ∧ y = it (ph (Bf τ)) x j) ∨ (Fw ρ' y = Fw τ y ∧ ∀ j, j < k → y ≠ it (ph (Bf τ)) x j) := fun y hy => by
      rw [rF y hy]; exact lab y hy
    have inl : ∀ j, j < k → Fw ρ' (it (ph (Bf τ)) x j) = nI f := fun j hj' => by
      rcases lab' _ (OD j) with z | z
      · exact z.1
      · exact absurd rfl (z.2 j hj')
    have r43 : ∀ g, g < f → ρ' 43 g = τ 43 g := fun g hg => by
      rw [← hρ', mm_up_n (by decide), mm_up_o (by omega), fr 43 (by omega)]
    refine q ρ' (f + 1) ⟨fun c h1 h2 => ?_, fun i hi => ?_, ⟨?_, fun y hy => ?_, fun y hy => ?_, fun g hg => ?_, ⟨v, by omega, fun c h1 h2 => ?_⟩⟩, by omega, fun y hy => ?_⟩ ?_
    · rw [← hρ', mm_up_n h1, mm_up_n (by omega)]; exact fr c (by omega)
    · rw [← hρ', mm_up_o hi, mm_up_n (by decide), fr 5 (by omega)]
    · rw [← hρ']; exact mm_up_s
    · rw [hph y hy]
      rcases lab' y hy with ⟨a1, i, hi, a2⟩ | ⟨a1, a2⟩
      · rw [a1, a2]
        show Fw ρ' (it (ph (Bf τ)) x (i + 1)) = nI f
        by_cases ek : i + 1 = k
        · rw [ek, e]; exact inl 0 hj
        · exact inl (i + 1) (by omega)
      · rw [a1, ← S.iv y hy]
        rcases lab' _ (ph_D C H y hy) with ⟨b1, i, hi, b2⟩ | ⟨b1, b2⟩
        · exfalso
          rcases Nat.eq_zero_or_pos i with iz | iz
          · subst iz
            obtain ⟨k', rfl⟩ : ∃ k', k = k' + 1 := ⟨k - 1, by omega⟩
            have : ph (Bf τ) y = ph (Bf τ) (it (ph (Bf τ)) x k') := b2.trans e.symm
            exact a2 k' (by omega) (ph_inj C N H _ _ hy (OD k') this)
          · obtain ⟨i', rfl⟩ : ∃ i', i = i' + 1 := ⟨i - 1, by omega⟩
            exact a2 i' (by omega) (ph_inj C N H _ _ hy (OD i') b2)
        · exact b1
    · rcases lab' y hy with ⟨a1, _⟩ | ⟨a1, _⟩
      · exact Or.inr (Or.inr ⟨f, by omega, a1⟩)
      · rw [a1]
        rcases S.rg y hy with z | z | ⟨g, hg, z⟩
        · exact Or.inl z
        · exact Or.inr (Or.inl z)
        · exact Or.inr (Or.inr ⟨g, by omega, z⟩)
    · by_cases eg : g = f
      · subst eg
        refine ⟨M, m9, by rw [← hρ', mm_up_n (by decide)]; exact mm_up_s, fun a ha => ?_, x, hx, inl 0 hj, fun y hy hl => ?_⟩
        · rw [mb a ha]
          constructor
          · rintro ⟨i, hi, ea⟩
            refine ⟨(it (ph (Bf τ)) x i).2, ?_, ?_⟩
            · rw [← ea]; exact OD i
            · rw [← ea]; exact inl i hi
          · rintro ⟨b, hd, hl⟩
            rcases lab' _ hd with ⟨_, i, hi, a2⟩ | ⟨a1, _⟩
            · exact ⟨i, hi, by rw [← a2]⟩
            · exfalso
              rw [hl] at a1
              rcases S.rg _ hd with z | z | ⟨g', hg', z⟩
              · exact nI_m2 (by omega) (a1.trans z)
              · exact nI_m1 (by omega) (a1.trans z)
              · have := (nI_eq (by omega) (by omega)).mp (a1.trans z); omega
        · rcases lab' _ hy with ⟨_, i, hi, a2⟩ | ⟨a1, _⟩
          · exact ⟨i, by rw [it_cg (ph_D C H) hph hx]; exact a2⟩
          · exfalso
            rw [hl] at a1
            rcases S.rg _ hy with z | z | ⟨g', hg', z⟩
            · exact nI_m2 (by omega) (a1.trans z)
            · exact nI_m1 (by omega) (a1.trans z)
            · have := (nI_eq (by omega) (by omega)).mp (a1.trans z); omega
      · have hg' : g < f := by omega
        obtain ⟨M', p1, p2, p3, y0, p4, p5, p6⟩ := S.fr g hg'
        have same : ∀ y, Dt σ m y → (Fw ρ' y = nI g ↔ Fw τ y = nI g) := fun y hy => by
          rcases lab' y hy with ⟨a1, i, hi, a2⟩ | ⟨a1, _⟩
          · rw [a1, a2, old i hi]
            exact ⟨fun z => absurd ((nI_eq (by omega) (by omega)).mp z) (by omega), fun z => absurd z.symm (nI_m2 (by omega))⟩
          · rw [a1]
        refine ⟨M', p1, by rw [r43 g hg']; exact p2, fun a ha => ?_, y0, p4, (same y0 p4).mpr p5, fun y hy hl => ?_⟩
        · rw [p3 a ha]
          constructor
          · rintro ⟨b, hd, hl⟩; exact ⟨b, hd, (same _ hd).mpr hl⟩
          · rintro ⟨b, hd, hl⟩; exact ⟨b, hd, (same _ hd).mp hl⟩
        · obtain ⟨i, hi⟩ := p6 y hy ((same y hy).mp hl)
          exact ⟨i, by rw [it_cg (ph_D C H) hph p4]; exact hi⟩
    · obtain ⟨hd, hh⟩ := hc c h1 h2
      refine ⟨hd, ?_⟩
      rcases lab' _ hd with ⟨a1, _⟩ | ⟨a1, a2⟩
      · exact ⟨f, by omega, a1⟩
      · rcases hh with ⟨g, hg, hl⟩ | ⟨i, hi, hl⟩
        · exact ⟨g, by omega, a1.trans hl⟩
        · exact absurd hl (a2 i hi)
    · rcases lab' y hy with ⟨a1, i, hi, a2⟩ | ⟨a1, _⟩
      · exact Or.inr ⟨by rw [a2]; exact old i hi, f, by omega, a1⟩
      · exact Or.inl a1
    · have := inl 0 hj
      rw [show Fw ρ' x = nI f from this]
      exact nI_m2 (by omega)
  obtain ⟨v0, hv0, hc0⟩ := S.ct
  refine lp_dn (P := fun k => ∀ (ρ : mm_S) (v M : Nat), (∀ c, (c < 34 ∨ 42 < c) → ρ c = τ c) → (∀ y, Dt σ m y → (Fw ρ y = nI f ∧ ∃ j, j < k ∧ y = it (ph (Bf τ)) x j) ∨ (Fw ρ y = Fw τ y ∧ ∀ j, j < k → y ≠ it (ph (Bf τ)) x j)) → M < 512 → (∀ a, a < 9 → (M.testBit a = true ↔ ∃ j, j < k ∧ (it (ph (Bf τ)) x j).1 = a)) → f + k ≤ bc v 42 → (∀ c, c < 42 → v.testBit c = true → Dt σ m (dcd σ c) ∧ ((∃ g, g < f ∧ Fw τ (dcd σ c) = nI g) ∨ ∃ j, j < k ∧ dcd σ c = it (ph (Bf τ)) x j)) → (∀ a b, a < b → b < k → it (ph (Bf τ)) x a ≠ it (ph (Bf τ)) x b) → (∀ j, j < k → Fw τ (it (ph (Bf τ)) x j) = -2) → ∀ o7, mw d mt_42 Q 25 [some (.ref 5), some (.int (nI x.1)), some (.int (nI x.2)), some (.int (nI (it (ph (Bf τ)) x k).1)), some (.int (nI (it (ph (Bf τ)) x k).2)), some (.int (nI M)), some (.int (nI k)), o7] [] ρ) 42 ?_ ?_ 0 (by omega) τ v0 0 (fun _ _ => rfl) (fun y _ => Or.inr ⟨rfl, fun j hj => absurd hj (Nat.not_lt_zero j)⟩) (by decide) (fun a _ => ⟨fun z => absurd z (by simp), fun z => absurd z.choose_spec.1 (Nat.not_lt_zero _)⟩) hv0 (fun c h1 h2 => ⟨(hc0 c h1 h2).1, Or.inl (hc0 c h1 h2).2⟩) (fun a b _ h => absurd h (Nat.not_lt_zero b)) (fun j hj => absurd hj (Nat.not_lt_zero j)) none
  · intro ρ v M fr lab m9 mb hv hc dis old o7
    have h5 : vp_in (ρ 5 6) 42 := by rw [fr 5 (by omega), S.fc]; exact pk_in f 42 f42
    have g42 : (42 : Int32) ≤ nI 42 := by decide
    refine ks_42_25 (fun _ => h5) (fun g => absurd g42 g) (fun g => absurd g42 g) (fun g => absurd g42 g) (fun g => absurd g42 g) (fun _ => fin 42 ρ v M fr lab m9 mb hv hc dis old ?_) (fun g => absurd g42 g) (fun g => absurd g42 g)
    have := bc_n v 42
    obtain ⟨c, k1, k2⟩ := dcd_ex C (OD 42)
    obtain ⟨_, hh⟩ := hc c (by omega) (bc_full 42 (by omega) c (by omega))
    rcases hh with ⟨g, hg, _⟩ | ⟨j, hj, e⟩
    · omega
    · exact ⟨j, hj, by rw [← k2]; exact e⟩
  · intro k hk ih ρ v M fr lab m9 mb hv hc dis old o7
    have h5 : vp_in (ρ 5 6) 42 := by rw [fr 5 (by omega), S.fc]; exact pk_in f 42 f42
    have Dk := OD k
    obtain ⟨y9, my, ay⟩ := Dt_2 C Dk
    have k1 : (nI (it (ph (Bf τ)) x k).1).toNatClampNeg = (it (ph (Bf τ)) x k).1 := nI_clamp (by have := Dk.1; omega)
    have k2 : (nI (it (ph (Bf τ)) x k).2).toNatClampNeg = (it (ph (Bf τ)) x k).2 := nI_clamp (by omega)
    have g42 : ¬ ((42 : Int32) ≤ nI k) := hI_nle (a := 42) (by omega) hk
    have dk1 := Dk.1
    refine ks_42_25 (fun g => absurd g g42) (fun _ => pk_in _ 9 Dk.1) (fun _ => pk_in _ 9 y9) (fun _ => pk_in (it (ph (Bf τ)) x k).1 13 (by omega)) (fun _ => h5) (fun g => absurd g g42) (fun _ z => ?_) (fun _ z => fin k ρ v M fr lab m9 mb hv hc dis old ?_)
    · rw [k1, k2] at z
      have hz : Fw ρ (it (ph (Bf τ)) x k) = -2 := z
      rw [k1, k2, nI_1, fr 5 (by omega), S.fc, one_sh (by omega), or_bit]
      have fresh : ∀ j, j < k → it (ph (Bf τ)) x k ≠ it (ph (Bf τ)) x j := by
        rcases lab _ Dk with ⟨a1, _⟩ | ⟨_, a2⟩
        · exact absurd (a1.symm.trans hz) (nI_m2 (by omega))
        · exact a2
      have o2 : Fw τ (it (ph (Bf τ)) x k) = -2 := by
        rcases lab _ Dk with ⟨a1, _⟩ | ⟨a1, _⟩
        · exact absurd (a1.symm.trans hz) (nI_m2 (by omega))
        · exact a1.symm.trans hz
      have rd : (mm_up ρ (33 + 1 + (it (ph (Bf τ)) x k).1) (it (ph (Bf τ)) x k).2 (nI f)) (21 + 1 + (it (ph (Bf τ)) x k).2) (it (ph (Bf τ)) x k).1 = nI (it (ph (Bf τ)) x (k + 1)).2 := by
        rw [mm_up_n (by omega), fr _ (by omega)]
        exact (BH_sp H y9 my ay).1
      rw [rd]
      obtain ⟨c, c1, c2⟩ := dcd_ex C Dk
      have cn : ¬ v.testBit c = true := fun y => by
        obtain ⟨_, hh⟩ := hc c (by omega) y
        rw [c2] at hh
        rcases hh with ⟨g, hg, e⟩ | ⟨j, hj, e⟩
        · exact nI_m2 (by omega) (e.symm.trans o2)
        · exact fresh j hj e
      refine ih _ (v ||| 2 ^ c) (M ||| 2 ^ (it (ph (Bf τ)) x k).1) (fun c' h => ?_) (fun y hy => ?_) ?_ (fun a ha => ?_) ?_ (fun c' h1 h2 => ?_) (fun a b h1 h2 => ?_) (fun j hj => ?_) _
      · rw [mm_up_n (by omega)]; exact fr c' h
      · rw [Fw_up]
        by_cases e : y = it (ph (Bf τ)) x k
        · rw [if_pos e]
          exact Or.inl ⟨rfl, k, by omega, e⟩
        · rw [if_neg e]
          rcases lab y hy with ⟨a1, i, hi, a2⟩ | ⟨a1, a2⟩
          · exact Or.inl ⟨a1, i, by omega, a2⟩
          · refine Or.inr ⟨a1, fun j hj => ?_⟩
            by_cases ej : j = k
            · rw [ej]; exact e
            · exact a2 j (by omega)
      · exact Nat.or_lt_two_pow (n := 9) m9 (Nat.pow_lt_pow_right (by decide) dk1)
      · rw [Nat.testBit_or, Nat.testBit_two_pow, Bool.or_eq_true, mb a ha]
        constructor
        · rintro (⟨j, hj, e⟩ | e)
          · exact ⟨j, by omega, e⟩
          · exact ⟨k, by omega, by simpa using e⟩
        · rintro ⟨j, hj, e⟩
          by_cases ek : j = k
          · subst ek; exact Or.inr (by simpa using e)
          · exact Or.inl ⟨j, by omega, e⟩
      · rw [bc_add cn, if_pos (by omega)]; omega
      · rw [Nat.testBit_or, Nat.testBit_two_pow, Bool.or_eq_true] at h2
        rcases h2 with h2 | h2
        · obtain ⟨p, r⟩ := hc c' h1 h2
          refine ⟨p, ?_⟩
          rcases r with r | ⟨j, hj, e⟩
          · exact Or.inl r
          · exact Or.inr ⟨j, by omega, e⟩
        · have e : c = c' := by simpa using h2
          subst e
          exact ⟨by rw [c2]; exact Dk, Or.inr ⟨k, by omega, c2⟩⟩
      · by_cases e : b = k
        · subst e; exact fun w => fresh a h1 w.symm
        · exact dis a b h1 (by omega)
      · by_cases e : j = k
        · subst e; exact o2
        · exact old j (by omega)
    · rw [k1, k2] at z
      rcases lab _ Dk with ⟨_, j, hj, a2⟩ | ⟨a1, _⟩
      · exact ⟨j, hj, a2⟩
      · exfalso
        apply z
        show Fw ρ (it (ph (Bf τ)) x k) = -2
        rw [a1]
        rcases Nat.eq_zero_or_pos k with kz | kz
        · subst kz; exact hx2
        · obtain ⟨k', rfl⟩ : ∃ k', k = k' + 1 := ⟨k - 1, by omega⟩
          show Fw τ (ph (Bf τ) (it (ph (Bf τ)) x k')) = -2
          rw [S.iv _ (OD k')]
          exact old k' (by omega)
