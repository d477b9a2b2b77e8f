/-! class: around each room the nodes follow one another -/
def VV (σ : mm_S) (m L : Nat) (o K : Nat → Nat) (r v : Nat) : Prop := m.testBit r = true ∧ ((v < 9 ∧ aj σ r v) ∨ ∃ k s0 j, k < L ∧ o k = r ∧ FSd K r s0 ∧ j < 4 ∧ v = 9 + (s0 + j) % 4 ∧ ∀ i, i ≤ j → (K r).testBit (9 + (s0 + i) % 4) = true)
theorem vg_ok {σ τ τ1 τ3 τ4 : mm_S} {n m s t L f : Nat} {K : Nat → Nat} (C : CK σ n m) (H : BH σ τ m) (O : OL τ s t L) (AJ : ∀ k, wo (Bf τ) s t k < 9 ∧ m.testBit (wo (Bf τ) s t k) = true ∧ aj σ (wo (Bf τ) s t k) (wo (Bf τ) s t (k + 1)))
    (r3 : ∀ a, a < 9 → τ3 (21 + 1 + a) = τ (21 + 1 + a)) (lab : ∀ x, Dt σ m x → ¬ Fw τ1 x = -2 ∧ (Fw τ1 x = -1 ↔ ∃ k, k < L ∧ x = od τ s t k)) (rg : ∀ x, Dt σ m x → Fw τ1 x = -2 ∨ Fw τ1 x = -1 ∨ ∃ g, g < f ∧ Fw τ1 x = nI g)
    (f34 : ∀ c, 34 ≤ c → c ≤ 42 → τ4 c = τ1 c) (row : ∀ r, r < 9 → (∀ k, k < L → wo (Bf τ) s t k ≠ r) → τ4 (21 + 1 + r) = τ3 (21 + 1 + r))
    (rws : ∀ k, k < L → ∃ s0, FSd K (wo (Bf τ) s t k) s0 ∧ RW τ3 τ4 K (wo (Bf τ) s t k) (wo (Bf τ) s t ((k + L - 1) % L)) (wo (Bf τ) s t ((k + 1) % L)) s0)
    (oin : ∀ k, k < L → ∃ s', s' < 4 ∧ (K (wo (Bf τ) s t k)).testBit (9 + s') = true) :
    ∀ r v, r < 9 → VV σ m L (wo (Bf τ) s t) K r v → v < 13 ∧ ∃ g, τ4 (21 + 1 + r) v = nI g ∧ VV σ m L (wo (Bf τ) s t) K r g ∧ (v < 9 → g < 9 → ∃ h, h < f ∧ τ4 (33 + 1 + v) r = nI h) := by
  obtain ⟨l1, l9, e3, eL, eL1, dis, arr, non⟩ := O
  -- a dart that isn't on the outline has a face
  have face : ∀ r v, r < 9 → m.testBit r = true → aj σ r v → (∀ k, k < L → (v, r) ≠ od τ s t k) → ∃ h, h < f ∧ τ4 (33 + 1 + v) r = nI h := fun r v hr mr hrv hn => by
    obtain ⟨v9, mv, _⟩ := C.aj_dr hr mr hrv
    have D : Dt σ m (v, r) := ⟨v9, mv, C.aj_sym hr mr hrv⟩
    obtain ⟨a1, a2⟩ := lab _ D
    rw [f34 _ (by omega) (by omega)]
    rcases rg _ D with z | z | z
    · exact absurd z a1
    · obtain ⟨k, hk, e⟩ := a2.mp z
      exact absurd e (hn k hk)
    · exact z
  intro r v hr ⟨mr, hv⟩
  by_cases on : ∃ k, k < L ∧ wo (Bf τ) s t k = r
  · obtain ⟨k, hk, ek⟩ := on
    obtain ⟨s0, F, c, c4, on1, on2, w1, w2, w3⟩ := rws k hk
    have hon := FSd_on F (oin k hk)
    rw [ek] at F on1 on2 w1 w2 w3 hon
    have s04 := F.1
    have c1 : 1 ≤ c := by
      rcases Nat.eq_zero_or_pos c with z | z
      · subst z
        rcases on2 with y | y
        · omega
        · rw [Nat.add_zero, Nat.mod_eq_of_lt s04, hon] at y; exact absurd y (by decide)
      · exact z
    have pl : (k + L - 1) % L < L := Nat.mod_lt _ (by omega)
    have p9 := (AJ ((k + L - 1) % L)).1
    have nl : (k + 1) % L < L := Nat.mod_lt _ (by omega)
    -- the next room
    have enx : wo (Bf τ) s t ((k + 1) % L) = wo (Bf τ) s t (k + 1) := by
      by_cases z : k + 1 = L
      · rw [z, Nat.mod_self, eL]; rfl
      · rw [Nat.mod_eq_of_lt (by omega)]
    have ajn : aj σ r (wo (Bf τ) s t ((k + 1) % L)) := by rw [enx, ← ek]; exact (AJ k).2.2
    have vnx : VV σ m L (wo (Bf τ) s t) K r (wo (Bf τ) s t ((k + 1) % L)) := ⟨mr, Or.inl ⟨ajn.1, ajn⟩⟩
    have v13 : v < 13 := by
      rcases hv with z | ⟨_, s1, j, _, _, _, _, e, _⟩
      · omega
      · rw [e]; omega
    refine ⟨v13, ?_⟩
    by_cases bf : ∃ j, j ≤ c ∧ v = bef (wo (Bf τ) s t ((k + L - 1) % L)) s0 j
    · obtain ⟨j, hj, ev⟩ := bf
      by_cases jc : j = c
      · subst jc
        refine ⟨_, by rw [ev]; exact w2, vnx, fun v9 => ?_⟩
        exfalso
        obtain ⟨j', rfl⟩ : ∃ j', j = j' + 1 := ⟨j - 1, by omega⟩
        rw [ev] at v9
        simp only [bef] at v9
        omega
      · refine ⟨_, by rw [ev]; exact w1 j (by omega), ⟨mr, Or.inr ⟨k, s0, j, hk, ek, F, by omega, rfl, fun i hi => on1 i (by omega)⟩⟩, fun _ g9 => ?_⟩
        omega
    · have v9 : v < 9 ∧ aj σ r v := by
        rcases hv with z | ⟨k', s1, j, hk', ek', F1, j4, e, all⟩
        · exact z
        · exfalso
          have := FSd_uniq F1 F
          subst this
          have jc : j < c := by
            rcases Nat.lt_or_ge j c with y | y
            · exact y
            · rcases on2 with z | z
              · omega
              · rw [all c y] at z; exact absurd z (by decide)
          exact bf ⟨j + 1, by omega, e⟩
      refine ⟨Bf τ r v, ?_, ⟨mr, Or.inl ?_⟩, fun _ _ => face r v hr mr v9.2 (fun j hj e => ?_)⟩
      · rw [w3 v (fun j hj e => bf ⟨j, hj, e⟩), r3 r hr]
        exact (BH_sp H hr mr v9.2).1
      · have := (BH_sp H hr mr v9.2).2.2.1
        exact ⟨this.1, this⟩
      · -- the dart before r on the outline
        apply bf
        refine ⟨0, by omega, ?_⟩
        show v = wo (Bf τ) s t ((k + L - 1) % L)
        have ev : v = wo (Bf τ) s t j := congrArg Prod.fst e
        have er : r = wo (Bf τ) s t (j + 1) := congrArg Prod.snd e
        rw [ev]
        by_cases z : j + 1 = L
        · rw [z, eL] at er
          have k0 : k = 0 := by
            rcases Nat.eq_zero_or_pos k with y | y
            · exact y
            · exact absurd (ek.trans er).symm (dis 0 k y hk)
          subst k0
          rw [Nat.zero_add, Nat.mod_eq_of_lt (by omega), show L - 1 = j by omega]
        · have kj : k = j + 1 := by
            rcases Nat.lt_trichotomy k (j + 1) with y | y | y
            · exact absurd (ek.trans er) (dis k (j + 1) y (by omega))
            · exact y
            · exact absurd (ek.trans er).symm (dis (j + 1) k y hk)
          rw [kj, show j + 1 + L - 1 = j + L by omega, Nat.add_mod_right, Nat.mod_eq_of_lt hj]
  · have off : ∀ k, k < L → wo (Bf τ) s t k ≠ r := fun k hk e => on ⟨k, hk, e⟩
    have v9 : v < 9 ∧ aj σ r v := by
      rcases hv with z | ⟨k', s1, j, hk', ek', _⟩
      · exact z
      · exact absurd ek' (off k' hk')
    refine ⟨by omega, Bf τ r v, ?_, ⟨mr, Or.inl ?_⟩, fun _ _ => face r v hr mr v9.2 (fun j hj e => ?_)⟩
    · rw [row r hr off, r3 r hr]
      exact (BH_sp H hr mr v9.2).1
    · have := (BH_sp H hr mr v9.2).2.2.1
      exact ⟨this.1, this⟩
    · have er : r = wo (Bf τ) s t (j + 1) := congrArg Prod.snd e
      by_cases z : j + 1 = L
      · rw [z, eL] at er
        exact off 0 (by omega) er.symm
      · exact off (j + 1) (by omega) er.symm
