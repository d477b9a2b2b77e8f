-- the same without a word on the outline
theorem peelo {σ : mm_S} {n m f s t : Nat} {B : Nat → Nat → Nat} {lab : Nat × Nat → Int32} {Gd : Nat → Nat → Prop} (W : PW σ n m) (hB : BN σ m B) (FL : FLl σ m B f lab) (TR : TRf σ m B lab) (hs : wms σ m 9 s) (ht : nms σ s 9 t) (lo : ∀ x, Dt σ m x → lab x = -1 → ∃ k, x = it (ph B) (s, t) k) (sy : ∀ i j, Gd i j → Gd j i) (con : spn σ m Gd) (tri : ∀ x, Dt σ m x → ¬ lab x = -1 → Gd (ph B x).1 (ph B x).2 → Gd (ph B (ph B x)).1 (ph B (ph B x)).2 → Gd x.1 x.2) : ∀ a b, rmx m a → aj σ a b → Gd a b := by
  rcases Classical.em (∀ x, Dt σ m x → lab x = -1 → Gd x.1 x.2) with out | nout
  · exact peel W hB FL TR sy con out tri
  exfalso
  obtain ⟨x0, hx0, lx0, nG⟩ : ∃ x, Dt σ m x ∧ lab x = -1 ∧ ¬ Gd x.1 x.2 := by
    rcases Classical.em (∃ x, Dt σ m x ∧ lab x = -1 ∧ ¬ Gd x.1 x.2) with y | y
    · exact y
    · exact absurd (fun x hx lx => by
        rcases Classical.em (Gd x.1 x.2) with z | z
        · exact z
        · exact absurd ⟨x, hx, lx, z⟩ y) nout
  obtain ⟨f42, l1, l2, l4⟩ := FL
  have hD := fun x h => pn_D W.1 hB x h
  have Dst : Dt σ m (s, t) := ⟨hs.1, hs.2.2.1, ht.1⟩
  have rev : ∀ x : Nat × Nat, Dt σ m x → Dt σ m (x.2, x.1) := fun x hx => by
    obtain ⟨h1, _, h3, _⟩ := W.ed ⟨hx.1, hx.2.1⟩ hx.2.2
    exact ⟨h1.1, h1.2, h3⟩
  have outer : ∀ {C : Nat → Nat → Prop}, CE σ m C → ∀ x, Dt σ m x → lab x = -1 → kap σ C x = false := fun {C} H x hx lx => by
    obtain ⟨k, e⟩ := lo x hx lx
    rw [e, kap_it W H hB Dst]
    exact kap_o W H hs ht
  have stp : ∀ x : Nat × Nat, ∃ y, Dt σ m x ∧ ¬ Gd x.1 x.2 ∧ ¬ lab x = -1 → (y = ph B x ∨ y = ph B (ph B x)) ∧ Dt σ m y ∧ ¬ Gd y.1 y.2 := fun x => by
    by_cases hx : Dt σ m x ∧ ¬ Gd x.1 x.2 ∧ ¬ lab x = -1
    · by_cases g1 : Gd (ph B x).1 (ph B x).2
      · by_cases g2 : Gd (ph B (ph B x)).1 (ph B (ph B x)).2
        · exact absurd (tri x hx.1 hx.2.2 g1 g2) hx.2.1
        · exact ⟨_, fun _ => ⟨Or.inr rfl, hD _ (hD _ hx.1), g2⟩⟩
      · exact ⟨_, fun _ => ⟨Or.inl rfl, hD _ hx.1, g1⟩⟩
    · exact ⟨x, fun h => absurd h hx⟩
  obtain ⟨gn, hgn⟩ : ∃ gn : Nat × Nat → Nat × Nat, ∀ x, Dt σ m x ∧ ¬ Gd x.1 x.2 ∧ ¬ lab x = -1 → (gn x = ph B x ∨ gn x = ph B (ph B x)) ∧ Dt σ m (gn x) ∧ ¬ Gd (gn x).1 (gn x).2 := ⟨fun x => (stp x).choose, fun x => (stp x).choose_spec⟩
  obtain ⟨X, hX0, hXs⟩ : ∃ X : Nat → Nat × Nat, X 0 = (x0.2, x0.1) ∧ ∀ k, X (k + 1) = ((gn (X k)).2, (gn (X k)).1) := ⟨it (fun x => ((gn x).2, (gn x).1)) (x0.2, x0.1), rfl, fun _ => rfl⟩
  -- the line through the first join
  obtain ⟨C0, H0, c01, c02⟩ := cyc W sy con ⟨hx0.1, hx0.2.1⟩ hx0.2.2 nG
  have kx0 : kap σ C0 x0 = false := outer H0 x0 hx0 lx0
  have kX0 : kap σ C0 (X 0) = true := by
    rw [hX0, kap_op W H0 ⟨hx0.1, hx0.2.1⟩ hx0.2.2, bo_t.mpr c01]
    rw [show (x0.1, x0.2) = x0 from rfl, kx0]; rfl
  have labg : ∀ x, (Dt σ m x ∧ ¬ Gd x.1 x.2 ∧ ¬ lab x = -1) → lab (gn x) = lab x := fun x hx => by
    rcases (hgn _ hx).1 with e | e
    · rw [e]; exact l1 _ hx.1
    · rw [e, l1 _ (hD _ hx.1)]; exact l1 _ hx.1
  have gne : ∀ x, (Dt σ m x ∧ ¬ Gd x.1 x.2 ∧ ¬ lab x = -1) → gn x ≠ x := fun x hx => by
    obtain ⟨_, t2, t3⟩ := TR _ hx.1 hx.2.2
    rcases (hgn _ hx).1 with e | e
    · rw [e]; exact t2
    · rw [e]; exact t3
  have same : ∀ {C : Nat → Nat → Prop}, CE σ m C → ∀ x y, Dt σ m x → Dt σ m y → ¬ lab x = -1 → lab x = lab y → kap σ C x = kap σ C y := fun {C} H x y hx hy nx e => by
    rcases l2 x hx with h | ⟨g, hg, h⟩
    · exact absurd h nx
    · obtain ⟨z, z1, _, z3⟩ := l4 g hg
      obtain ⟨i, ei⟩ := z3 x hx h
      obtain ⟨j, ej⟩ := z3 y hy (by rw [← e]; exact h)
      rw [ei, ej, kap_it W H hB z1, kap_it W H hB z1]
  -- no face twice, as far as all are inner
  have dis : ∀ N, (∀ k, k ≤ N → Dt σ m (X k) ∧ ¬ Gd (X k).1 (X k).2 ∧ ¬ lab (X k) = -1) → ∀ g i, 1 ≤ g → i + g ≤ N → lab (X (i + g)) ≠ lab (X i) := by
    intro N bad g
    induction g using Nat.strongRecOn with
    | ind g IH =>
      intro i g1 gN eq
      obtain ⟨_, y2, y3⟩ := hgn _ (bad i (by omega))
      obtain ⟨C, H, C1, C2⟩ := cyc W sy con ⟨y2.1, y2.2.1⟩ y2.2.2 y3
      have lg := labg _ (bad i (by omega))
      have k1 : kap σ C (gn (X i)) = kap σ C (X i) := same H _ _ y2 (bad i (by omega)).1 (by rw [lg]; exact (bad i (by omega)).2.2) lg
      have k2 : kap σ C (X (i + 1)) = xor (kap σ C (X i)) true := by
        rw [hXs, kap_op W H ⟨y2.1, y2.2.1⟩ y2.2.2, bo_t.mpr C1]
        rw [← k1]
      have run : ∀ j, j + 1 ≤ g → kap σ C (X (i + 1 + j)) = kap σ C (X (i + 1)) := by
        intro j
        induction j with
        | zero => intro _; rfl
        | succ j ihj =>
          intro hj
          have e0 := ihj (by omega)
          have bj := bad (i + 1 + j) (by omega)
          obtain ⟨_, z2, z3⟩ := hgn _ bj
          have lj := labg _ bj
          have kz : kap σ C (gn (X (i + 1 + j))) = kap σ C (X (i + 1 + j)) := same H _ _ z2 bj.1 (by rw [lj]; exact bj.2.2) lj
          have nC : ¬ C (gn (X (i + 1 + j))).1 (gn (X (i + 1 + j))).2 := fun hC => by
            rcases C2 _ _ hC with h | ⟨h1, h2⟩ | ⟨h1, h2⟩
            · exact z3 h
            · have e : gn (X (i + 1 + j)) = gn (X i) := Prod.ext h1 h2
              rw [e, k1, e0, k2] at kz
              cases hk : kap σ C (X i) <;> rw [hk] at kz <;> exact absurd kz (by decide)
            · have e : gn (X (i + 1 + j)) = X (i + 1) := by rw [hXs]; exact Prod.ext h1 h2
              rcases Nat.eq_zero_or_pos j with j0 | j0
              · subst j0
                exact gne _ bj e
              · refine IH j (by omega) (i + 1) j0 (by omega) ?_
                rw [← lj, e]
          show kap σ C (X (i + 1 + j + 1)) = _
          rw [hXs, kap_op W H ⟨z2.1, z2.2.1⟩ z2.2.2, bo_f.mpr nC, kz, e0]
          cases kap σ C (X (i + 1)) <;> rfl
      have e1 := run (g - 1) (by omega)
      rw [show i + 1 + (g - 1) = i + g by omega, k2, same H _ _ (bad (i + g) (by omega)).1 (bad i (by omega)).1 (by rw [eq]; exact (bad i (by omega)).2.2) eq] at e1
      cases hk : kap σ C (X i) <;> rw [hk] at e1 <;> exact absurd e1 (by decide)
  -- the walk never comes out
  have all : ∀ N, ∀ k, k ≤ N → (Dt σ m (X k) ∧ ¬ Gd (X k).1 (X k).2 ∧ ¬ lab (X k) = -1) ∧ kap σ C0 (X k) = true := by
    intro N
    induction N with
    | zero =>
      intro k hk
      have : k = 0 := by omega
      subst this
      have d0 : Dt σ m (X 0) := by rw [hX0]; exact rev x0 hx0
      refine ⟨⟨d0, fun q => nG ?_, fun q => ?_⟩, kX0⟩
      · rw [hX0] at q; exact sy _ _ q
      · rw [outer H0 _ d0 q] at kX0; exact absurd kX0 (by decide)
    | succ N ih =>
      intro k hk
      by_cases ek : k ≤ N
      · exact ih k ek
      · have e : k = N + 1 := by omega
        subst e
        obtain ⟨bN, kN⟩ := ih N (Nat.le_refl N)
        obtain ⟨_, z2, z3⟩ := hgn _ bN
        have lN := labg _ bN
        have kz : kap σ C0 (gn (X N)) = true := by rw [same H0 _ _ z2 bN.1 (by rw [lN]; exact bN.2.2) lN]; exact kN
        have nC : ¬ C0 (gn (X N)).1 (gn (X N)).2 := fun hC => by
          rcases c02 _ _ hC with h | ⟨h1, h2⟩ | ⟨h1, h2⟩
          · exact z3 h
          · have e : gn (X N) = x0 := Prod.ext h1 h2
            rw [e, kx0] at kz
            exact absurd kz (by decide)
          · have e : gn (X N) = X 0 := by rw [hX0]; exact Prod.ext h1 h2
            rcases Nat.eq_zero_or_pos N with n0 | n0
            · subst n0; exact gne _ bN e
            · refine dis N (fun k hk => (ih k hk).1) N 0 n0 (by omega) ?_
              rw [Nat.zero_add, ← lN, e]
        have dN : Dt σ m (X (N + 1)) := by rw [hXs]; exact rev _ z2
        have kS : kap σ C0 (X (N + 1)) = true := by
          rw [hXs, kap_op W H0 ⟨z2.1, z2.2.1⟩ z2.2.2, bo_f.mpr nC]
          rw [show ((gn (X N)).1, (gn (X N)).2) = gn (X N) from rfl, kz]; rfl
        refine ⟨⟨dN, fun q => z3 ?_, fun q => ?_⟩, kS⟩
        · rw [hXs] at q; exact sy _ _ q
        · rw [outer H0 _ dN q] at kS; exact absurd kS (by decide)
  have bad := fun k => (all k k (Nat.le_refl k)).1
  have exh : ∀ k, ∃ h, h < f ∧ lab (X k) = nI h := fun k => (l2 _ (bad k).1).resolve_left (bad k).2.2
  obtain ⟨i, j, h1, h2, h3⟩ := pig f (fun k => (exh k).choose) (fun k _ => (exh k).choose_spec.1)
  refine dis j (fun k _ => bad k) (j - i) i (by omega) (by omega) ?_
  rw [show i + (j - i) = j by omega, (exh j).choose_spec.2, (exh i).choose_spec.2]
  exact congrArg nI h3.symm
