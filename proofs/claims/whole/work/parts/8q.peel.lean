-- what holds along a spanning set of joins, and passes over triangles, holds along all
theorem xf_pair {r s z : Nat} (hr : r < 9) (hs : s < 9) (ne : r ≠ s) : xf (fun j => bo ((z = r ∧ j = s) ∨ (z = s ∧ j = r))) 9 = xor (bo (z = r)) (bo (z = s)) := by
  by_cases e1 : z = r
  · subst e1
    rw [xf_1 (i := s) 9 hs (fun j _ nj => bo_f.mpr (fun h => by
      rcases h with h | h
      · exact nj h.2
      · exact ne h.1)), bo_t.mpr (Or.inl ⟨rfl, rfl⟩), bo_t.mpr rfl, bo_f.mpr ne]; rfl
  · by_cases e2 : z = s
    · subst e2
      rw [xf_1 (i := r) 9 hr (fun j _ nj => bo_f.mpr (fun h => by
        rcases h with h | h
        · exact ne h.1.symm
        · exact nj h.2)), bo_t.mpr (Or.inr ⟨rfl, rfl⟩), bo_f.mpr e1, bo_t.mpr rfl]; rfl
    · rw [xf_0 9 (fun j _ => bo_f.mpr (fun h => by
        rcases h with h | h
        · exact e1 h.1
        · exact e2 h.1)), bo_f.mpr e1, bo_f.mpr e2]; rfl
theorem bo_xor {P Q : Prop} : bo (¬ (P ↔ Q)) = xor (bo P) (bo Q) := by
  by_cases h : P <;> by_cases k : Q
  · rw [bo_t.mpr h, bo_t.mpr k, bo_f.mpr (fun z => z ⟨fun _ => k, fun _ => h⟩)]; rfl
  · rw [bo_t.mpr h, bo_f.mpr k, bo_t.mpr (fun z => k (z.mp h))]; rfl
  · rw [bo_f.mpr h, bo_t.mpr k, bo_t.mpr (fun z => h (z.mpr k))]; rfl
  · rw [bo_f.mpr h, bo_f.mpr k, bo_f.mpr (fun z => z ⟨fun y => absurd y h, fun y => absurd y k⟩)]; rfl
def spn (σ : mm_S) (m : Nat) (Gd : Nat → Nat → Prop) : Prop := ∀ S : Nat → Prop, (∃ i, rmx m i ∧ S i) → (∀ i j, rmx m i → S i → aj σ i j → Gd i j → S j) → ∀ i, rmx m i → S i
theorem cyc {σ : mm_S} {n m a b : Nat} {Gd : Nat → Nat → Prop} (W : PW σ n m) (sy : ∀ i j, Gd i j → Gd j i) (con : spn σ m Gd) (ha : rmx m a) (hab : aj σ a b) (nb : ¬ Gd a b) : ∃ C, CE σ m C ∧ C a b ∧ ∀ i j, C i j → Gd i j ∨ (i = a ∧ j = b) ∨ (i = b ∧ j = a) := by
  obtain ⟨hb, ab, hba, _⟩ := W.ed ha hab
  have reach := con (fun r => ∃ P : Nat → Nat → Prop, (∀ i j, P i j → P j i) ∧ (∀ i j, P i j → rmx m i ∧ aj σ i j ∧ Gd i j) ∧ ∀ z, z < 9 → xf (fun j => bo (P z j)) 9 = xor (bo (z = a)) (bo (z = r))) ⟨a, ha, fun _ _ => False, fun _ _ h => h.elim, fun _ _ h => h.elim, fun z _ => by
      rw [xf_0 9 (fun j _ => bo_f.mpr (fun h => h))]
      cases bo (z = a) <;> rfl⟩ (fun r r' hr ⟨P, p1, p2, p3⟩ hrr g => by
      obtain ⟨hr', rr, hr'r, _⟩ := W.ed hr hrr
      refine ⟨fun i j => ¬ (P i j ↔ ((i = r ∧ j = r') ∨ (i = r' ∧ j = r))), fun i j h q => h ⟨fun x => ?_, fun x => ?_⟩, fun i j h => ?_, fun z hz => ?_⟩
      · rcases q.mp (p1 i j x) with y | y
        · exact Or.inr ⟨y.2, y.1⟩
        · exact Or.inl ⟨y.2, y.1⟩
      · refine p1 j i (q.mpr ?_)
        rcases x with y | y
        · exact Or.inr ⟨y.2, y.1⟩
        · exact Or.inl ⟨y.2, y.1⟩
      · by_cases x : P i j
        · exact p2 i j x
        · by_cases y : (i = r ∧ j = r') ∨ (i = r' ∧ j = r)
          · rcases y with ⟨rfl, rfl⟩ | ⟨rfl, rfl⟩
            · exact ⟨hr, hrr, g⟩
            · exact ⟨hr', hr'r, sy _ _ g⟩
          · exact absurd ⟨fun k => absurd k x, fun k => absurd k y⟩ h
      · rw [xf_cg 9 (fun j _ => bo_xor), xf_x, p3 z hz, xf_pair hr.1 hr'.1 rr]
        cases bo (z = a) <;> cases bo (z = r) <;> cases bo (z = r') <;> rfl) b hb
  obtain ⟨P, p1, p2, p3⟩ := reach
  refine ⟨fun i j => ¬ (P i j ↔ ((i = a ∧ j = b) ∨ (i = b ∧ j = a))), ⟨fun i j h q => h ⟨fun x => ?_, fun x => ?_⟩, fun i j h => ?_, fun z hz => ?_⟩, fun q => nb (p2 a b (q.mpr (Or.inl ⟨rfl, rfl⟩))).2.2, fun i j h => ?_⟩
  · rcases q.mp (p1 i j x) with y | y
    · exact Or.inr ⟨y.2, y.1⟩
    · exact Or.inl ⟨y.2, y.1⟩
  · refine p1 j i (q.mpr ?_)
    rcases x with y | y
    · exact Or.inr ⟨y.2, y.1⟩
    · exact Or.inl ⟨y.2, y.1⟩
  · by_cases x : P i j
    · exact ⟨(p2 i j x).1, (p2 i j x).2.1⟩
    · by_cases y : (i = a ∧ j = b) ∨ (i = b ∧ j = a)
      · rcases y with ⟨rfl, rfl⟩ | ⟨rfl, rfl⟩
        · exact ⟨ha, hab⟩
        · exact ⟨hb, hba⟩
      · exact absurd ⟨fun k => absurd k x, fun k => absurd k y⟩ h
  · rw [xf_cg 9 (fun j _ => bo_xor), xf_x, p3 z hz, xf_pair ha.1 hb.1 ab]
    cases bo (z = a) <;> cases bo (z = b) <;> rfl
  · by_cases x : P i j
    · exact Or.inl (p2 i j x).2.2
    · by_cases y : (i = a ∧ j = b) ∨ (i = b ∧ j = a)
      · exact Or.inr y
      · exact absurd ⟨fun k => absurd k x, fun k => absurd k y⟩ h
/-- inner faces are triangles -/
def TRf (σ : mm_S) (m : Nat) (B : Nat → Nat → Nat) (lab : Nat × Nat → Int32) : Prop := ∀ x, Dt σ m x → ¬ lab x = -1 → ph B (ph B (ph B x)) = x ∧ ph B x ≠ x ∧ ph B (ph B x) ≠ x
/-- labels of faces -/
def FLl (σ : mm_S) (m : Nat) (B : Nat → Nat → Nat) (f : Nat) (lab : Nat × Nat → Int32) : Prop := f ≤ 42 ∧ (∀ x, Dt σ m x → lab (ph B x) = lab x) ∧ (∀ x, Dt σ m x → lab x = -1 ∨ ∃ g, g < f ∧ lab x = nI g) ∧ ∀ g, g < f → ∃ x, Dt σ m x ∧ lab x = nI g ∧ ∀ y, Dt σ m y → lab y = nI g → ∃ k, y = it (ph B) x k
theorem peel {σ : mm_S} {n m f : Nat} {B : Nat → Nat → Nat} {lab : Nat × Nat → Int32} {Gd : Nat → Nat → Prop} (W : PW σ n m) (hB : BN σ m B) (FL : FLl σ m B f lab) (TR : TRf σ m B lab) (sy : ∀ i j, Gd i j → Gd j i) (con : spn σ m Gd) (out : ∀ x, Dt σ m x → lab x = -1 → Gd x.1 x.2) (tri : ∀ x, Dt σ m x → ¬ lab x = -1 → Gd (ph B x).1 (ph B x).2 → Gd (ph B (ph B x)).1 (ph B (ph B x)).2 → Gd x.1 x.2) : ∀ a b, rmx m a → aj σ a b → Gd a b := by
  obtain ⟨f42, l1, l2, l4⟩ := FL
  intro a b ha hab
  rcases Classical.em (Gd a b) with q | nG
  · exact q
  exfalso
  have hD := fun x h => pn_D W.1 hB x h
  -- bad darts
  have rev : ∀ x : Nat × Nat, Dt σ m x → Dt σ m (x.2, x.1) := fun x hx => by
    obtain ⟨h1, _, h3, _⟩ := W.ed ⟨hx.1, hx.2.1⟩ hx.2.2
    exact ⟨h1.1, h1.2, h3⟩
  have inn : ∀ x : Nat × Nat, Dt σ m x → ¬ Gd x.1 x.2 → ¬ lab x = -1 := fun x hx nx e => nx (out x hx e)
  have stp : ∀ x : Nat × Nat, ∃ y, Dt σ m x ∧ ¬ Gd x.1 x.2 → (y = ph B x ∨ y = ph B (ph B x)) ∧ Dt σ m y ∧ ¬ Gd y.1 y.2 := fun x => by
    by_cases hx : Dt σ m x ∧ ¬ Gd x.1 x.2
    · by_cases g1 : Gd (ph B x).1 (ph B x).2
      · by_cases g2 : Gd (ph B (ph B x)).1 (ph B (ph B x)).2
        · exact absurd (tri x hx.1 (inn x hx.1 hx.2) g1 g2) hx.2
        · exact ⟨_, fun _ => ⟨Or.inr rfl, hD _ (hD _ hx.1), g2⟩⟩
      · exact ⟨_, fun _ => ⟨Or.inl rfl, hD _ hx.1, g1⟩⟩
    · exact ⟨x, fun h => absurd h hx⟩
  obtain ⟨gn, hgn⟩ : ∃ gn : Nat × Nat → Nat × Nat, ∀ x, Dt σ m x ∧ ¬ Gd x.1 x.2 → (gn x = ph B x ∨ gn x = ph B (ph B x)) ∧ Dt σ m (gn x) ∧ ¬ Gd (gn x).1 (gn x).2 := ⟨fun x => (stp x).choose, fun x => (stp x).choose_spec⟩
  -- the walk
  obtain ⟨X, hX0, hXs⟩ : ∃ X : Nat → Nat × Nat, X 0 = (a, b) ∧ ∀ k, X (k + 1) = ((gn (X k)).2, (gn (X k)).1) := ⟨it (fun x => ((gn x).2, (gn x).1)) (a, b), rfl, fun _ => rfl⟩
  have bad : ∀ k, Dt σ m (X k) ∧ ¬ Gd (X k).1 (X k).2 := by
    intro k
    induction k with
    | zero => rw [hX0]; exact ⟨⟨ha.1, ha.2, hab⟩, nG⟩
    | succ k ih =>
      obtain ⟨_, h2, h3⟩ := hgn _ ih
      rw [hXs]
      exact ⟨rev _ h2, fun q => h3 (sy _ _ q)⟩
  have labg : ∀ k, lab (gn (X k)) = lab (X k) := fun k => by
    rcases (hgn _ (bad k)).1 with e | e
    · rw [e]; exact l1 _ (bad k).1
    · rw [e, l1 _ (hD _ (bad k).1)]; exact l1 _ (bad k).1
  have gne : ∀ k, gn (X k) ≠ X k := fun k => by
    obtain ⟨_, t2, t3⟩ := TR _ (bad k).1 (inn _ (bad k).1 (bad k).2)
    rcases (hgn _ (bad k)).1 with e | e
    · rw [e]; exact t2
    · rw [e]; exact t3
  have same : ∀ {C : Nat → Nat → Prop}, CE σ m C → ∀ x y, Dt σ m x → Dt σ m y → ¬ lab x = -1 → lab x = lab y → kap σ C x = kap σ C y := fun {C} H x y hx hy nx e => by
    rcases l2 x hx with h | ⟨g, hg, h⟩
    · exact absurd h nx
    · obtain ⟨z, z1, _, z3⟩ := l4 g hg
      obtain ⟨i, ei⟩ := z3 x hx h
      obtain ⟨j, ej⟩ := z3 y hy (by rw [← e]; exact h)
      rw [ei, ej, kap_it W H hB z1, kap_it W H hB z1]
  have dis : ∀ g i, 1 ≤ g → lab (X (i + g)) ≠ lab (X i) := by
    intro g
    induction g using Nat.strongRecOn with
    | ind g IH =>
      intro i g1 eq
      obtain ⟨_, y2, y3⟩ := hgn _ (bad i)
      have ie : ¬ lab (X i) = -1 := inn _ (bad i).1 (bad i).2
      obtain ⟨C, H, C1, C2⟩ := cyc W sy con ⟨y2.1, y2.2.1⟩ y2.2.2 y3
      have k1 : kap σ C (gn (X i)) = kap σ C (X i) := same H _ _ y2 (bad i).1 (by rw [labg]; exact ie) (labg i)
      have k2 : kap σ C (X (i + 1)) = xor (kap σ C (X i)) true := by
        rw [hXs, kap_op W H ⟨y2.1, y2.2.1⟩ y2.2.2, bo_t.mpr C1]
        rw [← k1]
      have run : ∀ j, j + 1 ≤ g → kap σ C (X (i + 1 + j)) = kap σ C (X (i + 1)) := by
        intro j
        induction j with
        | zero => intro _; rfl
        | succ j ihj =>
          intro hj
          have e0 := ihj (by omega)
          obtain ⟨_, z2, z3⟩ := hgn _ (bad (i + 1 + j))
          have zi : ¬ lab (X (i + 1 + j)) = -1 := inn _ (bad _).1 (bad _).2
          have kz : kap σ C (gn (X (i + 1 + j))) = kap σ C (X (i + 1 + j)) := same H _ _ z2 (bad _).1 (by rw [labg]; exact zi) (labg _)
          have nC : ¬ C (gn (X (i + 1 + j))).1 (gn (X (i + 1 + j))).2 := fun hC => by
            rcases C2 _ _ hC with h | ⟨h1, h2⟩ | ⟨h1, h2⟩
            · exact z3 h
            · have e : gn (X (i + 1 + j)) = gn (X i) := Prod.ext h1 h2
              rw [e, k1, e0, k2] at kz
              cases hk : kap σ C (X i) <;> rw [hk] at kz <;> exact absurd kz (by decide)
            · have e : gn (X (i + 1 + j)) = X (i + 1) := by rw [hXs]; exact Prod.ext h1 h2
              rcases Nat.eq_zero_or_pos j with j0 | j0
              · subst j0
                exact gne (i + 1) e
              · refine IH j (by omega) (i + 1) j0 ?_
                rw [← labg, e]
          show kap σ C (X (i + 1 + j + 1)) = _
          rw [hXs, kap_op W H ⟨z2.1, z2.2.1⟩ z2.2.2, bo_f.mpr nC, kz, e0]
          cases kap σ C (X (i + 1)) <;> rfl
      have e1 := run (g - 1) (by omega)
      rw [show i + 1 + (g - 1) = i + g by omega, k2, same H _ _ (bad (i + g)).1 (bad i).1 (by rw [eq]; exact ie) eq] at e1
      cases hk : kap σ C (X i) <;> rw [hk] at e1 <;> exact absurd e1 (by decide)
  -- too many faces
  have exh : ∀ k, ∃ h, h < f ∧ lab (X k) = nI h := fun k => (l2 _ (bad k).1).resolve_left (inn _ (bad k).1 (bad k).2)
  obtain ⟨i, j, h1, h2, h3⟩ := pig f (fun k => (exh k).choose) (fun k _ => (exh k).choose_spec.1)
  refine dis (j - i) i (by omega) ?_
  rw [show i + (j - i) = j by omega, (exh j).choose_spec.2, (exh i).choose_spec.2]
  exact congrArg nI h3.symm
