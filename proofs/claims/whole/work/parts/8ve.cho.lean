-- there is a choice of straight rooms
section CHO
variable {rm : Nat → Prop} {nr : Nat → Nat → Prop} {Bp : Nat → Nat → Nat} {f : Nat} {A B C : Nat → Nat} {lb : Nat → Nat → Nat}
noncomputable def dgr (nr : Nat → Nat → Prop) (r : Nat) : Nat := ct (nr r) 13
theorem GP.sj (G : GP rm nr Bp) {u w : Nat} (h : nr u w) : ∃ v, nr u v ∧ Bp u v = w :=
  G.tv u (fun w => ∃ v, nr u v ∧ Bp u v = w) ⟨Bp u w, G.nx u w h, w, h, rfl⟩ (fun v hv _ => ⟨v, hv, rfl⟩) w h
theorem ct_Bp (G : GP rm nr Bp) (u : Nat) (P : Nat → Prop) : ct (fun v => nr u v ∧ P (Bp u v)) 13 = ct (fun v => nr u v ∧ P v) 13 :=
  ct_re (F := Bp u) 13 13 (fun v _ h => ⟨(G.lt (G.nx u v h.1)).2, G.nx u v h.1, h.2⟩) (fun v w _ _ h h' e => G.ij u v w h.1 h'.1 e) (fun w _ h => by
    obtain ⟨v, hv, e⟩ := G.sj h.1
    exact ⟨v, (G.lt hv).2, ⟨hv, by rw [e]; exact h.2⟩, e⟩)
/-- three darts to a face -/
theorem three (G : GP rm nr Bp) (F : FA rm nr Bp f A B C lb) {Z : Nat → Prop} (hZ : ∀ z, Z z → rm z) : 3 * ct (inZ A B C Z) f = pc (fun r v => Z r ∧ nr r v ∧ Z v ∧ Z (Bp r v)) := by
  have e1 : pc (fun r v => Z r ∧ nr r v ∧ Z v ∧ Z (Bp r v)) = su (fun p => su (fun g => ic (inZ A B C Z g ∧ fdt A B C g (p % 9) (p / 9))) f) 81 := su_cg 81 (fun p _ => by
    show ic _ = _
    by_cases q : Z (p / 9) ∧ nr (p / 9) (p % 9) ∧ Z (p % 9) ∧ Z (Bp (p / 9) (p % 9))
    · obtain ⟨q1, q2, q3, q4⟩ := q
      obtain ⟨g, hg, h⟩ := F.ex (p % 9) (p / 9) (hZ _ q3) (hZ _ q1) (G.sy _ _ q2) (hZ _ q4)
      have h2 := (F.nx G hg h).2.2.2.1
      have iz : inZ A B C Z g := by
        have t := G.tr (p / 9) (p % 9) (hZ _ q1) q2
        have fb := (F.ab g hg).2.2.2.2
        rcases h with ⟨x, y⟩ | ⟨x, y⟩ | ⟨x, y⟩
        · rw [← x, ← y] at fb
          exact ⟨x ▸ q3, y ▸ q1, fb ▸ q4⟩
        · rcases h2 with ⟨u, w⟩ | ⟨u, w⟩ | ⟨u, w⟩
          · exact ⟨u ▸ q1, x ▸ q3, y ▸ q1⟩
          · exact absurd (x.trans u.symm) (fun z => (G.nd _ _ q2).1 z.symm)
          · exact ⟨w ▸ q4, x ▸ q3, y ▸ q1⟩
        · rcases h2 with ⟨u, w⟩ | ⟨u, w⟩ | ⟨u, w⟩
          · exact ⟨y ▸ q1, w ▸ q4, x ▸ q3⟩
          · exact ⟨y ▸ q1, u ▸ q1, x ▸ q3⟩
          · exact absurd (x.trans u.symm) (fun z => (G.nd _ _ q2).1 z.symm)
      rw [ic_t ⟨q1, q2, q3, q4⟩, su_1 (i := g) f hg (fun j hj nj => ic_f (fun z => nj ((F.lb j hj _ _ z.2).symm.trans (F.lb g hg _ _ h)))), ic_t ⟨iz, h⟩]
    · have no : ∀ g, g < f → ¬ (inZ A B C Z g ∧ fdt A B C g (p % 9) (p / 9)) := fun g hg ⟨z1, z2⟩ => by
        obtain ⟨n1, n2, n3, n4, n5⟩ := F.nx G hg z2
        have zz : ∀ a b, fdt A B C g a b → Z a := fun a b h => by
          rcases h with ⟨x, _⟩ | ⟨x, _⟩ | ⟨x, _⟩
          · rw [x]; exact z1.1
          · rw [x]; exact z1.2.1
          · rw [x]; exact z1.2.2
        exact q ⟨zz _ _ n4, G.sy _ _ n3, zz _ _ z2, zz _ _ n5⟩
      rw [ic_f q, su_z f (fun g hg => ic_f (no g hg))])
  rw [e1, su_sw]
  unfold ct
  rw [← su_mul]
  refine su_cg f (fun g hg => ?_)
  by_cases q : inZ A B C Z g
  · rw [ic_t q]
    have h0 : fdt A B C g (A g) (B g) := Or.inl ⟨rfl, rfl⟩
    obtain ⟨n1, n2, n3, n4, n5⟩ := F.nx G hg h0
    have x1 := G.r9 _ n1
    have x2 := G.r9 _ n2
    have x3 := G.r9 _ (F.ab g hg).2.2.1
    have y1 := (G.nd _ _ n3).1
    have y2 := (G.nd _ _ (F.nx G hg n4).2.2.1).1
    have y3 := (G.nd _ _ (F.nx G hg n5).2.2.1).1
    rw [(F.ab g hg).2.2.2.2] at y2 y3
    have d1 := p9_d (a := B g) x1
    have d2 := p9_d (a := C g) x2
    have d3 := p9_d (a := A g) x3
    have := ct_t (P := fun p => inZ A B C Z g ∧ fdt A B C g (p % 9) (p / 9)) (a := 9 * B g + A g) (b := 9 * C g + B g) (c := 9 * A g + C g) (n := 81) (by omega) (by omega) (by omega) (by omega) (by omega) (by omega) (fun j hj => ⟨fun ⟨_, h⟩ => by
        rcases h with ⟨h, h'⟩ | ⟨h, h'⟩ | ⟨h, h'⟩
        · left; omega
        · right; left; omega
        · right; right; omega, fun h => ⟨q, by
        rcases h with h | h | h
        · exact Or.inl ⟨by rw [h]; exact d1.2, by rw [h]; exact d1.1⟩
        · exact Or.inr (Or.inl ⟨by rw [h]; exact d2.2, by rw [h]; exact d2.1⟩)
        · exact Or.inr (Or.inr ⟨by rw [h]; exact d3.2, by rw [h]; exact d3.1⟩)⟩⟩)
    unfold ct at this
    rw [this]
  · rw [ic_f q, su_z 81 (fun p _ => ic_f (fun z => q z.1))]
theorem pcZ (G : GP rm nr Bp) {Z : Nat → Prop} (hZ : ∀ z, Z z → rm z) (P : Nat → Nat → Prop) : pc (fun r v => Z r ∧ nr r v ∧ Z v ∧ P r v) = sz Z (fun r => ct (fun v => nr r v ∧ Z v ∧ P r v) 13) := by
  rw [pc_su]
  refine su_cg 9 (fun r _ => ?_)
  by_cases z : Z r
  · rw [ic_t z, Nat.one_mul]
    show _ = su _ (9 + 4)
    rw [su_cut, su_z 4 (fun i _ => ic_f (fun q => by have := G.r9 _ (hZ _ q.2.1); omega))]
    exact ct_cg 9 (fun v _ => ⟨fun q => q.2, fun q => ⟨z, q⟩⟩)
  · rw [ic_f z, Nat.zero_mul]
    exact ct_z 9 (fun v _ q => z q.1)
/-- corners around a room by kind -/
theorem corn (G : GP rm nr Bp) (Z : Nat → Prop) (r : Nat) : dgr nr r + ct (fun v => nr r v ∧ Z v ∧ Z (Bp r v)) 13 = 2 * ct (fun v => nr r v ∧ Z v) 13 + ct (fun v => nr r v ∧ ¬ Z v ∧ ¬ Z (Bp r v)) 13 := by
  have h1 : dgr nr r = _ := ct_sp (P := nr r) Z 13
  have h2 := ct_sp (P := fun v => nr r v ∧ Z v) (fun v => Z (Bp r v)) 13
  have h3 := ct_sp (P := fun v => nr r v ∧ ¬ Z v) (fun v => Z (Bp r v)) 13
  have h4 := ct_Bp G r Z
  have h5 := ct_sp (P := fun v => nr r v ∧ Z (Bp r v)) Z 13
  have c1 := ct_cg (P := fun v => (nr r v ∧ Z v) ∧ Z (Bp r v)) (Q := fun v => nr r v ∧ Z v ∧ Z (Bp r v)) 13 (fun v _ => ⟨fun q => ⟨q.1.1, q.1.2, q.2⟩, fun q => ⟨⟨q.1, q.2.1⟩, q.2.2⟩⟩)
  have c2 := ct_cg (P := fun v => (nr r v ∧ Z (Bp r v)) ∧ Z v) (Q := fun v => nr r v ∧ Z v ∧ Z (Bp r v)) 13 (fun v _ => ⟨fun q => ⟨q.1.1, q.2, q.1.2⟩, fun q => ⟨⟨q.1, q.2.2⟩, q.2.1⟩⟩)
  have c3 := ct_cg (P := fun v => (nr r v ∧ ¬ Z v) ∧ Z (Bp r v)) (Q := fun v => (nr r v ∧ Z (Bp r v)) ∧ ¬ Z v) 13 (fun v _ => ⟨fun q => ⟨⟨q.1.1, q.2⟩, q.1.2⟩, fun q => ⟨⟨q.1.1, q.2⟩, q.1.2⟩⟩)
  have c4 := ct_cg (P := fun v => (nr r v ∧ ¬ Z v) ∧ ¬ Z (Bp r v)) (Q := fun v => nr r v ∧ ¬ Z v ∧ ¬ Z (Bp r v)) 13 (fun v _ => ⟨fun q => ⟨q.1.1, q.1.2, q.2⟩, fun q => ⟨⟨q.1, q.2.1⟩, q.2.2⟩⟩)
  omega
theorem sz_add {Z : Nat → Prop} {c e : Nat → Nat} : sz Z (fun r => c r + e r) = sz Z c + sz Z e := by
  unfold sz
  rw [← su_add]
  exact su_cg 9 (fun r _ => Nat.mul_add _ _ _)
theorem sz_mul {Z : Nat → Prop} {c : Nat → Nat} {k : Nat} : sz Z (fun r => k * c r) = k * sz Z c := by
  unfold sz
  rw [← su_mul]
  exact su_cg 9 (fun r _ => by show _ = _; rw [Nat.mul_left_comm])
theorem sz_cg {Z : Nat → Prop} {c e : Nat → Nat} (h : ∀ r, r < 9 → Z r → c r = e r) : sz Z c = sz Z e := su_cg 9 (fun r hr => by
  by_cases z : Z r
  · show ic (Z r) * c r = ic (Z r) * e r
    rw [h r hr z]
  · show ic (Z r) * c r = ic (Z r) * e r
    rw [ic_f z, Nat.zero_mul, Nat.zero_mul])
theorem sz_1 {Z : Nat → Prop} : sz Z (fun _ => 1) = ct Z 9 := su_cg 9 (fun r _ => Nat.mul_one _)
/-- all corners together -/
theorem corns (G : GP rm nr Bp) (F : FA rm nr Bp f A B C lb) {Z : Nat → Prop} (hZ : ∀ z, Z z → rm z) : sz Z (dgr nr) + 3 * ct (inZ A B C Z) f = 2 * pc (fun r v => Z r ∧ nr r v ∧ Z v ∧ True) + ct (fun p => OO nr Bp Z (p / 13) (p % 13)) 117 := by
  have h1 := three G F hZ
  rw [pcZ G hZ (fun r v => Z (Bp r v))] at h1
  have h2 : ct (fun p => OO nr Bp Z (p / 13) (p % 13)) 117 = sz Z (fun r => ct (fun v => nr r v ∧ ¬ Z v ∧ ¬ Z (Bp r v)) 13) := by
    have : ct (fun p => OO nr Bp Z (p / 13) (p % 13)) 117 = su (fun a => ct (OO nr Bp Z a) 13) 9 := su_flat (h := fun a b => ic (OO nr Bp Z a b)) (by decide) 9
    rw [this]
    refine su_cg 9 (fun r _ => ?_)
    by_cases z : Z r
    · rw [ic_t z, Nat.one_mul]
      exact ct_cg 13 (fun v _ => ⟨fun q => q.2, fun q => ⟨z, q⟩⟩)
    · rw [ic_f z, Nat.zero_mul]
      exact ct_z 13 (fun v _ q => z q.1)
  rw [pcZ G hZ (fun _ _ => True), h2, h1, ← sz_add, ← sz_mul, ← sz_add]
  refine sz_cg (fun r _ _ => ?_)
  have := corn G Z r
  have e : ct (fun v => nr r v ∧ Z v ∧ True) 13 = ct (fun v => nr r v ∧ Z v) 13 := ct_cg 13 (fun v _ => ⟨fun q => ⟨q.1, q.2.1⟩, fun q => ⟨q.1, q.2, trivial⟩⟩)
  rw [e]; exact this
theorem dlt (G : GP rm nr Bp) (F : FA rm nr Bp f A B C lb) : ∀ (N : Nat) (Z : Nat → Prop), (∀ z, Z z → rm z) → ct Z 9 ≤ N → ct (inZ A B C Z) f + 4 * ct Z 9 ≤ sz Z (dgr nr) := by
  intro N
  induction N with
  | zero =>
    intro Z hZ h0
    have no : ∀ z, ¬ Z z := fun z hz => by have := ct_ge 9 (G.r9 z (hZ z hz)) hz; omega
    rw [ct_z f (fun g _ q => no _ q.1)]
    omega
  | succ N ih =>
    intro Z hZ hN
    by_cases ne : ∃ z, Z z
    · by_cases c : con Z (fun r v => Z r ∧ nr r v ∧ Z v ∧ True)
      · have h1 := collapse G F hZ (ct (inZ A B C Z) f) (inZ A B C Z) (fun r v => Z r ∧ nr r v ∧ Z v ∧ True) rfl (fun a b h => ⟨h.2.2.1, G.sy _ _ h.2.1, h.1, trivial⟩) (fun a b h => ⟨h.1, (G.nd _ _ h.2.1).1⟩) (fun g hg iz a b h => ?_) c
        · have h2 := corns G F hZ
          have h3 := rng4 G hZ ne
          omega
        · have zz : ∀ a b, fdt A B C g a b → Z a := fun a b h => by
            rcases h with ⟨x, _⟩ | ⟨x, _⟩ | ⟨x, _⟩
            · rw [x]; exact iz.1
            · rw [x]; exact iz.2.1
            · rw [x]; exact iz.2.2
          have n := F.nx G hg h
          exact ⟨zz _ _ h, n.2.2.1, zz _ _ n.2.2.2.1, trivial⟩
      · obtain ⟨S, ⟨z1, hz1, s1⟩, cl, z2, hz2, s2⟩ : ∃ S : Nat → Prop, (∃ z, Z z ∧ S z) ∧ (∀ a b, S a → (Z a ∧ nr a b ∧ Z b ∧ True) → S b) ∧ ∃ z, Z z ∧ ¬ S z := by
          refine Classical.not_not.mp (fun q => c (fun S h1 h2 z hz => Classical.not_not.mp (fun nz => q ⟨S, h1, h2, z, hz, nz⟩)))
        have i1 := ih (fun x => Z x ∧ S x) (fun z h => hZ z h.1) (by
          have h1 := ct_ins (P := Z) 9 (G.r9 z2 (hZ z2 hz2)) hz2
          have h2 := ct_le (P := fun x => Z x ∧ S x) (Q := fun j => Z j ∧ j ≠ z2) 9 (fun i _ h => ⟨h.1, fun e => s2 (e ▸ h.2)⟩)
          omega)
        have i2 := ih (fun x => Z x ∧ ¬ S x) (fun z h => hZ z h.1) (by
          have h1 := ct_ins (P := Z) 9 (G.r9 z1 (hZ z1 hz1)) hz1
          have h2 := ct_le (P := fun x => Z x ∧ ¬ S x) (Q := fun j => Z j ∧ j ≠ z1) 9 (fun i _ h => ⟨h.1, fun e => h.2 (e ▸ s1)⟩)
          omega)
        have e1 := ct_sp (P := Z) S 9
        have e2 : sz Z (dgr nr) = sz (fun x => Z x ∧ S x) (dgr nr) + sz (fun x => Z x ∧ ¬ S x) (dgr nr) := by
          unfold sz
          rw [← su_add]
          refine su_cg 9 (fun r _ => ?_)
          show ic (Z r) * dgr nr r = ic (Z r ∧ S r) * dgr nr r + ic (Z r ∧ ¬ S r) * dgr nr r
          rw [← Nat.add_mul, ← ic_sp]
        have e3 : ct (inZ A B C Z) f ≤ ct (inZ A B C (fun x => Z x ∧ S x)) f + ct (inZ A B C (fun x => Z x ∧ ¬ S x)) f := by
          unfold ct
          rw [← su_add]
          refine su_le f (fun g hg => ?_)
          by_cases q : inZ A B C Z g
          · have h0 : fdt A B C g (A g) (B g) := Or.inl ⟨rfl, rfl⟩
            obtain ⟨n1, n2, n3, n4, n5⟩ := F.nx G hg h0
            have n6 := (F.nx G hg n4).2.2.1
            rw [(F.ab g hg).2.2.2.2] at n6
            rw [ic_t q]
            have st : ∀ a b, Z a → Z b → nr a b → (S a ↔ S b) := fun a b za zb h => ⟨fun s => cl a b s ⟨za, h, zb, trivial⟩, fun s => cl b a s ⟨zb, G.sy _ _ h, za, trivial⟩⟩
            have x1 := st _ _ q.1 q.2.1 n3
            have x2 := st _ _ q.2.1 q.2.2 n6
            by_cases s : S (A g)
            · rw [ic_t (show inZ A B C (fun x => Z x ∧ S x) g from ⟨⟨q.1, s⟩, ⟨q.2.1, x1.mp s⟩, ⟨q.2.2, x2.mp (x1.mp s)⟩⟩)]; omega
            · rw [ic_t (show inZ A B C (fun x => Z x ∧ ¬ S x) g from ⟨⟨q.1, s⟩, ⟨q.2.1, fun t => s (x1.mpr t)⟩, ⟨q.2.2, fun t => s (x1.mpr (x2.mpr t))⟩⟩)]; omega
          · rw [ic_f q]; exact Nat.zero_le _
        omega
    · have no : ∀ z, ¬ Z z := fun z hz => ne ⟨z, hz⟩
      rw [ct_z f (fun g _ q => no _ q.1), ct_z 9 (fun z _ => no z)]
      omega
/-- what spans and passes over triangles holds along all joins -/
def PLa (rm : Nat → Prop) (nr : Nat → Nat → Prop) (Bp : Nat → Nat → Nat) : Prop := ∀ Gd : Nat → Nat → Prop, (∀ i j, Gd i j → Gd j i) → (∀ S : Nat → Prop, (∃ i, rm i ∧ S i) → (∀ i j, rm i → S i → rm j → nr i j → Gd i j → S j) → ∀ i, rm i → S i) → (∀ a b, rm a → rm b → nr a b → rm (Bp b a) → Gd b (Bp b a) → Gd (Bp b a) a → Gd a b) → ∀ a b, rm a → rm b → nr a b → Gd a b
theorem euler (G : GP rm nr Bp) (F : FA rm nr Bp f A B C lb) (P : PLa rm nr Bp) (ne : ∃ r, rm r) : pc (fun r v => rm r ∧ nr r v ∧ rm v ∧ True) + 2 ≤ 2 * f + 2 * ct rm 9 := by
  have hE : ∀ a b, (rm a ∧ nr a b ∧ rm b ∧ True) → rm a ∧ a ≠ b := fun a b h => ⟨h.1, (G.nd _ _ h.2.1).1⟩
  have sy : ∀ a b, (rm a ∧ nr a b ∧ rm b ∧ True) → (rm b ∧ nr b a ∧ rm a ∧ True) := fun a b h => ⟨h.2.2.1, G.sy _ _ h.2.1, h.1, trivial⟩
  obtain ⟨r0, hr0⟩ := ne
  obtain ⟨T, t1, t2, t3, t4⟩ := tree_ex (Z := rm) (E := fun r v => rm r ∧ nr r v ∧ rm v ∧ True) G.r9 sy hE (fun S h1 h2 => G.rc S h1 (fun a b ha sa hb hab => h2 a b sa ⟨ha, hab, hb, trivial⟩)) (ct_ge 9 (G.r9 r0 hr0) hr0)
  have grow : ∀ (N : Nat) (E : Nat → Nat → Prop), ct (fun g => ¬ ∀ a b, fdt A B C g a b → E a b) f ≤ N → (∀ a b, E a b → E b a) → (∀ a b, E a b → (rm a ∧ nr a b ∧ rm b ∧ True)) → con rm E → pc (fun r v => rm r ∧ nr r v ∧ rm v ∧ True) ≤ pc E + 2 * N := by
    intro N
    induction N with
    | zero =>
      intro E h0 e1 e2 c
      have all := P E e1 (fun S hS cl => c S hS (fun a b sa hab => cl a b (e2 a b hab).1 sa (e2 a b hab).2.2.1 (e2 a b hab).2.1 hab)) (fun a b ha hb hab hc _ _ => by
        obtain ⟨g, hg, h⟩ := F.ex a b ha hb hab hc
        refine Classical.not_not.mp (fun q => ?_)
        have := ct_ge (P := fun g => ¬ ∀ a b, fdt A B C g a b → E a b) f hg (fun z => q (z a b h))
        omega)
      exact Nat.le_trans (pc_le (fun a b h => all a b h.1 h.2.2.1 h.2.1)) (Nat.le_add_right _ _)
    | succ N ih =>
      intro E hN e1 e2 c
      by_cases all : ∀ a b, (rm a ∧ nr a b ∧ rm b ∧ True) → E a b
      · exact Nat.le_trans (pc_le all) (Nat.le_add_right _ _)
      · obtain ⟨a, b, ra, rb, nab, rc, g1, g2, ng⟩ : ∃ a b, rm a ∧ rm b ∧ nr a b ∧ rm (Bp b a) ∧ E b (Bp b a) ∧ E (Bp b a) a ∧ ¬ E a b := by
          refine Classical.not_not.mp (fun q => all ?_)
          have := P E e1 (fun S hS cl => c S hS (fun a b sa hab => cl a b (e2 a b hab).1 sa (e2 a b hab).2.2.1 (e2 a b hab).2.1 hab)) (fun a b ha hb hab hc h1 h2 => Classical.not_not.mp (fun z => q ⟨a, b, ha, hb, hab, hc, h1, h2, z⟩))
          exact fun a b h => this a b h.1 h.2.2.1 h.2.1
        obtain ⟨g, hg, h⟩ := F.ex a b ra rb nab rc
        have i := ih (fun x y => E x y ∨ (x = a ∧ y = b) ∨ (x = b ∧ y = a)) (by
            have h1 := ct_ins (P := fun g => ¬ ∀ a b, fdt A B C g a b → E a b) f hg (fun z => ng (z a b h))
            have h2 := ct_le (P := fun g => ¬ ∀ x y, fdt A B C g x y → (E x y ∨ (x = a ∧ y = b) ∨ (x = b ∧ y = a))) (Q := fun j => (¬ ∀ a b, fdt A B C j a b → E a b) ∧ j ≠ g) f (fun j hj q => ⟨fun z => q (fun x y k => Or.inl (z x y k)), fun e => q (fun x y k => by
              subst e
              obtain ⟨_, _, _, f2, f3⟩ := F.nx G hj h
              have lx := F.lb j hj
              -- the three darts of this face
              have only : (x = a ∧ y = b) ∨ (x = b ∧ y = Bp b a) ∨ (x = Bp b a ∧ y = a) := by
                have fb := (F.ab j hj).2.2.2.2
                have t := G.tr (B j) (A j) (F.ab j hj).2.1 (G.sy _ _ (F.ab j hj).2.2.2.1)
                rw [fb] at t
                rcases h with ⟨p1, p2⟩ | ⟨p1, p2⟩ | ⟨p1, p2⟩
                · have e : Bp b a = C j := by rw [p1, p2]; exact fb
                  rw [e, p1, p2]; exact k
                · have e : Bp b a = A j := by rw [p1, p2]; exact t.1
                  rw [e, p1, p2]
                  rcases k with k | k | k
                  · exact Or.inr (Or.inr k)
                  · exact Or.inl k
                  · exact Or.inr (Or.inl k)
                · have e : Bp b a = B j := by rw [p1, p2]; exact t.2
                  rw [e, p1, p2]
                  rcases k with k | k | k
                  · exact Or.inr (Or.inl k)
                  · exact Or.inr (Or.inr k)
                  · exact Or.inl k
              rcases only with o | o | o
              · exact Or.inr (Or.inl o)
              · rw [o.1, o.2]; exact Or.inl g1
              · rw [o.1, o.2]; exact Or.inl g2)⟩)
            omega) (fun x y k => by
            rcases k with k | k | k
            · exact Or.inl (e1 _ _ k)
            · exact Or.inr (Or.inr ⟨k.2, k.1⟩)
            · exact Or.inr (Or.inl ⟨k.2, k.1⟩)) (fun x y k => by
            rcases k with k | ⟨rfl, rfl⟩ | ⟨rfl, rfl⟩
            · exact e2 _ _ k
            · exact ⟨ra, nab, rb, trivial⟩
            · exact ⟨rb, G.sy _ _ nab, ra, trivial⟩) (fun S hS cl => c S hS (fun x y sx k => cl x y sx (Or.inl k)))
        have := pc_2l (E := E) (E' := fun x y => E x y ∨ (x = a ∧ y = b) ∨ (x = b ∧ y = a)) (a := a) (b := b) (fun x y k => k)
        omega
  have := grow f T (ct_n f) t1 t2 t3
  omega
/-- at most four corners between two sides -/
theorem oo4 (G : GP rm nr Bp) : ct (fun p => OO nr Bp rm (p / 13) (p % 13)) 117 ≤ 4 := by
  have sid : ∀ r v, OO nr Bp rm r v → ∃ s, s < 4 ∧ v = 9 + s ∧ Bp r v = 9 + (s + 1) % 4 := fun r v ⟨h1, h2, h3, h4⟩ => by
    have a := (G.nd v r (G.sy _ _ h2)).2.resolve_left h3
    have b := (G.nd _ r (G.sy _ _ (G.nx r v h2))).2.resolve_left h4
    have := G.so r (v - 9) (Bp r v - 9) h1 (by omega) (by omega) (by rw [show 9 + (v - 9) = v by omega]; exact h2) (by rw [show 9 + (v - 9) = v by omega]; omega)
    exact ⟨v - 9, by omega, by omega, by omega⟩
  have e : ct (fun p => OO nr Bp rm (p / 13) (p % 13)) 117 = ct (fun s => ∃ p, p < 117 ∧ OO nr Bp rm (p / 13) (p % 13) ∧ p % 13 - 9 = s) 4 := ct_re (F := fun p => p % 13 - 9) 117 4 (fun p hp h => by
      obtain ⟨s, s4, e, _⟩ := sid _ _ h
      exact ⟨by show p % 13 - 9 < 4; omega, p, hp, h, rfl⟩) (fun p q hp hq h k e => by
      obtain ⟨s, s4, e1, e2⟩ := sid _ _ h
      obtain ⟨t, t4, e3, e4⟩ := sid _ _ k
      have e' : p % 13 - 9 = q % 13 - 9 := e
      have st : s = t := by omega
      have vv : p % 13 = q % 13 := by omega
      have t1 := (G.tr _ _ h.1 h.2.1).2
      have t2 := (G.tr _ _ k.1 k.2.1).2
      rw [e2] at t1
      rw [e4, ← vv, ← st, t1] at t2
      omega) (fun s _ ⟨p, hp, h, e⟩ => ⟨p, hp, h, e⟩)
  rw [e]
  exact ct_n 4
/-- the straight rooms: each room just so often that four corners are left -/
theorem choice_ex (G : GP rm nr Bp) (F : FA rm nr Bp f A B C lb) (P : PLa rm nr Bp) (ne : ∃ r, rm r) : ∃ st : Nat → Nat, (∀ g, g < f → st g = A g ∨ st g = B g ∨ st g = C g) ∧ ∀ r, rm r → ct (fun g => st g = r) f + 4 = dgr nr r := by
  have d4 : ∀ r, rm r → 4 ≤ dgr nr r := fun r hr => by
    have r9 := G.r9 r hr
    have := dlt G F 1 (fun x => x = r) (fun z e => e ▸ hr) (by rw [ct_u (P := fun x => x = r) (i := r) 9 r9 rfl (fun j _ e => e)]; exact Nat.le_refl 1)
    rw [ct_u (P := fun x => x = r) (i := r) 9 r9 rfl (fun j _ e => e)] at this
    have e : sz (fun x => x = r) (dgr nr) = dgr nr r := by
      unfold sz
      rw [su_1 (i := r) 9 r9 (fun j _ nj => by rw [ic_f nj, Nat.zero_mul]), ic_t rfl, Nat.one_mul]
    omega
  obtain ⟨cap, hc⟩ : ∃ cap : Nat → Nat, cap = fun r => ic (rm r) * (dgr nr r - 4) := ⟨_, rfl⟩
  have hz : ∀ Z, sz Z cap + 4 * ct (fun x => Z x ∧ rm x) 9 = sz (fun x => Z x ∧ rm x) (dgr nr) := fun Z => by
    rw [← sz_1, ← sz_mul]
    unfold sz
    rw [← su_add]
    refine su_cg 9 (fun r _ => ?_)
    show ic (Z r) * cap r + ic (Z r ∧ rm r) * (4 * 1) = ic (Z r ∧ rm r) * dgr nr r
    rw [hc]
    by_cases z : Z r
    · by_cases k : rm r
      · have := d4 r k
        show ic (Z r) * (ic (rm r) * (dgr nr r - 4)) + _ = _
        rw [ic_t z, ic_t k, ic_t ⟨z, k⟩]; omega
      · show ic (Z r) * (ic (rm r) * (dgr nr r - 4)) + _ = _
        rw [ic_f k, ic_f (P := Z r ∧ rm r) (fun q => k q.2)]; omega
    · show ic (Z r) * (ic (rm r) * (dgr nr r - 4)) + _ = _
      rw [ic_f z, ic_f (P := Z r ∧ rm r) (fun q => z q.1)]; omega
  obtain ⟨st, s1, s2⟩ := hall f cap (fun g hg => ⟨G.r9 _ (F.ab g hg).1, G.r9 _ (F.ab g hg).2.1, G.r9 _ (F.ab g hg).2.2.1⟩) (fun Z => by
    have h1 := dlt G F 9 (fun x => Z x ∧ rm x) (fun z h => h.2) (ct_n 9)
    have h2 := hz Z
    have h3 : ct (inZ A B C Z) f = ct (inZ A B C (fun x => Z x ∧ rm x)) f := ct_cg f (fun g hg => ⟨fun q => ⟨⟨q.1, (F.ab g hg).1⟩, ⟨q.2.1, (F.ab g hg).2.1⟩, ⟨q.2.2, (F.ab g hg).2.2.1⟩⟩, fun q => ⟨q.1.1, q.2.1.1, q.2.2.1⟩⟩)
    omega)
  -- all is used up
  have tot : su (fun r => ct (fun g => st g = r) f) 9 = f := by
    show su (fun r => su (fun g => ic (st g = r)) f) 9 = f
    rw [su_sw, su_cg f (g := fun _ => 1) (fun g hg => by
      have r9 : st g < 9 := by
        obtain ⟨a1, a2, a3, _⟩ := F.ab g hg
        rcases s1 g hg with e | e | e
        · rw [e]; exact G.r9 _ a1
        · rw [e]; exact G.r9 _ a2
        · rw [e]; exact G.r9 _ a3
      rw [su_1 (i := st g) 9 r9 (fun j _ nj => ic_f (fun z => nj z.symm)), ic_t rfl])]
    have : ∀ n, su (fun _ => 1) n = n := fun n => by
      induction n with
      | zero => rfl
      | succ n ih => show su (fun _ => 1) n + 1 = n + 1; rw [ih]
    exact this f
  have capT : su cap 9 ≤ f := by
    have h1 := hz (fun _ => True)
    have e0 : sz (fun _ => True) cap = su cap 9 := su_cg 9 (fun r _ => by show ic True * cap r = cap r; rw [ic_t trivial, Nat.one_mul])
    have e1 : ct (fun x => True ∧ rm x) 9 = ct rm 9 := ct_cg 9 (fun x _ => ⟨fun q => q.2, fun q => ⟨trivial, q⟩⟩)
    have e2 : sz (fun x => True ∧ rm x) (dgr nr) = sz rm (dgr nr) := su_cg 9 (fun r _ => by
      show ic (True ∧ rm r) * dgr nr r = ic (rm r) * dgr nr r
      rw [ic_cg (show (True ∧ rm r) ↔ rm r from ⟨fun q => q.2, fun q => ⟨trivial, q⟩⟩)])
    have h2 := corns G F (Z := rm) (fun z h => h)
    have h3 := euler G F P ne
    have h4 := oo4 G
    have h5 : ct (inZ A B C rm) f = f := by
      have : ct (inZ A B C rm) f = ct (fun _ => True) f := ct_cg f (fun g hg => ⟨fun _ => trivial, fun _ => ⟨(F.ab g hg).1, (F.ab g hg).2.1, (F.ab g hg).2.2.1⟩⟩)
      rw [this]
      have : ∀ n, ct (fun _ => True) n = n := fun n => by
        induction n with
        | zero => rfl
        | succ n ih => show ct (fun _ => True) n + ic True = n + 1; rw [ih, ic_t trivial]
      exact this f
    rw [e0, e1, e2] at h1
    omega
  have eq := su_eq 9 s2 (by rw [tot]; exact capT)
  refine ⟨st, s1, fun r hr => ?_⟩
  have := eq r (G.r9 r hr)
  have h4 := d4 r hr
  have e : cap r = dgr nr r - 4 := by rw [hc]; show ic (rm r) * _ = _; rw [ic_t hr, Nat.one_mul]
  show ct (fun g => st g = r) f + 4 = _
  rw [show ct (fun g => st g = r) f = cap r from this]
  omega
end CHO
