-- trees, faces, pairs
theorem su_cut {f : Nat → Nat} (a : Nat) : ∀ b, su f (a + b) = su f a + su (fun i => f (a + i)) b
  | 0 => rfl
  | b + 1 => by
    show su f (a + b) + f (a + b) = su f a + (su (fun i => f (a + i)) b + f (a + b))
    rw [su_cut a b]; omega
theorem su_flat {h : Nat → Nat → Nat} {k : Nat} (k0 : 0 < k) : ∀ n, su (fun p => h (p / k) (p % k)) (k * n) = su (fun a => su (h a) k) n
  | 0 => rfl
  | n + 1 => by
    rw [Nat.mul_succ, su_cut, su_flat k0 n]
    show _ = su (fun a => su (h a) k) n + su (h n) k
    congr 1
    refine su_cg k (fun i hi => ?_)
    rw [Nat.mul_add_div k0, Nat.div_eq_of_lt hi, Nat.mul_add_mod, Nat.mod_eq_of_lt hi]; rfl
noncomputable def pc (E : Nat → Nat → Prop) : Nat := ct (fun p => E (p / 9) (p % 9)) 81
theorem pc_su {E : Nat → Nat → Prop} : pc E = su (fun a => ct (E a) 9) 9 := su_flat (h := fun a b => ic (E a b)) (by decide) 9
theorem p9_d {a b : Nat} (hb : b < 9) : (9 * a + b) / 9 = a ∧ (9 * a + b) % 9 = b := by omega
theorem pc_le {E E' : Nat → Nat → Prop} (h : ∀ a b, E a b → E' a b) : pc E ≤ pc E' := ct_le 81 (fun p _ => h _ _)
theorem pc_2 {E E' : Nat → Nat → Prop} {a b : Nat} (ha : a < 9) (hb : b < 9) (ne : a ≠ b) (h : ∀ x y, E x y → E' x y) (e1 : E' a b) (e2 : E' b a) (n1 : ¬ E a b) (n2 : ¬ E b a) : pc E + 2 ≤ pc E' := by
  have d1 := p9_d (a := a) hb
  have d2 := p9_d (a := b) ha
  unfold pc
  rw [ct_ins (P := fun p => E' (p / 9) (p % 9)) (i := 9 * a + b) 81 (by omega) (by show E' _ _; rw [d1.1, d1.2]; exact e1), ct_ins (P := fun p => E' (p / 9) (p % 9) ∧ p ≠ 9 * a + b) (i := 9 * b + a) 81 (by omega) ⟨by show E' _ _; rw [d2.1, d2.2]; exact e2, by omega⟩]
  have := ct_le (P := fun p => E (p / 9) (p % 9)) (Q := fun p => (E' (p / 9) (p % 9) ∧ p ≠ 9 * a + b) ∧ p ≠ 9 * b + a) 81 (fun p _ hp => ⟨⟨h _ _ hp, fun z => n1 (by rw [z, d1.1, d1.2] at hp; exact hp)⟩, fun z => n2 (by rw [z, d2.1, d2.2] at hp; exact hp)⟩)
  omega
/-- and no more than that -/
theorem pc_2l {E E' : Nat → Nat → Prop} {a b : Nat} (h : ∀ x y, E' x y → E x y ∨ (x = a ∧ y = b) ∨ (x = b ∧ y = a)) : pc E' ≤ pc E + 2 := by
  have h1 : ∀ c e : Nat, ct (fun p => p / 9 = c ∧ p % 9 = e) 81 ≤ 1 := fun c e => by
    rcases Classical.em (∃ p, p < 81 ∧ p / 9 = c ∧ p % 9 = e) with ⟨p, hp, h1, h2⟩ | y
    · rw [ct_u (i := p) 81 hp ⟨h1, h2⟩ (fun j _ hj => by omega)]; exact Nat.le_refl 1
    · rw [ct_z 81 (fun i hi z => y ⟨i, hi, z⟩)]; exact Nat.zero_le 1
  have h2 : pc E' ≤ su (fun p => (ic (E (p / 9) (p % 9)) + ic (p / 9 = a ∧ p % 9 = b)) + ic (p / 9 = b ∧ p % 9 = a)) 81 := su_le 81 (fun p _ => by
    by_cases q : E' (p / 9) (p % 9)
    · rcases h _ _ q with z | z | z
      · rw [ic_t q, ic_t z]; omega
      · rw [ic_t q, ic_t z]; omega
      · rw [ic_t q, ic_t z]; omega
    · rw [ic_f q]; exact Nat.zero_le _)
  rw [su_add, su_add] at h2
  have x1 : su (fun p => ic (p / 9 = a ∧ p % 9 = b)) 81 ≤ 1 := h1 a b
  have x2 : su (fun p => ic (p / 9 = b ∧ p % 9 = a)) 81 ≤ 1 := h1 b a
  have x3 : pc E = su (fun p => ic (E (p / 9) (p % 9))) 81 := rfl
  omega
def con (Z : Nat → Prop) (E : Nat → Nat → Prop) : Prop := ∀ S : Nat → Prop, (∃ z, Z z ∧ S z) → (∀ a b, S a → E a b → S b) → ∀ z, Z z → S z
theorem edge {Z S : Nat → Prop} {E : Nat → Nat → Prop} (c : con Z E) (h1 : ∃ z, Z z ∧ S z) (h2 : ∃ z, Z z ∧ ¬ S z) : ∃ a b, S a ∧ E a b ∧ ¬ S b := by
  rcases Classical.em (∃ a b, S a ∧ E a b ∧ ¬ S b) with y | y
  · exact y
  · obtain ⟨z, hz, nz⟩ := h2
    exact absurd (c S h1 (fun a b ha hab => Classical.not_not.mp (fun q => y ⟨a, b, ha, hab, q⟩)) z hz) nz
theorem ct_sub {Z S : Nat → Prop} {n : Nat} (h : ct S n < ct Z n) : ∃ z, z < n ∧ Z z ∧ ¬ S z := by
  rcases Classical.em (∃ z, z < n ∧ Z z ∧ ¬ S z) with y | y
  · exact y
  · have := ct_le (P := Z) (Q := S) n (fun i hi hz => Classical.not_not.mp (fun q => y ⟨i, hi, hz, q⟩))
    omega
theorem ct_add {S : Nat → Prop} {b n : Nat} (hb : b < n) (nb : ¬ S b) : ct (fun x => S x ∨ x = b) n = ct S n + 1 := by
  rw [ct_ins (P := fun x => S x ∨ x = b) n hb (Or.inr rfl)]
  congr 1
  refine ct_cg n (fun i _ => ⟨fun z => z.1.elim (fun y => y) (fun y => absurd y z.2), fun z => ⟨Or.inl z, fun e => nb (e ▸ z)⟩⟩)
theorem tree_ge {Z : Nat → Prop} {E : Nat → Nat → Prop} (h9 : ∀ z, Z z → z < 9) (sy : ∀ a b, E a b → E b a) (hE : ∀ a b, E a b → Z a ∧ a ≠ b) (c : con Z E) : 2 * ct Z 9 ≤ pc E + 2 := by
  have grow : ∀ k, k < ct Z 9 → ∃ S : Nat → Prop, (∀ z, S z → Z z) ∧ ct S 9 = k + 1 ∧ 2 * k ≤ pc (fun a b => E a b ∧ S a ∧ S b) := by
    intro k
    induction k with
    | zero =>
      intro h
      obtain ⟨z, z9, hz⟩ := ct_pos 9 h
      exact ⟨fun x => x = z, fun x e => e ▸ hz, ct_u (i := z) 9 z9 rfl (fun j _ e => e), Nat.zero_le _⟩
    | succ k ih =>
      intro h
      obtain ⟨S, s1, s2, s3⟩ := ih (by omega)
      obtain ⟨x, x9, hx⟩ := ct_pos (P := S) 9 (by omega)
      obtain ⟨y, y9, hy, ny⟩ := ct_sub (Z := Z) (S := S) (n := 9) (by omega)
      obtain ⟨a, b, ha, hab, nb⟩ := edge c ⟨x, s1 x hx, hx⟩ ⟨y, hy, ny⟩
      have hba := sy _ _ hab
      have b9 := h9 b (hE _ _ hba).1
      refine ⟨fun x => S x ∨ x = b, fun z hz => hz.elim (s1 z) (fun e => e ▸ (hE _ _ hba).1), by rw [ct_add b9 nb, s2], ?_⟩
      have := pc_2 (E := fun a b => E a b ∧ S a ∧ S b) (E' := fun x y => E x y ∧ (S x ∨ x = b) ∧ (S y ∨ y = b)) (h9 a (s1 a ha)) b9 (hE _ _ hab).2 (fun x y z => ⟨z.1, Or.inl z.2.1, Or.inl z.2.2⟩) ⟨hab, Or.inl ha, Or.inr rfl⟩ ⟨hba, Or.inr rfl, Or.inl ha⟩ (fun z => nb z.2.2) (fun z => nb z.2.1)
      show 2 * (k + 1) ≤ pc (fun x y => E x y ∧ (S x ∨ x = b) ∧ (S y ∨ y = b))
      omega
  rcases Nat.eq_zero_or_pos (ct Z 9) with z | z
  · omega
  · obtain ⟨S, _, _, s3⟩ := grow (ct Z 9 - 1) (by omega)
    have := pc_le (E := fun a b => E a b ∧ S a ∧ S b) (E' := E) (fun a b h => h.1)
    omega
theorem tree_ex {Z : Nat → Prop} {E : Nat → Nat → Prop} (h9 : ∀ z, Z z → z < 9) (sy : ∀ a b, E a b → E b a) (hE : ∀ a b, E a b → Z a ∧ a ≠ b) (c : con Z E) (pos : 0 < ct Z 9) : ∃ T : Nat → Nat → Prop, (∀ a b, T a b → T b a) ∧ (∀ a b, T a b → E a b) ∧ con Z T ∧ pc T + 2 ≤ 2 * ct Z 9 := by
  have grow : ∀ k, k < ct Z 9 → ∃ (S : Nat → Prop) (T : Nat → Nat → Prop), (∀ z, S z → Z z) ∧ ct S 9 = k + 1 ∧ (∀ a b, T a b → T b a) ∧ (∀ a b, T a b → E a b) ∧ con S T ∧ pc T ≤ 2 * k := by
    intro k
    induction k with
    | zero =>
      intro h
      obtain ⟨z, z9, hz⟩ := ct_pos 9 h
      refine ⟨fun x => x = z, fun _ _ => False, fun x e => e ▸ hz, ct_u (i := z) 9 z9 rfl (fun j _ e => e), fun _ _ h => h.elim, fun _ _ h => h.elim, fun S ⟨y, e, hy⟩ _ x ex => ?_, ?_⟩
      · have e' : y = z := e
        have ex' : x = z := ex
        rw [ex', ← e']; exact hy
      · unfold pc; rw [ct_z 81 (fun _ _ h => h)]; exact Nat.zero_le _
    | succ k ih =>
      intro h
      obtain ⟨S, T, s1, s2, s3, s4, s5, s6⟩ := ih (by omega)
      obtain ⟨x, x9, hx⟩ := ct_pos (P := S) 9 (by omega)
      obtain ⟨y, y9, hy, ny⟩ := ct_sub (Z := Z) (S := S) (n := 9) (by omega)
      obtain ⟨a, b, ha, hab, nb⟩ := edge c ⟨x, s1 x hx, hx⟩ ⟨y, hy, ny⟩
      have hba := sy _ _ hab
      have b9 := h9 b (hE _ _ hba).1
      refine ⟨fun x => S x ∨ x = b, fun x y => T x y ∨ (x = a ∧ y = b) ∨ (x = b ∧ y = a), fun z hz => hz.elim (s1 z) (fun e => e ▸ (hE _ _ hba).1), by rw [ct_add b9 nb, s2], fun x y h => ?_, fun x y h => ?_, fun P ⟨z, hz, pz⟩ cl => ?_, ?_⟩
      · rcases h with h | h | h
        · exact Or.inl (s3 _ _ h)
        · exact Or.inr (Or.inr ⟨h.2, h.1⟩)
        · exact Or.inr (Or.inl ⟨h.2, h.1⟩)
      · rcases h with h | ⟨rfl, rfl⟩ | ⟨rfl, rfl⟩
        · exact s4 _ _ h
        · exact hab
        · exact hba
      · have inS : ∃ z, S z ∧ P z := by
          rcases hz with hz | hz
          · exact ⟨z, hz, pz⟩
          · exact ⟨a, ha, cl b a (hz ▸ pz) (Or.inr (Or.inr ⟨rfl, rfl⟩))⟩
        have all := s5 P inS (fun x y hx h => cl x y hx (Or.inl h))
        intro w hw
        rcases hw with hw | hw
        · exact all w hw
        · have hw' : w = b := hw
          rw [hw']; exact cl a b (all a ha) (Or.inr (Or.inl ⟨rfl, rfl⟩))
      · have := pc_2l (E := T) (E' := fun x y => T x y ∨ (x = a ∧ y = b) ∨ (x = b ∧ y = a)) (a := a) (b := b) (fun x y h => h)
        omega
  obtain ⟨S, T, s1, s2, s3, s4, s5, s6⟩ := grow (ct Z 9 - 1) (by omega)
  refine ⟨T, s3, s4, fun P ⟨z, hz, pz⟩ cl => ?_, by omega⟩
  have all : ∀ z, Z z → S z := fun z hz => Classical.not_not.mp (fun q => by
    have h1 := ct_ins (P := Z) 9 (h9 z hz) hz
    have h2 := ct_le (P := S) (Q := fun j => Z j ∧ j ≠ z) 9 (fun i _ hi => ⟨s1 i hi, fun e => q (e ▸ hi)⟩)
    omega)
  exact fun w hw => s5 P ⟨z, all z hz, pz⟩ cl w (all w hw)
/-! faces -/
def fdt (A B C : Nat → Nat) (g a b : Nat) : Prop := (a = A g ∧ b = B g) ∨ (a = B g ∧ b = C g) ∨ (a = C g ∧ b = A g)
def FA (rm : Nat → Prop) (nr : Nat → Nat → Prop) (Bp : Nat → Nat → Nat) (f : Nat) (A B C : Nat → Nat) (lb : Nat → Nat → Nat) : Prop := (∀ g, g < f → rm (A g) ∧ rm (B g) ∧ rm (C g) ∧ nr (A g) (B g) ∧ Bp (B g) (A g) = C g) ∧ (∀ g, g < f → ∀ a b, fdt A B C g a b → lb a b = g) ∧ (∀ a b, rm a → rm b → nr a b → rm (Bp b a) → ∃ g, g < f ∧ fdt A B C g a b)
theorem FA.ab {rm : Nat → Prop} {nr : Nat → Nat → Prop} {Bp : Nat → Nat → Nat} {f : Nat} {A B C : Nat → Nat} {lb : Nat → Nat → Nat} (h : FA rm nr Bp f A B C lb) : ∀ g, g < f → rm (A g) ∧ rm (B g) ∧ rm (C g) ∧ nr (A g) (B g) ∧ Bp (B g) (A g) = C g := h.1
theorem FA.lb {rm : Nat → Prop} {nr : Nat → Nat → Prop} {Bp : Nat → Nat → Nat} {f : Nat} {A B C : Nat → Nat} {lb : Nat → Nat → Nat} (h : FA rm nr Bp f A B C lb) : ∀ g, g < f → ∀ a b, fdt A B C g a b → lb a b = g := h.2.1
theorem FA.ex {rm : Nat → Prop} {nr : Nat → Nat → Prop} {Bp : Nat → Nat → Nat} {f : Nat} {A B C : Nat → Nat} {lb : Nat → Nat → Nat} (h : FA rm nr Bp f A B C lb) : ∀ a b, rm a → rm b → nr a b → rm (Bp b a) → ∃ g, g < f ∧ fdt A B C g a b := h.2.2
section FAS
variable {rm : Nat → Prop} {nr : Nat → Nat → Prop} {Bp : Nat → Nat → Nat} {f : Nat} {A B C : Nat → Nat} {lb : Nat → Nat → Nat}
theorem FA.nx (F : FA rm nr Bp f A B C lb) (G : GP rm nr Bp) {g a b : Nat} (hg : g < f) (h : fdt A B C g a b) : rm a ∧ rm b ∧ nr a b ∧ fdt A B C g b (Bp b a) ∧ fdt A B C g (Bp b a) a := by
  obtain ⟨h1, h2, h3, h4, h5⟩ := F.ab g hg
  have t := G.tr (B g) (A g) h2 (G.sy _ _ h4)
  rw [h5] at t
  have n1 := G.nx (B g) (A g) (G.sy _ _ h4)
  rw [h5] at n1
  have n2 := (G.fc h2 (G.sy _ _ h4)).1
  rw [h5] at n2
  rcases h with ⟨rfl, rfl⟩ | ⟨rfl, rfl⟩ | ⟨rfl, rfl⟩
  · exact ⟨h1, h2, h4, Or.inr (Or.inl ⟨rfl, h5⟩), Or.inr (Or.inr ⟨h5, rfl⟩)⟩
  · exact ⟨h2, h3, n1, Or.inr (Or.inr ⟨rfl, t.1⟩), Or.inl ⟨t.1, rfl⟩⟩
  · exact ⟨h3, h1, n2, Or.inl ⟨rfl, t.2⟩, Or.inr (Or.inl ⟨t.2, rfl⟩)⟩
theorem GP.c9 (G : GP rm nr Bp) {S : Nat → Prop} (h : ∃ r, rm r ∧ S r) (cl : ∀ u v, S u → nr u v → S v) : S 9 := by
  rcases Classical.em (S 9) with y | y
  · exact y
  · obtain ⟨r, hr, sr⟩ := h
    exact absurd sr (G.cn (fun x => ¬ S x) y (fun u v hu huv hv => hu (cl v u hv (G.sy _ _ huv))) r hr)
theorem collapse (G : GP rm nr Bp) (F : FA rm nr Bp f A B C lb) {Z : Nat → Prop} (hZ : ∀ z, Z z → rm z) : ∀ (N : Nat) (R : Nat → Prop) (E : Nat → Nat → Prop), ct R f = N → (∀ a b, E a b → E b a) → (∀ a b, E a b → Z a ∧ a ≠ b) → (∀ g, g < f → R g → ∀ a b, fdt A B C g a b → E a b) → con Z E → 2 * N + 2 * ct Z 9 ≤ pc E + 2 := by
  intro N
  induction N with
  | zero =>
    intro R E _ sy hE _ c
    have := tree_ge (fun z hz => G.r9 z (hZ z hz)) sy hE c
    omega
  | succ N ih =>
    intro R E hR sy hE hF c
    have free : ∃ g a b, g < f ∧ R g ∧ fdt A B C g a b ∧ ∀ g', g' < f → R g' → ¬ fdt A B C g' b a := by
      rcases Classical.em (∃ g a b, g < f ∧ R g ∧ fdt A B C g a b ∧ ∀ g', g' < f → R g' → ¬ fdt A B C g' b a) with y | no
      · exact y
      exfalso
      have rev : ∀ g a b, g < f → R g → fdt A B C g a b → ∃ g', g' < f ∧ R g' ∧ fdt A B C g' b a := fun g a b hg rg h => Classical.not_not.mp (fun q => no ⟨g, a, b, hg, rg, h, fun g' h1 h2 h3 => q ⟨g', h1, h2, h3⟩⟩)
      obtain ⟨g, hg, rg⟩ := ct_pos f (show 0 < ct R f by omega)
      have s9 := G.c9 (S := fun x => rm x ∧ ∃ g y, g < f ∧ R g ∧ fdt A B C g y x) ⟨B g, (F.ab g hg).2.1, (F.ab g hg).2.1, g, A g, hg, rg, Or.inl ⟨rfl, rfl⟩⟩ (fun u v hu huv => by
        obtain ⟨ru, g, y, hg, rg, hy⟩ := hu
        have all := G.tv u (fun w => ∃ g, g < f ∧ R g ∧ fdt A B C g w u) ⟨y, G.sy _ _ (F.nx G hg hy).2.2.1, g, hg, rg, hy⟩ (fun w hw ⟨g, hg, rg, h⟩ => rev g u (Bp u w) hg rg (F.nx G hg h).2.2.2.1) v huv
        obtain ⟨g', hg', rg', h'⟩ := all
        exact ⟨(F.nx G hg' h').1, g', Bp u v, hg', rg', (F.nx G hg' h').2.2.2.2⟩)
      have := G.r9 9 s9.1
      omega
    obtain ⟨g, a, b, hg, rg, hab, nor⟩ := free
    obtain ⟨ra, rb, nab, f2, f3⟩ := F.nx G hg hab
    generalize Bp b a = e at f2 f3
    have e1 := hF g hg rg a b hab
    have e2 := hF g hg rg _ _ f2
    have e3 := hF g hg rg _ _ f3
    have d1 := (hE _ _ e1).2
    have d2 := (hE _ _ e2).2
    have d3 := (hE _ _ e3).2
    have hR' : ct (fun x => R x ∧ x ≠ g) f = N := by
      have := ct_ins (P := R) f hg rg
      omega
    have ih' := ih (fun x => R x ∧ x ≠ g) (fun x y => E x y ∧ ¬ (x = a ∧ y = b) ∧ ¬ (x = b ∧ y = a)) hR' (fun x y h => ⟨sy _ _ h.1, fun z => h.2.2 ⟨z.2, z.1⟩, fun z => h.2.1 ⟨z.2, z.1⟩⟩) (fun x y h => hE _ _ h.1) (fun g' hg' rg' x y h => ⟨hF g' hg' rg'.1 x y h, fun z => ?_, fun z => ?_⟩) (fun S hS cl => c S hS (fun x y hx hxy => ?_))
    · have := pc_2 (E := fun x y => E x y ∧ ¬ (x = a ∧ y = b) ∧ ¬ (x = b ∧ y = a)) (E' := E) (G.r9 a ra) (G.r9 b rb) d1 (fun x y h => h.1) e1 (sy _ _ e1) (fun z => z.2.1 ⟨rfl, rfl⟩) (fun z => z.2.2 ⟨rfl, rfl⟩)
      omega
    · rw [z.1, z.2] at h
      exact rg'.2 ((F.lb g' hg' a b h).symm.trans (F.lb g hg a b hab))
    · rw [z.1, z.2] at h
      exact nor g' hg' rg'.1 h
    · by_cases z1 : x = a ∧ y = b
      · obtain ⟨rfl, rfl⟩ := z1
        have se := cl x e hx ⟨sy _ _ e3, fun z => d2 z.2.symm, fun z => d1 z.1⟩
        exact cl e y se ⟨sy _ _ e2, fun z => d3 z.1, fun z => d2 z.1.symm⟩
      · by_cases z2 : x = b ∧ y = a
        · obtain ⟨rfl, rfl⟩ := z2
          have se := cl x e hx ⟨e2, fun z => d1 z.1.symm, fun z => d3 z.2⟩
          exact cl e y se ⟨e3, fun z => d1 z.2, fun z => d2 z.1.symm⟩
        · exact cl x y hx ⟨hxy, z1, z2⟩
end FAS
