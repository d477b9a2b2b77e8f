section
-- trees, faces, pairs
theorem su_cut {f : Nat → Nat} (a : Nat) : ∀ b, su f (a + b) = su f a + su (fun i => f (a + i)) b
  | 0 => rfl
  | b + 1 => by
    show su f (a + b) + f (a + b) = su f a + (su (fun i => f (a + i)) b + f (a + b))
    rw [su_cut a b]; omega
theorem su_flat {h : Nat → Nat → Nat} {k : Nat} (k0 : 0 < k) : ∀ n, su (fun p => h (p / k) (p % k)) (k * n) = su (fun a => su (h a) k) n
  | 0 => rfl
  | n + 1 => by
    rw [Nat.mul_succ, su_cut, su_flat k0 n]
    show _ = su (fun a => su (h a) k) n + su (h n) k
    congr 1
    refine su_cg k (fun i hi => ?_)
    rw [Nat.mul_add_div k0, Nat.div_eq_of_lt hi, Nat.mul_add_mod, Nat.mod_eq_of_lt hi]; rfl
noncomputable def pc (E : Nat → Nat → Prop) : Nat := ct (fun p => E (p / 9) (p % 9)) 81
theorem pc_su {E : Nat → Nat → Prop} : pc E = su (fun a => ct (E a) 9) 9 := su_flat (h := fun a b => ic (E a b)) (by decide) 9
theorem p9_d {a b : Nat} (hb : b < 9) : (9 * a + b) / 9 = a ∧ (9 * a + b) % 9 = b := by omega
theorem pc_le {E E' : Nat → Nat → Prop} (h : ∀ a b, E a b → E' a b) : pc E ≤ pc E' := ct_le 81 (fun p _ => h _ _)
theorem pc_2 {E E' : Nat → Nat → Prop} {a b : Nat} (ha : a < 9) (hb : b < 9) (ne : a ≠ b) (h : ∀ x y, E x y → E' x y) (e1 : E' a b) (e2 : E' b a) (n1 : ¬ E a b) (n2 : ¬ E b a) : pc E + 2 ≤ pc E' := by
  have d1 := p9_d (a := a) hb
  have d2 := p9_d (a := b) ha
  unfold pc
  rw [ct_ins (P := fun p => E' (p / 9) (p % 9)) (i := 9 * a + b) 81 (by omega) (by show E' _ _; rw [d1.1, d1.2]; exact e1), ct_ins (P := fun p => E' (p / 9) (p % 9) ∧ p ≠ 9 * a + b) (i := 9 * b + a) 81 (by omega) ⟨by show E' _ _; rw [d2.1, d2.2]; exact e2, by omega⟩]
  have := ct_le (P := fun p => E (p / 9) (p % 9)) (Q := fun p => (E' (p / 9) (p % 9) ∧ p ≠ 9 * a + b) ∧ p ≠ 9 * b + a) 81 (fun p _ hp => ⟨⟨h _ _ hp, fun z => n1 (by rw [z, d1.1, d1.2] at hp; exact hp)⟩, fun z => n2 (by rw [z, d2.1, d2.2] at hp; exact hp)⟩)
  omega
/-- and no more than that -/
theorem pc_2l {E E' : Nat → Nat → Prop} {a b : Nat} (h : ∀ x y, E' x y → E x y ∨ (x = a ∧ y = b) ∨ (x = b ∧ y = a)) : pc E' ≤ pc E + 2 := by
  have h1 : ∀ c e : Nat, ct (fun p => p / 9 = c ∧ p % 9 = e) 81 ≤ 1 := fun c e => by
    rcases Classical.em (∃ p, p < 81 ∧ p / 9 = c ∧ p % 9 = e) with ⟨p, hp, h1, h2⟩ | y
    · rw [ct_u (i := p) 81 hp ⟨h1, h2⟩ (fun j _ hj => by omega)]; exact Nat.le_refl 1
    · rw [ct_z 81 (fun i hi z => y ⟨i, hi, z⟩)]; exact Nat.zero_le 1
  have h2 : pc E' ≤ su (fun p => (ic (E (p / 9) (p % 9)) + ic (p / 9 = a ∧ p % 9 = b)) + ic (p / 9 = b ∧ p % 9 = a)) 81 := su_le 81 (fun p _ => by
    by_cases q : E' (p / 9) (p % 9)
    · rcases h _ _ q with z | z | z
      · rw [ic_t q, ic_t z]; omega
      · rw [ic_t q, ic_t z]; omega
      · rw [ic_t q, ic_t z]; omega
    · rw [ic_f q]; exact Nat.zero_le _)
  rw [su_add, su_add] at h2
  have x1 : su (fun p => ic (p / 9 = a ∧ p % 9 = b)) 81 ≤ 1 := h1 a b
  have x2 : su (fun p => ic (p / 9 = b ∧ p % 9 = a)) 81 ≤ 1 := h1 b a
  have x3 : pc E = su (fun p => ic (E (p / 9) (p % 9))) 81 := rfl
  omega
def con (Z : Nat → Prop) (E : Nat → Nat → Prop) : Prop := ∀ S : Nat → Prop, (∃ z, Z z ∧ S z) → (∀ a b, S a → E a b → S b) → ∀ z, Z z → S z
theorem edge {Z S : Nat → Prop} {E : Nat → Nat → Prop} (c : con Z E) (h1 : ∃ z, Z z ∧ S z) (h2 : ∃ z, Z z ∧ ¬ S z) : ∃ a b, S a ∧ E a b ∧ ¬ S b := by
  rcases Classical.em (∃ a b, S a ∧ E a b ∧ ¬ S b) with y | y
  · exact y
  · obtain ⟨z, hz, nz⟩ := h2
    exact absurd (c S h1 (fun a b ha hab => Classical.not_not.mp (fun q => y ⟨a, b, ha, hab, q⟩)) z hz) nz
theorem ct_sub {Z S : Nat → Prop} {n : Nat} (h : ct S n < ct Z n) : ∃ z, z < n ∧ Z z ∧ ¬ S z := by
  rcases Classical.em (∃ z, z < n ∧ Z z ∧ ¬ S z) with y | y
  · exact y
  · have := ct_le (P := Z) (Q := S) n (fun i hi hz => Classical.not_not.mp (fun q => y ⟨i, hi, hz, q⟩))
    omega
theorem ct_add {S : Nat → Prop} {b n : Nat} (hb : b < n) (nb : ¬ S b) : ct (fun x => S x ∨ x = b) n = ct S n + 1 := by
  rw [ct_ins (P := fun x => S x ∨ x = b) n hb (Or.inr rfl)]
  congr 1
  refine ct_cg n (fun i _ => ⟨fun z => z.1.elim (fun y => y) (fun y => absurd y z.2), fun z => ⟨Or.inl z, fun e => nb (e ▸ z)⟩⟩)
theorem tree_ge {Z : Nat → Prop} {E : Nat → Nat → Prop} (h9 : ∀ z, Z z → z < 9) (sy : ∀ a b, E a b → E b a) (hE : ∀ a b, E a b → Z a ∧ a ≠ b) (c : con Z E) : 2 * ct Z 9 ≤ pc E + 2 := by
  have grow : ∀ k, k < ct Z 9 → ∃ S : Nat → Prop, (∀ z, S z → Z z) ∧ ct S 9 = k + 1 ∧ 2 * k ≤ pc (fun a b => E a b ∧ S a ∧ S b) := by
    intro k
    induction k with
    | zero =>
      intro h
      obtain ⟨z, z9, hz⟩ := ct_pos 9 h
      exact ⟨fun x => x = z, fun x e => e ▸ hz, ct_u (i := z) 9 z9 rfl (fun j _ e => e), Nat.zero_le _⟩
    | succ k ih =>
      intro h
      obtain ⟨S, s1, s2, s3⟩ := ih (by omega)
      obtain ⟨x, x9, hx⟩ := ct_pos (P := S) 9 (by omega)
      obtain ⟨y, y9, hy, ny⟩ := ct_sub (Z := Z) (S := S) (n := 9) (by omega)
      obtain ⟨a, b, ha, hab, nb⟩ := edge c ⟨x, s1 x hx, hx⟩ ⟨y, hy, ny⟩
      have hba := sy _ _ hab
      have b9 := h9 b (hE _ _ hba).1
      refine ⟨fun x => S x ∨ x = b, fun z hz => hz.elim (s1 z) (fun e => e ▸ (hE _ _ hba).1), by rw [ct_add b9 nb, s2], ?_⟩
      have := pc_2 (E := fun a b => E a b ∧ S a ∧ S b) (E' := fun x y => E x y ∧ (S x ∨ x = b) ∧ (S y ∨ y = b)) (h9 a (s1 a ha)) b9 (hE _ _ hab).2 (fun x y z => ⟨z.1, Or.inl z.2.1, Or.inl z.2.2⟩) ⟨hab, Or.inl ha, Or.inr rfl⟩ ⟨hba, Or.inr rfl, Or.inl ha⟩ (fun z => nb z.2.2) (fun z => nb z.2.1)
      show 2 * (k + 1) ≤ pc (fun x y => E x y ∧ (S x ∨ x = b) ∧ (S y ∨ y = b))
      omega
  rcases Nat.eq_zero_or_pos (ct Z 9) with z | z
  · omega
  · obtain ⟨S, _, _, s3⟩ := grow (ct Z 9 - 1) (by omega)
    have := pc_le (E := fun a b => E a b ∧ S a ∧ S b) (E' := E) (fun a b h => h.1)
    omega
theorem tree_ex {Z : Nat → Prop} {E : Nat → Nat → Prop} (h9 : ∀ z, Z z → z < 9) (sy : ∀ a b, E a b → E b a) (hE : ∀ a b, E a b → Z a ∧ a ≠ b) (c : con Z E) (pos : 0 < ct Z 9) : ∃ T : Nat → Nat → Prop, (∀ a b, T a b → T b a) ∧ (∀ a b, T a b → E a b) ∧ con Z T ∧ pc T + 2 ≤ 2 * ct Z 9 := by
  have grow : ∀ k, k < ct Z 9 → ∃ (S : Nat → Prop) (T : Nat → Nat → Prop), (∀ z, S z → Z z) ∧ ct S 9 = k + 1 ∧ (∀ a b, T a b → T b a) ∧ (∀ a b, T a b → E a b) ∧ con S T ∧ pc T ≤ 2 * k := by
    intro k
    induction k with
    | zero =>
      intro h
      obtain ⟨z, z9, hz⟩ := ct_pos 9 h
      refine ⟨fun x => x = z, fun _ _ => False, fun x e => e ▸ hz, ct_u (i := z) 9 z9 rfl (fun j _ e => e), fun _ _ h => h.elim, fun _ _ h => h.elim, fun S ⟨y, e, hy⟩ _ x ex => ?_, ?_⟩
      · have e' : y = z := e
        have ex' : x = z := ex
        rw [ex', ← e']; exact hy
      · unfold pc; rw [ct_z 81 (fun _ _ h => h)]; exact Nat.zero_le _
    | succ k ih =>
      intro h
      obtain ⟨S, T, s1, s2, s3, s4, s5, s6⟩ := ih (by omega)
      obtain ⟨x, x9, hx⟩ := ct_pos (P := S) 9 (by omega)
      obtain ⟨y, y9, hy, ny⟩ := ct_sub (Z := Z) (S := S) (n := 9) (by omega)
      obtain ⟨a, b, ha, hab, nb⟩ := edge c ⟨x, s1 x hx, hx⟩ ⟨y, hy, ny⟩
      have hba := sy _ _ hab
      have b9 := h9 b (hE _ _ hba).1
      refine ⟨fun x => S x ∨ x = b, fun x y => T x y ∨ (x = a ∧ y = b) ∨ (x = b ∧ y = a), fun z hz => hz.elim (s1 z) (fun e => e ▸ (hE _ _ hba).1), by rw [ct_add b9 nb, s2], fun x y h => ?_, fun x y h => ?_, fun P ⟨z, hz, pz⟩ cl => ?_, ?_⟩
      · rcases h with h | h | h
        · exact Or.inl (s3 _ _ h)
        · exact Or.inr (Or.inr ⟨h.2, h.1⟩)
        · exact Or.inr (Or.inl ⟨h.2, h.1⟩)
      · rcases h with h | ⟨rfl, rfl⟩ | ⟨rfl, rfl⟩
        · exact s4 _ _ h
        · exact hab
        · exact hba
      · have inS : ∃ z, S z ∧ P z := by
          rcases hz with hz | hz
          · exact ⟨z, hz, pz⟩
          · exact ⟨a, ha, cl b a (hz ▸ pz) (Or.inr (Or.inr ⟨rfl, rfl⟩))⟩
        have all := s5 P inS (fun x y hx h => cl x y hx (Or.inl h))
        intro w hw
        rcases hw with hw | hw
        · exact all w hw
        · have hw' : w = b := hw
          rw [hw']; exact cl a b (all a ha) (Or.inr (Or.inl ⟨rfl, rfl⟩))
      · have := pc_2l (E := T) (E' := fun x y => T x y ∨ (x = a ∧ y = b) ∨ (x = b ∧ y = a)) (a := a) (b := b) (fun x y h => h)
        omega
  obtain ⟨S, T, s1, s2, s3, s4, s5, s6⟩ := grow (ct Z 9 - 1) (by omega)
  refine ⟨T, s3, s4, fun P ⟨z, hz, pz⟩ cl => ?_, by omega⟩
  have all : ∀ z, Z z → S z := fun z hz => Classical.not_not.mp (fun q => by
    have h1 := ct_ins (P := Z) 9 (h9 z hz) hz
    have h2 := ct_le (P := S) (Q := fun j => Z j ∧ j ≠ z) 9 (fun i _ hi => ⟨s1 i hi, fun e => q (e ▸ hi)⟩)
    omega)
  exact fun w hw => s5 P ⟨z, all z hz, pz⟩ cl w (all w hw)
/-! faces -/
def fdt (A B C : Nat → Nat) (g a b : Nat) : Prop := (a = A g ∧ b = B g) ∨ (a = B g ∧ b = C g) ∨ (a = C g ∧ b = A g)
def FA (rm : Nat → Prop) (nr : Nat → Nat → Prop) (Bp : Nat → Nat → Nat) (f : Nat) (A B C : Nat → Nat) (lb : Nat → Nat → Nat) : Prop := (∀ g, g < f → rm (A g) ∧ rm (B g) ∧ rm (C g) ∧ nr (A g) (B g) ∧ Bp (B g) (A g) = C g) ∧ (∀ g, g < f → ∀ a b, fdt A B C g a b → lb a b = g) ∧ (∀ a b, rm a → rm b → nr a b → rm (Bp b a) → ∃ g, g < f ∧ fdt A B C g a b)
theorem FA.ab {rm : Nat → Prop} {nr : Nat → Nat → Prop} {Bp : Nat → Nat → Nat} {f : Nat} {A B C : Nat → Nat} {lb : Nat → Nat → Nat} (h : FA rm nr Bp f A B C lb) : ∀ g, g < f → rm (A g) ∧ rm (B g) ∧ rm (C g) ∧ nr (A g) (B g) ∧ Bp (B g) (A g) = C g := h.1
theorem FA.lb {rm : Nat → Prop} {nr : Nat → Nat → Prop} {Bp : Nat → Nat → Nat} {f : Nat} {A B C : Nat → Nat} {lb : Nat → Nat → Nat} (h : FA rm nr Bp f A B C lb) : ∀ g, g < f → ∀ a b, fdt A B C g a b → lb a b = g := h.2.1
theorem FA.ex {rm : Nat → Prop} {nr : Nat → Nat → Prop} {Bp : Nat → Nat → Nat} {f : Nat} {A B C : Nat → Nat} {lb : Nat → Nat → Nat} (h : FA rm nr Bp f A B C lb) : ∀ a b, rm a → rm b → nr a b → rm (Bp b a) → ∃ g, g < f ∧ fdt A B C g a b := h.2.2
section FAS
variable {rm : Nat → Prop} {nr : Nat → Nat → Prop} {Bp : Nat → Nat → Nat} {f : Nat} {A B C : Nat → Nat} {lb : Nat → Nat → Nat}
theorem FA.nx (F : FA rm nr Bp f A B C lb) (G : GP rm nr Bp) {g a b : Nat} (hg : g < f) (h : fdt A B C g a b) : rm a ∧ rm b ∧ nr a b ∧ fdt A B C g b (Bp b a) ∧ fdt A B C g (Bp b a) a := by
  obtain ⟨h1, h2, h3, h4, h5⟩ := F.ab g hg
  have t := G.tr (B g) (A g) h2 (G.sy _ _ h4)
  rw [h5] at t
  have n1 := G.nx (B g) (A g) (G.sy _ _ h4)
  rw [h5] at n1
  have n2 := (G.fc h2 (G.sy _ _ h4)).1
  rw [h5] at n2
  rcases h with ⟨rfl, rfl⟩ | ⟨rfl, rfl⟩ | ⟨rfl, rfl⟩
  · exact ⟨h1, h2, h4, Or.inr (Or.inl ⟨rfl, h5⟩), Or.inr (Or.inr ⟨h5, rfl⟩)⟩
  · exact ⟨h2, h3, n1, Or.inr (Or.inr ⟨rfl, t.1⟩), Or.inl ⟨t.1, rfl⟩⟩
  · exact ⟨h3, h1, n2, Or.inl ⟨rfl, t.2⟩, Or.inr (Or.inl ⟨t.2, rfl⟩)⟩
theorem GP.c9 (G : GP rm nr Bp) {S : Nat → Prop} (h : ∃ r, rm r ∧ S r) (cl : ∀ u v, S u → nr u v → S v) : S 9 := by
  rcases Classical.em (S 9) with y | y
  · exact y
  · obtain ⟨r, hr, sr⟩ := h
    exact absurd sr (G.cn (fun x => ¬ S x) y (fun u v hu huv hv => hu (cl v u hv (G.sy _ _ huv))) r hr)
theorem collapse (G : GP rm nr Bp) (F : FA rm nr Bp f A B C lb) {Z : Nat → Prop} (hZ : ∀ z, Z z → rm z) : ∀ (N : Nat) (R : Nat → Prop) (E : Nat → Nat → Prop), ct R f = N → (∀ a b, E a b → E b a) → (∀ a b, E a b → Z a ∧ a ≠ b) → (∀ g, g < f → R g → ∀ a b, fdt A B C g a b → E a b) → con Z E → 2 * N + 2 * ct Z 9 ≤ pc E + 2 := by
  intro N
  induction N with
  | zero =>
    intro R E _ sy hE _ c
    have := tree_ge (fun z hz => G.r9 z (hZ z hz)) sy hE c
    omega
  | succ N ih =>
    intro R E hR sy hE hF c
    have free : ∃ g a b, g < f ∧ R g ∧ fdt A B C g a b ∧ ∀ g', g' < f → R g' → ¬ fdt A B C g' b a := by
      rcases Classical.em (∃ g a b, g < f ∧ R g ∧ fdt A B C g a b ∧ ∀ g', g' < f → R g' → ¬ fdt A B C g' b a) with y | no
      · exact y
      exfalso
      have rev : ∀ g a b, g < f → R g → fdt A B C g a b → ∃ g', g' < f ∧ R g' ∧ fdt A B C g' b a := fun g a b hg rg h => Classical.not_not.mp (fun q => no ⟨g, a, b, hg, rg, h, fun g' h1 h2 h3 => q ⟨g', h1, h2, h3⟩⟩)
      obtain ⟨g, hg, rg⟩ := ct_pos f (show 0 < ct R f by omega)
      have s9 := G.c9 (S := fun x => rm x ∧ ∃ g y, g < f ∧ R g ∧ fdt A B C g y x) ⟨B g, (F.ab g hg).2.1, (F.ab g hg).2.1, g, A g, hg, rg, Or.inl ⟨rfl, rfl⟩⟩ (fun u v hu huv => by
        obtain ⟨ru, g, y, hg, rg, hy⟩ := hu
        have all := G.tv u (fun w => ∃ g, g < f ∧ R g ∧ fdt A B C g w u) ⟨y, G.sy _ _ (F.nx G hg hy).2.2.1, g, hg, rg, hy⟩ (fun w hw ⟨g, hg, rg, h⟩ => rev g u (Bp u w) hg rg (F.nx G hg h).2.2.2.1) v huv
        obtain ⟨g', hg', rg', h'⟩ := all
        exact ⟨(F.nx G hg' h').1, g', Bp u v, hg', rg', (F.nx G hg' h').2.2.2.2⟩)
      have := G.r9 9 s9.1
      omega
    obtain ⟨g, a, b, hg, rg, hab, nor⟩ := free
    obtain ⟨ra, rb, nab, f2, f3⟩ := F.nx G hg hab
    generalize Bp b a = e at f2 f3
    have e1 := hF g hg rg a b hab
    have e2 := hF g hg rg _ _ f2
    have e3 := hF g hg rg _ _ f3
    have d1 := (hE _ _ e1).2
    have d2 := (hE _ _ e2).2
    have d3 := (hE _ _ e3).2
    have hR' : ct (fun x => R x ∧ x ≠ g) f = N := by
      have := ct_ins (P := R) f hg rg
      omega
    have ih' := ih (fun x => R x ∧ x ≠ g) (fun x y => E x y ∧ ¬ (x = a ∧ y = b) ∧ ¬ (x = b ∧ y = a)) hR' (fun x y h => ⟨sy _ _ h.1, fun z => h.2.2 ⟨z.2, z.1⟩, fun z => h.2.1 ⟨z.2, z.1⟩⟩) (fun x y h => hE _ _ h.1) (fun g' hg' rg' x y h => ⟨hF g' hg' rg'.1 x y h, fun z => ?_, fun z => ?_⟩) (fun S hS cl => c S hS (fun x y hx hxy => ?_))
    · have := pc_2 (E := fun x y => E x y ∧ ¬ (x = a ∧ y = b) ∧ ¬ (x = b ∧ y = a)) (E' := E) (G.r9 a ra) (G.r9 b rb) d1 (fun x y h => h.1) e1 (sy _ _ e1) (fun z => z.2.1 ⟨rfl, rfl⟩) (fun z => z.2.2 ⟨rfl, rfl⟩)
      omega
    · rw [z.1, z.2] at h
      exact rg'.2 ((F.lb g' hg' a b h).symm.trans (F.lb g hg a b hab))
    · rw [z.1, z.2] at h
      exact nor g' hg' rg'.1 h
    · by_cases z1 : x = a ∧ y = b
      · obtain ⟨rfl, rfl⟩ := z1
        have se := cl x e hx ⟨sy _ _ e3, fun z => d2 z.2.symm, fun z => d1 z.1⟩
        exact cl e y se ⟨sy _ _ e2, fun z => d3 z.1, fun z => d2 z.1.symm⟩
      · by_cases z2 : x = b ∧ y = a
        · obtain ⟨rfl, rfl⟩ := z2
          have se := cl x e hx ⟨e2, fun z => d1 z.1.symm, fun z => d3 z.2⟩
          exact cl e y se ⟨e3, fun z => d1 z.2, fun z => d2 z.1.symm⟩
        · exact cl x y hx ⟨hxy, z1, z2⟩
end FAS
end
section
-- there is a choice of straight rooms
section CHO
variable {rm : Nat → Prop} {nr : Nat → Nat → Prop} {Bp : Nat → Nat → Nat} {f : Nat} {A B C : Nat → Nat} {lb : Nat → Nat → Nat}
noncomputable def dgr (nr : Nat → Nat → Prop) (r : Nat) : Nat := ct (nr r) 13
theorem GP.sj (G : GP rm nr Bp) {u w : Nat} (h : nr u w) : ∃ v, nr u v ∧ Bp u v = w :=
  G.tv u (fun w => ∃ v, nr u v ∧ Bp u v = w) ⟨Bp u w, G.nx u w h, w, h, rfl⟩ (fun v hv _ => ⟨v, hv, rfl⟩) w h
theorem ct_Bp (G : GP rm nr Bp) (u : Nat) (P : Nat → Prop) : ct (fun v => nr u v ∧ P (Bp u v)) 13 = ct (fun v => nr u v ∧ P v) 13 :=
  ct_re (F := Bp u) 13 13 (fun v _ h => ⟨(G.lt (G.nx u v h.1)).2, G.nx u v h.1, h.2⟩) (fun v w _ _ h h' e => G.ij u v w h.1 h'.1 e) (fun w _ h => by
    obtain ⟨v, hv, e⟩ := G.sj h.1
    exact ⟨v, (G.lt hv).2, ⟨hv, by rw [e]; exact h.2⟩, e⟩)
/-- three darts to a face -/
theorem three (G : GP rm nr Bp) (F : FA rm nr Bp f A B C lb) {Z : Nat → Prop} (hZ : ∀ z, Z z → rm z) : 3 * ct (inZ A B C Z) f = pc (fun r v => Z r ∧ nr r v ∧ Z v ∧ Z (Bp r v)) := by
  have e1 : pc (fun r v => Z r ∧ nr r v ∧ Z v ∧ Z (Bp r v)) = su (fun p => su (fun g => ic (inZ A B C Z g ∧ fdt A B C g (p % 9) (p / 9))) f) 81 := su_cg 81 (fun p _ => by
    show ic _ = _
    by_cases q : Z (p / 9) ∧ nr (p / 9) (p % 9) ∧ Z (p % 9) ∧ Z (Bp (p / 9) (p % 9))
    · obtain ⟨q1, q2, q3, q4⟩ := q
      obtain ⟨g, hg, h⟩ := F.ex (p % 9) (p / 9) (hZ _ q3) (hZ _ q1) (G.sy _ _ q2) (hZ _ q4)
      have h2 := (F.nx G hg h).2.2.2.1
      have iz : inZ A B C Z g := by
        have t := G.tr (p / 9) (p % 9) (hZ _ q1) q2
        have fb := (F.ab g hg).2.2.2.2
        rcases h with ⟨x, y⟩ | ⟨x, y⟩ | ⟨x, y⟩
        · rw [← x, ← y] at fb
          exact ⟨x ▸ q3, y ▸ q1, fb ▸ q4⟩
        · rcases h2 with ⟨u, w⟩ | ⟨u, w⟩ | ⟨u, w⟩
          · exact ⟨u ▸ q1, x ▸ q3, y ▸ q1⟩
          · exact absurd (x.trans u.symm) (fun z => (G.nd _ _ q2).1 z.symm)
          · exact ⟨w ▸ q4, x ▸ q3, y ▸ q1⟩
        · rcases h2 with ⟨u, w⟩ | ⟨u, w⟩ | ⟨u, w⟩
          · exact ⟨y ▸ q1, w ▸ q4, x ▸ q3⟩
          · exact ⟨y ▸ q1, u ▸ q1, x ▸ q3⟩
          · exact absurd (x.trans u.symm) (fun z => (G.nd _ _ q2).1 z.symm)
      rw [ic_t ⟨q1, q2, q3, q4⟩, su_1 (i := g) f hg (fun j hj nj => ic_f (fun z => nj ((F.lb j hj _ _ z.2).symm.trans (F.lb g hg _ _ h)))), ic_t ⟨iz, h⟩]
    · have no : ∀ g, g < f → ¬ (inZ A B C Z g ∧ fdt A B C g (p % 9) (p / 9)) := fun g hg ⟨z1, z2⟩ => by
        obtain ⟨n1, n2, n3, n4, n5⟩ := F.nx G hg z2
        have zz : ∀ a b, fdt A B C g a b → Z a := fun a b h => by
          rcases h with ⟨x, _⟩ | ⟨x, _⟩ | ⟨x, _⟩
          · rw [x]; exact z1.1
          · rw [x]; exact z1.2.1
          · rw [x]; exact z1.2.2
        exact q ⟨zz _ _ n4, G.sy _ _ n3, zz _ _ z2, zz _ _ n5⟩
      rw [ic_f q, su_z f (fun g hg => ic_f (no g hg))])
  rw [e1, su_sw]
  unfold ct
  rw [← su_mul]
  refine su_cg f (fun g hg => ?_)
  by_cases q : inZ A B C Z g
  · rw [ic_t q]
    have h0 : fdt A B C g (A g) (B g) := Or.inl ⟨rfl, rfl⟩
    obtain ⟨n1, n2, n3, n4, n5⟩ := F.nx G hg h0
    have x1 := G.r9 _ n1
    have x2 := G.r9 _ n2
    have x3 := G.r9 _ (F.ab g hg).2.2.1
    have y1 := (G.nd _ _ n3).1
    have y2 := (G.nd _ _ (F.nx G hg n4).2.2.1).1
    have y3 := (G.nd _ _ (F.nx G hg n5).2.2.1).1
    rw [(F.ab g hg).2.2.2.2] at y2 y3
    have d1 := p9_d (a := B g) x1
    have d2 := p9_d (a := C g) x2
    have d3 := p9_d (a := A g) x3
    have := ct_t (P := fun p => inZ A B C Z g ∧ fdt A B C g (p % 9) (p / 9)) (a := 9 * B g + A g) (b := 9 * C g + B g) (c := 9 * A g + C g) (n := 81) (by omega) (by omega) (by omega) (by omega) (by omega) (by omega) (fun j hj => ⟨fun ⟨_, h⟩ => by
        rcases h with ⟨h, h'⟩ | ⟨h, h'⟩ | ⟨h, h'⟩
        · left; omega
        · right; left; omega
        · right; right; omega, fun h => ⟨q, by
        rcases h with h | h | h
        · exact Or.inl ⟨by rw [h]; exact d1.2, by rw [h]; exact d1.1⟩
        · exact Or.inr (Or.inl ⟨by rw [h]; exact d2.2, by rw [h]; exact d2.1⟩)
        · exact Or.inr (Or.inr ⟨by rw [h]; exact d3.2, by rw [h]; exact d3.1⟩)⟩⟩)
    unfold ct at this
    rw [this]
  · rw [ic_f q, su_z 81 (fun p _ => ic_f (fun z => q z.1))]
theorem pcZ (G : GP rm nr Bp) {Z : Nat → Prop} (hZ : ∀ z, Z z → rm z) (P : Nat → Nat → Prop) : pc (fun r v => Z r ∧ nr r v ∧ Z v ∧ P r v) = sz Z (fun r => ct (fun v => nr r v ∧ Z v ∧ P r v) 13) := by
  rw [pc_su]
  refine su_cg 9 (fun r _ => ?_)
  by_cases z : Z r
  · rw [ic_t z, Nat.one_mul]
    show _ = su _ (9 + 4)
    rw [su_cut, su_z 4 (fun i _ => ic_f (fun q => by have := G.r9 _ (hZ _ q.2.1); omega))]
    exact ct_cg 9 (fun v _ => ⟨fun q => q.2, fun q => ⟨z, q⟩⟩)
  · rw [ic_f z, Nat.zero_mul]
    exact ct_z 9 (fun v _ q => z q.1)
/-- corners around a room by kind -/
theorem corn (G : GP rm nr Bp) (Z : Nat → Prop) (r : Nat) : dgr nr r + ct (fun v => nr r v ∧ Z v ∧ Z (Bp r v)) 13 = 2 * ct (fun v => nr r v ∧ Z v) 13 + ct (fun v => nr r v ∧ ¬ Z v ∧ ¬ Z (Bp r v)) 13 := by
  have h1 : dgr nr r = _ := ct_sp (P := nr r) Z 13
  have h2 := ct_sp (P := fun v => nr r v ∧ Z v) (fun v => Z (Bp r v)) 13
  have h3 := ct_sp (P := fun v => nr r v ∧ ¬ Z v) (fun v => Z (Bp r v)) 13
  have h4 := ct_Bp G r Z
  have h5 := ct_sp (P := fun v => nr r v ∧ Z (Bp r v)) Z 13
  have c1 := ct_cg (P := fun v => (nr r v ∧ Z v) ∧ Z (Bp r v)) (Q := fun v => nr r v ∧ Z v ∧ Z (Bp r v)) 13 (fun v _ => ⟨fun q => ⟨q.1.1, q.1.2, q.2⟩, fun q => ⟨⟨q.1, q.2.1⟩, q.2.2⟩⟩)
  have c2 := ct_cg (P := fun v => (nr r v ∧ Z (Bp r v)) ∧ Z v) (Q := fun v => nr r v ∧ Z v ∧ Z (Bp r v)) 13 (fun v _ => ⟨fun q => ⟨q.1.1, q.2, q.1.2⟩, fun q => ⟨⟨q.1, q.2.2⟩, q.2.1⟩⟩)
  have c3 := ct_cg (P := fun v => (nr r v ∧ ¬ Z v) ∧ Z (Bp r v)) (Q := fun v => (nr r v ∧ Z (Bp r v)) ∧ ¬ Z v) 13 (fun v _ => ⟨fun q => ⟨⟨q.1.1, q.2⟩, q.1.2⟩, fun q => ⟨⟨q.1.1, q.2⟩, q.1.2⟩⟩)
  have c4 := ct_cg (P := fun v => (nr r v ∧ ¬ Z v) ∧ ¬ Z (Bp r v)) (Q := fun v => nr r v ∧ ¬ Z v ∧ ¬ Z (Bp r v)) 13 (fun v _ => ⟨fun q => ⟨q.1.1, q.1.2, q.2⟩, fun q => ⟨⟨q.1, q.2.1⟩, q.2.2⟩⟩)
  omega
theorem sz_add {Z : Nat → Prop} {c e : Nat → Nat} : sz Z (fun r => c r + e r) = sz Z c + sz Z e := by
  unfold sz
  rw [← su_add]
  exact su_cg 9 (fun r _ => Nat.mul_add _ _ _)
theorem sz_mul {Z : Nat → Prop} {c : Nat → Nat} {k : Nat} : sz Z (fun r => k * c r) = k * sz Z c := by
  unfold sz
  rw [← su_mul]
  exact su_cg 9 (fun r _ => by show _ = _; rw [Nat.mul_left_comm])
theorem sz_cg {Z : Nat → Prop} {c e : Nat → Nat} (h : ∀ r, r < 9 → Z r → c r = e r) : sz Z c = sz Z e := su_cg 9 (fun r hr => by
  by_cases z : Z r
  · show ic (Z r) * c r = ic (Z r) * e r
    rw [h r hr z]
  · show ic (Z r) * c r = ic (Z r) * e r
    rw [ic_f z, Nat.zero_mul, Nat.zero_mul])
theorem sz_1 {Z : Nat → Prop} : sz Z (fun _ => 1) = ct Z 9 := su_cg 9 (fun r _ => Nat.mul_one _)
/-- all corners together -/
theorem corns (G : GP rm nr Bp) (F : FA rm nr Bp f A B C lb) {Z : Nat → Prop} (hZ : ∀ z, Z z → rm z) : sz Z (dgr nr) + 3 * ct (inZ A B C Z) f = 2 * pc (fun r v => Z r ∧ nr r v ∧ Z v ∧ True) + ct (fun p => OO nr Bp Z (p / 13) (p % 13)) 117 := by
  have h1 := three G F hZ
  rw [pcZ G hZ (fun r v => Z (Bp r v))] at h1
  have h2 : ct (fun p => OO nr Bp Z (p / 13) (p % 13)) 117 = sz Z (fun r => ct (fun v => nr r v ∧ ¬ Z v ∧ ¬ Z (Bp r v)) 13) := by
    have : ct (fun p => OO nr Bp Z (p / 13) (p % 13)) 117 = su (fun a => ct (OO nr Bp Z a) 13) 9 := su_flat (h := fun a b => ic (OO nr Bp Z a b)) (by decide) 9
    rw [this]
    refine su_cg 9 (fun r _ => ?_)
    by_cases z : Z r
    · rw [ic_t z, Nat.one_mul]
      exact ct_cg 13 (fun v _ => ⟨fun q => q.2, fun q => ⟨z, q⟩⟩)
    · rw [ic_f z, Nat.zero_mul]
      exact ct_z 13 (fun v _ q => z q.1)
  rw [pcZ G hZ (fun _ _ => True), h2, h1, ← sz_add, ← sz_mul, ← sz_add]
  refine sz_cg (fun r _ _ => ?_)
  have := corn G Z r
  have e : ct (fun v => nr r v ∧ Z v ∧ True) 13 = ct (fun v => nr r v ∧ Z v) 13 := ct_cg 13 (fun v _ => ⟨fun q => ⟨q.1, q.2.1⟩, fun q => ⟨q.1, q.2, trivial⟩⟩)
  rw [e]; exact this
theorem dlt (G : GP rm nr Bp) (F : FA rm nr Bp f A B C lb) : ∀ (N : Nat) (Z : Nat → Prop), (∀ z, Z z → rm z) → ct Z 9 ≤ N → ct (inZ A B C Z) f + 4 * ct Z 9 ≤ sz Z (dgr nr) := by
  intro N
  induction N with
  | zero =>
    intro Z hZ h0
    have no : ∀ z, ¬ Z z := fun z hz => by have := ct_ge 9 (G.r9 z (hZ z hz)) hz; omega
    rw [ct_z f (fun g _ q => no _ q.1)]
    omega
  | succ N ih =>
    intro Z hZ hN
    by_cases ne : ∃ z, Z z
    · by_cases c : con Z (fun r v => Z r ∧ nr r v ∧ Z v ∧ True)
      · have h1 := collapse G F hZ (ct (inZ A B C Z) f) (inZ A B C Z) (fun r v => Z r ∧ nr r v ∧ Z v ∧ True) rfl (fun a b h => ⟨h.2.2.1, G.sy _ _ h.2.1, h.1, trivial⟩) (fun a b h => ⟨h.1, (G.nd _ _ h.2.1).1⟩) (fun g hg iz a b h => ?_) c
        · have h2 := corns G F hZ
          have h3 := rng4 G hZ ne
          omega
        · have zz : ∀ a b, fdt A B C g a b → Z a := fun a b h => by
            rcases h with ⟨x, _⟩ | ⟨x, _⟩ | ⟨x, _⟩
            · rw [x]; exact iz.1
            · rw [x]; exact iz.2.1
            · rw [x]; exact iz.2.2
          have n := F.nx G hg h
          exact ⟨zz _ _ h, n.2.2.1, zz _ _ n.2.2.2.1, trivial⟩
      · obtain ⟨S, ⟨z1, hz1, s1⟩, cl, z2, hz2, s2⟩ : ∃ S : Nat → Prop, (∃ z, Z z ∧ S z) ∧ (∀ a b, S a → (Z a ∧ nr a b ∧ Z b ∧ True) → S b) ∧ ∃ z, Z z ∧ ¬ S z := by
          refine Classical.not_not.mp (fun q => c (fun S h1 h2 z hz => Classical.not_not.mp (fun nz => q ⟨S, h1, h2, z, hz, nz⟩)))
        have i1 := ih (fun x => Z x ∧ S x) (fun z h => hZ z h.1) (by
          have h1 := ct_ins (P := Z) 9 (G.r9 z2 (hZ z2 hz2)) hz2
          have h2 := ct_le (P := fun x => Z x ∧ S x) (Q := fun j => Z j ∧ j ≠ z2) 9 (fun i _ h => ⟨h.1, fun e => s2 (e ▸ h.2)⟩)
          omega)
        have i2 := ih (fun x => Z x ∧ ¬ S x) (fun z h => hZ z h.1) (by
          have h1 := ct_ins (P := Z) 9 (G.r9 z1 (hZ z1 hz1)) hz1
          have h2 := ct_le (P := fun x => Z x ∧ ¬ S x) (Q := fun j => Z j ∧ j ≠ z1) 9 (fun i _ h => ⟨h.1, fun e => h.2 (e ▸ s1)⟩)
          omega)
        have e1 := ct_sp (P := Z) S 9
        have e2 : sz Z (dgr nr) = sz (fun x => Z x ∧ S x) (dgr nr) + sz (fun x => Z x ∧ ¬ S x) (dgr nr) := by
          unfold sz
          rw [← su_add]
          refine su_cg 9 (fun r _ => ?_)
          show ic (Z r) * dgr nr r = ic (Z r ∧ S r) * dgr nr r + ic (Z r ∧ ¬ S r) * dgr nr r
          rw [← Nat.add_mul, ← ic_sp]
        have e3 : ct (inZ A B C Z) f ≤ ct (inZ A B C (fun x => Z x ∧ S x)) f + ct (inZ A B C (fun x => Z x ∧ ¬ S x)) f := by
          unfold ct
          rw [← su_add]
          refine su_le f (fun g hg => ?_)
          by_cases q : inZ A B C Z g
          · have h0 : fdt A B C g (A g) (B g) := Or.inl ⟨rfl, rfl⟩
            obtain ⟨n1, n2, n3, n4, n5⟩ := F.nx G hg h0
            have n6 := (F.nx G hg n4).2.2.1
            rw [(F.ab g hg).2.2.2.2] at n6
            rw [ic_t q]
            have st : ∀ a b, Z a → Z b → nr a b → (S a ↔ S b) := fun a b za zb h => ⟨fun s => cl a b s ⟨za, h, zb, trivial⟩, fun s => cl b a s ⟨zb, G.sy _ _ h, za, trivial⟩⟩
            have x1 := st _ _ q.1 q.2.1 n3
            have x2 := st _ _ q.2.1 q.2.2 n6
            by_cases s : S (A g)
            · rw [ic_t (show inZ A B C (fun x => Z x ∧ S x) g from ⟨⟨q.1, s⟩, ⟨q.2.1, x1.mp s⟩, ⟨q.2.2, x2.mp (x1.mp s)⟩⟩)]; omega
            · rw [ic_t (show inZ A B C (fun x => Z x ∧ ¬ S x) g from ⟨⟨q.1, s⟩, ⟨q.2.1, fun t => s (x1.mpr t)⟩, ⟨q.2.2, fun t => s (x1.mpr (x2.mpr t))⟩⟩)]; omega
          · rw [ic_f q]; exact Nat.zero_le _
        omega
    · have no : ∀ z, ¬ Z z := fun z hz => ne ⟨z, hz⟩
      rw [ct_z f (fun g _ q => no _ q.1), ct_z 9 (fun z _ => no z)]
      omega
/-- what spans and passes over triangles holds along all joins -/
def PLa (rm : Nat → Prop) (nr : Nat → Nat → Prop) (Bp : Nat → Nat → Nat) : Prop := ∀ Gd : Nat → Nat → Prop, (∀ i j, Gd i j → Gd j i) → (∀ S : Nat → Prop, (∃ i, rm i ∧ S i) → (∀ i j, rm i → S i → rm j → nr i j → Gd i j → S j) → ∀ i, rm i → S i) → (∀ a b, rm a → rm b → nr a b → rm (Bp b a) → Gd b (Bp b a) → Gd (Bp b a) a → Gd a b) → ∀ a b, rm a → rm b → nr a b → Gd a b
theorem euler (G : GP rm nr Bp) (F : FA rm nr Bp f A B C lb) (P : PLa rm nr Bp) (ne : ∃ r, rm r) : pc (fun r v => rm r ∧ nr r v ∧ rm v ∧ True) + 2 ≤ 2 * f + 2 * ct rm 9 := by
  have hE : ∀ a b, (rm a ∧ nr a b ∧ rm b ∧ True) → rm a ∧ a ≠ b := fun a b h => ⟨h.1, (G.nd _ _ h.2.1).1⟩
  have sy : ∀ a b, (rm a ∧ nr a b ∧ rm b ∧ True) → (rm b ∧ nr b a ∧ rm a ∧ True) := fun a b h => ⟨h.2.2.1, G.sy _ _ h.2.1, h.1, trivial⟩
  obtain ⟨r0, hr0⟩ := ne
  obtain ⟨T, t1, t2, t3, t4⟩ := tree_ex (Z := rm) (E := fun r v => rm r ∧ nr r v ∧ rm v ∧ True) G.r9 sy hE (fun S h1 h2 => G.rc S h1 (fun a b ha sa hb hab => h2 a b sa ⟨ha, hab, hb, trivial⟩)) (ct_ge 9 (G.r9 r0 hr0) hr0)
  have grow : ∀ (N : Nat) (E : Nat → Nat → Prop), ct (fun g => ¬ ∀ a b, fdt A B C g a b → E a b) f ≤ N → (∀ a b, E a b → E b a) → (∀ a b, E a b → (rm a ∧ nr a b ∧ rm b ∧ True)) → con rm E → pc (fun r v => rm r ∧ nr r v ∧ rm v ∧ True) ≤ pc E + 2 * N := by
    intro N
    induction N with
    | zero =>
      intro E h0 e1 e2 c
      have all := P E e1 (fun S hS cl => c S hS (fun a b sa hab => cl a b (e2 a b hab).1 sa (e2 a b hab).2.2.1 (e2 a b hab).2.1 hab)) (fun a b ha hb hab hc _ _ => by
        obtain ⟨g, hg, h⟩ := F.ex a b ha hb hab hc
        refine Classical.not_not.mp (fun q => ?_)
        have := ct_ge (P := fun g => ¬ ∀ a b, fdt A B C g a b → E a b) f hg (fun z => q (z a b h))
        omega)
      exact Nat.le_trans (pc_le (fun a b h => all a b h.1 h.2.2.1 h.2.1)) (Nat.le_add_right _ _)
    | succ N ih =>
      intro E hN e1 e2 c
      by_cases all : ∀ a b, (rm a ∧ nr a b ∧ rm b ∧ True) → E a b
      · exact Nat.le_trans (pc_le all) (Nat.le_add_right _ _)
      · obtain ⟨a, b, ra, rb, nab, rc, g1, g2, ng⟩ : ∃ a b, rm a ∧ rm b ∧ nr a b ∧ rm (Bp b a) ∧ E b (Bp b a) ∧ E (Bp b a) a ∧ ¬ E a b := by
          refine Classical.not_not.mp (fun q => all ?_)
          have := P E e1 (fun S hS cl => c S hS (fun a b sa hab => cl a b (e2 a b hab).1 sa (e2 a b hab).2.2.1 (e2 a b hab).2.1 hab)) (fun a b ha hb hab hc h1 h2 => Classical.not_not.mp (fun z => q ⟨a, b, ha, hb, hab, hc, h1, h2, z⟩))
          exact fun a b h => this a b h.1 h.2.2.1 h.2.1
        obtain ⟨g, hg, h⟩ := F.ex a b ra rb nab rc
        have i := ih (fun x y => E x y ∨ (x = a ∧ y = b) ∨ (x = b ∧ y = a)) (by
            have h1 := ct_ins (P := fun g => ¬ ∀ a b, fdt A B C g a b → E a b) f hg (fun z => ng (z a b h))
            have h2 := ct_le (P := fun g => ¬ ∀ x y, fdt A B C g x y → (E x y ∨ (x = a ∧ y = b) ∨ (x = b ∧ y = a))) (Q := fun j => (¬ ∀ a b, fdt A B C j a b → E a b) ∧ j ≠ g) f (fun j hj q => ⟨fun z => q (fun x y k => Or.inl (z x y k)), fun e => q (fun x y k => by
              subst e
              obtain ⟨_, _, _, f2, f3⟩ := F.nx G hj h
              have lx := F.lb j hj
              -- the three darts of this face
              have only : (x = a ∧ y = b) ∨ (x = b ∧ y = Bp b a) ∨ (x = Bp b a ∧ y = a) := by
                have fb := (F.ab j hj).2.2.2.2
                have t := G.tr (B j) (A j) (F.ab j hj).2.1 (G.sy _ _ (F.ab j hj).2.2.2.1)
                rw [fb] at t
                rcases h with ⟨p1, p2⟩ | ⟨p1, p2⟩ | ⟨p1, p2⟩
                · have e : Bp b a = C j := by rw [p1, p2]; exact fb
                  rw [e, p1, p2]; exact k
                · have e : Bp b a = A j := by rw [p1, p2]; exact t.1
                  rw [e, p1, p2]
                  rcases k with k | k | k
                  · exact Or.inr (Or.inr k)
                  · exact Or.inl k
                  · exact Or.inr (Or.inl k)
                · have e : Bp b a = B j := by rw [p1, p2]; exact t.2
                  rw [e, p1, p2]
                  rcases k with k | k | k
                  · exact Or.inr (Or.inl k)
                  · exact Or.inr (Or.inr k)
                  · exact Or.inl k
              rcases only with o | o | o
              · exact Or.inr (Or.inl o)
              · rw [o.1, o.2]; exact Or.inl g1
              · rw [o.1, o.2]; exact Or.inl g2)⟩)
            omega) (fun x y k => by
            rcases k with k | k | k
            · exact Or.inl (e1 _ _ k)
            · exact Or.inr (Or.inr ⟨k.2, k.1⟩)
            · exact Or.inr (Or.inl ⟨k.2, k.1⟩)) (fun x y k => by
            rcases k with k | ⟨rfl, rfl⟩ | ⟨rfl, rfl⟩
            · exact e2 _ _ k
            · exact ⟨ra, nab, rb, trivial⟩
            · exact ⟨rb, G.sy _ _ nab, ra, trivial⟩) (fun S hS cl => c S hS (fun x y sx k => cl x y sx (Or.inl k)))
        have := pc_2l (E := E) (E' := fun x y => E x y ∨ (x = a ∧ y = b) ∨ (x = b ∧ y = a)) (a := a) (b := b) (fun x y k => k)
        omega
  have := grow f T (ct_n f) t1 t2 t3
  omega
/-- at most four corners between two sides -/
theorem oo4 (G : GP rm nr Bp) : ct (fun p => OO nr Bp rm (p / 13) (p % 13)) 117 ≤ 4 := by
  have sid : ∀ r v, OO nr Bp rm r v → ∃ s, s < 4 ∧ v = 9 + s ∧ Bp r v = 9 + (s + 1) % 4 := fun r v ⟨h1, h2, h3, h4⟩ => by
    have a := (G.nd v r (G.sy _ _ h2)).2.resolve_left h3
    have b := (G.nd _ r (G.sy _ _ (G.nx r v h2))).2.resolve_left h4
    have := G.so r (v - 9) (Bp r v - 9) h1 (by omega) (by omega) (by rw [show 9 + (v - 9) = v by omega]; exact h2) (by rw [show 9 + (v - 9) = v by omega]; omega)
    exact ⟨v - 9, by omega, by omega, by omega⟩
  have e : ct (fun p => OO nr Bp rm (p / 13) (p % 13)) 117 = ct (fun s => ∃ p, p < 117 ∧ OO nr Bp rm (p / 13) (p % 13) ∧ p % 13 - 9 = s) 4 := ct_re (F := fun p => p % 13 - 9) 117 4 (fun p hp h => by
      obtain ⟨s, s4, e, _⟩ := sid _ _ h
      exact ⟨by show p % 13 - 9 < 4; omega, p, hp, h, rfl⟩) (fun p q hp hq h k e => by
      obtain ⟨s, s4, e1, e2⟩ := sid _ _ h
      obtain ⟨t, t4, e3, e4⟩ := sid _ _ k
      have e' : p % 13 - 9 = q % 13 - 9 := e
      have st : s = t := by omega
      have vv : p % 13 = q % 13 := by omega
      have t1 := (G.tr _ _ h.1 h.2.1).2
      have t2 := (G.tr _ _ k.1 k.2.1).2
      rw [e2] at t1
      rw [e4, ← vv, ← st, t1] at t2
      omega) (fun s _ ⟨p, hp, h, e⟩ => ⟨p, hp, h, e⟩)
  rw [e]
  exact ct_n 4
/-- the straight rooms: each room just so often that four corners are left -/
theorem choice_ex (G : GP rm nr Bp) (F : FA rm nr Bp f A B C lb) (P : PLa rm nr Bp) (ne : ∃ r, rm r) : ∃ st : Nat → Nat, (∀ g, g < f → st g = A g ∨ st g = B g ∨ st g = C g) ∧ ∀ r, rm r → ct (fun g => st g = r) f + 4 = dgr nr r := by
  have d4 : ∀ r, rm r → 4 ≤ dgr nr r := fun r hr => by
    have r9 := G.r9 r hr
    have := dlt G F 1 (fun x => x = r) (fun z e => e ▸ hr) (by rw [ct_u (P := fun x => x = r) (i := r) 9 r9 rfl (fun j _ e => e)]; exact Nat.le_refl 1)
    rw [ct_u (P := fun x => x = r) (i := r) 9 r9 rfl (fun j _ e => e)] at this
    have e : sz (fun x => x = r) (dgr nr) = dgr nr r := by
      unfold sz
      rw [su_1 (i := r) 9 r9 (fun j _ nj => by rw [ic_f nj, Nat.zero_mul]), ic_t rfl, Nat.one_mul]
    omega
  obtain ⟨cap, hc⟩ : ∃ cap : Nat → Nat, cap = fun r => ic (rm r) * (dgr nr r - 4) := ⟨_, rfl⟩
  have hz : ∀ Z, sz Z cap + 4 * ct (fun x => Z x ∧ rm x) 9 = sz (fun x => Z x ∧ rm x) (dgr nr) := fun Z => by
    rw [← sz_1, ← sz_mul]
    unfold sz
    rw [← su_add]
    refine su_cg 9 (fun r _ => ?_)
    show ic (Z r) * cap r + ic (Z r ∧ rm r) * (4 * 1) = ic (Z r ∧ rm r) * dgr nr r
    rw [hc]
    by_cases z : Z r
    · by_cases k : rm r
      · have := d4 r k
        show ic (Z r) * (ic (rm r) * (dgr nr r - 4)) + _ = _
        rw [ic_t z, ic_t k, ic_t ⟨z, k⟩]; omega
      · show ic (Z r) * (ic (rm r) * (dgr nr r - 4)) + _ = _
        rw [ic_f k, ic_f (P := Z r ∧ rm r) (fun q => k q.2)]; omega
    · show ic (Z r) * (ic (rm r) * (dgr nr r - 4)) + _ = _
      rw [ic_f z, ic_f (P := Z r ∧ rm r) (fun q => z q.1)]; omega
  obtain ⟨st, s1, s2⟩ := hall f cap (fun g hg => ⟨G.r9 _ (F.ab g hg).1, G.r9 _ (F.ab g hg).2.1, G.r9 _ (F.ab g hg).2.2.1⟩) (fun Z => by
    have h1 := dlt G F 9 (fun x => Z x ∧ rm x) (fun z h => h.2) (ct_n 9)
    have h2 := hz Z
    have h3 : ct (inZ A B C Z) f = ct (inZ A B C (fun x => Z x ∧ rm x)) f := ct_cg f (fun g hg => ⟨fun q => ⟨⟨q.1, (F.ab g hg).1⟩, ⟨q.2.1, (F.ab g hg).2.1⟩, ⟨q.2.2, (F.ab g hg).2.2.1⟩⟩, fun q => ⟨q.1.1, q.2.1.1, q.2.2.1⟩⟩)
    omega)
  -- all is used up
  have tot : su (fun r => ct (fun g => st g = r) f) 9 = f := by
    show su (fun r => su (fun g => ic (st g = r)) f) 9 = f
    rw [su_sw, su_cg f (g := fun _ => 1) (fun g hg => by
      have r9 : st g < 9 := by
        obtain ⟨a1, a2, a3, _⟩ := F.ab g hg
        rcases s1 g hg with e | e | e
        · rw [e]; exact G.r9 _ a1
        · rw [e]; exact G.r9 _ a2
        · rw [e]; exact G.r9 _ a3
      rw [su_1 (i := st g) 9 r9 (fun j _ nj => ic_f (fun z => nj z.symm)), ic_t rfl])]
    have : ∀ n, su (fun _ => 1) n = n := fun n => by
      induction n with
      | zero => rfl
      | succ n ih => show su (fun _ => 1) n + 1 = n + 1; rw [ih]
    exact this f
  have capT : su cap 9 ≤ f := by
    have h1 := hz (fun _ => True)
    have e0 : sz (fun _ => True) cap = su cap 9 := su_cg 9 (fun r _ => by show ic True * cap r = cap r; rw [ic_t trivial, Nat.one_mul])
    have e1 : ct (fun x => True ∧ rm x) 9 = ct rm 9 := ct_cg 9 (fun x _ => ⟨fun q => q.2, fun q => ⟨trivial, q⟩⟩)
    have e2 : sz (fun x => True ∧ rm x) (dgr nr) = sz rm (dgr nr) := su_cg 9 (fun r _ => by
      show ic (True ∧ rm r) * dgr nr r = ic (rm r) * dgr nr r
      rw [ic_cg (show (True ∧ rm r) ↔ rm r from ⟨fun q => q.2, fun q => ⟨trivial, q⟩⟩)])
    have h2 := corns G F (Z := rm) (fun z h => h)
    have h3 := euler G F P ne
    have h4 := oo4 G
    have h5 : ct (inZ A B C rm) f = f := by
      have : ct (inZ A B C rm) f = ct (fun _ => True) f := ct_cg f (fun g hg => ⟨fun _ => trivial, fun _ => ⟨(F.ab g hg).1, (F.ab g hg).2.1, (F.ab g hg).2.2.1⟩⟩)
      rw [this]
      have : ∀ n, ct (fun _ => True) n = n := fun n => by
        induction n with
        | zero => rfl
        | succ n ih => show ct (fun _ => True) n + ic True = n + 1; rw [ih, ic_t trivial]
      exact this f
    rw [e0, e1, e2] at h1
    omega
  have eq := su_eq 9 s2 (by rw [tot]; exact capT)
  refine ⟨st, s1, fun r hr => ?_⟩
  have := eq r (G.r9 r hr)
  have h4 := d4 r hr
  have e : cap r = dgr nr r - 4 := by rw [hc]; show ic (rm r) * _ = _; rw [ic_t hr, Nat.one_mul]
  show ct (fun g => st g = r) f + 4 = _
  rw [show ct (fun g => st g = r) f = cap r from this]
  omega
end CHO
end
section
-- layouts and choices
section LAY
variable {rm : Nat → Prop} {nr : Nat → Nat → Prop} {Bp : Nat → Nat → Nat} {f : Nat} {A B C : Nat → Nat} {lb : Nat → Nat → Nat}
/-- around a node, once -/
def ENU (nr : Nat → Nat → Prop) (Bp : Nat → Nat → Nat) (u : Nat) (w : Nat → Nat) (dg : Nat) : Prop := (∀ k, nr u (w k) ∧ w (k + 1) = Bp u (w k)) ∧ 1 ≤ dg ∧ w dg = w 0 ∧ (∀ k l, k < l → l < dg → w k ≠ w l) ∧ ∀ v, nr u v → ∃ k, k < dg ∧ w k = v
theorem enu (G : GP rm nr Bp) {u v0 : Nat} (h : nr u v0) : ∃ w dg, w 0 = v0 ∧ ENU nr Bp u w dg := by
  obtain ⟨w, w0, ws⟩ : ∃ w : Nat → Nat, w 0 = v0 ∧ ∀ k, w (k + 1) = Bp u (w k) := ⟨fun k => Nat.rec v0 (fun _ x => Bp u x) k, rfl, fun _ => rfl⟩
  have wn : ∀ k, nr u (w k) := fun k => by
    induction k with
    | zero => rw [w0]; exact h
    | succ k ih => rw [ws]; exact G.nx _ _ ih
  have back : ∀ a b, w a = w (a + b) → w 0 = w b := fun a => by
    induction a with
    | zero => intro b e; rw [Nat.zero_add] at e; exact e
    | succ a ih =>
      intro b e
      rw [show a + 1 + b = (a + b) + 1 by omega, ws, ws] at e
      exact ih b (G.ij u _ _ (wn _) (wn _) e)
  obtain ⟨i, j, h1, h2, h3⟩ := pig 13 w (fun k _ => (G.lt (wn k)).2)
  have lst : ∀ d, 1 ≤ d → w d = w 0 → ∃ dg, 1 ≤ dg ∧ w dg = w 0 ∧ ∀ k, 1 ≤ k → k < dg → w k ≠ w 0 := by
    intro d
    induction d using Nat.strongRecOn with
    | ind d IH =>
      intro d1 e
      by_cases q : ∃ k, 1 ≤ k ∧ k < d ∧ w k = w 0
      · obtain ⟨k, k1, k2, k3⟩ := q
        exact IH k k2 k1 k3
      · exact ⟨d, d1, e, fun k k1 k2 k3 => q ⟨k, k1, k2, k3⟩⟩
  obtain ⟨dg, g1, g2, g3⟩ := lst (j - i) (by omega) (back i (j - i) (by rw [show i + (j - i) = j by omega]; exact h3)).symm
  refine ⟨w, dg, w0, fun k => ⟨wn k, ws k⟩, g1, g2, fun k l hkl hl e => ?_, ?_⟩
  · have := back k (l - k) (by rw [show k + (l - k) = l by omega]; exact e)
    exact g3 (l - k) (by omega) (by omega) this.symm
  · exact G.tv u (fun v => ∃ k, k < dg ∧ w k = v) ⟨v0, h, 0, by omega, w0⟩ (fun v _ ⟨k, hk, e⟩ => by
      by_cases q : k + 1 < dg
      · exact ⟨k + 1, q, by rw [ws, e]⟩
      · exact ⟨0, by omega, by rw [← g2, show dg = k + 1 by omega, ws, e]⟩)
theorem enu_ct (G : GP rm nr Bp) {u dg : Nat} {w : Nat → Nat} (E : ENU nr Bp u w dg) (P : Nat → Prop) : ct (fun v => nr u v ∧ P v) 13 = ct (fun k => P (w k)) dg := by
  obtain ⟨e1, e2, e3, e4, e5⟩ := E
  refine (ct_re (P := fun k => P (w k)) (Q := fun v => nr u v ∧ P v) (F := w) dg 13 (fun k _ h => ⟨(G.lt (e1 k).1).2, (e1 k).1, h⟩) (fun i j hi hj _ _ e => ?_) (fun v _ h => ?_)).symm
  · rcases Nat.lt_trichotomy i j with q | q | q
    · exact absurd e (e4 i j q hj)
    · exact q
    · exact absurd e.symm (e4 j i q hi)
  · obtain ⟨k, hk, e⟩ := e5 v h.1
    exact ⟨k, hk, by show P (w k); rw [e]; exact h.2, e⟩
/-- where the wall goes straight on -/
def stq (rm : Nat → Prop) (Bp lb : Nat → Nat → Nat) (st : Nat → Nat) (r v : Nat) : Prop := rm v ∧ rm (Bp r v) ∧ st (lb v r) = r
def CHa (rm : Nat → Prop) (nr : Nat → Nat → Prop) (f : Nat) (A B C st : Nat → Nat) : Prop := (∀ g, g < f → st g = A g ∨ st g = B g ∨ st g = C g) ∧ ∀ r, rm r → ct (fun g => st g = r) f + 4 = dgr nr r
def ROa (rm : Nat → Prop) (nr : Nat → Nat → Prop) (Bp lb : Nat → Nat → Nat) (st : Nat → Nat) (b : Nat → Nat → Nat) : Prop := ∀ r v, rm r → nr r v → b r v < 4 ∧ b r (Bp r v) = (b r v + ic (¬ stq rm Bp lb st r v)) % 4
def LYa (rm : Nat → Prop) (nr : Nat → Nat → Prop) (Bp : Nat → Nat → Nat) (sd : Nat → Nat → Nat) : Prop := (∀ a b, rm a → rm b → nr a b → sd b a = (sd a b + 2) % 4) ∧ (∀ r v, rm r → nr r v → sd r v < 4) ∧ (∀ r s, rm r → s < 4 → nr r (9 + s) → sd r (9 + s) = s) ∧ (∀ r v, rm r → nr r v → sd r (Bp r v) = sd r v ∨ sd r (Bp r v) = (sd r v + 1) % 4) ∧ (∀ r q, rm r → q < 4 → ∃ v, nr r v ∧ sd r v = q ∧ sd r (Bp r v) = (q + 1) % 4 ∧ ∀ v', nr r v' → sd r v' = q → sd r (Bp r v') = (q + 1) % 4 → v' = v)
theorem LYa.op {rm : Nat → Prop} {nr : Nat → Nat → Prop} {Bp : Nat → Nat → Nat} {sd : Nat → Nat → Nat} (h : LYa rm nr Bp sd) : ∀ a b, rm a → rm b → nr a b → sd b a = (sd a b + 2) % 4 := h.1
theorem LYa.lt {rm : Nat → Prop} {nr : Nat → Nat → Prop} {Bp : Nat → Nat → Nat} {sd : Nat → Nat → Nat} (h : LYa rm nr Bp sd) : ∀ r v, rm r → nr r v → sd r v < 4 := h.2.1
theorem LYa.sd {rm : Nat → Prop} {nr : Nat → Nat → Prop} {Bp : Nat → Nat → Nat} {sd : Nat → Nat → Nat} (h : LYa rm nr Bp sd) : ∀ r s, rm r → s < 4 → nr r (9 + s) → sd r (9 + s) = s := h.2.2.1
theorem LYa.rw {rm : Nat → Prop} {nr : Nat → Nat → Prop} {Bp : Nat → Nat → Nat} {sd : Nat → Nat → Nat} (h : LYa rm nr Bp sd) : ∀ r v, rm r → nr r v → sd r (Bp r v) = sd r v ∨ sd r (Bp r v) = (sd r v + 1) % 4 := h.2.2.2.1
theorem LYa.on {rm : Nat → Prop} {nr : Nat → Nat → Prop} {Bp : Nat → Nat → Nat} {sd : Nat → Nat → Nat} (h : LYa rm nr Bp sd) : ∀ r q, rm r → q < 4 → ∃ v, nr r v ∧ sd r v = q ∧ sd r (Bp r v) = (q + 1) % 4 ∧ ∀ v', nr r v' → sd r v' = q → sd r (Bp r v') = (q + 1) % 4 → v' = v := h.2.2.2.2
/-- the outline with its sides -/
def OTa (rm : Nat → Prop) (nr : Nat → Nat → Prop) (Bp : Nat → Nat → Nat) (L : Nat) (o : Nat → Nat) : Prop := (1 ≤ L) ∧ (∀ k, rm (o k)) ∧ (∀ k, o (k + L) = o k) ∧ (∀ r s, rm r → s < 4 → nr r (9 + s) → ∃ k, k < L ∧ o k = r) ∧ (∀ k, ∃ s0 c, s0 < 4 ∧ 1 ≤ c ∧ c ≤ 3 ∧ (∀ s, s < 4 → (nr (o k) (9 + s) ↔ ∃ j, j < c ∧ s = (s0 + j) % 4)) ∧ (∀ j, j + 1 < c → Bp (o k) (9 + (s0 + j) % 4) = 9 + (s0 + (j + 1)) % 4) ∧ Bp (o k) (9 + (s0 + (c - 1)) % 4) = o (k + 1))
theorem OTa.l1 {rm : Nat → Prop} {nr : Nat → Nat → Prop} {Bp : Nat → Nat → Nat} {L : Nat} {o : Nat → Nat} (h : OTa rm nr Bp L o) : 1 ≤ L := h.1
theorem OTa.ro {rm : Nat → Prop} {nr : Nat → Nat → Prop} {Bp : Nat → Nat → Nat} {L : Nat} {o : Nat → Nat} (h : OTa rm nr Bp L o) : ∀ k, rm (o k) := h.2.1
theorem OTa.pe {rm : Nat → Prop} {nr : Nat → Nat → Prop} {Bp : Nat → Nat → Nat} {L : Nat} {o : Nat → Nat} (h : OTa rm nr Bp L o) : ∀ k, o (k + L) = o k := h.2.2.1
theorem OTa.cv {rm : Nat → Prop} {nr : Nat → Nat → Prop} {Bp : Nat → Nat → Nat} {L : Nat} {o : Nat → Nat} (h : OTa rm nr Bp L o) : ∀ r s, rm r → s < 4 → nr r (9 + s) → ∃ k, k < L ∧ o k = r := h.2.2.2.1
theorem OTa.fs {rm : Nat → Prop} {nr : Nat → Nat → Prop} {Bp : Nat → Nat → Nat} {L : Nat} {o : Nat → Nat} (h : OTa rm nr Bp L o) : ∀ k, ∃ s0 c, s0 < 4 ∧ 1 ≤ c ∧ c ≤ 3 ∧ (∀ s, s < 4 → (nr (o k) (9 + s) ↔ ∃ j, j < c ∧ s = (s0 + j) % 4)) ∧ (∀ j, j + 1 < c → Bp (o k) (9 + (s0 + j) % 4) = 9 + (s0 + (j + 1)) % 4) ∧ Bp (o k) (9 + (s0 + (c - 1)) % 4) = o (k + 1) := h.2.2.2.2
/-- order and anchors -/
def ANa (rm : Nat → Prop) (nr : Nat → Nat → Prop) (R : Nat) (od an : Nat → Nat) (b : Nat → Nat → Nat) : Prop := (∀ r, rm r → ∃ k, k < R ∧ od k = r) ∧ ∀ k, k < R → rm (od k) ∧ nr (od k) (an k) ∧ ((∃ s, s < 4 ∧ an k = 9 + s ∧ b (od k) (9 + s) = s) ∨ ((∀ s, s < 4 → ¬ nr (od k) (9 + s)) ∧ ∃ j, j < k ∧ an k = od j ∧ b (od k) (od j) = (b (od j) (od k) + 2) % 4))
theorem GP.s13 (G : GP rm nr Bp) {u v : Nat} (h : nr u v) : rm v ∨ ∃ s, s < 4 ∧ v = 9 + s := by
  rcases (G.nd v u (G.sy _ _ h)).2 with q | q
  · exact Or.inl q
  · exact Or.inr ⟨v - 9, by omega, by omega⟩
theorem GP.nsd (G : GP rm nr Bp) {s : Nat} : ¬ rm (9 + s) := fun h => by have := G.r9 _ h; omega
/-- rows with the same anchors are the same -/
theorem ro_uq (G : GP rm nr Bp) {st od an : Nat → Nat} {R : Nat} {b b' : Nat → Nat → Nat} (h : ROa rm nr Bp lb st b) (h' : ROa rm nr Bp lb st b') (a : ANa rm nr R od an b) (a' : ANa rm nr R od an b') : ∀ r v, rm r → nr r v → b r v = b' r v := by
  have key : ∀ k, k < R → ∀ v, nr (od k) v → b (od k) v = b' (od k) v := by
    intro k
    induction k using Nat.strongRecOn with
    | ind k IH =>
      intro hk
      obtain ⟨r1, n1, c1⟩ := a.2 k hk
      obtain ⟨_, _, c2⟩ := a'.2 k hk
      refine G.tv (od k) (fun v => b (od k) v = b' (od k) v) ⟨an k, n1, ?_⟩ (fun v hv e => ?_)
      · rcases c1 with ⟨s, s4, e1, e2⟩ | ⟨ns, j, hj, e1, e2⟩
        · rcases c2 with ⟨s', s4', e3, e4⟩ | ⟨ns', _⟩
          · have : s = s' := by omega
            subst this
            show b (od k) (an k) = b' (od k) (an k)
            rw [e1, e2, e4]
          · rw [e1] at n1; exact absurd n1 (ns' s s4)
        · rcases c2 with ⟨s', s4', e3, e4⟩ | ⟨ns', j', hj', e3, e4⟩
          · rw [e3] at n1; exact absurd n1 (ns s' s4')
          · show b (od k) (an k) = b' (od k) (an k)
            have ej : od j' = od j := e3.symm.trans e1
            rw [ej] at e4
            rw [e1, e2, e4, IH j hj (by omega) (od k) (by rw [e1] at n1; exact G.sy _ _ n1)]
      · show b (od k) (Bp (od k) v) = b' (od k) (Bp (od k) v)
        have e' : b (od k) v = b' (od k) v := e
        rw [(h _ v r1 hv).2, (h' _ v r1 hv).2, e']
  intro r v hr hv
  obtain ⟨k, hk, e⟩ := a.1 r hr
  subst e
  exact key k hk v hv
/-- the straight corners of a room are the faces that it is straight in -/
theorem stp_ct (G : GP rm nr Bp) (F : FA rm nr Bp f A B C lb) {st : Nat → Nat} (c1 : ∀ g, g < f → st g = A g ∨ st g = B g ∨ st g = C g) {r : Nat} (hr : rm r) : ct (fun v => nr r v ∧ stq rm Bp lb st r v) 13 = ct (fun g => st g = r) f := by
  refine ct_re (F := fun v => lb v r) 13 f (fun v _ ⟨h1, h2, h3, h4⟩ => ?_) (fun v v' _ _ ⟨h1, h2, h3, h4⟩ ⟨k1, k2, k3, k4⟩ e => ?_) (fun g hg e => ?_)
  · obtain ⟨g, hg, h⟩ := F.ex v r h2 hr (G.sy _ _ h1) h3
    have e := F.lb g hg _ _ h
    exact ⟨by show lb v r < f; rw [e]; exact hg, h4⟩
  · obtain ⟨g, hg, h⟩ := F.ex v r h2 hr (G.sy _ _ h1) h3
    obtain ⟨g', hg', h'⟩ := F.ex v' r k2 hr (G.sy _ _ k1) k3
    have e1 := F.lb g hg _ _ h
    have e2 := F.lb g' hg' _ _ h'
    have e' : lb v r = lb v' r := e
    have gg : g = g' := by omega
    subst gg
    -- the dart into r is one
    have t1 := (F.nx G hg h).2.2.2.1
    have t2 := (F.nx G hg h').2.2.2.1
    have bn : Bp r v = Bp r v' := by
      have x1 := (F.nx G hg t1).1
      have fb := (F.ab g hg).2.2.2.2
      have d1 := (G.nd _ _ (F.nx G hg (show fdt A B C g (A g) (B g) from Or.inl ⟨rfl, rfl⟩)).2.2.1).1
      have d2 := (G.nd _ _ (F.nx G hg (show fdt A B C g (B g) (C g) from Or.inr (Or.inl ⟨rfl, rfl⟩))).2.2.1).1
      have d3 := (G.nd _ _ (F.nx G hg (show fdt A B C g (C g) (A g) from Or.inr (Or.inr ⟨rfl, rfl⟩))).2.2.1).1
      rcases t1 with ⟨p1, p2⟩ | ⟨p1, p2⟩ | ⟨p1, p2⟩ <;> rcases t2 with ⟨q1, q2⟩ | ⟨q1, q2⟩ | ⟨q1, q2⟩ <;> first | exact p2.trans q2.symm | (exfalso; omega)
    exact G.ij r v v' h1 k1 bn
  · have e' : st g = r := e
    have pick : ∃ v, fdt A B C g v r := by
      rcases c1 g hg with q | q | q
      · exact ⟨C g, Or.inr (Or.inr ⟨rfl, e'.symm.trans q⟩)⟩
      · exact ⟨A g, Or.inl ⟨rfl, e'.symm.trans q⟩⟩
      · exact ⟨B g, Or.inr (Or.inl ⟨rfl, e'.symm.trans q⟩)⟩
    obtain ⟨v, hv⟩ := pick
    obtain ⟨n1, n2, n3, n4, n5⟩ := F.nx G hg hv
    have el := F.lb g hg _ _ hv
    exact ⟨v, (G.lt n3).1, ⟨G.sy _ _ n3, n1, (F.nx G hg n5).1, by rw [el]; exact e'⟩, el⟩
/-- in a face one room is straight -/
theorem face_1 (G : GP rm nr Bp) (F : FA rm nr Bp f A B C lb) {st : Nat → Nat} (c1 : ∀ g, g < f → st g = A g ∨ st g = B g ∨ st g = C g) {a b : Nat} (ha : rm a) (hb : rm b) (h : nr a b) (hc : rm (Bp b a)) : ic (¬ stq rm Bp lb st b a) + ic (¬ stq rm Bp lb st (Bp b a) b) + ic (¬ stq rm Bp lb st a (Bp b a)) = 2 := by
  obtain ⟨g, hg, hd⟩ := F.ex a b ha hb h hc
  obtain ⟨_, _, _, d2, d3⟩ := F.nx G hg hd
  have t := G.tr b a hb (G.sy _ _ h)
  have e1 := F.lb g hg _ _ hd
  have e2 := F.lb g hg _ _ d2
  have e3 := F.lb g hg _ _ d3
  have s1 : stq rm Bp lb st b a ↔ st g = b := by unfold stq; rw [e1]; exact ⟨fun q => q.2.2, fun q => ⟨ha, hc, q⟩⟩
  have s2 : stq rm Bp lb st (Bp b a) b ↔ st g = Bp b a := by unfold stq; rw [e2, t.1]; exact ⟨fun q => q.2.2, fun q => ⟨hb, ha, q⟩⟩
  have s3 : stq rm Bp lb st a (Bp b a) ↔ st g = a := by unfold stq; rw [e3, t.2]; exact ⟨fun q => q.2.2, fun q => ⟨hc, hb, q⟩⟩
  have n1 := (G.nd _ _ h).1
  have n2 := (G.nd _ _ (F.nx G hg d2).2.2.1).1
  have n3 := (G.nd _ _ (F.nx G hg d3).2.2.1).1
  have one : st g = a ∨ st g = b ∨ st g = Bp b a := by
    rcases hd with ⟨p1, p2⟩ | ⟨p1, p2⟩ | ⟨p1, p2⟩ <;> rcases d2 with ⟨q1, q2⟩ | ⟨q1, q2⟩ | ⟨q1, q2⟩ <;> rcases c1 g hg with k | k | k <;> omega
  rw [ic_cg (show (¬ stq rm Bp lb st b a) ↔ ¬ st g = b by rw [s1]), ic_cg (show (¬ stq rm Bp lb st (Bp b a) b) ↔ ¬ st g = Bp b a by rw [s2]), ic_cg (show (¬ stq rm Bp lb st a (Bp b a)) ↔ ¬ st g = a by rw [s3])]
  rcases one with k | k | k
  · rw [ic_t (show ¬ st g = b by rw [k]; exact n1), ic_t (show ¬ st g = Bp b a by rw [k]; exact fun z => n3 z.symm), ic_f (fun z => z k)]
  · rw [ic_f (fun z => z k), ic_t (show ¬ st g = Bp b a by rw [k]; exact n2), ic_t (show ¬ st g = a by rw [k]; exact fun z => n1 z.symm)]
  · rw [ic_t (show ¬ st g = b by rw [k]; exact fun z => n2 z.symm), ic_f (fun z => z k), ic_t (show ¬ st g = a by rw [k]; exact n3)]
/-- a function that goes up by ones from 0 to 4 -/
theorem four_up {t : Nat → Nat} {dg : Nat} (h0 : t 0 = 0) (hd : t dg = 4) (st : ∀ k, t (k + 1) = t k ∨ t (k + 1) = t k + 1) {j : Nat} (hj : j < 4) : ∃ k, k < dg ∧ t k = j ∧ t (k + 1) = j + 1 ∧ ∀ k', k' < dg → t k' = j → t (k' + 1) = j + 1 → k' = k := by
  have mono : ∀ a b, t a ≤ t (a + b) := fun a b => by
    induction b with
    | zero => exact Nat.le_refl _
    | succ b ih => have := st (a + b); rw [← Nat.add_assoc]; omega
  obtain ⟨k, k1, k2⟩ := cross (P := fun k => j < t k) (i := 0) dg (by show ¬ j < t 0; omega) (by show j < t (0 + dg); rw [Nat.zero_add]; omega)
  have s := st k
  refine ⟨k, ?_, by omega, by omega, fun k' _ e1 e2 => ?_⟩
  · rcases Nat.lt_or_ge k dg with q | q
    · exact q
    · have := mono dg (k - dg)
      rw [show dg + (k - dg) = k by omega] at this
      omega
  · rcases Nat.lt_trichotomy k' k with q | q | q
    · have := mono (k' + 1) (k - (k' + 1))
      rw [show k' + 1 + (k - (k' + 1)) = k by omega] at this
      omega
    · exact q
    · have := mono (k + 1) (k' - (k + 1))
      rw [show k + 1 + (k' - (k + 1)) = k' by omega] at this
      omega
/-- a choice gives a layout -/
theorem cho_lay (G : GP rm nr Bp) (F : FA rm nr Bp f A B C lb) (P : PLa rm nr Bp) {L : Nat} {o : Nat → Nat} (O : OTa rm nr Bp L o) {st od an : Nat → Nat} {R : Nat} {b : Nat → Nat → Nat} (c : CHa rm nr f A B C st) (h : ROa rm nr Bp lb st b) (a : ANa rm nr R od an b) : LYa rm nr Bp b := by
  have side : ∀ r s, rm r → s < 4 → nr r (9 + s) → b r (9 + s) = s := by
    intro r s hr hs hn
    obtain ⟨k, hk, e⟩ := a.1 r hr
    obtain ⟨_, n1, c1⟩ := a.2 k hk
    rw [e] at n1 c1
    rcases c1 with ⟨s1, s14, e1, e2⟩ | ⟨ns, _⟩
    · rw [e1] at n1
      obtain ⟨i, hi, ei⟩ := O.cv r s hr hs hn
      obtain ⟨s0, cc, s04, c1, c3, on, ch, _⟩ := O.fs i
      rw [ei] at on ch
      have run : ∀ j d, j + d < cc → b r (9 + (s0 + (j + d)) % 4) = (b r (9 + (s0 + j) % 4) + d) % 4 := fun j d => by
        induction d with
        | zero =>
          intro hj
          have := (h r _ hr ((on _ (Nat.mod_lt _ (by decide))).mpr ⟨j, by omega, rfl⟩)).1
          rw [Nat.add_zero, Nat.add_zero]; omega
        | succ d ih =>
          intro hj
          have i1 := ih (by omega)
          have x := (h r _ hr ((on _ (Nat.mod_lt (s0 + (j + d)) (by decide))).mpr ⟨j + d, by omega, rfl⟩)).2
          rw [ch (j + d) (by omega), ic_t (fun z => G.nsd z.1), i1] at x
          rw [← Nat.add_assoc j d 1, x]; omega
      obtain ⟨j1, hj1, ej1⟩ := (on s1 s14).mp n1
      obtain ⟨j, hj, ej⟩ := (on s hs).mp hn
      rcases Nat.le_total j1 j with q | q
      · have := run j1 (j - j1) (by omega)
        rw [show j1 + (j - j1) = j by omega, ← ej, ← ej1, e2] at this
        omega
      · have := run j (j1 - j) (by omega)
        rw [show j + (j1 - j) = j1 by omega, ← ej, ← ej1, e2] at this
        have l4 := (h r _ hr hn).1
        omega
    · exact absurd hn (ns s hs)
  have gd : ∀ x y, rm x → rm y → nr x y → (rm x ∧ rm y ∧ nr x y ∧ b y x = (b x y + 2) % 4) := P (fun x y => rm x ∧ rm y ∧ nr x y ∧ b y x = (b x y + 2) % 4) (fun i j q => ⟨q.2.1, q.1, G.sy _ _ q.2.2.1, by
      have := (h i j q.1 q.2.2.1).1
      rw [q.2.2.2]; omega⟩) (fun S hS cl => by
      have cl' : ∀ i j, rm i → rm j → nr i j → b j i = (b i j + 2) % 4 → (S i ↔ S j) := fun i j hi hj hij e => ⟨fun s => cl i j hi s hj hij ⟨hi, hj, hij, e⟩, fun s => cl j i hj s hi (G.sy _ _ hij) ⟨hj, hi, G.sy _ _ hij, by have := (h i j hi hij).1; rw [e]; omega⟩⟩
      -- along the outline
      have ol : ∀ k, S (o k) ↔ S (o (k + 1)) := fun k => by
        obtain ⟨s0, cc, s04, c1, c3, on, _, la⟩ := O.fs k
        have l4 : (s0 + (cc - 1)) % 4 < 4 := Nat.mod_lt _ (by decide)
        have n1 := (on _ l4).mpr ⟨cc - 1, by omega, rfl⟩
        have r1 := O.ro k
        have r2 := O.ro (k + 1)
        have t := G.tr _ _ r1 n1
        have f2 := (G.fc r1 n1).1
        have n2 := G.nx _ _ n1
        rw [la] at t n2 f2
        have x1 := (h _ _ r1 n1).2
        rw [la, ic_t (fun z => G.nsd z.1), side _ _ r1 l4 n1] at x1
        have x2 := h _ _ r2 (G.sy _ _ n2)
        rw [t.1, ic_t (fun z => by have y := z.2.1; rw [t.1] at y; exact G.nsd y), side _ _ r2 l4 f2] at x2
        exact cl' _ _ r1 r2 n2 (by rw [x1]; omega)
      have ol0 : ∀ k, S (o k) ↔ S (o 0) := fun k => by
        induction k with
        | zero => exact Iff.rfl
        | succ k ih => exact (ol k).symm.trans ih
      have all : ∀ k, k < R → (S (od k) ↔ S (o 0)) := by
        intro k
        induction k using Nat.strongRecOn with
        | ind k IH =>
          intro hk
          obtain ⟨r1, n1, c1⟩ := a.2 k hk
          rcases c1 with ⟨s, s4, e1, _⟩ | ⟨_, j, hj, e1, e2⟩
          · rw [e1] at n1
            obtain ⟨i, _, ei⟩ := O.cv _ s r1 s4 n1
            rw [← ei]; exact ol0 i
          · rw [e1] at n1
            have r2 := (a.2 j (by omega)).1
            exact (cl' _ _ r2 r1 (G.sy _ _ n1) e2).symm.trans (IH j hj (by omega))
      intro i hi
      obtain ⟨x, hx, sx⟩ := hS
      obtain ⟨k, hk, e⟩ := a.1 x hx
      obtain ⟨l, hl, e'⟩ := a.1 i hi
      have s0 : S (o 0) := by rw [← e] at sx; exact (all k hk).mp sx
      rw [← e']; exact (all l hl).mpr s0) (fun x y hx hy hxy hz g1 g2 => ⟨hx, hy, hxy, by
      have t := G.tr y x hy (G.sy _ _ hxy)
      have f1 := face_1 G F c.1 hx hy hxy hz
      have k1 := h y x hy (G.sy _ _ hxy)
      have k2 := h (Bp y x) y hz (G.sy _ _ g1.2.2.1)
      have k3 := h x (Bp y x) hx (G.sy _ _ g2.2.2.1)
      rw [t.1] at k2
      rw [t.2] at k3
      have e1 := g1.2.2.2
      have e2 := g2.2.2.2
      generalize ic (¬ stq rm Bp lb st y x) = i1 at *
      generalize ic (¬ stq rm Bp lb st (Bp y x) y) = i2 at *
      generalize ic (¬ stq rm Bp lb st x (Bp y x)) = i3 at *
      omega⟩)
  refine ⟨fun x y hx hy hxy => (gd x y hx hy hxy).2.2.2, fun r v hr hv => (h r v hr hv).1, side, fun r v hr hv => ?_, fun r q hr hq => ?_⟩
  · have x := h r v hr hv
    rw [x.2]
    by_cases z : stq rm Bp lb st r v
    · rw [ic_f (fun y => y z)]; left; omega
    · rw [ic_t z]; right; rfl
  · have cnt : ct (fun v => nr r v ∧ ¬ stq rm Bp lb st r v) 13 = 4 := by
      have h1 := c.2 r hr
      have h2 := stp_ct G F c.1 hr
      have h3 : dgr nr r = _ := ct_sp (P := nr r) (stq rm Bp lb st r) 13
      omega
    obtain ⟨v0, _, hv0, _⟩ := ct_pos 13 (show 0 < ct (fun v => nr r v ∧ ¬ stq rm Bp lb st r v) 13 by omega)
    obtain ⟨w, dg, w0, E⟩ := enu G hv0
    rw [enu_ct G E] at cnt
    obtain ⟨e1, e2, e3, e4, e5⟩ := id E
    have val : ∀ k, b r (w k) = (b r (w 0) + ct (fun k => ¬ stq rm Bp lb st r (w k)) k) % 4 := fun k => by
      induction k with
      | zero =>
        have := (h r _ hr (e1 0).1).1
        show _ = (b r (w 0) + 0) % 4
        omega
      | succ k ih =>
        rw [(e1 k).2, (h r _ hr (e1 k).1).2, ih]
        show _ = (b r (w 0) + (ct (fun k => ¬ stq rm Bp lb st r (w k)) k + ic (¬ stq rm Bp lb st r (w k)))) % 4
        omega
    have stpk : ∀ k, ct (fun k => ¬ stq rm Bp lb st r (w k)) (k + 1) = ct (fun k => ¬ stq rm Bp lb st r (w k)) k + ic (¬ stq rm Bp lb st r (w k)) := fun k => rfl
    have b0 := (h r _ hr (e1 0).1).1
    have up : ∀ k, ct (fun k => ¬ stq rm Bp lb st r (w k)) (k + 1) = ct (fun k => ¬ stq rm Bp lb st r (w k)) k ∨ ct (fun k => ¬ stq rm Bp lb st r (w k)) (k + 1) = ct (fun k => ¬ stq rm Bp lb st r (w k)) k + 1 := fun k => by
      have := stpk k
      have := ic_1 (P := ¬ stq rm Bp lb st r (w k))
      omega
    have mono : ∀ a b, ct (fun k => ¬ stq rm Bp lb st r (w k)) a ≤ ct (fun k => ¬ stq rm Bp lb st r (w k)) (a + b) := fun a b => by
      induction b with
      | zero => exact Nat.le_refl _
      | succ b ih => have := up (a + b); rw [← Nat.add_assoc]; omega
    obtain ⟨k, k1, k2, k3, k4⟩ := four_up (t := ct (fun k => ¬ stq rm Bp lb st r (w k))) (dg := dg) rfl cnt up (j := (q + 4 - b r (w 0)) % 4) (Nat.mod_lt _ (by decide))
    have vk := val k
    have vk1 := val (k + 1)
    refine ⟨w k, (e1 k).1, by omega, by rw [← (e1 k).2]; omega, fun v' hv' q1 q2 => ?_⟩
    obtain ⟨k', hk', ek'⟩ := e5 v' hv'
    subst ek'
    rw [← (e1 k').2] at q2
    have vk' := val k'
    have vk1' := val (k' + 1)
    have u := up k'
    have m := mono (k' + 1) (dg - (k' + 1))
    rw [show k' + 1 + (dg - (k' + 1)) = dg by omega] at m
    rw [k4 k' hk' (by omega) (by omega)]
end LAY
end
section
-- a layout gives a choice
section LCH
variable {rm : Nat → Prop} {nr : Nat → Nat → Prop} {Bp : Nat → Nat → Nat} {f : Nat} {A B C : Nat → Nat} {lb : Nat → Nat → Nat}
theorem ic_n {x y : Nat} (h : x = y) : ic (¬ x = y) = 0 := ic_f (fun z => z h)
/-- beside a side there is a corner -/
theorem lay_s1 (G : GP rm nr Bp) {sd : Nat → Nat → Nat} (Y : LYa rm nr Bp sd) {r s : Nat} (hr : rm r) (hs : s < 4) (h : nr r (9 + s)) : sd r (Bp r (9 + s)) = (s + 1) % 4 := by
  have e := Y.sd r s hr hs h
  have k := Y.rw r _ hr h
  rcases G.s13 (G.nx _ _ h) with hw | ⟨s', s4, e'⟩
  · have t := (G.tr r _ hr h).1
    have n := G.sy _ _ (G.nx _ _ h)
    have n2 := (G.fc hr h).1
    have k2 := Y.rw _ _ hw n
    rw [t] at k2
    have e2 := Y.sd _ s hw hs n2
    have o := Y.op r _ hr hw (G.nx _ _ h)
    have l1 := Y.lt _ _ hw n
    have l2 := Y.lt _ _ hr (G.nx _ _ h)
    generalize sd r (Bp r (9 + s)) = x at *
    generalize sd (Bp r (9 + s)) r = y at *
    omega
  · have so := G.so r s s' hr hs s4 h e'
    have n := G.nx _ _ h
    rw [e'] at n ⊢
    rw [Y.sd r s' hr s4 n]; exact so
theorem lay_s2 (G : GP rm nr Bp) {sd : Nat → Nat → Nat} (Y : LYa rm nr Bp sd) {r v s : Nat} (hr : rm r) (hv : rm v) (hs : s < 4) (h : nr r v) (e : Bp r v = 9 + s) : s = (sd r v + 1) % 4 := by
  have t := (G.tr r v hr h).2
  have n := (G.fc hr h).2
  rw [e] at t n
  have x := lay_s1 G Y hv hs n
  rw [t] at x
  have o := Y.op v r hv hr (G.sy _ _ h)
  omega
theorem lay_3 (G : GP rm nr Bp) {sd : Nat → Nat → Nat} (Y : LYa rm nr Bp sd) {a b : Nat} (ha : rm a) (hb : rm b) (h : nr a b) (hc : rm (Bp b a)) : ic (¬ sd b (Bp b a) = sd b a) + ic (¬ sd (Bp b a) a = sd (Bp b a) b) + ic (¬ sd a b = sd a (Bp b a)) = 2 ∧ (sd b (Bp b a) = (sd b a + ic (¬ sd b (Bp b a) = sd b a)) % 4) := by
  have t := G.tr b a hb (G.sy _ _ h)
  have n1 := G.nx _ _ (G.sy _ _ h)
  have n2 := (G.fc hb (G.sy _ _ h)).1
  have k1 := Y.rw b a hb (G.sy _ _ h)
  have k2 := Y.rw _ b hc (G.sy _ _ n1)
  have k3 := Y.rw a _ ha (G.sy _ _ n2)
  rw [t.1] at k2
  rw [t.2] at k3
  have o1 := Y.op a b ha hb h
  have o2 := Y.op b _ hb hc n1
  have o3 := Y.op _ a hc ha n2
  have l1 := Y.lt a b ha h
  have l2 := Y.lt b _ hb n1
  have l3 := Y.lt _ a hc n2
  have ii : ∀ x y : Nat, ic (¬ x = y) = if x = y then 0 else 1 := fun x y => by
    by_cases q : x = y
    · rw [if_pos q, ic_f (fun z => z q)]
    · rw [if_neg q, ic_t q]
  rw [ii, ii, ii]
  generalize sd b (Bp b a) = x1 at *
  generalize sd b a = x2 at *
  generalize sd (Bp b a) a = x3 at *
  generalize sd (Bp b a) b = x4 at *
  generalize sd a b = x5 at *
  generalize sd a (Bp b a) = x6 at *
  rcases k1 with k1 | k1 <;> rcases k2 with k2 | k2 <;> rcases k3 with k3 | k3
  · exfalso; omega
  · exfalso; omega
  · exfalso; omega
  · rw [if_pos k1, if_neg (show ¬ x3 = x4 by omega), if_neg (show ¬ x5 = x6 by omega)]; omega
  · exfalso; omega
  · rw [if_neg (show ¬ x1 = x2 by omega), if_pos k2, if_neg (show ¬ x5 = x6 by omega)]; omega
  · rw [if_neg (show ¬ x1 = x2 by omega), if_neg (show ¬ x3 = x4 by omega), if_pos k3]; omega
  · exfalso; omega
theorem lay_cho (G : GP rm nr Bp) (F : FA rm nr Bp f A B C lb) {sd : Nat → Nat → Nat} (Y : LYa rm nr Bp sd) : ∃ st, CHa rm nr f A B C st ∧ ROa rm nr Bp lb st sd := by
  obtain ⟨st, hst⟩ : ∃ st : Nat → Nat, st = fun g => if sd (B g) (C g) = sd (B g) (A g) then B g else if sd (C g) (A g) = sd (C g) (B g) then C g else A g := ⟨_, rfl⟩
  have c1 : ∀ g, g < f → st g = A g ∨ st g = B g ∨ st g = C g := fun g _ => by
    have es : st g = if sd (B g) (C g) = sd (B g) (A g) then B g else if sd (C g) (A g) = sd (C g) (B g) then C g else A g := by rw [hst]
    rw [es]
    split
    · exact Or.inr (Or.inl rfl)
    · split
      · exact Or.inr (Or.inr rfl)
      · exact Or.inl rfl
  -- straight in a face
  have key : ∀ g, g < f → ∀ v r, fdt A B C g v r → (st g = r ↔ sd r (Bp r v) = sd r v) := fun g hg v r h => by
    obtain ⟨a1, a2, a3, a4, a5⟩ := F.ab g hg
    have t := G.tr (B g) (A g) a2 (G.sy _ _ a4)
    rw [a5] at t
    have L3 := (lay_3 G Y a1 a2 a4 (by rw [a5]; exact a3)).1
    rw [a5] at L3
    have d1 := (G.nd _ _ a4).1
    have n1 := G.nx _ _ (G.sy _ _ a4)
    rw [a5] at n1
    have d2 := (G.nd _ _ n1).1
    have n2 := (G.fc a2 (G.sy _ _ a4)).1
    rw [a5] at n2
    have d3 := (G.nd _ _ n2).1
    have es : st g = if sd (B g) (C g) = sd (B g) (A g) then B g else if sd (C g) (A g) = sd (C g) (B g) then C g else A g := by rw [hst]
    by_cases x1 : sd (B g) (C g) = sd (B g) (A g)
    · rw [if_pos x1] at es
      have x2 : ¬ sd (C g) (A g) = sd (C g) (B g) := fun z => by
        rw [ic_n x1, ic_n z] at L3
        have := ic_1 (P := ¬ sd (A g) (B g) = sd (A g) (C g)); omega
      have x3 : ¬ sd (A g) (B g) = sd (A g) (C g) := fun z => by
        rw [ic_n x1, ic_n z] at L3
        have := ic_1 (P := ¬ sd (C g) (A g) = sd (C g) (B g)); omega
      rcases h with ⟨rfl, rfl⟩ | ⟨rfl, rfl⟩ | ⟨rfl, rfl⟩
      · rw [a5]; exact ⟨fun _ => x1, fun _ => es⟩
      · rw [t.1]; exact ⟨fun z => absurd (es.symm.trans z) d2, fun z => absurd z x2⟩
      · rw [t.2]; exact ⟨fun z => absurd (es.symm.trans z) (fun y => d1 y.symm), fun z => absurd z x3⟩
    · rw [if_neg x1] at es
      by_cases x2 : sd (C g) (A g) = sd (C g) (B g)
      · rw [if_pos x2] at es
        have x3 : ¬ sd (A g) (B g) = sd (A g) (C g) := fun z => by
          rw [ic_n x2, ic_n z] at L3
          have := ic_1 (P := ¬ sd (B g) (C g) = sd (B g) (A g)); omega
        rcases h with ⟨rfl, rfl⟩ | ⟨rfl, rfl⟩ | ⟨rfl, rfl⟩
        · rw [a5]; exact ⟨fun z => absurd (es.symm.trans z) (fun y => d2 y.symm), fun z => absurd z x1⟩
        · rw [t.1]; exact ⟨fun _ => x2, fun _ => es⟩
        · rw [t.2]; exact ⟨fun z => absurd (es.symm.trans z) d3, fun z => absurd z x3⟩
      · rw [if_neg x2] at es
        have x3 : sd (A g) (B g) = sd (A g) (C g) := Classical.not_not.mp (fun z => by
          rw [ic_t x1, ic_t x2, ic_t z] at L3; omega)
        rcases h with ⟨rfl, rfl⟩ | ⟨rfl, rfl⟩ | ⟨rfl, rfl⟩
        · rw [a5]; exact ⟨fun z => absurd (es.symm.trans z) d1, fun z => absurd z x1⟩
        · rw [t.1]; exact ⟨fun z => absurd (es.symm.trans z) (fun y => d3 y.symm), fun z => absurd z x2⟩
        · rw [t.2]; exact ⟨fun _ => x3, fun _ => es⟩
  have iff : ∀ r v, rm r → nr r v → (stq rm Bp lb st r v ↔ sd r (Bp r v) = sd r v) := fun r v hr hv => by
    rcases G.s13 hv with qv | ⟨s, s4, es⟩
    · rcases G.s13 (G.nx _ _ hv) with qw | ⟨s, s4, es⟩
      · obtain ⟨g, hg, hd⟩ := F.ex v r qv hr (G.sy _ _ hv) qw
        have el := F.lb g hg _ _ hd
        unfold stq
        rw [el]
        exact ⟨fun z => (key g hg v r hd).mp z.2.2, fun z => ⟨qv, qw, (key g hg v r hd).mpr z⟩⟩
      · have x := lay_s2 G Y hr qv s4 hv es
        have n := G.nx _ _ hv
        rw [es] at n
        have y := Y.sd r s hr s4 n
        have l := Y.lt r v hr hv
        rw [es, y]
        exact ⟨fun z => by have := z.2.1; rw [es] at this; exact (G.nsd this).elim, fun z => by omega⟩
    · subst es
      have x := lay_s1 G Y hr s4 hv
      rw [x, Y.sd r s hr s4 hv]
      exact ⟨fun z => (G.nsd z.1).elim, fun z => by omega⟩
  refine ⟨st, ⟨c1, fun r hr => ?_⟩, fun r v hr hv => ⟨Y.lt r v hr hv, ?_⟩⟩
  · have h1 := stp_ct G F c1 hr
    have h2 : dgr nr r = _ := ct_sp (P := nr r) (stq rm Bp lb st r) 13
    have h3 : ct (fun v => nr r v ∧ ¬ stq rm Bp lb st r v) 13 = ct (fun _ => True) 4 := by
      refine ct_re (F := sd r) 13 4 (fun v _ h => ⟨Y.lt r v hr h.1, trivial⟩) (fun v v' _ _ h h' e => ?_) (fun q hq _ => ?_)
      · have t1 := (Y.rw r v hr h.1).resolve_left (fun z => h.2 ((iff r v hr h.1).mpr z))
        have t2 := (Y.rw r v' hr h'.1).resolve_left (fun z => h'.2 ((iff r v' hr h'.1).mpr z))
        obtain ⟨v0, _, _, _, un⟩ := Y.on r (sd r v) hr (Y.lt r v hr h.1)
        rw [un v h.1 rfl t1, un v' h'.1 e.symm (by rw [t2, e])]
      · obtain ⟨v0, n0, e1, e2, un⟩ := Y.on r q hr hq
        exact ⟨v0, (G.lt n0).2, ⟨n0, fun z => by have := (iff r v0 hr n0).mp z; omega⟩, e1⟩
    have h4 : ct (fun _ => True) 4 = 4 := by unfold ct su; simp only [su, ic_t trivial]
    omega
  · by_cases z : stq rm Bp lb st r v
    · rw [ic_f (fun y => y z), (iff r v hr hv).mp z]
      have := Y.lt r v hr hv
      omega
    · rw [ic_t z]
      exact (Y.rw r v hr hv).resolve_left (fun y => z ((iff r v hr hv).mpr y))
end LCH
end
