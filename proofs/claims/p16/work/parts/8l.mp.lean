-- the reference's plan answers as the class's
theorem cfa_u {σ : mm_S} {n a b c e : Nat} (h : cfa σ n a b) (k : cfa σ n c e) : a = c ∧ b = e := by
  rcases h with ⟨h1, h2, h3, h4⟩ | ⟨h0, h1, h2, h3, h4⟩ <;> rcases k with ⟨k1, k2, k3, k4⟩ | ⟨k0, k1, k2, k3, k4⟩
  · by_cases x : a < c ∨ (a = c ∧ b < e)
    · exact absurd h3 (k4 a b h1 h2 x)
    · by_cases y : c < a ∨ (c = a ∧ e < b)
      · exact absurd k3 (h4 c e k1 k2 y)
      · omega
  · exact absurd h3 (k0 a b h1 h2)
  · exact absurd k3 (h0 c e k1 k2)
  · by_cases x : a < c ∨ (a = c ∧ b < e)
    · exact absurd h3 (k4 a b h1 h2 x)
    · by_cases y : c < a ∨ (c = a ∧ e < b)
      · exact absurd k3 (h4 c e k1 k2 y)
      · omega
theorem mfa_c {σ : mm_S} {n m a b : Nat} (Z : ZI σ n m) (h : mfa σ n a b) : cfa σ n a b := by
  have X : ∀ e f, e < f → f < n → (mxx σ e f ↔ cxx σ e f) := fun e f h1 h2 => Z.xx (by omega) h2
  rcases h with ⟨h1, h2, h3, h4⟩ | ⟨h0, h1, h2, h3, h4⟩
  · exact Or.inl ⟨h1, h2, (X a b h1 h2).mp h3, fun e f x1 x2 x3 y => h4 e f x1 x2 x3 ((X e f x1 x2).mpr y)⟩
  · exact Or.inr ⟨fun e f x1 x2 y => h0 e f x1 x2 ((X e f x1 x2).mpr y), h1, h2, (Z.lx h1 h2).mp h3, fun e i x1 x2 x3 y => h4 e i x1 x2 x3 ((Z.lx x1 x2).mpr y)⟩
theorem mj0 {σ : mm_S} {n m : Nat} (Z : ZI σ n m) (h : ∀ e f, e < f → f < n → ¬ mxx σ e f) (k : ∀ e i, e < n → i < 9 → ¬ mlx σ e i) : J0 σ n :=
  ⟨fun e f x1 x2 y => h e f x1 x2 ((Z.xx (by omega) x2).mpr y), fun e i x1 x2 y => k e i x1 x2 ((Z.lx x1 x2).mpr y)⟩
theorem cfa_J0 {σ : mm_S} {n a b : Nat} (h : cfa σ n a b) : ¬ J0 σ n := fun ⟨j1, j2⟩ => by
  rcases h with ⟨h1, h2, h3, _⟩ | ⟨_, h1, h2, h3, _⟩
  · exact j1 a b h1 h2 h3
  · exact j2 a b h1 h2 h3
theorem frm_cg {L : Nat} {p p' : Nat → Nat} (h : ∀ i, i < 4 → p i = p' i) : ∀ s, s < 4 → frm L p s = frm L p' s := fun s hs => by
  rw [← frm_v4 s hs, ← frm_v4 (p := p') s hs, h 0 (by decide), h 1 (by decide), h 2 (by decide), h 3 (by decide)]
theorem tom_cg {L : Nat} {p p' : Nat → Nat} (h : ∀ i, i < 4 → p i = p' i) : ∀ s, s < 4 → tom L p s = tom L p' s := fun s hs => by
  rw [← tom_v4 hs, ← tom_v4 (p := p') hs, h 0 (by decide), h 1 (by decide), h 2 (by decide), h 3 (by decide)]
theorem NB_u {σ : mm_S} {m L : Nat} {o p cnt K K' : Nat → Nat} (h : NB σ m o p L cnt K) (h' : NB σ m o p L cnt K') : ∀ v, v < 13 → K v = K' v := fun v hv => by
  obtain ⟨a1, a2, a3, a4, a5⟩ := h
  obtain ⟨b1, b2, b3, b4, b5⟩ := h'
  refine tb_ext (k := 13) (a1 v hv) (b1 v hv) (fun w hw => ?_)
  by_cases v9 : v < 9
  · by_cases w9 : w < 9
    · rw [a2 v w v9 w9, b2 v w v9 w9]
    · obtain ⟨s, hs, e⟩ : ∃ s, s < 4 ∧ w = 9 + s := ⟨w - 9, by omega, by omega⟩
      subst e
      rw [a3 v s v9 hs, b3 v s v9 hs]
  · obtain ⟨s, hs, e⟩ : ∃ s, s < 4 ∧ v = 9 + s := ⟨v - 9, by omega, by omega⟩
    subst e
    by_cases w9 : w < 9
    · rw [a4 s w hs w9, b4 s w hs w9]
    · obtain ⟨s', hs', e⟩ : ∃ s, s < 4 ∧ w = 9 + s := ⟨w - 9, by omega, by omega⟩
      subst e
      rw [a5 s s' hs hs', b5 s s' hs hs']
/-- going back along an orbit -/
theorem it_inj {D : Nat × Nat → Prop} {f : Nat × Nat → Nat × Nat} (hD : ∀ x, D x → D (f x)) (inj : ∀ x y, D x → D y → f x = f y → x = y) {x y : Nat × Nat} (hx : D x) (hy : D y) : ∀ i, it f x i = it f y i → x = y
  | 0, h => h
  | i + 1, h => it_inj hD inj hx hy i (inj _ _ (it_D hD hx i) (it_D hD hy i) h)
theorem orb {D : Nat × Nat → Prop} {f : Nat × Nat → Nat × Nat} (hD : ∀ x, D x → D (f x)) (inj : ∀ x y, D x → D y → f x = f y → x = y) {x y z : Nat × Nat} {i j p : Nat} (hx : D x) (hy : y = it f x i) (hz : z = it f x j) (p1 : 1 ≤ p) (hp : it f y p = y) : ∃ k, z = it f y k := by
  have Dy : D y := by rw [hy]; exact it_D hD hx i
  have e1 : it f y (p * i + 0) = y := it_mul hp 0 i
  have le : i ≤ p * i := by
    have := Nat.mul_le_mul_right i p1
    omega
  have e2 : it f (it f y (p * i - i)) i = it f x i := by
    rw [← it_add, show p * i - i + i = p * i + 0 by omega, e1]; exact hy
  have ex := it_inj hD inj (it_D hD Dy _) hx i e2
  exact ⟨p * i - i + j, by rw [it_add, ex]; exact hz⟩
/-- the faces of both -/
theorem faces_eq {σ ρ : mm_S} {n m s t L f f' : Nat} {B : Nat → Nat → Nat} {Mk Mk' : Nat → Nat} {y : Nat → Nat × Nat} (C : CK σ n m) (N0 : NC σ n) (H : BN σ m B) (FL : FLp σ m B s t L f Mk) (R : RF σ ρ m B (fun x => ∃ i, i < L ∧ x = it (ph B) (s, t) i) f' y) (cov : ∀ x, Dt σ m x → GG B (fun x => ∃ i, i < L ∧ x = it (ph B) (s, t) i) f' y x) (hM : ∀ g, g < f' → Mk' g < 512 ∧ ρ 86 g = nI (Mk' g)) : f' = f ∧ (∀ g, g < f' → ∃ h, h < f ∧ Mk h = Mk' g) ∧ (∀ h, h < f → ∃ g, g < f' ∧ Mk' g = Mk h) := by
  obtain ⟨f42, lab, l1, l2, l3, l4⟩ := FL
  have hD := fun x h => pn_D C H x h
  have inj := fun x y hx hy h => pn_inj C N0 H x y hx hy h
  have g0 : ∀ x, Dt σ m x → ((∃ i, i < L ∧ x = it (ph B) (s, t) i) ↔ lab x = -1) := fun x hx => by
    rw [l3 x hx]
    constructor
    · rintro ⟨i, hi, e⟩; exact ⟨i, hi, by rw [e, it_wo]⟩
    · rintro ⟨i, hi, e⟩; exact ⟨i, hi, by rw [e, it_wo]⟩
  have lo : ∀ x k, Dt σ m x → lab (it (ph B) x k) = lab x := fun x k hx => by
    induction k with
    | zero => rfl
    | succ k ih => rw [← ih]; exact l1 _ (it_D (D := Dt σ m) hD hx k)
  have exh : ∀ g, ∃ h, g < f' → h < f ∧ lab (y g) = nI h := fun g => by
    by_cases hg : g < f'
    · obtain ⟨D, n0, _⟩ := R.1 g hg
      rcases l2 _ D with z | ⟨h, hh, e⟩
      · exact absurd ((g0 _ D).mpr z) n0
      · exact ⟨h, fun _ => ⟨hh, e⟩⟩
    · exact ⟨0, fun h => absurd h hg⟩
  have exf : ∃ h : Nat → Nat, ∀ g, g < f' → h g < f ∧ lab (y g) = nI (h g) := ⟨fun g => (exh g).choose, fun g hg => (exh g).choose_spec hg⟩
  obtain ⟨h, hh⟩ := exf
  -- all of one label are in one orbit
  have one : ∀ g z, g < f' → Dt σ m z → lab z = nI (h g) → ∃ k, z = it (ph B) (y g) k := fun g z hg hz lz => by
    obtain ⟨D, _, ⟨p, p1, ep⟩, _⟩ := R.1 g hg
    obtain ⟨h1, h2⟩ := hh g hg
    obtain ⟨_, _, x, x1, _, x3⟩ := l4 _ h1
    obtain ⟨i, ei⟩ := x3 _ D h2
    obtain ⟨j, ej⟩ := x3 _ hz lz
    exact orb (D := Dt σ m) hD inj x1 ei ej p1 ep
  have mk : ∀ g, g < f' → Mk (h g) = Mk' g := fun g hg => by
    obtain ⟨D, _, _, M, m1, m2, m3⟩ := R.1 g hg
    obtain ⟨h1, h2⟩ := hh g hg
    obtain ⟨u1, u2, _⟩ := l4 _ h1
    have em : Mk' g = M := (nI_eq (by have := (hM g hg).1; omega) (by omega)).mp ((hM g hg).2.symm.trans m2)
    rw [em]
    refine tb_ext (k := 9) u1 m1 (fun a ha => ?_)
    rw [u2 a ha, m3 a]
    constructor
    · rintro ⟨b, hb, lb⟩
      obtain ⟨k, e⟩ := one g _ hg hb lb
      exact ⟨k, by rw [← e]⟩
    · rintro ⟨k, e⟩
      have Dk := it_D (D := Dt σ m) hD D k
      refine ⟨(it (ph B) (y g) k).2, ?_, ?_⟩
      · rw [← e]; exact Dk
      · rw [← e]; exact (lo _ k D).trans h2
  have hinj : ∀ g g', g < g' → g' < f' → h g ≠ h g' := fun g g' h1 h2 e => by
    obtain ⟨D, _⟩ := R.1 g' h2
    have := (hh g' h2).2
    rw [← e] at this
    obtain ⟨k, ek⟩ := one g _ (by omega) D this
    exact R.2 g g' h1 h2 k ek.symm
  have surj : ∀ e, e < f → ∃ g, g < f' ∧ h g = e := fun e he => by
    obtain ⟨_, _, x, x1, x2, _⟩ := l4 e he
    rcases cov x x1 with z | ⟨g, k, hg, ek⟩
    · have := (g0 x x1).mp z
      rw [x2] at this
      exact absurd this (nI_m1 (by omega))
    · obtain ⟨D, _⟩ := R.1 g hg
      obtain ⟨h1, h2⟩ := hh g hg
      have := lo (y g) k D
      rw [← ek, x2, h2] at this
      exact ⟨g, hg, ((nI_eq (by omega) (by omega)).mp this).symm⟩
  refine ⟨?_, fun g hg => ⟨h g, (hh g hg).1, mk g hg⟩, fun e he => ?_⟩
  · have le : f' ≤ f := by
      rcases Nat.lt_or_ge f f' with u | u
      · obtain ⟨i, j, a1, a2, a3⟩ := pig f h (fun i hi => (hh i (by omega)).1)
        exact absurd a3 (hinj i j a1 (by omega))
      · exact u
    have exg : ∀ e, ∃ g, e < f → g < f' ∧ h g = e := fun e => by
      by_cases he : e < f
      · obtain ⟨g, hg⟩ := surj e he; exact ⟨g, fun _ => hg⟩
      · exact ⟨0, fun z => absurd z he⟩
    have exk : ∃ k : Nat → Nat, ∀ e, e < f → k e < f' ∧ h (k e) = e := ⟨fun e => (exg e).choose, fun e he => (exg e).choose_spec he⟩
    obtain ⟨k, hk⟩ := exk
    rcases Nat.lt_or_ge f' f with u | u
    · obtain ⟨i, j, a1, a2, a3⟩ := pig f' k (fun i hi => (hk i (by omega)).1)
      have x1 := (hk i (by omega)).2
      have x2 := (hk j (by omega)).2
      rw [a3, x2] at x1
      omega
    · omega
  · obtain ⟨g, hg, e'⟩ := surj e he
    exact ⟨g, hg, by rw [← mk g hg, e']⟩
def MWV (τ : mm_S) (a k x y z oc fc : Int32) : Prop := (k = 0 → τ 10 13 = -1) ∧ (k = 2 → τ 10 13 = 0 ∧ τ 84 0 = x ∧ τ 84 1 = y) ∧ (k = 3 → ¬ τ 10 13 = -1 ∧ ¬ τ 10 13 = 0 ∧ τ 84 0 = x ∧ τ 84 1 = y ∧ τ 84 2 = z) ∧ τ 10 15 = oc ∧ τ 10 16 = fc ∧ τ 10 12 = if a = 1 then 1 else 0
theorem mt3_13 {τ : mm_S} {w x y z : Int32} : (mt3 τ w x y z) 10 13 = w := by unfold mt3; rw [mm_up_n (by decide), mm_up_n (by decide), mm_up_n (by decide)]; exact mm_up_s
theorem mt3_10 {τ : mm_S} {w x y z : Int32} {j : Nat} (h : j ≠ 13) : (mt3 τ w x y z) 10 j = τ 10 j := by unfold mt3; rw [mm_up_n (by decide), mm_up_n (by decide), mm_up_n (by decide), mm_up_o h]
theorem mt3_84 {τ : mm_S} {w x y z : Int32} : (mt3 τ w x y z) 84 0 = x ∧ (mt3 τ w x y z) 84 1 = y ∧ (mt3 τ w x y z) 84 2 = z := by
  unfold mt3
  refine ⟨?_, ?_, mm_up_s⟩
  · rw [mm_up_o (by decide), mm_up_o (by decide)]; exact mm_up_s
  · rw [mm_up_o (by decide)]; exact mm_up_s
theorem c_142s {d n m : Nat} {Q : mm_Q} {σ : mm_S} {a k x y z oc fc : Int32} (Z0 : ZI σ n m) (Jv : JV σ n m a k x y z oc fc) (q : ∀ τ, MF σ τ → MWV τ a k x y z oc fc → Q (some (.int a)) τ) : mD (d + 6) 142 [.ref 10] σ Q := by
  have n21 := Z0.mk.jn.1
  refine ke_142 (kb_142_0 ?_)
  have g13 : (mm_up (mm_up (mm_up (mm_up σ 10 0 0) 10 13 (-1)) 10 15 0) 10 16 0) 10 13 = -1 := by rw [mm_up_o (by decide), mm_up_o (by decide)]; exact mm_up_s
  have g15 : (mm_up (mm_up (mm_up (mm_up σ 10 0 0) 10 13 (-1)) 10 15 0) 10 16 0) 10 15 = 0 := by rw [mm_up_o (by decide)]; exact mm_up_s
  have g16 : (mm_up (mm_up (mm_up (mm_up σ 10 0 0) 10 13 (-1)) 10 15 0) 10 16 0) 10 16 = 0 := mm_up_s
  generalize hs : mm_up (mm_up (mm_up (mm_up σ 10 0 0) 10 13 (-1)) 10 15 0) 10 16 0 = σ0 at *
  have F0 : MF σ σ0 := by
    rw [← hs]
    exact MF_10 (MF_10 (MF_10 (MF_10 ⟨fun _ _ _ => rfl, fun _ _ => rfl⟩ (by decide)) (by decide)) (by decide)) (by decide)
  have Z : ZI σ0 n m := ZI_MF F0 Z0
  have M := Z.mk
  have J : JV σ0 n m a k x y z oc fc := JV_cg (F0.1 1 (by decide) (by decide)) (F0.1 11 (by decide) (by decide)) (F0.1 12 (by decide) (by decide)) (F0.1 15 (by decide) (by decide)) (F0.1 16 (by decide) (by decide)) (F0.1 17 (by decide) (by decide)) (F0.1 83 (by decide) (by decide)) (F0.2 10 (by decide)) Jv
  clear hs Jv
  have e6 := M.jn.2
  have JR : Mr σ0 n := ⟨n21, e6, fun k hk => by
    obtain ⟨a, b, ha, hb, _, _, _, ea, eb⟩ := M.je k hk
    rw [ea, eb]
    exact ⟨pk_in a 9 ha, pk_in b 9 hb⟩⟩
  -- the answer
  have fin : ∀ {Q' : mm_Q} (τ : mm_S), MF σ τ → (∀ τ', MF σ τ' → (∀ j, j ≠ 12 → τ' 10 j = τ 10 j) → τ' 84 = τ 84 → (τ' 10 12 = if a = 1 then 1 else 0) → Q' (some (.int a)) τ') → mD (d + 5) 141 [.ref 10, .int a] τ Q' := fun {Q'} τ F h =>
    c_141 (fun e => h _ (MF_10 F (by decide)) (fun j hj => mm_up_o hj) (mm_up_n (by decide)) (by rw [mm_up_s, if_pos e])) (fun e => h _ (MF_10 F (by decide)) (fun j hj => mm_up_o hj) (mm_up_n (by decide)) (by rw [mm_up_s, if_neg e]))
  rcases J with ⟨e0, f0, cf, rfl, rfl, rfl, rfl, rfl, rfl⟩ | ⟨j0, why, rfl, rfl, rfl, rfl⟩ | ⟨j0, h3, Cn0, B, s, t, L, f, Mk, H, W, T, OP, FL, rfl, rfl, j3⟩
  · -- crossed
    refine c_99 JR (fun a b mf => kb_142_24 (fun g => absurd g (by decide)) (fun _ => kb_142_27 ?_)) (fun h1 h2 => absurd (mj0 Z h1 h2) (cfa_J0 cf))
    obtain ⟨rfl, rfl⟩ := cfa_u (mfa_c Z mf) cf
    refine fin _ (MF_3 F0) (fun τ' F' h10 h84 h12 => kb_142_32 (q τ' F' ⟨fun h => absurd h (by decide), fun _ => ⟨?_, ?_, ?_⟩, fun h => absurd h (by decide), ?_, ?_, h12⟩))
    · rw [h10 13 (by decide)]; exact mt3_13
    · rw [h84]; exact mt3_84.1
    · rw [h84]; exact mt3_84.2.1
    · rw [h10 15 (by decide), mt3_10 (by decide)]; exact g15
    · rw [h10 16 (by decide), mt3_10 (by decide)]; exact g16
  · -- not round
    refine c_99 JR (fun a b mf => absurd j0 (cfa_J0 (mfa_c Z mf))) (fun _ _ => kb_142_24 (fun _ => kb_142_33 ?_) (fun g => absurd rfl g))
    have N0 : NC σ0 n := j0.1
    refine c_104s M (fun r hr => Z.otr N0 hr) (fun τ1 f1 A1 => kb_142_37 (c_108 ?_))
    have F1 : MF σ τ1 := MF_t F0 ⟨fun c a b => f1 c (by omega) (by omega), fun j _ => by rw [f1 10 (by decide) (by decide)]⟩
    have t59 : ∀ τ, MF σ τ → τ 10 13 = -1 → τ 10 15 = 0 → τ 10 16 = 0 → mw (d + 5) mt_142 Q 59 [some (.ref 10), none] [] τ := fun τ F a1 a2 a3 => kb_142_59 (fin τ F (fun τ' F' h10 h84 h12 => kb_142_64 (q τ' F' ⟨fun _ => by rw [h10 13 (by decide)]; exact a1, fun h => absurd h (by decide), fun h => absurd h (by decide), by rw [h10 15 (by decide)]; exact a2, by rw [h10 16 (by decide)]; exact a3, h12⟩)))
    have T1 := t59 τ1 F1 (by rw [f1 10 (by decide) (by decide)]; exact g13) (by rw [f1 10 (by decide) (by decide)]; exact g15) (by rw [f1 10 (by decide) (by decide)]; exact g16)
    have r1 : rc τ1 9 = bc m 9 := by rw [rc_cg (f1 75 (by decide) (by decide)) 9]; exact Z.rcb 9 (Nat.le_refl 9)
    have b9 := bc_n m 9
    refine kb_142_41 (fun _ => T1) (fun g => kb_142_45 ?_)
    rcases why with h | ⟨h3, nC⟩ | ⟨h3, Cn0, B, s, t, H, W, T, ns⟩
    · exfalso
      apply g
      rw [r1]
      exact (nI_ltI (b := 3) (by omega) (by decide)).mpr h
    · exact c_107s Z (by rw [f1 10 (by decide) (by decide)]) (f1 75 (by decide) (by decide)) (f1 80 (by decide) (by decide)) (f1 81 (by decide) (by decide)) h3 (fun hC => absurd hC nC) (fun _ => kb_142_49 (fun _ => T1) (fun g => absurd rfl g))
    · refine c_107s Z (by rw [f1 10 (by decide) (by decide)]) (f1 75 (by decide) (by decide)) (f1 80 (by decide) (by decide)) (f1 81 (by decide) (by decide)) h3 (fun _ => kb_142_49 (fun g => absurd g (by decide)) (fun _ => kb_142_52 ?_)) (fun nC => absurd Cn0 nC)
      refine c_109s Z N0 H (fun c _ h h' => f1 c h h') A1 (fun i hi mi => Cn_aj Cn0 h3 hi mi) (by omega) (fun τ2 N s' t' W' T' f2 g2 N1 _ _ _ cl ds _ => ?_) (fun τ2 N s' t' _ _ f2 g2 e15 _ _ _ _ => kb_142_56 (fun _ => t59 τ2 (MF_t F1 ⟨fun c a b => f2 c a (by omega) (by omega), fun j a => g2 j (by omega)⟩) (by rw [g2 13 (by decide), f1 10 (by decide) (by decide)]; exact g13) e15 (by rw [g2 16 (by decide), f1 10 (by decide) (by decide)]; exact g16)) (fun g => absurd rfl g))
      exfalso
      have es := wms_u Z.ck W' W
      subst es
      have et := nms_u T' T
      subst et
      rw [it_wo] at cl
      have c1 : wo B s' t' N = s' := congrArg Prod.fst cl
      have c2 : wo B s' t' (N + 1) = t' := congrArg Prod.snd cl
      obtain ⟨k, _, dk, ⟨j, hj, ej⟩, nk⟩ := ns
      rcases Nat.lt_trichotomy k N with u | u | u
      · exact ds j k hj u ej
      · subst u; exact nk ⟨c1, c2⟩
      · exact dk 0 N N1 u (by rw [c1]; rfl)
  · -- round
    refine c_99 JR (fun a b mf => absurd j0 (cfa_J0 (mfa_c Z mf))) (fun _ _ => kb_142_24 (fun _ => kb_142_33 ?_) (fun g => absurd rfl g))
    have N0 : NC σ0 n := j0.1
    have C := Z.ck
    obtain ⟨l1, l9, oL, oL1, dis⟩ := OP
    refine c_104s M (fun r hr => Z.otr N0 hr) (fun τ1 f1 A1 => kb_142_37 (c_108 ?_))
    have F1 : MF σ τ1 := MF_t F0 ⟨fun c a b => f1 c (by omega) (by omega), fun j _ => by rw [f1 10 (by decide) (by decide)]⟩
    have r1 : rc τ1 9 = bc m 9 := by rw [rc_cg (f1 75 (by decide) (by decide)) 9]; exact Z.rcb 9 (Nat.le_refl 9)
    have b9 := bc_n m 9
    refine kb_142_41 (fun g => absurd ((nI_ltI (a := bc m 9) (b := 3) (by omega) (by decide)).mp (by rw [r1] at g; exact g)) (by omega)) (fun g => kb_142_45 ?_)
    refine c_107s Z (by rw [f1 10 (by decide) (by decide)]) (f1 75 (by decide) (by decide)) (f1 80 (by decide) (by decide)) (f1 81 (by decide) (by decide)) h3 (fun _ => kb_142_49 (fun g => absurd g (by decide)) (fun _ => kb_142_52 ?_)) (fun nC => absurd Cn0 nC)
    have cl0 : it (ph B) (s, t) L = (s, t) := by rw [it_wo, oL, oL1]
    refine c_109s Z N0 H (fun c _ h h' => f1 c h h') A1 (fun i hi mi => Cn_aj Cn0 h3 hi mi) (by omega) (fun τ2 N s' t' W' T' f2 g2 N1 _ e15 ol cl ds G2 => kb_142_56 (fun g => absurd g (by decide)) (fun _ => kb_142_65 ?_)) (fun τ2 N s' t' W' T' _ _ _ N1 cl dd tw => ?_)
    rotate_left
    · exfalso
      have es := wms_u Z.ck W' W
      subst es
      have et := nms_u T' T
      subst et
      obtain ⟨i, j, hij, hj, e⟩ := tw
      have c1 : wo B s' t' N = s' := by rw [it_wo] at cl; exact congrArg Prod.fst cl
      rcases Nat.lt_trichotomy L N with u | u | u
      · exact dd 0 L (by omega) u (by rw [cl0]; rfl)
      · subst u; exact dis i j hij hj e
      · exact dis 0 N N1 u (by rw [c1]; rfl)
    have es := wms_u Z.ck W' W
    subst es
    have et := nms_u T' T
    subst et
    have eN : N = L := by
      have c1 : wo B s' t' N = s' := by rw [it_wo] at cl; exact congrArg Prod.fst cl
      rcases Nat.lt_trichotomy L N with u | u | u
      · exact absurd (by rw [oL]; rfl) (ds 0 L (by omega) u)
      · exact u.symm
      · exact absurd (by rw [c1]; rfl) (dis 0 N N1 u)
    subst eN
    have F2 : MF σ τ2 := MF_t F1 ⟨fun c a b => f2 c a (by omega) (by omega), fun j a => g2 j (by omega)⟩
    have A2 : AO σ0 τ2 n := fun r hr => by rw [f2 87 (by decide) (by decide) (by decide), f2 88 (by decide) (by decide) (by decide)]; exact A1 r hr
    have x6 : ∀ τ, MF σ τ → τ 10 6 = σ0 10 6 := fun τ F => by rw [F.2 6 (by decide), F0.2 6 (by decide)]
    have x80 : ∀ τ c, MF σ τ → (c ≠ 10 ∧ c < 84) → τ c = σ0 c := fun τ c F hc => by rw [F.1 c hc.1 (by omega), F0.1 c hc.1 (by omega)]
    have D0 : Dt σ0 m (s', t') := ⟨W.1, W.2.2.1, T.1⟩
    have DX := it_D (D := Dt σ0 m) (fun x h => pn_D C H x h) D0
    refine c_110s Z N0 H (G0 := fun x => ∃ i, i < N ∧ x = it (ph B) (s', t') i) (fun c h h' h'' h3 h4 => by rw [f2 c h h' h4]; exact f1 c h'' h3) (x6 τ2 F2) A2 G2 (fun x hx hg => ?_) (fun τ3 f' y3 f3 g3 f42 e19 R3 cov => kb_142_69 ?_)
    · obtain ⟨i, hi, e⟩ := hg
      rcases Nat.eq_zero_or_pos i with u | u
      · subst u
        refine ⟨N - 1, by omega, pn_inj C N0 H _ _ hx (DX _) ?_⟩
        rw [e]
        show (s', t') = it (ph B) (s', t') (N - 1 + 1)
        rw [show N - 1 + 1 = N by omega, cl]
      · refine ⟨i - 1, by omega, pn_inj C N0 H _ _ hx (DX _) ?_⟩
        rw [e]
        show _ = it (ph B) (s', t') (i - 1 + 1)
        rw [show i - 1 + 1 = i by omega]
    have F3 : MF σ τ3 := MF_t F2 ⟨fun c a b => f3 c a (by omega) (by omega), fun j a => g3 j (by omega)⟩
    have exM : ∃ Mk' : Nat → Nat, ∀ g, g < f' → Mk' g < 512 ∧ τ3 86 g = nI (Mk' g) := ⟨fun g => (τ3 86 g).toNatClampNeg, fun g hg => by
      obtain ⟨_, _, _, M', m1, m2, _⟩ := R3.1 g hg
      show (τ3 86 g).toNatClampNeg < 512 ∧ τ3 86 g = nI (τ3 86 g).toNatClampNeg
      rw [m2, nI_clamp (by omega)]
      exact ⟨m1, rfl⟩⟩
    obtain ⟨Mk', hMk'⟩ := exM
    obtain ⟨ef, sub1, sub2⟩ := faces_eq C N0 H FL R3 cov hMk'
    subst ef
    generalize hs : mm_up τ3 10 16 (τ3 10 19) = τ4
    have F4 : MF σ τ4 := by rw [← hs]; exact MF_10 F3 (by decide)
    have c4 : ∀ c, c ≠ 10 → τ4 c = τ3 c := fun c h => by rw [← hs]; exact mm_up_n h
    have c10 : ∀ j, j ≠ 16 → τ4 10 j = τ3 10 j := fun j h => by rw [← hs]; exact mm_up_o h
    have c16 : τ4 10 16 = nI f' := by rw [← hs, mm_up_s]; exact e19
    clear hs
    have d13 : τ4 10 13 = -1 := by rw [c10 13 (by decide), g3 13 (by decide), g2 13 (by decide), f1 10 (by decide) (by decide)]; exact g13
    have d15 : τ4 10 15 = nI N := by rw [c10 15 (by decide), g3 15 (by decide)]; exact e15
    have fm4 : ∀ g, g < f' → Mk' g < 512 ∧ τ4 86 g = nI (Mk' g) := fun g hg => by rw [c4 86 (by decide)]; exact hMk' g hg
    have e19' : τ4 10 19 = nI f' := by rw [c10 19 (by decide)]; exact e19
    have o9 : ∀ k, wo B s' t' k < 9 := fun k => by have := (DX k).1; rw [it_wo] at this; exact this
    have ol4 : ∀ k, k < N → wo B s' t' k < 9 ∧ τ4 85 k = nI (wo B s' t' k) := fun k hk => ⟨o9 k, by rw [c4 85 (by decide), f3 85 (by decide) (by decide) (by decide)]; exact ol k hk⟩
    refine c_115s f42 e19' fm4 (fun K' ⟨g, hg, w1, w2⟩ mn => kb_142_81 (fun g => absurd g (by decide)) (fun _ => kb_142_84 ?_)) (fun sm' => kb_142_81 (fun _ => kb_142_90 ?_) (fun g => absurd rfl g))
    · -- a great face
      rcases j3 with ⟨K, ⟨h, hh, v1, v2⟩, mn', rfl, rfl, rfl, rfl, rfl⟩ | ⟨sm, _⟩
      · have eK : K' = K := by
          obtain ⟨h', hh', e'⟩ := sub1 g hg
          obtain ⟨g', hg', e''⟩ := sub2 h hh
          have a1 := mn' h' hh' (by rw [e']; exact w1)
          have a2 := mn g' hg' (by rw [e'']; exact v1)
          rw [e'] at a1
          rw [e''] at a2
          omega
        subst eK
        refine fin _ (MF_3 F4) (fun τ' F' h10 h84 h12 => kb_142_89 (q τ' F' ⟨fun h => absurd h (by decide), fun h => absurd h (by decide), fun _ => ⟨?_, ?_, ?_, ?_, ?_⟩, ?_, ?_, h12⟩))
        · rw [h10 13 (by decide), mt3_13]; decide
        · rw [h10 13 (by decide), mt3_13]; decide
        · rw [h84]; exact mt3_84.1
        · rw [h84]; exact mt3_84.2.1
        · rw [h84]; exact mt3_84.2.2
        · rw [h10 15 (by decide), mt3_10 (by decide)]; exact d15
        · rw [h10 16 (by decide), mt3_10 (by decide)]; exact c16
      · exfalso
        obtain ⟨h', hh', e'⟩ := sub1 g hg
        have := sm h' hh'
        rw [e'] at this
        omega
    -- no great face
    have j4 : (¬ fit σ0 N (wo B s' t') ∧ a = 4 ∧ k = 0) ∨ (fit σ0 N (wo B s' t') ∧ J5 σ0 m N f' (wo B s' t') Mk a k x y z) := by
      rcases j3 with ⟨K, ⟨h, hh, v1, v2⟩, _⟩ | ⟨_, j⟩
      · exfalso
        obtain ⟨g', hg', e''⟩ := sub2 h hh
        have := sm' g' hg'
        rw [e''] at this
        omega
      · exact j
    have m83 : τ4 83 = σ0 83 := x80 τ4 83 F4 (by decide)
    have m10 : τ4 10 10 = σ0 10 10 := by rw [F4.2 10 (by decide), F0.2 10 (by decide)]
    have ft : fit τ4 N (wo B s' t') = fit σ0 N (wo B s' t') := by unfold fit; rw [m83, m10]
    refine c_117s l1 l9 d15 ol4 dis (by rw [m10, m83]; exact M.co) (fun τ5 f5 nf => kb_142_94 (fun _ => kb_142_97 ?_) (fun g => absurd rfl g)) (fun τ5 p' c' f5 hc' hp' hs' h92 fi => kb_142_94 (fun g => absurd g (by decide)) (fun _ => kb_142_103 ?_))
    · rw [ft] at nf
      have F5 : MF σ τ5 := MF_t F4 ⟨fun c a b => f5 c (by omega) (by omega), fun j a => by rw [f5 10 (by decide) (by decide)]⟩
      rcases j4 with ⟨_, rfl, rfl⟩ | ⟨F, _⟩
      · exact fin τ5 F5 (fun τ' F' h10 h84 h12 => kb_142_102 (q τ' F' ⟨fun _ => by rw [h10 13 (by decide), f5 10 (by decide) (by decide)]; exact d13, fun h => absurd h (by decide), fun h => absurd h (by decide), by rw [h10 15 (by decide), f5 10 (by decide) (by decide)]; exact d15, by rw [h10 16 (by decide), f5 10 (by decide) (by decide)]; exact c16, h12⟩))
      · exact absurd F nf
    rw [ft] at fi
    have F5 : MF σ τ5 := MF_t F4 ⟨fun c a b => f5 c (by omega) (by omega), fun j a => by rw [f5 10 (by decide) (by decide)]⟩
    obtain ⟨p, c, K, hc, hp, hsum, NBK, trs⟩ : J5 σ0 m N f' (wo B s' t') Mk a k x y z := by
      rcases j4 with ⟨nf, _⟩ | ⟨_, j⟩
      · exact absurd fi nf
      · exact j
    have ec : ∀ i, i < 4 → c' i = c i := fun i hi => nI9 (hc' i hi).1 (hc i hi).1 ((hc' i hi).2.symm.trans (by rw [m83]; exact (hc i hi).2))
    have ep : ∀ i, i < 4 → p' i = p i := fun i hi => by
      have e : wo B s' t' (p' i) = wo B s' t' (p i) := by rw [(hp' i hi).2, (hp i hi).2, ec i hi]
      rcases Nat.lt_trichotomy (p' i) (p i) with u | u | u
      · exact absurd e (dis _ _ u (hp i hi).1)
      · exact u
      · exact absurd e.symm (dis _ _ u (hp' i hi).1)
    have h92' : ∀ s, s < 4 → τ5 92 s = nI (frm N p s) ∧ τ5 93 s = nI (tom N p s) := fun s hs => by
      rw [← frm_cg ep s hs, ← tom_cg ep s hs]; exact h92 s hs
    have lay := (lay_p (L := N) (p := p) (by omega) (fun i hi => (hp i hi).1)).2 hsum
    have lay' : ∀ s, s < 4 → frm N p s ≤ tom N p s ∧ tom N p s ≤ N := fun s hs => by
      have := lay s hs; omega
    have e10 : τ5 10 = τ4 10 := f5 10 (by decide) (by decide)
    have d15' : τ5 10 15 = nI N := by rw [e10]; exact d15
    have ol5 : ∀ k, k < N → wo B s' t' k < 9 ∧ τ5 85 k = nI (wo B s' t' k) := fun k hk => by rw [f5 85 (by decide) (by decide)]; exact ol4 k hk
    have e83 : τ5 83 0 = nI (c 0) := by rw [f5 83 (by decide) (by decide), m83]; exact (hc 0 (by decide)).2
    refine c_120s Z (x6 τ5 F5) (x80 τ5 80 F5 (by decide)) (x80 τ5 81 F5 (by decide)) l1 l9 d15' ol5 dis (hc 0 (by decide)).1 e83 (hp 0 (by decide)).1 (hp 0 (by decide)).2 h92' lay (fun τ6 K' f6 hK' NBK' => kb_142_107 ?_)
    have F6 : MF σ τ6 := MF_t F5 ⟨fun c a b => f6 c (by omega), fun j a => by rw [f6 10 (by decide)]⟩
    have eK := NB_u NBK' NBK
    have SFe : ∀ x, SF f' Mk' N (wo B s' t') p x ↔ SF f' Mk N (wo B s' t') p x := fun x => by
      unfold SF
      have : (∃ g, g < f' ∧ Mk' g = x) ↔ ∃ g, g < f' ∧ Mk g = x := by
        constructor
        · rintro ⟨g, hg, e⟩
          obtain ⟨h, hh, e'⟩ := sub1 g hg
          exact ⟨h, hh, e'.trans e⟩
        · rintro ⟨h, hh, e⟩
          obtain ⟨g, hg, e'⟩ := sub2 h hh
          exact ⟨g, hg, e'.trans e⟩
      rw [this]
    have tre : ∀ i j l, tr K' (SF f' Mk' N (wo B s' t') p) i j l ↔ tr K (SF f' Mk N (wo B s' t') p) i j l := fun i j l => by
      unfold tr
      constructor
      · rintro ⟨a1, a2, a3, a4, a5, a6, a7⟩
        rw [eK i (by omega)] at a4 a5
        rw [eK j (by omega)] at a6
        exact ⟨a1, a2, a3, a4, a5, a6, fun h => a7 ((SFe _).mpr h)⟩
      · rintro ⟨a1, a2, a3, a4, a5, a6, a7⟩
        rw [← eK i (by omega)] at a4 a5
        rw [← eK j (by omega)] at a6
        exact ⟨a1, a2, a3, a4, a5, a6, fun h => a7 ((SFe _).mp h)⟩
    have e10' : τ6 10 = τ5 10 := f6 10 (by decide)
    refine c_122s l1 l9 (by rw [e10']; exact d15') (fun k hk => by rw [f6 85 (by decide)]; exact ol5 k hk) dis (hc 0 (by decide)).1 (by rw [f6 83 (by decide)]; exact e83) (hp 0 (by decide)).1 (hp 0 (by decide)).2 (fun s hs => by rw [f6 92 (by decide), f6 93 (by decide)]; exact h92' s hs) lay' f42 (by rw [e10', e10]; exact e19') (fun g hg => by rw [f6 86 (by decide), f5 86 (by decide) (by decide)]; exact fm4 g hg) (fun v hv => ⟨NBK'.1 v hv, hK' v hv⟩) (fun i j l t1 t2 => kb_142_111 (fun g => absurd g (by decide)) (fun _ => kb_142_114 ?_)) (fun nt => kb_142_111 (fun _ => kb_142_120 ?_) (fun g => absurd rfl g))
    · -- a loose triangle
      rcases trs with ⟨i', j', l', u1, u2, rfl, rfl, rfl, rfl, rfl⟩ | ⟨nt, _⟩
      · have v1 := (tre i j l).mp t1
        have e : i = i' ∧ j = j' ∧ l = l' := by
          by_cases w : i < i' ∨ (i = i' ∧ (j < j' ∨ (j = j' ∧ l < l')))
          · exact absurd v1 (u2 i j l w)
          · by_cases w' : i' < i ∨ (i' = i ∧ (j' < j ∨ (j' = j ∧ l' < l)))
            · exact absurd ((tre i' j' l').mpr u1) (t2 i' j' l' w')
            · omega
        obtain ⟨rfl, rfl, rfl⟩ := e
        refine fin _ (MF_3 F6) (fun τ' F' h10 h84 h12 => kb_142_119 (q τ' F' ⟨fun h => absurd h (by decide), fun h => absurd h (by decide), fun _ => ⟨?_, ?_, ?_, ?_, ?_⟩, ?_, ?_, h12⟩))
        · rw [h10 13 (by decide), mt3_13]; decide
        · rw [h10 13 (by decide), mt3_13]; decide
        · rw [h84]; exact mt3_84.1
        · rw [h84]; exact mt3_84.2.1
        · rw [h84]; exact mt3_84.2.2
        · rw [h10 15 (by decide), mt3_10 (by decide), e10']; exact d15'
        · rw [h10 16 (by decide), mt3_10 (by decide), e10', e10]; exact c16
      · exact absurd ((tre i j l).mp t1) (nt i j l)
    -- a plan
    obtain ⟨rfl, rfl⟩ : a = 1 ∧ k = 0 := by
      rcases trs with ⟨i', j', l', u1, _⟩ | ⟨_, h⟩
      · exact absurd ((tre i' j' l').mpr u1) (nt i' j' l')
      · exact h
    have AR6 : AR σ0 τ6 n := AR_cg (by rw [f6 87 (by decide), f5 87 (by decide) (by decide), c4 87 (by decide), f3 87 (by decide) (by decide) (by decide)]) (by rw [f6 88 (by decide), f5 88 (by decide) (by decide), c4 88 (by decide), f3 88 (by decide) (by decide) (by decide)]) (AO_AR Z N0 A2)
    have O6 : MO τ6 N := ⟨l1, by omega, by rw [e10']; exact d15', fun i hi => ⟨wo B s' t' i, o9 i, by rw [f6 85 (by decide)]; exact (ol5 i hi).2⟩⟩
    have h1r := rc_ex 9 (show 1 ≤ rc σ0 9 by rw [Z.rcb 9 (Nat.le_refl 9)]; omega)
    have KP : ∀ τ : mm_S, τ 10 13 = τ6 10 13 → τ 10 15 = τ6 10 15 → τ 10 16 = τ6 10 16 → (∀ τ', MF σ τ' → (∀ j, j ≠ 12 → τ' 10 j = τ 10 j) → τ' 84 = τ 84 → (τ' 10 12 = if (1 : Int32) = 1 then 1 else 0) → MWV τ' 1 0 x y z (nI N) (nI f')) := fun τ a1 a2 a3 τ' _ h10 _ h12 => ⟨fun _ => by rw [h10 13 (by decide), a1, e10', e10]; exact d13, fun h => absurd h (by decide), fun h => absurd h (by decide), by rw [h10 15 (by decide), a2, e10']; exact d15', by rw [h10 16 (by decide), a3, e10', e10]; exact c16, h12⟩
    refine c_123 n21 (by rw [x6 τ6 F6]; exact e6) AR6 O6 (fun τ7 f7 R7 => kb_142_124 ?_)
    have F7 : MF σ τ7 := MF_t F6 ⟨fun c a b => f7 c (by omega) (by omega), fun j a => by rw [f7 10 (by decide) (by decide)]⟩
    refine lp_dn (P := fun i => ∀ τ, MF σ τ → (∀ j, j ≠ 29 → τ 10 j = τ6 10 j) → RG τ n → mw (d + 5) mt_142 Q 131 [some (.ref 10), some (.int (nI i))] [] τ) 21 ?_ ?_ 0 (by omega) _ (MF_10 F7 (by decide)) (fun j hj => by rw [mm_up_o (by omega), f7 10 (by decide) (by decide)]) (RG_cg (mm_up_n (by decide)) (mm_up_n (by decide)) R7)
    · intro τ F E R
      refine kb_142_131 (fun _ => kb_142_150 ?_) (fun g => absurd (by decide) g)
      obtain ⟨r, hr, dr⟩ := h1r
      refine c_131 n21 (by rw [x6 τ F]; exact e6) R ⟨r, hr, by rw [x80 τ 75 F (by decide)]; exact dr⟩ (fun τ8 f8 => kb_142_154 ?_)
      have F8 : MF σ τ8 := MF_t F ⟨fun c a b => f8.1 c a (by omega) (by omega) (by omega), fun j a => f8.2 j (by omega) (by omega)⟩
      refine c_138 n21 (by rw [x6 τ8 F8]; exact e6) (fun k hk => ?_) (fun τ9 f9 => kb_142_158 ?_)
      · obtain ⟨a, b, ha, hb, _, _, _, ea, eb⟩ := M.je k hk
        exact ⟨a, b, ha, hb, by rw [x80 τ8 80 F8 (by decide)]; exact ea, by rw [x80 τ8 81 F8 (by decide)]; exact eb⟩
      · have F9 : MF σ τ9 := MF_t F8 ⟨fun c a b => f9.1 c a (by omega) (by omega), fun j a => f9.2 j (by omega) (by omega) (by omega)⟩
        have E9 : ∀ j, (j = 13 ∨ j = 15 ∨ j = 16) → τ9 10 j = τ6 10 j := fun j hj => by rw [f9.2 j (by omega) (by omega) (by omega), f8.2 j (by omega) (by omega)]; exact E j (by omega)
        exact fin τ9 F9 (fun τ' F' h10 h84 h12 => kb_142_163 (q τ' F' (KP τ9 (E9 13 (by omega)) (E9 15 (by omega)) (E9 16 (by omega)) τ' F' h10 h84 h12)))
    · intro i hi ih τ F E R
      refine kb_142_131 (fun g => absurd g (hI_nle (a := 21) (by omega) hi)) (fun _ => kb_142_137 (pk_in i 21 hi) ?_)
      rw [nI_1]
      exact ih _ (MF_t F ⟨fun c a b => mm_up_n (by omega), fun j a => by rw [mm_up_n (by decide)]⟩) (fun j hj => by rw [mm_up_n (by decide)]; exact E j hj) (RG_cg (mm_up_n (by decide)) (mm_up_n (by decide)) R)

