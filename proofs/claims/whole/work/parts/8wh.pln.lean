-- faces, spanning, colours and ways of the plan's disc
section PLT
variable {σ : mm_S} {n m : Nat} {B : Nat → Nat → Nat} {s t L f : Nat} {Mk : Nat → Nat} {lab : Nat × Nat → Int32} {p K : Nat → Nat}
noncomputable def nrP (σ : mm_S) (m : Nat) (B : Nat → Nat → Nat) (s t L : Nat) (p : Nat → Nat) : Nat → Nat → Prop := nrx (rmx m) (aj σ) (qo B s t p) (bo4 L p)
noncomputable def BpP (B : Nat → Nat → Nat) (s t L : Nat) (p : Nat → Nat) : Nat → Nat → Nat := Bx B (qo B s t p) (bo4 L p) L
theorem PLD.gp (P : PLD σ n m B s t L f Mk lab p K) : GP (rmx m) (nrP σ m B s t L p) (BpP B s t L p) := P.dsk.gp
theorem PLD.ot (P : PLD σ n m B s t L f Mk lab p K) : OTa (rmx m) (nrP σ m B s t L p) (BpP B s t L p) L (qo B s t p) := P.dsk.ot
def lbP (lab : Nat × Nat → Int32) (a b : Nat) : Nat := (lab (a, b)).toNatClampNeg
theorem PLD.nra (P : PLD σ n m B s t L f Mk lab p K) {a b : Nat} (ha : rmx m a) (hb : rmx m b) (h : nrP σ m B s t L p a b) : aj σ a b := by
  rcases P.dsk.nrr ha h with k | ⟨s, _, e, _⟩
  · exact k
  · have := hb.1; omega
theorem PLD.fa (P : PLD σ n m B s t L f Mk lab p K) : ∃ A Bb C : Nat → Nat, FA (rmx m) (nrP σ m B s t L p) (BpP B s t L p) f A Bb C (lbP lab) ∧ ∀ g, g < f → ∀ r, r < 9 → ((Mk g).testBit r = true ↔ r = A g ∨ r = Bb g ∨ r = C g) := by
  have D := P.dsk
  obtain ⟨f42, l1, l2, l4⟩ := P.fl
  have pick : ∀ g, ∃ x : Nat × Nat, g < f → Dt σ m x ∧ lab x = nI g ∧ ∀ y, Dt σ m y → lab y = nI g → ∃ k, y = it (ph B) x k := fun g => by
    by_cases h : g < f
    · obtain ⟨x, hx⟩ := l4 g h; exact ⟨x, fun _ => hx⟩
    · exact ⟨(0, 0), fun z => absurd z h⟩
  obtain ⟨X, hX⟩ : ∃ X : Nat → Nat × Nat, ∀ g, g < f → Dt σ m (X g) ∧ lab (X g) = nI g ∧ ∀ y, Dt σ m y → lab y = nI g → ∃ k, y = it (ph B) (X g) k := ⟨fun g => (pick g).choose, fun g => (pick g).choose_spec⟩
  have T : ∀ g, g < f → ∃ c, c < 9 ∧ (X g).1 ≠ (X g).2 ∧ c ≠ (X g).1 ∧ c ≠ (X g).2 ∧ B (X g).2 (X g).1 = c ∧ B c (X g).2 = (X g).1 ∧ B (X g).1 c = (X g).2 ∧ Dt σ m ((X g).2, c) ∧ Dt σ m (c, (X g).1) ∧ lab ((X g).2, c) = nI g ∧ lab (c, (X g).1) = nI g ∧ ∀ r, r < 9 → ((Mk g).testBit r = true ↔ r = (X g).1 ∨ r = (X g).2 ∨ r = c) := fun g hg => P.trx (hX g hg).1 hg (hX g hg).2.1
  have clb : ∀ g, g < f → (nI g).toNatClampNeg = g := fun g hg => nI_clamp (by omega)
  refine ⟨fun g => (X g).1, fun g => (X g).2, fun g => B (X g).2 (X g).1, ⟨fun g hg => ?_, fun g hg a b h => ?_, fun a b ha hb h hc => ?_⟩, fun g hg r hr => ?_⟩
  · obtain ⟨hx, lx, _⟩ := hX g hg
    obtain ⟨c, c9, x1, x2, x3, x4, x5, x6, x7, x8, x9, x10, _⟩ := T g hg
    have r1 : rmx m (X g).1 := ⟨hx.1, hx.2.1⟩
    have e := P.w.ed r1 hx.2.2
    refine ⟨r1, e.1, by show rmx m (B (X g).2 (X g).1); rw [x4]; exact ⟨x8.1, x8.2.1⟩, Or.inl ⟨r1, hx.2.2⟩, ?_⟩
    exact D.x4 e.1 e.2.2.1 (P.ng hx hg lx)
  · obtain ⟨hx, lx, _⟩ := hX g hg
    obtain ⟨c, c9, x1, x2, x3, x4, x5, x6, x7, x8, x9, x10, _⟩ := T g hg
    rcases h with ⟨rfl, rfl⟩ | ⟨rfl, rfl⟩ | ⟨rfl, rfl⟩
    · show (lab ((X g).1, (X g).2)).toNatClampNeg = g
      rw [show lab ((X g).1, (X g).2) = nI g from lx]; exact clb g hg
    · show (lab ((X g).2, B (X g).2 (X g).1)).toNatClampNeg = g
      rw [x4, x9]; exact clb g hg
    · show (lab (B (X g).2 (X g).1, (X g).1)).toNatClampNeg = g
      rw [x4, x10]; exact clb g hg
  · have hab := P.nra ha hb h
    have d : Dt σ m (a, b) := ⟨ha.1, ha.2, hab⟩
    have no : ¬ outd (qo B s t p) a b := fun o => by
      obtain ⟨y, y1, y2, y3, y4⟩ := D.out1 o
      have x := D.x1 y1 y2
      rw [← y3, ← y4] at x
      have hc' : rmx m (Bx B (qo B s t p) (bo4 L p) L b a) := hc
      rw [x] at hc'
      have := hc'.1
      omega
    obtain ⟨g, hg, lg⟩ := P.lbg d no
    obtain ⟨hx, lx, al⟩ := hX g hg
    obtain ⟨c, c9, x1, x2, x3, x4, x5, x6, x7, x8, x9, x10, _⟩ := T g hg
    obtain ⟨k, ek⟩ := al _ d lg
    have three : ∀ k, it (ph B) (X g) k = ((X g).1, (X g).2) ∨ it (ph B) (X g) k = ((X g).2, c) ∨ it (ph B) (X g) k = (c, (X g).1) := fun k => by
      induction k with
      | zero => exact Or.inl rfl
      | succ k ih =>
        show ph B (it (ph B) (X g) k) = _ ∨ ph B (it (ph B) (X g) k) = _ ∨ ph B (it (ph B) (X g) k) = _
        rcases ih with e | e | e
        · right; left; rw [e]; show ((X g).2, B (X g).2 (X g).1) = _; rw [x4]
        · right; right; rw [e]; show (c, B c (X g).2) = _; rw [x5]
        · left; rw [e]; show ((X g).1, B (X g).1 c) = _; rw [x6]
    refine ⟨g, hg, ?_⟩
    have e := three k
    rw [← ek] at e
    show (a = (X g).1 ∧ b = (X g).2) ∨ (a = (X g).2 ∧ b = B (X g).2 (X g).1) ∨ (a = B (X g).2 (X g).1 ∧ b = (X g).1)
    rw [x4]
    rcases e with e | e | e
    · exact Or.inl ⟨congrArg Prod.fst e, congrArg Prod.snd e⟩
    · exact Or.inr (Or.inl ⟨congrArg Prod.fst e, congrArg Prod.snd e⟩)
    · exact Or.inr (Or.inr ⟨congrArg Prod.fst e, congrArg Prod.snd e⟩)
  · obtain ⟨c, _, _, _, _, x4, _, _, _, _, _, _, x11⟩ := T g hg
    show _ ↔ r = (X g).1 ∨ r = (X g).2 ∨ r = B (X g).2 (X g).1
    rw [x11 r hr, x4]
theorem PLD.trf (P : PLD σ n m B s t L f Mk lab p K) : TRf σ m B lab := fun x hx nx => by
  obtain ⟨g, hg, lg⟩ := (P.fl.2.2.1 x hx).resolve_left nx
  obtain ⟨c, c9, x1, x2, x3, x4, x5, x6, x7, x8, x9, x10, _⟩ := P.trx (a := x.1) (b := x.2) hx hg lg
  have e1 : ph B x = (x.2, c) := by show (x.2, B x.2 x.1) = _; rw [x4]
  have e2 : ph B (ph B x) = (c, x.1) := by rw [e1]; show (c, B c x.2) = _; rw [x5]
  refine ⟨by rw [e2]; show (x.1, B x.1 c) = x; rw [x6], ?_, ?_⟩
  · rw [e1]; exact fun z => x1 (congrArg Prod.fst z).symm
  · rw [e2]; exact fun z => x2 (congrArg Prod.fst z)
theorem PLD.pla (P : PLD σ n m B s t L f Mk lab p K) : PLa (rmx m) (nrP σ m B s t L p) (BpP B s t L p) := fun Gd sy con tri => by
  have D := P.dsk
  have all := peelo (Gd := Gd) P.w P.bn P.fl P.trf P.ws P.nt (fun x hx lx => by
    obtain ⟨k, _, e⟩ := (P.lo x hx).mp lx
    exact ⟨k, by rw [it_wo]; exact e⟩) sy (fun S hS cl => con S hS (fun i j hi si hj hij g => cl i j hi si (P.nra hi hj hij) g)) (fun x hx nx g1 g2 => by
    have r1 : rmx m x.1 := ⟨hx.1, hx.2.1⟩
    have e := P.w.ed r1 hx.2.2
    have no : ¬ outd (qo B s t p) x.1 x.2 := fun o => nx ((P.out (a := x.1) (c := x.2) hx).mpr o)
    have eb : BpP B s t L p x.2 x.1 = B x.2 x.1 := D.x4 e.1 e.2.2.1 no
    have rc : rmx m (B x.2 x.1) := (P.w.ed e.1 (P.bn _ _ e.1.1 e.1.2 e.2.2.1).2.1).1
    have t := (D.ti x.1 x.2 r1 hx.2.2 no).1
    have g2' : Gd (B x.2 x.1) (B (B x.2 x.1) x.2) := g2
    rw [t] at g2'
    exact tri x.1 x.2 r1 e.1 (Or.inl ⟨r1, hx.2.2⟩) (by rw [eb]; exact rc) (by rw [eb]; exact g1) (by rw [eb]; exact g2'))
  exact fun a b ha hb h => all a b ha (P.nra ha hb h)
theorem PLD.kpa (P : PLD σ n m B s t L f Mk lab p K) : KPa (rmx m) (aj σ) B (qo B s t p) := fun C sy sub ev => by
  have H : CE σ m (fun a b => C a b = true) := ⟨fun a b h => (sy b a).trans h, sub, fun z hz => by
    rw [← ev z hz]
    refine xf_cg 9 (fun j _ => ?_)
    show bo (C z j = true) = C z j
    cases hc : C z j with
    | true => exact bo_t.mpr rfl
    | false => exact bo_f.mpr (fun h => absurd h (by decide))⟩
  have bc' : ∀ a b, bo (C a b = true) = C a b := fun a b => by
    cases hc : C a b with
    | true => exact bo_t.mpr rfl
    | false => exact bo_f.mpr (fun h => absurd h (by decide))
  refine ⟨fun r v => kap σ (fun a b => C a b = true) (r, v), fun r v hr hv => ⟨?_, ?_⟩, fun y => ?_⟩
  · have := kap_nx P.w H hr (P.bn r v hr.1 hr.2 hv)
    rw [bc'] at this
    show xor (Qc σ _ r) (Tc σ _ r (B r v)) = xor (xor (Qc σ _ r) (Tc σ _ r v)) (C r v)
    rw [this]
    cases Qc σ (fun a b => C a b = true) r <;> cases Tc σ (fun a b => C a b = true) r v <;> cases C r v <;> rfl
  · have := kap_op P.w H hr hv
    rw [bc'] at this
    exact this
  · have := kap_it P.w H P.bn P.st.1 (p 0 + y)
    rw [it_wo] at this
    show kap σ _ (wo B s t (p 0 + y), wo B s t (p 0 + (y + 1))) = false
    rw [← Nat.add_assoc, this]
    exact kap_o P.w H P.ws P.nt
theorem PLD.lyt (P : PLD σ n m B s t L f Mk lab p K) {sd : Nat → Nat → Nat} (Y : LYa (rmx m) (nrP σ m B s t L p) (BpP B s t L p) sd) : LYT σ m sd := by
  have D := P.dsk
  have G := P.gp
  refine ⟨fun r w hr hw => ?_, fun r hr => ?_⟩
  · have e := P.w.ed hr hw
    exact ⟨Y.lt r w hr (Or.inl ⟨hr, hw⟩), Y.op r w hr e.1 (Or.inl ⟨hr, hw⟩)⟩
  · obtain ⟨w, dg, E, z0, mo⟩ := lay_enu G Y hr (show 0 < 4 by decide)
    obtain ⟨a1, a2, a3, a4, a5⟩ := E
    refine ⟨w, fun k => sd r (w k), dg, fun k _ => ?_, fun v hv => a5 v (Or.inl ⟨hr, hv⟩), a4, fun k _ => ⟨rfl, Y.lt r _ hr (a1 k).1⟩, fun k hk => ?_, fun q hq => ?_, fun C H k hk => ?_⟩
    · rcases D.nrr hr (a1 k).1 with h | ⟨i, i4, e, _⟩
      · exact Or.inl ⟨h.1, h⟩
      · exact Or.inr (by omega)
    · have := mo k hk
      have l1 := Y.lt r _ hr (a1 k).1
      have l2 := Y.lt r _ hr (a1 (k + 1)).1
      show sd r (w k) ≤ sd r (w (k + 1))
      omega
    · obtain ⟨v, nv, e, _⟩ := Y.on r q hr hq
      obtain ⟨k, hk, ek⟩ := a5 v nv
      exact ⟨k, hk, by show sd r (w k) = q; rw [ek]; exact e⟩
    · have outer : ∀ y, kap σ C (qo B s t p y, qo B s t p (y + 1)) = false := fun y => by
        have := kap_it P.w H P.bn P.st.1 (p 0 + y)
        rw [it_wo] at this
        show kap σ _ (wo B s t (p 0 + y), wo B s t (p 0 + (y + 1))) = false
        rw [← Nat.add_assoc, this]
        exact kap_o P.w H P.ws P.nt
      have inner : ∀ v, aj σ r v → ¬ outd (qo B s t p) v r → kp σ C r (BpP B s t L p r v) = xor (kp σ C r v) (bo (v < 9 ∧ C r v)) := fun v hv no => by
        have eb : BpP B s t L p r v = B r v := D.x4 hr hv no
        have nx := P.bn r v hr.1 hr.2 hv
        rw [eb]
        unfold kp
        rw [if_pos nx.2.1.1, if_pos hv.1]
        have := kap_nx P.w H hr nx
        show xor (Qc σ C r) (Tc σ C r (B r v)) = xor (xor (Qc σ C r) (Tc σ C r v)) (bo (v < 9 ∧ C r v))
        rw [this, bo_cg (show (v < 9 ∧ C r v) ↔ C r v from ⟨fun z => z.2, fun z => ⟨hv.1, z⟩⟩)]
        cases Qc σ C r <;> cases Tc σ C r v <;> cases bo (C r v) <;> rfl
      have side : ∀ i, kp σ C r (9 + i) = false := fun i => by unfold kp; rw [if_neg (by omega)]
      rw [(a1 k).2]
      by_cases on : ∃ y, 1 ≤ y ∧ y ≤ L ∧ r = qo B s t p y
      · obtain ⟨y, h1, h2, e⟩ := on
        have hv := (a1 k).1
        generalize w k = v at hv
        subst e
        rcases D.cs h1 h2 hv with c | ⟨c1, c2, _⟩ | ⟨j, hj, c⟩ | c
        · subst c
          have x : BpP B s t L p (qo B s t p y) (qo B s t p (y - 1)) = 9 + lo4 (bo4 L p) y := D.x1 h1 h2
          have q9 := D.q9 (y - 1)
          have pv := D.pv h1
          have rp : rmx m (qo B s t p (y - 1)) := (D.qr _).1
          have o := kap_op P.w H rp (P.w.ed hr pv.1).2.2.1
          have z := outer (y - 1)
          rw [show y - 1 + 1 = y by omega] at z
          rw [x, side]
          unfold kp
          rw [if_pos q9, o, z, bo_cg (show (qo B s t p (y - 1) < 9 ∧ C (qo B s t p y) (qo B s t p (y - 1))) ↔ C (qo B s t p (y - 1)) (qo B s t p y) from ⟨fun u => H.1 _ _ u.2, fun u => ⟨q9, H.1 _ _ u⟩⟩)]
          cases bo (C (qo B s t p (y - 1)) (qo B s t p y)) <;> rfl
        · exact inner v c1 c2
        · subst c
          have x : BpP B s t L p (qo B s t p y) (9 + (lo4 (bo4 L p) y + j) % 4) = 9 + (lo4 (bo4 L p) y + (j + 1)) % 4 := D.x2 h1 h2 hj
          rw [x, side, side, bo_f.mpr (fun z => by omega)]; rfl
        · subst c
          have x : BpP B s t L p (qo B s t p y) (9 + nlo (bo4 L p) L y % 4) = qo B s t p (y + 1) := D.x3 h1 h2
          rw [x, side, bo_f.mpr (fun z => by omega)]
          unfold kp
          rw [if_pos (D.q9 _), outer]; rfl
      · rcases D.nrr hr (a1 k).1 with h | ⟨i, i4, e, h⟩
        · exact inner _ h (fun o => by obtain ⟨y, y1, y2, y3, _⟩ := D.out1 o; exact on ⟨y, y1, y2, y3⟩)
        · exact absurd (D.at1 i4 h) on
theorem PLD.nqa (P : PLD σ n m B s t L f Mk lab p K) {sd : Nat → Nat → Nat} (Y : LYa (rmx m) (nrP σ m B s t L p) (BpP B s t L p) sd) : NQa (rmx m) (aj σ) sd := by
  have LT := P.lyt Y
  -- the least way that comes back
  have key : ∀ K, ∀ (q : Nat) (c : Nat → Nat), q < 4 → 1 ≤ K → c K = c 0 → (∀ i, i < K → rmx m (c i) ∧ aj σ (c i) (c (i + 1)) ∧ sd (c i) (c (i + 1)) = q) → False := by
    intro K
    induction K using Nat.strongRecOn with
    | ind K IH =>
      intro q c hq K1 cl st
      by_cases d : ∃ i j, i < j ∧ j < K ∧ c i = c j
      · obtain ⟨i, j, h1, h2, h3⟩ := d
        refine IH (j - i) (by omega) q (fun k => c (i + k)) hq (by omega) ?_ (fun k hk => ?_)
        · show c (i + (j - i)) = c (i + 0)
          rw [show i + (j - i) = j by omega, Nat.add_zero]; exact h3.symm
        · exact st (i + k) (by omega)
      · exact no_q P.w P.cn P.ws P.nt LT _ q K c ⟨K1, hq, cl, st, fun i j h1 h2 e => d ⟨i, j, h1, h2, e⟩⟩ (Nat.le_refl _)
  exact fun q K c h1 h2 h3 h4 => key K q c h1 h2 h3 h4
/-- there is a layout -/
theorem PLD.lay_ex (P : PLD σ n m B s t L f Mk lab p K) {A Bb C : Nat → Nat} (F : FA (rmx m) (nrP σ m B s t L p) (BpP B s t L p) f A Bb C (lbP lab)) : ∃ st, CHa (rmx m) (nrP σ m B s t L p) f A Bb C st := choice_ex P.gp F P.pla ⟨s, P.ws.1, P.ws.2.2.1⟩
end PLT
