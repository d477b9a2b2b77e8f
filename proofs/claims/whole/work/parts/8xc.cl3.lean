/-! class: shiftOpen, canBeMet, choose -/
section CL3
variable {τ0 : mm_S} {rm : Nat → Prop} {nr : Nat → Nat → Prop} {Bp lb : Nat → Nat → Nat} {f : Nat} {bd : Nat → Nat → Nat} {R : Nat} {od an : Nat → Nat} {n : Nat} {ja jb : Nat → Nat}
def inF (bd : Nat → Nat → Nat) (g r : Nat) : Prop := r = bd g 0 ∨ r = bd g 1 ∨ r = bd g 2
theorem c_65t {d g : Nat} {Q : mm_Q} {τ : mm_S} {x : Int32} {b0 b1 b2 : Nat} (hg : g < 42) (h0 : b0 < 9 ∧ τ 46 (3 * g) = nI b0) (h1 : b1 < 9 ∧ τ 46 (3 * g + 1) = nI b1) (h2 : b2 < 9 ∧ τ 46 (3 * g + 2) = nI b2) (n1 : b0 ≠ b1) (n2 : b0 ≠ b2) (n3 : b1 ≠ b2) (q : ∀ τ' : mm_S, (∀ c, c ≠ 49 → τ' c = τ c) → (∀ r, r = b0 ∨ r = b1 ∨ r = b2 → τ' 49 r = τ 49 r + x) → (∀ r, ¬ (r = b0 ∨ r = b1 ∨ r = b2) → τ' 49 r = τ 49 r) → Q none τ') : mD (d + 1) 65 [.ref 7, .int (nI g), .int x] τ Q := by
  refine ks_65_0 ?_
  rw [nI_3]
  have c0 : (nI (3 * g)).toNatClampNeg = 3 * g := nI_clamp (by omega)
  have c1 : (nI (3 * g + 1)).toNatClampNeg = 3 * g + 1 := nI_clamp (by omega)
  have c2 : (nI (3 * g + 2)).toNatClampNeg = 3 * g + 2 := nI_clamp (by omega)
  have k0 : (nI b0).toNatClampNeg = b0 := nI_clamp (by omega)
  have k1 : (nI b1).toNatClampNeg = b1 := nI_clamp (by omega)
  have k2 : (nI b2).toNatClampNeg = b2 := nI_clamp (by omega)
  have g0 : ¬ ((3 : Int32) * nI g + 3 ≤ nI (3 * g)) := by rw [nI_3, nI_a3]; exact hI_nle (by omega) (by omega)
  have g1 : ¬ ((3 : Int32) * nI g + 3 ≤ nI (3 * g + 1)) := by rw [nI_3, nI_a3]; exact hI_nle (by omega) (by omega)
  have g2 : ¬ ((3 : Int32) * nI g + 3 ≤ nI (3 * g + 2)) := by rw [nI_3, nI_a3]; exact hI_nle (by omega) (by omega)
  have g3 : (3 : Int32) * nI g + 3 ≤ nI (3 * g + 3) := by rw [nI_3, nI_a3]; exact hI_le (by omega) (Nat.le_refl _)
  refine ks_65_4 (fun _ => pk_in (3 * g) 126 (by omega)) (fun _ => by rw [c0, h0.2]; exact pk_in b0 9 h0.1) (fun z => absurd z g0) (fun _ => ?_)
  rw [c0, h0.2, k0, nI_1]
  refine ks_65_4 (fun _ => pk_in (3 * g + 1) 126 (by omega)) (fun _ => by rw [c1, mm_up_n (by decide), h1.2]; exact pk_in b1 9 h1.1) (fun z => absurd z g1) (fun _ => ?_)
  rw [c1, mm_up_n (show 46 ≠ 49 by decide), h1.2, k1, nI_1]
  refine ks_65_4 (fun _ => pk_in (3 * g + 2) 126 (by omega)) (fun _ => by rw [c2, mm_up_n (by decide), mm_up_n (by decide), h2.2]; exact pk_in b2 9 h2.1) (fun z => absurd z g2) (fun _ => ?_)
  rw [c2, mm_up_n (show 46 ≠ 49 by decide), mm_up_n (show 46 ≠ 49 by decide), h2.2, k2, nI_1]
  refine ks_65_4 (fun z => absurd g3 z) (fun z => absurd g3 z) (fun _ => q _ (fun c hc => by rw [mm_up_n hc, mm_up_n hc, mm_up_n hc]) (fun r hr => ?_) (fun r hr => ?_)) (fun z => absurd g3 z)
  · rcases hr with e | e | e
    · subst e; rw [mm_up_o n2, mm_up_o n1, mm_up_s]
    · subst e; rw [mm_up_o n3, mm_up_s, mm_up_o (fun z => n1 z.symm)]
    · subst e; rw [mm_up_s, mm_up_o (fun z => n3 z.symm), mm_up_o (fun z => n2 z.symm)]
  · rw [mm_up_o (fun e => hr (Or.inr (Or.inr e))), mm_up_o (fun e => hr (Or.inr (Or.inl e))), mm_up_o (fun e => hr (Or.inl e))]
theorem c_66t {d g : Nat} {Q : mm_Q} {τ : mm_S} {bd : Nat → Nat → Nat} {a o : Nat → Nat} (hg : g < 42) (hb : ∀ i, i < 3 → bd g i < 9 ∧ τ 46 (3 * g + i) = nI (bd g i) ∧ τ 48 (bd g i) = nI (a (bd g i)) ∧ τ 49 (bd g i) = nI (o (bd g i)) ∧ a (bd g i) < 50 ∧ o (bd g i) < 50) (q1 : (∀ i, i < 3 → a (bd g i) ≤ o (bd g i)) → Q (some (.int 1)) τ) (q0 : (∃ i, i < 3 ∧ o (bd g i) < a (bd g i)) → Q (some (.int 0)) τ) : mD (d + 1) 66 [.ref 7, .int (nI g)] τ Q := by
  refine ks_66_0 ?_
  rw [nI_3]
  have key := lp_dn (P := fun i => (∀ j, j < i → a (bd g j) ≤ o (bd g j)) → mw d mt_66 Q 4 [some (.ref 7), some (.int (nI g)), some (.int (nI (3 * g + i)))] [] τ) 3 ?_ ?_ 0 (by omega) (fun j hj => absurd hj (Nat.not_lt_zero j))
  · exact key
  · intro h
    have g3 : (3 : Int32) * nI g + 3 ≤ nI (3 * g + 3) := by rw [nI_3, nI_a3]; exact hI_le (by omega) (Nat.le_refl _)
    exact ks_66_4 (fun z => absurd g3 z) (fun z => absurd g3 z) (fun _ => q1 h) (fun z => absurd g3 z) (fun z => absurd g3 z)
  · intro i hi ih h
    have g3 : ¬ ((3 : Int32) * nI g + 3 ≤ nI (3 * g + i)) := by rw [nI_3, nI_a3]; exact hI_nle (by omega) (by omega)
    obtain ⟨x1, x2, x3, x4, x5, x6⟩ := hb i hi
    have e46 : τ 46 (nI (3 * g + i)).toNatClampNeg = nI (bd g i) := by rw [nI_clamp (by omega)]; exact x2
    have ck : (nI (bd g i)).toNatClampNeg = bd g i := nI_clamp (by omega)
    refine ks_66_4 (fun _ => pk_in (3 * g + i) 126 (by omega)) (fun _ => by rw [e46]; exact pk_in _ 9 x1) (fun z => absurd z g3) (fun _ y => ?_) (fun _ y => q0 ⟨i, hi, ?_⟩)
    · rw [nI_1]
      rw [e46, ck, x3, x4] at y
      have y' := (nI_leI (by omega) (by omega)).mp y
      refine ih (fun j hj => ?_)
      by_cases e : j = i
      · rw [e]; exact y'
      · exact h j (by omega)
    · rw [e46, ck, x3, x4] at y
      rcases Nat.lt_or_ge (o (bd g i)) (a (bd g i)) with c | c
      · exact c
      · exact absurd (hI_le (by omega) c) y
noncomputable def cpr (s : Nat → Nat) (g r : Nat) : Nat := ct (fun h => s h = r) g
noncomputable def opn (bd : Nat → Nat → Nat) (f g r : Nat) : Nat := ct (fun h => g ≤ h ∧ inF bd h r) f
noncomputable def ned (nr : Nat → Nat → Prop) (r : Nat) : Nat := dgr nr r - 4
def NEa (rm : Nat → Prop) (nr : Nat → Nat → Prop) (s : Nat → Nat) (g : Nat) (τ : mm_S) : Prop := ∀ r, rm r → cpr s g r ≤ ned nr r ∧ τ 48 r = nI (ned nr r - cpr s g r)
def OPa (rm : Nat → Prop) (bd : Nat → Nat → Nat) (f g : Nat) (τ : mm_S) : Prop := ∀ r, rm r → τ 49 r = nI (opn bd f g r)
def CHv (rm : Nat → Prop) (nr : Nat → Nat → Prop) (bd : Nat → Nat → Nat) (f : Nat) (st : Nat → Nat) : Prop := (∀ h, h < f → inF bd h (st h)) ∧ ∀ r, rm r → ct (fun h => st h = r) f = ned nr r
/-- the vectors of the choices that go on from a beginning -/
def CMP (rm : Nat → Prop) (nr : Nat → Nat → Prop) (Bp lb : Nat → Nat → Nat) (f : Nat) (bd : Nat → Nat → Nat) (R : Nat) (od an : Nat → Nat) (n : Nat) (ja jb : Nat → Nat) (s : Nat → Nat) (g : Nat) (D : Nat → Nat) : Prop := ∃ st b, (∀ h, h < g → st h = s h) ∧ CHv rm nr bd f st ∧ ROa rm nr Bp lb st b ∧ ANa rm nr R od an b ∧ ∀ e, e < n → D e = dvec ja jb b e
theorem opn_s {g r : Nat} (hg : g < f) : opn bd f g r = opn bd f (g + 1) r + ic (inF bd g r) := by
  unfold opn
  have h1 := ct_sp (P := fun h => g ≤ h ∧ inF bd h r) (fun h => h = g) f
  have h2 : ct (fun h => (g ≤ h ∧ inF bd h r) ∧ ¬ h = g) f = ct (fun h => g + 1 ≤ h ∧ inF bd h r) f := ct_cg f (fun h _ => ⟨fun z => ⟨by have := z.2; have := z.1.1; omega, z.1.2⟩, fun z => ⟨⟨by omega, z.2⟩, by omega⟩⟩)
  have h3 : ct (fun h => (g ≤ h ∧ inF bd h r) ∧ h = g) f = ic (inF bd g r) := by
    by_cases c : inF bd g r
    · rw [ic_t c, ct_u (i := g) f hg ⟨⟨Nat.le_refl g, c⟩, rfl⟩ (fun j _ z => z.2)]
    · rw [ic_f c, ct_z (P := fun h => (g ≤ h ∧ inF bd h r) ∧ h = g) f (fun h _ z => c (z.2 ▸ z.1.2))]
  omega
theorem opn_z {r : Nat} : opn bd f f r = 0 := ct_z f (fun h hh z => by omega)
theorem cpr_s {s : Nat → Nat} {g r : Nat} : cpr s (g + 1) r = cpr s g r + ic (s g = r) := rfl
theorem cpr_cg {s s' : Nat → Nat} {g r : Nat} (h : ∀ i, i < g → s i = s' i) : cpr s g r = cpr s' g r := ct_cg g (fun i hi => by rw [h i hi])
/-- a whole choice counts no more than its beginning and what is open -/
theorem cho_le {st s : Nat → Nat} {g r : Nat} (hg : g ≤ f) (h1 : ∀ h, h < g → st h = s h) (h2 : ∀ h, h < f → inF bd h (st h)) : cpr s g r ≤ ct (fun h => st h = r) f ∧ ct (fun h => st h = r) f ≤ cpr s g r + opn bd f g r := by
  have e : ct (fun h => st h = r) f = ct (fun h => st h = r) g + ct (fun i => st (g + i) = r) (f - g) := by
    have := su_cut (f := fun h => ic (st h = r)) g (f - g)
    rw [show g + (f - g) = f by omega] at this
    exact this
  have e1 : ct (fun h => st h = r) g = cpr s g r := ct_cg g (fun i hi => by rw [h1 i hi])
  have e2 : opn bd f g r = ct (fun h => g ≤ h ∧ inF bd h r) g + ct (fun i => g ≤ g + i ∧ inF bd (g + i) r) (f - g) := by
    have := su_cut (f := fun h => ic (g ≤ h ∧ inF bd h r)) g (f - g)
    rw [show g + (f - g) = f by omega] at this
    exact this
  have e3 := ct_le (P := fun i => st (g + i) = r) (Q := fun i => g ≤ g + i ∧ inF bd (g + i) r) (f - g) (fun i hi z => ⟨by omega, by have := h2 (g + i) (by omega); rw [z] at this; exact this⟩)
  omega
theorem c_64t (S : LSd τ0 rm nr Bp lb f bd R od an n ja jb) (dis : ∀ g, g < f → bd g 0 ≠ bd g 1 ∧ bd g 0 ≠ bd g 2 ∧ bd g 1 ≠ bd g 2) (full : ∀ st, CHv rm nr bd f st → ∀ r, rm r → ct (fun u => nr r u ∧ ¬ stq rm Bp lb st r u) 13 = 4) (lone : ∀ r, rm r → (∀ h, h < f → ¬ inF bd h r) → ned nr r = 0) :
    ∀ (e d g : Nat) (Q : mm_Q) (τ : mm_S) (s : Nat → Nat) (W : (Nat → Nat) → Prop), g + e = f → LI τ0 τ → (∀ h, h < g → τ 47 h = nI (s h) ∧ inF bd h (s h)) → NEa rm nr s g τ → OPa rm bd f g τ → (∀ r, rm r → (∃ h, h < g ∧ inF bd h r) → ned nr r - cpr s g r ≤ opn bd f g r) → FB n τ W → (∀ τ', LI τ0 τ' → (∀ h, h < g → τ' 47 h = nI (s h) ∧ inF bd h (s h)) → NEa rm nr s g τ' → OPa rm bd f g τ' → FB n τ' (fun D => W D ∨ CMP rm nr Bp lb f bd R od an n ja jb s g D) → Q none τ') → mD (d + e + 5) 64 [.ref 7, .int (nI g)] τ Q := by
  have G := S.gp
  have f42 := S.fc.1
  have inb : ∀ g i, g < f → i < 3 → inF bd g (bd g i) := fun g i _ hi => by
    rcases (show i = 0 ∨ i = 1 ∨ i = 2 by omega) with e | e | e <;> subst e
    · exact Or.inl rfl
    · exact Or.inr (Or.inl rfl)
    · exact Or.inr (Or.inr rfl)
  have inr : ∀ g r, g < f → inF bd g r → rm r := fun g r hg h => by
    rcases h with h | h | h <;> rw [h]
    · exact (S.bd g 0 hg (by decide)).1
    · exact (S.bd g 1 hg (by decide)).1
    · exact (S.bd g 2 hg (by decide)).1
  have n13 : ∀ r, ned nr r ≤ 13 := fun r => by have : dgr nr r ≤ 13 := ct_n 13; unfold ned; omega
  have o42 : ∀ g r, opn bd f g r ≤ 42 := fun g r => Nat.le_trans (ct_n f) f42
  intro e
  induction e with
  | zero =>
    intro d g Q τ s W hg I pre NE OP ME F q
    have gf : g = f := by omega
    subst gf
    have e56 : τ 5 6 = nI g := by rw [LI_k I (by omega)]; exact S.fc.2
    have ch : CHv rm nr bd g s := ⟨fun h hh => (pre h hh).2, fun r hr => by
      obtain ⟨x1, _⟩ := NE r hr
      show cpr s g r = ned nr r
      by_cases c : ∃ h, h < g ∧ inF bd h r
      · have := ME r hr c
        rw [opn_z] at this
        omega
      · have := lone r hr (fun h hh z => c ⟨h, hh, z⟩)
        omega⟩
    refine ke_64 (kb_64_0 (fun z => absurd z (by rw [e56]; exact nI_nlt (by omega) (by omega))) (fun _ => kb_64_11 (c_67t S I (fun h hh => ⟨(pre h hh).1, G.r9 _ (inr h _ hh (pre h hh).2)⟩) (full s ch) F (fun τ' b I' fr RO AN F' => kb_64_15 (q τ' I' (fun h hh => by rw [fr 47 (by decide) (by decide) (by omega)]; exact pre h hh) (fun r hr => by rw [fr 48 (by decide) (by decide) (by omega)]; exact NE r hr) (fun r hr => by rw [fr 49 (by decide) (by decide) (by omega)]; exact OP r hr) (FB_cg rfl rfl (fun D => ?_) F'))))))
    constructor
    · rintro (z | z)
      · exact Or.inl z
      · exact Or.inr ⟨s, b, fun _ _ => rfl, ch, RO, AN, z⟩
    · rintro (z | ⟨st, b', h1, h2, h3, h4, h5⟩)
      · exact Or.inl z
      · right
        have RO' : ROa rm nr Bp lb s b' := fun r v hr hv => by
          obtain ⟨y1, y2⟩ := h3 r v hr hv
          refine ⟨y1, ?_⟩
          rw [y2]
          have : ic (¬ stq rm Bp lb st r v) = ic (¬ stq rm Bp lb s r v) := ic_cg (by
            unfold stq
            constructor
            · intro z y; exact z ⟨y.1, y.2.1, by rw [h1 _ (S.fo v r y.1 hr hv y.2.1).1]; exact y.2.2⟩
            · intro z y; exact z ⟨y.1, y.2.1, by rw [← h1 _ (S.fo v r y.1 hr hv y.2.1).1]; exact y.2.2⟩)
          rw [this]
        have uq := ro_uq G RO RO' AN h4
        intro e he
        obtain ⟨ra, rb, nab, _, _⟩ := S.je e he
        rw [h5 e he]
        unfold dvec
        rw [uq _ _ ra nab]
  | succ e ih =>
    intro d g Q τ s W hg I pre NE OP ME F q
    have hgf : g < f := by omega
    have e56 : τ 5 6 = nI f := by rw [LI_k I (by omega)]; exact S.fc.2
    obtain ⟨d1, d2, d3⟩ := dis g hgf
    have B := fun i hi => S.bd g i hgf hi
    have b9 : ∀ i, i < 3 → bd g i < 9 := fun i hi => G.r9 _ (B i hi).1
    have r46 : ∀ ρ, LI τ0 ρ → ∀ i, i < 3 → ρ 46 (3 * g + i) = nI (bd g i) := fun ρ I i hi => by rw [LI_k I (by omega)]; exact (B i hi).2
    have sh : ∀ {ρ : mm_S} {x : Int32} {Q' : mm_Q}, LI τ0 ρ → (∀ ρ' : mm_S, (∀ c, c ≠ 49 → ρ' c = ρ c) → (∀ r, inF bd g r → ρ' 49 r = ρ 49 r + x) → (∀ r, ¬ inF bd g r → ρ' 49 r = ρ 49 r) → Q' none ρ') → mD (d + e + 5) 65 [.ref 7, .int (nI g), .int x] ρ Q' := fun {ρ x Q'} I q => c_65t (d := d + e + 4) (by omega) ⟨b9 0 (by decide), r46 ρ I 0 (by decide)⟩ ⟨b9 1 (by decide), r46 ρ I 1 (by decide)⟩ ⟨b9 2 (by decide), r46 ρ I 2 (by decide)⟩ d1 d2 d3 q
    have LI49 : ∀ {ρ ρ' : mm_S}, LI τ0 ρ → (∀ c, c ≠ 49 → ρ' c = ρ c) → LI τ0 ρ' := fun {ρ ρ'} I fr => by
      obtain ⟨i1, i2, i3, i4⟩ := I
      exact ⟨fun c h1 h2 h3 h4 h5 h6 => by rw [fr c h5]; exact i1 c h1 h2 h3 h4 h5 h6, by rw [fr 7 (by decide)]; exact i2, fun r v hr hv => by rw [fr _ (by omega)]; exact i3 r v hr hv, fun e he => by rw [fr 45 (by decide)]; exact i4 e he⟩
    show mD (d + e + 5 + 1) 64 [.ref 7, .int (nI g)] τ Q
    refine ke_64 (kb_64_0 (fun _ => kb_64_16 (sh I (fun τ1 fr1 in1 ou1 => kb_64_22 ?_))) (fun z => absurd (by rw [e56]; exact nI_lt hgf (by omega)) z))
    have I1 := LI49 I fr1
    have OP1 : OPa rm bd f (g + 1) τ1 := fun r hr => by
      by_cases c : inF bd g r
      · rw [in1 r c, OP r hr, opn_s hgf, ic_t c]; exact nI_pm _
      · rw [ou1 r c, OP r hr, opn_s hgf, ic_f c]; rfl
    rw [nI_3]
    have key := lp_dn (P := fun i => ∀ τ, LI τ0 τ → (∀ h, h < g → τ 47 h = nI (s h) ∧ inF bd h (s h)) → NEa rm nr s g τ → OPa rm bd f (g + 1) τ → FB n τ (fun D => W D ∨ ∃ j, j < i ∧ CMP rm nr Bp lb f bd R od an n ja jb (fun h => if h = g then bd g j else s h) (g + 1) D) → ∀ o3, mw (d + e + 5) mt_64 Q 26 [some (.ref 7), some (.int (nI g)), some (.int (nI (3 * g + i))), o3] [] τ) 3 ?_ ?_ 0 (by omega) τ1 I1 (fun h hh => by rw [fr1 47 (by decide)]; exact pre h hh) (fun r hr => by rw [fr1 48 (by decide)]; exact NE r hr) OP1 (FB_cg (by rw [fr1 7 (by decide)]) (fr1 45 (by decide)) (fun D => ⟨fun z => Or.inl z, fun z => z.elim (fun y => y) (fun ⟨j, hj, _⟩ => absurd hj (Nat.not_lt_zero j))⟩) F) none
    · exact key
    · intro τ I pre NE OP F o3
      have g3 : (3 : Int32) * nI g + 3 ≤ nI (3 * g + 3) := by rw [nI_3, nI_a3]; exact hI_le (by omega) (Nat.le_refl _)
      refine kb_64_26 (fun _ => kb_64_99 (sh I (fun τ2 fr2 in2 ou2 => kb_64_105 (q τ2 (LI49 I fr2) (fun h hh => by rw [fr2 47 (by decide)]; exact pre h hh) (fun r hr => by rw [fr2 48 (by decide)]; exact NE r hr) (fun r hr => ?_) (FB_cg (by rw [fr2 7 (by decide)]) (fr2 45 (by decide)) (fun D => ?_) F))))) (fun z => absurd g3 z)
      · by_cases c : inF bd g r
        · rw [in2 r c, OP r hr, opn_s hgf, ic_t c]; exact nI_1 _
        · rw [ou2 r c, OP r hr, opn_s hgf, ic_f c]; rfl
      · constructor
        · rintro (z | ⟨j, hj, st, b, h1, h2, h3, h4, h5⟩)
          · exact Or.inl z
          · exact Or.inr ⟨st, b, fun h hh => (h1 h (by omega)).trans (if_neg (by omega)), h2, h3, h4, h5⟩
        · rintro (z | ⟨st, b, h1, h2, h3, h4, h5⟩)
          · exact Or.inl z
          · right
            have ing := h2.1 g hgf
            have pick : ∃ j, j < 3 ∧ st g = bd g j := by
              rcases ing with y | y | y
              · exact ⟨0, by decide, y⟩
              · exact ⟨1, by decide, y⟩
              · exact ⟨2, by decide, y⟩
            obtain ⟨j, hj, ej⟩ := pick
            refine ⟨j, hj, st, b, fun h hh => ?_, h2, h3, h4, h5⟩
            show st h = if h = g then bd g j else s h
            by_cases c : h = g
            · rw [if_pos c, c]; exact ej
            · rw [if_neg c]; exact h1 h (by omega)
    · intro i hi ihi τ I pre NE OP F o3
      have g3 : ¬ ((3 : Int32) * nI g + 3 ≤ nI (3 * g + i)) := by rw [nI_3, nI_a3]; exact hI_nle (by omega) (by omega)
      have hb := b9 i hi
      have rb := (B i hi).1
      have e46 : τ 46 (nI (3 * g + i)).toNatClampNeg = nI (bd g i) := by rw [nI_clamp (by omega)]; exact r46 τ I i hi
      have iv : vp_in (τ 46 (nI (3 * g + i)).toNatClampNeg) 9 := by rw [e46]; exact pk_in _ 9 hb
      have cb : (nI (bd g i)).toNatClampNeg = bd g i := nI_clamp (by omega)
      have cg : (nI g).toNatClampNeg = g := nI_clamp (by omega)
      obtain ⟨s', hs'⟩ : ∃ s' : Nat → Nat, s' = fun h => if h = g then bd g i else s h := ⟨_, rfl⟩
      have s'g : s' g = bd g i := by rw [hs']; exact if_pos rfl
      have s'h : ∀ h, h < g → s' h = s h := fun h hh => by rw [hs']; exact if_neg (by omega)
      have cp : ∀ r, cpr s' (g + 1) r = cpr s g r + ic (bd g i = r) := fun r => by rw [cpr_s, cpr_cg s'h, s'g]
      obtain ⟨ne1, ne2⟩ := NE _ rb
      -- going on with the next room
      have back : ∀ ρ, LI τ0 ρ → (∀ h, h < g → ρ 47 h = nI (s h) ∧ inF bd h (s h)) → (∀ r, rm r → r ≠ bd g i → ρ 48 r = τ 48 r) → ρ 48 (bd g i) = τ 48 (bd g i) - 1 → OPa rm bd f (g + 1) ρ → FB n ρ (fun D => W D ∨ ∃ j, j < i + 1 ∧ CMP rm nr Bp lb f bd R od an n ja jb (fun h => if h = g then bd g j else s h) (g + 1) D) → mw (d + e + 5) mt_64 Q 83 [some (.ref 7), some (.int (nI g)), some (.int (nI (3 * g + i))), some (.int (nI (bd g i)))] [] ρ := fun ρ I pre h1 h2 OP F => by
        refine kb_64_83 (pk_in _ 9 hb) (pk_in _ 9 hb) ?_
        rw [nI_1, cb, h2, Int32.sub_add_cancel]
        refine ihi _ (LI_o I (by omega)) (fun h hh => by rw [mm_up_n (by decide)]; exact pre h hh) (fun r hr => ?_) (fun r hr => by rw [mm_up_n (by decide)]; exact OP r hr) (FB_cg (by rw [mm_up_n (by decide)]) (by rw [mm_up_n (by decide)]) (fun _ => Iff.rfl) F) _
        refine ⟨(NE r hr).1, ?_⟩
        by_cases c : r = bd g i
        · subst c; rw [mm_up_s]; exact (NE _ hr).2
        · rw [mm_up_o c, h1 r hr c]; exact (NE r hr).2
      have nomore : (∀ D, ¬ CMP rm nr Bp lb f bd R od an n ja jb s' (g + 1) D) → ∀ D, (W D ∨ ∃ j, j < i ∧ CMP rm nr Bp lb f bd R od an n ja jb (fun h => if h = g then bd g j else s h) (g + 1) D) ↔ (W D ∨ ∃ j, j < i + 1 ∧ CMP rm nr Bp lb f bd R od an n ja jb (fun h => if h = g then bd g j else s h) (g + 1) D) := fun no D => by
        constructor
        · rintro (z | ⟨j, hj, z⟩)
          · exact Or.inl z
          · exact Or.inr ⟨j, by omega, z⟩
        · rintro (z | ⟨j, hj, z⟩)
          · exact Or.inl z
          · by_cases c : j = i
            · subst c; rw [hs'] at no; exact absurd z (no D)
            · exact Or.inr ⟨j, by omega, z⟩
      have up47 : ∀ h, h < g → (mm_up (mm_up τ 47 g (nI (bd g i))) 48 (bd g i) (τ 48 (bd g i) - 1)) 47 h = nI (s h) ∧ inF bd h (s h) := fun h hh => by rw [mm_up_n (by decide), mm_up_o (by omega)]; exact pre h hh
      have I2 : LI τ0 (mm_up (mm_up τ 47 g (nI (bd g i))) 48 (bd g i) (τ 48 (bd g i) - 1)) := LI_o (LI_o I (by omega)) (by omega)
      have o48 : ∀ r, rm r → r ≠ bd g i → (mm_up (mm_up τ 47 g (nI (bd g i))) 48 (bd g i) (τ 48 (bd g i) - 1)) 48 r = τ 48 r := fun r _ h => by rw [mm_up_o h, mm_up_n (by decide)]
      have s48 : (mm_up (mm_up τ 47 g (nI (bd g i))) 48 (bd g i) (τ 48 (bd g i) - 1)) 48 (bd g i) = τ 48 (bd g i) - 1 := mm_up_s
      have OP2 : OPa rm bd f (g + 1) (mm_up (mm_up τ 47 g (nI (bd g i))) 48 (bd g i) (τ 48 (bd g i) - 1)) := fun r hr => by rw [mm_up_n (by decide), mm_up_n (by decide)]; exact OP r hr
      have F7 : (mm_up (mm_up τ 47 g (nI (bd g i))) 48 (bd g i) (τ 48 (bd g i) - 1)) 7 8 = τ 7 8 := by rw [mm_up_n (by decide), mm_up_n (by decide)]
      have F45 : (mm_up (mm_up τ 47 g (nI (bd g i))) 48 (bd g i) (τ 48 (bd g i) - 1)) 45 = τ 45 := by rw [mm_up_n (by decide), mm_up_n (by decide)]
      have r48 : (mm_up τ 47 g (nI (bd g i))) 48 (bd g i) = τ 48 (bd g i) := by rw [mm_up_n (by decide)]
      refine kb_64_26 (fun z => absurd z g3) (fun _ => kb_64_35 (pk_in (3 * g + i) 126 (by omega)) (pk_in g 42 (by omega)) iv iv iv (fun z => ?_) (fun z => ?_))
      · rw [e46, cb, cg, r48] at z ⊢
        rw [s48, ne2] at z
        refine back _ I2 up47 o48 s48 OP2 (FB_cg F7 F45 (nomore (fun D ⟨st, b, h1, h2, _⟩ => ?_)) F)
        have a0 : ned nr (bd g i) - cpr s g (bd g i) = 0 := by
          rcases Nat.eq_zero_or_pos (ned nr (bd g i) - cpr s g (bd g i)) with y | y
          · exact y
          · exfalso
            obtain ⟨k, ek⟩ : ∃ k, ned nr (bd g i) - cpr s g (bd g i) = k + 1 := ⟨_, (Nat.succ_pred_eq_of_pos y).symm⟩
            have := n13 (bd g i)
            rw [ek, show nI (k + 1) - 1 = nI k from nI_pred k] at z
            exact absurd z (nI_pos (by omega))
        have := (cho_le (bd := bd) (r := bd g i) (show g + 1 ≤ f by omega) h1 h2.1).1
        rw [cp, ic_t rfl, h2.2 _ rb] at this
        omega
      · rw [e46, cb, cg, r48] at z ⊢
        rw [s48, ne2] at z
        have a1 : 1 ≤ ned nr (bd g i) - cpr s g (bd g i) := by
          rcases Nat.eq_zero_or_pos (ned nr (bd g i) - cpr s g (bd g i)) with y | y
          · exfalso; rw [y] at z; exact z (by decide)
          · exact y
        obtain ⟨k, ek⟩ : ∃ k, ned nr (bd g i) - cpr s g (bd g i) = k + 1 := ⟨_, (Nat.succ_pred_eq_of_pos a1).symm⟩
        have NE2 : NEa rm nr s' (g + 1) (mm_up (mm_up τ 47 g (nI (bd g i))) 48 (bd g i) (τ 48 (bd g i) - 1)) := fun r hr => by
          rw [cp]
          by_cases c : r = bd g i
          · subst c
            rw [ic_t rfl, s48, ne2, ek, show nI (k + 1) - 1 = nI k from nI_pred k]
            exact ⟨by omega, by congr 1; omega⟩
          · rw [ic_f (fun y => c y.symm), o48 r hr c]
            exact NE r hr
        refine kb_64_68 (c_66t (d := d + e + 4) (bd := bd) (a := fun r => ned nr r - cpr s' (g + 1) r) (o := opn bd f (g + 1)) (by omega) (fun j hj => ⟨b9 j hj, r46 _ I2 j hj, (NE2 _ (B j hj).1).2, OP2 _ (B j hj).1, by have := n13 (bd g j); omega, by have := o42 (g + 1) (bd g j); omega⟩) (fun ok => kb_64_73 (fun y => absurd y (by decide)) (fun _ => kb_64_76 ?_)) (fun ⟨j, hj, lt⟩ => kb_64_73 (fun _ => back _ I2 up47 o48 s48 OP2 (FB_cg F7 F45 (nomore (fun D ⟨st, b, h1, h2, _⟩ => ?_)) F)) (fun y => absurd rfl y)))
        · rw [nI_1]
          refine ih d (g + 1) _ _ s' (fun D => W D ∨ ∃ j, j < i ∧ CMP rm nr Bp lb f bd R od an n ja jb (fun h => if h = g then bd g j else s h) (g + 1) D) (by omega) I2 (fun h hh => ?_) NE2 OP2 (fun r hr hh => ?_) (FB_cg F7 F45 (fun _ => Iff.rfl) F) (fun ρ Iρ pρ Nρ Oρ Fρ => back ρ Iρ (fun h hh => by have := pρ h (by omega); rw [s'h h hh] at this; exact this) (fun r hr c => ?_) ?_ Oρ (FB_cg rfl rfl (fun D => ?_) Fρ))
          · by_cases c : h = g
            · subst c
              rw [s'g]
              exact ⟨by rw [mm_up_n (by decide)]; exact mm_up_s, inb h i hgf hi⟩
            · rw [s'h h (by omega)]; exact up47 h (by omega)
          · by_cases c : inF bd g r
            · have : ∃ j, j < 3 ∧ r = bd g j := by
                rcases c with y | y | y
                · exact ⟨0, by decide, y⟩
                · exact ⟨1, by decide, y⟩
                · exact ⟨2, by decide, y⟩
              obtain ⟨j, hj, ej⟩ := this
              rw [ej]; exact ok j hj
            · have nb : bd g i ≠ r := fun y => c (y ▸ inb g i hgf hi)
              rw [cp, ic_f nb, Nat.add_zero]
              have : ∃ h, h < g ∧ inF bd h r := by
                obtain ⟨h, h1, h2⟩ := hh
                by_cases y : h = g
                · rw [y] at h2; exact absurd h2 c
                · exact ⟨h, by omega, h2⟩
              have := ME r hr this
              rw [opn_s hgf, ic_f c] at this
              exact this
          · rw [(Nρ r hr).2, (NE r hr).2, cp, ic_f (fun y => c y.symm)]; rfl
          · rw [(Nρ _ rb).2, ne2, ek, show nI (k + 1) - 1 = nI k from nI_pred k, cp, ic_t rfl]
            congr 1; omega
          · constructor
            · rintro ((y | ⟨j, hj, y⟩) | y)
              · exact Or.inl y
              · exact Or.inr ⟨j, by omega, y⟩
              · rw [hs'] at y; exact Or.inr ⟨i, by omega, y⟩
            · rintro (y | ⟨j, hj, y⟩)
              · exact Or.inl (Or.inl y)
              · by_cases c : j = i
                · subst c; rw [hs']; exact Or.inr y
                · exact Or.inl (Or.inr ⟨j, by omega, y⟩)
        · have := (cho_le (bd := bd) (r := bd g j) (show g + 1 ≤ f by omega) h1 h2.1).2
          rw [h2.2 _ (B j hj).1] at this
          have lt' : opn bd f (g + 1) (bd g j) < ned nr (bd g j) - cpr s' (g + 1) (bd g j) := lt
          omega
end CL3
