/-! the reference: raiseJoin -/
def Cjn (τ : mm_S) (r o t wsh : Nat) : Prop := ∀ v : Nat → Nat, (∀ x, v x ≤ 4050) → PVr τ v → v (4 * r + 2 + (1 - t)) = v (4 * o + (1 - t)) ∧ v (4 * r + t) + wsh ≤ v (4 * r + 2 + t) ∧ v (4 * o + t) + wsh ≤ v (4 * r + 2 + t) ∧ v (4 * r + t) + wsh ≤ v (4 * o + 2 + t) ∧ v (4 * o + t) + wsh ≤ v (4 * o + 2 + t)
theorem c_140m {d k r o t wsh : Nat} {Q : mm_Q} {τ : mm_S} {V : Nat → Nat} {WD HT : Nat} (hk : k < 21) (hr : r < 9) (ho : o < 9) (ht : t < 2) (I : INp V WD HT τ) (V40 : ∀ x, V x ≤ 4050) (e82 : τ 82 k = nI wsh)
    (c1 : V (4 * r + 2 + (1 - t)) = V (4 * o + (1 - t))) (c2 : V (4 * r + t) + wsh ≤ V (4 * r + 2 + t)) (c3 : V (4 * o + t) + wsh ≤ V (4 * r + 2 + t)) (c4 : V (4 * r + t) + wsh ≤ V (4 * o + 2 + t)) (c5 : V (4 * o + t) + wsh ≤ V (4 * o + 2 + t))
    (q : ∀ τ', Sfp V WD HT τ τ' → (τ' = τ → Cjn τ r o t wsh) → Q none τ') : ∀ o4 o5 o6, mw (d + 2) mt_140 Q 66 [some (.ref 10), some (.int (nI k)), some (.int (nI t)), some (.int (nI r)), o4, o5, o6] [.int (nI o)] τ := by
  intro o4 o5 o6
  have vk : vp_in (nI k) 21 := pk_in k 21 hk
  have ck : (nI k).toNatClampNeg = k := nI_clamp (by omega)
  have vat : ∀ i a, i < 9 → a < 2 → vp_in (f_135 (nI i) (nI a)) 18 := fun i a hi ha => by rw [at_n i hi a ha]; exact pk_in (2 * i + a) 18 (by omega)
  have kat : ∀ i a, i < 9 → a < 2 → (f_135 (nI i) (nI a)).toNatClampNeg = 2 * i + a := fun i a hi ha => by rw [at_n i hi a ha]; exact nI_clamp (by omega)
  obtain ⟨t', ht', et'⟩ : ∃ t', t' < 2 ∧ t' = 1 - t := ⟨1 - t, by omega, rfl⟩
  rw [← et'] at c1
  obtain ⟨⟨v, vV, pv⟩, _, _⟩ := id I
  have w1 := V40 (4 * r + 2 + t'); have w2 := V40 (4 * o + t'); have w3 := V40 (4 * r + t); have w4 := V40 (4 * o + t); have w5 := V40 (4 * r + 2 + t); have w6 := V40 (4 * o + 2 + t)
  have x1 := vV (4 * r + 2 + t'); have x2 := vV (4 * o + t')
  -- the end: wishes along the wall
  have wish : ∀ (τ1 : mm_S) x5, Sfp V WD HT τ τ1 → (τ1 = τ → v (4 * r + 2 + t') = v (4 * o + t')) → mw (d + 2) mt_140 Q 183 [some (.ref 10), some (.int (nI k)), some (.int (nI t)), some (.int (nI r)), some (.int (nI o)), some (.int x5), o6] [] τ1 := fun τ1 x5 S1 h1 => by
    obtain ⟨⟨u, uV, pu⟩, _, _⟩ := id S1.1
    have y1 := uV (4 * r + t); have y2 := uV (4 * o + t)
    have z1 : τ1 96 (2 * r + t) = nI (u (4 * r + t)) := (pu r t hr ht).1
    have z2 : τ1 96 (2 * o + t) = nI (u (4 * o + t)) := (pu o t ho ht).1
    have z82 : τ1 82 k = nI wsh := by rw [S1.2.1.1 82 (by decide) (by decide) (by decide)]; exact e82
    have last : ∀ x, x ≤ V (4 * r + t) ∨ x ≤ V (4 * o + t) → (u (4 * r + t) ≤ x ∧ u (4 * o + t) ≤ x) → x ≤ 4050 → (∀ τ2, Sfp V WD HT τ1 τ2 → (τ2 = τ1 → ∀ y, y < 2 ^ 31 → τ1 97 (2 * r + t) = nI y → x + wsh ≤ y) → mw (d + 2) mt_140 Q 248 [some (.ref 10), some (.int (nI k)), some (.int (nI t)), some (.int (nI r)), some (.int (nI o)), some (.int x5), some (.int (nI x))] [] τ2) := fun x hx hu x40 τ2 S2 h2 => by
      refine kb_140_248 vk ?_
      rw [ck, S2.2.1.1 82 (by decide) (by decide) (by decide), z82, nI_add]
      refine c_137t ho ht S2.1 V40 (by rcases hx with h | h <;> omega) (fun τ3 S3 h3 => kb_140_264 (q τ3 (Sfp_t (Sfp_t S1 S2) S3) (fun e => ?_)))
      have e2 : τ2 = τ := Sfp_e (Sfp_t S1 S2) S3 e
      have e1 : τ1 = τ := Sfp_e S1 S2 e2
      have e21 : τ2 = τ1 := e2.trans e1.symm
      have e32 : τ3 = τ2 := e.trans e2.symm
      intro g g40 pg
      have m1 := g40 (4 * r + t); have m2 := g40 (4 * o + t); have m3 := g40 (4 * r + 2 + t); have m4 := g40 (4 * o + 2 + t); have m5 := g40 (4 * r + 2 + t'); have m6 := g40 (4 * o + t')
      have n1 : u (4 * r + t) = g (4 * r + t) := (nI_eq (by omega) (by omega)).mp (z1.symm.trans (by rw [e1]; exact (pg r t hr ht).1))
      have n2 : u (4 * o + t) = g (4 * o + t) := (nI_eq (by omega) (by omega)).mp (z2.symm.trans (by rw [e1]; exact (pg o t ho ht).1))
      have n3 := h2 e21 (g (4 * r + 2 + t)) (by omega) (by rw [e1]; exact (pg r t hr ht).2)
      have n4 := h3 e32 (g (4 * o + 2 + t)) (by omega) (by rw [e2]; exact (pg o t ho ht).2)
      have n5 := h1 e1
      have n6 : v (4 * r + 2 + t') = g (4 * r + 2 + t') := (nI_eq (by omega) (by omega)).mp ((pv r t' hr ht').2.symm.trans (pg r t' hr ht').2)
      have n7 : v (4 * o + t') = g (4 * o + t') := (nI_eq (by omega) (by omega)).mp ((pv o t' ho ht').1.symm.trans (pg o t' ho ht').1)
      rw [← et']
      exact ⟨by omega, by omega, by omega, by omega, by omega⟩
    refine kb_140_183 (c_135 (kb_140_192 (vat r t hr ht) (c_135 (kb_140_203 (vat o t ho ht) (fun g => kb_140_220 (c_135 (kb_140_230 (vat o t ho ht) vk ?_))) (fun g => kb_140_207 (c_135 (kb_140_216 (vat r t hr ht) vk ?_)))))))
    · rw [kat r t hr ht, kat o t ho ht, z1, z2] at g
      have g' := (nI_leI (by omega) (by omega)).mp g
      rw [kat o t ho ht, z2, ck, z82, nI_add]
      exact c_137t hr ht S1.1 V40 (by omega) (fun τ2 S2 h2 => last _ (Or.inr y2) ⟨g', Nat.le_refl _⟩ (by omega) τ2 S2 h2)
    · rw [kat r t hr ht, kat o t ho ht, z1, z2] at g
      have g' : u (4 * o + t) ≤ u (4 * r + t) := by
        rcases Nat.lt_or_ge (u (4 * r + t)) (u (4 * o + t)) with c | c
        · exact absurd ((nI_leI (by omega) (by omega)).mpr (by omega)) g
        · exact c
      rw [kat r t hr ht, z1, ck, z82, nI_add]
      exact c_137t hr ht S1.1 V40 (by omega) (fun τ2 S2 h2 => last _ (Or.inl y1) ⟨Nat.le_refl _, g'⟩ (by omega) τ2 S2 h2)
  rcases (show t = 0 ∨ t = 1 by omega) with e | e <;> subst e
  · have et : t' = 1 := by omega
    subst et
    have ko : (f_135 (nI o) 1).toNatClampNeg = 2 * o + 1 := kat o 1 ho (by decide)
    have kr : (f_135 (nI r) 1).toNatClampNeg = 2 * r + 1 := kat r 1 hr (by decide)
    have vo : vp_in (f_135 (nI o) 1) 18 := vat o 1 ho (by decide)
    have vr : vp_in (f_135 (nI r) 1) 18 := vat r 1 hr (by decide)
    have zr : τ 97 (2 * r + 1) = nI (v (4 * r + 2 + 1)) := (pv r 1 hr (by decide)).2
    have zo : τ 96 (2 * o + 1) = nI (v (4 * o + 1)) := (pv o 1 ho (by decide)).1
    have fin : ∀ x, x ≤ V (4 * o + 1) → v (4 * r + 2 + 1) ≤ x → v (4 * o + 1) ≤ x → mw (d + 2) mt_140 Q 156 [some (.ref 10), some (.int (nI k)), some (.int (nI 0)), some (.int (nI r)), some (.int (nI o)), some (.int (nI x)), o6] [.int (nI r), .ref 10] τ := fun x h1 h2 h3 => kb_140_156 (c_137t (b := 1) hr (by omega) I V40 (by omega) (fun τ1 S1 g1 => kb_140_166 (fun _ => kb_140_173 (c_136t (b := 1) ho (by omega) S1.1 V40 h1 (fun τ2 S2 g2 => wish τ2 (nI x) (Sfp_t S1 S2) (fun e => by
      have e1 : τ1 = τ := Sfp_e S1 S2 e
      have a1 := g1 e1 (v (4 * r + 2 + 1)) (by omega) (pv r 1 hr (by decide)).2
      have a2 := g2 (e.trans e1.symm) (v (4 * o + 1)) (by omega) (by rw [e1]; exact (pv o 1 ho (by decide)).1)
      omega)))) (fun g => absurd rfl g)))
    refine kb_140_66 (fun _ => kb_140_77 (c_135 (kb_140_85 vr (fun _ => kb_140_96 (c_135 (kb_140_104 vo (fun g => kb_140_129 (fun _ => kb_140_139 (c_135 (kb_140_147 vo (fun _ => ?_) (fun g => absurd rfl g)))) (fun g => absurd rfl g)) (fun g => kb_140_108 (fun _ => kb_140_117 (c_135 (kb_140_125 vr (fun _ => ?_) (fun g => absurd rfl g)))) (fun g => absurd rfl g))))) (fun g => absurd rfl g)))) (fun g => absurd rfl g)
    · rw [ko, kr, zr, zo] at g
      have g' := (nI_leI (by omega) (by omega)).mp g
      rw [ko, zo]
      exact fin _ x2 g' (Nat.le_refl _)
    · rw [ko, kr, zr, zo] at g
      have g' : v (4 * o + 1) ≤ v (4 * r + 2 + 1) := by
        rcases Nat.lt_or_ge (v (4 * r + 2 + 1)) (v (4 * o + 1)) with c | c
        · exact absurd ((nI_leI (by omega) (by omega)).mpr (by omega)) g
        · exact c
      rw [kr, zr]
      exact fin _ (by omega) (Nat.le_refl _) g'
  · have et : t' = 0 := by omega
    subst et
    have ko : (f_135 (nI o) 0).toNatClampNeg = 2 * o + 0 := kat o 0 ho (by decide)
    have kr : (f_135 (nI r) 0).toNatClampNeg = 2 * r + 0 := kat r 0 hr (by decide)
    have vo : vp_in (f_135 (nI o) 0) 18 := vat o 0 ho (by decide)
    have vr : vp_in (f_135 (nI r) 0) 18 := vat r 0 hr (by decide)
    have zr : τ 97 (2 * r + 0) = nI (v (4 * r + 2 + 0)) := (pv r 0 hr (by decide)).2
    have zo : τ 96 (2 * o + 0) = nI (v (4 * o + 0)) := (pv o 0 ho (by decide)).1
    have fin : ∀ x, x ≤ V (4 * o + 0) → v (4 * r + 2 + 0) ≤ x → v (4 * o + 0) ≤ x → mw (d + 2) mt_140 Q 160 [some (.ref 10), some (.int (nI k)), some (.int (nI 1)), some (.int (nI r)), some (.int (nI o)), some (.int (nI x)), o6] [.int (nI r), .ref 10] τ := fun x h1 h2 h3 => kb_140_160 (c_137t (b := 0) hr (by omega) I V40 (by omega) (fun τ1 S1 g1 => kb_140_166 (fun g => absurd g (by decide)) (fun _ => kb_140_177 (c_136t (b := 0) ho (by omega) S1.1 V40 h1 (fun τ2 S2 g2 => wish τ2 (nI x) (Sfp_t S1 S2) (fun e => by
      have e1 : τ1 = τ := Sfp_e S1 S2 e
      have a1 := g1 e1 (v (4 * r + 2 + 0)) (by omega) (pv r 0 hr (by decide)).2
      have a2 := g2 (e.trans e1.symm) (v (4 * o + 0)) (by omega) (by rw [e1]; exact (pv o 0 ho (by decide)).1)
      omega))))))
    refine kb_140_66 (fun g => absurd g (by decide)) (fun _ => kb_140_81 (c_135 (kb_140_85 vr (fun g => absurd g (by decide)) (fun _ => kb_140_100 (c_135 (kb_140_104 vo (fun g => kb_140_129 (fun g => absurd g (by decide)) (fun _ => kb_140_143 (c_135 (kb_140_147 vo (fun g => absurd g (by decide)) (fun _ => ?_))))) (fun g => kb_140_108 (fun g => absurd g (by decide)) (fun _ => kb_140_121 (c_135 (kb_140_125 vr (fun g => absurd g (by decide)) (fun _ => ?_)))))))))))
    · rw [ko, kr, zr, zo] at g
      have g' := (nI_leI (by omega) (by omega)).mp g
      rw [ko, zo]
      exact fin _ x2 g' (Nat.le_refl _)
    · rw [ko, kr, zr, zo] at g
      have g' : v (4 * o + 0) ≤ v (4 * r + 2 + 0) := by
        rcases Nat.lt_or_ge (v (4 * r + 2 + 0)) (v (4 * o + 0)) with c | c
        · exact absurd ((nI_leI (by omega) (by omega)).mpr (by omega)) g
        · exact c
      rw [kr, zr]
      exact fin _ (by omega) (Nat.le_refl _) g'
