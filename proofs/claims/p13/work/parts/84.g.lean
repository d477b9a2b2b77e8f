section
-- the class's way
def Gj (σ : mm_S) (n v u : Nat) : Prop := ∃ k, k < n ∧ ((σ 16 k = nI v ∧ σ 17 k = nI u) ∨ (σ 16 k = nI u ∧ σ 17 k = nI v))
theorem Gj_hs {σ : mm_S} {n m v u : Nat} (C : CK σ n m) (hv : v < 9) (dv : m.testBit v = true) (hu : u < 9) : hs (σ 15 v) (nI u) = 1 ↔ Gj σ n v u := by
  have h := C.ja v u hv dv
  unfold aj at h
  constructor
  · intro z
    obtain ⟨k, hk, h1, _⟩ := h.mp ⟨hu, z⟩
    exact ⟨k, hk, h1⟩
  · rintro ⟨k, hk, h1⟩
    exact (h.mpr ⟨k, hk, h1, hu⟩).2
theorem Gj_dr {σ : mm_S} {n m v u : Nat} (C : CK σ n m) (hv : v < 9) (g : Gj σ n v u) : m.testBit v = true := by
  obtain ⟨k, hk, h⟩ := g
  obtain ⟨a, b, ha, hb, _, ma, mb, ea, eb⟩ := C.je k hk
  rcases h with ⟨h, _⟩ | ⟨_, h⟩
  · rw [← nI9 ha hv (ea.symm.trans h)]; exact ma
  · rw [← nI9 hb hv (eb.symm.trans h)]; exact mb
theorem Gj_sy {σ : mm_S} {n v u : Nat} (g : Gj σ n v u) : Gj σ n u v := by
  obtain ⟨k, hk, h⟩ := g
  exact ⟨k, hk, h.symm⟩
theorem Rk_dr {σ : mm_S} {n m b : Nat} (C : CK σ n m) (db : m.testBit b = true) : ∀ k v, v < 9 → Rk (Gj σ n) b k v → m.testBit v = true := by
  intro k
  induction k with
  | zero => intro v _ h; rw [show v = b from h]; exact db
  | succ k ih =>
    intro v hv h
    rcases h with r | ⟨u, _, g, _⟩
    · exact ih v hv r
    · exact Gj_dr C hv g
theorem c_83 {d n m u l : Nat} {Q : mm_Q} {σ τ : mm_S} (C : CK σ n m) (h15 : τ 15 = σ 15) (hu : u < 9) (du : m.testBit u = true) (l1 : 1 ≤ l) (l9 : l ≤ 9) (el : τ 74 u = nI l)
    (q : ∀ ρ, (∀ c, c ≠ 74 → ρ c = τ c) → (∀ v, v < 9 → (Gj σ n u v → τ 74 v = 0 → ρ 74 v = nI (l + 1)) ∧ (¬ (Gj σ n u v ∧ τ 74 v = 0) → ρ 74 v = τ 74 v)) → Q none ρ) : mD (d + 3) 83 [.ref 9, .int (nI u)] τ Q := by
  refine ke_83 (kb_83_0 ?_)
  have cu : (nI u).toNatClampNeg = u := nI_clamp (by omega)
  refine lp_dn (P := fun w => ∀ ρ : mm_S, (∀ c, c ≠ 74 → ρ c = τ c) → (∀ v, v < 9 → (v < w → Gj σ n u v → τ 74 v = 0 → ρ 74 v = nI (l + 1)) ∧ (¬ (v < w ∧ Gj σ n u v ∧ τ 74 v = 0) → ρ 74 v = τ 74 v)) → mw (d + 2) mt_83 Q 2 [some (.ref 9), some (.int (nI u)), some (.int (nI w))] [] ρ) 9 ?_ ?_ 0 (by omega) τ (fun _ _ => rfl) (fun v _ => ⟨fun h => absurd h (Nat.not_lt_zero v), fun _ => rfl⟩)
  · intro ρ f1 f2
    exact kb_83_2 (fun _ => kb_83_49 (q ρ f1 (fun v hv => ⟨(f2 v hv).1 hv, fun h => (f2 v hv).2 (fun z => h z.2)⟩))) (fun g => absurd (by decide) g)
  · intro w hw ih ρ f1 f2
    have cw : (nI w).toNatClampNeg = w := nI_clamp (by omega)
    refine kb_83_2 (fun g => absurd g (hI_nle (a := 9) (by omega) hw)) (fun _ => kb_83_8 (c_10 (pk_in u 9 hu) ?_))
    rw [cu, f1 15 (by decide), h15]
    have same : ¬ (Gj σ n u w ∧ τ 74 w = 0) → mw (d + 2) mt_83 Q 2 [some (.ref 9), some (.int (nI u)), some (.int (nI w + 1))] [] ρ := fun no => by
      rw [nI_1]
      refine ih ρ f1 (fun v hv => ⟨fun h g z => ?_, fun h => (f2 v hv).2 (fun z => h ⟨by omega, z.2⟩)⟩)
      rcases Nat.lt_or_ge v w with c | c
      · exact (f2 v hv).1 c g z
      · have e : v = w := by omega
        subst e
        exact absurd ⟨g, z⟩ no
    have ow : ρ 74 w = τ 74 w := (f2 w hw).2 (fun z => Nat.lt_irrefl w z.1)
    have ou : ρ 74 u = nI l := by
      rw [(f2 u hu).2 (fun z => ?_), el]
      rw [el] at z
      exact nI_ne0 (by omega) (by omega) z.2.2
    refine kb_83_17 (fun g => kb_83_43 (same (fun z => ?_))) (fun g => kb_83_20 (pk_in w 9 hw) (fun z => kb_83_29 (pk_in u 9 hu) (pk_in w 9 hw) ?_) (fun z => kb_83_43 (same (fun y => z ?_))))
    · rw [(Gj_hs C hu du hw).mpr z.1] at g; exact absurd g (by decide)
    · rw [cw] at z ⊢
      rw [cu, ou, nI_1, nI_1]
      have gw : Gj σ n u w := (Gj_hs C hu du hw).mp ((hs_01 _ _).resolve_left g)
      refine ih _ (fun c hc => by rw [mm_up_n hc]; exact f1 c hc) (fun v hv => ?_)
      rw [up_v]
      by_cases e : v = w
      · rw [if_pos e]
        exact ⟨fun _ _ _ => rfl, fun h => absurd ⟨by omega, by rw [e]; exact gw, by rw [e, ← ow]; exact z⟩ h⟩
      · rw [if_neg e]
        exact ⟨fun h => (f2 v hv).1 (by omega), fun h => (f2 v hv).2 (fun y => h ⟨by omega, y.2⟩)⟩
    · rw [cw, ow]; exact y.2
def LL (σ τ : mm_S) (n b l : Nat) : Prop := ∀ v, v < 9 → (∃ k, k < l ∧ Ds (Gj σ n) b v k ∧ τ 74 v = nI (k + 1)) ∨ ((∀ k, k < l → ¬ Rk (Gj σ n) b k v) ∧ τ 74 v = 0)
theorem c_82 {d n m b : Nat} {Q : mm_Q} {σ : mm_S} (C : CK σ n m) (hb : b < 9) (db : m.testBit b = true) (q : ∀ τ, (∀ c, c ≠ 74 → τ c = σ c) → LL σ τ n b 9 → Q none τ) : mD (d + 4) 82 [.ref 9, .int (nI b)] σ Q := by
  have cb : (nI b).toNatClampNeg = b := nI_clamp (by omega)
  refine ke_82 (kb_82_0 ?_)
  refine lp_dn (P := fun i => ∀ τ : mm_S, (∀ c, c ≠ 74 → τ c = σ c) → (∀ v, v < i → τ 74 v = 0) → mw (d + 3) mt_82 Q 2 [some (.ref 9), some (.int (nI b)), some (.int (nI i)), none] [] τ) 9 ?_ ?_ 0 (by omega) σ (fun _ _ => rfl) (fun v hv => absurd hv (Nat.not_lt_zero v))
  · intro τ f1 f0
    refine kb_82_2 (fun _ => kb_82_21 (pk_in b 9 hb) ?_) (fun g => absurd (by decide) g)
    rw [cb]
    have L1 : LL σ (mm_up τ 74 b 1) n b 1 := fun v hv => by
      rw [up_v]
      by_cases e : v = b
      · rw [if_pos e]; exact Or.inl ⟨0, by omega, ⟨e, fun i hi => absurd hi (Nat.not_lt_zero i)⟩, rfl⟩
      · rw [if_neg e]
        refine Or.inr ⟨fun k hk => ?_, f0 v hv⟩
        have : k = 0 := by omega
        subst this
        exact e
    refine lp_dn (P := fun i => ∀ (τ : mm_S) o3, (∀ c, c ≠ 74 → τ c = σ c) → LL σ τ n b (i + 1) → mw (d + 3) mt_82 Q 30 [some (.ref 9), some (.int (nI b)), some (.int (nI (i + 1))), o3] [] τ) 8 ?_ ?_ 0 (by omega) _ none (fun c hc => by rw [mm_up_n hc]; exact f1 c hc) L1
    · intro τ o3 f1 L
      exact kb_82_30 (fun _ => kb_82_71 (q τ f1 L)) (fun g => absurd (by decide) g)
    · intro l hl ih τ o3 f1 L
      refine kb_82_30 (fun g => absurd g (hI_nle (a := 9) (by omega) (by omega))) (fun _ => kb_82_36 ?_)
      -- one level: rooms u below i are done
      refine lp_dn (P := fun i => ∀ ρ : mm_S, (∀ c, c ≠ 74 → ρ c = σ c) → (∀ v, v < 9 → (∃ k, k < l + 1 ∧ Ds (Gj σ n) b v k ∧ ρ 74 v = nI (k + 1)) ∨ ((∀ k, k < l + 1 → ¬ Rk (Gj σ n) b k v) ∧ ((ρ 74 v = nI (l + 2) ∧ ∃ u, u < 9 ∧ Gj σ n v u ∧ Rk (Gj σ n) b l u) ∨ (ρ 74 v = 0 ∧ ∀ u, u < i → Gj σ n v u → ¬ Rk (Gj σ n) b l u)))) → mw (d + 3) mt_82 Q 38 [some (.ref 9), some (.int (nI b)), some (.int (nI (l + 1))), some (.int (nI i))] [] ρ) 9 ?_ ?_ 0 (by omega) τ f1 (fun v hv => ?_)
      · intro ρ r1 r2
        refine kb_82_38 (fun _ => kb_82_65 ?_) (fun g => absurd (by decide) g)
        rw [nI_1]
        refine ih ρ _ r1 (fun v hv => ?_)
        rcases r2 v hv with ⟨k, hk, hd, e⟩ | ⟨hn, ⟨e, u, u9, g, ru⟩ | ⟨e, hu⟩⟩
        · exact Or.inl ⟨k, by omega, hd, e⟩
        · exact Or.inl ⟨l + 1, by omega, ⟨Or.inr ⟨u, u9, g, ru⟩, fun i hi => hn i (by omega)⟩, e⟩
        · refine Or.inr ⟨fun k hk => ?_, e⟩
          rcases Nat.lt_or_ge k (l + 1) with c | c
          · exact hn k c
          · have : k = l + 1 := by omega
            subst this
            rintro (r | ⟨u, u9, g, r⟩)
            · exact hn l (by omega) r
            · exact hu u u9 g r
      · intro i hi ihi ρ r1 r2
        have ci : (nI i).toNatClampNeg = i := nI_clamp (by omega)
        refine kb_82_38 (fun g => absurd g (hI_nle (a := 9) (by omega) hi)) (fun _ => kb_82_44 (pk_in i 9 hi) (fun g => kb_82_54 ?_) (fun g => kb_82_59 ?_))
        · rw [ci] at g
          have Ri : Rk (Gj σ n) b l i := by
            rcases r2 i hi with ⟨k, hk, hd, e⟩ | ⟨hn, ⟨e, _⟩ | ⟨e, _⟩⟩
            · have : k + 1 = l + 1 := (nI_eq (by omega) (by omega)).mp (e.symm.trans g)
              have : k = l := by omega
              subst this
              exact hd.1
            · have : l + 2 = l + 1 := (nI_eq (by omega) (by omega)).mp (e.symm.trans g)
              omega
            · exact absurd (g.symm.trans e) (nI_ne0 (by omega) (by omega))
          refine c_83 C (r1 15 (by decide)) hi (Rk_dr C db l i hi Ri) (by omega) (by omega) g (fun ρ' s1 s2 => kb_82_59 ?_)
          rw [nI_1]
          refine ihi ρ' (fun c hc => by rw [s1 c hc]; exact r1 c hc) (fun v hv => ?_)
          rcases r2 v hv with ⟨k, hk, hd, e⟩ | ⟨hn, ⟨e, u, u9, g', ru⟩ | ⟨e, hu⟩⟩
          · refine Or.inl ⟨k, hk, hd, ?_⟩
            rw [(s2 v hv).2 (fun z => ?_), e]
            rw [e] at z
            exact nI_ne0 (by omega) (by omega) z.2
          · refine Or.inr ⟨hn, Or.inl ⟨?_, u, u9, g', ru⟩⟩
            rw [(s2 v hv).2 (fun z => ?_), e]
            rw [e] at z
            exact nI_ne0 (by omega) (by omega) z.2
          · by_cases gi : Gj σ n i v
            · exact Or.inr ⟨hn, Or.inl ⟨(s2 v hv).1 gi e, i, hi, Gj_sy gi, Ri⟩⟩
            · refine Or.inr ⟨hn, Or.inr ⟨by rw [(s2 v hv).2 (fun z => gi z.1)]; exact e, fun u hu' g' => ?_⟩⟩
              rcases Nat.lt_or_ge u i with c | c
              · exact hu u c g'
              · have : u = i := by omega
                subst this
                exact absurd (Gj_sy g') gi
        · rw [nI_1]
          rw [ci] at g
          refine ihi ρ r1 (fun v hv => ?_)
          rcases r2 v hv with h | ⟨hn, h | ⟨e, hu⟩⟩
          · exact Or.inl h
          · exact Or.inr ⟨hn, Or.inl h⟩
          · refine Or.inr ⟨hn, Or.inr ⟨e, fun u hu' g' r => ?_⟩⟩
            rcases Nat.lt_or_ge u i with c | c
            · exact hu u c g' r
            · have : u = i := by omega
              subst this
              rcases r2 u hi with ⟨k, hk, hd, e'⟩ | ⟨hn', _⟩
              · -- k = l
                rcases Nat.lt_or_ge k l with c' | c'
                · exact hn (k + 1) (by omega) (Or.inr ⟨u, hi, g', hd.1⟩)
                · have : k = l := by omega
                  subst this
                  exact g e'
              · exact hn' l (by omega) r
      · rcases L v hv with h | ⟨h, e⟩
        · exact Or.inl h
        · exact Or.inr ⟨h, Or.inr ⟨e, fun u hu => absurd hu (Nat.not_lt_zero u)⟩⟩
  · intro i hi ih τ f1 f0
    refine kb_82_2 (fun g => absurd g (hI_nle (a := 9) (by omega) hi)) (fun _ => kb_82_8 (pk_in i 9 hi) ?_)
    rw [nI_1, nI_clamp (by omega)]
    refine ih _ (fun c hc => by rw [mm_up_n hc]; exact f1 c hc) (fun v hv => ?_)
    rw [up_v]
    split
    · rfl
    · exact f0 v (by omega)
theorem Ds_pth {G : Nat → Nat → Prop} {b : Nat} : ∀ D a, a < 9 → Ds G b a D → ∃ p : Nat → Nat, p 0 = a ∧ (∀ i, i < D → Lst (stp G b (p i) (D - 1 - i)) (p (i + 1))) ∧ ∀ i, i ≤ D → p i < 9 ∧ Ds G b (p i) (D - i) := by
  intro D
  induction D with
  | zero => intro a ha h; exact ⟨fun _ => a, rfl, fun i hi => absurd hi (Nat.not_lt_zero i), fun i hi => ⟨ha, by rw [show 0 - i = 0 by omega]; exact h⟩⟩
  | succ D ih =>
    intro a ha h
    obtain ⟨u, u9, g, hu⟩ := Ds_dn h
    obtain ⟨u', hu', hm⟩ := ex_min (P := stp G b a D) ⟨u, u9, g, hu⟩
    obtain ⟨p, p0, p1, p2⟩ := ih u' hu'.1 hu'.2.2
    refine ⟨fun i => if i = 0 then a else p (i - 1), rfl, fun i hi => ?_, fun i hi => ?_⟩
    · match i with
      | 0 =>
        show Lst (stp G b a (D + 1 - 1 - 0)) (p 0)
        rw [p0]
        exact ⟨hu', hm⟩
      | i + 1 =>
        show Lst (stp G b (p i) (D + 1 - 1 - (i + 1))) (p (i + 1))
        rw [show D + 1 - 1 - (i + 1) = D - 1 - i by omega]
        exact p1 i (by omega)
    · match i with
      | 0 => exact ⟨ha, h⟩
      | i + 1 =>
        show p i < 9 ∧ Ds G b (p i) (D + 1 - (i + 1))
        rw [show D + 1 - (i + 1) = D - i by omega]
        exact p2 i (by omega)
theorem c_84 {d n m v : Nat} {Q : mm_Q} {σ τ : mm_S} (C : CK σ n m) (h15 : τ 15 = σ 15) (hv : v < 9) (dv : m.testBit v = true)
    (q1 : ∀ u, Lst (fun u => u < 9 ∧ Gj σ n v u ∧ τ 74 u = τ 74 v - 1) u → Q (some (.int (nI u))) τ) (q0 : (∀ u, u < 9 → Gj σ n v u → ¬ τ 74 u = τ 74 v - 1) → Q (some (.int (nI v))) τ) : mD (d + 3) 84 [.ref 9, .int (nI v)] τ Q := by
  have cv : (nI v).toNatClampNeg = v := nI_clamp (by omega)
  refine ke_84 (kb_84_0 ?_)
  refine lp_dn (P := fun u => (∀ i, i < u → ¬ (i < 9 ∧ Gj σ n v i ∧ τ 74 i = τ 74 v - 1)) → mw (d + 2) mt_84 Q 2 [some (.ref 9), some (.int (nI v)), some (.int (nI u))] [] τ) 9 ?_ ?_ 0 (by omega) (fun i hi => absurd hi (Nat.not_lt_zero i))
  · intro h
    exact kb_84_2 (fun _ => kb_84_45 (q0 (fun u hu g e => h u hu ⟨hu, g, e⟩))) (fun g => absurd (by decide) g)
  · intro u hu ih h
    have cu : (nI u).toNatClampNeg = u := nI_clamp (by omega)
    have nx : ¬ (u < 9 ∧ Gj σ n v u ∧ τ 74 u = τ 74 v - 1) → mw (d + 2) mt_84 Q 39 [some (.ref 9), some (.int (nI v)), some (.int (nI u))] [] τ := fun no => by
      refine kb_84_39 ?_
      rw [nI_1]
      refine ih (fun i hi => ?_)
      rcases Nat.lt_or_ge i u with c | c
      · exact h i c
      · have : i = u := by omega
        subst this
        exact no
    refine kb_84_2 (fun g => absurd g (hI_nle (a := 9) (by omega) hu)) (fun _ => kb_84_8 (c_10 (pk_in v 9 hv) ?_))
    rw [cv, h15]
    refine kb_84_17 (fun g => nx (fun z => ?_)) (fun g => kb_84_20 (pk_in u 9 hu) (pk_in v 9 hv) (fun z => kb_84_37 (q1 u ⟨⟨hu, (Gj_hs C hv dv hu).mp ((hs_01 _ _).resolve_left g), ?_⟩, h⟩)) (fun z => nx (fun y => z ?_)))
    · rw [(Gj_hs C hv dv hu).mpr z.2.1] at g; exact absurd g (by decide)
    · rw [cu, cv] at z; exact z
    · rw [cu, cv]; exact y.2.2
theorem LL_v {σ τ : mm_S} {n b v k : Nat} (L : LL σ τ n b 9) (hv : v < 9) (h : Ds (Gj σ n) b v k) : τ 74 v = nI (k + 1) := by
  rcases L v hv with ⟨k', _, hd, e⟩ | ⟨hn, _⟩
  · rw [Ds_u h hd]; exact e
  · exact absurd h.1 (hn k (by have := Ds_8 hv h; omega))
theorem LL_i {σ τ : mm_S} {n b v k : Nat} (L : LL σ τ n b 9) (hv : v < 9) (hk : k ≤ 9) (h : τ 74 v = nI (k + 1)) : Ds (Gj σ n) b v k := by
  rcases L v hv with ⟨k', hk', hd, e⟩ | ⟨_, e⟩
  · have : k' + 1 = k + 1 := (nI_eq (by omega) (by omega)).mp (e.symm.trans h)
    have : k' = k := by omega
    subst this
    exact hd
  · exact absurd (h.symm.trans e) (nI_ne0 (by omega) (by omega))
theorem c_81 {d n m a b : Nat} {Q : mm_Q} {σ : mm_S} (C : CK σ n m) (ha : a < 9) (hb : b < 9) (db : m.testBit b = true)
    (q : ∀ τ w, (∀ c, c ≠ 9 → c ≠ 73 → c ≠ 74 → τ c = σ c) → w ≤ 9 → τ 9 1 = nI w → WP (Gj σ n) b a w (τ 73) → Q (some (.int (nI w))) τ) : mD (d + 5) 81 [.ref 9, .int (nI a), .int (nI b)] σ Q := by
  have ca : (nI a).toNatClampNeg = a := nI_clamp (by omega)
  refine ke_81 (kb_81_0 (c_82 C hb db (fun τ f1 L => kb_81_5 (pk_in a 9 ha) ?_)))
  rw [ca]
  rcases L a ha with ⟨D, hD, dD, e⟩ | ⟨hn, e⟩
  · rw [e]
    obtain ⟨p, p0, p1, p2⟩ := Ds_pth D a ha dD
    have main : ∀ i, i ≤ D + 1 → ∀ (x3 : Int32) (ρ : mm_S), (i ≤ D → x3 = nI (p i)) → (∀ c, c ≠ 9 → c ≠ 73 → ρ c = τ c) → ρ 9 1 = nI (D + 1) → (∀ k, k < i → ρ 73 k = nI (p k)) → mw (d + 4) mt_81 Q 20 [some (.ref 9), some (.int (nI a)), some (.int (nI b)), some (.int x3), some (.int (nI i))] [] ρ := by
      refine lp_dn (P := fun i => ∀ (x3 : Int32) (ρ : mm_S), (i ≤ D → x3 = nI (p i)) → (∀ c, c ≠ 9 → c ≠ 73 → ρ c = τ c) → ρ 9 1 = nI (D + 1) → (∀ k, k < i → ρ 73 k = nI (p k)) → mw (d + 4) mt_81 Q 20 [some (.ref 9), some (.int (nI a)), some (.int (nI b)), some (.int x3), some (.int (nI i))] [] ρ) (D + 1) ?_ ?_
      · intro x3 ρ _ r1 r9 r73
        refine kb_81_20 (fun _ => kb_81_49 ?_) (fun g => absurd (by rw [r9]; exact hI_le (by omega) (Nat.le_refl _)) g)
        rw [r9]
        exact q ρ (D + 1) (fun c h1 h2 h3 => by rw [r1 c h1 h2]; exact f1 c h3) (by omega) r9 (Or.inr ⟨D, rfl, by omega, dD, p, r73, p0, p1⟩)
      · intro i hi ih x3 ρ hx r1 r9 r73
        have hx' := hx (by omega)
        subst hx'
        obtain ⟨pi9, dpi⟩ := p2 i (by omega)
        refine kb_81_20 (fun g => absurd g (by rw [r9]; exact hI_nle (by omega) (by omega))) (fun _ => kb_81_29 (pk_in i 9 (by omega)) ?_)
        rw [nI_clamp (by omega)]
        have s74 : (mm_up ρ 73 i (nI (p i))) 74 = τ 74 := by rw [mm_up_n (by decide), r1 74 (by decide) (by decide)]
        have nx : ∀ x, (i + 1 ≤ D → x = nI (p (i + 1))) → mw (d + 4) mt_81 Q 42 [some (.ref 9), some (.int (nI a)), some (.int (nI b)), some (.int (nI (p i))), some (.int (nI i))] [.int x] (mm_up ρ 73 i (nI (p i))) := fun x hx => by
          refine kb_81_42 ?_
          rw [nI_1]
          refine ih x _ hx (fun c h1 h2 => by rw [mm_up_n h2]; exact r1 c h1 h2) (by rw [mm_up_n (by decide)]; exact r9) (fun k hk => ?_)
          rw [up_v]
          by_cases e : k = i
          · rw [if_pos e, e]
          · rw [if_neg e]; exact r73 k (by omega)
        have dp : m.testBit (p i) = true := Rk_dr C db _ (p i) pi9 dpi.1
        have e15 : (mm_up ρ 73 i (nI (p i))) 15 = σ 15 := by rw [mm_up_n (by decide), r1 15 (by decide) (by decide)]; exact f1 15 (by decide)
        have lv : (mm_up ρ 73 i (nI (p i))) 74 (p i) = nI (D - i + 1) := by rw [s74]; exact LL_v L pi9 dpi
        have sub1 : nI (D - i + 1) - 1 = nI (D - i) := nI_sub (b := 1) (by omega)
        refine c_84 C e15 pi9 dp (fun u hu => nx _ (fun hD' => ?_)) (fun no => nx _ (fun hD' => ?_))
        · have : u = p (i + 1) := by
            refine Lst_u (P := stp (Gj σ n) b (p i) (D - 1 - i)) ?_ (p1 i (by omega))
            obtain ⟨⟨u9, g, eu⟩, um⟩ := hu
            rw [lv, s74, sub1, show D - i = (D - 1 - i) + 1 by omega] at eu
            refine ⟨⟨u9, g, LL_i L u9 (by omega) eu⟩, fun k hk hs => um k hk ⟨hs.1, hs.2.1, ?_⟩⟩
            rw [lv, s74, sub1, show D - i = (D - 1 - i) + 1 by omega]
            exact LL_v L hs.1 hs.2.2
          rw [this]
        · exfalso
          have hs := (p1 i (by omega)).1
          refine no (p (i + 1)) hs.1 hs.2.1 ?_
          rw [lv, s74, sub1, show D - i = (D - 1 - i) + 1 by omega]
          exact LL_v L hs.1 hs.2.2
    exact main 0 (by omega) _ _ (fun _ => by rw [p0]) (fun c h1 _ => mm_up_n h1) mm_up_s (fun k hk => absurd hk (Nat.not_lt_zero k))
  · rw [e]
    refine kb_81_20 (fun _ => kb_81_49 ?_) (fun g => absurd (by rw [mm_up_s]; decide) g)
    rw [mm_up_s]
    exact q _ 0 (fun c h1 _ h3 => by rw [mm_up_n h1]; exact f1 c h3) (by omega) mm_up_s (Or.inl ⟨rfl, fun k r => hn 8 (by omega) (Rk_8 ha r)⟩)
end
section
-- the reference's way
def Em (σ : mm_S) (k v u : Nat) : Prop := (σ 80 k = nI v ∧ σ 81 k = nI u) ∨ (σ 80 k = nI u ∧ σ 81 k = nI v)
def Gm (σ : mm_S) (n v u : Nat) : Prop := ∃ k, k < n ∧ Em σ k v u
def VD (G : Nat → Nat → Prop) (b : Nat) (dv : Nat → Nat) : Prop := ∀ v, v < 9 → dv v ≤ 99 ∧ (dv v < 99 → Rk G b (dv v) v)
def UB (G : Nat → Nat → Prop) (b r : Nat) (dv : Nat → Nat) : Prop := ∀ v j, v < 9 → j ≤ r → Rk G b j v → dv v ≤ j
def SD (ρ : mm_S) (dv : Nat → Nat) : Prop := ∀ v, v < 9 → ρ 106 v = nI (dv v)
theorem VD_up {G : Nat → Nat → Prop} {b x y : Nat} {dv : Nat → Nat} (V : VD G b dv) (hy : y < 9) (g : G x y) (h : dv y + 1 < dv x) (hx : x < 9) : VD G b (fun v => if v = x then dv y + 1 else dv v) := fun v hv => by
  show (if v = x then dv y + 1 else dv v) ≤ 99 ∧ ((if v = x then dv y + 1 else dv v) < 99 → Rk G b (if v = x then dv y + 1 else dv v) v)
  by_cases e : v = x
  · subst e
    rw [if_pos rfl]
    have := (V v hv).1
    exact ⟨by omega, fun _ => Or.inr ⟨y, hy, g, (V y hy).2 (by omega)⟩⟩
  · rw [if_neg e]; exact V v hv
theorem SD_up {ρ : mm_S} {x z : Nat} {dv : Nat → Nat} (S : SD ρ dv) : SD (mm_up ρ 106 x (nI z)) (fun v => if v = x then z else dv v) := fun v hv => by
  show mm_up ρ 106 x (nI z) 106 v = nI (if v = x then z else dv v)
  rw [up_v]
  split
  · rfl
  · exact S v hv
section WR
variable {d n : Nat} {Q : mm_Q} {σ : mm_S}
theorem c_148j {a b k x y : Nat} {o5 : Option Value} {x3 : Int32} {ρ : mm_S} {dv : Nat → Nat} (hk : k < n) (n21 : n ≤ 21) (fr : ∀ c, c ≠ 10 → c ≠ 106 → ρ c = σ c) (hx : x < 9) (hy : y < 9) (e80 : σ 80 k = nI x) (e81 : σ 81 k = nI y) (S : SD ρ dv) (V : VD (Gm σ n) b dv)
    (K : ∀ ρ' dv', (∀ c, c ≠ 106 → ρ' c = ρ c) → SD ρ' dv' → VD (Gm σ n) b dv' → (∀ v, v < 9 → dv' v ≤ dv v) → dv' x ≤ dv y + 1 → dv' y ≤ dv x + 1 → mw d mt_148 Q 76 [some (.ref 10), some (.int (nI a)), some (.int (nI b)), some (.int x3), some (.int (nI (k + 1))), o5] [] ρ') :
    mw d mt_148 Q 85 [some (.ref 10), some (.int (nI a)), some (.int (nI b)), some (.int x3), some (.int (nI k)), o5] [] ρ := by
  have ck : (nI k).toNatClampNeg = k := nI_clamp (by omega)
  have cx : (nI x).toNatClampNeg = x := nI_clamp (by omega)
  have cy : (nI y).toNatClampNeg = y := nI_clamp (by omega)
  have vk : vp_in (nI k) 21 := pk_in k 21 (by omega)
  have f80 : ρ 80 k = nI x := by rw [fr 80 (by decide) (by decide)]; exact e80
  have f81 : ρ 81 k = nI y := by rw [fr 81 (by decide) (by decide)]; exact e81
  have v80 : vp_in (ρ 80 (nI k).toNatClampNeg) 9 := by rw [ck, f80]; exact pk_in x 9 hx
  have v81 : vp_in (ρ 81 (nI k).toNatClampNeg) 9 := by rw [ck, f81]; exact pk_in y 9 hy
  have gxy : Gm σ n x y := ⟨k, hk, Or.inl ⟨e80, e81⟩⟩
  have gyx : Gm σ n y x := ⟨k, hk, Or.inr ⟨e80, e81⟩⟩
  have bx := (V x hx).1
  have by' := (V y hy).1
  have lex : ∀ {p q : Nat}, p ≤ 200 → q ≤ 200 → (nI p ≤ nI q ↔ p ≤ q) := fun hp hq => nI_leI (by omega) (by omega)
  refine kb_148_85 vk v81 vk v80 (fun g => ?_) (fun g => ?_)
  · rw [ck, f80, f81, cx, cy, S x hx, S y hy, nI_1, lex (by omega) (by omega)] at g
    refine kb_148_140 vk v80 vk v81 (fun h => kb_148_195 ?_) (fun h => kb_148_169 vk vk v80 v81 ?_)
    · rw [ck, f80, f81, cx, cy, S x hx, S y hy, nI_1, lex (by omega) (by omega)] at h
      rw [nI_1]
      exact K ρ dv (fun _ _ => rfl) S V (fun _ _ => Nat.le_refl _) g h
    · rw [ck, f80, f81, cx, cy, S x hx, S y hy, nI_1, lex (by omega) (by omega)] at h
      rw [nI_1, ck, f80, f81, cx, cy, S x hx, nI_1]
      refine K _ _ (fun c hc => mm_up_n hc) (SD_up S) (VD_up V hx gyx (by omega) hy) (fun v hv => ?_) ?_ ?_
      · show (if v = y then dv x + 1 else dv v) ≤ dv v
        split
        · subst v; omega
        · exact Nat.le_refl _
      · show (if x = y then dv x + 1 else dv x) ≤ dv y + 1
        split
        · subst x; omega
        · exact g
      · show (if y = y then dv x + 1 else dv y) ≤ dv x + 1
        rw [if_pos rfl]; exact Nat.le_refl _
  · have g' := g
    rw [ck, f80, f81, cx, cy, S x hx, S y hy, nI_1, lex (by omega) (by omega)] at g'
    have es : mm_up ρ 106 (ρ 80 (nI k).toNatClampNeg).toNatClampNeg ((ρ 106 (ρ 81 (nI k).toNatClampNeg).toNatClampNeg) + 1) = mm_up ρ 106 x (nI (dv y + 1)) := by
      rw [ck, f80, f81, cx, cy, S y hy, nI_1]
    have u80 : (mm_up ρ 106 x (nI (dv y + 1))) 80 k = nI x := by rw [mm_up_n (by decide)]; exact f80
    have u81 : (mm_up ρ 106 x (nI (dv y + 1))) 81 k = nI y := by rw [mm_up_n (by decide)]; exact f81
    have xy : x ≠ y := fun e => by subst e; omega
    refine kb_148_114 vk vk v81 v80 vk (by rw [es, ck, u80]; exact pk_in x 9 hx) vk (by rw [es, ck, u81]; exact pk_in y 9 hy) (fun h => ?_) (fun h => ?_)
    · rw [es]
      refine kb_148_195 ?_
      rw [nI_1]
      refine K _ _ (fun c hc => mm_up_n hc) (SD_up S) (VD_up V hy gxy (by omega) hx) (fun v hv => ?_) ?_ ?_
      · show (if v = x then dv y + 1 else dv v) ≤ dv v
        split
        · subst v; omega
        · exact Nat.le_refl _
      · show (if x = x then dv y + 1 else dv x) ≤ dv y + 1
        rw [if_pos rfl]; exact Nat.le_refl _
      · show (if y = x then dv y + 1 else dv y) ≤ dv x + 1
        rw [if_neg (fun e => xy e.symm)]; omega
    · exfalso
      rw [es, ck, u80, u81, cx, cy, up_v, up_v, if_pos rfl, if_neg (fun e => xy e.symm), S y hy, nI_1] at h
      exact h ((lex (by omega) (by omega)).mpr (by omega))
end WR
theorem FDd {G : Nat → Nat → Prop} {b : Nat} {dv : Nat → Nat} (V : VD G b dv) (U : UB G b 9 dv) {v : Nat} (hv : v < 9) : (∃ k, k ≤ 8 ∧ Ds G b v k ∧ dv v = k) ∨ ((∀ k, ¬ Rk G b k v) ∧ dv v = 99) := by
  obtain ⟨v1, v2⟩ := V v hv
  by_cases ex : ∃ k, Rk G b k v
  · obtain ⟨k, hk⟩ := ex
    obtain ⟨l, _, dl⟩ := Ds_ex hk
    have l8 := Ds_8 hv dl
    refine Or.inl ⟨l, l8, dl, ?_⟩
    have u := U v l hv (by omega) dl.1
    rcases Nat.lt_or_ge (dv v) l with c | c
    · exact absurd (v2 (by omega)) (dl.2 _ c)
    · omega
  · refine Or.inr ⟨fun k hk => ex ⟨k, hk⟩, ?_⟩
    rcases Nat.lt_or_ge (dv v) 99 with c | c
    · exact absurd ⟨_, v2 c⟩ ex
    · omega
def WF (σ τ : mm_S) : Prop := (∀ c, c ≠ 10 → c ≠ 98 → c ≠ 106 → τ c = σ c) ∧ (∀ j, j ≠ 0 → j ≠ 34 → τ 10 j = σ 10 j) ∧ τ 10 0 = 0
theorem c_148 {d n : Nat} {Q : mm_Q} {σ : mm_S} {x1 x2 : Int32} (M : MK σ n) (q1 : (mdr σ x1 = 0 ∨ mdr σ x2 = 0) → Q (some (.int 0)) (mm_up σ 10 0 1))
    (q0 : ∀ a b, a < 9 → b < 9 → x1 = nI a → x2 = nI b → ¬ mdr σ x1 = 0 → ¬ mdr σ x2 = 0 → ∀ τ w, WF σ τ → w ≤ 9 → τ 10 34 = nI w → WP (Gm σ n) b a w (τ 98) → Q (some (.int (nI w))) τ) : mD (d + 3) 148 [.ref 10, .int x1, .int x2] σ Q := by
  have n21 := M.jn.1
  have no : (mdr σ x1 = 0 ∨ mdr σ x2 = 0) → mw (d + 2) mt_148 Q 21 [some (.ref 10), some (.int x1), some (.int x2), none, none, none] [.ref 10] σ := fun h =>
    kb_148_21 (fun g => absurd (by rw [mm_up_s] at g; exact g) (by decide)) (fun _ => kb_148_32 (q1 h))
  refine ke_148 (kb_148_0 (c_88 (kb_148_6 (fun g => no (Or.inl g)) (fun gx => kb_148_9 (c_88 (kb_148_14 (fun g => no (Or.inr g)) (fun gy => kb_148_17 (fun _ => kb_148_34 ?_) (fun g => absurd (by rw [mm_up_s]; decide) g))))))))
  have mdx : ∀ {x}, ¬ mdr σ x = 0 → ∃ i, i < 9 ∧ x = nI i := fun {x} h => by
    have : mi x 0 8 = 1 := by
      rcases mi_01 x 0 8 with z | z
      · exact absurd (by unfold mdr; rw [if_pos z]) h
      · exact z
    exact mi8 this
  obtain ⟨a, ha, rfl⟩ := mdx gx
  obtain ⟨b, hb, rfl⟩ := mdx gy
  have ca : (nI a).toNatClampNeg = a := nI_clamp (by omega)
  have F0 : (∀ c, c ≠ 10 → c ≠ 106 → (mm_up σ 10 0 0) c = σ c) ∧ (mm_up σ 10 0 0) 10 = (mm_up σ 10 0 0) 10 := ⟨fun c h _ => mm_up_n h, rfl⟩
  -- the state: only 106 has changed
  have m6 : (mm_up σ 10 0 0) 10 6 = nI n := by rw [mm_up_o (by decide)]; exact M.jn.2
  have m0 : (mm_up σ 10 0 0) 10 0 = 0 := mm_up_s
  have mo : ∀ j, j ≠ 0 → (mm_up σ 10 0 0) 10 j = σ 10 j := fun j hj => mm_up_o hj
  have mf : ∀ c, c ≠ 10 → (mm_up σ 10 0 0) c = σ c := fun c hc => mm_up_n hc
  generalize mm_up σ 10 0 0 = σ1 at *
  refine lp_dn (P := fun i => ∀ ρ : mm_S, (∀ c, c ≠ 106 → ρ c = σ1 c) → (∀ v, v < i → ρ 106 v = nI (if v = b then 0 else 99)) → mw (d + 2) mt_148 Q 36 [some (.ref 10), some (.int (nI a)), some (.int (nI b)), some (.int (nI i)), none, none] [] ρ) 9 ?_ ?_ 0 (by omega) σ1 (fun _ _ => rfl) (fun v hv => absurd hv (Nat.not_lt_zero v))
  · intro ρ r1 r2
    refine kb_148_36 (fun _ => kb_148_65 ?_) (fun g => absurd (by decide) g)
    have V0 : VD (Gm σ n) b (fun v => if v = b then 0 else 99) := fun v hv => by
      show (if v = b then 0 else 99) ≤ 99 ∧ ((if v = b then 0 else 99) < 99 → Rk (Gm σ n) b (if v = b then 0 else 99) v)
      by_cases e : v = b
      · rw [if_pos e]; exact ⟨by omega, fun _ => e⟩
      · rw [if_neg e]; exact ⟨by omega, fun h => absurd h (by omega)⟩
    have U0 : UB (Gm σ n) b 0 (fun v => if v = b then 0 else 99) := fun v j hv hj h => by
      have : j = 0 := by omega
      subst this
      show (if v = b then 0 else 99) ≤ 0
      rw [if_pos (show v = b from h)]; exact Nat.le_refl 0
    refine lp_dn (P := fun r => ∀ (ρ : mm_S) o4 dv, (∀ c, c ≠ 106 → ρ c = σ1 c) → SD ρ dv → VD (Gm σ n) b dv → UB (Gm σ n) b r dv → mw (d + 2) mt_148 Q 67 [some (.ref 10), some (.int (nI a)), some (.int (nI b)), some (.int (nI r)), o4, none] [] ρ) 9 ?_ ?_ 0 (by omega) ρ none _ r1 (fun v hv => r2 v hv) V0 U0
    · intro ρ o4 dv r1 S V U
      refine kb_148_67 (fun _ => kb_148_207 (pk_in a 9 ha) (fun g => kb_148_223 ?_) (fun g => kb_148_225 (pk_in 0 9 (by omega)) ?_)) (fun g => absurd (by decide) g)
      · rw [mm_up_n (by decide), ca, S a ha] at g
        have g99 : dv a = 99 := (nI_eq (by have := (V a ha).1; omega) (by omega)).mp g
        refine q0 a b ha hb rfl rfl gx gy _ 0 ⟨fun c h1 _ h3 => by rw [mm_up_n h1, r1 c h3]; exact mf c h1, fun j h1 h2 => by rw [mm_up_o h2, r1 10 (by decide)]; exact mo j h1, by rw [mm_up_o (by decide), r1 10 (by decide)]; exact m0⟩ (by omega) mm_up_s (Or.inl ⟨rfl, ?_⟩)
        rcases FDd V U ha with ⟨k, k8, _, e⟩ | ⟨h, _⟩
        · omega
        · exact h
      · rw [mm_up_n (by decide), ca, S a ha] at g
        have ng : ¬ dv a = 99 := fun e => g (by rw [e]; rfl)
        obtain ⟨D, D8, dD, eD⟩ : ∃ k, k ≤ 8 ∧ Ds (Gm σ n) b a k ∧ dv a = k := by
          rcases FDd V U ha with h | ⟨_, h⟩
          · exact h
          · exact absurd h ng
        have dvk : ∀ v k, v < 9 → Ds (Gm σ n) b v k → dv v = k := fun v k hv h => by
          rcases FDd V U hv with ⟨l, _, dl, e⟩ | ⟨h', _⟩
          · rw [e]; exact Ds_u dl h
          · exact absurd h.1 (h' k)
        have kdv : ∀ v k, v < 9 → k ≤ 8 → dv v = k → Ds (Gm σ n) b v k := fun v k hv hk h => by
          rcases FDd V U hv with ⟨l, _, dl, e⟩ | ⟨_, e⟩
          · rw [← h, e]; exact dl
          · omega
        obtain ⟨p, p0, p1, p2⟩ := Ds_pth D a ha dD
        have main : ∀ i, i ≤ D → ∀ (τ : mm_S) o4 o5, (∀ c, c ≠ 10 → c ≠ 98 → τ c = ρ c) → (∀ j, j ≠ 34 → τ 10 j = ρ 10 j) → τ 10 34 = nI (i + 1) → (∀ k, k ≤ i → τ 98 k = nI (p k)) → mw (d + 2) mt_148 Q 239 [some (.ref 10), some (.int (nI a)), some (.int (nI b)), some (.int (nI (p i))), o4, o5] [] τ := by
          refine lp_dn (P := fun i => ∀ (τ : mm_S) o4 o5, (∀ c, c ≠ 10 → c ≠ 98 → τ c = ρ c) → (∀ j, j ≠ 34 → τ 10 j = ρ 10 j) → τ 10 34 = nI (i + 1) → (∀ k, k ≤ i → τ 98 k = nI (p k)) → mw (d + 2) mt_148 Q 239 [some (.ref 10), some (.int (nI a)), some (.int (nI b)), some (.int (nI (p i))), o4, o5] [] τ) D ?_ ?_
          · intro τ o4 o5 t1 t2 t3 t4
            have pb : p D = b := by
              have := (p2 D (Nat.le_refl D)).2.1
              rw [Nat.sub_self] at this
              exact this
            refine kb_148_239 (fun _ => kb_148_321 ?_) (fun g => absurd (by rw [pb]) g)
            rw [t3]
            exact q0 a b ha hb rfl rfl gx gy τ (D + 1) ⟨fun c h1 h2 h3 => by rw [t1 c h1 h2, r1 c h3]; exact mf c h1, fun j h1 h2 => by rw [t2 j h2, r1 10 (by decide)]; exact mo j h1, by rw [t2 0 (by decide), r1 10 (by decide)]; exact m0⟩ (by omega) t3 (Or.inr ⟨D, rfl, D8, dD, p, fun i hi => t4 i (by omega), p0, p1⟩)
          · intro i hi ih τ o4 o5 t1 t2 t3 t4
            obtain ⟨pi9, dpi⟩ := p2 i (by omega)
            have pnb : ¬ nI (p i) = nI b := fun e => dpi.2 0 (by omega) (nI9 pi9 hb e)
            have cp : (nI (p i)).toNatClampNeg = p i := nI_clamp (by omega)
            refine kb_148_239 (fun g => absurd g pnb) (fun _ => kb_148_244 ?_)
            have S' : ∀ v, v < 9 → τ 106 v = nI (dv v) := fun v hv => by rw [t1 106 (by decide) (by decide)]; exact S v hv
            have t80 : τ 80 = σ 80 := by rw [t1 80 (by decide) (by decide), r1 80 (by decide)]; exact mf 80 (by decide)
            have t81 : τ 81 = σ 81 := by rw [t1 81 (by decide) (by decide), r1 81 (by decide)]; exact mf 81 (by decide)
            have t6 : τ 10 6 = nI n := by rw [t2 6 (by decide), r1 10 (by decide)]; exact m6
            have dcur : dv (p i) = D - i := dvk _ _ pi9 dpi
            have seek : ∀ t, t ≤ 9 → ∀ x4 : Int32, ((x4 = -1 ∧ ∀ u, t ≤ u → u < 9 → ¬ stp (Gm σ n) b (p i) (D - 1 - i) u) ∨ ∃ u, t ≤ u ∧ x4 = nI u ∧ stp (Gm σ n) b (p i) (D - 1 - i) u ∧ ∀ k, t ≤ k → k < u → ¬ stp (Gm σ n) b (p i) (D - 1 - i) k) → mw (d + 2) mt_148 Q 251 [some (.ref 10), some (.int (nI a)), some (.int (nI b)), some (.int (nI (p i))), some (.int x4), some (.int (nI t + (-1)))] [] τ := by
              intro t
              induction t with
              | zero =>
                intro _ x4 hx
                refine kb_148_251 (fun _ => kb_148_295 (by rw [t3]; exact pk_in (i + 1) 9 (by omega)) ?_) (fun g => absurd (by decide) g)
                obtain ⟨u, _, eu, hu, um⟩ : ∃ u, 0 ≤ u ∧ x4 = nI u ∧ stp (Gm σ n) b (p i) (D - 1 - i) u ∧ ∀ k, 0 ≤ k → k < u → ¬ stp (Gm σ n) b (p i) (D - 1 - i) k := by
                  rcases hx with ⟨_, h⟩ | h
                  · have hs := (p1 i hi).1
                    exact absurd hs (h _ (Nat.zero_le _) hs.1)
                  · exact h
                have pe : u = p (i + 1) := Lst_u ⟨hu, fun k hk => um k (Nat.zero_le k) hk⟩ (p1 i hi)
                subst eu
                subst pe
                have e34 : (mm_up τ 98 (τ 10 34).toNatClampNeg (nI (p (i + 1)))) 10 34 = nI (i + 1) := by rw [mm_up_n (by decide)]; exact t3
                rw [e34, nI_1, t3, nI_clamp (by omega)]
                refine ih _ _ _ (fun c h1 h2 => by rw [mm_up_n h1, mm_up_n h2]; exact t1 c h1 h2) (fun j hj => by rw [mm_up_o hj, mm_up_n (by decide)]; exact t2 j hj) mm_up_s (fun k hk => ?_)
                rw [mm_up_n (by decide), up_v]
                by_cases e : k = i + 1
                · rw [if_pos e, e]
                · rw [if_neg e]; exact t4 k (by omega)
              | succ t iht =>
                intro ht x4 hx
                have ct : (nI t).toNatClampNeg = t := nI_clamp (by omega)
                rw [nI_pm]
                have skip : ¬ stp (Gm σ n) b (p i) (D - 1 - i) t → mw (d + 2) mt_148 Q 289 [some (.ref 10), some (.int (nI a)), some (.int (nI b)), some (.int (nI (p i))), some (.int x4), some (.int (nI t))] [] τ := fun ns => by
                  refine kb_148_289 (iht (by omega) x4 ?_)
                  rcases hx with ⟨e, h⟩ | ⟨u, hu, e, hs, hm⟩
                  · refine Or.inl ⟨e, fun u h1 h2 => ?_⟩
                    rcases Nat.lt_or_ge t u with c | c
                    · exact h u (by omega) h2
                    · have : u = t := by omega
                      subst this; exact ns
                  · refine Or.inr ⟨u, by omega, e, hs, fun k h1 h2 => ?_⟩
                    rcases Nat.lt_or_ge t k with c | c
                    · exact hm k (by omega) h2
                    · have : k = t := by omega
                      subst this; exact ns
                have sub1 : nI (D - i) - 1 = nI (D - 1 - i) := by rw [show D - 1 - i = D - i - 1 by omega]; exact nI_sub (b := 1) (by omega)
                refine kb_148_251 (fun g => absurd g (nI_nlt (b := 0) (Nat.zero_le t) (by omega))) (fun _ => kb_148_256 (pk_in t 9 (by omega)) (pk_in (p i) 9 pi9) (fun g => kb_148_274 ?_) (fun g => skip (fun hs => g ?_)))
                · rw [ct, cp, S' t (by omega), S' _ pi9, dcur, sub1] at g
                  have gd : dv t = D - 1 - i := (nI_eq (by have := (V t (by omega)).1; omega) (by omega)).mp g
                  have dt := kdv t _ (by omega) (by omega) gd
                  refine c_90 n21 t6 (fun j hj hjn _ => kb_148_281 (fun z => absurd z (nI_m1 (by omega))) (fun _ => kb_148_285 (iht (by omega) (nI t) (Or.inr ⟨t, Nat.le_refl t, rfl, ⟨by omega, ⟨j, hj, ?_⟩, dt⟩, fun k h1 h2 => absurd h2 (by omega)⟩)))) (fun hno => kb_148_281 (fun _ => skip (fun hs => ?_)) (fun z => absurd rfl z))
                  · unfold mjn at hjn
                    rw [t80, t81] at hjn
                    exact hjn
                  · obtain ⟨_, ⟨k, hk, he⟩, _⟩ := hs
                    refine hno k hk ?_
                    unfold mjn
                    rw [t80, t81]
                    exact he
                · rw [ct, cp, S' t (by omega), S' _ pi9, dcur, sub1, dvk t _ (by omega) hs.2.2]
            exact seek 9 (by omega) (-1) (Or.inl ⟨rfl, fun u h1 h2 => absurd h2 (by omega)⟩)
        rw [show nI a = nI (p 0) from by rw [p0]]
        have r34 : ∀ j, j ≠ 34 → (mm_up (mm_up (mm_up ρ 10 34 0) 98 (0 : Int32).toNatClampNeg (nI (p 0))) 10 34 1) 10 j = ρ 10 j := fun j hj => by rw [mm_up_o hj, mm_up_n (by decide), mm_up_o hj]
        have := main 0 (Nat.zero_le D) (mm_up (mm_up (mm_up ρ 10 34 0) 98 (0 : Int32).toNatClampNeg (nI (p 0))) 10 34 1) o4 none (fun c h1 h2 => by rw [mm_up_n h1, mm_up_n h2, mm_up_n h1]) r34 mm_up_s (fun k hk => by
          have : k = 0 := by omega
          subst this
          rw [mm_up_n (by decide)]; exact mm_up_s)
        rw [p0] at this ⊢
        exact this
    · intro r hr ih ρ o4 dv r1 S V U
      refine kb_148_67 (fun g => absurd g (hI_nle (a := 9) (by omega) hr)) (fun _ => kb_148_73 ?_)
      refine lp_dn (P := fun k => ∀ (ρ : mm_S) dv, (∀ c, c ≠ 106 → ρ c = σ1 c) → SD ρ dv → VD (Gm σ n) b dv → UB (Gm σ n) b r dv → (∀ k' v u, k' < k → v < 9 → u < 9 → Em σ k' v u → Rk (Gm σ n) b r u → dv v ≤ r + 1) → mw (d + 2) mt_148 Q 76 [some (.ref 10), some (.int (nI a)), some (.int (nI b)), some (.int (nI r)), some (.int (nI k)), none] [] ρ) n ?_ ?_ 0 (by omega) ρ dv r1 S V U (fun k' v u h => absurd h (Nat.not_lt_zero k'))
      · intro ρ dv r1 S V U N
        refine kb_148_76 (fun _ => kb_148_201 ?_) (fun g => absurd (by rw [r1 10 (by decide), m6]; exact hI_le (by omega) (Nat.le_refl n)) g)
        rw [nI_1]
        refine ih ρ _ dv r1 S V (fun v j hv hj h => ?_)
        rcases Nat.lt_or_ge j (r + 1) with c | c
        · exact U v j hv (by omega) h
        · have : j = r + 1 := by omega
          subst this
          rcases h with h | ⟨u, u9, ⟨k, hk, he⟩, hr'⟩
          · have := U v r hv (Nat.le_refl r) h; omega
          · exact N k v u hk hv u9 he hr'
      · intro k hk ihk ρ dv r1 S V U N
        obtain ⟨x, y, hx, hy, xy, _, _, ex, ey⟩ := M.je k hk
        refine kb_148_76 (fun g => absurd g (by rw [r1 10 (by decide), m6]; exact hI_nle (by omega) hk)) (fun _ => c_148j hk n21 (fun c h1 h2 => by rw [r1 c h2]; exact mf c h1) hx hy ex ey S V (fun ρ' dv' s1 S' V' le h1 h2 => ihk ρ' dv' (fun c hc => by rw [s1 c hc]; exact r1 c hc) S' V' (fun v j hv hj h => Nat.le_trans (le v hv) (U v j hv hj h)) (fun k' v u hk' hv hu he hr' => ?_)))
        rcases Nat.lt_or_ge k' k with c | c
        · exact Nat.le_trans (le v hv) (N k' v u c hv hu he hr')
        · have : k' = k := by omega
          subst this
          have ux := U u r hu (Nat.le_refl r) hr'
          rcases he with ⟨e1, e2⟩ | ⟨e1, e2⟩
          · have a1 := nI9 hx hv (ex.symm.trans e1)
            have a2 := nI9 hy hu (ey.symm.trans e2)
            subst a1; subst a2
            omega
          · have a1 := nI9 hx hu (ex.symm.trans e1)
            have a2 := nI9 hy hv (ey.symm.trans e2)
            subst a1; subst a2
            omega
  · intro i hi ih ρ r1 r2
    have ci : (nI i).toNatClampNeg = i := nI_clamp (by omega)
    refine kb_148_36 (fun g => absurd g (hI_nle (a := 9) (by omega) hi)) (fun _ => kb_148_42 (fun g => kb_148_52 (pk_in i 9 hi) ?_) (fun g => kb_148_56 (pk_in i 9 hi) ?_))
    · rw [nI_1, ci]
      refine ih _ (fun c hc => by rw [mm_up_n hc]; exact r1 c hc) (fun v hv => ?_)
      rw [up_v]
      by_cases e : v = i
      · rw [if_pos e, if_pos (by rw [e]; exact nI9 hi hb g)]; rfl
      · rw [if_neg e]; exact r2 v (by omega)
    · rw [nI_1, ci]
      refine ih _ (fun c hc => by rw [mm_up_n hc]; exact r1 c hc) (fun v hv => ?_)
      rw [up_v]
      by_cases e : v = i
      · rw [if_pos e, if_neg (fun z => g (by rw [← e, z]))]; rfl
      · rw [if_neg e]; exact r2 v (by omega)
end
section
-- the calls that only look, on every kept state
theorem ZI.jm {σ : mm_S} {n m : Nat} (Z : ZI σ n m) : Jm σ := by
  have h := Z.ck.jn
  refine ⟨by rw [Z.mk.jn.2, h.2], ?_, ?_⟩
  · rw [h.2]; exact nI_nlt (b := 0) (Nat.zero_le n) (by omega)
  · rw [h.2]; exact hI_le (b := 21) (by omega) h.1
theorem xj_n {σ : mm_S} {n : Nat} {x : Int32} (hJ : Jm σ) (e : σ 1 12 = nI n) (hn : n ≤ 21) (h : xj σ x = 1) : ∃ k, k < n ∧ x = nI k := by
  obtain ⟨k, hk, rfl⟩ := vp_in_of (xj_in hJ h) (by decide)
  refine ⟨k, ?_, rfl⟩
  rcases Nat.lt_or_ge k n with c | c
  · exact c
  · exfalso
    unfold xj at h
    rw [e] at h
    split at h
    · exact absurd h (by decide)
    · rw [if_pos (hI_le (by omega) c)] at h
      exact absurd h (by decide)
theorem in_4 {x : Int32} (h1 : ¬ x < 0) (h2 : x < 4) : ∃ j, j < 4 ∧ x = nI j := by
  have a := Int32.le_iff_toInt_le.mp (Int32.not_lt.mp h1)
  have b := Int32.lt_iff_toInt_lt.mp h2
  have c : (0 : Int32).toInt = 0 := by decide
  have e : (4 : Int32).toInt = 4 := by decide
  refine ⟨x.toInt.toNat, by omega, Int32.toInt_inj.mp ?_⟩
  rw [nI_toInt (by omega)]
  omega
theorem in_mi {x : Int32} {b : Nat} (hb : b < 1000) (h : ¬ mi x 0 (nI b) = 0) : ∃ j, j ≤ b ∧ x = nI j := by
  unfold mi at h
  by_cases h1 : x < 0
  · rw [if_pos h1] at h; exact absurd rfl h
  · rw [if_neg h1] at h
    by_cases h2 : nI b < x
    · rw [if_pos h2] at h; exact absurd rfl h
    · have a := Int32.le_iff_toInt_le.mp (Int32.not_lt.mp h1)
      have b' := Int32.le_iff_toInt_le.mp (Int32.not_lt.mp h2)
      have c : (0 : Int32).toInt = 0 := by decide
      rw [nI_toInt (by omega)] at b'
      refine ⟨x.toInt.toNat, by omega, Int32.toInt_inj.mp ?_⟩
      rw [nI_toInt (by omega)]
      omega
theorem xd_n0 {σ : mm_S} {x : Int32} (h : ¬ xd σ x = 0) : ∃ i, i < 9 ∧ x = nI i := xd_1 ((xd_01 σ x).resolve_left h)
theorem mdr_n0 {σ : mm_S} {x : Int32} (h : ¬ mdr σ x = 0) : ∃ i, i < 9 ∧ x = nI i := by
  have : mi x 0 8 = 1 := by
    rcases mi_01 x 0 8 with z | z
    · exact absurd (by unfold mdr; rw [if_pos z]) h
    · exact z
  exact mi8 this
theorem at_in {r b : Nat} (hr : r < 9) (hb : b < 2) : vp_in (f_135 (nI r) (nI b)) 18 := by rw [at_n r hr b hb]; exact pk_in (2 * r + b) 18 (by omega)
theorem nd_1 : ∀ j, j < 4 → nI j &&& (1 : Int32) = nI (j % 2) := by decide
theorem nd_2 : ∀ w, w < 4 → nI w >>> ((1 : Int32) &&& 31) = nI (w / 2) := by decide
theorem nd_3 : ∀ w, w < 2 → (1 : Int32) - nI w = nI (1 - w) := by decide
theorem nd_4 : ∀ w, w < 2 → nI w + (2 : Int32) = nI (w + 2) := by decide
section SF
variable {d n m : Nat} {Q : mm_Q} {XQ : Nat → mm_S → Prop} {σ : mm_S}
theorem s_2 {x1 : Int32} (Z : ZI σ n m) (q : Q (some (.int (f_2 σ x1))) σ) : mD (d + 2) 2 [.ref 0, .int x1] σ Q := c_2 (fun h1 h2 => by
  have : x1 < 4 := by
    rcases Z.wn with e | e | e <;> rw [e] at h2 <;> exact Int32.lt_of_lt_of_le (Int32.not_le.mp h2) (by decide)
  obtain ⟨j, hj, rfl⟩ := in_4 h1 this
  refine pk_in j 3 ?_
  rcases Nat.lt_or_ge j 3 with c | c
  · exact c
  · exfalso
    have : j = 3 := by omega
    subst this
    rcases Z.wn with e | e | e <;> rw [e] at h2 <;> exact h2 (by decide)) q
theorem s_3 {x1 : Int32} (Z : ZI σ n m) (q : Q (some (.int (f_3 σ x1))) σ) : mD (d + 2) 3 [.ref 0, .int x1] σ Q := c_3 (fun h1 h2 => by
  obtain ⟨w, w9, e, _, _⟩ := Z.wy
  rw [e] at h2
  have a := Int32.le_iff_toInt_le.mp (Int32.not_lt.mp h1)
  have b := Int32.lt_iff_toInt_lt.mp (Int32.not_le.mp h2)
  have c : (0 : Int32).toInt = 0 := by decide
  rw [nI_toInt (by omega)] at b
  have ex : x1 = nI x1.toInt.toNat := Int32.toInt_inj.mp (by rw [nI_toInt (by omega)]; omega)
  rw [ex]
  exact pk_in x1.toInt.toNat 9 (by omega)) q
theorem s_5 {x1 x2 : Int32} (q : ∀ v, Q (some (.int v)) σ) (e0 : XQ 0 σ) (e2 : XQ 2 σ) : xD (d + 2) 5 [.ref 0, .int x1, .int x2] σ Q XQ :=
  xz_5 (fun _ h _ _ => by obtain ⟨i, hi, rfl⟩ := xd_n0 h; exact pk_in i 9 hi) (fun _ _ h1 h2 => by obtain ⟨j, hj, rfl⟩ := in_4 h1 h2; exact pk_in j 4 hj) (fun _ => e2) (fun _ _ => e0) (fun _ _ _ => e0) (fun _ _ _ _ => q _) (fun _ _ _ _ => e0)
theorem s_6 {x1 : Int32} (q : ∀ v, Q (some (.int v)) σ) (e0 : XQ 0 σ) (e2 : XQ 2 σ) : xD (d + 3) 6 [.ref 0, .int x1] σ Q XQ :=
  xz_6 (fun _ h1 _ h2 => by
    obtain ⟨j, hj, rfl⟩ := in_4 h1 (Int32.lt_of_lt_of_le (Int32.not_le.mp h2) (by decide))
    refine pk_in j 2 ?_
    rcases Nat.lt_or_ge j 2 with c | c
    · exact c
    · exact absurd (hI_le (a := 2) (by omega) c) h2) (fun _ => e2) (fun _ _ => e0) (fun _ _ _ _ => q _) (fun _ _ _ _ => q _) (fun _ _ _ => e0)
theorem s_7 {x1 x2 : Int32} (Z : ZI σ n m) (q : ∀ v, Q (some (.int v)) σ) (e0 : XQ 0 σ) (e2 : XQ 2 σ) : xD (d + 4) 7 [.ref 0, .int x1, .int x2] σ Q XQ := by
  have A : ¬ xj σ x1 = 0 → vp_in x1 21 ∧ vp_in (σ 16 x1.toNatClampNeg) 9 ∧ vp_in (σ 17 x1.toNatClampNeg) 9 ∧ vp_in ((1 : Int32) - f_74 σ x1) 4 ∧ vp_in (((1 : Int32) - f_74 σ x1) + (2 : Int32)) 4 := fun h => by
    obtain ⟨k, hk, rfl⟩ := xj_n Z.jm Z.ck.jn.2 Z.ck.jn.1 ((xj_01 σ x1).resolve_left h)
    have n21 := Z.ck.jn.1
    obtain ⟨a, b, ha, hb, _, _, _, ea, eb⟩ := Z.ck.je k hk
    obtain ⟨w, hw, ew⟩ := Z.dg k (by omega)
    have ck : (nI k).toNatClampNeg = k := nI_clamp (by omega)
    unfold f_74
    rw [ck, ea, eb, ew, nd_2 w hw, nd_3 _ (by omega), nd_4 _ (by omega)]
    exact ⟨pk_in k 21 (by omega), pk_in a 9 ha, pk_in b 9 hb, pk_in (1 - w / 2) 4 (by omega), pk_in (1 - w / 2 + 2) 4 (by omega)⟩
  exact xz_7 (fun _ h _ _ _ => (A h).1) (fun _ h _ _ _ _ => (A h).1) (fun _ h _ _ _ _ => (A h).2.1) (fun _ h _ _ _ _ => (A h).2.2.2.1) (fun _ h _ _ _ _ => (A h).2.2.1) (fun _ h _ _ _ _ => (A h).1) (fun _ h _ _ _ _ => (A h).2.1) (fun _ h _ _ _ _ => (A h).2.2.2.2) (fun _ h _ _ _ _ => (A h).2.2.1) (fun _ => e2) (fun _ _ => e0) (fun _ _ _ => e0) (fun _ _ _ _ _ => q _) (fun _ _ _ _ _ _ => q _) (fun _ _ _ _ _ _ => q _) (fun _ _ _ _ => e0)
theorem s_8 {x1 x2 : Int32} (q : ∀ v, Q (some (.int v)) σ) (e0 : XQ 0 σ) (e2 : XQ 2 σ) : xD (d + 2) 8 [.ref 0, .int x1, .int x2] σ Q XQ :=
  xz_8 (fun _ h _ _ => by obtain ⟨i, hi, rfl⟩ := xd_n0 h; exact pk_in i 13 (by omega)) (fun _ h _ _ _ => by obtain ⟨i, hi, rfl⟩ := xd_n0 h; exact pk_in i 9 hi) (fun _ _ h1 h2 _ => by obtain ⟨j, hj, rfl⟩ := in_4 h1 h2; rw [nd_1 j hj, nd_4 _ (by omega)]; exact pk_in (j % 2 + 2) 4 (by omega)) (fun _ _ h1 h2 _ => by obtain ⟨j, hj, rfl⟩ := in_4 h1 h2; rw [nd_1 j hj]; exact pk_in (j % 2) 4 (by omega)) (fun _ => e2) (fun _ _ => e0) (fun _ _ _ => e0) (fun _ _ _ _ _ => q _) (fun _ _ _ _ _ => q _) (fun _ _ _ _ => e0)
theorem s_143 {x1 : Int32} (q : ∀ v, Q (some (.int v)) (mm_up σ 10 0 0)) : mD (d + 2) 143 [.ref 10, .int x1] σ Q :=
  c_143 (fun _ _ h => by obtain ⟨j, hj, rfl⟩ := in_mi (b := 1) (by omega) h; exact pk_in j 3 (by omega)) (fun _ _ h => by obtain ⟨j, hj, rfl⟩ := in_mi (b := 2) (by omega) h; exact pk_in j 3 (by omega)) (fun _ => q _) (fun _ _ _ => q _) (fun _ _ _ => q _) (fun _ _ _ => q _) (fun _ _ _ => q _)
theorem s_144 {x1 x2 : Int32} (q : ∀ v e, Q (some (.int v)) (mm_up σ 10 0 e)) : mD (d + 3) 144 [.ref 10, .int x1, .int x2] σ Q := by
  have A : ¬ mdr σ x1 = 0 → vp_in (f_135 x1 1) 18 ∧ vp_in (f_135 x1 0) 18 := fun h => by
    obtain ⟨i, hi, rfl⟩ := mdr_n0 h
    exact ⟨at_in (b := 1) hi (by omega), at_in (b := 0) hi (by omega)⟩
  exact c_144 (fun _ h _ _ _ => (A h).1) (fun _ h _ _ _ => (A h).2) (fun _ h _ _ _ => (A h).1) (fun _ h _ _ _ => (A h).2) (fun _ => q _ _) (fun _ _ => q _ _) (fun _ _ _ => q _ _) (fun _ _ _ _ _ => q _ _) (fun _ _ _ _ _ => q _ _) (fun _ _ _ _ _ => q _ _) (fun _ _ _ _ _ => q _ _)
theorem s_145 {x1 : Int32} (q : ∀ v e, Q (some (.int v)) (mm_up σ 10 0 e)) : mD (d + 2) 145 [.ref 10, .int x1] σ Q := by
  refine ks_145_0 (fun _ => q _ _) (fun _ _ => q _ _) (fun _ _ => ?_)
  refine lp_dn (P := fun i => ∀ x2, mw (d + 1) mt_145 Q 42 [some (.ref 10), some (.int x1), some (.int x2), some (.int (nI i))] [] (mm_up σ 10 0 0)) 9 ?_ ?_ 0 (by omega) 0
  · intro x2
    exact ks_145_42 (fun h => absurd (by decide) h) (fun _ _ => q _ _) (fun _ _ _ => q _ _) (fun _ _ _ => q _ _) (fun h => absurd (by decide) h) (fun h => absurd (by decide) h)
  · intro i hi ih x2
    have nl : ¬ (9 : Int32) ≤ nI i := hI_nle (a := 9) (by omega) hi
    refine ks_145_42 (fun _ => pk_in i 9 hi) (fun h => absurd h nl) (fun h => absurd h nl) (fun h => absurd h nl) (fun _ _ => ?_) (fun _ _ => ?_)
    · rw [nI_1]; exact ih _
    · rw [nI_1]; exact ih _
theorem s_147 {x1 x2 : Int32} (q : ∀ v e, Q (some (.int v)) (mm_up σ 10 0 e)) : mD (d + 3) 147 [.ref 10, .int x1, .int x2] σ Q := by
  have A : ¬ mdr σ x1 = 0 → vp_in (f_135 x1 1) 18 ∧ vp_in (f_135 x1 0) 18 := fun h => by
    obtain ⟨i, hi, rfl⟩ := mdr_n0 h
    exact ⟨at_in (b := 1) hi (by omega), at_in (b := 0) hi (by omega)⟩
  have B : ¬ mi x2 0 3 = 0 → vp_in ((9 : Int32) + x2) 13 := fun h => by
    obtain ⟨j, hj, rfl⟩ := in_mi (b := 3) (by omega) h
    rw [nI_9]; exact pk_in (9 + j) 13 (by omega)
  apply c_147 <;> intros <;> first | exact q _ _ | exact B (by assumption) | exact (A (by assumption)).1 | exact (A (by assumption)).2
theorem s_146 {x1 x2 : Int32} (Z : ZI σ n m) (q : ∀ v e, Q (some (.int v)) (mm_up σ 10 0 e)) : mD (d + 3) 146 [.ref 10, .int x1, .int x2] σ Q := by
  have A : ¬ mi x1 0 (σ 10 6 - 1) = 0 → vp_in x1 21 ∧ vp_in (f_135 (σ 80 x1.toNatClampNeg) 0) 18 ∧ vp_in (f_135 (σ 80 x1.toNatClampNeg) 1) 18 ∧ vp_in (f_135 (σ 81 x1.toNatClampNeg) 0) 18 ∧ vp_in (f_135 (σ 81 x1.toNatClampNeg) 1) 18 := fun h => by
    have h1 := (Jm_j Z.jm).mp ((mi_01 _ _ _).resolve_left h)
    obtain ⟨k, hk, rfl⟩ := xj_n Z.jm Z.ck.jn.2 Z.ck.jn.1 h1
    have n21 := Z.ck.jn.1
    obtain ⟨a, b, ha, hb, _, _, _, ea, eb⟩ := Z.mk.je k hk
    rw [nI_clamp (by omega), ea, eb]
    exact ⟨pk_in k 21 (by omega), at_in (b := 0) ha (by omega), at_in (b := 1) ha (by omega), at_in (b := 0) hb (by omega), at_in (b := 1) hb (by omega)⟩
  apply c_146 <;> intros <;> first | exact q _ _ | exact (A (by assumption)).1 | exact (A (by assumption)).2.1 | exact (A (by assumption)).2.2.1 | exact (A (by assumption)).2.2.2.1 | exact (A (by assumption)).2.2.2.2
theorem s_149i {x1 : Int32} (Z : ZI σ n m) : ¬ ((mi x1 (0 : Int32) ((σ 10 34) - (1 : Int32))) = 0) → vp_in x1 9 := fun h => by
  obtain ⟨w, w9, _, e, _⟩ := Z.wy
  rw [e] at h
  match w with
  | 0 =>
    exfalso
    apply h
    unfold mi
    split
    · rfl
    · rename_i g
      rw [if_pos]
      refine Int32.lt_of_lt_of_le (b := 0) (by decide) (Int32.not_lt.mp g)
  | w + 1 =>
    have e1 : nI (w + 1) - 1 = nI w := nI_sub (b := 1) (by omega)
    rw [e1] at h
    obtain ⟨j, hj, rfl⟩ := in_mi (by omega) h
    exact pk_in j 9 (by omega)
theorem s_149 {x1 : Int32} (Z : ZI σ n m) (q : ∀ v, Q (some (.int v)) (mm_up σ 10 0 0)) : mD (d + 2) 149 [.ref 10, .int x1] σ Q :=
  c_149 (s_149i Z) (fun _ => q _) (fun _ => q _)
theorem s_150 {x1 : Int32} (q : ∀ v, Q (some (.int v)) (mm_up σ 10 0 0)) : mD (d + 2) 150 [.ref 10, .int x1] σ Q :=
  c_150 (fun _ => q _) (fun _ _ => q _) (fun _ _ _ => q _) (fun _ _ _ _ => q _) (fun _ _ _ _ _ _ => q _) (fun _ _ _ _ _ _ => q _) (fun _ _ _ _ _ => q _)
theorem s_155 {x : Int32} (q : ∀ v, Q (some (.int v)) σ) : mD (d + 1) 155 [.ref 0, .int x] σ Q :=
  c_155 (fun _ => q _) (fun _ => q _) (fun _ => q _) (fun _ => q _) (fun _ => q _) (fun _ _ _ _ _ => q _)
end SF
end
section
-- way on both sides keeps the invariant, and the answers are the same
theorem x_way {d n m : Nat} {Q : mm_Q} {XQ : Nat → mm_S → Prop} {x1 x2 : Int32} {σ : mm_S} (C : CK σ n m) (e0 : (xd σ x1 = 0 ∨ xd σ x2 = 0) → XQ 0 σ)
    (q : ∀ a b, a < 9 → b < 9 → x1 = nI a → x2 = nI b → xd σ x1 = 1 → xd σ x2 = 1 → ∀ τ w, (∀ c, c ≠ 9 → c ≠ 73 → c ≠ 74 → τ c = σ c) → w ≤ 9 → τ 9 1 = nI w → WP (Gj σ n) b a w (τ 73) → Q (some (.int (nI w))) τ) : xD (d + 5) 9 [.ref 0, .int x1, .int x2] σ Q XQ := by
  refine ⟨rfl, xr_9_0 (c_7 (xr_9_8 (fun g => xr_9_22 (e0 (Or.inl g))) (fun g => xr_9_11 (c_7 (xr_9_19 (fun h => xr_9_22 (e0 (Or.inr h))) (fun h => xr_9_32 ?_))))))⟩
  have d1 : xd σ x1 = 1 := (xd_01 σ x1).resolve_left g
  have d2 : xd σ x2 = 1 := (xd_01 σ x2).resolve_left h
  obtain ⟨a, ha, rfl⟩ := xd_1 d1
  obtain ⟨b, hb, rfl⟩ := xd_1 d2
  exact c_81 C ha hb ((C.dr b hb).mp d2) (fun τ w f1 w9 e W => xr_9_41 (q a b ha hb rfl rfl d1 d2 τ w f1 w9 e W))
theorem Gm_eq {σ τ : mm_S} {n m : Nat} (Z : ZI σ n m) (h80 : τ 80 = σ 80) (h81 : τ 81 = σ 81) : Gm τ n = Gj σ n := by
  funext v u
  refine propext ⟨?_, ?_⟩
  · rintro ⟨k, hk, h⟩
    refine ⟨k, hk, ?_⟩
    unfold Em at h
    rw [h80, h81, (Z.jj k hk).1, (Z.jj k hk).2] at h
    exact h
  · rintro ⟨k, hk, h⟩
    refine ⟨k, hk, ?_⟩
    unfold Em
    rw [h80, h81, (Z.jj k hk).1, (Z.jj k hk).2]
    exact h
theorem ZI_way {σ τ ρ : mm_S} {n m w : Nat} (Z : ZI σ n m) (f1 : ∀ c, c ≠ 9 → c ≠ 73 → c ≠ 74 → τ c = σ c) (F : WF τ ρ) (w9 : w ≤ 9) (e1 : τ 9 1 = nI w) (e2 : ρ 10 34 = nI w) (e3 : ∀ i, i < w → ρ 98 i = τ 73 i) : ZI ρ n m := by
  have h : ∀ c, (c = 1 ∨ c = 3 ∨ (11 ≤ c ∧ c ≤ 59) ∨ (75 ≤ c ∧ c ≤ 83)) → ρ c = σ c := fun c hc => by
    rw [F.1 c (by omega) (by omega) (by omega)]; exact f1 c (by omega) (by omega) (by omega)
  have h10 : ∀ j, j ≠ 0 → j ≠ 34 → ρ 10 j = σ 10 j := fun j a b => by rw [F.2.1 j a b, f1 10 (by decide) (by decide) (by decide)]
  have h1 := h 1 (by omega)
  refine ⟨CK_cg h1 (h 11 (by omega)) (h 12 (by omega)) (h 15 (by omega)) (h 16 (by omega)) (h 17 (by omega)) Z.ck, ?_, BG_cg (fun c _ _ => h c (by omega)) Z.bg, DG_cg (h 45 (by omega)) Z.dg, ?_, MK_cg (h10 6 (by omega) (by omega)) (h10 10 (by omega) (by omega)) (h 75 (by omega)) (h 80 (by omega)) (h 81 (by omega)) (h 83 (by omega)) Z.mk, Rm_cg (by rw [h1]) (h 11 (by omega)) (h 12 (by omega)) (h 75 (by omega)) (h 76 (by omega)) (h 77 (by omega)) Z.rm, ?_, ?_, ?_, ?_, ?_⟩
  · unfold COk; rw [h1, h 19 (by omega)]; exact Z.co
  · unfold WN; rw [h 3 (by omega)]; exact Z.wn
  · intro k hk; rw [h 80 (by omega), h 81 (by omega), h 16 (by omega), h 17 (by omega)]; exact Z.jj k hk
  · rw [h10 10 (by omega) (by omega), h1, h 83 (by omega), h 19 (by omega)]; exact Z.cc
  · intro j hj; rw [h 75 (by omega), h 78 (by omega), h 79 (by omega), h 13 (by omega), h 14 (by omega)]; exact Z.wh j hj
  · intro k hk; rw [h 82 (by omega), h 18 (by omega)]; exact Z.ww k hk
  · exact ⟨w, w9, by rw [F.1 9 (by decide) (by decide) (by decide)]; exact e1, e2, fun i hi => by rw [e3 i hi, F.1 73 (by decide) (by decide) (by decide)]⟩
theorem mdr_75 {σ τ : mm_S} (h : τ 75 = σ 75) (x : Int32) : mdr τ x = mdr σ x := by unfold mdr; rw [h]
/-- the reference's way behind the class's -/
theorem s_148 {d n m a b w : Nat} {Q : mm_Q} {σ τ : mm_S} (Z : ZI σ n m) (d1 : xd σ (nI a) = 1) (d2 : xd σ (nI b) = 1) (ha : a < 9) (hb : b < 9) (f1 : ∀ c, c ≠ 9 → c ≠ 73 → c ≠ 74 → τ c = σ c) (w9 : w ≤ 9) (e1 : τ 9 1 = nI w) (W : WP (Gj σ n) b a w (τ 73))
    (q : ∀ ρ, ZI ρ n m → ρ 10 0 = 0 → Q (some (.int (nI w))) ρ) : mD (d + 3) 148 [.ref 10, .int (nI a), .int (nI b)] τ Q := by
  have k1 : ¬ mdr τ (nI a) = 0 := by rw [mdr_75 (f1 75 (by decide) (by decide) (by decide)), (Rm_dr Z.rm).mp d1]; decide
  have k2 : ¬ mdr τ (nI b) = 0 := by rw [mdr_75 (f1 75 (by decide) (by decide) (by decide)), (Rm_dr Z.rm).mp d2]; decide
  have e10 : τ 10 = σ 10 := f1 10 (by decide) (by decide) (by decide)
  refine c_148 (n := n) (MK_cg (by rw [e10]) (by rw [e10]) (f1 75 (by decide) (by decide) (by decide)) (f1 80 (by decide) (by decide) (by decide)) (f1 81 (by decide) (by decide) (by decide)) (f1 83 (by decide) (by decide) (by decide)) Z.mk) (fun h => absurd h (fun z => z.elim k1 k2)) (fun a' b' ha' hb' ea eb _ _ ρ w' F w9' e2 W' => ?_)
  have := nI9 ha ha' ea
  subst this
  have := nI9 hb hb' eb
  subst this
  rw [Gm_eq Z (f1 80 (by decide) (by decide) (by decide)) (f1 81 (by decide) (by decide) (by decide))] at W'
  obtain ⟨ew, ef⟩ := WP_u W W'
  subst ew
  exact q ρ (ZI_way Z f1 F w9 e1 e2 (fun i hi => (ef i hi).symm)) F.2.2
theorem s_148n {d n m : Nat} {Q : mm_Q} {σ : mm_S} {x1 x2 : Int32} (Z : ZI σ n m) (h : xd σ x1 = 0 ∨ xd σ x2 = 0) (q : Q (some (.int 0)) (mm_up σ 10 0 1)) : mD (d + 3) 148 [.ref 10, .int x1, .int x2] σ Q := by
  refine c_148 Z.mk (fun _ => q) (fun a b ha hb ea eb k1 k2 => ?_)
  exfalso
  have one : ∀ x, ¬ mdr σ x = 0 → xd σ x = 1 := fun x k => (Rm_dr Z.rm).mpr (by
    unfold mdr at k ⊢
    by_cases h1 : mi x 0 8 = 0
    · rw [if_pos h1] at k; exact absurd rfl k
    · rw [if_neg h1] at k ⊢
      by_cases h2 : σ 75 x.toNatClampNeg = 0
      · rw [if_pos h2] at k; exact absurd rfl k
      · rw [if_neg h2])
  rcases h with h | h
  · rw [one _ k1] at h; exact absurd h (by decide)
  · rw [one _ k2] at h; exact absurd h (by decide)
theorem wr_eq {σ : mm_S} {n m : Nat} {x : Int32} (Z : ZI σ n m) : ((mi x 0 (σ 10 34 - 1)) = 0 → f_3 σ x = -1) ∧ (¬ (mi x 0 (σ 10 34 - 1)) = 0 → f_3 σ x = σ 98 x.toNatClampNeg) := by
  obtain ⟨w, w9, e1, e2, e3⟩ := Z.wy
  unfold f_3 f_85
  rw [e1, e2]
  by_cases h1 : x < 0
  · have z : mi x 0 (nI w - 1) = 0 := by unfold mi; rw [if_pos h1]
    exact ⟨fun _ => by rw [if_pos h1], fun h => absurd z h⟩
  · rw [if_neg h1]
    have a := Int32.le_iff_toInt_le.mp (Int32.not_lt.mp h1)
    have c : (0 : Int32).toInt = 0 := by decide
    have ew : (nI w - 1).toInt = (w : Int) - 1 := pk_sub_toInt (a := w) (b := 1) (by omega) (by omega)
    by_cases h2 : nI w ≤ x
    · have b := Int32.le_iff_toInt_le.mp h2
      rw [nI_toInt (by omega)] at b
      have z : mi x 0 (nI w - 1) = 0 := by
        unfold mi
        rw [if_neg h1, if_pos (Int32.lt_iff_toInt_lt.mpr (by omega))]
      exact ⟨fun _ => by rw [if_pos h2], fun h => absurd z h⟩
    · rw [if_neg h2]
      have b := Int32.lt_iff_toInt_lt.mp (Int32.not_le.mp h2)
      rw [nI_toInt (by omega)] at b
      have z : ¬ mi x 0 (nI w - 1) = 0 := by
        unfold mi
        rw [if_neg h1, if_neg (fun y => by have := Int32.lt_iff_toInt_lt.mp y; omega)]
        decide
      refine ⟨fun h => absurd h z, fun _ => ?_⟩
      have ex : x = nI x.toInt.toNat := Int32.toInt_inj.mp (by rw [nI_toInt (by omega)]; omega)
      rw [ex, nI_clamp (by omega)]
      exact (e3 _ (by omega)).symm
theorem b0_b : ∀ r, r < 9 → ∀ v, v < 13 → ms_0 (50 + 1 + r) v = 0 := by decide +kernel
theorem b0_d : ∀ e, e < 21 → ms_0 45 e = 0 := by decide +kernel
theorem b0_w : ∀ j, j < 9 → ms_0 75 j = 0 ∧ ms_0 78 j = 1 ∧ ms_0 79 j = 1 := by decide +kernel
theorem b0_1 : ms_0 1 10 = nI 0 ∧ ms_0 1 11 = nI 0 ∧ ms_0 1 12 = nI 0 ∧ ms_0 1 9 = 0 ∧ ms_0 3 1 = 0 ∧ ms_0 10 6 = nI 0 ∧ ms_0 10 10 = 0 ∧ ms_0 9 1 = nI 0 ∧ ms_0 10 34 = nI 0 := by decide +kernel
theorem ZI_0i : ZI ms_0 0 0 := by
  obtain ⟨a10, a11, a12, a9, w3, m6, m10, y1, y2⟩ := b0_1
  have nx : ∀ j, j < 9 → ¬ xd ms_0 (nI j) = 1 := fun j hj h => by
    have := (xd_m (by decide) a10 hj).mp h
    rw [tb_0] at this
    exact absurd this (by decide)
  have nt : ∀ {j}, (0 : Nat).testBit j = true → False := fun h => by rw [tb_0] at h; exact absurd h (by decide)
  exact ⟨⟨by rw [a11, bcn_0], ⟨by decide, a10⟩, fun j hj => xd_m (by decide) a10 hj, fun j _ h => (nt h).elim, fun i j _ _ h => (nt h).elim, ⟨by decide, a12⟩, fun k hk => absurd hk (Nat.not_lt_zero k), fun i _ h => (nt h).elim, fun i j _ h => (nt h).elim⟩, ⟨Or.inl a9, fun h => absurd (a9.symm.trans h) (by decide)⟩, fun r v hr hv => ⟨0, by decide, b0_b r hr v hv⟩, fun e he => ⟨0, by decide, b0_d e he⟩, Or.inl w3, ⟨⟨by decide, m6⟩, fun k hk => absurd hk (Nat.not_lt_zero k), fun k _ hk => absurd hk (Nat.not_lt_zero k), Or.inl m10, fun h => absurd (m10.symm.trans h) (by decide)⟩, fun j hj => ⟨⟨fun h => absurd h (nx j hj), fun h => absurd (b0_w j hj).1 h⟩, fun h => absurd h (nx j hj)⟩, fun k hk => absurd hk (Nat.not_lt_zero k), ⟨by rw [m10, a9], fun h => absurd (a9.symm.trans h) (by decide)⟩, fun j hj => ⟨fun _ => (b0_w j hj).2, fun h => absurd (b0_w j hj).1 h⟩, fun k hk => absurd hk (Nat.not_lt_zero k), ⟨0, by decide, y1, y2, fun i hi => absurd hi (Nat.not_lt_zero i)⟩⟩
theorem ZI.jnn {σ : mm_S} {n m : Nat} (Z : ZI σ n m) : Jn σ n := by
  refine ⟨Z.ck.Jr, ⟨Z.mk.jn.1, Z.mk.jn.2, fun k hk => ?_⟩, fun a b ha hb => ?_⟩
  · obtain ⟨x, y, hx, hy, _, _, _, ex, ey⟩ := Z.mk.je k hk
    rw [ex, ey]
    exact ⟨pk_in x 9 hx, pk_in y 9 hy⟩
  · obtain ⟨i, hi, rfl⟩ := xd_1 ha
    obtain ⟨j, hj, rfl⟩ := xd_1 hb
    rw [nI_clamp (by omega), Gj_hs Z.ck hi ((Z.ck.dr i hi).mp ha) hj]
    constructor
    · rintro ⟨k, hk, h⟩
      refine ⟨k, hk, ?_⟩
      unfold mjn
      rw [(Z.jj k hk).1, (Z.jj k hk).2]
      exact h
    · rintro ⟨k, hk, h⟩
      refine ⟨k, hk, ?_⟩
      unfold mjn at h
      rw [(Z.jj k hk).1, (Z.jj k hk).2] at h
      exact h
end
