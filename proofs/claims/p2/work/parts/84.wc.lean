-- the class's way
def Gj (σ : mm_S) (n v u : Nat) : Prop := ∃ k, k < n ∧ ((σ 16 k = nI v ∧ σ 17 k = nI u) ∨ (σ 16 k = nI u ∧ σ 17 k = nI v))
theorem Gj_hs {σ : mm_S} {n m v u : Nat} (C : CK σ n m) (hv : v < 9) (dv : m.testBit v = true) (hu : u < 9) : hs (σ 15 v) (nI u) = 1 ↔ Gj σ n v u := by
  have h := C.ja v u hv dv
  unfold aj at h
  constructor
  · intro z
    obtain ⟨k, hk, h1, _⟩ := h.mp ⟨hu, z⟩
    exact ⟨k, hk, h1⟩
  · rintro ⟨k, hk, h1⟩
    exact (h.mpr ⟨k, hk, h1, hu⟩).2
theorem Gj_dr {σ : mm_S} {n m v u : Nat} (C : CK σ n m) (hv : v < 9) (g : Gj σ n v u) : m.testBit v = true := by
  obtain ⟨k, hk, h⟩ := g
  obtain ⟨a, b, ha, hb, _, ma, mb, ea, eb⟩ := C.je k hk
  rcases h with ⟨h, _⟩ | ⟨_, h⟩
  · rw [← nI9 ha hv (ea.symm.trans h)]; exact ma
  · rw [← nI9 hb hv (eb.symm.trans h)]; exact mb
theorem Gj_sy {σ : mm_S} {n v u : Nat} (g : Gj σ n v u) : Gj σ n u v := by
  obtain ⟨k, hk, h⟩ := g
  exact ⟨k, hk, h.symm⟩
theorem Rk_dr {σ : mm_S} {n m b : Nat} (C : CK σ n m) (db : m.testBit b = true) : ∀ k v, v < 9 → Rk (Gj σ n) b k v → m.testBit v = true := by
  intro k
  induction k with
  | zero => intro v _ h; rw [show v = b from h]; exact db
  | succ k ih =>
    intro v hv h
    rcases h with r | ⟨u, _, g, _⟩
    · exact ih v hv r
    · exact Gj_dr C hv g
theorem c_83 {d n m u l : Nat} {Q : mm_Q} {σ τ : mm_S} (C : CK σ n m) (h15 : τ 15 = σ 15) (hu : u < 9) (du : m.testBit u = true) (l1 : 1 ≤ l) (l9 : l ≤ 9) (el : τ 74 u = nI l)
    (q : ∀ ρ, (∀ c, c ≠ 74 → ρ c = τ c) → (∀ v, v < 9 → (Gj σ n u v → τ 74 v = 0 → ρ 74 v = nI (l + 1)) ∧ (¬ (Gj σ n u v ∧ τ 74 v = 0) → ρ 74 v = τ 74 v)) → Q none ρ) : mD (d + 3) 83 [.ref 9, .int (nI u)] τ Q := by
  refine ke_83 (kb_83_0 ?_)
  have cu : (nI u).toNatClampNeg = u := nI_clamp (by omega)
  refine lp_dn (P := fun w => ∀ ρ : mm_S, (∀ c, c ≠ 74 → ρ c = τ c) → (∀ v, v < 9 → (v < w → Gj σ n u v → τ 74 v = 0 → ρ 74 v = nI (l + 1)) ∧ (¬ (v < w ∧ Gj σ n u v ∧ τ 74 v = 0) → ρ 74 v = τ 74 v)) → mw (d + 2) mt_83 Q 2 [some (.ref 9), some (.int (nI u)), some (.int (nI w))] [] ρ) 9 ?_ ?_ 0 (by omega) τ (fun _ _ => rfl) (fun v _ => ⟨fun h => absurd h (Nat.not_lt_zero v), fun _ => rfl⟩)
  · intro ρ f1 f2
    exact kb_83_2 (fun _ => kb_83_49 (q ρ f1 (fun v hv => ⟨(f2 v hv).1 hv, fun h => (f2 v hv).2 (fun z => h z.2)⟩))) (fun g => absurd (by decide) g)
  · intro w hw ih ρ f1 f2
    have cw : (nI w).toNatClampNeg = w := nI_clamp (by omega)
    refine kb_83_2 (fun g => absurd g (hI_nle (a := 9) (by omega) hw)) (fun _ => kb_83_8 (c_10 (pk_in u 9 hu) ?_))
    rw [cu, f1 15 (by decide), h15]
    have same : ¬ (Gj σ n u w ∧ τ 74 w = 0) → mw (d + 2) mt_83 Q 2 [some (.ref 9), some (.int (nI u)), some (.int (nI w + 1))] [] ρ := fun no => by
      rw [nI_1]
      refine ih ρ f1 (fun v hv => ⟨fun h g z => ?_, fun h => (f2 v hv).2 (fun z => h ⟨by omega, z.2⟩)⟩)
      rcases Nat.lt_or_ge v w with c | c
      · exact (f2 v hv).1 c g z
      · have e : v = w := by omega
        subst e
        exact absurd ⟨g, z⟩ no
    have ow : ρ 74 w = τ 74 w := (f2 w hw).2 (fun z => Nat.lt_irrefl w z.1)
    have ou : ρ 74 u = nI l := by
      rw [(f2 u hu).2 (fun z => ?_), el]
      rw [el] at z
      exact nI_ne0 (by omega) (by omega) z.2.2
    refine kb_83_17 (fun g => kb_83_43 (same (fun z => ?_))) (fun g => kb_83_20 (pk_in w 9 hw) (fun z => kb_83_29 (pk_in u 9 hu) (pk_in w 9 hw) ?_) (fun z => kb_83_43 (same (fun y => z ?_))))
    · rw [(Gj_hs C hu du hw).mpr z.1] at g; exact absurd g (by decide)
    · rw [cw] at z ⊢
      rw [cu, ou, nI_1, nI_1]
      have gw : Gj σ n u w := (Gj_hs C hu du hw).mp ((hs_01 _ _).resolve_left g)
      refine ih _ (fun c hc => by rw [mm_up_n hc]; exact f1 c hc) (fun v hv => ?_)
      rw [up_v]
      by_cases e : v = w
      · rw [if_pos e]
        exact ⟨fun _ _ _ => rfl, fun h => absurd ⟨by omega, by rw [e]; exact gw, by rw [e, ← ow]; exact z⟩ h⟩
      · rw [if_neg e]
        exact ⟨fun h => (f2 v hv).1 (by omega), fun h => (f2 v hv).2 (fun y => h ⟨by omega, y.2⟩)⟩
    · rw [cw, ow]; exact y.2
def LL (σ τ : mm_S) (n b l : Nat) : Prop := ∀ v, v < 9 → (∃ k, k < l ∧ Ds (Gj σ n) b v k ∧ τ 74 v = nI (k + 1)) ∨ ((∀ k, k < l → ¬ Rk (Gj σ n) b k v) ∧ τ 74 v = 0)
theorem c_82 {d n m b : Nat} {Q : mm_Q} {σ : mm_S} (C : CK σ n m) (hb : b < 9) (db : m.testBit b = true) (q : ∀ τ, (∀ c, c ≠ 74 → τ c = σ c) → LL σ τ n b 9 → Q none τ) : mD (d + 4) 82 [.ref 9, .int (nI b)] σ Q := by
  have cb : (nI b).toNatClampNeg = b := nI_clamp (by omega)
  refine ke_82 (kb_82_0 ?_)
  refine lp_dn (P := fun i => ∀ τ : mm_S, (∀ c, c ≠ 74 → τ c = σ c) → (∀ v, v < i → τ 74 v = 0) → mw (d + 3) mt_82 Q 2 [some (.ref 9), some (.int (nI b)), some (.int (nI i)), none] [] τ) 9 ?_ ?_ 0 (by omega) σ (fun _ _ => rfl) (fun v hv => absurd hv (Nat.not_lt_zero v))
  · intro τ f1 f0
    refine kb_82_2 (fun _ => kb_82_21 (pk_in b 9 hb) ?_) (fun g => absurd (by decide) g)
    rw [cb]
    have L1 : LL σ (mm_up τ 74 b 1) n b 1 := fun v hv => by
      rw [up_v]
      by_cases e : v = b
      · rw [if_pos e]; exact Or.inl ⟨0, by omega, ⟨e, fun i hi => absurd hi (Nat.not_lt_zero i)⟩, rfl⟩
      · rw [if_neg e]
        refine Or.inr ⟨fun k hk => ?_, f0 v hv⟩
        have : k = 0 := by omega
        subst this
        exact e
    refine lp_dn (P := fun i => ∀ (τ : mm_S) o3, (∀ c, c ≠ 74 → τ c = σ c) → LL σ τ n b (i + 1) → mw (d + 3) mt_82 Q 30 [some (.ref 9), some (.int (nI b)), some (.int (nI (i + 1))), o3] [] τ) 8 ?_ ?_ 0 (by omega) _ none (fun c hc => by rw [mm_up_n hc]; exact f1 c hc) L1
    · intro τ o3 f1 L
      exact kb_82_30 (fun _ => kb_82_71 (q τ f1 L)) (fun g => absurd (by decide) g)
    · intro l hl ih τ o3 f1 L
      refine kb_82_30 (fun g => absurd g (hI_nle (a := 9) (by omega) (by omega))) (fun _ => kb_82_36 ?_)
      -- one level: rooms u below i are done
      refine lp_dn (P := fun i => ∀ ρ : mm_S, (∀ c, c ≠ 74 → ρ c = σ c) → (∀ v, v < 9 → (∃ k, k < l + 1 ∧ Ds (Gj σ n) b v k ∧ ρ 74 v = nI (k + 1)) ∨ ((∀ k, k < l + 1 → ¬ Rk (Gj σ n) b k v) ∧ ((ρ 74 v = nI (l + 2) ∧ ∃ u, u < 9 ∧ Gj σ n v u ∧ Rk (Gj σ n) b l u) ∨ (ρ 74 v = 0 ∧ ∀ u, u < i → Gj σ n v u → ¬ Rk (Gj σ n) b l u)))) → mw (d + 3) mt_82 Q 38 [some (.ref 9), some (.int (nI b)), some (.int (nI (l + 1))), some (.int (nI i))] [] ρ) 9 ?_ ?_ 0 (by omega) τ f1 (fun v hv => ?_)
      · intro ρ r1 r2
        refine kb_82_38 (fun _ => kb_82_65 ?_) (fun g => absurd (by decide) g)
        rw [nI_1]
        refine ih ρ _ r1 (fun v hv => ?_)
        rcases r2 v hv with ⟨k, hk, hd, e⟩ | ⟨hn, ⟨e, u, u9, g, ru⟩ | ⟨e, hu⟩⟩
        · exact Or.inl ⟨k, by omega, hd, e⟩
        · exact Or.inl ⟨l + 1, by omega, ⟨Or.inr ⟨u, u9, g, ru⟩, fun i hi => hn i (by omega)⟩, e⟩
        · refine Or.inr ⟨fun k hk => ?_, e⟩
          rcases Nat.lt_or_ge k (l + 1) with c | c
          · exact hn k c
          · have : k = l + 1 := by omega
            subst this
            rintro (r | ⟨u, u9, g, r⟩)
            · exact hn l (by omega) r
            · exact hu u u9 g r
      · intro i hi ihi ρ r1 r2
        have ci : (nI i).toNatClampNeg = i := nI_clamp (by omega)
        refine kb_82_38 (fun g => absurd g (hI_nle (a := 9) (by omega) hi)) (fun _ => kb_82_44 (pk_in i 9 hi) (fun g => kb_82_54 ?_) (fun g => kb_82_59 ?_))
        · rw [ci] at g
          have Ri : Rk (Gj σ n) b l i := by
            rcases r2 i hi with ⟨k, hk, hd, e⟩ | ⟨hn, ⟨e, _⟩ | ⟨e, _⟩⟩
            · have : k + 1 = l + 1 := (nI_eq (by omega) (by omega)).mp (e.symm.trans g)
              have : k = l := by omega
              subst this
              exact hd.1
            · have : l + 2 = l + 1 := (nI_eq (by omega) (by omega)).mp (e.symm.trans g)
              omega
            · exact absurd (g.symm.trans e) (nI_ne0 (by omega) (by omega))
          refine c_83 C (r1 15 (by decide)) hi (Rk_dr C db l i hi Ri) (by omega) (by omega) g (fun ρ' s1 s2 => kb_82_59 ?_)
          rw [nI_1]
          refine ihi ρ' (fun c hc => by rw [s1 c hc]; exact r1 c hc) (fun v hv => ?_)
          rcases r2 v hv with ⟨k, hk, hd, e⟩ | ⟨hn, ⟨e, u, u9, g', ru⟩ | ⟨e, hu⟩⟩
          · refine Or.inl ⟨k, hk, hd, ?_⟩
            rw [(s2 v hv).2 (fun z => ?_), e]
            rw [e] at z
            exact nI_ne0 (by omega) (by omega) z.2
          · refine Or.inr ⟨hn, Or.inl ⟨?_, u, u9, g', ru⟩⟩
            rw [(s2 v hv).2 (fun z => ?_), e]
            rw [e] at z
            exact nI_ne0 (by omega) (by omega) z.2
          · by_cases gi : Gj σ n i v
            · exact Or.inr ⟨hn, Or.inl ⟨(s2 v hv).1 gi e, i, hi, Gj_sy gi, Ri⟩⟩
            · refine Or.inr ⟨hn, Or.inr ⟨by rw [(s2 v hv).2 (fun z => gi z.1)]; exact e, fun u hu' g' => ?_⟩⟩
              rcases Nat.lt_or_ge u i with c | c
              · exact hu u c g'
              · have : u = i := by omega
                subst this
                exact absurd (Gj_sy g') gi
        · rw [nI_1]
          rw [ci] at g
          refine ihi ρ r1 (fun v hv => ?_)
          rcases r2 v hv with h | ⟨hn, h | ⟨e, hu⟩⟩
          · exact Or.inl h
          · exact Or.inr ⟨hn, Or.inl h⟩
          · refine Or.inr ⟨hn, Or.inr ⟨e, fun u hu' g' r => ?_⟩⟩
            rcases Nat.lt_or_ge u i with c | c
            · exact hu u c g' r
            · have : u = i := by omega
              subst this
              rcases r2 u hi with ⟨k, hk, hd, e'⟩ | ⟨hn', _⟩
              · -- k = l
                rcases Nat.lt_or_ge k l with c' | c'
                · exact hn (k + 1) (by omega) (Or.inr ⟨u, hi, g', hd.1⟩)
                · have : k = l := by omega
                  subst this
                  exact g e'
              · exact hn' l (by omega) r
      · rcases L v hv with h | ⟨h, e⟩
        · exact Or.inl h
        · exact Or.inr ⟨h, Or.inr ⟨e, fun u hu => absurd hu (Nat.not_lt_zero u)⟩⟩
  · intro i hi ih τ f1 f0
    refine kb_82_2 (fun g => absurd g (hI_nle (a := 9) (by omega) hi)) (fun _ => kb_82_8 (pk_in i 9 hi) ?_)
    rw [nI_1, nI_clamp (by omega)]
    refine ih _ (fun c hc => by rw [mm_up_n hc]; exact f1 c hc) (fun v hv => ?_)
    rw [up_v]
    split
    · rfl
    · exact f0 v (by omega)
theorem Ds_pth {G : Nat → Nat → Prop} {b : Nat} : ∀ D a, a < 9 → Ds G b a D → ∃ p : Nat → Nat, p 0 = a ∧ (∀ i, i < D → Lst (stp G b (p i) (D - 1 - i)) (p (i + 1))) ∧ ∀ i, i ≤ D → p i < 9 ∧ Ds G b (p i) (D - i) := by
  intro D
  induction D with
  | zero => intro a ha h; exact ⟨fun _ => a, rfl, fun i hi => absurd hi (Nat.not_lt_zero i), fun i hi => ⟨ha, by rw [show 0 - i = 0 by omega]; exact h⟩⟩
  | succ D ih =>
    intro a ha h
    obtain ⟨u, u9, g, hu⟩ := Ds_dn h
    obtain ⟨u', hu', hm⟩ := ex_min (P := stp G b a D) ⟨u, u9, g, hu⟩
    obtain ⟨p, p0, p1, p2⟩ := ih u' hu'.1 hu'.2.2
    refine ⟨fun i => if i = 0 then a else p (i - 1), rfl, fun i hi => ?_, fun i hi => ?_⟩
    · match i with
      | 0 =>
        show Lst (stp G b a (D + 1 - 1 - 0)) (p 0)
        rw [p0]
        exact ⟨hu', hm⟩
      | i + 1 =>
        show Lst (stp G b (p i) (D + 1 - 1 - (i + 1))) (p (i + 1))
        rw [show D + 1 - 1 - (i + 1) = D - 1 - i by omega]
        exact p1 i (by omega)
    · match i with
      | 0 => exact ⟨ha, h⟩
      | i + 1 =>
        show p i < 9 ∧ Ds G b (p i) (D + 1 - (i + 1))
        rw [show D + 1 - (i + 1) = D - i by omega]
        exact p2 i (by omega)
theorem c_84 {d n m v : Nat} {Q : mm_Q} {σ τ : mm_S} (C : CK σ n m) (h15 : τ 15 = σ 15) (hv : v < 9) (dv : m.testBit v = true)
    (q1 : ∀ u, Lst (fun u => u < 9 ∧ Gj σ n v u ∧ τ 74 u = τ 74 v - 1) u → Q (some (.int (nI u))) τ) (q0 : (∀ u, u < 9 → Gj σ n v u → ¬ τ 74 u = τ 74 v - 1) → Q (some (.int (nI v))) τ) : mD (d + 3) 84 [.ref 9, .int (nI v)] τ Q := by
  have cv : (nI v).toNatClampNeg = v := nI_clamp (by omega)
  refine ke_84 (kb_84_0 ?_)
  refine lp_dn (P := fun u => (∀ i, i < u → ¬ (i < 9 ∧ Gj σ n v i ∧ τ 74 i = τ 74 v - 1)) → mw (d + 2) mt_84 Q 2 [some (.ref 9), some (.int (nI v)), some (.int (nI u))] [] τ) 9 ?_ ?_ 0 (by omega) (fun i hi => absurd hi (Nat.not_lt_zero i))
  · intro h
    exact kb_84_2 (fun _ => kb_84_45 (q0 (fun u hu g e => h u hu ⟨hu, g, e⟩))) (fun g => absurd (by decide) g)
  · intro u hu ih h
    have cu : (nI u).toNatClampNeg = u := nI_clamp (by omega)
    have nx : ¬ (u < 9 ∧ Gj σ n v u ∧ τ 74 u = τ 74 v - 1) → mw (d + 2) mt_84 Q 39 [some (.ref 9), some (.int (nI v)), some (.int (nI u))] [] τ := fun no => by
      refine kb_84_39 ?_
      rw [nI_1]
      refine ih (fun i hi => ?_)
      rcases Nat.lt_or_ge i u with c | c
      · exact h i c
      · have : i = u := by omega
        subst this
        exact no
    refine kb_84_2 (fun g => absurd g (hI_nle (a := 9) (by omega) hu)) (fun _ => kb_84_8 (c_10 (pk_in v 9 hv) ?_))
    rw [cv, h15]
    refine kb_84_17 (fun g => nx (fun z => ?_)) (fun g => kb_84_20 (pk_in u 9 hu) (pk_in v 9 hv) (fun z => kb_84_37 (q1 u ⟨⟨hu, (Gj_hs C hv dv hu).mp ((hs_01 _ _).resolve_left g), ?_⟩, h⟩)) (fun z => nx (fun y => z ?_)))
    · rw [(Gj_hs C hv dv hu).mpr z.2.1] at g; exact absurd g (by decide)
    · rw [cu, cv] at z; exact z
    · rw [cu, cv]; exact y.2.2
theorem LL_v {σ τ : mm_S} {n b v k : Nat} (L : LL σ τ n b 9) (hv : v < 9) (h : Ds (Gj σ n) b v k) : τ 74 v = nI (k + 1) := by
  rcases L v hv with ⟨k', _, hd, e⟩ | ⟨hn, _⟩
  · rw [Ds_u h hd]; exact e
  · exact absurd h.1 (hn k (by have := Ds_8 hv h; omega))
theorem LL_i {σ τ : mm_S} {n b v k : Nat} (L : LL σ τ n b 9) (hv : v < 9) (hk : k ≤ 9) (h : τ 74 v = nI (k + 1)) : Ds (Gj σ n) b v k := by
  rcases L v hv with ⟨k', hk', hd, e⟩ | ⟨_, e⟩
  · have : k' + 1 = k + 1 := (nI_eq (by omega) (by omega)).mp (e.symm.trans h)
    have : k' = k := by omega
    subst this
    exact hd
  · exact absurd (h.symm.trans e) (nI_ne0 (by omega) (by omega))
theorem c_81 {d n m a b : Nat} {Q : mm_Q} {σ : mm_S} (C : CK σ n m) (ha : a < 9) (hb : b < 9) (db : m.testBit b = true)
    (q : ∀ τ w, (∀ c, c ≠ 9 → c ≠ 73 → c ≠ 74 → τ c = σ c) → w ≤ 9 → τ 9 1 = nI w → WP (Gj σ n) b a w (τ 73) → Q (some (.int (nI w))) τ) : mD (d + 5) 81 [.ref 9, .int (nI a), .int (nI b)] σ Q := by
  have ca : (nI a).toNatClampNeg = a := nI_clamp (by omega)
  refine ke_81 (kb_81_0 (c_82 C hb db (fun τ f1 L => kb_81_5 (pk_in a 9 ha) ?_)))
  rw [ca]
  rcases L a ha with ⟨D, hD, dD, e⟩ | ⟨hn, e⟩
  · rw [e]
    obtain ⟨p, p0, p1, p2⟩ := Ds_pth D a ha dD
    have main : ∀ i, i ≤ D + 1 → ∀ (x3 : Int32) (ρ : mm_S), (i ≤ D → x3 = nI (p i)) → (∀ c, c ≠ 9 → c ≠ 73 → ρ c = τ c) → ρ 9 1 = nI (D + 1) → (∀ k, k < i → ρ 73 k = nI (p k)) → mw (d + 4) mt_81 Q 20 [some (.ref 9), some (.int (nI a)), some (.int (nI b)), some (.int x3), some (.int (nI i))] [] ρ := by
      refine lp_dn (P := fun i => ∀ (x3 : Int32) (ρ : mm_S), (i ≤ D → x3 = nI (p i)) → (∀ c, c ≠ 9 → c ≠ 73 → ρ c = τ c) → ρ 9 1 = nI (D + 1) → (∀ k, k < i → ρ 73 k = nI (p k)) → mw (d + 4) mt_81 Q 20 [some (.ref 9), some (.int (nI a)), some (.int (nI b)), some (.int x3), some (.int (nI i))] [] ρ) (D + 1) ?_ ?_
      · intro x3 ρ _ r1 r9 r73
        refine kb_81_20 (fun _ => kb_81_49 ?_) (fun g => absurd (by rw [r9]; exact hI_le (by omega) (Nat.le_refl _)) g)
        rw [r9]
        exact q ρ (D + 1) (fun c h1 h2 h3 => by rw [r1 c h1 h2]; exact f1 c h3) (by omega) r9 (Or.inr ⟨D, rfl, by omega, dD, p, r73, p0, p1⟩)
      · intro i hi ih x3 ρ hx r1 r9 r73
        have hx' := hx (by omega)
        subst hx'
        obtain ⟨pi9, dpi⟩ := p2 i (by omega)
        refine kb_81_20 (fun g => absurd g (by rw [r9]; exact hI_nle (by omega) (by omega))) (fun _ => kb_81_29 (pk_in i 9 (by omega)) ?_)
        rw [nI_clamp (by omega)]
        have s74 : (mm_up ρ 73 i (nI (p i))) 74 = τ 74 := by rw [mm_up_n (by decide), r1 74 (by decide) (by decide)]
        have nx : ∀ x, (i + 1 ≤ D → x = nI (p (i + 1))) → mw (d + 4) mt_81 Q 42 [some (.ref 9), some (.int (nI a)), some (.int (nI b)), some (.int (nI (p i))), some (.int (nI i))] [.int x] (mm_up ρ 73 i (nI (p i))) := fun x hx => by
          refine kb_81_42 ?_
          rw [nI_1]
          refine ih x _ hx (fun c h1 h2 => by rw [mm_up_n h2]; exact r1 c h1 h2) (by rw [mm_up_n (by decide)]; exact r9) (fun k hk => ?_)
          rw [up_v]
          by_cases e : k = i
          · rw [if_pos e, e]
          · rw [if_neg e]; exact r73 k (by omega)
        have dp : m.testBit (p i) = true := Rk_dr C db _ (p i) pi9 dpi.1
        have e15 : (mm_up ρ 73 i (nI (p i))) 15 = σ 15 := by rw [mm_up_n (by decide), r1 15 (by decide) (by decide)]; exact f1 15 (by decide)
        have lv : (mm_up ρ 73 i (nI (p i))) 74 (p i) = nI (D - i + 1) := by rw [s74]; exact LL_v L pi9 dpi
        have sub1 : nI (D - i + 1) - 1 = nI (D - i) := nI_sub (b := 1) (by omega)
        refine c_84 C e15 pi9 dp (fun u hu => nx _ (fun hD' => ?_)) (fun no => nx _ (fun hD' => ?_))
        · have : u = p (i + 1) := by
            refine Lst_u (P := stp (Gj σ n) b (p i) (D - 1 - i)) ?_ (p1 i (by omega))
            obtain ⟨⟨u9, g, eu⟩, um⟩ := hu
            rw [lv, s74, sub1, show D - i = (D - 1 - i) + 1 by omega] at eu
            refine ⟨⟨u9, g, LL_i L u9 (by omega) eu⟩, fun k hk hs => um k hk ⟨hs.1, hs.2.1, ?_⟩⟩
            rw [lv, s74, sub1, show D - i = (D - 1 - i) + 1 by omega]
            exact LL_v L hs.1 hs.2.2
          rw [this]
        · exfalso
          have hs := (p1 i (by omega)).1
          refine no (p (i + 1)) hs.1 hs.2.1 ?_
          rw [lv, s74, sub1, show D - i = (D - 1 - i) + 1 by omega]
          exact LL_v L hs.1 hs.2.2
    exact main 0 (by omega) _ _ (fun _ => by rw [p0]) (fun c h1 _ => mm_up_n h1) mm_up_s (fun k hk => absurd hk (Nat.not_lt_zero k))
  · rw [e]
    refine kb_81_20 (fun _ => kb_81_49 ?_) (fun g => absurd (by rw [mm_up_s]; decide) g)
    rw [mm_up_s]
    exact q _ 0 (fun c h1 _ h3 => by rw [mm_up_n h1]; exact f1 c h3) (by omega) mm_up_s (Or.inl ⟨rfl, fun k r => hn 8 (by omega) (Rk_8 ha r)⟩)
