section
-- what is linked: the reference's linkAll gives the class's neighbours
theorem c_118s {d L pl p0 c0 : Nat} {Q : mm_Q} {τ : mm_S} {o : Nat → Nat} (l1 : 1 ≤ L) (l9 : L ≤ 9) (e15 : τ 10 15 = nI L) (ol : ∀ k, k < L → o k < 9 ∧ τ 85 k = nI (o k)) (dis : ∀ i j, i < j → j < L → o i ≠ o j) (c9 : c0 < 9) (e83 : τ 83 0 = nI c0) (hp0 : p0 < L) (op0 : o p0 = c0) (hpl : pl ≤ 43) (q : Q (some (.int (nI (o ((p0 + pl) % L))))) τ) : mD (d + 1) 118 [.ref 10, .int (nI pl)] τ Q := by
  have z0 : (0 : Int32).toNatClampNeg = 0 := by decide
  have ml : (p0 + pl) % L < L := Nat.mod_lt _ (by omega)
  refine ke_118 (kb_118_0 ?_)
  refine lp_dn (P := fun i => mw d mt_118 Q 2 [some (.ref 10), some (.int (nI pl)), some (.int (nI i))] [] τ) p0 ?_ ?_ 0 (Nat.zero_le _)
  · refine kb_118_2 (pk_in p0 48 (by omega)) (pk_in 0 4 (by decide)) (fun _ => ?_) (fun z => absurd ?_ z)
    · have e : nI p0 + nI pl - (nI p0 + nI pl) / τ 10 15 * τ 10 15 = nI ((p0 + pl) % L) := by rw [e15, nI_add]; exact rem_n0 L (by omega) (by omega) _ (by omega)
      refine kb_118_23 (by rw [e15]; exact nI_ne0 (by omega) (by omega)) (by rw [e]; exact pk_in ((p0 + pl) % L) 48 (by omega)) ?_
      rw [e, nI_clamp (show (p0 + pl) % L < 2 ^ 31 by omega), (ol _ ml).2]
      exact q
    · rw [nI_clamp (by omega), z0, (ol _ hp0).2, op0, e83]
  · intro i hi ih
    refine kb_118_2 (pk_in i 48 (by omega)) (pk_in 0 4 (by decide)) (fun z => ?_) (fun _ => kb_118_17 (by rw [nI_1]; exact ih))
    rw [nI_clamp (by omega), z0, (ol i (by omega)).2, e83, ← op0] at z
    exact absurd (nI9 (ol i (by omega)).1 (ol _ hp0).1 z) (dis i p0 hi hp0)
def LKm (τ : mm_S) (R : Nat → Nat → Prop) : Prop := ∀ v, v < 13 → ∃ x, x < 8192 ∧ τ 91 v = nI x ∧ ∀ w, (x.testBit w = true ↔ R v w)
theorem LKm_cg {τ : mm_S} {R R' : Nat → Nat → Prop} (h : ∀ v w, R v w ↔ R' v w) (K : LKm τ R) : LKm τ R' := fun v hv => by
  obtain ⟨x, x1, x2, x3⟩ := K v hv
  exact ⟨x, x1, x2, fun w => (x3 w).trans (h v w)⟩
theorem c_119s {d a b : Nat} {Q : mm_Q} {τ : mm_S} {R : Nat → Nat → Prop} (ha : a < 13) (hb : b < 13) (hab : a ≠ b) (K : LKm τ R) (q : ∀ τ', (∀ c, c ≠ 91 → τ' c = τ c) → LKm τ' (fun v w => R v w ∨ (v = a ∧ w = b) ∨ (v = b ∧ w = a)) → Q none τ') : mD (d + 1) 119 [.ref 10, .int (nI a), .int (nI b)] τ Q := by
  refine ke_119 (kb_119_0 (pk_in a 13 ha) (pk_in a 13 ha) (pk_in b 13 hb) (pk_in b 13 hb) (q _ (fun c h => by rw [mm_up_n h, mm_up_n h]) (fun v hv => ?_)))
  rw [nI_clamp (show a < 2 ^ 31 by omega), nI_clamp (show b < 2 ^ 31 by omega), one_sh (by omega), one_sh (by omega), mm_up_o (show b ≠ a by omega)]
  obtain ⟨x, x1, x2, x3⟩ := K a ha
  obtain ⟨y, y1, y2, y3⟩ := K b hb
  rw [x2, y2, or_bit, or_bit]
  by_cases ev : v = b
  · subst ev
    refine ⟨y ||| 2 ^ a, Nat.or_lt_two_pow (n := 13) y1 (Nat.pow_lt_pow_right (by decide) ha), mm_up_s, fun w => ?_⟩
    rw [tb_or, y3]
    constructor
    · rintro (h | h)
      · exact Or.inl h
      · exact Or.inr (Or.inr ⟨rfl, h⟩)
    · rintro (h | ⟨h, _⟩ | ⟨_, h⟩)
      · exact Or.inl h
      · exact absurd h.symm hab
      · exact Or.inr h
  · rw [mm_up_o ev]
    by_cases eu : v = a
    · subst eu
      refine ⟨x ||| 2 ^ b, Nat.or_lt_two_pow (n := 13) x1 (Nat.pow_lt_pow_right (by decide) hb), mm_up_s, fun w => ?_⟩
      rw [tb_or, x3]
      constructor
      · rintro (h | h)
        · exact Or.inl h
        · exact Or.inr (Or.inl ⟨rfl, h⟩)
      · rintro (h | ⟨_, h⟩ | ⟨h, _⟩)
        · exact Or.inl h
        · exact Or.inr h
        · exact absurd h hab
    · rw [mm_up_o eu]
      obtain ⟨z, z1, z2, z3⟩ := K v hv
      refine ⟨z, z1, z2, fun w => ?_⟩
      rw [z3]
      constructor
      · exact Or.inl
      · rintro (h | ⟨h, _⟩ | ⟨h, _⟩)
        · exact h
        · exact absurd h eu
        · exact absurd h ev
def RJ (σ : mm_S) (k v w : Nat) : Prop := ∃ k', k' < k ∧ v < 9 ∧ w < 9 ∧ ((σ 80 k' = nI v ∧ σ 81 k' = nI w) ∨ (σ 80 k' = nI w ∧ σ 81 k' = nI v))
def SDl (L : Nat) (o p : Nat → Nat) (s x v w : Nat) : Prop := ∃ y, frm L p s ≤ y ∧ y < x ∧ ((v = 9 + s ∧ w = o ((p 0 + y) % L)) ∨ (w = 9 + s ∧ v = o ((p 0 + y) % L)))
def RQ (σ : mm_S) (n L : Nat) (o p : Nat → Nat) (s v w : Nat) : Prop := RJ σ n v w ∨ ∃ s', s' < s ∧ (SDl L o p s' (tom L p s' + 1) v w ∨ (v = 9 + s' ∧ w = 9 + (s' + 1) % 4) ∨ (w = 9 + s' ∧ v = 9 + (s' + 1) % 4))
theorem ring4 : ∀ s, s < 4 → ∀ s', s' < 4 → ((s' = (s + 1) % 4 ∨ s = (s' + 1) % 4) ↔ (s' = nx4 s ∨ s' = pv4 s)) := by decide
theorem RQ_NB {σ : mm_S} {n m L : Nat} {o p K : Nat → Nat} (Z : ZI σ n m) (l1 : 1 ≤ L) (o9 : ∀ k, k < L → o k < 9) (lay : ∀ s, s < 4 → (p 0 + frm L p s) % L = p s ∧ tom L p s = frm L p s + st L p s ∧ tom L p s ≤ L) (hK : ∀ v, v < 13 → K v < 8192 ∧ ∀ w, ((K v).testBit w = true ↔ RQ σ n L o p 4 v w)) : NB σ m o p L (fun s => st L p s + 1) K := by
  have ro : ∀ y, o ((p 0 + y) % L) < 9 := fun y => o9 _ (Nat.mod_lt _ (by omega))
  have sd : ∀ s v, s < 4 → v < 9 → ((∃ y, frm L p s ≤ y ∧ y < tom L p s + 1 ∧ v = o ((p 0 + y) % L)) ↔ onp o p L s (st L p s + 1) v) := fun s v hs hv => by
    obtain ⟨a1, a2, a3⟩ := lay s hs
    have ps : p s % L = p s := by rw [← a1, Nat.mod_mod]
    have key : ∀ i, (p 0 + (frm L p s + i)) % L = (p s + i) % L := fun i => by
      rw [show p 0 + (frm L p s + i) = (p 0 + frm L p s) + i by omega, Nat.add_mod (p 0 + frm L p s) i, a1, Nat.add_mod (p s) i, ps]
    constructor
    · rintro ⟨y, h1, h2, h3⟩
      refine ⟨y - frm L p s, by omega, ?_⟩
      rw [← key, show frm L p s + (y - frm L p s) = y by omega]; exact h3.symm
    · rintro ⟨i, h1, h2⟩
      exact ⟨frm L p s + i, by omega, by omega, by rw [key]; exact h2.symm⟩
  refine ⟨fun v hv => (hK v hv).1, fun v w hv hw => ?_, fun v s hv hs => ?_, fun s w hs hw => ?_, fun s s' hs hs' => ?_⟩
  · rw [(hK v (by omega)).2]
    constructor
    · rintro (⟨k, hk, _, _, h⟩ | ⟨s', _, ⟨y, _, _, h⟩ | h | h⟩)
      · obtain ⟨a, b, ha, hb, _, ma, mb, e1, e2⟩ := Z.ck.je k hk
        obtain ⟨j1, j2⟩ := Z.jj k hk
        have mv : m.testBit v = true := by
          rcases h with ⟨x, y⟩ | ⟨x, y⟩
          · rw [nI9 hv ha (x.symm.trans (j1.trans e1))]; exact ma
          · rw [nI9 hv hb (y.symm.trans (j2.trans e2))]; exact mb
        refine ⟨mv, (Z.ck.ja v w hv mv).mpr ⟨k, hk, ?_, hw⟩⟩
        rw [← j1, ← j2]; exact h
      · omega
      · omega
      · omega
    · rintro ⟨mv, h⟩
      obtain ⟨k, hk, e, _⟩ := (Z.ck.ja v w hv mv).mp h
      obtain ⟨j1, j2⟩ := Z.jj k hk
      exact Or.inl ⟨k, hk, hv, hw, by rw [j1, j2]; exact e⟩
  · rw [(hK v (by omega)).2, ← sd s v hs hv]
    constructor
    · rintro (⟨k, hk, _, h, _⟩ | ⟨s', hs', ⟨y, y1, y2, h⟩ | h | h⟩)
      · omega
      · rcases h with ⟨h, _⟩ | ⟨h, h'⟩
        · omega
        · have : s' = s := by omega
          subst this
          exact ⟨y, y1, y2, h'⟩
      · omega
      · omega
    · rintro ⟨y, y1, y2, h⟩
      exact Or.inr ⟨s, hs, Or.inl ⟨y, y1, y2, Or.inr ⟨rfl, h⟩⟩⟩
  · rw [(hK _ (by omega)).2, ← sd s w hs hw]
    constructor
    · rintro (⟨k, hk, h, _⟩ | ⟨s', hs', ⟨y, y1, y2, h⟩ | h | h⟩)
      · omega
      · rcases h with ⟨h, h'⟩ | ⟨h, _⟩
        · have : s' = s := by omega
          subst this
          exact ⟨y, y1, y2, h'⟩
        · omega
      · omega
      · omega
    · rintro ⟨y, y1, y2, h⟩
      exact Or.inr ⟨s, hs, Or.inl ⟨y, y1, y2, Or.inl ⟨rfl, h⟩⟩⟩
  · rw [(hK _ (by omega)).2, ← ring4 s hs s' hs']
    constructor
    · rintro (⟨k, hk, h, _⟩ | ⟨s'', hs'', ⟨y, y1, y2, h⟩ | h | h⟩)
      · omega
      · have := ro y
        rcases h with ⟨_, h⟩ | ⟨_, h⟩ <;> omega
      · exact Or.inl (by have : s'' = s := by omega
                         subst this; omega)
      · exact Or.inr (by have : s'' = s' := by omega
                         subst this; omega)
    · rintro (h | h)
      · exact Or.inr ⟨s, hs, Or.inr (Or.inl ⟨rfl, by omega⟩)⟩
      · exact Or.inr ⟨s', hs', Or.inr (Or.inr ⟨rfl, by omega⟩)⟩
theorem c_120s {d n m L c0 : Nat} {Q : mm_Q} {σ τ : mm_S} {o p : Nat → Nat} (Z : ZI σ n m) (t6 : τ 10 6 = σ 10 6) (t80 : τ 80 = σ 80) (t81 : τ 81 = σ 81) (l1 : 1 ≤ L) (l9 : L ≤ 9) (e15 : τ 10 15 = nI L) (ol : ∀ k, k < L → o k < 9 ∧ τ 85 k = nI (o k)) (dis : ∀ i j, i < j → j < L → o i ≠ o j) (c9 : c0 < 9) (e83 : τ 83 0 = nI c0) (hp0 : p 0 < L) (op0 : o (p 0) = c0) (h92 : ∀ s, s < 4 → τ 92 s = nI (frm L p s) ∧ τ 93 s = nI (tom L p s)) (lay : ∀ s, s < 4 → (p 0 + frm L p s) % L = p s ∧ tom L p s = frm L p s + st L p s ∧ tom L p s ≤ L)
    (q : ∀ τ' K, (∀ c, c ≠ 91 → τ' c = τ c) → (∀ v, v < 13 → τ' 91 v = nI (K v)) → NB σ m o p L (fun s => st L p s + 1) K → Q none τ') : mD (d + 2) 120 [.ref 10] τ Q := by
  have M := Z.mk
  have n21 := M.jn.1
  have ro : ∀ y, o ((p 0 + y) % L) < 9 := fun y => (ol _ (Nat.mod_lt _ (by omega))).1
  refine ke_120 (kb_120_0 ?_)
  refine lp_dn (P := fun k => ∀ ρ : mm_S, (∀ c, c ≠ 91 → ρ c = τ c) → (∀ v, v < k → ρ 91 v = 0) → mw (d + 1) mt_120 Q 2 [some (.ref 10), some (.int (nI k)), none] [] ρ) 13 ?_ ?_ 0 (by omega) τ (fun _ _ => rfl) (fun v h => absurd h (Nat.not_lt_zero v))
  · intro ρ fr z91
    refine kb_120_2 (fun _ => kb_120_21 ?_) (fun g => absurd (by decide) g)
    refine lp_dn (P := fun k => ∀ ρ : mm_S, (∀ c, c ≠ 91 → ρ c = τ c) → LKm ρ (RJ σ k) → mw (d + 1) mt_120 Q 23 [some (.ref 10), some (.int (nI k)), none] [] ρ) n ?_ ?_ 0 (Nat.zero_le n) ρ fr (fun v hv => ⟨0, by decide, z91 v hv, fun w => ⟨fun h => absurd h (by simp), fun ⟨k', h, _⟩ => absurd h (Nat.not_lt_zero k')⟩⟩)
    · intro ρ fr lk
      have e6 : ρ 10 6 = nI n := by rw [fr 10 (by decide), t6]; exact M.jn.2
      refine kb_120_23 (fun _ => kb_120_53 ?_) (fun g => absurd (by rw [e6]; exact hI_le (by omega) (Nat.le_refl n)) g)
      refine lp_dn (P := fun s => ∀ ρ : mm_S, (∀ c, c ≠ 91 → ρ c = τ c) → LKm ρ (RQ σ n L o p s) → ∀ o2, mw (d + 1) mt_120 Q 55 [some (.ref 10), some (.int (nI s)), o2] [] ρ) 4 ?_ ?_ 0 (by omega) ρ fr (LKm_cg (fun v w => ⟨Or.inl, fun h => h.resolve_right (fun ⟨s', h, _⟩ => absurd h (Nat.not_lt_zero s'))⟩) lk) none
      · intro ρ fr lk o2
        have exK : ∃ K : Nat → Nat, ∀ v, v < 13 → K v < 8192 ∧ ρ 91 v = nI (K v) ∧ ∀ w, ((K v).testBit w = true ↔ RQ σ n L o p 4 v w) := ⟨fun v => (ρ 91 v).toNatClampNeg, fun v hv => by
          obtain ⟨x, x1, x2, x3⟩ := lk v hv
          show (ρ 91 v).toNatClampNeg < 8192 ∧ ρ 91 v = nI (ρ 91 v).toNatClampNeg ∧ ∀ w, ((ρ 91 v).toNatClampNeg.testBit w = true ↔ _)
          rw [x2, nI_clamp (by omega)]
          exact ⟨x1, rfl, x3⟩⟩
        obtain ⟨K, hK⟩ := exK
        exact kb_120_55 (fun _ => kb_120_118 (q ρ K fr (fun v hv => (hK v hv).2.1) (RQ_NB Z l1 (fun k hk => (ol k hk).1) lay (fun v hv => ⟨(hK v hv).1, (hK v hv).2.2⟩)))) (fun g => absurd (by decide) g)
      · intro s hs ih ρ fr lk o2
        have cs : (nI s).toNatClampNeg = s := nI_clamp (by omega)
        obtain ⟨e92, e93⟩ := h92 s hs
        obtain ⟨y1, y2, y3⟩ := lay s hs
        refine kb_120_55 (fun g => absurd g (hI_nle (a := 4) (by omega) hs)) (fun _ => kb_120_60 (pk_in s 4 hs) ?_)
        rw [cs, fr 92 (by decide), e92]
        refine lp_dn (P := fun x => frm L p s ≤ x → ∀ ρ : mm_S, (∀ c, c ≠ 91 → ρ c = τ c) → LKm ρ (fun v w => RQ σ n L o p s v w ∨ SDl L o p s x v w) → mw (d + 1) mt_120 Q 67 [some (.ref 10), some (.int (nI s)), some (.int (nI x))] [] ρ) (tom L p s + 1) ?_ ?_ (frm L p s) (by omega) (Nat.le_refl _) ρ fr (LKm_cg (fun v w => ⟨Or.inl, fun h => h.resolve_right (fun ⟨y, h1, h2, _⟩ => absurd h1 (by omega))⟩) lk)
        · intro _ ρ fr lk
          have r93 : ρ 93 (nI s).toNatClampNeg = nI (tom L p s) := by rw [cs, fr 93 (by decide)]; exact e93
          refine kb_120_67 (pk_in s 4 hs) (fun _ => kb_120_96 (by decide) ?_) (fun g => absurd (by rw [r93]; exact nI_lt (by omega) (by omega)) g)
          rw [nx4_rem s hs, nI_9, nI_9]
          refine c_119s (by omega) (by omega) (by omega) lk (fun ρ' f' lk' => kb_120_112 ?_)
          rw [nI_1]
          refine ih ρ' (fun c h => by rw [f' c h]; exact fr c h) (LKm_cg (fun v w => ?_) lk') _
          constructor
          · rintro ((h | h) | h | h)
            · rcases h with h | ⟨s', hs', h⟩
              · exact Or.inl h
              · exact Or.inr ⟨s', by omega, h⟩
            · exact Or.inr ⟨s, by omega, Or.inl h⟩
            · exact Or.inr ⟨s, by omega, Or.inr (Or.inl h)⟩
            · exact Or.inr ⟨s, by omega, Or.inr (Or.inr ⟨h.2, h.1⟩)⟩
          · rintro (h | ⟨s', hs', h⟩)
            · exact Or.inl (Or.inl (Or.inl h))
            · by_cases e : s' = s
              · subst e
                rcases h with h | h | h
                · exact Or.inl (Or.inr h)
                · exact Or.inr (Or.inl h)
                · exact Or.inr (Or.inr ⟨h.2, h.1⟩)
              · exact Or.inl (Or.inl (Or.inr ⟨s', by omega, h⟩))
        · intro x hx ihx hfx ρ fr lk
          have r93 : ρ 93 (nI s).toNatClampNeg = nI (tom L p s) := by rw [cs, fr 93 (by decide)]; exact e93
          have rx := ro x
          refine kb_120_67 (pk_in s 4 hs) (fun g => absurd g ?_) (fun g => kb_120_77 (c_118s l1 l9 (by rw [fr 10 (by decide)]; exact e15) (fun k hk => by rw [fr 85 (by decide)]; exact ol k hk) dis c9 (by rw [fr 83 (by decide)]; exact e83) hp0 op0 (by omega) (kb_120_87 ?_)))
          · rw [r93]
            intro g
            have := Int32.lt_of_lt_of_le g (hI_le (show tom L p s < 100000 by omega) (show x ≤ tom L p s by omega))
            exact absurd this (Int32.lt_irrefl)
          · rw [nI_9]
            refine c_119s (by omega) (by omega) (by omega) lk (fun ρ' f' lk' => kb_120_90 ?_)
            rw [nI_1]
            refine ihx (by omega) ρ' (fun c h => by rw [f' c h]; exact fr c h) (LKm_cg (fun v w => ?_) lk')
            constructor
            · rintro ((h | ⟨y, h1, h2, h3⟩) | h | h)
              · exact Or.inl h
              · exact Or.inr ⟨y, h1, by omega, h3⟩
              · exact Or.inr ⟨x, hfx, by omega, Or.inl h⟩
              · exact Or.inr ⟨x, hfx, by omega, Or.inr ⟨h.2, h.1⟩⟩
            · rintro (h | ⟨y, h1, h2, h3⟩)
              · exact Or.inl (Or.inl h)
              · by_cases e : y = x
                · subst e
                  rcases h3 with h | h
                  · exact Or.inr (Or.inl h)
                  · exact Or.inr (Or.inr ⟨h.2, h.1⟩)
                · exact Or.inl (Or.inr ⟨y, h1, by omega, h3⟩)
    · intro k hk ih ρ fr lk
      have e6 : ρ 10 6 = nI n := by rw [fr 10 (by decide), t6]; exact M.jn.2
      obtain ⟨a, b, ha, hb, hne, _, _, e1, e2⟩ := M.je k hk
      have ck : (nI k).toNatClampNeg = k := nI_clamp (by omega)
      refine kb_120_23 (fun g => absurd g (by rw [e6]; exact hI_nle (by omega) hk)) (fun _ => kb_120_31 (pk_in k 21 (by omega)) (pk_in k 21 (by omega)) ?_)
      rw [ck, fr 80 (by decide), fr 81 (by decide), t80, t81, e1, e2]
      refine c_119s (by omega) (by omega) hne lk (fun ρ' f' lk' => kb_120_47 ?_)
      rw [nI_1]
      refine ih ρ' (fun c h => by rw [f' c h]; exact fr c h) (LKm_cg (fun v w => ?_) lk')
      constructor
      · rintro (⟨k', h1, h2⟩ | ⟨h1, h2⟩ | ⟨h1, h2⟩)
        · exact ⟨k', by omega, h2⟩
        · subst h1; subst h2; exact ⟨k, by omega, ha, hb, Or.inl ⟨e1, e2⟩⟩
        · subst h1; subst h2; exact ⟨k, by omega, hb, ha, Or.inr ⟨e1, e2⟩⟩
      · rintro ⟨k', h1, h2, h3, h4⟩
        by_cases e : k' = k
        · subst e
          rcases h4 with ⟨x, y⟩ | ⟨x, y⟩
          · exact Or.inr (Or.inl ⟨nI9 h2 ha (x.symm.trans e1), nI9 h3 hb (y.symm.trans e2)⟩)
          · exact Or.inr (Or.inr ⟨nI9 h2 hb (y.symm.trans e2), nI9 h3 ha (x.symm.trans e1)⟩)
        · exact Or.inl ⟨k', by omega, h2, h3, h4⟩
  · intro k hk ih ρ fr z91
    refine kb_120_2 (fun g => absurd g (hI_nle (a := 13) (by omega) hk)) (fun _ => kb_120_8 (pk_in k 13 hk) ?_)
    rw [nI_1, nI_clamp (show k < 2 ^ 31 by omega)]
    refine ih _ (fun c h => by rw [mm_up_n h]; exact fr c h) (fun v hv => ?_)
    by_cases e : v = k
    · subst e; exact mm_up_s
    · rw [mm_up_o e]; exact z91 v (by omega)
end
section
-- the triangles: both say the same
theorem b3_t {i j k w : Nat} : (2 ^ i ||| 2 ^ j ||| 2 ^ k).testBit w = true ↔ i = w ∨ j = w ∨ k = w := by
  rw [tb_or, Nat.testBit_or, Nat.testBit_two_pow, Nat.testBit_two_pow, Bool.or_eq_true]
  simp only [decide_eq_true_eq]
  constructor
  · rintro ((h | h) | h)
    · exact Or.inl h
    · exact Or.inr (Or.inl h)
    · exact Or.inr (Or.inr h.symm)
  · rintro (h | h | h)
    · exact Or.inl (Or.inl h)
    · exact Or.inl (Or.inr h)
    · exact Or.inr h.symm
theorem b3_lt {i j k : Nat} (hi : i < 13) (hj : j < 13) (hk : k < 13) : 2 ^ i ||| 2 ^ j ||| 2 ^ k < 8192 := Nat.or_lt_two_pow (n := 13) (Nat.or_lt_two_pow (n := 13) (Nat.pow_lt_pow_right (by decide) hi) (Nat.pow_lt_pow_right (by decide) hj)) (Nat.pow_lt_pow_right (by decide) hk)
theorem b3_eq {i j k a b c : Nat} (h : ∀ w, (i = w ∨ j = w ∨ k = w) ↔ (a = w ∨ b = w ∨ c = w)) : 2 ^ i ||| 2 ^ j ||| 2 ^ k = 2 ^ a ||| 2 ^ b ||| 2 ^ c := by
  apply Nat.eq_of_testBit_eq
  intro w
  have := (b3_t (i := i) (j := j) (k := k) (w := w)).trans ((h w).trans b3_t.symm)
  cases h1 : (2 ^ i ||| 2 ^ j ||| 2 ^ k).testBit w <;> cases h2 : (2 ^ a ||| 2 ^ b ||| 2 ^ c).testBit w
  · rfl
  · rw [h1, h2] at this; exact absurd (this.mpr rfl) (by decide)
  · rw [h1, h2] at this; exact absurd (this.mp rfl) (by decide)
  · rfl
theorem b3_of {i j k a b c : Nat} (h : 2 ^ i ||| 2 ^ j ||| 2 ^ k = 2 ^ a ||| 2 ^ b ||| 2 ^ c) (w : Nat) : (i = w ∨ j = w ∨ k = w) ↔ (a = w ∨ b = w ∨ c = w) := by
  rw [← b3_t, ← b3_t, h]
def SF (f : Nat) (Mk : Nat → Nat) (L : Nat) (o p : Nat → Nat) (x : Nat) : Prop := (∃ g, g < f ∧ Mk g = x) ∨ ∃ s, s < 4 ∧ ((∃ y, frm L p s ≤ y ∧ y < tom L p s ∧ x = 2 ^ (9 + s) ||| 2 ^ (o ((p 0 + y) % L)) ||| 2 ^ (o ((p 0 + (y + 1)) % L))) ∨ x = 2 ^ (9 + s) ||| 2 ^ (9 + (s + 1) % 4) ||| 2 ^ (o ((p 0 + tom L p s) % L)))
theorem c_121s {d L f c0 x : Nat} {Q : mm_Q} {τ : mm_S} {o p Mk : Nat → Nat} (l1 : 1 ≤ L) (l9 : L ≤ 9) (e15 : τ 10 15 = nI L) (ol : ∀ k, k < L → o k < 9 ∧ τ 85 k = nI (o k)) (dis : ∀ i j, i < j → j < L → o i ≠ o j) (c9 : c0 < 9) (e83 : τ 83 0 = nI c0) (hp0 : p 0 < L) (op0 : o (p 0) = c0) (h92 : ∀ s, s < 4 → τ 92 s = nI (frm L p s) ∧ τ 93 s = nI (tom L p s)) (lay : ∀ s, s < 4 → frm L p s ≤ tom L p s ∧ tom L p s ≤ L)
    (f42 : f ≤ 42) (e19 : τ 10 19 = nI f) (fm : ∀ g, g < f → Mk g < 512 ∧ τ 86 g = nI (Mk g)) (hx : x < 8192) (q1 : SF f Mk L o p x → Q (some (.int 1)) τ) (q0 : ¬ SF f Mk L o p x → Q (some (.int 0)) τ) : mD (d + 2) 121 [.ref 10, .int (nI x)] τ Q := by
  have ro : ∀ y, o ((p 0 + y) % L) < 9 := fun y => (ol _ (Nat.mod_lt _ (by omega))).1
  have at' : ∀ {y : Nat} {Q' : mm_Q}, y ≤ 43 → Q' (some (.int (nI (o ((p 0 + y) % L))))) τ → mD (d + 1) 118 [.ref 10, .int (nI y)] τ Q' := fun {y Q'} hy h => c_118s l1 l9 e15 ol dis c9 e83 hp0 op0 hy h
  refine ke_121 (kb_121_0 ?_)
  refine lp_dn (P := fun g => (∀ g', g' < g → Mk g' ≠ x) → mw (d + 1) mt_121 Q 2 [some (.ref 10), some (.int (nI x)), some (.int (nI g)), none] [] τ) f ?_ ?_ 0 (Nat.zero_le f) (fun g' h => absurd h (Nat.not_lt_zero g'))
  · intro nf
    refine kb_121_2 (fun _ => kb_121_28 ?_) (fun g => absurd (by rw [e19]; exact hI_le (by omega) (Nat.le_refl f)) g)
    refine lp_dn (P := fun s => (∀ s', s' < s → ¬ ((∃ y, frm L p s' ≤ y ∧ y < tom L p s' ∧ x = 2 ^ (9 + s') ||| 2 ^ (o ((p 0 + y) % L)) ||| 2 ^ (o ((p 0 + (y + 1)) % L))) ∨ x = 2 ^ (9 + s') ||| 2 ^ (9 + (s' + 1) % 4) ||| 2 ^ (o ((p 0 + tom L p s') % L)))) → ∀ o3, mw (d + 1) mt_121 Q 30 [some (.ref 10), some (.int (nI x)), some (.int (nI s)), o3] [] τ) 4 ?_ ?_ 0 (by omega) (fun s' h => absurd h (Nat.not_lt_zero s')) none
    · intro ns o3
      refine kb_121_30 (fun _ => kb_121_130 (q0 ?_)) (fun g => absurd (by decide) g)
      rintro (⟨g, hg, e⟩ | ⟨s, hs, h⟩)
      · exact nf g hg e
      · exact ns s hs h
    · intro s hs ih ns o3
      have cs : (nI s).toNatClampNeg = s := nI_clamp (by omega)
      obtain ⟨e92, e93⟩ := h92 s hs
      obtain ⟨y1, y2⟩ := lay s hs
      have r93 : τ 93 (nI s).toNatClampNeg = nI (tom L p s) := by rw [cs]; exact e93
      have s4 : (s + 1) % 4 < 4 := Nat.mod_lt _ (by decide)
      have last : (∀ y, frm L p s ≤ y → y < tom L p s → ¬ x = 2 ^ (9 + s) ||| 2 ^ (o ((p 0 + y) % L)) ||| 2 ^ (o ((p 0 + (y + 1)) % L))) → ∀ x3, mw (d + 1) mt_121 Q 88 [some (.ref 10), some (.int (nI x)), some (.int (nI s)), some (.int x3)] [] τ := fun ny x3 => by
        refine kb_121_88 (by decide) (pk_in s 4 hs) ?_
        rw [r93]
        refine at' (by omega) (kb_121_117 (fun e => kb_121_122 (q1 ?_)) (fun e => kb_121_124 ?_))
        · have rt := ro (tom L p s)
          rw [nx4_rem s hs, nI_9, nI_9, one_sh (by omega), one_sh (by omega), one_sh (by omega), or_bit, or_bit] at e
          have lt := b3_lt (i := 9 + s) (j := 9 + (s + 1) % 4) (k := o ((p 0 + tom L p s) % L)) (by omega) (by omega) (by omega)
          exact Or.inr ⟨s, hs, Or.inr ((nI_eq (by omega) (by omega)).mp e)⟩
        · have rt := ro (tom L p s)
          rw [nx4_rem s hs, nI_9, nI_9, one_sh (by omega), one_sh (by omega), one_sh (by omega), or_bit, or_bit] at e
          rw [nI_1]
          refine ih (fun s' hs' => ?_) _
          by_cases es : s' = s
          · subst es
            rintro (⟨y, a1, a2, a3⟩ | h)
            · exact ny y a1 a2 a3
            · exact e (by rw [h])
          · exact ns s' (by omega)
      refine kb_121_30 (fun g => absurd g (hI_nle (a := 4) (by omega) hs)) (fun _ => kb_121_35 (pk_in s 4 hs) ?_)
      rw [cs, e92]
      refine lp_dn (P := fun y => frm L p s ≤ y → (∀ y', frm L p s ≤ y' → y' < y → ¬ x = 2 ^ (9 + s) ||| 2 ^ (o ((p 0 + y') % L)) ||| 2 ^ (o ((p 0 + (y' + 1)) % L))) → mw (d + 1) mt_121 Q 42 [some (.ref 10), some (.int (nI x)), some (.int (nI s)), some (.int (nI y))] [] τ) (tom L p s) ?_ ?_ (frm L p s) y1 (Nat.le_refl _) (fun y' h1 h2 => absurd h2 (by omega))
      · intro _ ny
        exact kb_121_42 (pk_in s 4 hs) (fun _ => last ny _) (fun g => absurd (by rw [r93]; exact hI_le (by omega) (Nat.le_refl _)) g)
      · intro y hy ihy hfy ny
        have ra := ro y
        have rb := ro (y + 1)
        refine kb_121_42 (pk_in s 4 hs) (fun g => absurd g (by rw [r93]; exact hI_nle (by omega) hy)) (fun g => kb_121_52 (at' (by omega) (kb_121_65 ?_)))
        rw [nI_1]
        have lt := b3_lt (i := 9 + s) (j := o ((p 0 + y) % L)) (k := o ((p 0 + (y + 1)) % L)) (by omega) (by omega) (by omega)
        refine at' (by omega) (kb_121_75 (fun e => kb_121_80 (q1 ?_)) (fun e => kb_121_82 ?_))
        · rw [nI_9, one_sh (by omega), one_sh (by omega), one_sh (by omega), or_bit, or_bit] at e
          exact Or.inr ⟨s, hs, Or.inl ⟨y, hfy, hy, (nI_eq (by omega) (by omega)).mp e⟩⟩
        · rw [nI_9, one_sh (by omega), one_sh (by omega), one_sh (by omega), or_bit, or_bit] at e
          rw [nI_1]
          refine ihy (by omega) (fun y' a1 a2 => ?_)
          by_cases ey : y' = y
          · subst ey; exact fun h => e (by rw [h])
          · exact ny y' a1 (by omega)
  · intro g hg ih nf
    obtain ⟨m1, m2⟩ := fm g hg
    have cg : (nI g).toNatClampNeg = g := nI_clamp (by omega)
    refine kb_121_2 (fun z => absurd z (by rw [e19]; exact hI_nle (by omega) hg)) (fun _ => kb_121_10 (pk_in g 42 (by omega)) (fun e => kb_121_20 (q1 (Or.inl ⟨g, hg, ?_⟩))) (fun e => kb_121_22 ?_))
    · rw [cg, m2] at e
      exact (nI_eq (by omega) (by omega)).mp e
    · rw [cg, m2] at e
      rw [nI_1]
      refine ih (fun g' hg' => ?_)
      by_cases eg : g' = g
      · subst eg; exact fun h => e (by rw [h])
      · exact nf g' (by omega)
def b3b (a b c k : Nat) : Bool := !(decide (a < b) && decide (b < c) && (2 ^ a ||| 2 ^ b ||| 2 ^ c).testBit k) || ((!(decide (bc (2 ^ a ||| 2 ^ b ||| 2 ^ c) k = 0)) || decide (k = a)) && (!(decide (bc (2 ^ a ||| 2 ^ b ||| 2 ^ c) k = 1)) || decide (k = b)) && (!(decide (bc (2 ^ a ||| 2 ^ b ||| 2 ^ c) k = 2)) || decide (k = c)))
set_option maxRecDepth 100000 in
theorem b3_d : ∀ a, a < 13 → ∀ b, b < 13 → ∀ c, c < 13 → ∀ k, k < 13 → b3b a b c k = true := by decide +kernel
theorem b3_n {a b c k : Nat} (ha : a < 13) (hb : b < 13) (hc : c < 13) (hk : k < 13) (hab : a < b) (hbc : b < c) (ht : (2 ^ a ||| 2 ^ b ||| 2 ^ c).testBit k = true) : (bc (2 ^ a ||| 2 ^ b ||| 2 ^ c) k = 0 → k = a) ∧ (bc (2 ^ a ||| 2 ^ b ||| 2 ^ c) k = 1 → k = b) ∧ (bc (2 ^ a ||| 2 ^ b ||| 2 ^ c) k = 2 → k = c) := by
  have h := b3_d a ha b hb c hc k hk
  unfold b3b at h
  rw [decide_eq_true hab, decide_eq_true hbc, ht] at h
  simp only [Bool.and_self, Bool.not_true, Bool.false_or, Bool.and_eq_true, Bool.or_eq_true, Bool.not_eq_true', decide_eq_false_iff_not, decide_eq_true_eq] at h
  obtain ⟨⟨h0, h1⟩, h2⟩ := h
  exact ⟨fun e => h0.resolve_left (fun z => z e), fun e => h1.resolve_left (fun z => z e), fun e => h2.resolve_left (fun z => z e)⟩
theorem c_114t {d a b c : Nat} {Q : mm_Q} {τ : mm_S} {w : Int32} (hab : a < b) (hbc : b < c) (hc : c < 13) (q : Q none (mt3 τ w (nI a) (nI b) (nI c))) : mD (d + 2) 114 [.ref 10, .int w, .int (nI (2 ^ a ||| 2 ^ b ||| 2 ^ c))] τ Q := by
  have lt := b3_lt (i := a) (j := b) (k := c) (by omega) (by omega) hc
  have b3 := bcz_3 (n := 13) (show a < 13 by omega) (show b < 13 by omega) hc (by omega) (by omega) (by omega)
  refine ke_114 (kb_114_0 (c_112 (i := 0) (by omega) (by omega) (fun x x1 x2 x3 => kb_114_7 (c_112 (i := 1) (by omega) (by omega) (fun y y1 y2 y3 => kb_114_12 (c_112 (i := 2) (by omega) (by omega) (fun z z1 z2 z3 => kb_114_17 (c_100 (kb_114_20 ?_)))))))))
  rw [(b3_n (by omega) (by omega) hc x1 hab hbc x2).1 x3, (b3_n (by omega) (by omega) hc y1 hab hbc y2).2.1 y3, (b3_n (by omega) (by omega) hc z1 hab hbc z2).2.2 z3]
  exact q
theorem and3 {A B C : Int32} : (((A &&& B) &&& C) &&& 1) = 0 ↔ ¬ (A &&& 1 = 1 ∧ B &&& 1 = 1 ∧ C &&& 1 = 1) := by
  have key : (((A &&& B) &&& C) &&& 1) = 1 ↔ (A &&& 1 = 1 ∧ B &&& 1 = 1 ∧ C &&& 1 = 1) := by
    rw [and1, and1, and1, and1, Int32.toBitVec_and, Int32.toBitVec_and, BitVec.getLsbD_and, BitVec.getLsbD_and, Bool.and_eq_true, Bool.and_eq_true, and_assoc]
  rw [← key]
  obtain ⟨j, hj, e⟩ := pk_andE ((A &&& B) &&& C) (m := 1) 1 (by decide)
  rw [e]
  rcases (show j = 0 ∨ j = 1 by omega) with h | h
  · subst h; exact ⟨fun _ => by decide, fun _ => rfl⟩
  · subst h; exact ⟨fun h => absurd h (by decide), fun h => absurd rfl h⟩
theorem bit_1 {m k : Nat} (hm : m < 2 ^ 31) (hk : k < 31) : (nI m >>> (nI k &&& 31)) &&& 1 = 1 ↔ m.testBit k = true := by
  rw [bit_v hm hk]
  by_cases c : m.testBit k = true
  · rw [if_pos c]; exact ⟨fun _ => c, fun _ => rfl⟩
  · rw [if_neg c]; exact ⟨fun h => absurd h (by decide), fun h => absurd h c⟩
def tr (K : Nat → Nat) (S : Nat → Prop) (a b c : Nat) : Prop := a < b ∧ b < c ∧ c < 13 ∧ (K a).testBit b = true ∧ (K a).testBit c = true ∧ (K b).testBit c = true ∧ ¬ S (2 ^ a ||| 2 ^ b ||| 2 ^ c)
theorem c_122s {d L f c0 : Nat} {Q : mm_Q} {τ : mm_S} {o p Mk K : Nat → Nat} (l1 : 1 ≤ L) (l9 : L ≤ 9) (e15 : τ 10 15 = nI L) (ol : ∀ k, k < L → o k < 9 ∧ τ 85 k = nI (o k)) (dis : ∀ i j, i < j → j < L → o i ≠ o j) (c9 : c0 < 9) (e83 : τ 83 0 = nI c0) (hp0 : p 0 < L) (op0 : o (p 0) = c0) (h92 : ∀ s, s < 4 → τ 92 s = nI (frm L p s) ∧ τ 93 s = nI (tom L p s)) (lay : ∀ s, s < 4 → frm L p s ≤ tom L p s ∧ tom L p s ≤ L)
    (f42 : f ≤ 42) (e19 : τ 10 19 = nI f) (fm : ∀ g, g < f → Mk g < 512 ∧ τ 86 g = nI (Mk g)) (hK : ∀ v, v < 13 → K v < 8192 ∧ τ 91 v = nI (K v))
    (q1 : ∀ a b c, tr K (SF f Mk L o p) a b c → (∀ a' b' c', (a' < a ∨ (a' = a ∧ (b' < b ∨ (b' = b ∧ c' < c)))) → ¬ tr K (SF f Mk L o p) a' b' c') → Q (some (.int 1)) (mt3 τ 5 (nI a) (nI b) (nI c))) (q0 : (∀ a b c, ¬ tr K (SF f Mk L o p) a b c) → Q (some (.int 0)) τ) : mD (d + 3) 122 [.ref 10] τ Q := by
  refine ke_122 (kb_122_0 ?_)
  refine lp_dn (P := fun a => (∀ a' b c, a' < a → ¬ tr K (SF f Mk L o p) a' b c) → ∀ o2 o3 o4, mw (d + 2) mt_122 Q 2 [some (.ref 10), some (.int (nI a)), o2, o3, o4] [] τ) 13 ?_ ?_ 0 (by omega) (fun a' b c h => absurd h (Nat.not_lt_zero a')) none none none
  · intro h o2 o3 o4
    exact kb_122_2 (fun _ => kb_122_114 (q0 (fun a b c t => h a b c (by have := t.1; have := t.2.1; have := t.2.2.1; omega) t))) (fun g => absurd (by decide) g)
  · intro a ha iha h o2 o3 o4
    refine kb_122_2 (fun g => absurd g (hI_nle (a := 13) (by omega) ha)) (fun _ => kb_122_8 ?_)
    rw [nI_1]
    refine lp_dn (P := fun b => a < b → (∀ b' c, b' < b → ¬ tr K (SF f Mk L o p) a b' c) → ∀ o3 o4, mw (d + 2) mt_122 Q 12 [some (.ref 10), some (.int (nI a)), some (.int (nI b)), o3, o4] [] τ) 13 ?_ ?_ (a + 1) (by omega) (by omega) (fun b' c hb t => absurd t.1 (by omega)) o3 o4
    · intro _ hb o3 o4
      refine kb_122_12 (fun _ => kb_122_108 ?_) (fun g => absurd (by decide) g)
      rw [nI_1]
      refine iha (fun a' b c ha' => ?_) _ _ _
      by_cases e : a' = a
      · subst e; exact fun t => hb b c (by have := t.2.1; have := t.2.2.1; omega) t
      · exact h a' b c (by omega)
    · intro b hb ihb hab hbb o3 o4
      refine kb_122_12 (fun g => absurd g (hI_nle (a := 13) (by omega) hb)) (fun _ => kb_122_18 ?_)
      rw [nI_1]
      refine lp_dn (P := fun c => b < c → (∀ c', c' < c → ¬ tr K (SF f Mk L o p) a b c') → ∀ o4, mw (d + 2) mt_122 Q 22 [some (.ref 10), some (.int (nI a)), some (.int (nI b)), some (.int (nI c)), o4] [] τ) 13 ?_ ?_ (b + 1) (by omega) (by omega) (fun c' hc t => absurd t.2.1 (by omega)) o4
      · intro _ hc o4
        refine kb_122_22 (fun _ => kb_122_102 ?_) (fun g => absurd (by decide) g)
        rw [nI_1]
        refine ihb (by omega) (fun b' c hb' => ?_) _ _
        by_cases e : b' = b
        · subst e; exact fun t => hc c t.2.2.1 t
        · exact hbb b' c (by omega)
      · intro c hc ihc hbc hcc o4
        have nx : ¬ tr K (SF f Mk L o p) a b c → ∀ o4, mw (d + 2) mt_122 Q 22 [some (.ref 10), some (.int (nI a)), some (.int (nI b)), some (.int (nI c + 1)), o4] [] τ := fun hn o4 => by
          rw [nI_1]
          refine ihc (by omega) (fun c' hc' => ?_) _
          by_cases e : c' = c
          · subst e; exact hn
          · exact hcc c' (by omega)
        obtain ⟨a1, a2⟩ := hK a ha
        obtain ⟨b1, b2⟩ := hK b hb
        have link : (((((τ 91 (nI a).toNatClampNeg) >>> (nI b &&& 31)) &&& ((τ 91 (nI a).toNatClampNeg) >>> (nI c &&& 31))) &&& ((τ 91 (nI b).toNatClampNeg) >>> (nI c &&& 31))) &&& (1 : Int32)) = 0 ↔ ¬ ((K a).testBit b = true ∧ (K a).testBit c = true ∧ (K b).testBit c = true) := by
          rw [nI_clamp (show a < 2 ^ 31 by omega), nI_clamp (show b < 2 ^ 31 by omega), a2, b2, and3, bit_1 (by omega) (by omega), bit_1 (by omega) (by omega), bit_1 (by omega) (by omega)]
        refine kb_122_22 (fun g => absurd g (hI_nle (a := 13) (by omega) hc)) (fun _ => kb_122_28 (pk_in a 13 ha) (pk_in a 13 ha) (pk_in b 13 hb) (fun z => kb_122_59 (nx (fun t => link.mp z ⟨t.2.2.2.1, t.2.2.2.2.1, t.2.2.2.2.2.1⟩) _)) (fun z => kb_122_62 ?_))
        have z' : (K a).testBit b = true ∧ (K a).testBit c = true ∧ (K b).testBit c = true := by
          by_cases y : (K a).testBit b = true ∧ (K a).testBit c = true ∧ (K b).testBit c = true
          · exact y
          · exact absurd (link.mpr y) z
        rw [one_sh (by omega), one_sh (by omega), one_sh (by omega), or_bit, or_bit]
        refine c_121s l1 l9 e15 ol dis c9 e83 hp0 op0 h92 lay f42 e19 fm (b3_lt ha hb hc) (fun S => kb_122_81 (fun g => absurd g (by decide)) (fun _ => kb_122_84 (nx (fun t => t.2.2.2.2.2.2 S) _))) (fun S => kb_122_81 (fun _ => kb_122_87 ?_) (fun g => absurd rfl g))
        refine c_114t hab hbc hc (kb_122_94 (q1 a b c ⟨hab, hbc, hc, z'.1, z'.2.1, z'.2.2, S⟩ (fun a' b' c' hh => ?_)))
        rcases hh with hh | ⟨rfl, hh | ⟨rfl, hh⟩⟩
        · exact h a' b' c' hh
        · exact hbb b' c' hh
        · exact hcc c' hh
theorem nx4_e (a : Nat) : (a = 3 ∧ nx4 a = 0) ∨ (a ≠ 3 ∧ nx4 a = a + 1) := by
  unfold nx4
  by_cases h : a = 3
  · exact Or.inl ⟨h, if_pos h⟩
  · exact Or.inr ⟨h, if_neg h⟩
theorem pv4_e (a : Nat) : (a = 0 ∧ pv4 a = 3) ∨ (a ≠ 0 ∧ pv4 a = a - 1) := by
  unfold pv4
  by_cases h : a = 0
  · exact Or.inl ⟨h, if_pos h⟩
  · exact Or.inr ⟨h, if_neg h⟩
theorem sd3 (a : Nat) (ha : a < 4) (b : Nat) (hb : b < 4) (c : Nat) (hc : c < 4) (h1 : a < b) (h2 : b < c) (h3 : b = nx4 a ∨ b = pv4 a) (h4 : c = nx4 a ∨ c = pv4 a) (h5 : c = nx4 b ∨ c = pv4 b) : False := by
  have x1 := nx4_e a
  have x2 := pv4_e a
  have x3 := nx4_e b
  have x4 := pv4_e b
  omega
theorem sd2 (a : Nat) (ha : a < 4) (b : Nat) (hb : b < 4) (h1 : a < b) (h3 : b = nx4 a ∨ b = pv4 a) : (¬ (a = 0 ∧ b = 3) ∧ b = nx4 a ∧ (a + 1) % 4 = b) ∨ (a = 0 ∧ b = 3) := by
  have x1 := nx4_e a
  have x2 := pv4_e a
  omega
theorem mod_ne {a y t L : Nat} (h1 : y < t) (h2 : t - y < L) : (a + y) % L ≠ (a + t) % L := fun h => by
  have := Nat.sub_mod_eq_zero_of_mod_eq h.symm
  rw [show a + t - (a + y) = t - y by omega, Nat.mod_eq_of_lt h2] at this
  omega
theorem f57_SF {σ τ : mm_S} {m L f : Nat} {o p c K Mk : Nat → Nat} (B : NB σ m o p L (fun s => st L p s + 1) K) (O : OA τ L o) (f42 : f ≤ 42) (e6 : τ 5 6 = nI f) (hM : ∀ g, g < f → Mk g < 512 ∧ τ 43 g = nI (Mk g)) (hc : ∀ i, i < 4 → c i < 9 ∧ τ 19 i = nI (c i)) (hp : ∀ i, i < 4 → p i < L ∧ τ 32 (c i) = nI (p i))
    (lay : ∀ s, s < 4 → (p 0 + frm L p s) % L = p s ∧ tom L p s = frm L p s + st L p s ∧ tom L p s ≤ L) {i j k : Nat} (hij : i < j) (hjk : j < k) (hk : k < 13) (b1 : (K i).testBit j = true) (b2 : (K i).testBit k = true) (b3 : (K j).testBit k = true) : f_57 τ (nI i) (nI j) (nI k) = 0 ↔ ¬ SF f Mk L o p (2 ^ i ||| 2 ^ j ||| 2 ^ k) := by
  obtain ⟨l1, l9, e3, oa, ob⟩ := id O
  obtain ⟨_, B2, B3, B4, B5⟩ := B
  have ro : ∀ y, (p 0 + y) % L < L := fun y => Nat.mod_lt _ (by omega)
  have r9 : ∀ y, o ((p 0 + y) % L) < 9 := fun y => (oa _ (ro y)).1
  have oinj : ∀ a b, a < L → b < L → o a = o b → a = b := fun a b ha hb e => by
    have x1 := (oa a ha).2.2
    have x2 := (oa b hb).2.2
    rw [e, x2] at x1
    exact (nI_eq (by omega) (by omega)).mp x1.symm
  have opc : ∀ s, s < 4 → o (p s) = c s := fun s hs => (ob (c s) (p s) (hc s hs).1 (hp s hs).1 (hp s hs).2).symm
  -- the end of a side is the next corner
  have nxc : ∀ s, s < 4 → (p 0 + tom L p s) % L = p (nx4 s) := fun s hs => by
    by_cases h : s < 3
    · have : tom L p s = frm L p (s + 1) := by unfold tom; rw [if_pos h]
      rw [this, (lay (s + 1) (by omega)).1]
      unfold nx4; rw [if_neg (by omega)]
    · have e : s = 3 := by omega
      subst e
      have : tom L p 3 = L := by unfold tom; rw [if_neg (by decide)]
      rw [this, Nat.add_mod_right, Nat.mod_eq_of_lt (hp 0 (by decide)).1]
      rfl
  have le9 : ∀ {a : Nat}, a < 13 → ((9 : Int32) ≤ nI a ↔ 9 ≤ a) := fun {a} ha => nI_leI (a := 9) (by omega) (by omega)
  have nf : ∀ w, 9 ≤ w → (2 ^ i ||| 2 ^ j ||| 2 ^ k).testBit w = true → ¬ ∃ g, g < f ∧ Mk g = 2 ^ i ||| 2 ^ j ||| 2 ^ k := fun w hw ht ⟨g, hg, e⟩ => by
    rw [← e, tb_lt (k := 9) (hM g hg).1 hw] at ht
    exact absurd ht (by decide)
  by_cases k9 : k < 9
  · -- three rooms
    have : f_57 τ (nI i) (nI j) (nI k) = F46 τ (nI (2 ^ i ||| 2 ^ j ||| 2 ^ k)) := by
      unfold f_57
      rw [if_neg (fun z => by have := (le9 hk).mp z; omega), one_sh (by omega), one_sh (by omega), one_sh (by omega), or_bit, or_bit]
    rw [this]
    have lt := b3_lt (i := i) (j := j) (k := k) (by omega) (by omega) (by omega)
    have F1 : F46 τ (nI (2 ^ i ||| 2 ^ j ||| 2 ^ k)) = 1 ↔ SF f Mk L o p (2 ^ i ||| 2 ^ j ||| 2 ^ k) := by
      unfold F46
      rw [e6, nI_clamp (show f < 2 ^ 31 by omega), isf_1]
      constructor
      · rintro ⟨g, hg, e⟩
        rw [(hM g hg).2] at e
        have := (hM g hg).1
        exact Or.inl ⟨g, hg, (nI_eq (by omega) (by omega)).mp e⟩
      · rintro (⟨g, hg, e⟩ | ⟨s, hs, ⟨y, _, _, e⟩ | e⟩)
        · exact ⟨g, hg, by rw [(hM g hg).2, e]⟩
        · have := (b3_of e (9 + s)).mpr (Or.inl rfl); omega
        · have := (b3_of e (9 + s)).mpr (Or.inl rfl); omega
    rw [← F1]
    rcases F46_01 τ (nI (2 ^ i ||| 2 ^ j ||| 2 ^ k)) with h | h
    · rw [h]; exact ⟨fun _ => by decide, fun _ => rfl⟩
    · rw [h]; exact ⟨fun z => absurd z (by decide), fun z => absurd rfl z⟩
  · obtain ⟨s, hs, es⟩ : ∃ s, s < 4 ∧ k = 9 + s := ⟨k - 9, by omega, by omega⟩
    subst es
    by_cases j9 : j < 9
    · -- two rooms and a side
      have fol : ∀ a b, a < 9 → b < 9 → (K a).testBit (9 + s) = true → (f_58 τ (nI a) (nI b) (nI s) = 1 ↔ ∃ y, frm L p s ≤ y ∧ y < tom L p s ∧ o ((p 0 + y) % L) = a ∧ o ((p 0 + (y + 1)) % L) = b) := fun a b a9 b9 ka => by
        obtain ⟨l1', l2', l3'⟩ := lay s hs
        obtain ⟨u, hu, eu⟩ := (B3 a s a9 hs).mp ka
        have hu' : u < st L p s + 1 := hu
        have yu : (p 0 + (frm L p s + u)) % L = (p s + u) % L := by
          rw [show p 0 + (frm L p s + u) = (p 0 + frm L p s) + u by omega, Nat.add_mod, l1', Nat.add_mod (p s) u, Nat.mod_eq_of_lt (hp s hs).1]
        have a32 : τ 32 a = nI ((p 0 + (frm L p s + u)) % L) := by
          rw [← eu, ← yu]; exact (oa _ (ro _)).2.2
        have e49 : f_49 τ (nI s) = nI (c (nx4 s)) := by
          unfold f_49
          rw [(f_50_n s hs).1, nI_clamp (show nx4 s < 2 ^ 31 by have := (f_50_n s hs).2; omega)]
          exact (hc _ (f_50_n s hs).2).2
        have c9 := (hc _ (f_50_n s hs).2).1
        have nxr : ∀ y, (((p 0 + y) % L) + 1) % L = (p 0 + (y + 1)) % L := fun y => by
          rw [show p 0 + (y + 1) = (p 0 + y) + 1 by omega, Nat.add_mod, Nat.mod_mod, ← Nat.add_mod]
        have val : f_58 τ (nI a) (nI b) (nI s) = 1 ↔ a ≠ c (nx4 s) ∧ o ((p 0 + (frm L p s + u + 1)) % L) = b := by
          unfold f_58
          rw [e49, nI_clamp (show a < 2 ^ 31 by omega), a32, OA_40 O (ro _), nxr]
          by_cases z : a = c (nx4 s)
          · rw [if_pos (by rw [z])]
            exact ⟨fun h => absurd h (by decide), fun h => absurd z h.1⟩
          · rw [if_neg (fun y => z (nI9 a9 c9 y))]
            by_cases z2 : o ((p 0 + (frm L p s + u + 1)) % L) = b
            · rw [if_pos (by rw [z2])]; exact ⟨fun _ => ⟨z, z2⟩, fun _ => rfl⟩
            · rw [if_neg (fun y => z2 (nI9 (r9 _) b9 y))]; exact ⟨fun h => absurd h (by decide), fun h => absurd h.2 z2⟩
        rw [val]
        constructor
        · rintro ⟨h1, h2⟩
          refine ⟨frm L p s + u, by omega, ?_, by rw [yu]; exact eu, h2⟩
          rcases Nat.lt_or_ge (frm L p s + u) (tom L p s) with y | y
          · exact y
          · exfalso
            apply h1
            have e : frm L p s + u = tom L p s := by omega
            rw [← eu, ← yu, e, nxc s hs]
            exact opc _ (f_50_n s hs).2
        · rintro ⟨y, y1, y2, y3, y4⟩
          have stl : st L p s < L := st_lt (hp _ (f_50_n s hs).2).1 (hp s hs).1
          have same : (p 0 + y) % L = (p 0 + (frm L p s + u)) % L := oinj _ _ (ro _) (ro _) (by rw [y3, yu, eu])
          have ey : y = frm L p s + u := by
            rcases Nat.lt_trichotomy y (frm L p s + u) with h | h | h
            · exact absurd same (mod_ne h (by omega))
            · exact h
            · exact absurd same.symm (mod_ne h (by omega))
          refine ⟨fun z => ?_, by rw [← ey]; exact y4⟩
          rw [← opc _ (f_50_n s hs).2, ← nxc s hs, ← y3] at z
          exact mod_ne (a := p 0) (L := L) y2 (by omega) (oinj _ _ (ro _) (ro _) z)
      have e57 : f_57 τ (nI i) (nI j) (nI (9 + s)) = if f_58 τ (nI i) (nI j) (nI s) = 0 then (if f_58 τ (nI j) (nI i) (nI s) = 0 then 0 else 1) else 1 := by
        unfold f_57
        rw [if_pos ((le9 hk).mpr (by omega)), if_neg (fun z => by have := (le9 (by omega)).mp z; omega), sub9 s hs]
      have key : SF f Mk L o p (2 ^ i ||| 2 ^ j ||| 2 ^ (9 + s)) ↔ f_58 τ (nI i) (nI j) (nI s) = 1 ∨ f_58 τ (nI j) (nI i) (nI s) = 1 := by
        rw [fol i j (by omega) j9 b2, fol j i j9 (by omega) b3]
        constructor
        · rintro (h | ⟨s', hs', ⟨y, y1, y2, e⟩ | e⟩)
          · exact absurd h (nf (9 + s) (by omega) (b3_t.mpr (Or.inr (Or.inr rfl))))
          · have x1 := (b3_of e (9 + s')).mpr (Or.inl rfl)
            have ss : s' = s := by omega
            subst ss
            have z1 := r9 y
            have z2 := r9 (y + 1)
            have x2 := (b3_of e i).mp (Or.inl rfl)
            have x3 := (b3_of e j).mp (Or.inr (Or.inl rfl))
            by_cases q : o ((p 0 + y) % L) = i
            · exact Or.inl ⟨y, y1, y2, q, by omega⟩
            · exact Or.inr ⟨y, y1, y2, by omega, by omega⟩
          · have x1 := (b3_of e (9 + s')).mpr (Or.inl rfl)
            have x2 := (b3_of e (9 + (s' + 1) % 4)).mpr (Or.inr (Or.inl rfl))
            omega
        · rintro (⟨y, y1, y2, e1, e2⟩ | ⟨y, y1, y2, e1, e2⟩)
          · refine Or.inr ⟨s, hs, Or.inl ⟨y, y1, y2, ?_⟩⟩
            rw [e1, e2]; exact b3_eq (fun w => by omega)
          · refine Or.inr ⟨s, hs, Or.inl ⟨y, y1, y2, ?_⟩⟩
            rw [e1, e2]; exact b3_eq (fun w => by omega)
      rw [e57, key]
      rcases f_58_01 τ (nI i) (nI j) (nI s) with h | h <;> rcases f_58_01 τ (nI j) (nI i) (nI s) with h' | h' <;> rw [h, h'] <;> decide
    · -- two sides
      obtain ⟨t, ht, et⟩ : ∃ t, t < 4 ∧ j = 9 + t := ⟨j - 9, by omega, by omega⟩
      subst et
      have ts : t < s := by omega
      have adj := (B5 t s ht hs).mp b3
      by_cases i9 : i < 9
      · have sd := sd2 t ht s hs ts adj
        have e57 : f_57 τ (nI i) (nI (9 + t)) (nI (9 + s)) = if τ 19 (if t = 0 ∧ s = 3 then 0 else s) = nI i then 1 else 0 := by
          unfold f_57
          rw [if_pos ((le9 hk).mpr (by omega)), if_pos ((le9 (by omega)).mpr (by omega)), sub9 s hs, nI_clamp (show s < 2 ^ 31 by omega)]
          have n9 : ¬ (9 : Int32) ≤ nI i := fun z => by have := (le9 (by omega)).mp z; omega
          by_cases t0 : t = 0
          · subst t0
            rw [if_pos (show nI (9 + 0) = (9 : Int32) from rfl), if_neg n9, if_neg n9]
            by_cases s3 : s = 3
            · subst s3
              rw [if_pos (show nI (9 + 3) = (12 : Int32) from rfl), if_pos (show (0 : Nat) = 0 ∧ (3 : Nat) = 3 from ⟨rfl, rfl⟩)]
            · rw [if_neg (fun z => s3 (by have := (nI_eq (a := 9 + s) (b := 12) (by omega) (by omega)).mp z; omega)), if_neg (show ¬ ((0 : Nat) = 0 ∧ s = 3) from fun z => s3 z.2)]
          · rw [if_neg (fun z => t0 (by have := (nI_eq (a := 9 + t) (b := 9) (by omega) (by omega)).mp z; omega)), if_neg n9, if_neg (show ¬ (t = 0 ∧ s = 3) from fun z => t0 z.1)]
        have e4 : (if t = 0 ∧ s = 3 then 0 else s) < 4 := by split <;> omega
        rw [e57, (hc _ e4).2]
        have key : SF f Mk L o p (2 ^ i ||| 2 ^ (9 + t) ||| 2 ^ (9 + s)) ↔ c (if t = 0 ∧ s = 3 then 0 else s) = i := by
          constructor
          · rintro (h | ⟨s', hs', ⟨y, y1, y2, e⟩ | e⟩)
            · exact absurd h (nf (9 + s) (by omega) (b3_t.mpr (Or.inr (Or.inr rfl))))
            · have x1 := (b3_of e (9 + t)).mp (Or.inr (Or.inl rfl))
              have x2 := (b3_of e (9 + s)).mp (Or.inr (Or.inr rfl))
              have z1 := r9 y
              have z2 := r9 (y + 1)
              omega
            · have z1 := r9 (tom L p s')
              have x0 := (b3_of e i).mp (Or.inl rfl)
              have x1 := (b3_of e (9 + s')).mpr (Or.inl rfl)
              have x2 := (b3_of e (9 + (s' + 1) % 4)).mpr (Or.inr (Or.inl rfl))
              have ci : c (nx4 s') = i := by
                rw [← opc _ (f_50_n s' hs').2, ← nxc s' hs']; omega
              rw [← ci]
              congr 1
              unfold nx4
              rcases sd with ⟨d1, d2, d3⟩ | d1
              · rw [if_neg d1]
                split <;> omega
              · rw [if_pos d1]
                split <;> omega
          · intro h
            rcases sd with ⟨d1, d2, d3⟩ | ⟨d1, d2⟩
            · rw [if_neg d1] at h
              refine Or.inr ⟨t, ht, Or.inr ?_⟩
              rw [nxc t ht, ← d2, opc s hs, h, d3]
              exact b3_eq (fun w => by omega)
            · subst d1; subst d2
              rw [if_pos ⟨rfl, rfl⟩] at h
              refine Or.inr ⟨3, by decide, Or.inr ?_⟩
              rw [nxc 3 (by decide), show nx4 3 = 0 from rfl, opc 0 (by decide), h]
              exact b3_eq (fun w => by omega)
        rw [key]
        have cc9 := (hc _ e4).1
        generalize c (if t = 0 ∧ s = 3 then 0 else s) = C at *
        by_cases h : C = i
        · rw [if_pos (by rw [h])]; exact ⟨fun z => absurd z (by decide), fun z => absurd h z⟩
        · rw [if_neg (fun z => h (nI9 cc9 i9 z))]; exact ⟨fun _ => h, fun _ => rfl⟩
      · exfalso
        obtain ⟨u, hu, eu⟩ : ∃ u, u < 4 ∧ i = 9 + u := ⟨i - 9, by omega, by omega⟩
        subst eu
        exact sd3 u hu t ht s hs (by omega) ts ((B5 u t hu ht).mp b1) ((B5 u s hu hs).mp b2) adj
end
section
-- what the class's plan finds, as facts of the sketch alone
def OLp (B : Nat → Nat → Nat) (s t L : Nat) : Prop := 1 ≤ L ∧ L ≤ 9 ∧ wo B s t L = s ∧ wo B s t (L + 1) = t ∧ ∀ i j, i < j → j < L → wo B s t i ≠ wo B s t j
def NSp (B : Nat → Nat → Nat) (s t : Nat) : Prop := ∃ k, k ≤ 9 ∧ (∀ i j, i < j → j < k → wo B s t i ≠ wo B s t j) ∧ (∃ j, j < k ∧ wo B s t j = wo B s t k) ∧ ¬ (wo B s t k = s ∧ wo B s t (k + 1) = t)
def FLp (σ : mm_S) (m : Nat) (B : Nat → Nat → Nat) (s t L f : Nat) (Mk : Nat → Nat) : Prop := f ≤ 42 ∧ ∃ lab : Nat × Nat → Int32, (∀ x, Dt σ m x → lab (ph B x) = lab x) ∧ (∀ x, Dt σ m x → lab x = -1 ∨ ∃ g, g < f ∧ lab x = nI g) ∧ (∀ x, Dt σ m x → (lab x = -1 ↔ ∃ k, k < L ∧ x = (wo B s t k, wo B s t (k + 1)))) ∧ ∀ g, g < f → Mk g < 512 ∧ (∀ a, a < 9 → ((Mk g).testBit a = true ↔ ∃ b, Dt σ m (a, b) ∧ lab (a, b) = nI g)) ∧ ∃ x, Dt σ m x ∧ lab x = nI g ∧ ∀ y, Dt σ m y → lab y = nI g → ∃ k, y = it (ph B) x k
def J0 (σ : mm_S) (n : Nat) : Prop := (∀ e f, e < f → f < n → ¬ cxx σ e f) ∧ ∀ e i, e < n → i < 9 → ¬ clx σ e i
/-- where the corners fit -/
def J5 (σ : mm_S) (m L f : Nat) (o Mk : Nat → Nat) (a k x y z : Int32) : Prop := ∃ p c K : Nat → Nat, (∀ i, i < 4 → c i < 9 ∧ σ 83 i = nI (c i)) ∧ (∀ i, i < 4 → p i < L ∧ o (p i) = c i) ∧ st L p 0 + st L p 1 + st L p 2 + st L p 3 = L ∧ NB σ m o p L (fun s => st L p s + 1) K ∧ ((∃ i j l, tr K (SF f Mk L o p) i j l ∧ (∀ i' j' l', (i' < i ∨ (i' = i ∧ (j' < j ∨ (j' = j ∧ l' < l)))) → ¬ tr K (SF f Mk L o p) i' j' l') ∧ a = 5 ∧ k = 3 ∧ x = nI i ∧ y = nI j ∧ z = nI l) ∨ ((∀ i j l, ¬ tr K (SF f Mk L o p) i j l) ∧ a = 1 ∧ k = 0))
/-- behind the outline -/
def J3 (σ : mm_S) (m L f : Nat) (o Mk : Nat → Nat) (a k x y z : Int32) : Prop := (∃ K, (∃ g, g < f ∧ 3 < bc (Mk g) 13 ∧ kk (Mk g) = K) ∧ (∀ g, g < f → 3 < bc (Mk g) 13 → K ≤ kk (Mk g)) ∧ a = 3 ∧ k = 3 ∧ x = nI (K / 100) ∧ y = nI (K / 10 % 10) ∧ z = nI (K % 10)) ∨ ((∀ g, g < f → bc (Mk g) 13 ≤ 3) ∧ ((¬ fit σ L o ∧ a = 4 ∧ k = 0) ∨ (fit σ L o ∧ J5 σ m L f o Mk a k x y z)))
def JV (σ : mm_S) (n m : Nat) (a k x y z oc fc : Int32) : Prop :=
  (∃ e f, cfa σ n e f ∧ a = 0 ∧ k = 2 ∧ x = nI e ∧ y = nI f ∧ oc = 0 ∧ fc = 0) ∨
  (J0 σ n ∧ (bc m 9 < 3 ∨ (3 ≤ bc m 9 ∧ ¬ Cn σ m) ∨ (3 ≤ bc m 9 ∧ Cn σ m ∧ ∃ B s t, BN σ m B ∧ wms σ m 9 s ∧ nms σ s 9 t ∧ NSp B s t)) ∧ a = 2 ∧ k = 0 ∧ oc = 0 ∧ fc = 0) ∨
  (J0 σ n ∧ 3 ≤ bc m 9 ∧ Cn σ m ∧ ∃ B s t L f Mk, BN σ m B ∧ wms σ m 9 s ∧ nms σ s 9 t ∧ OLp B s t L ∧ FLp σ m B s t L f Mk ∧ oc = nI L ∧ fc = nI f ∧ J3 σ m L f (wo B s t) Mk a k x y z)
theorem JV_cg {σ τ : mm_S} {n m : Nat} {a k x y z oc fc : Int32} (h1 : τ 1 = σ 1) (h11 : τ 11 = σ 11) (h12 : τ 12 = σ 12) (h15 : τ 15 = σ 15) (h16 : τ 16 = σ 16) (h17 : τ 17 = σ 17) (h83 : τ 83 = σ 83) (h10 : τ 10 10 = σ 10 10) (J : JV σ n m a k x y z oc fc) : JV τ n m a k x y z oc fc := by
  have ea : aj τ = aj σ := aj_cg h15
  have ev : vc τ = vc σ := vc_cg h11 h12
  have e26 : f_26 τ = f_26 σ := by funext e f; unfold f_26; rw [f_27_cg h11 h12 h16 h17, h16, h17]
  have ex : cxx τ = cxx σ := by funext e f; unfold cxx; rw [e26, f_29_cg h11 h12 h16 h17]
  have el : clx τ = clx σ := by funext e f; unfold clx; rw [xd_cg h1, f_27_cg h11 h12 h16 h17]
  have e1 : cfa τ = cfa σ := by funext n a b; unfold cfa; rw [ex, el]
  have e2 : J0 τ = J0 σ := by funext n; unfold J0; rw [ex, el]
  have e3 : Cn τ = Cn σ := by funext m; unfold Cn; rw [ea]
  have e4 : BN τ = BN σ := by funext m B; unfold BN; rw [ea, ev]
  have e5 : Dt τ = Dt σ := by funext m x; unfold Dt; rw [ea]
  have e6 : FLp τ = FLp σ := by funext m B s t L f Mk; unfold FLp; rw [e5]
  have e7 : fit τ = fit σ := by funext L o; unfold fit; rw [h83, h10]
  have e8 : NB τ = NB σ := by funext m o p L c K; unfold NB; rw [ea]
  have e9 : J5 τ = J5 σ := by funext m L f o Mk a k x y z; unfold J5; rw [h83, e8]
  have e10 : J3 τ = J3 σ := by funext m L f o Mk a k x y z; unfold J3; rw [e7, e9]
  unfold JV at *
  rw [e1, e2, e3, e4, e6, e10, wms_cg h11 h12, nms_cg h11 h12 h15]
  exact J
/-- the numbers that plan() shows -/
def WV (τ : mm_S) (k x y z oc fc : Int32) : Prop := τ 3 1 = k ∧ (k = 2 → τ 20 0 = x ∧ τ 20 1 = y) ∧ (k = 3 → τ 20 0 = x ∧ τ 20 1 = y ∧ τ 20 2 = z) ∧ τ 2 4 = oc ∧ τ 2 5 = fc
theorem f57_S0 {σ τ : mm_S} {m L f : Nat} {o p c K Mk : Nat → Nat} (B : NB σ m o p L (fun s => st L p s + 1) K) (O : OA τ L o) (f42 : f ≤ 42) (e6 : τ 5 6 = nI f) (hM : ∀ g, g < f → Mk g < 512 ∧ τ 43 g = nI (Mk g)) (hc : ∀ i, i < 4 → c i < 9 ∧ τ 19 i = nI (c i)) (hp : ∀ i, i < 4 → p i < L ∧ τ 32 (c i) = nI (p i)) (lay : ∀ s, s < 4 → (p 0 + frm L p s) % L = p s ∧ tom L p s = frm L p s + st L p s ∧ tom L p s ≤ L) (i j k : Nat) : tri τ K i j k ↔ tr K (SF f Mk L o p) i j k := by
  unfold tri tr
  constructor
  · rintro ⟨a1, a2, a3, a4, a5, a6, a7⟩
    exact ⟨a1, a2, a3, a4, a5, a6, (f57_SF B O f42 e6 hM hc hp lay a1 a2 a3 a4 a5 a6).mp a7⟩
  · rintro ⟨a1, a2, a3, a4, a5, a6, a7⟩
    exact ⟨a1, a2, a3, a4, a5, a6, (f57_SF B O f42 e6 hM hc hp lay a1 a2 a3 a4 a5 a6).mpr a7⟩
theorem c_18s {d n m : Nat} {Q : mm_Q} {σ : mm_S} (Z0 : ZI σ n m) (q : ∀ τ a k x y z oc fc, jfr σ τ → BG τ → DG τ → WN τ → JV σ n m a k x y z oc fc → WV τ k x y z oc fc → Q (some (.int a)) τ) : mD (d + 62) 18 [.ref 2] σ Q := by
  have C := Z0.ck
  have K0 := Z0.co
  have hB := Z0.bg
  have hD := Z0.dg
  refine ke_18 (kb_18_0 (c_19 (kb_18_7 ?_)))
  have F2 : ∀ c, c ≠ 2 → c ≠ 3 → (mm_up (mm_up (mm_up σ 3 1 (0 : Int32)) 2 4 (0 : Int32)) 2 5 (0 : Int32)) c = σ c := fun c h2 h3 => by rw [mm_up_n h2, mm_up_n h2, mm_up_n h3]
  have W0 : (mm_up (mm_up (mm_up σ 3 1 (0 : Int32)) 2 4 (0 : Int32)) 2 5 (0 : Int32)) 3 1 = 0 := by rw [mm_up_n (by decide), mm_up_n (by decide)]; exact mm_up_s
  have U4 : (mm_up (mm_up (mm_up σ 3 1 (0 : Int32)) 2 4 (0 : Int32)) 2 5 (0 : Int32)) 2 4 = 0 := by rw [mm_up_o (by decide)]; exact mm_up_s
  have U5 : (mm_up (mm_up (mm_up σ 3 1 (0 : Int32)) 2 4 (0 : Int32)) 2 5 (0 : Int32)) 2 5 = 0 := mm_up_s
  generalize mm_up (mm_up (mm_up σ 3 1 (0 : Int32)) 2 4 (0 : Int32)) 2 5 (0 : Int32) = σ2 at F2 W0 U4 U5
  have jv : ∀ {a k x y z oc fc}, JV σ2 n m a k x y z oc fc → JV σ n m a k x y z oc fc := fun J => JV_cg (F2 1 (by decide) (by decide)).symm (F2 11 (by decide) (by decide)).symm (F2 12 (by decide) (by decide)).symm (F2 15 (by decide) (by decide)).symm (F2 16 (by decide) (by decide)).symm (F2 17 (by decide) (by decide)).symm (F2 83 (by decide) (by decide)).symm (by rw [F2 10 (by decide) (by decide)]) J
  have qq : ∀ τ a, jfr σ τ → BG τ → DG τ → WN τ → (∃ k x y z oc fc, JV σ2 n m a k x y z oc fc ∧ WV τ k x y z oc fc) → Q (some (.int a)) τ := fun τ a h1 h2 h3 h4 ⟨k, x, y, z, oc, fc, h5, h6⟩ => q τ a k x y z oc fc h1 h2 h3 h4 (jv h5) h6
  have sm : ∀ {τ : mm_S}, τ 3 1 = 0 → τ 2 4 = 0 → τ 2 5 = 0 → WV τ 0 0 0 0 0 0 := fun a b c => ⟨a, fun h => absurd h (by decide), fun h => absurd h (by decide), b, c⟩
  have C2 : CK σ2 n m := CK_cg (F2 1 (by decide) (by decide)) (F2 11 (by decide) (by decide)) (F2 12 (by decide) (by decide)) (F2 15 (by decide) (by decide)) (F2 16 (by decide) (by decide)) (F2 17 (by decide) (by decide)) C
  have J2 : ∀ τ, (∀ c, c ≠ 2 → c ≠ 3 → c ≠ 20 → (c < 5 ∨ c = 9 ∨ c = 10 ∨ (11 ≤ c ∧ c ≤ 19) ∨ 73 ≤ c) → τ c = σ2 c) → jfr σ τ := fun τ h c hc => by rw [h c (by omega) (by omega) (by omega) (by omega)]; exact F2 c (by omega) (by omega)
  have e11 : σ2 1 11 = nI (bc m 9) := C2.cr
  have b9 := bc_n m 9
  have B2 : BG σ2 := BG_cg (fun c h1 h2 => F2 c (by omega) (by omega)) hB
  have D2 : DG σ2 := DG_cg (F2 45 (by decide) (by decide)) hD
  refine c_23 C2.Jr (fun a b cf => ?_) (fun N NL => ?_)
  · refine kb_18_28 (fun z => absurd z (by decide)) (fun _ => kb_18_31 (qq _ _ (J2 _ (fun c h2 h3 h20 _ => ?_)) (BG_cg (fun c h1 h2 => ?_) B2) (DG_cg ?_ D2) (Or.inr (Or.inl mm_up_s)) ⟨2, nI a, nI b, 0, 0, 0, Or.inl ⟨a, b, cf, rfl, rfl, rfl, rfl, rfl, rfl⟩, mm_up_s, fun _ => ⟨?_, ?_⟩, fun h => absurd h (by decide), ?_, ?_⟩))
    · unfold tw2; rw [mm_up_n h3, mm_up_n h20, mm_up_n h20]
    · unfold tw2; rw [mm_up_n (by omega), mm_up_n (by omega), mm_up_n (by omega)]
    · unfold tw2; rw [mm_up_n (by omega), mm_up_n (by omega), mm_up_n (by omega)]
    · unfold tw2; rw [mm_up_n (by decide), mm_up_o (by decide)]; exact mm_up_s
    · unfold tw2; rw [mm_up_n (by decide)]; exact mm_up_s
    · unfold tw2; rw [mm_up_n (by decide), mm_up_n (by decide), mm_up_n (by decide)]; exact U4
    · unfold tw2; rw [mm_up_n (by decide), mm_up_n (by decide), mm_up_n (by decide)]; exact U5
  · refine kb_18_28 (fun _ => kb_18_33 (fun hr => kb_18_64 (qq _ _ (J2 _ (fun _ _ _ _ _ => rfl)) B2 D2 (Or.inl W0) ⟨0, 0, 0, 0, 0, 0, Or.inr (Or.inl ⟨⟨N, NL⟩, Or.inl (by rw [e11] at hr; exact (nI_ltI (b := 3) (by omega) (by omega)).mp hr), rfl, rfl, rfl, rfl⟩), sm W0 U4 U5⟩)) (fun hr => kb_18_44 ?_)) (fun z => absurd rfl z)
    have h3 : 3 ≤ bc m 9 := by
      rcases Nat.lt_or_ge (bc m 9) 3 with y | y
      · exact absurd (by rw [e11]; exact (nI_ltI (b := 3) (by omega) (by omega)).mpr y) hr
      · exact y
    refine c_31 C2 (by omega) (fun Z => kb_18_51 (fun z => absurd z (by decide)) (fun _ => kb_18_54 ?_)) (fun nC => kb_18_51 (fun _ => kb_18_64 (qq _ _ (J2 _ (fun _ _ _ _ _ => rfl)) B2 D2 (Or.inl W0) ⟨0, 0, 0, 0, 0, 0, Or.inr (Or.inl ⟨⟨N, NL⟩, Or.inr (Or.inl ⟨h3, nC⟩), rfl, rfl, rfl, rfl⟩), sm W0 U4 U5⟩)) (fun z => absurd rfl z))
    refine c_32 C2 N (by omega) (fun i hi mi => Cn_aj Z h3 hi mi) (fun τ s t L fr H W T O => kb_18_61 (fun z => absurd z (by decide)) (fun _ => kb_18_66 ?_)) (fun τ s t fr H W T ns => kb_18_61 (fun _ => kb_18_64 (qq _ _ (J2 _ (fun c _ _ _ h => fr.1 c (by omega) (by omega))) (BG_cg (fun c h1 h2 => fr.1 c (by omega) (by omega)) B2) (DG_cg (fr.1 45 (by omega) (by omega)) D2) (Or.inl (by rw [fr.1 3 (by omega) (by omega)]; exact W0)) ⟨0, 0, 0, 0, 0, 0, Or.inr (Or.inl ⟨⟨N, NL⟩, Or.inr (Or.inr ⟨h3, Z, Bf τ, s, t, BH_BN H, W, T, ns⟩), rfl, rfl, rfl, rfl⟩), sm (by rw [fr.1 3 (by omega) (by omega)]; exact W0) (by rw [fr.1 2 (by omega) (by omega)]; exact U4) (by rw [fr.1 2 (by omega) (by omega)]; exact U5)⟩)) (fun z => absurd rfl z))
    have AJ := wo_aj C2 H W.1 W.2.2.1 T.1
    refine c_39 C2 N (fun c h1 h2 => fr.1 c h1 h2) H W.1 W.2.2.1 T.1 O (fun τ1 f I => kb_18_73 ?_)
    obtain ⟨i1, i2, S, i4⟩ := I
    have k1 : ∀ c, c ≠ 5 → (c < 22 ∨ 43 < c) → τ1 c = σ2 c := fun c h1 h2 => by rw [i1 c h1 (by omega)]; exact fr.1 c h1 (by omega)
    -- the state behind the counts
    have F3 : ∀ c, c ≠ 2 → (mm_up (mm_up τ1 2 4 (τ1 5 3)) 2 5 ((mm_up τ1 2 4 (τ1 5 3)) 5 6)) c = τ1 c := fun c h => by rw [mm_up_n h, mm_up_n h]
    have V4 : (mm_up (mm_up τ1 2 4 (τ1 5 3)) 2 5 ((mm_up τ1 2 4 (τ1 5 3)) 5 6)) 2 4 = nI L := by rw [mm_up_o (by decide), mm_up_s, i2 3 (by decide)]; exact O.2.2.1
    have V5 : (mm_up (mm_up τ1 2 4 (τ1 5 3)) 2 5 ((mm_up τ1 2 4 (τ1 5 3)) 5 6)) 2 5 = nI f := by rw [mm_up_s, mm_up_n (by decide)]; exact S.fc
    generalize mm_up (mm_up τ1 2 4 (τ1 5 3)) 2 5 ((mm_up τ1 2 4 (τ1 5 3)) 5 6) = τ2 at F3 V4 V5
    have k2 : ∀ c, c ≠ 2 → c ≠ 5 → (c < 22 ∨ 43 < c) → τ2 c = σ2 c := fun c h0 h1 h2 => by rw [F3 c h0]; exact k1 c h1 h2
    have H1 : BH σ2 τ1 m := BH_cg (fun k h1 h2 => i1 k (by omega) (by omega)) H
    have f42 : f ≤ 42 := by
      obtain ⟨v, hv, _⟩ := S.ct
      have := bc_n v 42
      omega
    have faces : ∀ g, g < f → ∃ M, M < 512 ∧ τ2 43 g = nI M := fun g hg => by
      obtain ⟨M, m1, m2, _⟩ := S.fr g hg
      exact ⟨M, m1, by rw [F3 43 (by decide)]; exact m2⟩
    have exM : ∃ Mk : Nat → Nat, ∀ g, g < f → Mk g < 512 ∧ τ1 43 g = nI (Mk g) := ⟨fun g => (τ1 43 g).toNatClampNeg, fun g hg => by
      obtain ⟨M, m1, m2, _⟩ := S.fr g hg
      show (τ1 43 g).toNatClampNeg < 512 ∧ τ1 43 g = nI (τ1 43 g).toNatClampNeg
      rw [m2, nI_clamp (by omega)]
      exact ⟨m1, rfl⟩⟩
    obtain ⟨Mk, hMk⟩ := exM
    have pe : ∀ x, Dt σ2 m x → ph (Bf τ1) x = ph (Bf τ) x := fun x hx => by
      unfold ph
      rw [Bf_cg (fun k h1 h2 => i1 k (by omega) (by omega)) _ _ (Dt_2 C2 hx).1]
    have FL : FLp σ2 m (Bf τ) s t L f Mk := ⟨f42, Fw τ1, fun x hx => by rw [← pe x hx]; exact S.iv x hx, fun x hx => (S.rg x hx).resolve_left (i4 x hx).1, fun x hx => (i4 x hx).2, fun g hg => by
      obtain ⟨M, m1, m2, m3, x, x1, x2, x3⟩ := S.fr g hg
      have e : Mk g = M := (nI_eq (by have := (hMk g hg).1; omega) (by omega)).mp ((hMk g hg).2.symm.trans m2)
      rw [e]
      refine ⟨m1, m3, x, x1, x2, fun y hy hl => ?_⟩
      obtain ⟨k, ek⟩ := x3 y hy hl
      exact ⟨k, by rw [ek]; exact it_cg (D := Dt σ2 m) (fun x h => ph_D C2 H x h) pe x1 k⟩⟩
    have hM2 : ∀ g, g < f → Mk g < 512 ∧ τ2 43 g = nI (Mk g) := fun g hg => ⟨(hMk g hg).1, by rw [F3 43 (by decide)]; exact (hMk g hg).2⟩
    have OP : OLp (Bf τ) s t L := ⟨O.1, O.2.1, O.2.2.2.1, O.2.2.2.2.1, O.2.2.2.2.2.1⟩
    have wk := wfb_k hM2 f (Nat.le_refl f)
    have j3 : ∀ {a k x y z : Int32}, J3 σ2 m L f (wo (Bf τ) s t) Mk a k x y z → JV σ2 n m a k x y z (nI L) (nI f) := fun J => Or.inr (Or.inr ⟨⟨N, NL⟩, h3, Z, Bf τ, s, t, L, f, Mk, BH_BN H, W, T, OP, FL, rfl, rfl, J⟩)
    refine c_43 (by rw [F3 5 (by decide)]; exact S.fc) f42 faces (fun wn => kb_18_106 (fun z => absurd z (by decide)) (fun _ => kb_18_109 (qq _ _ (J2 _ (fun c h2 h3 h20 h => ?_)) (BG_cg (fun c h1 h2 => ?_) B2) (DG_cg ?_ D2) (Or.inr (Or.inr mm_up_s)) ?_))) (fun wz => kb_18_106 (fun _ => kb_18_111 ?_) (fun z => absurd rfl z))
    · unfold tw3; rw [mm_up_n h3, mm_up_n h20, mm_up_n h20, mm_up_n h20]; exact k2 c h2 (by omega) (by omega)
    · unfold tw3; rw [mm_up_n (by omega), mm_up_n (by omega), mm_up_n (by omega), mm_up_n (by omega)]; exact k2 c (by omega) (by omega) (by omega)
    · unfold tw3; rw [mm_up_n (by omega), mm_up_n (by omega), mm_up_n (by omega), mm_up_n (by omega)]; exact k2 45 (by omega) (by omega) (by omega)
    · rcases wk with ⟨w0, _⟩ | ⟨b, b9', b3, eb, ⟨g, hg, g1, g2⟩, y⟩
      · exact absurd w0 wn
      · refine ⟨3, nI (kk b / 100), nI (kk b / 10 % 10), nI (kk b % 10), nI L, nI f, j3 (Or.inl ⟨kk b, ⟨g, hg, g1, g2⟩, y, rfl, rfl, rfl, rfl, rfl⟩), ?_⟩
        rw [eb, tw3_k b9' b3]
        refine ⟨mm_up_s, fun h => absurd h (by decide), fun _ => ⟨?_, ?_, ?_⟩, ?_, ?_⟩
        · rw [mm_up_n (by decide), mm_up_o (by decide), mm_up_o (by decide)]; exact mm_up_s
        · rw [mm_up_n (by decide), mm_up_o (by decide)]; exact mm_up_s
        · rw [mm_up_n (by decide)]; exact mm_up_s
        · rw [mm_up_n (by decide), mm_up_n (by decide), mm_up_n (by decide), mm_up_n (by decide)]; exact V4
        · rw [mm_up_n (by decide), mm_up_n (by decide), mm_up_n (by decide), mm_up_n (by decide)]; exact V5
    have small : ∀ g, g < f → bc (Mk g) 13 ≤ 3 := by
      rcases wk with ⟨_, y⟩ | ⟨b, b9', b3, eb, _⟩
      · exact y
      · exfalso
        rw [eb] at wz
        have : b = 0 := (nI_eq (b := 0) (by omega) (by omega)).mp wz
        subst this
        exact absurd b3 (by decide)
    have three : ∀ g, g < f → ∃ M, M < 512 ∧ τ2 43 g = nI M ∧ bc M 9 = 3 := fun g hg => by
      obtain ⟨M, m1, m2⟩ := faces g hg
      refine ⟨M, m1, m2, ?_⟩
      have up := wfb_0 faces f (Nat.le_refl f) wz g M hg m1 m2
      have lo3 := FS_3 C2 H1 S Z h3 hg m1 (by rw [← F3 43 (by decide)]; exact m2)
      have e13 : bc M 9 ≤ bc M 13 := by
        show bc M 9 ≤ bc M 9 + _ + _ + _ + _
        omega
      omega
    have O1 : OA τ L (wo (Bf τ) s t) := OL_OA O (fun k => (AJ k).1)
    have O2 : OA τ2 L (wo (Bf τ) s t) := OA_cg (by rw [F3 5 (by decide), i2 3 (by decide)]) (by rw [F3 31 (by decide), i1 31 (by decide) (by omega)]) (by rw [F3 32 (by decide), i1 32 (by decide) (by omega)]) O1
    have l9 := O1.2.1
    have stop : ∀ (τ' : mm_S), (∀ c, c ≠ 44 → (c < 22 ∨ 30 < c) → c ≠ 3 → c ≠ 20 → τ' c = τ2 c) → jfr σ τ' ∧ BG τ' ∧ DG τ' := fun τ' h => ⟨J2 _ (fun c h2 h3 h20 hh => by rw [h c (by omega) (by omega) h3 h20]; exact k2 c h2 (by omega) (by omega)), BG_cg (fun c h1 h2 => by rw [h c (by omega) (by omega) (by omega) (by omega)]; exact k2 c (by omega) (by omega) (by omega)) B2, DG_cg (by rw [h 45 (by omega) (by omega) (by omega) (by omega)]; exact k2 45 (by omega) (by omega) (by omega)) D2⟩
    have s1 : τ2 1 = σ2 1 := k2 1 (by decide) (by decide) (by omega)
    have s19 : τ2 19 = σ2 19 := k2 19 (by decide) (by decide) (by omega)
    have pl : ∀ i, i < 9 → (∃ k, k < L ∧ τ2 32 i = nI k) ∨ τ2 32 i = -1 := fun i hi => by
      obtain ⟨_, _, _, _, _, _, arr, non⟩ := O
      have e32 : τ2 32 = τ 32 := by rw [F3 32 (by decide), i1 32 (by decide) (by omega)]
      rw [e32]
      by_cases ex : ∃ j, j < L ∧ wo (Bf τ) s t j = i
      · obtain ⟨j, hj, e⟩ := ex
        exact Or.inl ⟨j, hj, by rw [← e]; exact (arr j hj).2⟩
      · exact Or.inr (non i hi (fun j hj e => ex ⟨j, hj, e⟩))
    have cc2 : σ2 10 10 = σ2 1 9 ∧ (σ2 1 9 = 1 → ∀ i, i < 4 → σ2 83 i = σ2 19 i) := by
      rw [F2 10 (by decide) (by decide), F2 1 (by decide) (by decide), F2 83 (by decide) (by decide), F2 19 (by decide) (by decide)]; exact Z0.cc
    have hn9 : τ2 1 9 = 0 ∨ τ2 1 9 = 1 := by rw [s1, F2 1 (by decide) (by decide)]; exact K0.1
    have four : ¬ fit σ2 L (wo (Bf τ) s t) → mw (d + 61) mt_18 Q 121 [some (.ref 2)] [] τ2 := fun nf => by
      refine kb_18_121 ?_
      obtain ⟨x1, x2, x3⟩ := stop τ2 (fun _ _ _ _ _ => rfl)
      have w31 : τ2 3 1 = 0 := by rw [k2 3 (by omega) (by omega) (by omega)]; exact W0
      exact qq _ _ x1 x2 x3 (Or.inl w31) ⟨0, 0, 0, 0, nI L, nI f, j3 (Or.inr ⟨small, Or.inl ⟨nf, rfl, rfl⟩⟩), w31, fun h => absurd h (by decide), fun h => absurd h (by decide), V4, V5⟩
    rcases hn9 with h90 | h91
    · refine ks_47_0 (fun _ => kb_18_118 (fun _ => four (fun F => ?_)) (fun z => absurd rfl z)) (fun z => absurd h90 z)
      rw [s1] at h90
      have := F.1
      rw [cc2.1, h90] at this
      exact absurd this (by decide)
    have h91' : σ2 1 9 = 1 := by rw [← s1]; exact h91
    have e83 : ∀ i, i < 4 → σ2 83 i = τ2 19 i := fun i hi => by rw [s19]; exact cc2.2 h91' i hi
    refine c_47 (by omega) O2.2.2.1 (Or.inr h91) (fun h i hi => ?_) pl (fun p c hc hp hs => kb_18_118 (fun z => absurd z (by decide)) (fun _ => kb_18_123 ?_)) (fun nf => kb_18_118 (fun _ => four (fun F => ?_)) (fun z => absurd rfl z))
    · rw [s19, F2 19 (by decide) (by decide)]
      rw [s1, F2 1 (by decide) (by decide)] at h
      exact K0.2 h i hi
    · have hp' : ∀ i, i < 4 → p i < L ∧ wo (Bf τ) s t (p i) = c i := fun i hi => ⟨(hp i hi).1, (O2.2.2.2.2 (c i) (p i) (hc i hi).1 (hp i hi).1 (hp i hi).2).symm⟩
      have hc' : ∀ i, i < 4 → c i < 9 ∧ σ2 83 i = nI (c i) := fun i hi => ⟨(hc i hi).1, by rw [e83 i hi]; exact (hc i hi).2⟩
      have fi : fit σ2 L (wo (Bf τ) s t) := ⟨by rw [cc2.1]; exact h91', p, c, hc', hp', hs⟩
      have lay := (lay_p (L := L) (p := p) (by omega) (fun i hi => (hp i hi).1)).2 hs
      refine c_54 C2 s1 (k2 15 (by decide) (by decide) (by omega)) O2 hc hp (fun τ3 K f3 hK B => kb_18_130 ?_)
      have O3 : OA τ3 L (wo (Bf τ) s t) := OA_cg (by rw [f3 5 (by decide)]) (f3 31 (by decide)) (f3 32 (by decide)) O2
      have hK' : ∀ v, v < 13 → τ3 44 v = nI (K v) ∧ K v < 8192 := fun v hv => ⟨hK v hv, B.1 v hv⟩
      have TP3 : TP τ3 L := ⟨⟨f, f42, by rw [f3 5 (by decide), F3 5 (by decide)]; exact S.fc⟩, l9, O3.2.2.1, fun i hi => by rw [f3 32 (by decide)]; exact pl i hi⟩
      have tq := f57_S0 (c := c) (Mk := Mk) B O3 f42 (by rw [f3 5 (by decide), F3 5 (by decide)]; exact S.fc) (fun g hg => by rw [f3 43 (by decide)]; exact hM2 g hg) (fun i hi => by rw [f3 19 (by decide)]; exact hc i hi) (fun i hi => by rw [f3 32 (by decide)]; exact hp i hi) lay
      refine c_55 TP3 hK' (fun i j k tk tm => kb_18_141 (fun z => absurd z (by decide)) (fun _ => kb_18_144 ?_)) (fun nt => kb_18_141 (fun _ => kb_18_146 ?_) (fun z => absurd rfl z))
      · obtain ⟨x1, x2, x3⟩ := stop (tw3n τ3 i j k) (fun c h1 _ h3 h20 => by unfold tw3n; rw [mm_up_n h3, mm_up_n h20, mm_up_n h20, mm_up_n h20]; exact f3 c h1)
        refine qq _ _ x1 x2 x3 (Or.inr (Or.inr mm_up_s)) ⟨3, nI i, nI j, nI k, nI L, nI f, j3 (Or.inr ⟨small, Or.inr ⟨fi, p, c, K, hc', hp', hs, B, Or.inl ⟨i, j, k, (tq i j k).mp tk, fun i' j' l' h y => tm i' j' l' h ((tq i' j' l').mpr y), rfl, rfl, rfl, rfl, rfl⟩⟩⟩), mm_up_s, fun h => absurd h (by decide), fun _ => ⟨?_, ?_, ?_⟩, ?_, ?_⟩
        · unfold tw3n; rw [mm_up_n (by decide), mm_up_o (by decide), mm_up_o (by decide)]; exact mm_up_s
        · unfold tw3n; rw [mm_up_n (by decide), mm_up_o (by decide)]; exact mm_up_s
        · unfold tw3n; rw [mm_up_n (by decide)]; exact mm_up_s
        · unfold tw3n; rw [mm_up_n (by decide), mm_up_n (by decide), mm_up_n (by decide), mm_up_n (by decide), f3 2 (by decide)]; exact V4
        · unfold tw3n; rw [mm_up_n (by decide), mm_up_n (by decide), mm_up_n (by decide), mm_up_n (by decide), f3 2 (by decide)]; exact V5
      · obtain ⟨l1, _, _, eL, eL1, dis, _, _⟩ := id O
        refine c_59 O3 dis hK' (fun τ4 f4 row rws => kb_18_153 ?_)
        have k4 : ∀ c, (c < 22 ∨ 30 < c) → c ≠ 44 → τ4 c = τ2 c := fun c h1 h2 => by rw [f4 c h1]; exact f3 c h2
        have O4 : OA τ4 L (wo (Bf τ) s t) := OA_cg (by rw [f4 5 (by omega)]) (f4 31 (by omega)) (f4 32 (by omega)) O3
        have oin : ∀ k, k < L → ∃ s', s' < 4 ∧ (K (wo (Bf τ) s t k)).testBit (9 + s') = true := fun k hk => by
          obtain ⟨s', h4, ho⟩ := cover (o := wo (Bf τ) s t) (fun i hi => (hp i hi).1) hs hk
          exact ⟨s', h4, (B.2.2.1 _ s' (AJ k).1 h4).mpr ho⟩
        have vg := vg_ok C2 H O AJ (fun a ha => by rw [f3 _ (by omega), F3 _ (by omega), i1 _ (by omega) (by omega)]) i4 S.rg (fun c h1 h2 => by rw [f4 c (by omega), f3 c (by omega), F3 c (by omega)]) row rws oin
        have x4 := stop τ4 (fun c h1 h2 _ _ => k4 c h2 h1)
        refine c_61 (d := d + 1) C2 Z (by rw [k4 1 (by omega) (by omega)]; exact s1) (by rw [k4 15 (by omega) (by omega)]; exact k2 15 (by decide) (by decide) (by omega)) (by rw [k4 16 (by omega) (by omega)]; exact k2 16 (by decide) (by decide) (by omega)) (by rw [k4 17 (by omega) (by omega)]; exact k2 17 (by decide) (by decide) (by omega)) f42 (by rw [k4 5 (by omega) (by omega), F3 5 (by decide)]; exact S.fc) (fun g hg => ?_) O4 dis (fun k hk => (AJ k).2.1) (fun v hv => by rw [f4 44 (by omega)]; exact hK' v hv) (V := VV σ2 m L (wo (Bf τ) s t) K) (fun k s' hk F => ⟨(AJ k).2.1, Or.inr ⟨k, s', 0, hk, rfl, F, by decide, by rw [Nat.add_zero, Nat.mod_eq_of_lt F.1], fun i hi => ?_⟩⟩) (fun r v hr mr hrv => ⟨mr, Or.inl ⟨hrv.1, hrv⟩⟩) vg x4.2.1 x4.2.2 (fun τ5 f5 B5 D5 => kb_18_160 ?_)
        · obtain ⟨M, m1, m2, m3⟩ := three g hg
          exact ⟨M, m1, by rw [k4 43 (by omega) (by omega)]; exact m2, m3⟩
        · have i0 : i = 0 := by omega
          subst i0
          rw [Nat.add_zero, Nat.mod_eq_of_lt F.1]
          exact FSd_on F (oin k hk)
        · have g1 : τ5 1 = σ2 1 := by rw [f5 1 (by decide) (by omega), k4 1 (by omega) (by omega)]; exact s1
          have g16 : τ5 16 = σ2 16 := by rw [f5 16 (by decide) (by omega), k4 16 (by omega) (by omega)]; exact k2 16 (by decide) (by decide) (by omega)
          have g17 : τ5 17 = σ2 17 := by rw [f5 17 (by decide) (by omega), k4 17 (by omega) (by omega)]; exact k2 17 (by decide) (by decide) (by omega)
          refine c_72 (n := n) ⟨⟨C2.jn.1, by rw [g1]; exact C2.jn.2⟩, fun k hk => ?_, D5⟩ (fun τ6 f6 => kb_18_167 (qq _ _ (fun c hc => ?_) (BG_cg (fun c h1 h2 => f6 c (by omega) (by omega)) B5) (DG_cg (f6 45 (by omega) (by omega)) D5) (Or.inl (by rw [f6 3 (by omega) (by omega), f5 3 (by omega) (by omega), k4 3 (by omega) (by omega), k2 3 (by omega) (by omega) (by omega)]; exact W0)) ⟨0, 0, 0, 0, nI L, nI f, j3 (Or.inr ⟨small, Or.inr ⟨fi, p, c, K, hc', hp', hs, B, Or.inr ⟨fun i j l y => nt i j l ((tq i j l).mpr y), rfl, rfl⟩⟩⟩), ?_⟩))
          · obtain ⟨a, b, ha, hb, _, _, _, e1, e2⟩ := C2.je k hk
            exact ⟨a, b, ha, hb, by rw [g16]; exact e1, by rw [g17]; exact e2⟩
          · rw [f6 c (by omega) (by omega), f5 c (by omega) (by omega)]
            exact x4.1 c hc
          · have z3 : τ6 3 1 = 0 := by rw [f6 3 (by omega) (by omega), f5 3 (by omega) (by omega), k4 3 (by omega) (by omega), k2 3 (by omega) (by omega) (by omega)]; exact W0
            have z2 : τ6 2 = τ2 2 := by rw [f6 2 (by omega) (by omega), f5 2 (by omega) (by omega), k4 2 (by omega) (by omega)]
            exact ⟨z3, fun h => absurd h (by decide), fun h => absurd h (by decide), by rw [z2]; exact V4, by rw [z2]; exact V5⟩
    · -- the corners don't fit
      obtain ⟨_, p, c, hc, hp, hs⟩ := F
      have o32 : ∀ i, i < 4 → τ2 32 (c i) = nI (p i) := fun i hi => by
        have := (O2.2.2.2.1 (p i) (hp i hi).1).2.2
        rw [(hp i hi).2] at this
        exact this
      rcases nf with u | ⟨_, i, a, hi, ha, e1, e2⟩ | ⟨p', c', hc', hp', hs'⟩
      · rw [h91] at u; exact absurd u (by decide)
      · have ca : c i = a := nI9 (hc i hi).1 ha ((hc i hi).2.symm.trans ((e83 i hi).trans e1))
        have := o32 i hi
        rw [ca, e2] at this
        exact absurd this.symm (nI_m1 (by have := (hp i hi).1; omega))
      · have ec : ∀ i, i < 4 → c i = c' i := fun i hi => nI9 (hc i hi).1 (hc' i hi).1 ((hc i hi).2.symm.trans ((e83 i hi).trans (hc' i hi).2))
        have ep : ∀ i, i < 4 → p i = p' i := fun i hi => by
          have x1 := o32 i hi
          rw [ec i hi, (hp' i hi).2] at x1
          have y1 := (hp i hi).1
          have y2 := (hp' i hi).1
          exact (nI_eq (by omega) (by omega)).mp x1.symm
        apply hs'
        have es : ∀ i, i < 4 → st L p' i = st L p i := fun i hi => by unfold st; rw [ep i hi, ep _ (f_50_n i hi).2]
        rw [es 0 (by decide), es 1 (by decide), es 2 (by decide), es 3 (by decide)]; exact hs
theorem c_1s {d n m : Nat} {Q : mm_Q} {σ : mm_S} (Z : ZI σ n m) (q : ∀ τ (a : Int32) k x y z oc fc, jfr σ τ → BG τ → DG τ → WN τ → JV σ n m a k x y z oc fc → WV τ k x y z oc fc → Q (some (.int a)) (mm_up τ 0 3 (if a = 1 then 1 else 0))) : mD (d + 63) 1 [.ref 0] σ Q :=
  ke_1 (kb_1_0 (c_18s Z (fun τ a k x y z oc fc F B D W J V => kb_1_7 (fun e => kb_1_14 (by have := q τ a k x y z oc fc F B D W J V; rw [if_pos e] at this; exact this)) (fun e => kb_1_18 (by have := q τ a k x y z oc fc F B D W J V; rw [if_neg e] at this; exact this)))))
end
section
-- the reference's plan answers as the class's
theorem cfa_u {σ : mm_S} {n a b c e : Nat} (h : cfa σ n a b) (k : cfa σ n c e) : a = c ∧ b = e := by
  rcases h with ⟨h1, h2, h3, h4⟩ | ⟨h0, h1, h2, h3, h4⟩ <;> rcases k with ⟨k1, k2, k3, k4⟩ | ⟨k0, k1, k2, k3, k4⟩
  · by_cases x : a < c ∨ (a = c ∧ b < e)
    · exact absurd h3 (k4 a b h1 h2 x)
    · by_cases y : c < a ∨ (c = a ∧ e < b)
      · exact absurd k3 (h4 c e k1 k2 y)
      · omega
  · exact absurd h3 (k0 a b h1 h2)
  · exact absurd k3 (h0 c e k1 k2)
  · by_cases x : a < c ∨ (a = c ∧ b < e)
    · exact absurd h3 (k4 a b h1 h2 x)
    · by_cases y : c < a ∨ (c = a ∧ e < b)
      · exact absurd k3 (h4 c e k1 k2 y)
      · omega
theorem mfa_c {σ : mm_S} {n m a b : Nat} (Z : ZI σ n m) (h : mfa σ n a b) : cfa σ n a b := by
  have X : ∀ e f, e < f → f < n → (mxx σ e f ↔ cxx σ e f) := fun e f h1 h2 => Z.xx (by omega) h2
  rcases h with ⟨h1, h2, h3, h4⟩ | ⟨h0, h1, h2, h3, h4⟩
  · exact Or.inl ⟨h1, h2, (X a b h1 h2).mp h3, fun e f x1 x2 x3 y => h4 e f x1 x2 x3 ((X e f x1 x2).mpr y)⟩
  · exact Or.inr ⟨fun e f x1 x2 y => h0 e f x1 x2 ((X e f x1 x2).mpr y), h1, h2, (Z.lx h1 h2).mp h3, fun e i x1 x2 x3 y => h4 e i x1 x2 x3 ((Z.lx x1 x2).mpr y)⟩
theorem mj0 {σ : mm_S} {n m : Nat} (Z : ZI σ n m) (h : ∀ e f, e < f → f < n → ¬ mxx σ e f) (k : ∀ e i, e < n → i < 9 → ¬ mlx σ e i) : J0 σ n :=
  ⟨fun e f x1 x2 y => h e f x1 x2 ((Z.xx (by omega) x2).mpr y), fun e i x1 x2 y => k e i x1 x2 ((Z.lx x1 x2).mpr y)⟩
theorem cfa_J0 {σ : mm_S} {n a b : Nat} (h : cfa σ n a b) : ¬ J0 σ n := fun ⟨j1, j2⟩ => by
  rcases h with ⟨h1, h2, h3, _⟩ | ⟨_, h1, h2, h3, _⟩
  · exact j1 a b h1 h2 h3
  · exact j2 a b h1 h2 h3
theorem frm_cg {L : Nat} {p p' : Nat → Nat} (h : ∀ i, i < 4 → p i = p' i) : ∀ s, s < 4 → frm L p s = frm L p' s := fun s hs => by
  rw [← frm_v4 s hs, ← frm_v4 (p := p') s hs, h 0 (by decide), h 1 (by decide), h 2 (by decide), h 3 (by decide)]
theorem tom_cg {L : Nat} {p p' : Nat → Nat} (h : ∀ i, i < 4 → p i = p' i) : ∀ s, s < 4 → tom L p s = tom L p' s := fun s hs => by
  rw [← tom_v4 hs, ← tom_v4 (p := p') hs, h 0 (by decide), h 1 (by decide), h 2 (by decide), h 3 (by decide)]
theorem NB_u {σ : mm_S} {m L : Nat} {o p cnt K K' : Nat → Nat} (h : NB σ m o p L cnt K) (h' : NB σ m o p L cnt K') : ∀ v, v < 13 → K v = K' v := fun v hv => by
  obtain ⟨a1, a2, a3, a4, a5⟩ := h
  obtain ⟨b1, b2, b3, b4, b5⟩ := h'
  refine tb_ext (k := 13) (a1 v hv) (b1 v hv) (fun w hw => ?_)
  by_cases v9 : v < 9
  · by_cases w9 : w < 9
    · rw [a2 v w v9 w9, b2 v w v9 w9]
    · obtain ⟨s, hs, e⟩ : ∃ s, s < 4 ∧ w = 9 + s := ⟨w - 9, by omega, by omega⟩
      subst e
      rw [a3 v s v9 hs, b3 v s v9 hs]
  · obtain ⟨s, hs, e⟩ : ∃ s, s < 4 ∧ v = 9 + s := ⟨v - 9, by omega, by omega⟩
    subst e
    by_cases w9 : w < 9
    · rw [a4 s w hs w9, b4 s w hs w9]
    · obtain ⟨s', hs', e⟩ : ∃ s, s < 4 ∧ w = 9 + s := ⟨w - 9, by omega, by omega⟩
      subst e
      rw [a5 s s' hs hs', b5 s s' hs hs']
/-- going back along an orbit -/
theorem it_inj {D : Nat × Nat → Prop} {f : Nat × Nat → Nat × Nat} (hD : ∀ x, D x → D (f x)) (inj : ∀ x y, D x → D y → f x = f y → x = y) {x y : Nat × Nat} (hx : D x) (hy : D y) : ∀ i, it f x i = it f y i → x = y
  | 0, h => h
  | i + 1, h => it_inj hD inj hx hy i (inj _ _ (it_D hD hx i) (it_D hD hy i) h)
theorem orb {D : Nat × Nat → Prop} {f : Nat × Nat → Nat × Nat} (hD : ∀ x, D x → D (f x)) (inj : ∀ x y, D x → D y → f x = f y → x = y) {x y z : Nat × Nat} {i j p : Nat} (hx : D x) (hy : y = it f x i) (hz : z = it f x j) (p1 : 1 ≤ p) (hp : it f y p = y) : ∃ k, z = it f y k := by
  have Dy : D y := by rw [hy]; exact it_D hD hx i
  have e1 : it f y (p * i + 0) = y := it_mul hp 0 i
  have le : i ≤ p * i := by
    have := Nat.mul_le_mul_right i p1
    omega
  have e2 : it f (it f y (p * i - i)) i = it f x i := by
    rw [← it_add, show p * i - i + i = p * i + 0 by omega, e1]; exact hy
  have ex := it_inj hD inj (it_D hD Dy _) hx i e2
  exact ⟨p * i - i + j, by rw [it_add, ex]; exact hz⟩
/-- the faces of both -/
theorem faces_eq {σ ρ : mm_S} {n m s t L f f' : Nat} {B : Nat → Nat → Nat} {Mk Mk' : Nat → Nat} {y : Nat → Nat × Nat} (C : CK σ n m) (N0 : NC σ n) (H : BN σ m B) (FL : FLp σ m B s t L f Mk) (R : RF σ ρ m B (fun x => ∃ i, i < L ∧ x = it (ph B) (s, t) i) f' y) (cov : ∀ x, Dt σ m x → GG B (fun x => ∃ i, i < L ∧ x = it (ph B) (s, t) i) f' y x) (hM : ∀ g, g < f' → Mk' g < 512 ∧ ρ 86 g = nI (Mk' g)) : f' = f ∧ (∀ g, g < f' → ∃ h, h < f ∧ Mk h = Mk' g) ∧ (∀ h, h < f → ∃ g, g < f' ∧ Mk' g = Mk h) := by
  obtain ⟨f42, lab, l1, l2, l3, l4⟩ := FL
  have hD := fun x h => pn_D C H x h
  have inj := fun x y hx hy h => pn_inj C N0 H x y hx hy h
  have g0 : ∀ x, Dt σ m x → ((∃ i, i < L ∧ x = it (ph B) (s, t) i) ↔ lab x = -1) := fun x hx => by
    rw [l3 x hx]
    constructor
    · rintro ⟨i, hi, e⟩; exact ⟨i, hi, by rw [e, it_wo]⟩
    · rintro ⟨i, hi, e⟩; exact ⟨i, hi, by rw [e, it_wo]⟩
  have lo : ∀ x k, Dt σ m x → lab (it (ph B) x k) = lab x := fun x k hx => by
    induction k with
    | zero => rfl
    | succ k ih => rw [← ih]; exact l1 _ (it_D (D := Dt σ m) hD hx k)
  have exh : ∀ g, ∃ h, g < f' → h < f ∧ lab (y g) = nI h := fun g => by
    by_cases hg : g < f'
    · obtain ⟨D, n0, _⟩ := R.1 g hg
      rcases l2 _ D with z | ⟨h, hh, e⟩
      · exact absurd ((g0 _ D).mpr z) n0
      · exact ⟨h, fun _ => ⟨hh, e⟩⟩
    · exact ⟨0, fun h => absurd h hg⟩
  have exf : ∃ h : Nat → Nat, ∀ g, g < f' → h g < f ∧ lab (y g) = nI (h g) := ⟨fun g => (exh g).choose, fun g hg => (exh g).choose_spec hg⟩
  obtain ⟨h, hh⟩ := exf
  -- all of one label are in one orbit
  have one : ∀ g z, g < f' → Dt σ m z → lab z = nI (h g) → ∃ k, z = it (ph B) (y g) k := fun g z hg hz lz => by
    obtain ⟨D, _, ⟨p, p1, ep⟩, _⟩ := R.1 g hg
    obtain ⟨h1, h2⟩ := hh g hg
    obtain ⟨_, _, x, x1, _, x3⟩ := l4 _ h1
    obtain ⟨i, ei⟩ := x3 _ D h2
    obtain ⟨j, ej⟩ := x3 _ hz lz
    exact orb (D := Dt σ m) hD inj x1 ei ej p1 ep
  have mk : ∀ g, g < f' → Mk (h g) = Mk' g := fun g hg => by
    obtain ⟨D, _, _, M, m1, m2, m3⟩ := R.1 g hg
    obtain ⟨h1, h2⟩ := hh g hg
    obtain ⟨u1, u2, _⟩ := l4 _ h1
    have em : Mk' g = M := (nI_eq (by have := (hM g hg).1; omega) (by omega)).mp ((hM g hg).2.symm.trans m2)
    rw [em]
    refine tb_ext (k := 9) u1 m1 (fun a ha => ?_)
    rw [u2 a ha, m3 a]
    constructor
    · rintro ⟨b, hb, lb⟩
      obtain ⟨k, e⟩ := one g _ hg hb lb
      exact ⟨k, by rw [← e]⟩
    · rintro ⟨k, e⟩
      have Dk := it_D (D := Dt σ m) hD D k
      refine ⟨(it (ph B) (y g) k).2, ?_, ?_⟩
      · rw [← e]; exact Dk
      · rw [← e]; exact (lo _ k D).trans h2
  have hinj : ∀ g g', g < g' → g' < f' → h g ≠ h g' := fun g g' h1 h2 e => by
    obtain ⟨D, _⟩ := R.1 g' h2
    have := (hh g' h2).2
    rw [← e] at this
    obtain ⟨k, ek⟩ := one g _ (by omega) D this
    exact R.2 g g' h1 h2 k ek.symm
  have surj : ∀ e, e < f → ∃ g, g < f' ∧ h g = e := fun e he => by
    obtain ⟨_, _, x, x1, x2, _⟩ := l4 e he
    rcases cov x x1 with z | ⟨g, k, hg, ek⟩
    · have := (g0 x x1).mp z
      rw [x2] at this
      exact absurd this (nI_m1 (by omega))
    · obtain ⟨D, _⟩ := R.1 g hg
      obtain ⟨h1, h2⟩ := hh g hg
      have := lo (y g) k D
      rw [← ek, x2, h2] at this
      exact ⟨g, hg, ((nI_eq (by omega) (by omega)).mp this).symm⟩
  refine ⟨?_, fun g hg => ⟨h g, (hh g hg).1, mk g hg⟩, fun e he => ?_⟩
  · have le : f' ≤ f := by
      rcases Nat.lt_or_ge f f' with u | u
      · obtain ⟨i, j, a1, a2, a3⟩ := pig f h (fun i hi => (hh i (by omega)).1)
        exact absurd a3 (hinj i j a1 (by omega))
      · exact u
    have exg : ∀ e, ∃ g, e < f → g < f' ∧ h g = e := fun e => by
      by_cases he : e < f
      · obtain ⟨g, hg⟩ := surj e he; exact ⟨g, fun _ => hg⟩
      · exact ⟨0, fun z => absurd z he⟩
    have exk : ∃ k : Nat → Nat, ∀ e, e < f → k e < f' ∧ h (k e) = e := ⟨fun e => (exg e).choose, fun e he => (exg e).choose_spec he⟩
    obtain ⟨k, hk⟩ := exk
    rcases Nat.lt_or_ge f' f with u | u
    · obtain ⟨i, j, a1, a2, a3⟩ := pig f' k (fun i hi => (hk i (by omega)).1)
      have x1 := (hk i (by omega)).2
      have x2 := (hk j (by omega)).2
      rw [a3, x2] at x1
      omega
    · omega
  · obtain ⟨g, hg, e'⟩ := surj e he
    exact ⟨g, hg, by rw [← mk g hg, e']⟩
def MWV (τ : mm_S) (a k x y z oc fc : Int32) : Prop := (k = 0 → τ 10 13 = -1) ∧ (k = 2 → τ 10 13 = 0 ∧ τ 84 0 = x ∧ τ 84 1 = y) ∧ (k = 3 → ¬ τ 10 13 = -1 ∧ ¬ τ 10 13 = 0 ∧ τ 84 0 = x ∧ τ 84 1 = y ∧ τ 84 2 = z) ∧ τ 10 15 = oc ∧ τ 10 16 = fc ∧ τ 10 12 = if a = 1 then 1 else 0
theorem mt3_13 {τ : mm_S} {w x y z : Int32} : (mt3 τ w x y z) 10 13 = w := by unfold mt3; rw [mm_up_n (by decide), mm_up_n (by decide), mm_up_n (by decide)]; exact mm_up_s
theorem mt3_10 {τ : mm_S} {w x y z : Int32} {j : Nat} (h : j ≠ 13) : (mt3 τ w x y z) 10 j = τ 10 j := by unfold mt3; rw [mm_up_n (by decide), mm_up_n (by decide), mm_up_n (by decide), mm_up_o h]
theorem mt3_84 {τ : mm_S} {w x y z : Int32} : (mt3 τ w x y z) 84 0 = x ∧ (mt3 τ w x y z) 84 1 = y ∧ (mt3 τ w x y z) 84 2 = z := by
  unfold mt3
  refine ⟨?_, ?_, mm_up_s⟩
  · rw [mm_up_o (by decide), mm_up_o (by decide)]; exact mm_up_s
  · rw [mm_up_o (by decide)]; exact mm_up_s
theorem c_142s {d n m : Nat} {Q : mm_Q} {σ : mm_S} {a k x y z oc fc : Int32} (Z0 : ZI σ n m) (Jv : JV σ n m a k x y z oc fc) (q : ∀ τ, MF σ τ → MWV τ a k x y z oc fc → Q (some (.int a)) τ) : mD (d + 6) 142 [.ref 10] σ Q := by
  have n21 := Z0.mk.jn.1
  refine ke_142 (kb_142_0 ?_)
  have g13 : (mm_up (mm_up (mm_up (mm_up σ 10 0 0) 10 13 (-1)) 10 15 0) 10 16 0) 10 13 = -1 := by rw [mm_up_o (by decide), mm_up_o (by decide)]; exact mm_up_s
  have g15 : (mm_up (mm_up (mm_up (mm_up σ 10 0 0) 10 13 (-1)) 10 15 0) 10 16 0) 10 15 = 0 := by rw [mm_up_o (by decide)]; exact mm_up_s
  have g16 : (mm_up (mm_up (mm_up (mm_up σ 10 0 0) 10 13 (-1)) 10 15 0) 10 16 0) 10 16 = 0 := mm_up_s
  generalize hs : mm_up (mm_up (mm_up (mm_up σ 10 0 0) 10 13 (-1)) 10 15 0) 10 16 0 = σ0 at *
  have F0 : MF σ σ0 := by
    rw [← hs]
    exact MF_10 (MF_10 (MF_10 (MF_10 ⟨fun _ _ _ => rfl, fun _ _ => rfl⟩ (by decide)) (by decide)) (by decide)) (by decide)
  have Z : ZI σ0 n m := ZI_MF F0 Z0
  have M := Z.mk
  have J : JV σ0 n m a k x y z oc fc := JV_cg (F0.1 1 (by decide) (by decide)) (F0.1 11 (by decide) (by decide)) (F0.1 12 (by decide) (by decide)) (F0.1 15 (by decide) (by decide)) (F0.1 16 (by decide) (by decide)) (F0.1 17 (by decide) (by decide)) (F0.1 83 (by decide) (by decide)) (F0.2 10 (by decide)) Jv
  clear hs Jv
  have e6 := M.jn.2
  have JR : Mr σ0 n := ⟨n21, e6, fun k hk => by
    obtain ⟨a, b, ha, hb, _, _, _, ea, eb⟩ := M.je k hk
    rw [ea, eb]
    exact ⟨pk_in a 9 ha, pk_in b 9 hb⟩⟩
  -- the answer
  have fin : ∀ {Q' : mm_Q} (τ : mm_S), MF σ τ → (∀ τ', MF σ τ' → (∀ j, j ≠ 12 → τ' 10 j = τ 10 j) → τ' 84 = τ 84 → (τ' 10 12 = if a = 1 then 1 else 0) → Q' (some (.int a)) τ') → mD (d + 5) 141 [.ref 10, .int a] τ Q' := fun {Q'} τ F h =>
    c_141 (fun e => h _ (MF_10 F (by decide)) (fun j hj => mm_up_o hj) (mm_up_n (by decide)) (by rw [mm_up_s, if_pos e])) (fun e => h _ (MF_10 F (by decide)) (fun j hj => mm_up_o hj) (mm_up_n (by decide)) (by rw [mm_up_s, if_neg e]))
  rcases J with ⟨e0, f0, cf, rfl, rfl, rfl, rfl, rfl, rfl⟩ | ⟨j0, why, rfl, rfl, rfl, rfl⟩ | ⟨j0, h3, Cn0, B, s, t, L, f, Mk, H, W, T, OP, FL, rfl, rfl, j3⟩
  · -- crossed
    refine c_99 JR (fun a b mf => kb_142_24 (fun g => absurd g (by decide)) (fun _ => kb_142_27 ?_)) (fun h1 h2 => absurd (mj0 Z h1 h2) (cfa_J0 cf))
    obtain ⟨rfl, rfl⟩ := cfa_u (mfa_c Z mf) cf
    refine fin _ (MF_3 F0) (fun τ' F' h10 h84 h12 => kb_142_32 (q τ' F' ⟨fun h => absurd h (by decide), fun _ => ⟨?_, ?_, ?_⟩, fun h => absurd h (by decide), ?_, ?_, h12⟩))
    · rw [h10 13 (by decide)]; exact mt3_13
    · rw [h84]; exact mt3_84.1
    · rw [h84]; exact mt3_84.2.1
    · rw [h10 15 (by decide), mt3_10 (by decide)]; exact g15
    · rw [h10 16 (by decide), mt3_10 (by decide)]; exact g16
  · -- not round
    refine c_99 JR (fun a b mf => absurd j0 (cfa_J0 (mfa_c Z mf))) (fun _ _ => kb_142_24 (fun _ => kb_142_33 ?_) (fun g => absurd rfl g))
    have N0 : NC σ0 n := j0.1
    refine c_104s M (fun r hr => Z.otr N0 hr) (fun τ1 f1 A1 => kb_142_37 (c_108 ?_))
    have F1 : MF σ τ1 := MF_t F0 ⟨fun c a b => f1 c (by omega) (by omega), fun j _ => by rw [f1 10 (by decide) (by decide)]⟩
    have t59 : ∀ τ, MF σ τ → τ 10 13 = -1 → τ 10 15 = 0 → τ 10 16 = 0 → mw (d + 5) mt_142 Q 59 [some (.ref 10), none] [] τ := fun τ F a1 a2 a3 => kb_142_59 (fin τ F (fun τ' F' h10 h84 h12 => kb_142_64 (q τ' F' ⟨fun _ => by rw [h10 13 (by decide)]; exact a1, fun h => absurd h (by decide), fun h => absurd h (by decide), by rw [h10 15 (by decide)]; exact a2, by rw [h10 16 (by decide)]; exact a3, h12⟩)))
    have T1 := t59 τ1 F1 (by rw [f1 10 (by decide) (by decide)]; exact g13) (by rw [f1 10 (by decide) (by decide)]; exact g15) (by rw [f1 10 (by decide) (by decide)]; exact g16)
    have r1 : rc τ1 9 = bc m 9 := by rw [rc_cg (f1 75 (by decide) (by decide)) 9]; exact Z.rcb 9 (Nat.le_refl 9)
    have b9 := bc_n m 9
    refine kb_142_41 (fun _ => T1) (fun g => kb_142_45 ?_)
    rcases why with h | ⟨h3, nC⟩ | ⟨h3, Cn0, B, s, t, H, W, T, ns⟩
    · exfalso
      apply g
      rw [r1]
      exact (nI_ltI (b := 3) (by omega) (by decide)).mpr h
    · exact c_107s Z (by rw [f1 10 (by decide) (by decide)]) (f1 75 (by decide) (by decide)) (f1 80 (by decide) (by decide)) (f1 81 (by decide) (by decide)) h3 (fun hC => absurd hC nC) (fun _ => kb_142_49 (fun _ => T1) (fun g => absurd rfl g))
    · refine c_107s Z (by rw [f1 10 (by decide) (by decide)]) (f1 75 (by decide) (by decide)) (f1 80 (by decide) (by decide)) (f1 81 (by decide) (by decide)) h3 (fun _ => kb_142_49 (fun g => absurd g (by decide)) (fun _ => kb_142_52 ?_)) (fun nC => absurd Cn0 nC)
      refine c_109s Z N0 H (fun c _ h h' => f1 c h h') A1 (fun i hi mi => Cn_aj Cn0 h3 hi mi) (by omega) (fun τ2 N s' t' W' T' f2 g2 N1 _ _ _ cl ds _ => ?_) (fun τ2 N s' t' _ _ f2 g2 e15 _ _ _ _ => kb_142_56 (fun _ => t59 τ2 (MF_t F1 ⟨fun c a b => f2 c a (by omega) (by omega), fun j a => g2 j (by omega)⟩) (by rw [g2 13 (by decide), f1 10 (by decide) (by decide)]; exact g13) e15 (by rw [g2 16 (by decide), f1 10 (by decide) (by decide)]; exact g16)) (fun g => absurd rfl g))
      exfalso
      have es := wms_u Z.ck W' W
      subst es
      have et := nms_u T' T
      subst et
      rw [it_wo] at cl
      have c1 : wo B s' t' N = s' := congrArg Prod.fst cl
      have c2 : wo B s' t' (N + 1) = t' := congrArg Prod.snd cl
      obtain ⟨k, _, dk, ⟨j, hj, ej⟩, nk⟩ := ns
      rcases Nat.lt_trichotomy k N with u | u | u
      · exact ds j k hj u ej
      · subst u; exact nk ⟨c1, c2⟩
      · exact dk 0 N N1 u (by rw [c1]; rfl)
  · -- round
    refine c_99 JR (fun a b mf => absurd j0 (cfa_J0 (mfa_c Z mf))) (fun _ _ => kb_142_24 (fun _ => kb_142_33 ?_) (fun g => absurd rfl g))
    have N0 : NC σ0 n := j0.1
    have C := Z.ck
    obtain ⟨l1, l9, oL, oL1, dis⟩ := OP
    refine c_104s M (fun r hr => Z.otr N0 hr) (fun τ1 f1 A1 => kb_142_37 (c_108 ?_))
    have F1 : MF σ τ1 := MF_t F0 ⟨fun c a b => f1 c (by omega) (by omega), fun j _ => by rw [f1 10 (by decide) (by decide)]⟩
    have r1 : rc τ1 9 = bc m 9 := by rw [rc_cg (f1 75 (by decide) (by decide)) 9]; exact Z.rcb 9 (Nat.le_refl 9)
    have b9 := bc_n m 9
    refine kb_142_41 (fun g => absurd ((nI_ltI (a := bc m 9) (b := 3) (by omega) (by decide)).mp (by rw [r1] at g; exact g)) (by omega)) (fun g => kb_142_45 ?_)
    refine c_107s Z (by rw [f1 10 (by decide) (by decide)]) (f1 75 (by decide) (by decide)) (f1 80 (by decide) (by decide)) (f1 81 (by decide) (by decide)) h3 (fun _ => kb_142_49 (fun g => absurd g (by decide)) (fun _ => kb_142_52 ?_)) (fun nC => absurd Cn0 nC)
    have cl0 : it (ph B) (s, t) L = (s, t) := by rw [it_wo, oL, oL1]
    refine c_109s Z N0 H (fun c _ h h' => f1 c h h') A1 (fun i hi mi => Cn_aj Cn0 h3 hi mi) (by omega) (fun τ2 N s' t' W' T' f2 g2 N1 _ e15 ol cl ds G2 => kb_142_56 (fun g => absurd g (by decide)) (fun _ => kb_142_65 ?_)) (fun τ2 N s' t' W' T' _ _ _ N1 cl dd tw => ?_)
    rotate_left
    · exfalso
      have es := wms_u Z.ck W' W
      subst es
      have et := nms_u T' T
      subst et
      obtain ⟨i, j, hij, hj, e⟩ := tw
      have c1 : wo B s' t' N = s' := by rw [it_wo] at cl; exact congrArg Prod.fst cl
      rcases Nat.lt_trichotomy L N with u | u | u
      · exact dd 0 L (by omega) u (by rw [cl0]; rfl)
      · subst u; exact dis i j hij hj e
      · exact dis 0 N N1 u (by rw [c1]; rfl)
    have es := wms_u Z.ck W' W
    subst es
    have et := nms_u T' T
    subst et
    have eN : N = L := by
      have c1 : wo B s' t' N = s' := by rw [it_wo] at cl; exact congrArg Prod.fst cl
      rcases Nat.lt_trichotomy L N with u | u | u
      · exact absurd (by rw [oL]; rfl) (ds 0 L (by omega) u)
      · exact u.symm
      · exact absurd (by rw [c1]; rfl) (dis 0 N N1 u)
    subst eN
    have F2 : MF σ τ2 := MF_t F1 ⟨fun c a b => f2 c a (by omega) (by omega), fun j a => g2 j (by omega)⟩
    have A2 : AO σ0 τ2 n := fun r hr => by rw [f2 87 (by decide) (by decide) (by decide), f2 88 (by decide) (by decide) (by decide)]; exact A1 r hr
    have x6 : ∀ τ, MF σ τ → τ 10 6 = σ0 10 6 := fun τ F => by rw [F.2 6 (by decide), F0.2 6 (by decide)]
    have x80 : ∀ τ c, MF σ τ → (c ≠ 10 ∧ c < 84) → τ c = σ0 c := fun τ c F hc => by rw [F.1 c hc.1 (by omega), F0.1 c hc.1 (by omega)]
    have D0 : Dt σ0 m (s', t') := ⟨W.1, W.2.2.1, T.1⟩
    have DX := it_D (D := Dt σ0 m) (fun x h => pn_D C H x h) D0
    refine c_110s Z N0 H (G0 := fun x => ∃ i, i < N ∧ x = it (ph B) (s', t') i) (fun c h h' h'' h3 h4 => by rw [f2 c h h' h4]; exact f1 c h'' h3) (x6 τ2 F2) A2 G2 (fun x hx hg => ?_) (fun τ3 f' y3 f3 g3 f42 e19 R3 cov => kb_142_69 ?_)
    · obtain ⟨i, hi, e⟩ := hg
      rcases Nat.eq_zero_or_pos i with u | u
      · subst u
        refine ⟨N - 1, by omega, pn_inj C N0 H _ _ hx (DX _) ?_⟩
        rw [e]
        show (s', t') = it (ph B) (s', t') (N - 1 + 1)
        rw [show N - 1 + 1 = N by omega, cl]
      · refine ⟨i - 1, by omega, pn_inj C N0 H _ _ hx (DX _) ?_⟩
        rw [e]
        show _ = it (ph B) (s', t') (i - 1 + 1)
        rw [show i - 1 + 1 = i by omega]
    have F3 : MF σ τ3 := MF_t F2 ⟨fun c a b => f3 c a (by omega) (by omega), fun j a => g3 j (by omega)⟩
    have exM : ∃ Mk' : Nat → Nat, ∀ g, g < f' → Mk' g < 512 ∧ τ3 86 g = nI (Mk' g) := ⟨fun g => (τ3 86 g).toNatClampNeg, fun g hg => by
      obtain ⟨_, _, _, M', m1, m2, _⟩ := R3.1 g hg
      show (τ3 86 g).toNatClampNeg < 512 ∧ τ3 86 g = nI (τ3 86 g).toNatClampNeg
      rw [m2, nI_clamp (by omega)]
      exact ⟨m1, rfl⟩⟩
    obtain ⟨Mk', hMk'⟩ := exM
    obtain ⟨ef, sub1, sub2⟩ := faces_eq C N0 H FL R3 cov hMk'
    subst ef
    generalize hs : mm_up τ3 10 16 (τ3 10 19) = τ4
    have F4 : MF σ τ4 := by rw [← hs]; exact MF_10 F3 (by decide)
    have c4 : ∀ c, c ≠ 10 → τ4 c = τ3 c := fun c h => by rw [← hs]; exact mm_up_n h
    have c10 : ∀ j, j ≠ 16 → τ4 10 j = τ3 10 j := fun j h => by rw [← hs]; exact mm_up_o h
    have c16 : τ4 10 16 = nI f' := by rw [← hs, mm_up_s]; exact e19
    clear hs
    have d13 : τ4 10 13 = -1 := by rw [c10 13 (by decide), g3 13 (by decide), g2 13 (by decide), f1 10 (by decide) (by decide)]; exact g13
    have d15 : τ4 10 15 = nI N := by rw [c10 15 (by decide), g3 15 (by decide)]; exact e15
    have fm4 : ∀ g, g < f' → Mk' g < 512 ∧ τ4 86 g = nI (Mk' g) := fun g hg => by rw [c4 86 (by decide)]; exact hMk' g hg
    have e19' : τ4 10 19 = nI f' := by rw [c10 19 (by decide)]; exact e19
    have o9 : ∀ k, wo B s' t' k < 9 := fun k => by have := (DX k).1; rw [it_wo] at this; exact this
    have ol4 : ∀ k, k < N → wo B s' t' k < 9 ∧ τ4 85 k = nI (wo B s' t' k) := fun k hk => ⟨o9 k, by rw [c4 85 (by decide), f3 85 (by decide) (by decide) (by decide)]; exact ol k hk⟩
    refine c_115s f42 e19' fm4 (fun K' ⟨g, hg, w1, w2⟩ mn => kb_142_81 (fun g => absurd g (by decide)) (fun _ => kb_142_84 ?_)) (fun sm' => kb_142_81 (fun _ => kb_142_90 ?_) (fun g => absurd rfl g))
    · -- a great face
      rcases j3 with ⟨K, ⟨h, hh, v1, v2⟩, mn', rfl, rfl, rfl, rfl, rfl⟩ | ⟨sm, _⟩
      · have eK : K' = K := by
          obtain ⟨h', hh', e'⟩ := sub1 g hg
          obtain ⟨g', hg', e''⟩ := sub2 h hh
          have a1 := mn' h' hh' (by rw [e']; exact w1)
          have a2 := mn g' hg' (by rw [e'']; exact v1)
          rw [e'] at a1
          rw [e''] at a2
          omega
        subst eK
        refine fin _ (MF_3 F4) (fun τ' F' h10 h84 h12 => kb_142_89 (q τ' F' ⟨fun h => absurd h (by decide), fun h => absurd h (by decide), fun _ => ⟨?_, ?_, ?_, ?_, ?_⟩, ?_, ?_, h12⟩))
        · rw [h10 13 (by decide), mt3_13]; decide
        · rw [h10 13 (by decide), mt3_13]; decide
        · rw [h84]; exact mt3_84.1
        · rw [h84]; exact mt3_84.2.1
        · rw [h84]; exact mt3_84.2.2
        · rw [h10 15 (by decide), mt3_10 (by decide)]; exact d15
        · rw [h10 16 (by decide), mt3_10 (by decide)]; exact c16
      · exfalso
        obtain ⟨h', hh', e'⟩ := sub1 g hg
        have := sm h' hh'
        rw [e'] at this
        omega
    -- no great face
    have j4 : (¬ fit σ0 N (wo B s' t') ∧ a = 4 ∧ k = 0) ∨ (fit σ0 N (wo B s' t') ∧ J5 σ0 m N f' (wo B s' t') Mk a k x y z) := by
      rcases j3 with ⟨K, ⟨h, hh, v1, v2⟩, _⟩ | ⟨_, j⟩
      · exfalso
        obtain ⟨g', hg', e''⟩ := sub2 h hh
        have := sm' g' hg'
        rw [e''] at this
        omega
      · exact j
    have m83 : τ4 83 = σ0 83 := x80 τ4 83 F4 (by decide)
    have m10 : τ4 10 10 = σ0 10 10 := by rw [F4.2 10 (by decide), F0.2 10 (by decide)]
    have ft : fit τ4 N (wo B s' t') = fit σ0 N (wo B s' t') := by unfold fit; rw [m83, m10]
    refine c_117s l1 l9 d15 ol4 dis (by rw [m10, m83]; exact M.co) (fun τ5 f5 nf => kb_142_94 (fun _ => kb_142_97 ?_) (fun g => absurd rfl g)) (fun τ5 p' c' f5 hc' hp' hs' h92 fi => kb_142_94 (fun g => absurd g (by decide)) (fun _ => kb_142_103 ?_))
    · rw [ft] at nf
      have F5 : MF σ τ5 := MF_t F4 ⟨fun c a b => f5 c (by omega) (by omega), fun j a => by rw [f5 10 (by decide) (by decide)]⟩
      rcases j4 with ⟨_, rfl, rfl⟩ | ⟨F, _⟩
      · exact fin τ5 F5 (fun τ' F' h10 h84 h12 => kb_142_102 (q τ' F' ⟨fun _ => by rw [h10 13 (by decide), f5 10 (by decide) (by decide)]; exact d13, fun h => absurd h (by decide), fun h => absurd h (by decide), by rw [h10 15 (by decide), f5 10 (by decide) (by decide)]; exact d15, by rw [h10 16 (by decide), f5 10 (by decide) (by decide)]; exact c16, h12⟩))
      · exact absurd F nf
    rw [ft] at fi
    have F5 : MF σ τ5 := MF_t F4 ⟨fun c a b => f5 c (by omega) (by omega), fun j a => by rw [f5 10 (by decide) (by decide)]⟩
    obtain ⟨p, c, K, hc, hp, hsum, NBK, trs⟩ : J5 σ0 m N f' (wo B s' t') Mk a k x y z := by
      rcases j4 with ⟨nf, _⟩ | ⟨_, j⟩
      · exact absurd fi nf
      · exact j
    have ec : ∀ i, i < 4 → c' i = c i := fun i hi => nI9 (hc' i hi).1 (hc i hi).1 ((hc' i hi).2.symm.trans (by rw [m83]; exact (hc i hi).2))
    have ep : ∀ i, i < 4 → p' i = p i := fun i hi => by
      have e : wo B s' t' (p' i) = wo B s' t' (p i) := by rw [(hp' i hi).2, (hp i hi).2, ec i hi]
      rcases Nat.lt_trichotomy (p' i) (p i) with u | u | u
      · exact absurd e (dis _ _ u (hp i hi).1)
      · exact u
      · exact absurd e.symm (dis _ _ u (hp' i hi).1)
    have h92' : ∀ s, s < 4 → τ5 92 s = nI (frm N p s) ∧ τ5 93 s = nI (tom N p s) := fun s hs => by
      rw [← frm_cg ep s hs, ← tom_cg ep s hs]; exact h92 s hs
    have lay := (lay_p (L := N) (p := p) (by omega) (fun i hi => (hp i hi).1)).2 hsum
    have lay' : ∀ s, s < 4 → frm N p s ≤ tom N p s ∧ tom N p s ≤ N := fun s hs => by
      have := lay s hs; omega
    have e10 : τ5 10 = τ4 10 := f5 10 (by decide) (by decide)
    have d15' : τ5 10 15 = nI N := by rw [e10]; exact d15
    have ol5 : ∀ k, k < N → wo B s' t' k < 9 ∧ τ5 85 k = nI (wo B s' t' k) := fun k hk => by rw [f5 85 (by decide) (by decide)]; exact ol4 k hk
    have e83 : τ5 83 0 = nI (c 0) := by rw [f5 83 (by decide) (by decide), m83]; exact (hc 0 (by decide)).2
    refine c_120s Z (x6 τ5 F5) (x80 τ5 80 F5 (by decide)) (x80 τ5 81 F5 (by decide)) l1 l9 d15' ol5 dis (hc 0 (by decide)).1 e83 (hp 0 (by decide)).1 (hp 0 (by decide)).2 h92' lay (fun τ6 K' f6 hK' NBK' => kb_142_107 ?_)
    have F6 : MF σ τ6 := MF_t F5 ⟨fun c a b => f6 c (by omega), fun j a => by rw [f6 10 (by decide)]⟩
    have eK := NB_u NBK' NBK
    have SFe : ∀ x, SF f' Mk' N (wo B s' t') p x ↔ SF f' Mk N (wo B s' t') p x := fun x => by
      unfold SF
      have : (∃ g, g < f' ∧ Mk' g = x) ↔ ∃ g, g < f' ∧ Mk g = x := by
        constructor
        · rintro ⟨g, hg, e⟩
          obtain ⟨h, hh, e'⟩ := sub1 g hg
          exact ⟨h, hh, e'.trans e⟩
        · rintro ⟨h, hh, e⟩
          obtain ⟨g, hg, e'⟩ := sub2 h hh
          exact ⟨g, hg, e'.trans e⟩
      rw [this]
    have tre : ∀ i j l, tr K' (SF f' Mk' N (wo B s' t') p) i j l ↔ tr K (SF f' Mk N (wo B s' t') p) i j l := fun i j l => by
      unfold tr
      constructor
      · rintro ⟨a1, a2, a3, a4, a5, a6, a7⟩
        rw [eK i (by omega)] at a4 a5
        rw [eK j (by omega)] at a6
        exact ⟨a1, a2, a3, a4, a5, a6, fun h => a7 ((SFe _).mpr h)⟩
      · rintro ⟨a1, a2, a3, a4, a5, a6, a7⟩
        rw [← eK i (by omega)] at a4 a5
        rw [← eK j (by omega)] at a6
        exact ⟨a1, a2, a3, a4, a5, a6, fun h => a7 ((SFe _).mp h)⟩
    have e10' : τ6 10 = τ5 10 := f6 10 (by decide)
    refine c_122s l1 l9 (by rw [e10']; exact d15') (fun k hk => by rw [f6 85 (by decide)]; exact ol5 k hk) dis (hc 0 (by decide)).1 (by rw [f6 83 (by decide)]; exact e83) (hp 0 (by decide)).1 (hp 0 (by decide)).2 (fun s hs => by rw [f6 92 (by decide), f6 93 (by decide)]; exact h92' s hs) lay' f42 (by rw [e10', e10]; exact e19') (fun g hg => by rw [f6 86 (by decide), f5 86 (by decide) (by decide)]; exact fm4 g hg) (fun v hv => ⟨NBK'.1 v hv, hK' v hv⟩) (fun i j l t1 t2 => kb_142_111 (fun g => absurd g (by decide)) (fun _ => kb_142_114 ?_)) (fun nt => kb_142_111 (fun _ => kb_142_120 ?_) (fun g => absurd rfl g))
    · -- a loose triangle
      rcases trs with ⟨i', j', l', u1, u2, rfl, rfl, rfl, rfl, rfl⟩ | ⟨nt, _⟩
      · have v1 := (tre i j l).mp t1
        have e : i = i' ∧ j = j' ∧ l = l' := by
          by_cases w : i < i' ∨ (i = i' ∧ (j < j' ∨ (j = j' ∧ l < l')))
          · exact absurd v1 (u2 i j l w)
          · by_cases w' : i' < i ∨ (i' = i ∧ (j' < j ∨ (j' = j ∧ l' < l)))
            · exact absurd ((tre i' j' l').mpr u1) (t2 i' j' l' w')
            · omega
        obtain ⟨rfl, rfl, rfl⟩ := e
        refine fin _ (MF_3 F6) (fun τ' F' h10 h84 h12 => kb_142_119 (q τ' F' ⟨fun h => absurd h (by decide), fun h => absurd h (by decide), fun _ => ⟨?_, ?_, ?_, ?_, ?_⟩, ?_, ?_, h12⟩))
        · rw [h10 13 (by decide), mt3_13]; decide
        · rw [h10 13 (by decide), mt3_13]; decide
        · rw [h84]; exact mt3_84.1
        · rw [h84]; exact mt3_84.2.1
        · rw [h84]; exact mt3_84.2.2
        · rw [h10 15 (by decide), mt3_10 (by decide), e10']; exact d15'
        · rw [h10 16 (by decide), mt3_10 (by decide), e10', e10]; exact c16
      · exact absurd ((tre i j l).mp t1) (nt i j l)
    -- a plan
    obtain ⟨rfl, rfl⟩ : a = 1 ∧ k = 0 := by
      rcases trs with ⟨i', j', l', u1, _⟩ | ⟨_, h⟩
      · exact absurd ((tre i' j' l').mpr u1) (nt i' j' l')
      · exact h
    have AR6 : AR σ0 τ6 n := AR_cg (by rw [f6 87 (by decide), f5 87 (by decide) (by decide), c4 87 (by decide), f3 87 (by decide) (by decide) (by decide)]) (by rw [f6 88 (by decide), f5 88 (by decide) (by decide), c4 88 (by decide), f3 88 (by decide) (by decide) (by decide)]) (AO_AR Z N0 A2)
    have O6 : MO τ6 N := ⟨l1, by omega, by rw [e10']; exact d15', fun i hi => ⟨wo B s' t' i, o9 i, by rw [f6 85 (by decide)]; exact (ol5 i hi).2⟩⟩
    have h1r := rc_ex 9 (show 1 ≤ rc σ0 9 by rw [Z.rcb 9 (Nat.le_refl 9)]; omega)
    have KP : ∀ τ : mm_S, τ 10 13 = τ6 10 13 → τ 10 15 = τ6 10 15 → τ 10 16 = τ6 10 16 → (∀ τ', MF σ τ' → (∀ j, j ≠ 12 → τ' 10 j = τ 10 j) → τ' 84 = τ 84 → (τ' 10 12 = if (1 : Int32) = 1 then 1 else 0) → MWV τ' 1 0 x y z (nI N) (nI f')) := fun τ a1 a2 a3 τ' _ h10 _ h12 => ⟨fun _ => by rw [h10 13 (by decide), a1, e10', e10]; exact d13, fun h => absurd h (by decide), fun h => absurd h (by decide), by rw [h10 15 (by decide), a2, e10']; exact d15', by rw [h10 16 (by decide), a3, e10', e10]; exact c16, h12⟩
    refine c_123 n21 (by rw [x6 τ6 F6]; exact e6) AR6 O6 (fun τ7 f7 R7 => kb_142_124 ?_)
    have F7 : MF σ τ7 := MF_t F6 ⟨fun c a b => f7 c (by omega) (by omega), fun j a => by rw [f7 10 (by decide) (by decide)]⟩
    refine lp_dn (P := fun i => ∀ τ, MF σ τ → (∀ j, j ≠ 29 → τ 10 j = τ6 10 j) → RG τ n → mw (d + 5) mt_142 Q 131 [some (.ref 10), some (.int (nI i))] [] τ) 21 ?_ ?_ 0 (by omega) _ (MF_10 F7 (by decide)) (fun j hj => by rw [mm_up_o (by omega), f7 10 (by decide) (by decide)]) (RG_cg (mm_up_n (by decide)) (mm_up_n (by decide)) R7)
    · intro τ F E R
      refine kb_142_131 (fun _ => kb_142_150 ?_) (fun g => absurd (by decide) g)
      obtain ⟨r, hr, dr⟩ := h1r
      refine c_131 n21 (by rw [x6 τ F]; exact e6) R ⟨r, hr, by rw [x80 τ 75 F (by decide)]; exact dr⟩ (fun τ8 f8 => kb_142_154 ?_)
      have F8 : MF σ τ8 := MF_t F ⟨fun c a b => f8.1 c a (by omega) (by omega) (by omega), fun j a => f8.2 j (by omega) (by omega)⟩
      refine c_138 n21 (by rw [x6 τ8 F8]; exact e6) (fun k hk => ?_) (fun τ9 f9 => kb_142_158 ?_)
      · obtain ⟨a, b, ha, hb, _, _, _, ea, eb⟩ := M.je k hk
        exact ⟨a, b, ha, hb, by rw [x80 τ8 80 F8 (by decide)]; exact ea, by rw [x80 τ8 81 F8 (by decide)]; exact eb⟩
      · have F9 : MF σ τ9 := MF_t F8 ⟨fun c a b => f9.1 c a (by omega) (by omega), fun j a => f9.2 j (by omega) (by omega) (by omega)⟩
        have E9 : ∀ j, (j = 13 ∨ j = 15 ∨ j = 16) → τ9 10 j = τ6 10 j := fun j hj => by rw [f9.2 j (by omega) (by omega) (by omega), f8.2 j (by omega) (by omega)]; exact E j (by omega)
        exact fin τ9 F9 (fun τ' F' h10 h84 h12 => kb_142_163 (q τ' F' (KP τ9 (E9 13 (by omega)) (E9 15 (by omega)) (E9 16 (by omega)) τ' F' h10 h84 h12)))
    · intro i hi ih τ F E R
      refine kb_142_131 (fun g => absurd g (hI_nle (a := 21) (by omega) hi)) (fun _ => kb_142_137 (pk_in i 21 hi) ?_)
      rw [nI_1]
      exact ih _ (MF_t F ⟨fun c a b => mm_up_n (by omega), fun j a => by rw [mm_up_n (by decide)]⟩) (fun j hj => by rw [mm_up_n (by decide)]; exact E j hj) (RG_cg (mm_up_n (by decide)) (mm_up_n (by decide)) R)
end
section
-- what plan() leaves to be shown is the same on both sides
def SW (σ : mm_S) : Prop := (σ 3 1 = 0 ∧ σ 10 13 = -1) ∨ (σ 3 1 = 2 ∧ σ 10 13 = 0 ∧ σ 84 0 = σ 20 0 ∧ σ 84 1 = σ 20 1) ∨ (σ 3 1 = 3 ∧ ¬ σ 10 13 = -1 ∧ ¬ σ 10 13 = 0 ∧ σ 84 0 = σ 20 0 ∧ σ 84 1 = σ 20 1 ∧ σ 84 2 = σ 20 2)
def SC (σ : mm_S) : Prop := σ 2 4 = σ 10 15 ∧ σ 2 5 = σ 10 16
def SP (σ : mm_S) : Prop := (σ 0 3 = 0 ∨ σ 0 3 = 1) ∧ σ 10 12 = σ 0 3
def YI (σ : mm_S) (n m : Nat) : Prop := ZI σ n m ∧ SW σ ∧ SC σ ∧ SP σ
theorem SW_cg {σ τ : mm_S} (h2 : τ 2 = σ 2) (h3 : τ 3 = σ 3) (h20 : τ 20 = σ 20) (h84 : τ 84 = σ 84) (h13 : τ 10 13 = σ 10 13) (h15 : τ 10 15 = σ 10 15) (h16 : τ 10 16 = σ 10 16) (W : SW σ ∧ SC σ) : SW τ ∧ SC τ := by
  unfold SW SC
  rw [h2, h3, h20, h84, h13, h15, h16]
  exact W
theorem YI_cg {σ τ : mm_S} {n m n' m' : Nat} (Z : ZI τ n' m') (Y : YI σ n m) (h2 : τ 2 = σ 2) (h3 : τ 3 = σ 3) (h20 : τ 20 = σ 20) (h84 : τ 84 = σ 84) (h13 : τ 10 13 = σ 10 13) (h15 : τ 10 15 = σ 10 15) (h16 : τ 10 16 = σ 10 16) (P : SP τ) : YI τ n' m' :=
  ⟨Z, (SW_cg h2 h3 h20 h84 h13 h15 h16 ⟨Y.2.1, Y.2.2.1⟩).1, (SW_cg h2 h3 h20 h84 h13 h15 h16 ⟨Y.2.1, Y.2.2.1⟩).2, P⟩
theorem SP_0 {τ : mm_S} (h : τ 0 3 = 0) (k : τ 10 12 = 0) : SP τ := ⟨Or.inl h, by rw [h, k]⟩
theorem YI_10 {σ : mm_S} {n m j : Nat} {x : Int32} (hj : j = 0) (Y : YI σ n m) : YI (mm_up σ 10 j x) n m := by
  subst hj
  refine YI_cg (ZI_10 (by decide) Y.1) Y (mm_up_n (by decide)) (mm_up_n (by decide)) (mm_up_n (by decide)) (mm_up_n (by decide)) (mm_up_o (by decide)) (mm_up_o (by decide)) (mm_up_o (by decide)) ?_
  unfold SP
  rw [mm_up_n (by decide), mm_up_o (by decide)]
  exact Y.2.2.2
theorem YI_rdr {σ : mm_S} {n m : Nat} {r x y : Int32} (Y : YI σ n m) (ok : mok r x y) (h0 : xd σ r = 0) (nt : ∀ j, j < 9 → ¬ xtk σ x y j) : ∃ m', YI (rdr σ r x y) n m' := by
  obtain ⟨m', Z⟩ := ZI_rdr Y.1 ok h0 nt
  have up : ∀ c, c ≠ 0 → c ≠ 1 → c ≠ 10 → c ≠ 11 → c ≠ 12 → c ≠ 13 → c ≠ 14 → c ≠ 15 → c ≠ 75 → c ≠ 76 → c ≠ 77 → (rdr σ r x y) c = σ c := fun c _ _ _ _ _ _ _ _ _ _ _ => by
    unfold rdr xdr
    rw [mm_up_n (by omega), mm_up_n (by omega), mm_up_n (by omega), mm_up_n (by omega), mm_up_n (by omega), mm_up_n (by omega), mm_up_n (by omega), mm_up_n (by omega), mm_up_n (by omega), mm_up_n (by omega), mm_up_n (by omega), mm_up_n (by omega), mm_up_n (by omega)]
  have ten : ∀ j, j ≠ 0 → j ≠ 12 → (rdr σ r x y) 10 j = σ 10 j := fun j _ _ => by
    unfold rdr xdr
    rw [mm_up_o (by omega), mm_up_n (by omega), mm_up_n (by omega), mm_up_n (by omega), mm_up_o (by omega), mm_up_n (by omega), mm_up_n (by omega), mm_up_n (by omega), mm_up_n (by omega), mm_up_n (by omega), mm_up_n (by omega), mm_up_n (by omega), mm_up_n (by omega)]
  refine ⟨m', YI_cg Z Y (up 2 (by decide) (by decide) (by decide) (by decide) (by decide) (by decide) (by decide) (by decide) (by decide) (by decide) (by decide)) (up 3 (by decide) (by decide) (by decide) (by decide) (by decide) (by decide) (by decide) (by decide) (by decide) (by decide) (by decide)) (up 20 (by decide) (by decide) (by decide) (by decide) (by decide) (by decide) (by decide) (by decide) (by decide) (by decide) (by decide)) (up 84 (by decide) (by decide) (by decide) (by decide) (by decide) (by decide) (by decide) (by decide) (by decide) (by decide) (by decide)) (ten 13 (by decide) (by decide)) (ten 15 (by decide) (by decide)) (ten 16 (by decide) (by decide)) (SP_0 ?_ mm_up_s)⟩
  unfold rdr
  rw [mm_up_n (by decide), mm_up_n (by decide), mm_up_n (by decide), mm_up_n (by decide), mm_up_n (by decide)]
  exact mm_up_s
theorem YI_ldr {σ : mm_S} {n m : Nat} {r w h : Int32} (Y : YI σ n m) (hd : xd σ r = 1) : YI (ldr σ r w h) n m := by
  have up : ∀ c, c ≠ 0 → c ≠ 10 → c ≠ 13 → c ≠ 14 → c ≠ 78 → c ≠ 79 → (ldr σ r w h) c = σ c := fun c _ _ _ _ _ _ => by
    unfold ldr
    rw [mm_up_n (by omega), mm_up_n (by omega), mm_up_n (by omega), mm_up_n (by omega), mm_up_n (by omega), mm_up_n (by omega), mm_up_n (by omega)]
  have ten : ∀ j, j ≠ 0 → j ≠ 12 → (ldr σ r w h) 10 j = σ 10 j := fun j _ _ => by
    unfold ldr
    rw [mm_up_o (by omega), mm_up_n (by omega), mm_up_n (by omega), mm_up_o (by omega), mm_up_n (by omega), mm_up_n (by omega), mm_up_n (by omega)]
  refine YI_cg (ZI_ldr Y.1 hd) Y (up 2 (by decide) (by decide) (by decide) (by decide) (by decide) (by decide)) (up 3 (by decide) (by decide) (by decide) (by decide) (by decide) (by decide)) (up 20 (by decide) (by decide) (by decide) (by decide) (by decide) (by decide)) (up 84 (by decide) (by decide) (by decide) (by decide) (by decide) (by decide)) (ten 13 (by decide) (by decide)) (ten 15 (by decide) (by decide)) (ten 16 (by decide) (by decide)) (SP_0 ?_ mm_up_s)
  unfold ldr
  rw [mm_up_n (by decide), mm_up_n (by decide), mm_up_n (by decide), mm_up_n (by decide)]
  exact mm_up_s
theorem YI_wdr {σ : mm_S} {n m : Nat} {j w : Int32} (Y : YI σ n m) : YI (wdr σ j w) n m := by
  have up : ∀ c, c ≠ 0 → c ≠ 10 → c ≠ 18 → c ≠ 82 → (wdr σ j w) c = σ c := fun c _ _ _ _ => by
    unfold wdr
    rw [mm_up_n (by omega), mm_up_n (by omega), mm_up_n (by omega), mm_up_n (by omega), mm_up_n (by omega)]
  have ten : ∀ i, i ≠ 0 → i ≠ 12 → (wdr σ j w) 10 i = σ 10 i := fun i _ _ => by
    unfold wdr
    rw [mm_up_o (by omega), mm_up_n (by omega), mm_up_o (by omega), mm_up_n (by omega), mm_up_n (by omega)]
  refine YI_cg (ZI_wdr Y.1) Y (up 2 (by decide) (by decide) (by decide) (by decide)) (up 3 (by decide) (by decide) (by decide) (by decide)) (up 20 (by decide) (by decide) (by decide) (by decide)) (up 84 (by decide) (by decide) (by decide) (by decide)) (ten 13 (by decide) (by decide)) (ten 15 (by decide) (by decide)) (ten 16 (by decide) (by decide)) (SP_0 ?_ mm_up_s)
  unfold wdr
  rw [mm_up_n (by decide), mm_up_n (by decide), mm_up_n (by decide)]
  exact mm_up_s
theorem YI_cdr {σ : mm_S} {n m : Nat} {a b c e : Int32} (Y : YI σ n m) (hx : xall σ a b c e) : YI (cdr σ a b c e) n m := by
  have up : ∀ k, k ≠ 0 → k ≠ 1 → k ≠ 10 → k ≠ 19 → k ≠ 83 → (cdr σ a b c e) k = σ k := fun k _ _ _ _ _ => by
    unfold cdr
    rw [mm_up_n (by omega), mm_up_n (by omega), mm_up_n (by omega), mm_up_n (by omega), mm_up_n (by omega), mm_up_n (by omega), mm_up_n (by omega), mm_up_n (by omega), mm_up_n (by omega), mm_up_n (by omega), mm_up_n (by omega), mm_up_n (by omega), mm_up_n (by omega)]
  have ten : ∀ i, i ≠ 0 → i ≠ 10 → i ≠ 12 → (cdr σ a b c e) 10 i = σ 10 i := fun i _ _ _ => by
    unfold cdr
    rw [mm_up_o (by omega), mm_up_o (by omega), mm_up_n (by omega), mm_up_n (by omega), mm_up_n (by omega), mm_up_n (by omega), mm_up_o (by omega), mm_up_n (by omega), mm_up_n (by omega), mm_up_n (by omega), mm_up_n (by omega), mm_up_n (by omega), mm_up_n (by omega)]
  refine YI_cg (ZI_cdr Y.1 hx) Y (up 2 (by decide) (by decide) (by decide) (by decide) (by decide)) (up 3 (by decide) (by decide) (by decide) (by decide) (by decide)) (up 20 (by decide) (by decide) (by decide) (by decide) (by decide)) (up 84 (by decide) (by decide) (by decide) (by decide) (by decide)) (ten 13 (by decide) (by decide) (by decide)) (ten 15 (by decide) (by decide) (by decide)) (ten 16 (by decide) (by decide) (by decide)) (SP_0 ?_ mm_up_s)
  unfold cdr
  rw [mm_up_n (by decide), mm_up_n (by decide), mm_up_n (by decide), mm_up_n (by decide), mm_up_n (by decide), mm_up_n (by decide), mm_up_n (by decide)]
  exact mm_up_s
theorem YI_join {σ : mm_S} {n m : Nat} {a b : Int32} (Y : YI σ n m) (hab : ¬ a = b) (da : xd σ a = 1) (db : xd σ b = 1) (h0 : hs (σ 15 a.toNatClampNeg) b = 0) (hn : n < 21) : YI (mjd (cjd σ a b n) a b n) (n + 1) m := by
  have up : ∀ c, c ≠ 0 → c ≠ 1 → c ≠ 10 → c ≠ 15 → c ≠ 16 → c ≠ 17 → c ≠ 18 → c ≠ 80 → c ≠ 81 → c ≠ 82 → (mjd (cjd σ a b n) a b n) c = σ c := fun c _ _ _ _ _ _ _ _ _ _ => by
    unfold mjd cjd
    rw [mm_up_n (by omega), mm_up_n (by omega), mm_up_n (by omega), mm_up_n (by omega), mm_up_n (by omega), mm_up_n (by omega), mm_up_n (by omega), mm_up_n (by omega), mm_up_n (by omega), mm_up_n (by omega), mm_up_n (by omega), mm_up_n (by omega), mm_up_n (by omega)]
  have ten : ∀ j, j ≠ 0 → j ≠ 6 → j ≠ 12 → (mjd (cjd σ a b n) a b n) 10 j = σ 10 j := fun j _ _ _ => by
    unfold mjd cjd
    rw [mm_up_o (by omega), mm_up_o (by omega), mm_up_n (by omega), mm_up_n (by omega), mm_up_n (by omega), mm_up_o (by omega), mm_up_n (by omega), mm_up_n (by omega), mm_up_n (by omega), mm_up_n (by omega), mm_up_n (by omega), mm_up_n (by omega), mm_up_n (by omega)]
  refine YI_cg (ZI_join Y.1 hab da db h0 hn) Y (up 2 (by decide) (by decide) (by decide) (by decide) (by decide) (by decide) (by decide) (by decide) (by decide) (by decide)) (up 3 (by decide) (by decide) (by decide) (by decide) (by decide) (by decide) (by decide) (by decide) (by decide) (by decide)) (up 20 (by decide) (by decide) (by decide) (by decide) (by decide) (by decide) (by decide) (by decide) (by decide) (by decide)) (up 84 (by decide) (by decide) (by decide) (by decide) (by decide) (by decide) (by decide) (by decide) (by decide) (by decide)) (ten 13 (by decide) (by decide) (by decide)) (ten 15 (by decide) (by decide) (by decide)) (ten 16 (by decide) (by decide) (by decide)) (SP_0 ?_ mm_up_s)
  unfold mjd cjd
  rw [mm_up_n (by decide), mm_up_n (by decide), mm_up_n (by decide), mm_up_n (by decide), mm_up_n (by decide), mm_up_n (by decide)]
  exact mm_up_s
theorem YI_clr {σ τ : mm_S} {n m : Nat} (Y : YI σ n m) (K : clr (mm_up (mm_up (mm_up (mm_up (mm_up σ 1 10 (0 : Int32)) 1 11 (0 : Int32)) 1 12 (0 : Int32)) 1 9 (0 : Int32)) 0 3 (0 : Int32)) τ) : YI τ 0 0 := by
  have up : ∀ c, c ≠ 0 → c ≠ 1 → c ≠ 10 → c ≠ 75 → c ≠ 78 → c ≠ 79 → τ c = σ c := fun c _ _ _ _ _ _ => by
    rw [K.1 c (by omega) (by omega) (by omega) (by omega), mm_up_n (by omega), mm_up_n (by omega), mm_up_n (by omega), mm_up_n (by omega), mm_up_n (by omega)]
  have ten : ∀ j, j ≠ 0 → j ≠ 6 → j ≠ 10 → j ≠ 12 → τ 10 j = σ 10 j := fun j _ _ _ _ => by
    rw [K.2.2.1 j (by omega) (by omega) (by omega) (by omega), mm_up_n (by omega), mm_up_n (by omega), mm_up_n (by omega), mm_up_n (by omega), mm_up_n (by omega)]
  refine YI_cg (ZI_clr Y.1 K) Y (up 2 (by decide) (by decide) (by decide) (by decide) (by decide) (by decide)) (up 3 (by decide) (by decide) (by decide) (by decide) (by decide) (by decide)) (up 20 (by decide) (by decide) (by decide) (by decide) (by decide) (by decide)) (up 84 (by decide) (by decide) (by decide) (by decide) (by decide) (by decide)) (ten 13 (by decide) (by decide) (by decide) (by decide)) (ten 15 (by decide) (by decide) (by decide) (by decide)) (ten 16 (by decide) (by decide) (by decide) (by decide)) (SP_0 ?_ K.2.2.2.2.2.2)
  rw [K.1 0 (by decide) (by decide) (by decide) (by decide)]
  exact mm_up_s
theorem YI_plan {σ τ ρ : mm_S} {n m : Nat} {a k x y z oc fc : Int32} (Z : ZI σ n m) (F : jfr σ τ) (B : BG τ) (D : DG τ) (W : WN τ) (V : WV τ k x y z oc fc) (F' : MF (mm_up τ 0 3 (if a = 1 then 1 else 0)) ρ) (V' : MWV ρ a k x y z oc fc) : YI ρ n m := by
  obtain ⟨v1, v2, v3, v4, v5⟩ := V
  obtain ⟨u1, u2, u3, u4, u5, u6⟩ := V'
  have e3 : ρ 3 = τ 3 := by rw [F'.1 3 (by decide) (by decide), mm_up_n (by decide)]
  have e2 : ρ 2 = τ 2 := by rw [F'.1 2 (by decide) (by decide), mm_up_n (by decide)]
  have e20 : ρ 20 = τ 20 := by rw [F'.1 20 (by decide) (by decide), mm_up_n (by decide)]
  have e0 : ρ 0 3 = if a = 1 then 1 else 0 := by rw [F'.1 0 (by decide) (by decide)]; exact mm_up_s
  refine ⟨ZI_MF F' (ZI_0 (ZI_jfr F B D W Z)), ?_, ⟨by rw [e2, v4, u4], by rw [e2, v5, u5]⟩, ?_, by rw [e0, u6]⟩
  · unfold SW
    rw [e3, e20, v1]
    rcases W with h | h | h
    · rw [v1] at h
      exact Or.inl ⟨h, u1 h⟩
    · rw [v1] at h
      obtain ⟨a1, a2, a3⟩ := u2 h
      obtain ⟨b1, b2⟩ := v2 h
      exact Or.inr (Or.inl ⟨h, a1, by rw [a2, b1], by rw [a3, b2]⟩)
    · rw [v1] at h
      obtain ⟨a1, a2, a3, a4, a5⟩ := u3 h
      obtain ⟨b1, b2, b3⟩ := v3 h
      exact Or.inr (Or.inr ⟨h, a1, a2, by rw [a3, b1], by rw [a4, b2], by rw [a5, b3]⟩)
  · rw [e0]
    split
    · exact Or.inr rfl
    · exact Or.inl rfl
theorem y_148 {d n m a b w : Nat} {Q : mm_Q} {σ τ : mm_S} (Y : YI σ n m) (d1 : xd σ (nI a) = 1) (d2 : xd σ (nI b) = 1) (ha : a < 9) (hb : b < 9) (f1 : ∀ c, c ≠ 9 → c ≠ 73 → c ≠ 74 → τ c = σ c) (w9 : w ≤ 9) (e1 : τ 9 1 = nI w) (W : WP (Gj σ n) b a w (τ 73))
    (q : ∀ ρ, YI ρ n m → ρ 10 0 = 0 → Q (some (.int (nI w))) ρ) : mD (d + 3) 148 [.ref 10, .int (nI a), .int (nI b)] τ Q := by
  have Z := Y.1
  have k1 : ¬ mdr τ (nI a) = 0 := by rw [mdr_75 (f1 75 (by decide) (by decide) (by decide)), (Rm_dr Z.rm).mp d1]; decide
  have k2 : ¬ mdr τ (nI b) = 0 := by rw [mdr_75 (f1 75 (by decide) (by decide) (by decide)), (Rm_dr Z.rm).mp d2]; decide
  have e10 : τ 10 = σ 10 := f1 10 (by decide) (by decide) (by decide)
  refine c_148 (n := n) (MK_cg (by rw [e10]) (by rw [e10]) (f1 75 (by decide) (by decide) (by decide)) (f1 80 (by decide) (by decide) (by decide)) (f1 81 (by decide) (by decide) (by decide)) (f1 83 (by decide) (by decide) (by decide)) Z.mk) (fun h => absurd h (fun z => z.elim k1 k2)) (fun a' b' ha' hb' ea eb _ _ ρ w' F w9' e2 W' => ?_)
  have := nI9 ha ha' ea
  subst this
  have := nI9 hb hb' eb
  subst this
  rw [Gm_eq Z (f1 80 (by decide) (by decide) (by decide)) (f1 81 (by decide) (by decide) (by decide))] at W'
  obtain ⟨ew, ef⟩ := WP_u W W'
  subst ew
  have up : ∀ c, c ≠ 10 → c ≠ 9 → c ≠ 73 → c ≠ 74 → c ≠ 98 → c ≠ 106 → ρ c = σ c := fun c _ _ _ _ _ _ => by
    rw [F.1 c (by omega) (by omega) (by omega)]; exact f1 c (by omega) (by omega) (by omega)
  have ten : ∀ j, j ≠ 0 → j ≠ 34 → ρ 10 j = σ 10 j := fun j a b => by rw [F.2.1 j a b, e10]
  refine q ρ (YI_cg (ZI_way Z f1 F w9 e1 e2 (fun i hi => (ef i hi).symm)) Y (up 2 (by decide) (by decide) (by decide) (by decide) (by decide) (by decide)) (up 3 (by decide) (by decide) (by decide) (by decide) (by decide) (by decide)) (up 20 (by decide) (by decide) (by decide) (by decide) (by decide) (by decide)) (up 84 (by decide) (by decide) (by decide) (by decide) (by decide) (by decide)) (ten 13 (by decide) (by decide)) (ten 15 (by decide) (by decide)) (ten 16 (by decide) (by decide)) ?_) F.2.2
  unfold SP
  rw [up 0 (by decide) (by decide) (by decide) (by decide) (by decide) (by decide), ten 12 (by decide) (by decide)]
  exact Y.2.2.2
theorem mi_0 {x b : Int32} (h : mi x 0 b = 0) : x < 0 ∨ b < x := by
  unfold mi at h
  by_cases h1 : x < 0
  · exact Or.inl h1
  · rw [if_neg h1] at h
    by_cases h2 : b < x
    · exact Or.inr h2
    · rw [if_neg h2] at h; exact absurd h (by decide)
theorem w_143 {d : Nat} {Q : mm_Q} {σ : mm_S} {x1 : Int32} (W : SW σ) (q : Q (some (.int (f_2 σ x1))) (mm_up σ 10 0 0)) : mD (d + 2) 143 [.ref 10, .int x1] σ Q := by
  have off : ∀ {b : Int32}, (x1 < 0 ∨ σ 3 1 ≤ x1) → Q (some (.int (-1))) (mm_up σ 10 0 0) := fun h => by
    have : f_2 σ x1 = -1 := by
      unfold f_2 f_22
      by_cases h1 : x1 < 0
      · rw [if_pos h1]
      · rw [if_neg h1, if_pos (h.resolve_left h1)]
    rw [this] at q; exact q
  have on : ∀ j, j < 3 → x1 = nI j → ¬ σ 3 1 ≤ nI j → σ 84 j = σ 20 j → Q (some (.int (σ 84 x1.toNatClampNeg))) (mm_up σ 10 0 0) := fun j hj e h1 h2 => by
    subst e
    have : f_2 σ (nI j) = σ 84 (nI j).toNatClampNeg := by
      unfold f_2 f_22
      rw [if_neg (nI_pos (by omega)), if_neg h1, nI_clamp (by omega), h2]
    rw [this] at q; exact q
  have ge : ∀ {b x : Int32}, b < x → b + 1 ≤ x ∨ True := fun _ => Or.inr trivial
  refine c_143 (fun _ _ h => by obtain ⟨j, hj, rfl⟩ := in_mi (b := 1) (by omega) h; exact pk_in j 3 (by omega)) (fun _ _ h => by obtain ⟨j, hj, rfl⟩ := in_mi (b := 2) (by omega) h; exact pk_in j 3 (by omega)) (fun e => ?_) (fun e1 e2 h => ?_) (fun e1 e2 h => ?_) (fun e1 e2 h => ?_) (fun e1 e2 h => ?_)
  · rcases W with ⟨w, _⟩ | ⟨_, w, _⟩ | ⟨_, w, _⟩
    · refine off (b := 0) ?_
      rw [w]
      rcases Int32.lt_or_le x1 0 with u | u
      · exact Or.inl u
      · exact Or.inr u
    · rw [w] at e; exact absurd e (by decide)
    · exact absurd e w
  · rcases W with ⟨_, w⟩ | ⟨w, _⟩ | ⟨_, _, w, _⟩
    · exact absurd w e1
    · refine off (b := 0) ?_
      rw [w]
      rcases mi_0 h with u | u
      · exact Or.inl u
      · refine Or.inr ?_
        have := Int32.lt_iff_toInt_lt.mp u
        rw [Int32.le_iff_toInt_le]
        have a : (1 : Int32).toInt = 1 := by decide
        have b : (2 : Int32).toInt = 2 := by decide
        omega
    · exact absurd e2 w
  · obtain ⟨j, hj, e⟩ := in_mi (b := 1) (by omega) h
    rcases W with ⟨_, w⟩ | ⟨w, _, w0, w1⟩ | ⟨_, _, w, _⟩
    · exact absurd w e1
    · refine on j (by omega) e (by rw [w]; exact hI_nle (a := 2) (by omega) (by omega)) ?_
      rcases (show j = 0 ∨ j = 1 by omega) with u | u
      · subst u; exact w0
      · subst u; exact w1
    · exact absurd e2 w
  · rcases W with ⟨_, w⟩ | ⟨_, w, _⟩ | ⟨w, _⟩
    · exact absurd w e1
    · exact absurd w e2
    · refine off (b := 0) ?_
      rw [w]
      rcases mi_0 h with u | u
      · exact Or.inl u
      · refine Or.inr ?_
        have := Int32.lt_iff_toInt_lt.mp u
        rw [Int32.le_iff_toInt_le]
        have a : (2 : Int32).toInt = 2 := by decide
        have b : (3 : Int32).toInt = 3 := by decide
        omega
  · obtain ⟨j, hj, e⟩ := in_mi (b := 2) (by omega) h
    rcases W with ⟨_, w⟩ | ⟨_, w, _⟩ | ⟨w, _, _, w0, w1, w2⟩
    · exact absurd w e1
    · exact absurd w e2
    · refine on j (by omega) e (by rw [w]; exact hI_nle (a := 3) (by omega) (by omega)) ?_
      rcases (show j = 0 ∨ j = 1 ∨ j = 2 by omega) with u | u | u
      · subst u; exact w0
      · subst u; exact w1
      · subst u; exact w2
def f_155 (σ : mm_S) (x : Int32) : Int32 := if x = 0 then σ 1 11 else if x = 1 then σ 1 12 else if x = 2 then σ 2 4 else if x = 3 then σ 2 5 else if x = 4 then (if σ 0 3 = 0 then 0 else 1) else -1
theorem w_155 {d : Nat} {Q : mm_Q} {x : Int32} {σ : mm_S} (q : Q (some (.int (f_155 σ x))) σ) : mD (d + 1) 155 [.ref 0, .int x] σ Q := by
  have go : ∀ v, f_155 σ x = v → Q (some (.int v)) σ := fun v e => by rw [← e]; exact q
  refine c_155 (fun e => go _ ?_) (fun e => go _ ?_) (fun e => go _ ?_) (fun e => go _ ?_) (fun e => go _ ?_) (fun a b c d e => go _ ?_)
  · subst e; rfl
  · subst e; rfl
  · subst e; rfl
  · subst e; rfl
  · subst e; rfl
  · unfold f_155; rw [if_neg a, if_neg b, if_neg c, if_neg d, if_neg e]
theorem w_150 {d n m : Nat} {Q : mm_Q} {x1 : Int32} {σ : mm_S} (Y : YI σ n m) (q : Q (some (.int (f_155 σ x1))) (mm_up σ 10 0 0)) : mD (d + 2) 150 [.ref 10, .int x1] σ Q := by
  have go : ∀ v, f_155 σ x1 = v → Q (some (.int v)) (mm_up σ 10 0 0) := fun v e => by rw [← e]; exact q
  obtain ⟨Z, _, ⟨s1, s2⟩, p1, p2⟩ := Y
  refine c_150 (fun e => go _ ?_) (fun a e => go _ ?_) (fun a b e => go _ ?_) (fun a b c e => go _ ?_) (fun a b c d e z => go _ ?_) (fun a b c d e z => go _ ?_) (fun a b c d e => go _ ?_)
  · subst e
    show σ 1 11 = _
    rw [rc_cg (σ := σ) (mm_up_n (by decide)) 9, Z.rcb 9 (Nat.le_refl 9)]
    exact Z.ck.cr
  · subst e
    show σ 1 12 = _
    rw [Z.ck.jn.2, Z.mk.jn.2]
  · subst e; exact s1
  · subst e; exact s2
  · subst e
    show (if σ 0 3 = 0 then (0 : Int32) else 1) = 0
    rw [p2] at z
    rw [if_pos z]
  · subst e
    show (if σ 0 3 = 0 then (0 : Int32) else 1) = 1
    rw [p2] at z
    rw [if_neg z]
  · unfold f_155; rw [if_neg a, if_neg b, if_neg c, if_neg d, if_neg e]
end
