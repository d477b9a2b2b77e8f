-- what is linked: the reference's linkAll gives the class's neighbours
theorem c_118s {d L pl p0 c0 : Nat} {Q : mm_Q} {τ : mm_S} {o : Nat → Nat} (l1 : 1 ≤ L) (l9 : L ≤ 9) (e15 : τ 10 15 = nI L) (ol : ∀ k, k < L → o k < 9 ∧ τ 85 k = nI (o k)) (dis : ∀ i j, i < j → j < L → o i ≠ o j) (c9 : c0 < 9) (e83 : τ 83 0 = nI c0) (hp0 : p0 < L) (op0 : o p0 = c0) (hpl : pl ≤ 43) (q : Q (some (.int (nI (o ((p0 + pl) % L))))) τ) : mD (d + 1) 118 [.ref 10, .int (nI pl)] τ Q := by
  have z0 : (0 : Int32).toNatClampNeg = 0 := by decide
  have ml : (p0 + pl) % L < L := Nat.mod_lt _ (by omega)
  refine ke_118 (kb_118_0 ?_)
  refine lp_dn (P := fun i => mw d mt_118 Q 2 [some (.ref 10), some (.int (nI pl)), some (.int (nI i))] [] τ) p0 ?_ ?_ 0 (Nat.zero_le _)
  · refine kb_118_2 (pk_in p0 48 (by omega)) (pk_in 0 4 (by decide)) (fun _ => ?_) (fun z => absurd ?_ z)
    · have e : nI p0 + nI pl - (nI p0 + nI pl) / τ 10 15 * τ 10 15 = nI ((p0 + pl) % L) := by rw [e15, nI_add]; exact rem_n0 L (by omega) (by omega) _ (by omega)
      refine kb_118_23 (by rw [e15]; exact nI_ne0 (by omega) (by omega)) (by rw [e]; exact pk_in ((p0 + pl) % L) 48 (by omega)) ?_
      rw [e, nI_clamp (show (p0 + pl) % L < 2 ^ 31 by omega), (ol _ ml).2]
      exact q
    · rw [nI_clamp (by omega), z0, (ol _ hp0).2, op0, e83]
  · intro i hi ih
    refine kb_118_2 (pk_in i 48 (by omega)) (pk_in 0 4 (by decide)) (fun z => ?_) (fun _ => kb_118_17 (by rw [nI_1]; exact ih))
    rw [nI_clamp (by omega), z0, (ol i (by omega)).2, e83, ← op0] at z
    exact absurd (nI9 (ol i (by omega)).1 (ol _ hp0).1 z) (dis i p0 hi hp0)
def LKm (τ : mm_S) (R : Nat → Nat → Prop) : Prop := ∀ v, v < 13 → ∃ x, x < 8192 ∧ τ 91 v = nI x ∧ ∀ w, (x.testBit w = true ↔ R v w)
theorem LKm_cg {τ : mm_S} {R R' : Nat → Nat → Prop} (h : ∀ v w, R v w ↔ R' v w) (K : LKm τ R) : LKm τ R' := fun v hv => by
  obtain ⟨x, x1, x2, x3⟩ := K v hv
  exact ⟨x, x1, x2, fun w => (x3 w).trans (h v w)⟩
theorem c_119s {d a b : Nat} {Q : mm_Q} {τ : mm_S} {R : Nat → Nat → Prop} (ha : a < 13) (hb : b < 13) (hab : a ≠ b) (K : LKm τ R) (q : ∀ τ', (∀ c, c ≠ 91 → τ' c = τ c) → LKm τ' (fun v w => R v w ∨ (v = a ∧ w = b) ∨ (v = b ∧ w = a)) → Q none τ') : mD (d + 1) 119 [.ref 10, .int (nI a), .int (nI b)] τ Q := by
  refine ke_119 (kb_119_0 (pk_in a 13 ha) (pk_in a 13 ha) (pk_in b 13 hb) (pk_in b 13 hb) (q _ (fun c h => by rw [mm_up_n h, mm_up_n h]) (fun v hv => ?_)))
  rw [nI_clamp (show a < 2 ^ 31 by omega), nI_clamp (show b < 2 ^ 31 by omega), one_sh (by omega), one_sh (by omega), mm_up_o (show b ≠ a by omega)]
  obtain ⟨x, x1, x2, x3⟩ := K a ha
  obtain ⟨y, y1, y2, y3⟩ := K b hb
  rw [x2, y2, or_bit, or_bit]
  by_cases ev : v = b
  · subst ev
    refine ⟨y ||| 2 ^ a, Nat.or_lt_two_pow (n := 13) y1 (Nat.pow_lt_pow_right (by decide) ha), mm_up_s, fun w => ?_⟩
    rw [tb_or, y3]
    constructor
    · rintro (h | h)
      · exact Or.inl h
      · exact Or.inr (Or.inr ⟨rfl, h⟩)
    · rintro (h | ⟨h, _⟩ | ⟨_, h⟩)
      · exact Or.inl h
      · exact absurd h.symm hab
      · exact Or.inr h
  · rw [mm_up_o ev]
    by_cases eu : v = a
    · subst eu
      refine ⟨x ||| 2 ^ b, Nat.or_lt_two_pow (n := 13) x1 (Nat.pow_lt_pow_right (by decide) hb), mm_up_s, fun w => ?_⟩
      rw [tb_or, x3]
      constructor
      · rintro (h | h)
        · exact Or.inl h
        · exact Or.inr (Or.inl ⟨rfl, h⟩)
      · rintro (h | ⟨_, h⟩ | ⟨h, _⟩)
        · exact Or.inl h
        · exact Or.inr h
        · exact absurd h hab
    · rw [mm_up_o eu]
      obtain ⟨z, z1, z2, z3⟩ := K v hv
      refine ⟨z, z1, z2, fun w => ?_⟩
      rw [z3]
      constructor
      · exact Or.inl
      · rintro (h | ⟨h, _⟩ | ⟨h, _⟩)
        · exact h
        · exact absurd h eu
        · exact absurd h ev
def RJ (σ : mm_S) (k v w : Nat) : Prop := ∃ k', k' < k ∧ v < 9 ∧ w < 9 ∧ ((σ 80 k' = nI v ∧ σ 81 k' = nI w) ∨ (σ 80 k' = nI w ∧ σ 81 k' = nI v))
def SDl (L : Nat) (o p : Nat → Nat) (s x v w : Nat) : Prop := ∃ y, frm L p s ≤ y ∧ y < x ∧ ((v = 9 + s ∧ w = o ((p 0 + y) % L)) ∨ (w = 9 + s ∧ v = o ((p 0 + y) % L)))
def RQ (σ : mm_S) (n L : Nat) (o p : Nat → Nat) (s v w : Nat) : Prop := RJ σ n v w ∨ ∃ s', s' < s ∧ (SDl L o p s' (tom L p s' + 1) v w ∨ (v = 9 + s' ∧ w = 9 + (s' + 1) % 4) ∨ (w = 9 + s' ∧ v = 9 + (s' + 1) % 4))
theorem ring4 : ∀ s, s < 4 → ∀ s', s' < 4 → ((s' = (s + 1) % 4 ∨ s = (s' + 1) % 4) ↔ (s' = nx4 s ∨ s' = pv4 s)) := by decide
theorem RQ_NB {σ : mm_S} {n m L : Nat} {o p K : Nat → Nat} (Z : ZI σ n m) (l1 : 1 ≤ L) (o9 : ∀ k, k < L → o k < 9) (lay : ∀ s, s < 4 → (p 0 + frm L p s) % L = p s ∧ tom L p s = frm L p s + st L p s ∧ tom L p s ≤ L) (hK : ∀ v, v < 13 → K v < 8192 ∧ ∀ w, ((K v).testBit w = true ↔ RQ σ n L o p 4 v w)) : NB σ m o p L (fun s => st L p s + 1) K := by
  have ro : ∀ y, o ((p 0 + y) % L) < 9 := fun y => o9 _ (Nat.mod_lt _ (by omega))
  have sd : ∀ s v, s < 4 → v < 9 → ((∃ y, frm L p s ≤ y ∧ y < tom L p s + 1 ∧ v = o ((p 0 + y) % L)) ↔ onp o p L s (st L p s + 1) v) := fun s v hs hv => by
    obtain ⟨a1, a2, a3⟩ := lay s hs
    have ps : p s % L = p s := by rw [← a1, Nat.mod_mod]
    have key : ∀ i, (p 0 + (frm L p s + i)) % L = (p s + i) % L := fun i => by
      rw [show p 0 + (frm L p s + i) = (p 0 + frm L p s) + i by omega, Nat.add_mod (p 0 + frm L p s) i, a1, Nat.add_mod (p s) i, ps]
    constructor
    · rintro ⟨y, h1, h2, h3⟩
      refine ⟨y - frm L p s, by omega, ?_⟩
      rw [← key, show frm L p s + (y - frm L p s) = y by omega]; exact h3.symm
    · rintro ⟨i, h1, h2⟩
      exact ⟨frm L p s + i, by omega, by omega, by rw [key]; exact h2.symm⟩
  refine ⟨fun v hv => (hK v hv).1, fun v w hv hw => ?_, fun v s hv hs => ?_, fun s w hs hw => ?_, fun s s' hs hs' => ?_⟩
  · rw [(hK v (by omega)).2]
    constructor
    · rintro (⟨k, hk, _, _, h⟩ | ⟨s', _, ⟨y, _, _, h⟩ | h | h⟩)
      · obtain ⟨a, b, ha, hb, _, ma, mb, e1, e2⟩ := Z.ck.je k hk
        obtain ⟨j1, j2⟩ := Z.jj k hk
        have mv : m.testBit v = true := by
          rcases h with ⟨x, y⟩ | ⟨x, y⟩
          · rw [nI9 hv ha (x.symm.trans (j1.trans e1))]; exact ma
          · rw [nI9 hv hb (y.symm.trans (j2.trans e2))]; exact mb
        refine ⟨mv, (Z.ck.ja v w hv mv).mpr ⟨k, hk, ?_, hw⟩⟩
        rw [← j1, ← j2]; exact h
      · omega
      · omega
      · omega
    · rintro ⟨mv, h⟩
      obtain ⟨k, hk, e, _⟩ := (Z.ck.ja v w hv mv).mp h
      obtain ⟨j1, j2⟩ := Z.jj k hk
      exact Or.inl ⟨k, hk, hv, hw, by rw [j1, j2]; exact e⟩
  · rw [(hK v (by omega)).2, ← sd s v hs hv]
    constructor
    · rintro (⟨k, hk, _, h, _⟩ | ⟨s', hs', ⟨y, y1, y2, h⟩ | h | h⟩)
      · omega
      · rcases h with ⟨h, _⟩ | ⟨h, h'⟩
        · omega
        · have : s' = s := by omega
          subst this
          exact ⟨y, y1, y2, h'⟩
      · omega
      · omega
    · rintro ⟨y, y1, y2, h⟩
      exact Or.inr ⟨s, hs, Or.inl ⟨y, y1, y2, Or.inr ⟨rfl, h⟩⟩⟩
  · rw [(hK _ (by omega)).2, ← sd s w hs hw]
    constructor
    · rintro (⟨k, hk, h, _⟩ | ⟨s', hs', ⟨y, y1, y2, h⟩ | h | h⟩)
      · omega
      · rcases h with ⟨h, h'⟩ | ⟨h, _⟩
        · have : s' = s := by omega
          subst this
          exact ⟨y, y1, y2, h'⟩
        · omega
      · omega
      · omega
    · rintro ⟨y, y1, y2, h⟩
      exact Or.inr ⟨s, hs, Or.inl ⟨y, y1, y2, Or.inl ⟨rfl, h⟩⟩⟩
  · rw [(hK _ (by omega)).2, ← ring4 s hs s' hs']
    constructor
    · rintro (⟨k, hk, h, _⟩ | ⟨s'', hs'', ⟨y, y1, y2, h⟩ | h | h⟩)
      · omega
      · have := ro y
        rcases h with ⟨_, h⟩ | ⟨_, h⟩ <;> omega
      · exact Or.inl (by have : s'' = s := by omega
                         subst this; omega)
      · exact Or.inr (by have : s'' = s' := by omega
                         subst this; omega)
    · rintro (h | h)
      · exact Or.inr ⟨s, hs, Or.inr (Or.inl ⟨rfl, by omega⟩)⟩
      · exact Or.inr ⟨s', hs', Or.inr (Or.inr ⟨rfl, by omega⟩)⟩
theorem c_120s {d n m L c0 : Nat} {Q : mm_Q} {σ τ : mm_S} {o p : Nat → Nat} (Z : ZI σ n m) (t6 : τ 10 6 = σ 10 6) (t80 : τ 80 = σ 80) (t81 : τ 81 = σ 81) (l1 : 1 ≤ L) (l9 : L ≤ 9) (e15 : τ 10 15 = nI L) (ol : ∀ k, k < L → o k < 9 ∧ τ 85 k = nI (o k)) (dis : ∀ i j, i < j → j < L → o i ≠ o j) (c9 : c0 < 9) (e83 : τ 83 0 = nI c0) (hp0 : p 0 < L) (op0 : o (p 0) = c0) (h92 : ∀ s, s < 4 → τ 92 s = nI (frm L p s) ∧ τ 93 s = nI (tom L p s)) (lay : ∀ s, s < 4 → (p 0 + frm L p s) % L = p s ∧ tom L p s = frm L p s + st L p s ∧ tom L p s ≤ L)
    (q : ∀ τ' K, (∀ c, c ≠ 91 → τ' c = τ c) → (∀ v, v < 13 → τ' 91 v = nI (K v)) → NB σ m o p L (fun s => st L p s + 1) K → Q none τ') : mD (d + 2) 120 [.ref 10] τ Q := by
  have M := Z.mk
  have n21 := M.jn.1
  have ro : ∀ y, o ((p 0 + y) % L) < 9 := fun y => (ol _ (Nat.mod_lt _ (by omega))).1
  refine ke_120 (kb_120_0 ?_)
  refine lp_dn (P := fun k => ∀ ρ : mm_S, (∀ c, c ≠ 91 → ρ c = τ c) → (∀ v, v < k → ρ 91 v = 0) → mw (d + 1) mt_120 Q 2 [some (.ref 10), some (.int (nI k)), none] [] ρ) 13 ?_ ?_ 0 (by omega) τ (fun _ _ => rfl) (fun v h => absurd h (Nat.not_lt_zero v))
  · intro ρ fr z91
    refine kb_120_2 (fun _ => kb_120_21 ?_) (fun g => absurd (by decide) g)
    refine lp_dn (P := fun k => ∀ ρ : mm_S, (∀ c, c ≠ 91 → ρ c = τ c) → LKm ρ (RJ σ k) → mw (d + 1) mt_120 Q 23 [some (.ref 10), some (.int (nI k)), none] [] ρ) n ?_ ?_ 0 (Nat.zero_le n) ρ fr (fun v hv => ⟨0, by decide, z91 v hv, fun w => ⟨fun h => absurd h (by simp), fun ⟨k', h, _⟩ => absurd h (Nat.not_lt_zero k')⟩⟩)
    · intro ρ fr lk
      have e6 : ρ 10 6 = nI n := by rw [fr 10 (by decide), t6]; exact M.jn.2
      refine kb_120_23 (fun _ => kb_120_53 ?_) (fun g => absurd (by rw [e6]; exact hI_le (by omega) (Nat.le_refl n)) g)
      refine lp_dn (P := fun s => ∀ ρ : mm_S, (∀ c, c ≠ 91 → ρ c = τ c) → LKm ρ (RQ σ n L o p s) → ∀ o2, mw (d + 1) mt_120 Q 55 [some (.ref 10), some (.int (nI s)), o2] [] ρ) 4 ?_ ?_ 0 (by omega) ρ fr (LKm_cg (fun v w => ⟨Or.inl, fun h => h.resolve_right (fun ⟨s', h, _⟩ => absurd h (Nat.not_lt_zero s'))⟩) lk) none
      · intro ρ fr lk o2
        have exK : ∃ K : Nat → Nat, ∀ v, v < 13 → K v < 8192 ∧ ρ 91 v = nI (K v) ∧ ∀ w, ((K v).testBit w = true ↔ RQ σ n L o p 4 v w) := ⟨fun v => (ρ 91 v).toNatClampNeg, fun v hv => by
          obtain ⟨x, x1, x2, x3⟩ := lk v hv
          show (ρ 91 v).toNatClampNeg < 8192 ∧ ρ 91 v = nI (ρ 91 v).toNatClampNeg ∧ ∀ w, ((ρ 91 v).toNatClampNeg.testBit w = true ↔ _)
          rw [x2, nI_clamp (by omega)]
          exact ⟨x1, rfl, x3⟩⟩
        obtain ⟨K, hK⟩ := exK
        exact kb_120_55 (fun _ => kb_120_118 (q ρ K fr (fun v hv => (hK v hv).2.1) (RQ_NB Z l1 (fun k hk => (ol k hk).1) lay (fun v hv => ⟨(hK v hv).1, (hK v hv).2.2⟩)))) (fun g => absurd (by decide) g)
      · intro s hs ih ρ fr lk o2
        have cs : (nI s).toNatClampNeg = s := nI_clamp (by omega)
        obtain ⟨e92, e93⟩ := h92 s hs
        obtain ⟨y1, y2, y3⟩ := lay s hs
        refine kb_120_55 (fun g => absurd g (hI_nle (a := 4) (by omega) hs)) (fun _ => kb_120_60 (pk_in s 4 hs) ?_)
        rw [cs, fr 92 (by decide), e92]
        refine lp_dn (P := fun x => frm L p s ≤ x → ∀ ρ : mm_S, (∀ c, c ≠ 91 → ρ c = τ c) → LKm ρ (fun v w => RQ σ n L o p s v w ∨ SDl L o p s x v w) → mw (d + 1) mt_120 Q 67 [some (.ref 10), some (.int (nI s)), some (.int (nI x))] [] ρ) (tom L p s + 1) ?_ ?_ (frm L p s) (by omega) (Nat.le_refl _) ρ fr (LKm_cg (fun v w => ⟨Or.inl, fun h => h.resolve_right (fun ⟨y, h1, h2, _⟩ => absurd h1 (by omega))⟩) lk)
        · intro _ ρ fr lk
          have r93 : ρ 93 (nI s).toNatClampNeg = nI (tom L p s) := by rw [cs, fr 93 (by decide)]; exact e93
          refine kb_120_67 (pk_in s 4 hs) (fun _ => kb_120_96 (by decide) ?_) (fun g => absurd (by rw [r93]; exact nI_lt (by omega) (by omega)) g)
          rw [nx4_rem s hs, nI_9, nI_9]
          refine c_119s (by omega) (by omega) (by omega) lk (fun ρ' f' lk' => kb_120_112 ?_)
          rw [nI_1]
          refine ih ρ' (fun c h => by rw [f' c h]; exact fr c h) (LKm_cg (fun v w => ?_) lk') _
          constructor
          · rintro ((h | h) | h | h)
            · rcases h with h | ⟨s', hs', h⟩
              · exact Or.inl h
              · exact Or.inr ⟨s', by omega, h⟩
            · exact Or.inr ⟨s, by omega, Or.inl h⟩
            · exact Or.inr ⟨s, by omega, Or.inr (Or.inl h)⟩
            · exact Or.inr ⟨s, by omega, Or.inr (Or.inr ⟨h.2, h.1⟩)⟩
          · rintro (h | ⟨s', hs', h⟩)
            · exact Or.inl (Or.inl (Or.inl h))
            · by_cases e : s' = s
              · subst e
                rcases h with h | h | h
                · exact Or.inl (Or.inr h)
                · exact Or.inr (Or.inl h)
                · exact Or.inr (Or.inr ⟨h.2, h.1⟩)
              · exact Or.inl (Or.inl (Or.inr ⟨s', by omega, h⟩))
        · intro x hx ihx hfx ρ fr lk
          have r93 : ρ 93 (nI s).toNatClampNeg = nI (tom L p s) := by rw [cs, fr 93 (by decide)]; exact e93
          have rx := ro x
          refine kb_120_67 (pk_in s 4 hs) (fun g => absurd g ?_) (fun g => kb_120_77 (c_118s l1 l9 (by rw [fr 10 (by decide)]; exact e15) (fun k hk => by rw [fr 85 (by decide)]; exact ol k hk) dis c9 (by rw [fr 83 (by decide)]; exact e83) hp0 op0 (by omega) (kb_120_87 ?_)))
          · rw [r93]
            intro g
            have := Int32.lt_of_lt_of_le g (hI_le (show tom L p s < 100000 by omega) (show x ≤ tom L p s by omega))
            exact absurd this (Int32.lt_irrefl)
          · rw [nI_9]
            refine c_119s (by omega) (by omega) (by omega) lk (fun ρ' f' lk' => kb_120_90 ?_)
            rw [nI_1]
            refine ihx (by omega) ρ' (fun c h => by rw [f' c h]; exact fr c h) (LKm_cg (fun v w => ?_) lk')
            constructor
            · rintro ((h | ⟨y, h1, h2, h3⟩) | h | h)
              · exact Or.inl h
              · exact Or.inr ⟨y, h1, by omega, h3⟩
              · exact Or.inr ⟨x, hfx, by omega, Or.inl h⟩
              · exact Or.inr ⟨x, hfx, by omega, Or.inr ⟨h.2, h.1⟩⟩
            · rintro (h | ⟨y, h1, h2, h3⟩)
              · exact Or.inl (Or.inl h)
              · by_cases e : y = x
                · subst e
                  rcases h3 with h | h
                  · exact Or.inr (Or.inl h)
                  · exact Or.inr (Or.inr ⟨h.2, h.1⟩)
                · exact Or.inl (Or.inr ⟨y, h1, by omega, h3⟩)
    · intro k hk ih ρ fr lk
      have e6 : ρ 10 6 = nI n := by rw [fr 10 (by decide), t6]; exact M.jn.2
      obtain ⟨a, b, ha, hb, hne, _, _, e1, e2⟩ := M.je k hk
      have ck : (nI k).toNatClampNeg = k := nI_clamp (by omega)
      refine kb_120_23 (fun g => absurd g (by rw [e6]; exact hI_nle (by omega) hk)) (fun _ => kb_120_31 (pk_in k 21 (by omega)) (pk_in k 21 (by omega)) ?_)
      rw [ck, fr 80 (by decide), fr 81 (by decide), t80, t81, e1, e2]
      refine c_119s (by omega) (by omega) hne lk (fun ρ' f' lk' => kb_120_47 ?_)
      rw [nI_1]
      refine ih ρ' (fun c h => by rw [f' c h]; exact fr c h) (LKm_cg (fun v w => ?_) lk')
      constructor
      · rintro (⟨k', h1, h2⟩ | ⟨h1, h2⟩ | ⟨h1, h2⟩)
        · exact ⟨k', by omega, h2⟩
        · subst h1; subst h2; exact ⟨k, by omega, ha, hb, Or.inl ⟨e1, e2⟩⟩
        · subst h1; subst h2; exact ⟨k, by omega, hb, ha, Or.inr ⟨e1, e2⟩⟩
      · rintro ⟨k', h1, h2, h3, h4⟩
        by_cases e : k' = k
        · subst e
          rcases h4 with ⟨x, y⟩ | ⟨x, y⟩
          · exact Or.inr (Or.inl ⟨nI9 h2 ha (x.symm.trans e1), nI9 h3 hb (y.symm.trans e2)⟩)
          · exact Or.inr (Or.inr ⟨nI9 h2 hb (y.symm.trans e2), nI9 h3 ha (x.symm.trans e1)⟩)
        · exact Or.inl ⟨k', by omega, h2, h3, h4⟩
  · intro k hk ih ρ fr z91
    refine kb_120_2 (fun g => absurd g (hI_nle (a := 13) (by omega) hk)) (fun _ => kb_120_8 (pk_in k 13 hk) ?_)
    rw [nI_1, nI_clamp (show k < 2 ^ 31 by omega)]
    refine ih _ (fun c h => by rw [mm_up_n h]; exact fr c h) (fun v hv => ?_)
    by_cases e : v = k
    · subst e; exact mm_up_s
    · rw [mm_up_o e]; exact z91 v (by omega)

