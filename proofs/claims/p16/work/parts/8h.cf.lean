-- the corners: both say the same
def v4 (a b c e i : Nat) : Nat := if i = 0 then a else if i = 1 then b else if i = 2 then c else e
def qp (L : Nat) (p : Nat → Nat) (i : Nat) : Nat := (p i + L - p 0) % L
def frm (L : Nat) (p : Nat → Nat) : Nat → Nat
  | 0 => 0
  | i + 1 => if qp L p (i + 1) < frm L p i ∧ qp L p (i + 1) = 0 then L else qp L p (i + 1)
def tom (L : Nat) (p : Nat → Nat) (i : Nat) : Nat := if i < 3 then frm L p (i + 1) else L
theorem v4_i {p : Nat → Nat} {i : Nat} (hi : i < 4) : v4 (p 0) (p 1) (p 2) (p 3) i = p i := by
  rcases (show i = 0 ∨ i = 1 ∨ i = 2 ∨ i = 3 by omega) with e | e | e | e <;> subst e <;> rfl
theorem qp_v4 {L : Nat} {p : Nat → Nat} {i : Nat} (hi : i < 4) : qp L (v4 (p 0) (p 1) (p 2) (p 3)) i = qp L p i := by
  unfold qp; rw [v4_i hi, v4_i (show 0 < 4 by decide)]
theorem frm_v4 {L : Nat} {p : Nat → Nat} : ∀ i, i < 4 → frm L (v4 (p 0) (p 1) (p 2) (p 3)) i = frm L p i
  | 0, _ => rfl
  | i + 1, h => by
    show (if qp L (v4 (p 0) (p 1) (p 2) (p 3)) (i + 1) < frm L (v4 (p 0) (p 1) (p 2) (p 3)) i ∧ qp L (v4 (p 0) (p 1) (p 2) (p 3)) (i + 1) = 0 then L else qp L (v4 (p 0) (p 1) (p 2) (p 3)) (i + 1)) = _
    rw [qp_v4 h, frm_v4 i (by omega)]; rfl
theorem st_v4 {L : Nat} {p : Nat → Nat} {i : Nat} (hi : i < 4) : st L (v4 (p 0) (p 1) (p 2) (p 3)) i = st L p i := by
  unfold st; rw [v4_i hi, v4_i (f_50_n i hi).2]
theorem tom_v4 {L : Nat} {p : Nat → Nat} {i : Nat} (hi : i < 4) : tom L (v4 (p 0) (p 1) (p 2) (p 3)) i = tom L p i := by
  unfold tom
  by_cases h : i < 3
  · rw [if_pos h, if_pos h, frm_v4 _ (by omega)]
  · rw [if_neg h, if_neg h]
def smv (L a b c e : Nat) : Nat := st L (v4 a b c e) 0 + st L (v4 a b c e) 1 + st L (v4 a b c e) 2 + st L (v4 a b c e) 3
def layb (L a b c e : Nat) : Bool := (decide (frm L (v4 a b c e) 0 ≤ frm L (v4 a b c e) 1) && decide (frm L (v4 a b c e) 1 ≤ frm L (v4 a b c e) 2) && decide (frm L (v4 a b c e) 2 ≤ frm L (v4 a b c e) 3) && !(decide (a = b) && decide (b = c) && decide (c = e))) == decide (smv L a b c e = L)
def layc (L a b c e s : Nat) : Bool := decide ((a + frm L (v4 a b c e) s) % L = (v4 a b c e) s) && decide (tom L (v4 a b c e) s = frm L (v4 a b c e) s + st L (v4 a b c e) s) && decide (tom L (v4 a b c e) s ≤ L)
def lay4 (L a b c e : Nat) : Bool := !(decide (smv L a b c e = L)) || (layc L a b c e 0 && layc L a b c e 1 && layc L a b c e 2 && layc L a b c e 3)
set_option maxRecDepth 100000 in
theorem lay_d1 : ∀ L, L < 10 → ∀ a, a < L → ∀ b, b < L → ∀ c, c < L → ∀ e, e < L → layb L a b c e = true := by decide +kernel
set_option maxRecDepth 100000 in
theorem lay_d2 : ∀ L, L < 10 → ∀ a, a < L → ∀ b, b < L → ∀ c, c < L → ∀ e, e < L → lay4 L a b c e = true := by decide +kernel
theorem lay_dec (L : Nat) (hL : L < 10) (a : Nat) (ha : a < L) (b : Nat) (hb : b < L) (c : Nat) (hc : c < L) (e : Nat) (he : e < L) : ((frm L (v4 a b c e) 0 ≤ frm L (v4 a b c e) 1 ∧ frm L (v4 a b c e) 1 ≤ frm L (v4 a b c e) 2 ∧ frm L (v4 a b c e) 2 ≤ frm L (v4 a b c e) 3 ∧ ¬ (a = b ∧ b = c ∧ c = e)) ↔ st L (v4 a b c e) 0 + st L (v4 a b c e) 1 + st L (v4 a b c e) 2 + st L (v4 a b c e) 3 = L) ∧ (st L (v4 a b c e) 0 + st L (v4 a b c e) 1 + st L (v4 a b c e) 2 + st L (v4 a b c e) 3 = L → ∀ s, s < 4 → (a + frm L (v4 a b c e) s) % L = (v4 a b c e) s ∧ tom L (v4 a b c e) s = frm L (v4 a b c e) s + st L (v4 a b c e) s ∧ tom L (v4 a b c e) s ≤ L) := by
  have h1 := lay_d1 L hL a ha b hb c hc e he
  have h2 := lay_d2 L hL a ha b hb c hc e he
  unfold layb smv at h1
  rw [beq_iff_eq] at h1
  constructor
  · constructor
    · rintro ⟨x1, x2, x3, x4⟩
      have l : (decide (frm L (v4 a b c e) 0 ≤ frm L (v4 a b c e) 1) && decide (frm L (v4 a b c e) 1 ≤ frm L (v4 a b c e) 2) && decide (frm L (v4 a b c e) 2 ≤ frm L (v4 a b c e) 3) && !(decide (a = b) && decide (b = c) && decide (c = e))) = true := by
        rw [decide_eq_true x1, decide_eq_true x2, decide_eq_true x3]
        simp only [Bool.true_and, Bool.not_eq_true', Bool.and_eq_false_iff, decide_eq_false_iff_not]
        by_cases y1 : a = b
        · by_cases y2 : b = c
          · exact Or.inr (fun y3 => x4 ⟨y1, y2, y3⟩)
          · exact Or.inl (Or.inr y2)
        · exact Or.inl (Or.inl y1)
      rw [l] at h1
      exact of_decide_eq_true h1.symm
    · intro x
      rw [decide_eq_true x] at h1
      simp only [Bool.and_eq_true, decide_eq_true_eq, Bool.not_eq_true', Bool.and_eq_false_iff, decide_eq_false_iff_not] at h1
      obtain ⟨⟨⟨x1, x2⟩, x3⟩, x4⟩ := h1
      refine ⟨x1, x2, x3, fun ⟨y1, y2, y3⟩ => ?_⟩
      rcases x4 with (x4 | x4) | x4
      · exact x4 y1
      · exact x4 y2
      · exact x4 y3
  · intro x s hs
    unfold lay4 smv layc at h2
    rw [decide_eq_true x] at h2
    simp only [Bool.not_true, Bool.false_or, Bool.and_eq_true, decide_eq_true_eq] at h2
    obtain ⟨⟨⟨z0, z1⟩, z2⟩, z3⟩ := h2
    rcases (show s = 0 ∨ s = 1 ∨ s = 2 ∨ s = 3 by omega) with y | y | y | y
    · subst y; exact ⟨z0.1.1, z0.1.2, z0.2⟩
    · subst y; exact ⟨z1.1.1, z1.1.2, z1.2⟩
    · subst y; exact ⟨z2.1.1, z2.1.2, z2.2⟩
    · subst y; exact ⟨z3.1.1, z3.1.2, z3.2⟩
theorem lay_p {L : Nat} {p : Nat → Nat} (hL : L < 10) (hp : ∀ i, i < 4 → p i < L) : ((frm L p 0 ≤ frm L p 1 ∧ frm L p 1 ≤ frm L p 2 ∧ frm L p 2 ≤ frm L p 3 ∧ ¬ (p 0 = p 1 ∧ p 1 = p 2 ∧ p 2 = p 3)) ↔ st L p 0 + st L p 1 + st L p 2 + st L p 3 = L) ∧ (st L p 0 + st L p 1 + st L p 2 + st L p 3 = L → ∀ s, s < 4 → (p 0 + frm L p s) % L = p s ∧ tom L p s = frm L p s + st L p s ∧ tom L p s ≤ L) := by
  have h := lay_dec L hL (p 0) (hp 0 (by decide)) (p 1) (hp 1 (by decide)) (p 2) (hp 2 (by decide)) (p 3) (hp 3 (by decide))
  rw [frm_v4 0 (by decide), frm_v4 1 (by decide), frm_v4 2 (by decide), frm_v4 3 (by decide), st_v4 (show 0 < 4 by decide), st_v4 (show 1 < 4 by decide), st_v4 (show 2 < 4 by decide), st_v4 (show 3 < 4 by decide)] at h
  refine ⟨h.1, fun e s hs => ?_⟩
  have k := h.2 e s hs
  rw [frm_v4 s hs, v4_i hs, tom_v4 hs, st_v4 hs] at k
  exact k
theorem frm_le {L : Nat} {p : Nat → Nat} (h1 : 1 ≤ L) : ∀ i, frm L p i ≤ L
  | 0 => Nat.zero_le L
  | i + 1 => by
    have := Nat.mod_lt (p (i + 1) + L - p 0) (show L > 0 by omega)
    show (if qp L p (i + 1) < frm L p i ∧ qp L p (i + 1) = 0 then L else qp L p (i + 1)) ≤ L
    unfold qp
    split <;> omega
def fit (τ : mm_S) (L : Nat) (o : Nat → Nat) : Prop := τ 10 10 = 1 ∧ ∃ p c : Nat → Nat, (∀ i, i < 4 → c i < 9 ∧ τ 83 i = nI (c i)) ∧ (∀ i, i < 4 → p i < L ∧ o (p i) = c i) ∧ st L p 0 + st L p 1 + st L p 2 + st L p 3 = L
theorem c_116s {d L r c0 : Nat} {Q : mm_Q} {τ : mm_S} {o : Nat → Nat} (l1 : 1 ≤ L) (l9 : L ≤ 9) (e15 : τ 10 15 = nI L) (ol : ∀ k, k < L → o k < 9 ∧ τ 85 k = nI (o k)) (c9 : c0 < 9) (e83 : τ 83 0 = nI c0) (r9 : r < 9) (q0 : (∀ k, k < L → o k ≠ c0) ∨ (∀ k, k < L → o k ≠ r) → Q (some (.int (-1))) τ) (q1 : ∀ i j, i < L → j < L → o i = c0 → o j = r → Q (some (.int (nI ((j + L - i) % L)))) τ) : mD (d + 1) 116 [.ref 10, .int (nI r)] τ Q := by
  refine ke_116 (kb_116_0 ?_)
  refine lp_dn (P := fun k => ∀ y z, ((y = -1 ∧ ∀ i, i < k → o i ≠ c0) ∨ ∃ i, i < L ∧ y = nI i ∧ o i = c0) → ((z = -1 ∧ ∀ i, i < k → o i ≠ r) ∨ ∃ j, j < L ∧ z = nI j ∧ o j = r) → mw d mt_116 Q 7 [some (.ref 10), some (.int (nI r)), some (.int y), some (.int z), some (.int (nI k))] [] τ) L ?_ ?_ 0 (Nat.zero_le L) (-1) (-1) (Or.inl ⟨rfl, fun i hi => absurd hi (Nat.not_lt_zero i)⟩) (Or.inl ⟨rfl, fun i hi => absurd hi (Nat.not_lt_zero i)⟩)
  · intro y z hy hz
    refine kb_116_7 (fun _ => kb_116_63 (fun a => kb_116_73 (q0 (Or.inl ?_))) (fun a => kb_116_68 (fun b => kb_116_73 (q0 (Or.inr ?_))) (fun b => ?_))) (fun g => absurd (by rw [e15]; exact hI_le (by omega) (Nat.le_refl L)) g)
    · rcases hy with ⟨_, h⟩ | ⟨i, hi, ei, _⟩
      · exact h
      · rw [ei] at a; exact absurd a (nI_m1 (by omega))
    · rcases hz with ⟨_, h⟩ | ⟨i, hi, ei, _⟩
      · exact h
      · rw [ei] at b; exact absurd b (nI_m1 (by omega))
    · obtain ⟨i, hi, ei, oi⟩ := hy.resolve_left (fun h => a h.1)
      obtain ⟨j, hj, ej, oj⟩ := hz.resolve_left (fun h => b h.1)
      subst ei; subst ej
      refine kb_116_77 (by rw [e15]; exact nI_ne0 (by omega) (by omega)) ?_
      have e : nI j - nI i + nI L = nI (j + L - i) := by rw [i32_sw, nI_add, nI_sub (by omega)]
      rw [e15, e, rem_n0 L (by omega) (by omega) _ (by omega)]
      exact q1 i j hi hj oi oj
  · intro k hk ih y z hy hz
    obtain ⟨o9, eo⟩ := ol k hk
    have ck : (nI k).toNatClampNeg = k := nI_clamp (by omega)
    have z0 : (0 : Int32).toNatClampNeg = 0 := by decide
    have nx : ∀ y z, ((y = -1 ∧ ∀ i, i < k + 1 → o i ≠ c0) ∨ ∃ i, i < L ∧ y = nI i ∧ o i = c0) → ((z = -1 ∧ ∀ i, i < k + 1 → o i ≠ r) ∨ ∃ j, j < L ∧ z = nI j ∧ o j = r) → mw d mt_116 Q 7 [some (.ref 10), some (.int (nI r)), some (.int y), some (.int z), some (.int (nI k + 1))] [] τ := fun y z h1 h2 => by rw [nI_1]; exact ih y z h1 h2
    have ext : ∀ {y : Int32} {c : Nat}, o k ≠ c → ((y = -1 ∧ ∀ i, i < k → o i ≠ c) ∨ ∃ i, i < L ∧ y = nI i ∧ o i = c) → ((y = -1 ∧ ∀ i, i < k + 1 → o i ≠ c) ∨ ∃ i, i < L ∧ y = nI i ∧ o i = c) := fun {y c} hne h => by
      rcases h with ⟨h1, h2⟩ | h
      · refine Or.inl ⟨h1, fun i hi => ?_⟩
        by_cases e : i = k
        · subst e; exact hne
        · exact h2 i (by omega)
      · exact Or.inr h
    have ca : τ 85 (nI k).toNatClampNeg = τ 83 (0 : Int32).toNatClampNeg ↔ o k = c0 := by
      rw [ck, z0, eo, e83]
      exact ⟨fun h => nI9 o9 c9 h, fun h => by rw [h]⟩
    have cb : τ 85 (nI k).toNatClampNeg = nI r ↔ o k = r := by
      rw [ck, eo]
      exact ⟨fun h => nI9 o9 r9 h, fun h => by rw [h]⟩
    refine kb_116_7 (fun g => absurd g (by rw [e15]; exact hI_nle (by omega) hk)) (fun _ => kb_116_16 (pk_in k 48 (by omega)) (pk_in 0 4 (by decide)) (fun a => kb_116_32 (pk_in k 48 (by omega)) (fun b => kb_116_50 (nx _ _ (Or.inr ⟨k, hk, rfl, ca.mp a⟩) (Or.inr ⟨k, hk, rfl, cb.mp b⟩))) (fun b => kb_116_55 (nx _ _ (Or.inr ⟨k, hk, rfl, ca.mp a⟩) (ext (fun e => b (cb.mpr e)) hz)))) (fun a => kb_116_37 (pk_in k 48 (by omega)) (fun b => kb_116_50 (nx _ _ (ext (fun e => a (ca.mpr e)) hy) (Or.inr ⟨k, hk, rfl, cb.mp b⟩))) (fun b => kb_116_55 (nx _ _ (ext (fun e => a (ca.mpr e)) hy) (ext (fun e => b (cb.mpr e)) hz)))))
theorem c_117s {d L : Nat} {Q : mm_Q} {τ : mm_S} {o : Nat → Nat} (l1 : 1 ≤ L) (l9 : L ≤ 9) (e15 : τ 10 15 = nI L) (ol : ∀ k, k < L → o k < 9 ∧ τ 85 k = nI (o k)) (dis : ∀ i j, i < j → j < L → o i ≠ o j) (hco : (τ 10 10 = 0 ∨ τ 10 10 = 1) ∧ (τ 10 10 = 1 → ∀ i, i < 4 → ∃ a, a < 9 ∧ τ 83 i = nI a))
    (q0 : ∀ τ', (∀ c, c ≠ 92 → c ≠ 93 → τ' c = τ c) → ¬ fit τ L o → Q (some (.int 0)) τ')
    (q1 : ∀ (τ' : mm_S) (p c : Nat → Nat), (∀ c, c ≠ 92 → c ≠ 93 → τ' c = τ c) → (∀ i, i < 4 → c i < 9 ∧ τ 83 i = nI (c i)) → (∀ i, i < 4 → p i < L ∧ o (p i) = c i) → st L p 0 + st L p 1 + st L p 2 + st L p 3 = L → (∀ s, s < 4 → τ' 92 s = nI (frm L p s) ∧ τ' 93 s = nI (tom L p s)) → fit τ L o → Q (some (.int 1)) τ') : mD (d + 2) 117 [.ref 10] τ Q := by
  have uq : ∀ i j, i < L → j < L → o i = o j → i = j := fun i j hi hj e => by
    rcases Nat.lt_trichotomy i j with h | h | h
    · exact absurd e (dis i j h hj)
    · exact h
    · exact absurd e.symm (dis j i h hi)
  refine ke_117 (kb_117_0 (fun z => kb_117_52 (q0 τ (fun _ _ _ => rfl) (fun h => by rw [h.1] at z; exact absurd z (by decide)))) (fun z => ?_))
  have h1 := hco.1.resolve_left z
  have ex : ∃ c : Nat → Nat, ∀ i, i < 4 → c i < 9 ∧ τ 83 i = nI (c i) := ⟨fun i => (τ 83 i).toNatClampNeg, fun i hi => by
    obtain ⟨a, ha, e⟩ := hco.2 h1 i hi
    show (τ 83 i).toNatClampNeg < 9 ∧ τ 83 i = nI (τ 83 i).toNatClampNeg
    rw [e, nI_clamp (by omega)]
    exact ⟨ha, rfl⟩⟩
  obtain ⟨c, hc⟩ := ex
  have exp : ∃ p : Nat → Nat, ∀ i, (∃ k, k < L ∧ o k = c i) → p i < L ∧ o (p i) = c i := ⟨fun i => if h : ∃ k, k < L ∧ o k = c i then h.choose else 0, fun i h => by
    show (if h : ∃ k, k < L ∧ o k = c i then h.choose else 0) < L ∧ o (if h : ∃ k, k < L ∧ o k = c i then h.choose else 0) = c i
    rw [dif_pos h]; exact h.choose_spec⟩
  obtain ⟨p, hp⟩ := exp
  -- a fit has these corners and these places
  have fp : fit τ L o → (∀ i, i < 4 → ∃ k, k < L ∧ o k = c i) ∧ st L p 0 + st L p 1 + st L p 2 + st L p 3 = L := fun ⟨_, p', c', hc', hp', hs'⟩ => by
    have ec : ∀ i, i < 4 → c' i = c i := fun i hi => nI9 (hc' i hi).1 (hc i hi).1 ((hc' i hi).2.symm.trans (hc i hi).2)
    have on : ∀ i, i < 4 → ∃ k, k < L ∧ o k = c i := fun i hi => ⟨p' i, (hp' i hi).1, by rw [(hp' i hi).2, ec i hi]⟩
    have ep : ∀ i, i < 4 → p' i = p i := fun i hi => uq _ _ (hp' i hi).1 (hp i (on i hi)).1 (by rw [(hp' i hi).2, (hp i (on i hi)).2, ec i hi])
    refine ⟨on, ?_⟩
    have es : ∀ i, i < 4 → st L p' i = st L p i := fun i hi => by unfold st; rw [ep i hi, ep _ (f_50_n i hi).2]
    rw [← es 0 (by decide), ← es 1 (by decide), ← es 2 (by decide), ← es 3 (by decide)]; exact hs'
  have lay := fun (on : ∀ i, i < 4 → ∃ k, k < L ∧ o k = c i) => lay_p (L := L) (p := p) (by omega) (fun i hi => (hp i (on i hi)).1)
  have go : ¬ (c 0 = c 1 ∧ c 1 = c 2 ∧ c 2 = c 3) → mw (d + 1) mt_117 Q 54 [some (.ref 10), none, none, none] [] τ := fun hne => by
    refine kb_117_54 ?_
    refine lp_dn (P := fun s => ∀ (ρ : mm_S) (y : Int32), (∀ c, c ≠ 92 → c ≠ 93 → ρ c = τ c) → (∀ i, i < s → ∃ k, k < L ∧ o k = c i) → (∀ i, i < s → ρ 92 i = nI (frm L p i)) → (∀ i, i + 1 < s → frm L p i ≤ frm L p (i + 1)) → y = nI (if s = 0 then 0 else frm L p (s - 1)) → ∀ o3, mw (d + 1) mt_117 Q 58 [some (.ref 10), some (.int y), some (.int (nI s)), o3] [] ρ) 4 ?_ ?_ 0 (by omega) τ 0 (fun _ _ _ => rfl) (fun i h => absurd h (Nat.not_lt_zero i)) (fun i h => absurd h (Nat.not_lt_zero i)) (fun i h => absurd h (by omega)) rfl none
    · intro ρ y fr on e92 ch hy o3
      refine kb_117_58 (fun _ => kb_117_117 ?_) (fun g => absurd (by decide) g)
      have sum : st L p 0 + st L p 1 + st L p 2 + st L p 3 = L := (lay on).1.mp ⟨ch 0 (by decide), ch 1 (by decide), ch 2 (by decide), fun ⟨a1, a2, a3⟩ => hne ⟨by rw [← (hp 0 (on 0 (by decide))).2, a1]; exact (hp 1 (on 1 (by decide))).2, by rw [← (hp 1 (on 1 (by decide))).2, a2]; exact (hp 2 (on 2 (by decide))).2, by rw [← (hp 2 (on 2 (by decide))).2, a3]; exact (hp 3 (on 3 (by decide))).2⟩⟩
      have fi : fit τ L o := ⟨h1, p, c, hc, fun i hi => hp i (on i hi), sum⟩
      refine lp_dn (P := fun s => ∀ (ρ : mm_S), (∀ c, c ≠ 92 → c ≠ 93 → ρ c = τ c) → (∀ i, i < 4 → ρ 92 i = nI (frm L p i)) → (∀ i, i < s → ρ 93 i = nI (tom L p i)) → mw (d + 1) mt_117 Q 119 [some (.ref 10), some (.int y), some (.int (nI s)), o3] [] ρ) 4 ?_ ?_ 0 (by omega) ρ fr e92 (fun c h => absurd h (Nat.not_lt_zero c))
      · intro ρ fr e92 e93
        exact kb_117_119 (fun _ => kb_117_156 (q1 ρ p c fr hc (fun i hi => hp i (on i hi)) sum (fun s hs => ⟨e92 s hs, e93 s hs⟩) fi)) (fun g => absurd (by decide) g)
      · intro s hs ih ρ fr e92 e93
        have cs : (nI s).toNatClampNeg = s := nI_clamp (by omega)
        have nx : ∀ x, x = nI (tom L p s) → mw (d + 1) mt_117 Q 119 [some (.ref 10), some (.int y), some (.int (nI s + 1)), o3] [] (mm_up ρ 93 (nI s).toNatClampNeg x) := fun x ex => by
          rw [nI_1, cs]
          refine ih _ (fun c h1 h2 => by rw [mm_up_n h2]; exact fr c h1 h2) (fun c hc' => by rw [mm_up_n (by decide)]; exact e92 c hc') (fun c hc' => ?_)
          by_cases e : c = s
          · subst e; rw [mm_up_s]; exact ex
          · rw [mm_up_o e]; exact e93 c (by omega)
        refine kb_117_119 (fun g => absurd g (hI_nle (a := 4) (by omega) hs)) (fun _ => kb_117_124 (fun g => kb_117_145 (pk_in s 4 hs) (nx _ ?_)) (fun g => kb_117_134 ?_ (pk_in s 4 hs) (nx _ ?_)))
        · have s3 : ¬ s < 3 := fun u => absurd g (hI_nle (a := 3) (by omega) u)
          rw [fr 10 (by decide) (by decide), e15]
          unfold tom
          rw [if_neg s3]
        · rw [nI_1]
          refine pk_in (s + 1) 4 ?_
          rcases Nat.lt_or_ge s 3 with u | u
          · omega
          · exact absurd (hI_le (a := 3) (by omega) u) g
        · have s3 : s < 3 := by
            rcases Nat.lt_or_ge s 3 with u | u
            · exact u
            · exact absurd (hI_le (a := 3) (by omega) u) g
          rw [nI_1, nI_clamp (by omega), e92 (s + 1) (by omega)]
          unfold tom
          rw [if_pos s3]
    · intro s hs ih ρ y fr on e92 ch hy o3
      have cs : (nI s).toNatClampNeg = s := nI_clamp (by omega)
      refine kb_117_58 (fun g => absurd g (hI_nle (a := 4) (by omega) hs)) (fun _ => kb_117_63 (pk_in s 4 hs) ?_)
      rw [cs, fr 83 (by decide) (by decide), (hc s hs).2]
      have r15 : ρ 10 15 = nI L := by rw [fr 10 (by decide) (by decide)]; exact e15
      have stop : (∀ i, i < 4 → ∃ k, k < L ∧ o k = c i) → s ≠ 0 → frm L p s < frm L p (s - 1) → ¬ fit τ L o := fun on' s0 lt F => by
        have v := (lay on').1.mpr (fp F).2
        rcases (show s = 1 ∨ s = 2 ∨ s = 3 by omega) with e | e | e
        · subst e; have := v.1; simp only [Nat.sub_self] at lt; omega
        · subst e; have := v.2.1; simp only [show 2 - 1 = 1 from rfl] at lt; omega
        · subst e; have := v.2.2.1; simp only [show 3 - 1 = 2 from rfl] at lt; omega
      refine c_116s (c0 := c 0) l1 l9 r15 (fun k hk => by rw [fr 85 (by decide) (by decide)]; exact ol k hk) (hc 0 (by decide)).1 (by rw [fr 83 (by decide) (by decide)]; exact (hc 0 (by decide)).2) (hc s hs).1 (fun h => kb_117_73 (fun _ => kb_117_79 (q0 ρ fr (fun F => ?_))) (fun g => absurd rfl g)) (fun i j hi hj oi oj => kb_117_73 (fun g => absurd g (nI_m1 (by have := Nat.mod_lt (j + L - i) (show L > 0 by omega); omega))) (fun _ => ?_))
      · rcases h with h | h
        · obtain ⟨k, hk, e⟩ := (fp F).1 0 (by decide)
          exact h k hk e
        · obtain ⟨k, hk, e⟩ := (fp F).1 s hs
          exact h k hk e
      · have on0 : ∃ k, k < L ∧ o k = c 0 := ⟨i, hi, oi⟩
        have ons : ∃ k, k < L ∧ o k = c s := ⟨j, hj, oj⟩
        have ei : i = p 0 := uq _ _ hi (hp 0 on0).1 (by rw [oi, (hp 0 on0).2])
        have ej : j = p s := uq _ _ hj (hp s ons).1 (by rw [oj, (hp s ons).2])
        have eq : (j + L - i) % L = qp L p s := by rw [ei, ej]; rfl
        rw [eq]
        have ql : qp L p s < L := Nat.mod_lt _ (by omega)
        have on' : ∀ i, i < s + 1 → ∃ k, k < L ∧ o k = c i := fun i hi => by
          by_cases e : i = s
          · subst e; exact ons
          · exact on i (by omega)
        have put : ∀ x, x = frm L p s → (s ≠ 0 → frm L p (s - 1) ≤ x) → mw (d + 1) mt_117 Q 102 [some (.ref 10), some (.int y), some (.int (nI s)), some (.int (nI x))] [] ρ := fun x ex hx => by
          refine kb_117_102 (pk_in s 4 hs) ?_
          rw [nI_1, cs]
          refine ih _ _ (fun c h1 h2 => by rw [mm_up_n h1]; exact fr c h1 h2) on' (fun i hi => ?_) (fun i hi => ?_) (by rw [if_neg (by omega), show s + 1 - 1 = s from rfl, ex]) _
          · by_cases e : i = s
            · subst e; rw [mm_up_s, ex]
            · rw [mm_up_o e]; exact e92 i (by omega)
          · by_cases e : i + 1 = s
            · have := hx (by omega)
              rw [← e] at ex this
              rw [← ex]; exact this
            · exact ch i (by omega)
        have Yl : (if s = 0 then 0 else frm L p (s - 1)) ≤ L := by
          split
          · omega
          · exact frm_le l1 _
        have fs : frm L p s = if qp L p s < (if s = 0 then 0 else frm L p (s - 1)) ∧ qp L p s = 0 then L else qp L p s := by
          cases s with
          | zero =>
            have : qp L p 0 = 0 := by unfold qp; rw [show p 0 + L - p 0 = L by omega, Nat.mod_self]
            rw [this, if_neg (by simp)]; rfl
          | succ s => rw [if_neg (show ¬ s + 1 = 0 by omega)]; rfl
        have hY : s ≠ 0 → frm L p (s - 1) = (if s = 0 then 0 else frm L p (s - 1)) := fun h => by rw [if_neg h]
        subst hy
        generalize (if s = 0 then 0 else frm L p (s - 1)) = Y at *
        refine kb_117_81 (fun a => ?_) (fun a => ?_)
        · have a' : Y ≤ qp L p s := (nI_leI (by omega) (by omega)).mp a
          refine kb_117_95 (fun _ => put _ ?_ (fun h => by rw [hY h]; exact a')) (fun b => absurd a b)
          rw [fs, if_neg (by omega)]
        · have a' : qp L p s < Y := by
            rcases Nat.lt_or_ge (qp L p s) Y with u | u
            · exact u
            · exact absurd (hI_le (by omega) u) a
          refine kb_117_86 (fun b => kb_117_90 ?_ ?_) (fun b => kb_117_95 (fun b' => absurd b' a) (fun _ => kb_117_100 (q0 ρ fr (fun F => ?_))))
          · have b' : qp L p s = 0 := (nI_eq (b := 0) (by omega) (by omega)).mp b
            rw [r15]
            exact fun _ => put L (by rw [fs, if_pos ⟨a', b'⟩]) (fun h => by rw [hY h]; exact Yl)
          · rw [r15]
            exact fun b' => absurd (hI_le (by omega) Yl) b'
          · have b' : qp L p s ≠ 0 := fun e => b (by rw [e]; rfl)
            have s0 : s ≠ 0 := fun e => by
              subst e
              exact b' (by unfold qp; rw [show p 0 + L - p 0 = L by omega, Nat.mod_self])
            refine stop (fp F).1 s0 ?_ F
            rw [fs, if_neg (fun h => b' h.2), hY s0]; exact a'
  have x0 : (0 : Int32).toNatClampNeg = 0 := by decide
  have x1 : (1 : Int32).toNatClampNeg = 1 := by decide
  have x2 : (2 : Int32).toNatClampNeg = 2 := by decide
  have x3 : (3 : Int32).toNatClampNeg = 3 := by decide
  have cc : ∀ i j, i < 4 → j < 4 → τ 83 i = τ 83 j → c i = c j := fun i j hi hj e => nI9 (hc i hi).1 (hc j hj).1 ((hc i hi).2.symm.trans (e.trans (hc j hj).2))
  have cn : ∀ i j, i < 4 → j < 4 → ¬ τ 83 i = τ 83 j → c i ≠ c j := fun i j hi hj e h => e (by rw [(hc i hi).2, (hc j hj).2, h])
  refine kb_117_7 (pk_in 0 4 (by decide)) (pk_in 1 4 (by decide)) (fun a => kb_117_22 (pk_in 1 4 (by decide)) (pk_in 2 4 (by decide)) (fun b => kb_117_37 (pk_in 2 4 (by decide)) (pk_in 3 4 (by decide)) (fun e => kb_117_52 (q0 τ (fun _ _ _ => rfl) (fun F => ?_))) (fun e => go (fun h => ?_))) (fun b => go (fun h => ?_))) (fun a => go (fun h => ?_))
  · rw [x0, x1] at a
    rw [x1, x2] at b
    rw [x2, x3] at e
    have e1 := cc 0 1 (by decide) (by decide) a
    have e2 := cc 1 2 (by decide) (by decide) b
    have e3 := cc 2 3 (by decide) (by decide) e
    obtain ⟨on, hs⟩ := fp F
    have v := (lay on).1.mpr hs
    exact v.2.2.2 ⟨uq _ _ (hp 0 (on 0 (by decide))).1 (hp 1 (on 1 (by decide))).1 (by rw [(hp 0 (on 0 (by decide))).2, (hp 1 (on 1 (by decide))).2, e1]), uq _ _ (hp 1 (on 1 (by decide))).1 (hp 2 (on 2 (by decide))).1 (by rw [(hp 1 (on 1 (by decide))).2, (hp 2 (on 2 (by decide))).2, e2]), uq _ _ (hp 2 (on 2 (by decide))).1 (hp 3 (on 3 (by decide))).1 (by rw [(hp 2 (on 2 (by decide))).2, (hp 3 (on 3 (by decide))).2, e3])⟩
  · rw [x2, x3] at e; exact cn 2 3 (by decide) (by decide) e h.2.2
  · rw [x1, x2] at b; exact cn 1 2 (by decide) (by decide) b h.2.1
  · rw [x0, x1] at a; exact cn 0 1 (by decide) (by decide) a h.1

