-- the triangles: both say the same
theorem b3_t {i j k w : Nat} : (2 ^ i ||| 2 ^ j ||| 2 ^ k).testBit w = true ↔ i = w ∨ j = w ∨ k = w := by
  rw [tb_or, Nat.testBit_or, Nat.testBit_two_pow, Nat.testBit_two_pow, Bool.or_eq_true]
  simp only [decide_eq_true_eq]
  constructor
  · rintro ((h | h) | h)
    · exact Or.inl h
    · exact Or.inr (Or.inl h)
    · exact Or.inr (Or.inr h.symm)
  · rintro (h | h | h)
    · exact Or.inl (Or.inl h)
    · exact Or.inl (Or.inr h)
    · exact Or.inr h.symm
theorem b3_lt {i j k : Nat} (hi : i < 13) (hj : j < 13) (hk : k < 13) : 2 ^ i ||| 2 ^ j ||| 2 ^ k < 8192 := Nat.or_lt_two_pow (n := 13) (Nat.or_lt_two_pow (n := 13) (Nat.pow_lt_pow_right (by decide) hi) (Nat.pow_lt_pow_right (by decide) hj)) (Nat.pow_lt_pow_right (by decide) hk)
theorem b3_eq {i j k a b c : Nat} (h : ∀ w, (i = w ∨ j = w ∨ k = w) ↔ (a = w ∨ b = w ∨ c = w)) : 2 ^ i ||| 2 ^ j ||| 2 ^ k = 2 ^ a ||| 2 ^ b ||| 2 ^ c := by
  apply Nat.eq_of_testBit_eq
  intro w
  have := (b3_t (i := i) (j := j) (k := k) (w := w)).trans ((h w).trans b3_t.symm)
  cases h1 : (2 ^ i ||| 2 ^ j ||| 2 ^ k).testBit w <;> cases h2 : (2 ^ a ||| 2 ^ b ||| 2 ^ c).testBit w
  · rfl
  · rw [h1, h2] at this; exact absurd (this.mpr rfl) (by decide)
  · rw [h1, h2] at this; exact absurd (this.mp rfl) (by decide)
  · rfl
theorem b3_of {i j k a b c : Nat} (h : 2 ^ i ||| 2 ^ j ||| 2 ^ k = 2 ^ a ||| 2 ^ b ||| 2 ^ c) (w : Nat) : (i = w ∨ j = w ∨ k = w) ↔ (a = w ∨ b = w ∨ c = w) := by
  rw [← b3_t, ← b3_t, h]
def SF (f : Nat) (Mk : Nat → Nat) (L : Nat) (o p : Nat → Nat) (x : Nat) : Prop := (∃ g, g < f ∧ Mk g = x) ∨ ∃ s, s < 4 ∧ ((∃ y, frm L p s ≤ y ∧ y < tom L p s ∧ x = 2 ^ (9 + s) ||| 2 ^ (o ((p 0 + y) % L)) ||| 2 ^ (o ((p 0 + (y + 1)) % L))) ∨ x = 2 ^ (9 + s) ||| 2 ^ (9 + (s + 1) % 4) ||| 2 ^ (o ((p 0 + tom L p s) % L)))
theorem c_121s {d L f c0 x : Nat} {Q : mm_Q} {τ : mm_S} {o p Mk : Nat → Nat} (l1 : 1 ≤ L) (l9 : L ≤ 9) (e15 : τ 10 15 = nI L) (ol : ∀ k, k < L → o k < 9 ∧ τ 85 k = nI (o k)) (dis : ∀ i j, i < j → j < L → o i ≠ o j) (c9 : c0 < 9) (e83 : τ 83 0 = nI c0) (hp0 : p 0 < L) (op0 : o (p 0) = c0) (h92 : ∀ s, s < 4 → τ 92 s = nI (frm L p s) ∧ τ 93 s = nI (tom L p s)) (lay : ∀ s, s < 4 → frm L p s ≤ tom L p s ∧ tom L p s ≤ L)
    (f42 : f ≤ 42) (e19 : τ 10 19 = nI f) (fm : ∀ g, g < f → Mk g < 512 ∧ τ 86 g = nI (Mk g)) (hx : x < 8192) (q1 : SF f Mk L o p x → Q (some (.int 1)) τ) (q0 : ¬ SF f Mk L o p x → Q (some (.int 0)) τ) : mD (d + 2) 121 [.ref 10, .int (nI x)] τ Q := by
  have ro : ∀ y, o ((p 0 + y) % L) < 9 := fun y => (ol _ (Nat.mod_lt _ (by omega))).1
  have at' : ∀ {y : Nat} {Q' : mm_Q}, y ≤ 43 → Q' (some (.int (nI (o ((p 0 + y) % L))))) τ → mD (d + 1) 118 [.ref 10, .int (nI y)] τ Q' := fun {y Q'} hy h => c_118s l1 l9 e15 ol dis c9 e83 hp0 op0 hy h
  refine ke_121 (kb_121_0 ?_)
  refine lp_dn (P := fun g => (∀ g', g' < g → Mk g' ≠ x) → mw (d + 1) mt_121 Q 2 [some (.ref 10), some (.int (nI x)), some (.int (nI g)), none] [] τ) f ?_ ?_ 0 (Nat.zero_le f) (fun g' h => absurd h (Nat.not_lt_zero g'))
  · intro nf
    refine kb_121_2 (fun _ => kb_121_28 ?_) (fun g => absurd (by rw [e19]; exact hI_le (by omega) (Nat.le_refl f)) g)
    refine lp_dn (P := fun s => (∀ s', s' < s → ¬ ((∃ y, frm L p s' ≤ y ∧ y < tom L p s' ∧ x = 2 ^ (9 + s') ||| 2 ^ (o ((p 0 + y) % L)) ||| 2 ^ (o ((p 0 + (y + 1)) % L))) ∨ x = 2 ^ (9 + s') ||| 2 ^ (9 + (s' + 1) % 4) ||| 2 ^ (o ((p 0 + tom L p s') % L)))) → ∀ o3, mw (d + 1) mt_121 Q 30 [some (.ref 10), some (.int (nI x)), some (.int (nI s)), o3] [] τ) 4 ?_ ?_ 0 (by omega) (fun s' h => absurd h (Nat.not_lt_zero s')) none
    · intro ns o3
      refine kb_121_30 (fun _ => kb_121_130 (q0 ?_)) (fun g => absurd (by decide) g)
      rintro (⟨g, hg, e⟩ | ⟨s, hs, h⟩)
      · exact nf g hg e
      · exact ns s hs h
    · intro s hs ih ns o3
      have cs : (nI s).toNatClampNeg = s := nI_clamp (by omega)
      obtain ⟨e92, e93⟩ := h92 s hs
      obtain ⟨y1, y2⟩ := lay s hs
      have r93 : τ 93 (nI s).toNatClampNeg = nI (tom L p s) := by rw [cs]; exact e93
      have s4 : (s + 1) % 4 < 4 := Nat.mod_lt _ (by decide)
      have last : (∀ y, frm L p s ≤ y → y < tom L p s → ¬ x = 2 ^ (9 + s) ||| 2 ^ (o ((p 0 + y) % L)) ||| 2 ^ (o ((p 0 + (y + 1)) % L))) → ∀ x3, mw (d + 1) mt_121 Q 88 [some (.ref 10), some (.int (nI x)), some (.int (nI s)), some (.int x3)] [] τ := fun ny x3 => by
        refine kb_121_88 (by decide) (pk_in s 4 hs) ?_
        rw [r93]
        refine at' (by omega) (kb_121_117 (fun e => kb_121_122 (q1 ?_)) (fun e => kb_121_124 ?_))
        · have rt := ro (tom L p s)
          rw [nx4_rem s hs, nI_9, nI_9, one_sh (by omega), one_sh (by omega), one_sh (by omega), or_bit, or_bit] at e
          have lt := b3_lt (i := 9 + s) (j := 9 + (s + 1) % 4) (k := o ((p 0 + tom L p s) % L)) (by omega) (by omega) (by omega)
          exact Or.inr ⟨s, hs, Or.inr ((nI_eq (by omega) (by omega)).mp e)⟩
        · have rt := ro (tom L p s)
          rw [nx4_rem s hs, nI_9, nI_9, one_sh (by omega), one_sh (by omega), one_sh (by omega), or_bit, or_bit] at e
          rw [nI_1]
          refine ih (fun s' hs' => ?_) _
          by_cases es : s' = s
          · subst es
            rintro (⟨y, a1, a2, a3⟩ | h)
            · exact ny y a1 a2 a3
            · exact e (by rw [h])
          · exact ns s' (by omega)
      refine kb_121_30 (fun g => absurd g (hI_nle (a := 4) (by omega) hs)) (fun _ => kb_121_35 (pk_in s 4 hs) ?_)
      rw [cs, e92]
      refine lp_dn (P := fun y => frm L p s ≤ y → (∀ y', frm L p s ≤ y' → y' < y → ¬ x = 2 ^ (9 + s) ||| 2 ^ (o ((p 0 + y') % L)) ||| 2 ^ (o ((p 0 + (y' + 1)) % L))) → mw (d + 1) mt_121 Q 42 [some (.ref 10), some (.int (nI x)), some (.int (nI s)), some (.int (nI y))] [] τ) (tom L p s) ?_ ?_ (frm L p s) y1 (Nat.le_refl _) (fun y' h1 h2 => absurd h2 (by omega))
      · intro _ ny
        exact kb_121_42 (pk_in s 4 hs) (fun _ => last ny _) (fun g => absurd (by rw [r93]; exact hI_le (by omega) (Nat.le_refl _)) g)
      · intro y hy ihy hfy ny
        have ra := ro y
        have rb := ro (y + 1)
        refine kb_121_42 (pk_in s 4 hs) (fun g => absurd g (by rw [r93]; exact hI_nle (by omega) hy)) (fun g => kb_121_52 (at' (by omega) (kb_121_65 ?_)))
        rw [nI_1]
        have lt := b3_lt (i := 9 + s) (j := o ((p 0 + y) % L)) (k := o ((p 0 + (y + 1)) % L)) (by omega) (by omega) (by omega)
        refine at' (by omega) (kb_121_75 (fun e => kb_121_80 (q1 ?_)) (fun e => kb_121_82 ?_))
        · rw [nI_9, one_sh (by omega), one_sh (by omega), one_sh (by omega), or_bit, or_bit] at e
          exact Or.inr ⟨s, hs, Or.inl ⟨y, hfy, hy, (nI_eq (by omega) (by omega)).mp e⟩⟩
        · rw [nI_9, one_sh (by omega), one_sh (by omega), one_sh (by omega), or_bit, or_bit] at e
          rw [nI_1]
          refine ihy (by omega) (fun y' a1 a2 => ?_)
          by_cases ey : y' = y
          · subst ey; exact fun h => e (by rw [h])
          · exact ny y' a1 (by omega)
  · intro g hg ih nf
    obtain ⟨m1, m2⟩ := fm g hg
    have cg : (nI g).toNatClampNeg = g := nI_clamp (by omega)
    refine kb_121_2 (fun z => absurd z (by rw [e19]; exact hI_nle (by omega) hg)) (fun _ => kb_121_10 (pk_in g 42 (by omega)) (fun e => kb_121_20 (q1 (Or.inl ⟨g, hg, ?_⟩))) (fun e => kb_121_22 ?_))
    · rw [cg, m2] at e
      exact (nI_eq (by omega) (by omega)).mp e
    · rw [cg, m2] at e
      rw [nI_1]
      refine ih (fun g' hg' => ?_)
      by_cases eg : g' = g
      · subst eg; exact fun h => e (by rw [h])
      · exact nf g' (by omega)
def b3b (a b c k : Nat) : Bool := !(decide (a < b) && decide (b < c) && (2 ^ a ||| 2 ^ b ||| 2 ^ c).testBit k) || ((!(decide (bc (2 ^ a ||| 2 ^ b ||| 2 ^ c) k = 0)) || decide (k = a)) && (!(decide (bc (2 ^ a ||| 2 ^ b ||| 2 ^ c) k = 1)) || decide (k = b)) && (!(decide (bc (2 ^ a ||| 2 ^ b ||| 2 ^ c) k = 2)) || decide (k = c)))
set_option maxRecDepth 100000 in
theorem b3_d : ∀ a, a < 13 → ∀ b, b < 13 → ∀ c, c < 13 → ∀ k, k < 13 → b3b a b c k = true := by decide +kernel
theorem b3_n {a b c k : Nat} (ha : a < 13) (hb : b < 13) (hc : c < 13) (hk : k < 13) (hab : a < b) (hbc : b < c) (ht : (2 ^ a ||| 2 ^ b ||| 2 ^ c).testBit k = true) : (bc (2 ^ a ||| 2 ^ b ||| 2 ^ c) k = 0 → k = a) ∧ (bc (2 ^ a ||| 2 ^ b ||| 2 ^ c) k = 1 → k = b) ∧ (bc (2 ^ a ||| 2 ^ b ||| 2 ^ c) k = 2 → k = c) := by
  have h := b3_d a ha b hb c hc k hk
  unfold b3b at h
  rw [decide_eq_true hab, decide_eq_true hbc, ht] at h
  simp only [Bool.and_self, Bool.not_true, Bool.false_or, Bool.and_eq_true, Bool.or_eq_true, Bool.not_eq_true', decide_eq_false_iff_not, decide_eq_true_eq] at h
  obtain ⟨⟨h0, h1⟩, h2⟩ := h
  exact ⟨fun e => h0.resolve_left (fun z => z e), fun e => h1.resolve_left (fun z => z e), fun e => h2.resolve_left (fun z => z e)⟩
theorem c_114t {d a b c : Nat} {Q : mm_Q} {τ : mm_S} {w : Int32} (hab : a < b) (hbc : b < c) (hc : c < 13) (q : Q none (mt3 τ w (nI a) (nI b) (nI c))) : mD (d + 2) 114 [.ref 10, .int w, .int (nI (2 ^ a ||| 2 ^ b ||| 2 ^ c))] τ Q := by
  have lt := b3_lt (i := a) (j := b) (k := c) (by omega) (by omega) hc
  have b3 := bcz_3 (n := 13) (show a < 13 by omega) (show b < 13 by omega) hc (by omega) (by omega) (by omega)
  refine ke_114 (kb_114_0 (c_112 (i := 0) (by omega) (by omega) (fun x x1 x2 x3 => kb_114_7 (c_112 (i := 1) (by omega) (by omega) (fun y y1 y2 y3 => kb_114_12 (c_112 (i := 2) (by omega) (by omega) (fun z z1 z2 z3 => kb_114_17 (c_100 (kb_114_20 ?_)))))))))
  rw [(b3_n (by omega) (by omega) hc x1 hab hbc x2).1 x3, (b3_n (by omega) (by omega) hc y1 hab hbc y2).2.1 y3, (b3_n (by omega) (by omega) hc z1 hab hbc z2).2.2 z3]
  exact q
theorem and3 {A B C : Int32} : (((A &&& B) &&& C) &&& 1) = 0 ↔ ¬ (A &&& 1 = 1 ∧ B &&& 1 = 1 ∧ C &&& 1 = 1) := by
  have key : (((A &&& B) &&& C) &&& 1) = 1 ↔ (A &&& 1 = 1 ∧ B &&& 1 = 1 ∧ C &&& 1 = 1) := by
    rw [and1, and1, and1, and1, Int32.toBitVec_and, Int32.toBitVec_and, BitVec.getLsbD_and, BitVec.getLsbD_and, Bool.and_eq_true, Bool.and_eq_true, and_assoc]
  rw [← key]
  obtain ⟨j, hj, e⟩ := pk_andE ((A &&& B) &&& C) (m := 1) 1 (by decide)
  rw [e]
  rcases (show j = 0 ∨ j = 1 by omega) with h | h
  · subst h; exact ⟨fun _ => by decide, fun _ => rfl⟩
  · subst h; exact ⟨fun h => absurd h (by decide), fun h => absurd rfl h⟩
theorem bit_1 {m k : Nat} (hm : m < 2 ^ 31) (hk : k < 31) : (nI m >>> (nI k &&& 31)) &&& 1 = 1 ↔ m.testBit k = true := by
  rw [bit_v hm hk]
  by_cases c : m.testBit k = true
  · rw [if_pos c]; exact ⟨fun _ => c, fun _ => rfl⟩
  · rw [if_neg c]; exact ⟨fun h => absurd h (by decide), fun h => absurd h c⟩
def tr (K : Nat → Nat) (S : Nat → Prop) (a b c : Nat) : Prop := a < b ∧ b < c ∧ c < 13 ∧ (K a).testBit b = true ∧ (K a).testBit c = true ∧ (K b).testBit c = true ∧ ¬ S (2 ^ a ||| 2 ^ b ||| 2 ^ c)
theorem c_122s {d L f c0 : Nat} {Q : mm_Q} {τ : mm_S} {o p Mk K : Nat → Nat} (l1 : 1 ≤ L) (l9 : L ≤ 9) (e15 : τ 10 15 = nI L) (ol : ∀ k, k < L → o k < 9 ∧ τ 85 k = nI (o k)) (dis : ∀ i j, i < j → j < L → o i ≠ o j) (c9 : c0 < 9) (e83 : τ 83 0 = nI c0) (hp0 : p 0 < L) (op0 : o (p 0) = c0) (h92 : ∀ s, s < 4 → τ 92 s = nI (frm L p s) ∧ τ 93 s = nI (tom L p s)) (lay : ∀ s, s < 4 → frm L p s ≤ tom L p s ∧ tom L p s ≤ L)
    (f42 : f ≤ 42) (e19 : τ 10 19 = nI f) (fm : ∀ g, g < f → Mk g < 512 ∧ τ 86 g = nI (Mk g)) (hK : ∀ v, v < 13 → K v < 8192 ∧ τ 91 v = nI (K v))
    (q1 : ∀ a b c, tr K (SF f Mk L o p) a b c → (∀ a' b' c', (a' < a ∨ (a' = a ∧ (b' < b ∨ (b' = b ∧ c' < c)))) → ¬ tr K (SF f Mk L o p) a' b' c') → Q (some (.int 1)) (mt3 τ 5 (nI a) (nI b) (nI c))) (q0 : (∀ a b c, ¬ tr K (SF f Mk L o p) a b c) → Q (some (.int 0)) τ) : mD (d + 3) 122 [.ref 10] τ Q := by
  refine ke_122 (kb_122_0 ?_)
  refine lp_dn (P := fun a => (∀ a' b c, a' < a → ¬ tr K (SF f Mk L o p) a' b c) → ∀ o2 o3 o4, mw (d + 2) mt_122 Q 2 [some (.ref 10), some (.int (nI a)), o2, o3, o4] [] τ) 13 ?_ ?_ 0 (by omega) (fun a' b c h => absurd h (Nat.not_lt_zero a')) none none none
  · intro h o2 o3 o4
    exact kb_122_2 (fun _ => kb_122_114 (q0 (fun a b c t => h a b c (by have := t.1; have := t.2.1; have := t.2.2.1; omega) t))) (fun g => absurd (by decide) g)
  · intro a ha iha h o2 o3 o4
    refine kb_122_2 (fun g => absurd g (hI_nle (a := 13) (by omega) ha)) (fun _ => kb_122_8 ?_)
    rw [nI_1]
    refine lp_dn (P := fun b => a < b → (∀ b' c, b' < b → ¬ tr K (SF f Mk L o p) a b' c) → ∀ o3 o4, mw (d + 2) mt_122 Q 12 [some (.ref 10), some (.int (nI a)), some (.int (nI b)), o3, o4] [] τ) 13 ?_ ?_ (a + 1) (by omega) (by omega) (fun b' c hb t => absurd t.1 (by omega)) o3 o4
    · intro _ hb o3 o4
      refine kb_122_12 (fun _ => kb_122_108 ?_) (fun g => absurd (by decide) g)
      rw [nI_1]
      refine iha (fun a' b c ha' => ?_) _ _ _
      by_cases e : a' = a
      · subst e; exact fun t => hb b c (by have := t.2.1; have := t.2.2.1; omega) t
      · exact h a' b c (by omega)
    · intro b hb ihb hab hbb o3 o4
      refine kb_122_12 (fun g => absurd g (hI_nle (a := 13) (by omega) hb)) (fun _ => kb_122_18 ?_)
      rw [nI_1]
      refine lp_dn (P := fun c => b < c → (∀ c', c' < c → ¬ tr K (SF f Mk L o p) a b c') → ∀ o4, mw (d + 2) mt_122 Q 22 [some (.ref 10), some (.int (nI a)), some (.int (nI b)), some (.int (nI c)), o4] [] τ) 13 ?_ ?_ (b + 1) (by omega) (by omega) (fun c' hc t => absurd t.2.1 (by omega)) o4
      · intro _ hc o4
        refine kb_122_22 (fun _ => kb_122_102 ?_) (fun g => absurd (by decide) g)
        rw [nI_1]
        refine ihb (by omega) (fun b' c hb' => ?_) _ _
        by_cases e : b' = b
        · subst e; exact fun t => hc c t.2.2.1 t
        · exact hbb b' c (by omega)
      · intro c hc ihc hbc hcc o4
        have nx : ¬ tr K (SF f Mk L o p) a b c → ∀ o4, mw (d + 2) mt_122 Q 22 [some (.ref 10), some (.int (nI a)), some (.int (nI b)), some (.int (nI c + 1)), o4] [] τ := fun hn o4 => by
          rw [nI_1]
          refine ihc (by omega) (fun c' hc' => ?_) _
          by_cases e : c' = c
          · subst e; exact hn
          · exact hcc c' (by omega)
        obtain ⟨a1, a2⟩ := hK a ha
        obtain ⟨b1, b2⟩ := hK b hb
        have link : (((((τ 91 (nI a).toNatClampNeg) >>> (nI b &&& 31)) &&& ((τ 91 (nI a).toNatClampNeg) >>> (nI c &&& 31))) &&& ((τ 91 (nI b).toNatClampNeg) >>> (nI c &&& 31))) &&& (1 : Int32)) = 0 ↔ ¬ ((K a).testBit b = true ∧ (K a).testBit c = true ∧ (K b).testBit c = true) := by
          rw [nI_clamp (show a < 2 ^ 31 by omega), nI_clamp (show b < 2 ^ 31 by omega), a2, b2, and3, bit_1 (by omega) (by omega), bit_1 (by omega) (by omega), bit_1 (by omega) (by omega)]
        refine kb_122_22 (fun g => absurd g (hI_nle (a := 13) (by omega) hc)) (fun _ => kb_122_28 (pk_in a 13 ha) (pk_in a 13 ha) (pk_in b 13 hb) (fun z => kb_122_59 (nx (fun t => link.mp z ⟨t.2.2.2.1, t.2.2.2.2.1, t.2.2.2.2.2.1⟩) _)) (fun z => kb_122_62 ?_))
        have z' : (K a).testBit b = true ∧ (K a).testBit c = true ∧ (K b).testBit c = true := by
          by_cases y : (K a).testBit b = true ∧ (K a).testBit c = true ∧ (K b).testBit c = true
          · exact y
          · exact absurd (link.mpr y) z
        rw [one_sh (by omega), one_sh (by omega), one_sh (by omega), or_bit, or_bit]
        refine c_121s l1 l9 e15 ol dis c9 e83 hp0 op0 h92 lay f42 e19 fm (b3_lt ha hb hc) (fun S => kb_122_81 (fun g => absurd g (by decide)) (fun _ => kb_122_84 (nx (fun t => t.2.2.2.2.2.2 S) _))) (fun S => kb_122_81 (fun _ => kb_122_87 ?_) (fun g => absurd rfl g))
        refine c_114t hab hbc hc (kb_122_94 (q1 a b c ⟨hab, hbc, hc, z'.1, z'.2.1, z'.2.2, S⟩ (fun a' b' c' hh => ?_)))
        rcases hh with hh | ⟨rfl, hh | ⟨rfl, hh⟩⟩
        · exact h a' b' c' hh
        · exact hbb b' c' hh
        · exact hcc c' hh
theorem nx4_e (a : Nat) : (a = 3 ∧ nx4 a = 0) ∨ (a ≠ 3 ∧ nx4 a = a + 1) := by
  unfold nx4
  by_cases h : a = 3
  · exact Or.inl ⟨h, if_pos h⟩
  · exact Or.inr ⟨h, if_neg h⟩
theorem pv4_e (a : Nat) : (a = 0 ∧ pv4 a = 3) ∨ (a ≠ 0 ∧ pv4 a = a - 1) := by
  unfold pv4
  by_cases h : a = 0
  · exact Or.inl ⟨h, if_pos h⟩
  · exact Or.inr ⟨h, if_neg h⟩
theorem sd3 (a : Nat) (ha : a < 4) (b : Nat) (hb : b < 4) (c : Nat) (hc : c < 4) (h1 : a < b) (h2 : b < c) (h3 : b = nx4 a ∨ b = pv4 a) (h4 : c = nx4 a ∨ c = pv4 a) (h5 : c = nx4 b ∨ c = pv4 b) : False := by
  have x1 := nx4_e a
  have x2 := pv4_e a
  have x3 := nx4_e b
  have x4 := pv4_e b
  omega
theorem sd2 (a : Nat) (ha : a < 4) (b : Nat) (hb : b < 4) (h1 : a < b) (h3 : b = nx4 a ∨ b = pv4 a) : (¬ (a = 0 ∧ b = 3) ∧ b = nx4 a ∧ (a + 1) % 4 = b) ∨ (a = 0 ∧ b = 3) := by
  have x1 := nx4_e a
  have x2 := pv4_e a
  omega
theorem mod_ne {a y t L : Nat} (h1 : y < t) (h2 : t - y < L) : (a + y) % L ≠ (a + t) % L := fun h => by
  have := Nat.sub_mod_eq_zero_of_mod_eq h.symm
  rw [show a + t - (a + y) = t - y by omega, Nat.mod_eq_of_lt h2] at this
  omega
theorem f57_SF {σ τ : mm_S} {m L f : Nat} {o p c K Mk : Nat → Nat} (B : NB σ m o p L (fun s => st L p s + 1) K) (O : OA τ L o) (f42 : f ≤ 42) (e6 : τ 5 6 = nI f) (hM : ∀ g, g < f → Mk g < 512 ∧ τ 43 g = nI (Mk g)) (hc : ∀ i, i < 4 → c i < 9 ∧ τ 19 i = nI (c i)) (hp : ∀ i, i < 4 → p i < L ∧ τ 32 (c i) = nI (p i))
    (lay : ∀ s, s < 4 → (p 0 + frm L p s) % L = p s ∧ tom L p s = frm L p s + st L p s ∧ tom L p s ≤ L) {i j k : Nat} (hij : i < j) (hjk : j < k) (hk : k < 13) (b1 : (K i).testBit j = true) (b2 : (K i).testBit k = true) (b3 : (K j).testBit k = true) : f_57 τ (nI i) (nI j) (nI k) = 0 ↔ ¬ SF f Mk L o p (2 ^ i ||| 2 ^ j ||| 2 ^ k) := by
  obtain ⟨l1, l9, e3, oa, ob⟩ := id O
  obtain ⟨_, B2, B3, B4, B5⟩ := B
  have ro : ∀ y, (p 0 + y) % L < L := fun y => Nat.mod_lt _ (by omega)
  have r9 : ∀ y, o ((p 0 + y) % L) < 9 := fun y => (oa _ (ro y)).1
  have oinj : ∀ a b, a < L → b < L → o a = o b → a = b := fun a b ha hb e => by
    have x1 := (oa a ha).2.2
    have x2 := (oa b hb).2.2
    rw [e, x2] at x1
    exact (nI_eq (by omega) (by omega)).mp x1.symm
  have opc : ∀ s, s < 4 → o (p s) = c s := fun s hs => (ob (c s) (p s) (hc s hs).1 (hp s hs).1 (hp s hs).2).symm
  -- the end of a side is the next corner
  have nxc : ∀ s, s < 4 → (p 0 + tom L p s) % L = p (nx4 s) := fun s hs => by
    by_cases h : s < 3
    · have : tom L p s = frm L p (s + 1) := by unfold tom; rw [if_pos h]
      rw [this, (lay (s + 1) (by omega)).1]
      unfold nx4; rw [if_neg (by omega)]
    · have e : s = 3 := by omega
      subst e
      have : tom L p 3 = L := by unfold tom; rw [if_neg (by decide)]
      rw [this, Nat.add_mod_right, Nat.mod_eq_of_lt (hp 0 (by decide)).1]
      rfl
  have le9 : ∀ {a : Nat}, a < 13 → ((9 : Int32) ≤ nI a ↔ 9 ≤ a) := fun {a} ha => nI_leI (a := 9) (by omega) (by omega)
  have nf : ∀ w, 9 ≤ w → (2 ^ i ||| 2 ^ j ||| 2 ^ k).testBit w = true → ¬ ∃ g, g < f ∧ Mk g = 2 ^ i ||| 2 ^ j ||| 2 ^ k := fun w hw ht ⟨g, hg, e⟩ => by
    rw [← e, tb_lt (k := 9) (hM g hg).1 hw] at ht
    exact absurd ht (by decide)
  by_cases k9 : k < 9
  · -- three rooms
    have : f_57 τ (nI i) (nI j) (nI k) = F46 τ (nI (2 ^ i ||| 2 ^ j ||| 2 ^ k)) := by
      unfold f_57
      rw [if_neg (fun z => by have := (le9 hk).mp z; omega), one_sh (by omega), one_sh (by omega), one_sh (by omega), or_bit, or_bit]
    rw [this]
    have lt := b3_lt (i := i) (j := j) (k := k) (by omega) (by omega) (by omega)
    have F1 : F46 τ (nI (2 ^ i ||| 2 ^ j ||| 2 ^ k)) = 1 ↔ SF f Mk L o p (2 ^ i ||| 2 ^ j ||| 2 ^ k) := by
      unfold F46
      rw [e6, nI_clamp (show f < 2 ^ 31 by omega), isf_1]
      constructor
      · rintro ⟨g, hg, e⟩
        rw [(hM g hg).2] at e
        have := (hM g hg).1
        exact Or.inl ⟨g, hg, (nI_eq (by omega) (by omega)).mp e⟩
      · rintro (⟨g, hg, e⟩ | ⟨s, hs, ⟨y, _, _, e⟩ | e⟩)
        · exact ⟨g, hg, by rw [(hM g hg).2, e]⟩
        · have := (b3_of e (9 + s)).mpr (Or.inl rfl); omega
        · have := (b3_of e (9 + s)).mpr (Or.inl rfl); omega
    rw [← F1]
    rcases F46_01 τ (nI (2 ^ i ||| 2 ^ j ||| 2 ^ k)) with h | h
    · rw [h]; exact ⟨fun _ => by decide, fun _ => rfl⟩
    · rw [h]; exact ⟨fun z => absurd z (by decide), fun z => absurd rfl z⟩
  · obtain ⟨s, hs, es⟩ : ∃ s, s < 4 ∧ k = 9 + s := ⟨k - 9, by omega, by omega⟩
    subst es
    by_cases j9 : j < 9
    · -- two rooms and a side
      have fol : ∀ a b, a < 9 → b < 9 → (K a).testBit (9 + s) = true → (f_58 τ (nI a) (nI b) (nI s) = 1 ↔ ∃ y, frm L p s ≤ y ∧ y < tom L p s ∧ o ((p 0 + y) % L) = a ∧ o ((p 0 + (y + 1)) % L) = b) := fun a b a9 b9 ka => by
        obtain ⟨l1', l2', l3'⟩ := lay s hs
        obtain ⟨u, hu, eu⟩ := (B3 a s a9 hs).mp ka
        have hu' : u < st L p s + 1 := hu
        have yu : (p 0 + (frm L p s + u)) % L = (p s + u) % L := by
          rw [show p 0 + (frm L p s + u) = (p 0 + frm L p s) + u by omega, Nat.add_mod, l1', Nat.add_mod (p s) u, Nat.mod_eq_of_lt (hp s hs).1]
        have a32 : τ 32 a = nI ((p 0 + (frm L p s + u)) % L) := by
          rw [← eu, ← yu]; exact (oa _ (ro _)).2.2
        have e49 : f_49 τ (nI s) = nI (c (nx4 s)) := by
          unfold f_49
          rw [(f_50_n s hs).1, nI_clamp (show nx4 s < 2 ^ 31 by have := (f_50_n s hs).2; omega)]
          exact (hc _ (f_50_n s hs).2).2
        have c9 := (hc _ (f_50_n s hs).2).1
        have nxr : ∀ y, (((p 0 + y) % L) + 1) % L = (p 0 + (y + 1)) % L := fun y => by
          rw [show p 0 + (y + 1) = (p 0 + y) + 1 by omega, Nat.add_mod, Nat.mod_mod, ← Nat.add_mod]
        have val : f_58 τ (nI a) (nI b) (nI s) = 1 ↔ a ≠ c (nx4 s) ∧ o ((p 0 + (frm L p s + u + 1)) % L) = b := by
          unfold f_58
          rw [e49, nI_clamp (show a < 2 ^ 31 by omega), a32, OA_40 O (ro _), nxr]
          by_cases z : a = c (nx4 s)
          · rw [if_pos (by rw [z])]
            exact ⟨fun h => absurd h (by decide), fun h => absurd z h.1⟩
          · rw [if_neg (fun y => z (nI9 a9 c9 y))]
            by_cases z2 : o ((p 0 + (frm L p s + u + 1)) % L) = b
            · rw [if_pos (by rw [z2])]; exact ⟨fun _ => ⟨z, z2⟩, fun _ => rfl⟩
            · rw [if_neg (fun y => z2 (nI9 (r9 _) b9 y))]; exact ⟨fun h => absurd h (by decide), fun h => absurd h.2 z2⟩
        rw [val]
        constructor
        · rintro ⟨h1, h2⟩
          refine ⟨frm L p s + u, by omega, ?_, by rw [yu]; exact eu, h2⟩
          rcases Nat.lt_or_ge (frm L p s + u) (tom L p s) with y | y
          · exact y
          · exfalso
            apply h1
            have e : frm L p s + u = tom L p s := by omega
            rw [← eu, ← yu, e, nxc s hs]
            exact opc _ (f_50_n s hs).2
        · rintro ⟨y, y1, y2, y3, y4⟩
          have stl : st L p s < L := st_lt (hp _ (f_50_n s hs).2).1 (hp s hs).1
          have same : (p 0 + y) % L = (p 0 + (frm L p s + u)) % L := oinj _ _ (ro _) (ro _) (by rw [y3, yu, eu])
          have ey : y = frm L p s + u := by
            rcases Nat.lt_trichotomy y (frm L p s + u) with h | h | h
            · exact absurd same (mod_ne h (by omega))
            · exact h
            · exact absurd same.symm (mod_ne h (by omega))
          refine ⟨fun z => ?_, by rw [← ey]; exact y4⟩
          rw [← opc _ (f_50_n s hs).2, ← nxc s hs, ← y3] at z
          exact mod_ne (a := p 0) (L := L) y2 (by omega) (oinj _ _ (ro _) (ro _) z)
      have e57 : f_57 τ (nI i) (nI j) (nI (9 + s)) = if f_58 τ (nI i) (nI j) (nI s) = 0 then (if f_58 τ (nI j) (nI i) (nI s) = 0 then 0 else 1) else 1 := by
        unfold f_57
        rw [if_pos ((le9 hk).mpr (by omega)), if_neg (fun z => by have := (le9 (by omega)).mp z; omega), sub9 s hs]
      have key : SF f Mk L o p (2 ^ i ||| 2 ^ j ||| 2 ^ (9 + s)) ↔ f_58 τ (nI i) (nI j) (nI s) = 1 ∨ f_58 τ (nI j) (nI i) (nI s) = 1 := by
        rw [fol i j (by omega) j9 b2, fol j i j9 (by omega) b3]
        constructor
        · rintro (h | ⟨s', hs', ⟨y, y1, y2, e⟩ | e⟩)
          · exact absurd h (nf (9 + s) (by omega) (b3_t.mpr (Or.inr (Or.inr rfl))))
          · have x1 := (b3_of e (9 + s')).mpr (Or.inl rfl)
            have ss : s' = s := by omega
            subst ss
            have z1 := r9 y
            have z2 := r9 (y + 1)
            have x2 := (b3_of e i).mp (Or.inl rfl)
            have x3 := (b3_of e j).mp (Or.inr (Or.inl rfl))
            by_cases q : o ((p 0 + y) % L) = i
            · exact Or.inl ⟨y, y1, y2, q, by omega⟩
            · exact Or.inr ⟨y, y1, y2, by omega, by omega⟩
          · have x1 := (b3_of e (9 + s')).mpr (Or.inl rfl)
            have x2 := (b3_of e (9 + (s' + 1) % 4)).mpr (Or.inr (Or.inl rfl))
            omega
        · rintro (⟨y, y1, y2, e1, e2⟩ | ⟨y, y1, y2, e1, e2⟩)
          · refine Or.inr ⟨s, hs, Or.inl ⟨y, y1, y2, ?_⟩⟩
            rw [e1, e2]; exact b3_eq (fun w => by omega)
          · refine Or.inr ⟨s, hs, Or.inl ⟨y, y1, y2, ?_⟩⟩
            rw [e1, e2]; exact b3_eq (fun w => by omega)
      rw [e57, key]
      rcases f_58_01 τ (nI i) (nI j) (nI s) with h | h <;> rcases f_58_01 τ (nI j) (nI i) (nI s) with h' | h' <;> rw [h, h'] <;> decide
    · -- two sides
      obtain ⟨t, ht, et⟩ : ∃ t, t < 4 ∧ j = 9 + t := ⟨j - 9, by omega, by omega⟩
      subst et
      have ts : t < s := by omega
      have adj := (B5 t s ht hs).mp b3
      by_cases i9 : i < 9
      · have sd := sd2 t ht s hs ts adj
        have e57 : f_57 τ (nI i) (nI (9 + t)) (nI (9 + s)) = if τ 19 (if t = 0 ∧ s = 3 then 0 else s) = nI i then 1 else 0 := by
          unfold f_57
          rw [if_pos ((le9 hk).mpr (by omega)), if_pos ((le9 (by omega)).mpr (by omega)), sub9 s hs, nI_clamp (show s < 2 ^ 31 by omega)]
          have n9 : ¬ (9 : Int32) ≤ nI i := fun z => by have := (le9 (by omega)).mp z; omega
          by_cases t0 : t = 0
          · subst t0
            rw [if_pos (show nI (9 + 0) = (9 : Int32) from rfl), if_neg n9, if_neg n9]
            by_cases s3 : s = 3
            · subst s3
              rw [if_pos (show nI (9 + 3) = (12 : Int32) from rfl), if_pos (show (0 : Nat) = 0 ∧ (3 : Nat) = 3 from ⟨rfl, rfl⟩)]
            · rw [if_neg (fun z => s3 (by have := (nI_eq (a := 9 + s) (b := 12) (by omega) (by omega)).mp z; omega)), if_neg (show ¬ ((0 : Nat) = 0 ∧ s = 3) from fun z => s3 z.2)]
          · rw [if_neg (fun z => t0 (by have := (nI_eq (a := 9 + t) (b := 9) (by omega) (by omega)).mp z; omega)), if_neg n9, if_neg (show ¬ (t = 0 ∧ s = 3) from fun z => t0 z.1)]
        have e4 : (if t = 0 ∧ s = 3 then 0 else s) < 4 := by split <;> omega
        rw [e57, (hc _ e4).2]
        have key : SF f Mk L o p (2 ^ i ||| 2 ^ (9 + t) ||| 2 ^ (9 + s)) ↔ c (if t = 0 ∧ s = 3 then 0 else s) = i := by
          constructor
          · rintro (h | ⟨s', hs', ⟨y, y1, y2, e⟩ | e⟩)
            · exact absurd h (nf (9 + s) (by omega) (b3_t.mpr (Or.inr (Or.inr rfl))))
            · have x1 := (b3_of e (9 + t)).mp (Or.inr (Or.inl rfl))
              have x2 := (b3_of e (9 + s)).mp (Or.inr (Or.inr rfl))
              have z1 := r9 y
              have z2 := r9 (y + 1)
              omega
            · have z1 := r9 (tom L p s')
              have x0 := (b3_of e i).mp (Or.inl rfl)
              have x1 := (b3_of e (9 + s')).mpr (Or.inl rfl)
              have x2 := (b3_of e (9 + (s' + 1) % 4)).mpr (Or.inr (Or.inl rfl))
              have ci : c (nx4 s') = i := by
                rw [← opc _ (f_50_n s' hs').2, ← nxc s' hs']; omega
              rw [← ci]
              congr 1
              unfold nx4
              rcases sd with ⟨d1, d2, d3⟩ | d1
              · rw [if_neg d1]
                split <;> omega
              · rw [if_pos d1]
                split <;> omega
          · intro h
            rcases sd with ⟨d1, d2, d3⟩ | ⟨d1, d2⟩
            · rw [if_neg d1] at h
              refine Or.inr ⟨t, ht, Or.inr ?_⟩
              rw [nxc t ht, ← d2, opc s hs, h, d3]
              exact b3_eq (fun w => by omega)
            · subst d1; subst d2
              rw [if_pos ⟨rfl, rfl⟩] at h
              refine Or.inr ⟨3, by decide, Or.inr ?_⟩
              rw [nxc 3 (by decide), show nx4 3 = 0 from rfl, opc 0 (by decide), h]
              exact b3_eq (fun w => by omega)
        rw [key]
        have cc9 := (hc _ e4).1
        generalize c (if t = 0 ∧ s = 3 then 0 else s) = C at *
        by_cases h : C = i
        · rw [if_pos (by rw [h])]; exact ⟨fun z => absurd z (by decide), fun z => absurd h z⟩
        · rw [if_neg (fun z => h (nI9 cc9 i9 z))]; exact ⟨fun _ => h, fun _ => rfl⟩
      · exfalso
        obtain ⟨u, hu, eu⟩ : ∃ u, u < 4 ∧ i = 9 + u := ⟨i - 9, by omega, by omega⟩
        subst eu
        exact sd3 u hu t ht s hs (by omega) ts ((B5 u t hu ht).mp b1) ((B5 u s hu hs).mp b2) adj

