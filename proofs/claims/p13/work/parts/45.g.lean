section
/-! class: what comes next clockwise -/
/-- HouseDesk$Walks.isSooner -/
def f_35 (σ : mm_S) (x1 x2 x3 x4 : Int32) : Int32 := (if 0 ≤ (f_17 σ x1 x2 x3) then (if 0 ≤ (f_17 σ x1 x2 x4) then (if 0 ≤ (f_17 σ x1 x3 x4) then (0 : Int32) else (1 : Int32)) else (0 : Int32)) else (if 0 ≤ (f_17 σ x1 x2 x4) then (1 : Int32) else (if 0 ≤ (f_17 σ x1 x3 x4) then (0 : Int32) else (1 : Int32))))
theorem f_35_01 (σ : mm_S) (x1 x2 x3 x4 : Int32) : (f_35 σ x1 x2 x3 x4) = 0 ∨ (f_35 σ x1 x2 x3 x4) = 1 := by
  unfold f_35
  repeat' split
  all_goals first | exact Or.inl rfl | exact Or.inr rfl
theorem c_35 {d : Nat} {Q : mm_Q} {x1 x2 x3 x4 : Int32} {σ : mm_S} (H1 : vp_in x2 9) (H2 : vp_in x1 9) (H3 : vp_in x3 9) (H4 : vp_in x4 9) (q : Q (some (.int (f_35 σ x1 x2 x3 x4))) σ) : mD (d + 2) 35 [.ref 5, .int x1, .int x2, .int x3, .int x4] σ Q := ke_35 (kb_35_0 (c_17 H1 H2 H3 (kb_35_10 (fun g0 => (kb_35_17 (c_17 H1 H2 H4 (kb_35_31 (fun g1 => (kb_35_38 (fun _ => (kb_35_51 (c_17 H3 H2 H4 (kb_35_62 (fun g2 => (kb_35_69 (q_pos g2 (q_pos g1 (q_pos g0 q))))) (fun g2 => (kb_35_65 (q_neg g2 (q_pos g1 (q_pos g0 q))))))))) (fun g2 => (absurd (show ¬ ((0 : Int32) = (0 : Int32)) from g2) (by decide))))) (fun g1 => (kb_35_34 (fun g2 => (absurd (show (0 : Int32) = (1 : Int32) from g2) (by decide))) (fun _ => (kb_35_48 (Or.inl rfl) (q_neg g1 (q_pos g0 q)))))))))) (fun g0 => (kb_35_13 (c_17 H1 H2 H4 (kb_35_31 (fun g1 => (kb_35_38 (fun g2 => (absurd (show (1 : Int32) = (0 : Int32) from g2) (by decide))) (fun _ => (kb_35_48 (Or.inr rfl) (q_pos g1 (q_neg g0 q)))))) (fun g1 => (kb_35_34 (fun _ => (kb_35_51 (c_17 H3 H2 H4 (kb_35_62 (fun g2 => (kb_35_69 (q_pos g2 (q_neg g1 (q_neg g0 q))))) (fun g2 => (kb_35_65 (q_neg g2 (q_neg g1 (q_neg g0 q))))))))) (fun g2 => (absurd (show ¬ ((1 : Int32) = (1 : Int32)) from g2) (by decide))))))))))))
/-- HouseDesk$Walks.nextClockwise, from 0 -/
theorem ks_34_0 {d : Nat} {Q : mm_Q} {x1 x2 : Int32} {σ : mm_S} (q0 : mw d mt_34 Q 5 [some (.ref 5), some (.int x1), some (.int x2), some (.int x2), some (.int (0 : Int32))] [] σ) : mD (d + 1) 34 [.ref 5, .int x1, .int x2] σ Q := ke_34 (kb_34_0 q0)
/-- HouseDesk$Walks.nextClockwise, from 5 -/
theorem ks_34_5 {d : Nat} {Q : mm_Q} {x1 x2 x3 x4 : Int32} {σ : mm_S} (H1 : ¬ ((9 : Int32) ≤ x4) → vp_in x1 9) (H2 : ¬ ((9 : Int32) ≤ x4) → vp_in x2 9) (H3 : ¬ ((9 : Int32) ≤ x4) → vp_in x4 9) (H4 : ¬ ((9 : Int32) ≤ x4) → vp_in x3 9) (q0 : (9 : Int32) ≤ x4 → Q (some (.int x3)) σ) (q1 : ¬ ((9 : Int32) ≤ x4) → x4 = x2 → mw (d + 2) mt_34 Q 5 [some (.ref 5), some (.int x1), some (.int x2), some (.int x3), some (.int (x4 + 1))] [] σ) (q2 : ¬ ((9 : Int32) ≤ x4) → ¬ (x4 = x2) → (hs (σ 15 x1.toNatClampNeg) x4) = 0 → mw (d + 2) mt_34 Q 5 [some (.ref 5), some (.int x1), some (.int x2), some (.int x3), some (.int (x4 + 1))] [] σ) (q3 : ¬ ((9 : Int32) ≤ x4) → ¬ (x4 = x2) → ¬ ((hs (σ 15 x1.toNatClampNeg) x4) = 0) → x3 = x2 → mw (d + 2) mt_34 Q 5 [some (.ref 5), some (.int x1), some (.int x2), some (.int x4), some (.int (x4 + 1))] [] σ) (q4 : ¬ ((9 : Int32) ≤ x4) → ¬ (x4 = x2) → ¬ ((hs (σ 15 x1.toNatClampNeg) x4) = 0) → ¬ (x3 = x2) → (f_35 σ x1 x2 x4 x3) = 0 → mw (d + 2) mt_34 Q 5 [some (.ref 5), some (.int x1), some (.int x2), some (.int x3), some (.int (x4 + 1))] [] σ) (q5 : ¬ ((9 : Int32) ≤ x4) → ¬ (x4 = x2) → ¬ ((hs (σ 15 x1.toNatClampNeg) x4) = 0) → ¬ (x3 = x2) → ¬ ((f_35 σ x1 x2 x4 x3) = 0) → mw (d + 2) mt_34 Q 5 [some (.ref 5), some (.int x1), some (.int x2), some (.int x4), some (.int (x4 + 1))] [] σ) : mw (d + 2) mt_34 Q 5 [some (.ref 5), some (.int x1), some (.int x2), some (.int x3), some (.int x4)] [] σ := (kb_34_5 (fun g0 => (kb_34_57 (q0 g0))) (fun g0 => (kb_34_12 (fun g1 => (kb_34_51 (q1 g0 g1))) (fun g1 => (kb_34_18 (c_10 (H1 g0) (kb_34_28 (fun g2 => (kb_34_51 (q2 g0 g1 g2))) (fun g2 => (kb_34_31 (fun g3 => (kb_34_48 (q3 g0 g1 g2 g3))) (fun g3 => (kb_34_36 (c_35 (H2 g0) (H1 g0) (H3 g0) (H4 g0) (kb_34_45 (fun g4 => (kb_34_51 (q4 g0 g1 g2 g3 g4))) (fun g4 => (kb_34_48 (q5 g0 g1 g2 g3 g4))))))))))))))))
def pX (σ : mm_S) (i : Nat) : Int := (σ 11 i).toInt
def pY (σ : mm_S) (i : Nat) : Int := (σ 12 i).toInt
/-- where room j lies, seen from room i -/
def vc (σ : mm_S) (i j : Nat) : V2 := (pX σ j - pX σ i, pY σ j - pY σ i)
def cG (σ : mm_S) (i : Nat) : Prop := 0 ≤ pX σ i ∧ pX σ i < 32 ∧ 0 ≤ pY σ i ∧ pY σ i < 32
theorem i32_sub {x y : Int32} (h : - 2147483648 ≤ x.toInt - y.toInt ∧ x.toInt - y.toInt < 2147483648) : (x - y).toInt = x.toInt - y.toInt := by
  rw [Int32.toInt_sub]
  exact Int.bmod_eq_of_le (by omega) (by omega)
theorem i32_mul {x y : Int32} (h : - 2147483648 ≤ x.toInt * y.toInt ∧ x.toInt * y.toInt < 2147483648) : (x * y).toInt = x.toInt * y.toInt := by
  rw [Int32.toInt_mul]
  exact Int.bmod_eq_of_le (by omega) (by omega)
theorem i32_add {x y : Int32} (h : - 2147483648 ≤ x.toInt + y.toInt ∧ x.toInt + y.toInt < 2147483648) : (x + y).toInt = x.toInt + y.toInt := by
  rw [Int32.toInt_add]
  exact Int.bmod_eq_of_le (by omega) (by omega)
theorem mul_bd {a b A B : Int} (ha : - A ≤ a ∧ a ≤ A) (hb : - B ≤ b ∧ b ≤ B) : - (A * B) ≤ a * b ∧ a * b ≤ A * B := by
  have h1 : 0 ≤ (A - a) * (B + b) := Int.mul_nonneg (by omega) (by omega)
  have h2 : 0 ≤ (A + a) * (B - b) := Int.mul_nonneg (by omega) (by omega)
  have h3 : 0 ≤ (A - a) * (B - b) := Int.mul_nonneg (by omega) (by omega)
  have h4 : 0 ≤ (A + a) * (B + b) := Int.mul_nonneg (by omega) (by omega)
  have e1 : (A - a) * (B + b) + (A + a) * (B - b) = 2 * (A * B) - 2 * (a * b) := by grind
  have e2 : (A - a) * (B - b) + (A + a) * (B + b) = 2 * (A * B) + 2 * (a * b) := by grind
  omega
theorem tn_toInt {a b c e f g : Int32} (h : (0 ≤ a.toInt ∧ a.toInt < 32) ∧ (0 ≤ b.toInt ∧ b.toInt < 32) ∧ (0 ≤ c.toInt ∧ c.toInt < 32) ∧ (0 ≤ e.toInt ∧ e.toInt < 32) ∧ (0 ≤ f.toInt ∧ f.toInt < 32) ∧ (0 ≤ g.toInt ∧ g.toInt < 32)) : (((c - a) * (g - b)) - ((e - b) * (f - a))).toInt = (c.toInt - a.toInt) * (g.toInt - b.toInt) - (e.toInt - b.toInt) * (f.toInt - a.toInt) := by
  have s1 : (c - a).toInt = c.toInt - a.toInt := i32_sub (by omega)
  have s2 : (g - b).toInt = g.toInt - b.toInt := i32_sub (by omega)
  have s3 : (e - b).toInt = e.toInt - b.toInt := i32_sub (by omega)
  have s4 : (f - a).toInt = f.toInt - a.toInt := i32_sub (by omega)
  have b1 := mul_bd (a := c.toInt - a.toInt) (b := g.toInt - b.toInt) (A := 31) (B := 31) (by omega) (by omega)
  have b2 := mul_bd (a := e.toInt - b.toInt) (b := f.toInt - a.toInt) (A := 31) (B := 31) (by omega) (by omega)
  have m1 : ((c - a) * (g - b)).toInt = (c.toInt - a.toInt) * (g.toInt - b.toInt) := by rw [i32_mul, s1, s2]; rw [s1, s2]; omega
  have m2 : ((e - b) * (f - a)).toInt = (e.toInt - b.toInt) * (f.toInt - a.toInt) := by rw [i32_mul, s3, s4]; rw [s3, s4]; omega
  rw [i32_sub, m1, m2]
  rw [m1, m2]; omega
theorem f_17_toInt {σ : mm_S} {i q r : Nat} (hi : i < 9 ∧ cG σ i) (hq : q < 9 ∧ cG σ q) (hr : r < 9 ∧ cG σ r) : (f_17 σ (nI i) (nI q) (nI r)).toInt = gcr (vc σ i q) (vc σ i r) := by
  unfold f_17
  rw [nI_clamp (show i < 2 ^ 31 by omega), nI_clamp (show q < 2 ^ 31 by omega), nI_clamp (show r < 2 ^ 31 by omega)]
  obtain ⟨-, i1, i2, i3, i4⟩ := hi
  obtain ⟨-, q1, q2, q3, q4⟩ := hq
  obtain ⟨-, r1, r2, r3, r4⟩ := hr
  exact tn_toInt ⟨⟨i1, i2⟩, ⟨i3, i4⟩, ⟨q1, q2⟩, ⟨q3, q4⟩, ⟨r1, r2⟩, ⟨r3, r4⟩⟩
theorem ge0 {x : Int32} : 0 ≤ x ↔ ¬ x.toInt < 0 := by
  rw [Int32.le_iff_toInt_le, show (0 : Int32).toInt = 0 from rfl]
  omega
theorem f_35_so {σ : mm_S} {i f j k : Nat} (hi : i < 9 ∧ cG σ i) (hf : f < 9 ∧ cG σ f) (hj : j < 9 ∧ cG σ j) (hk : k < 9 ∧ cG σ k) : ¬ f_35 σ (nI i) (nI f) (nI j) (nI k) = 0 ↔ gso (vc σ i f) (vc σ i j) (vc σ i k) := by
  unfold f_35 gso
  simp only [ge0, f_17_toInt hi hf hj, f_17_toInt hi hf hk, f_17_toInt hi hj hk]
  by_cases p : gcr (vc σ i f) (vc σ i j) < 0 <;> by_cases q : gcr (vc σ i f) (vc σ i k) < 0 <;> by_cases r : gcr (vc σ i j) (vc σ i k) < 0 <;> simp [p, q, r]
/-- room i is joined with room j, by the class -/
def aj (σ : mm_S) (i j : Nat) : Prop := j < 9 ∧ hs (σ 15 i) (nI j) = 1
theorem c_34 {d i f : Nat} {Q : mm_Q} {σ : mm_S} (hi : i < 9 ∧ cG σ i) (hn : ∀ j, aj σ i j → cG σ j) (hd : gdd (aj σ i) (vc σ i)) (hf : aj σ i f) (q : ∀ g, nxt (aj σ i) (vc σ i) f g → Q (some (.int (nI g))) σ) : mD (d + 3) 34 [.ref 5, .int (nI i), .int (nI f)] σ Q := by
  have f9 := hf.1
  have ci : (nI i).toNatClampNeg = i := nI_clamp (by omega)
  refine ks_34_0 ?_
  refine lp_dn (P := fun j => ∀ g, g < 9 → nxs (aj σ i) (vc σ i) f j g → mw (d + 2) mt_34 Q 5 [some (.ref 5), some (.int (nI i)), some (.int (nI f)), some (.int (nI g)), some (.int (nI j))] [] σ) 9 ?_ ?_ 0 (by omega) f f9 nxs_0
  · intro g hg h
    refine ks_34_5 (fun g => absurd (by decide) g) (fun g => absurd (by decide) g) (fun g => absurd (by decide) g) (fun g => absurd (by decide) g) (fun _ => q g (nxs_end hf (fun j hj => hj.1) h)) (fun g => absurd (by decide) g) (fun g => absurd (by decide) g) (fun g => absurd (by decide) g) (fun g => absurd (by decide) g) (fun g => absurd (by decide) g)
  · intro j hj ih g hg h
    have nx : ∀ g', g' < 9 → nxs (aj σ i) (vc σ i) f (j + 1) g' → mw (d + 2) mt_34 Q 5 [some (.ref 5), some (.int (nI i)), some (.int (nI f)), some (.int (nI g')), some (.int (nI j + 1))] [] σ := fun g' h1 h2 => by
      rw [nI_1]; exact ih g' h1 h2
    have ne : ∀ {a b : Nat}, a < 9 → b < 9 → ¬ nI a = nI b → a ≠ b := fun ha hb h z => h (by rw [z])
    have eq : ∀ {a b : Nat}, a < 9 → b < 9 → nI a = nI b → a = b := fun ha hb h => (nI_eq (by omega) (by omega)).mp h
    have ajj : ¬ hs (σ 15 (nI i).toNatClampNeg) (nI j) = 0 → aj σ i j := fun h => ⟨hj, by rw [ci] at h; exact (hs_01 _ _).resolve_left h⟩
    refine ks_34_5 (fun _ => pk_in i 9 hi.1) (fun _ => pk_in f 9 f9) (fun _ => pk_in j 9 hj) (fun _ => pk_in g 9 hg) (fun z => absurd z (hI_nle (a := 9) (by omega) hj)) (fun _ a => nx g hg (nxs_skip h (Or.inr (eq hj f9 a)))) (fun _ _ a => nx g hg (nxs_skip h (Or.inl (fun z => ?_)))) (fun _ a b c => nx j hj (nxs_first h (eq hg f9 c) (ajj b) (ne hj f9 a))) (fun _ a b c e => nx g hg ?_) (fun _ a b c e => nx j hj ?_)
    · rw [ci, z.2] at a
      exact absurd a (by decide)
    · have gf := ne hg f9 c
      have ag : aj σ i g := by
        rcases h with ⟨z, _⟩ | ⟨_, z, _⟩
        · exact absurd z gf
        · exact z
      refine nxs_keep hd hf h gf (ajj b) (ne hj f9 a) (fun z => ?_)
      exact (f_35_so hi ⟨f9, hn f hf⟩ ⟨hj, hn j (ajj b)⟩ ⟨hg, hn g ag⟩).mpr z e
    · have gf := ne hg f9 c
      have ag : aj σ i g := by
        rcases h with ⟨z, _⟩ | ⟨_, z, _⟩
        · exact absurd z gf
        · exact z
      exact nxs_take hd hf h gf (ajj b) (ne hj f9 a) ((f_35_so hi ⟨f9, hn f hf⟩ ⟨hj, hn j (ajj b)⟩ ⟨hg, hn g ag⟩).mp e)
end
section
/-! class: what it means that nothing crosses -/
def btw (x a b : Int) : Prop := (a ≤ x ∧ x ≤ b) ∨ (b ≤ x ∧ x ≤ a)
theorem f_28_btw {x a b : Int32} : ¬ f_28 x a b = 0 ↔ btw x.toInt a.toInt b.toInt := by
  unfold f_28 btw
  simp only [Int32.lt_iff_toInt_lt]
  by_cases h1 : b.toInt < a.toInt <;> by_cases h2 : a.toInt < b.toInt <;> simp only [h1, h2, if_true, if_false]
  · omega
  · by_cases h3 : x.toInt < b.toInt <;> by_cases h4 : a.toInt < x.toInt <;> simp [h3, h4] <;> omega
  · by_cases h3 : x.toInt < a.toInt <;> by_cases h4 : b.toInt < x.toInt <;> simp [h3, h4] <;> omega
  · by_cases h3 : x.toInt < a.toInt <;> by_cases h4 : a.toInt < x.toInt <;> simp [h3, h4] <;> omega
theorem i32_z {x : Int32} : x = 0 ↔ x.toInt = 0 := by
  rw [← Int32.toInt_inj]; rfl
theorem f_11_iff {σ : mm_S} {j e p q : Nat} (he : e < 21) (hj : j < 9) (hp : p < 9) (hq : q < 9) (e16 : σ 16 e = nI p) (e17 : σ 17 e = nI q) : f_11 σ (nI j) (nI e) = 0 ↔ j ≠ p ∧ j ≠ q := by
  unfold f_11
  rw [nI_clamp (show e < 2 ^ 31 by omega), e16, e17]
  by_cases h1 : p = j
  · subst h1; simp
  · have n1 : ¬ nI p = nI j := fun z => h1 ((nI_eq (by omega) (by omega)).mp z)
    by_cases h2 : q = j
    · subst h2; simp [n1]
    · have n2 : ¬ nI q = nI j := fun z => h2 ((nI_eq (by omega) (by omega)).mp z)
      simp only [n1, n2, if_false, true_iff]
      exact ⟨fun z => h1 z.symm, fun z => h2 z.symm⟩
/-- room j lies on the join from p to q -/
def lon (σ : mm_S) (j p q : Nat) : Prop := j ≠ p ∧ j ≠ q ∧ gcr (vc σ p q) (vc σ p j) = 0 ∧ btw (pX σ j) (pX σ p) (pX σ q) ∧ btw (pY σ j) (pY σ p) (pY σ q)
theorem f_27_iff {σ : mm_S} {j e p q : Nat} (he : e < 21) (hj : j < 9 ∧ cG σ j) (hp : p < 9 ∧ cG σ p) (hq : q < 9 ∧ cG σ q) (e16 : σ 16 e = nI p) (e17 : σ 17 e = nI q) : ¬ f_27 σ (nI j) (nI e) = 0 ↔ lon σ j p q := by
  have h11 := f_11_iff he hj.1 hp.1 hq.1 e16 e17
  have h17 := f_17_toInt hp hq hj
  unfold f_27 lon
  rw [nI_clamp (show e < 2 ^ 31 by omega), e16, e17, nI_clamp (show j < 2 ^ 31 by omega), nI_clamp (show p < 2 ^ 31 by omega), nI_clamp (show q < 2 ^ 31 by omega)]
  have hx := f_28_btw (x := σ 11 j) (a := σ 11 p) (b := σ 11 q)
  have hy := f_28_btw (x := σ 12 j) (a := σ 12 p) (b := σ 12 q)
  have hz : f_17 σ (nI p) (nI q) (nI j) = 0 ↔ gcr (vc σ p q) (vc σ p j) = 0 := by rw [i32_z, h17]
  by_cases a : f_11 σ (nI j) (nI e) = 0
  · rw [if_pos a]
    have a' := h11.mp a
    by_cases b : f_17 σ (nI p) (nI q) (nI j) = 0
    · rw [if_pos b]
      have b' := hz.mp b
      by_cases c : f_28 (σ 11 j) (σ 11 p) (σ 11 q) = 0
      · rw [if_pos c]
        exact ⟨fun z => absurd rfl z, fun z => absurd c (hx.mpr z.2.2.2.1)⟩
      · rw [if_neg c]
        by_cases e : f_28 (σ 12 j) (σ 12 p) (σ 12 q) = 0
        · rw [if_pos e]
          exact ⟨fun z => absurd rfl z, fun z => absurd e (hy.mpr z.2.2.2.2)⟩
        · rw [if_neg e]
          exact ⟨fun _ => ⟨a'.1, a'.2, b', hx.mp c, hy.mp e⟩, fun _ => by decide⟩
    · rw [if_neg b]
      exact ⟨fun z => absurd rfl z, fun z => absurd (hz.mpr z.2.2.1) b⟩
  · rw [if_neg a]
    exact ⟨fun z => absurd rfl z, fun z => absurd (h11.mpr ⟨z.1, z.2.1⟩) a⟩
/-- of two vectors that look the same way one lies on the other -/
theorem gbt1 {D T u v : Int} (hD : 0 < D) (hT : 0 < T) (hTD : T ≤ D) (h : D * u = T * v) : btw u 0 v := by
  unfold btw
  rcases Int.le_total 0 v with k | k
  · refine Or.inl ⟨?_, ?_⟩
    · have : 0 ≤ T * v := Int.mul_nonneg (by omega) k
      rcases Int.lt_or_le u 0 with z | z
      · have := Int.mul_neg_of_pos_of_neg hD z; omega
      · exact z
    · have h1 : T * v ≤ D * v := Int.mul_le_mul_of_nonneg_right hTD k
      exact Int.le_of_mul_le_mul_left (by rw [h]; exact h1) hD
  · refine Or.inr ⟨?_, ?_⟩
    · have h1 : D * v ≤ T * v := Int.mul_le_mul_of_nonpos_right hTD k
      exact Int.le_of_mul_le_mul_left (by rw [h]; exact h1) hD
    · have : T * v ≤ 0 := Int.mul_nonpos_of_nonneg_of_nonpos (by omega) k
      rcases Int.lt_or_le 0 u with z | z
      · have := Int.mul_pos hD z; omega
      · exact z
theorem gbt {u v : V2} (hu : 0 < gdt u u) (hv : 0 < gdt v v) (h : gsd u v) : (btw u.1 0 v.1 ∧ btw u.2 0 v.2) ∨ (btw v.1 0 u.1 ∧ btw v.2 0 u.2) := by
  obtain ⟨h0, h1⟩ := h
  have key : ∀ a b : V2, gcr a b = 0 → gdt b b * a.1 = gdt a b * b.1 ∧ gdt b b * a.2 = gdt a b * b.2 := by
    intro a b h
    unfold gcr at h
    unfold gdt
    constructor <;> grind
  rcases Int.le_total (gdt u v) (gdt v v) with k | k
  · obtain ⟨k1, k2⟩ := key u v h0
    exact Or.inl ⟨gbt1 hv h1 k k1, gbt1 hv h1 k k2⟩
  · obtain ⟨k1, k2⟩ := key v u (by have := gcr_anti v u; omega)
    have h1' : 0 < gdt v u := by rw [gdt_comm]; exact h1
    have k' : gdt v u ≤ gdt u u := by
      rw [gdt_comm v u]
      have e := gdt_id3 u v
      rw [h0, Int.mul_zero, Int.add_zero] at e
      rcases Int.lt_or_le (gdt u u) (gdt u v) with z | z
      · exfalso
        have a1 : gdt u u * gdt v v < gdt u v * gdt v v := Int.mul_lt_mul_of_pos_right z hv
        have a2 : gdt u v * gdt v v ≤ gdt u v * gdt u v := Int.mul_le_mul_of_nonneg_left k (by omega)
        omega
      · exact z
    exact Or.inr ⟨gbt1 hu h1' k' k1, gbt1 hu h1' k' k2⟩
/-- rooms p, q of a join, in either order -/
theorem lon_of {σ : mm_S} {i j k : Nat} (hji : j ≠ i) (hjk : j ≠ k) (h0 : gcr (vc σ i j) (vc σ i k) = 0) (hb : btw (vc σ i j).1 0 (vc σ i k).1 ∧ btw (vc σ i j).2 0 (vc σ i k).2) : lon σ j i k ∧ lon σ j k i := by
  unfold vc btw at hb
  unfold lon btw
  unfold gcr vc at *
  simp only at *
  refine ⟨⟨hji, hjk, ?_, ?_, ?_⟩, ⟨hjk, hji, ?_, ?_, ?_⟩⟩
  · grind
  · omega
  · omega
  · grind
  · omega
  · omega
end
section
/-! class: the sketch; around each room the joins look different ways -/
/-- how many bits below i -/
def bc (m : Nat) : Nat → Nat
  | 0 => 0
  | i + 1 => bc m i + if m.testBit i = true then 1 else 0
def CK (σ : mm_S) (n m : Nat) : Prop := (σ 1 11 = nI (bc m 9)) ∧ (m < 512 ∧ σ 1 10 = nI m) ∧ (∀ j, j < 9 → (xd σ (nI j) = 1 ↔ m.testBit j = true)) ∧ (∀ j, j < 9 → m.testBit j = true → cG σ j) ∧ (∀ i j, i < 9 → j < 9 → m.testBit i = true → m.testBit j = true → pX σ i = pX σ j → pY σ i = pY σ j → i = j) ∧ (n ≤ 21 ∧ σ 1 12 = nI n) ∧ (∀ k, k < n → ∃ a b, a < 9 ∧ b < 9 ∧ a ≠ b ∧ m.testBit a = true ∧ m.testBit b = true ∧ σ 16 k = nI a ∧ σ 17 k = nI b) ∧ (∀ i, i < 9 → m.testBit i = true → ∃ q, q < 512 ∧ σ 15 i = nI q) ∧ (∀ i j, i < 9 → m.testBit i = true → (aj σ i j ↔ ∃ k, k < n ∧ ((σ 16 k = nI i ∧ σ 17 k = nI j) ∨ (σ 16 k = nI j ∧ σ 17 k = nI i)) ∧ j < 9))
theorem CK.cr {σ : mm_S} {n m : Nat} (h : CK σ n m) : σ 1 11 = nI (bc m 9) := h.1
theorem CK.dm {σ : mm_S} {n m : Nat} (h : CK σ n m) : m < 512 ∧ σ 1 10 = nI m := h.2.1
theorem CK.dr {σ : mm_S} {n m : Nat} (h : CK σ n m) : ∀ j, j < 9 → (xd σ (nI j) = 1 ↔ m.testBit j = true) := h.2.2.1
theorem CK.xy {σ : mm_S} {n m : Nat} (h : CK σ n m) : ∀ j, j < 9 → m.testBit j = true → cG σ j := h.2.2.2.1
theorem CK.ds {σ : mm_S} {n m : Nat} (h : CK σ n m) : ∀ i j, i < 9 → j < 9 → m.testBit i = true → m.testBit j = true → pX σ i = pX σ j → pY σ i = pY σ j → i = j := h.2.2.2.2.1
theorem CK.jn {σ : mm_S} {n m : Nat} (h : CK σ n m) : n ≤ 21 ∧ σ 1 12 = nI n := h.2.2.2.2.2.1
theorem CK.je {σ : mm_S} {n m : Nat} (h : CK σ n m) : ∀ k, k < n → ∃ a b, a < 9 ∧ b < 9 ∧ a ≠ b ∧ m.testBit a = true ∧ m.testBit b = true ∧ σ 16 k = nI a ∧ σ 17 k = nI b := h.2.2.2.2.2.2.1
theorem CK.jm {σ : mm_S} {n m : Nat} (h : CK σ n m) : ∀ i, i < 9 → m.testBit i = true → ∃ q, q < 512 ∧ σ 15 i = nI q := h.2.2.2.2.2.2.2.1
theorem CK.ja {σ : mm_S} {n m : Nat} (h : CK σ n m) : ∀ i j, i < 9 → m.testBit i = true → (aj σ i j ↔ ∃ k, k < n ∧ ((σ 16 k = nI i ∧ σ 17 k = nI j) ∨ (σ 16 k = nI j ∧ σ 17 k = nI i)) ∧ j < 9) := h.2.2.2.2.2.2.2.2
theorem CK.Jr {σ : mm_S} {n m : Nat} (C : CK σ n m) : Jr σ n := ⟨C.jn.1, C.jn.2, fun k hk => by
  obtain ⟨a, b, ha, hb, -, -, -, e1, e2⟩ := C.je k hk
  rw [e1, e2]
  exact ⟨pk_in a 9 ha, pk_in b 9 hb⟩⟩
theorem nI9 {a b : Nat} (ha : a < 9) (hb : b < 9) (h : nI a = nI b) : a = b := (nI_eq (by omega) (by omega)).mp h
theorem CK.aj_dr {σ : mm_S} {n m i j : Nat} (C : CK σ n m) (hi : i < 9) (hm : m.testBit i = true) (h : aj σ i j) : j < 9 ∧ m.testBit j = true ∧ j ≠ i := by
  obtain ⟨k, hk, h1, h2⟩ := (C.ja i j hi hm).mp h
  obtain ⟨a, b, ha, hb, hne, ma, mb, e1, e2⟩ := C.je k hk
  rw [e1, e2] at h1
  rcases h1 with ⟨p, q⟩ | ⟨p, q⟩
  · have := nI9 ha hi p
    have := nI9 hb h2 q
    subst a; subst b
    exact ⟨h2, mb, fun z => hne z.symm⟩
  · have := nI9 ha h2 p
    have := nI9 hb hi q
    subst a; subst b
    exact ⟨h2, ma, hne⟩
theorem CK.aj_sym {σ : mm_S} {n m i j : Nat} (C : CK σ n m) (hi : i < 9) (hm : m.testBit i = true) (h : aj σ i j) : aj σ j i := by
  obtain ⟨h9, hj, -⟩ := C.aj_dr hi hm h
  obtain ⟨k, hk, h1, h2⟩ := (C.ja i j hi hm).mp h
  exact (C.ja j i h9 hj).mpr ⟨k, hk, h1.symm, hi⟩
theorem f_26_t {σ : mm_S} {j e f : Nat} (he : e < 21) (hj : σ 16 e = nI j ∨ σ 17 e = nI j) (h : ¬ f_27 σ (nI j) (nI f) = 0) : ¬ f_26 σ (nI e) (nI f) = 0 := by
  unfold f_26
  rw [nI_clamp (show e < 2 ^ 31 by omega)]
  rcases hj with hj | hj
  · rw [hj, if_neg h]; decide
  · by_cases z : f_27 σ (σ 16 e) (nI f) = 0
    · rw [if_pos z, hj, if_neg h]; decide
    · rw [if_neg z]; decide
/-- nothing crosses -/
def NC (σ : mm_S) (n : Nat) : Prop := ∀ e f, e < f → f < n → ¬ cxx σ e f
theorem NC_t {σ : mm_S} {n e f : Nat} (N : NC σ n) (he : e < n) (hf : f < n) (hne : e ≠ f) : f_26 σ (nI e) (nI f) = 0 := by
  by_cases z : f_26 σ (nI e) (nI f) = 0
  · exact z
  · rcases Nat.lt_or_gt_of_ne hne with h | h
    · exact absurd (fun q => z q.1) (N e f h hf)
    · exact absurd (fun q => z q.2.1) (N f e h he)
theorem CK.gdd {σ : mm_S} {n m i : Nat} (C : CK σ n m) (N : NC σ n) (hi : i < 9) (hm : m.testBit i = true) : gdd (aj σ i) (vc σ i) := by
  have gi := C.xy i hi hm
  have pos : ∀ j, aj σ i j → 0 < gdt (vc σ i j) (vc σ i j) := fun j hj => by
    obtain ⟨h9, mj, hne⟩ := C.aj_dr hi hm hj
    refine gdt_pos (fun z => hne (C.ds j i h9 hi mj hm ?_ ?_))
    · have := z.1; unfold vc at this; simp only at this; omega
    · have := z.2; unfold vc at this; simp only at this; omega
  refine ⟨pos, fun j k hj hk hjk hs => ?_⟩
  obtain ⟨j9, mj, hji⟩ := C.aj_dr hi hm hj
  obtain ⟨k9, mk, hki⟩ := C.aj_dr hi hm hk
  obtain ⟨e, he, e1, -⟩ := (C.ja i j hi hm).mp hj
  obtain ⟨f, hf, f1, -⟩ := (C.ja i k hi hm).mp hk
  have n21 := C.jn.1
  have hef : e ≠ f := fun z => by
    subst z
    rcases e1 with ⟨p, q⟩ | ⟨p, q⟩ <;> rcases f1 with ⟨r, s⟩ | ⟨r, s⟩
    · exact hjk (nI9 j9 k9 (q.symm.trans s))
    · exact hki (nI9 k9 hi (r.symm.trans p))
    · exact hji (nI9 j9 hi (p.symm.trans r))
    · exact hjk (nI9 j9 k9 (p.symm.trans r))
  have t1 := NC_t N he hf hef
  have t2 := NC_t N hf he (fun z => hef z.symm)
  have gj := C.xy j j9 mj
  have gk := C.xy k k9 mk
  have ej : σ 16 e = nI j ∨ σ 17 e = nI j := e1.elim (fun z => Or.inr z.2) (fun z => Or.inl z.1)
  have fk : σ 16 f = nI k ∨ σ 17 f = nI k := f1.elim (fun z => Or.inr z.2) (fun z => Or.inl z.1)
  rcases gbt (pos j hj) (pos k hk) hs with b | b
  · obtain ⟨l1, l2⟩ := lon_of (σ := σ) (i := i) (j := j) (k := k) hji hjk hs.1 b
    refine f_26_t (f := f) (by omega) ej ?_ t1
    rcases f1 with ⟨r, s⟩ | ⟨r, s⟩
    · exact (f_27_iff (by omega) ⟨j9, gj⟩ ⟨hi, gi⟩ ⟨k9, gk⟩ r s).mpr l1
    · exact (f_27_iff (by omega) ⟨j9, gj⟩ ⟨k9, gk⟩ ⟨hi, gi⟩ r s).mpr l2
  · obtain ⟨l1, l2⟩ := lon_of (σ := σ) (i := i) (j := k) (k := j) hki (fun z => hjk z.symm) (by have := gcr_anti (vc σ i k) (vc σ i j); rw [hs.1] at this; omega) b
    refine f_26_t (f := e) (by omega) fk ?_ t2
    rcases e1 with ⟨r, s⟩ | ⟨r, s⟩
    · exact (f_27_iff (by omega) ⟨k9, gk⟩ ⟨hi, gi⟩ ⟨j9, gj⟩ r s).mpr l1
    · exact (f_27_iff (by omega) ⟨k9, gk⟩ ⟨j9, gj⟩ ⟨hi, gi⟩ r s).mpr l2
end
section
/-! class: orderJoins -/
theorem aj_cg {σ τ : mm_S} (h : τ 15 = σ 15) : aj τ = aj σ := by
  funext i j
  unfold aj
  rw [h]
theorem vc_cg {σ τ : mm_S} (h1 : τ 11 = σ 11) (h2 : τ 12 = σ 12) : vc τ = vc σ := by
  funext i j
  unfold vc pX pY
  rw [h1, h2]
theorem cG_cg {σ τ : mm_S} (h1 : τ 11 = σ 11) (h2 : τ 12 = σ 12) : cG τ = cG σ := by
  funext i
  unfold cG pX pY
  rw [h1, h2]
/-- behind[a][b] holds what comes next -/
def DD (σ τ : mm_S) (a b : Nat) : Prop := ∃ g, τ (21 + 1 + a) b = nI g ∧ nxt (aj σ a) (vc σ a) b g
theorem DD_up {σ τ : mm_S} {a b g x y : Nat} (h : nxt (aj σ a) (vc σ a) b g) (hd : (x = a ∧ y = b) ∨ DD σ τ x y) : DD σ (mm_up τ (21 + 1 + a) b (nI g)) x y := by
  by_cases e : x = a ∧ y = b
  · obtain ⟨e1, e2⟩ := e
    subst e1; subst e2
    exact ⟨g, mm_up_s, h⟩
  · rcases hd with hd | hd
    · exact absurd hd e
    · obtain ⟨k, h1, h2⟩ := hd
      refine ⟨k, ?_, h2⟩
      rw [← h1]
      by_cases e1 : x = a
      · subst e1
        exact mm_up_o (fun z => e ⟨rfl, z⟩)
      · rw [mm_up_n (by omega)]
theorem mr21n {a j : Nat} (ha : a < 9) (hj : j < 13) : mm_ia ms_Y (21 + 1 + a) (nI j) := by
  have h := mr_21 (pk_in a 9 ha) (pk_in j 13 hj)
  rw [nI_clamp (show a < 2 ^ 31 by omega)] at h
  exact h
theorem c_33 {d n m : Nat} {Q : mm_Q} {σ : mm_S} (C : CK σ n m) (N : NC σ n)
    (q : ∀ τ : mm_S, (∀ k, (k < 22 ∨ 30 < k) → τ k = σ k) → (∀ a b, a < 9 → m.testBit a = true → aj σ a b → DD σ τ a b) → Q none τ) : mD (d + 4) 33 [.ref 5] σ Q := by
  refine ke_33 (kb_33_0 ?_)
  refine lp_dn (P := fun e => ∀ τ : mm_S, (∀ k, (k < 22 ∨ 30 < k) → τ k = σ k) → (∀ k, k < e → ∀ a b, σ 16 k = nI a → σ 17 k = nI b → a < 9 → b < 9 → DD σ τ a b ∧ DD σ τ b a) → ∀ o2 o3, mw (d + 3) mt_33 Q 2 [some (.ref 5), some (.int (nI e)), o2, o3] [] τ) n ?_ ?_ 0 (Nat.zero_le n) σ (fun _ _ => rfl) (fun k hk => absurd hk (Nat.not_lt_zero k)) none none
  · intro τ hf hd o2 o3
    refine kb_33_2 (fun _ => kb_33_67 (q τ hf (fun a b ha ma hab => ?_))) (fun g => absurd ?_ g)
    · obtain ⟨k, hk, h, hb⟩ := (C.ja a b ha ma).mp hab
      rcases h with h | h
      · exact (hd k hk a b h.1 h.2 ha hb).1
      · exact (hd k hk b a h.1 h.2 hb ha).2
    · rw [hf 1 (by omega), C.jn.2]; exact hI_le (by have := C.jn.1; omega) (Nat.le_refl n)
  · intro e he ih τ hf hd o2 o3
    have n21 := C.jn.1
    obtain ⟨a, b, ha, hb, hne, ma, mb, e1, e2⟩ := C.je e he
    have ab : aj σ a b := (C.ja a b ha ma).mpr ⟨e, he, Or.inl ⟨e1, e2⟩, hb⟩
    have ba : aj σ b a := (C.ja b a hb mb).mpr ⟨e, he, Or.inr ⟨e1, e2⟩, ha⟩
    have call : ∀ (i f : Nat) (ρ : mm_S) (Q' : mm_Q), i < 9 → m.testBit i = true → aj σ i f → (∀ k, (k < 22 ∨ 30 < k) → ρ k = σ k) → (∀ g, nxt (aj σ i) (vc σ i) f g → Q' (some (.int (nI g))) ρ) → mD (d + 3) 34 [.ref 5, .int (nI i), .int (nI f)] ρ Q' := by
      intro i f ρ Q' hi mi hif hr hq
      have r1 := aj_cg (hr 15 (by omega))
      have r2 := vc_cg (hr 11 (by omega)) (hr 12 (by omega))
      have r3 := cG_cg (hr 11 (by omega)) (hr 12 (by omega))
      refine c_34 (by rw [r3]; exact ⟨hi, C.xy i hi mi⟩) (fun j hj => ?_) (by rw [r1, r2]; exact C.gdd N hi mi) (by rw [r1]; exact hif) (fun g hg => hq g (by rw [r1, r2] at hg; exact hg))
      rw [r1] at hj
      rw [r3]
      obtain ⟨j9, mj, -⟩ := C.aj_dr hi mi hj
      exact C.xy j j9 mj
    have ce : (nI e).toNatClampNeg = e := nI_clamp (by omega)
    have t16 : τ 16 (nI e).toNatClampNeg = nI a := by rw [ce, hf 16 (by omega)]; exact e1
    have t17 : τ 17 (nI e).toNatClampNeg = nI b := by rw [ce, hf 17 (by omega)]; exact e2
    have ca : (nI a).toNatClampNeg = a := nI_clamp (by omega)
    have cb : (nI b).toNatClampNeg = b := nI_clamp (by omega)
    refine kb_33_2 (fun g => absurd g ?_) (fun _ => kb_33_13 (pk_in e 21 (by omega)) (pk_in e 21 (by omega)) ?_ ?_)
    · rw [hf 1 (by omega), C.jn.2]; exact hI_nle (by omega) he
    · rw [t16]; exact pk_in a 9 ha
    · rw [t16, t17]
      refine call a b τ _ ha ma ab hf (fun g hg => ?_)
      refine kb_33_46 (mr_21 (pk_in a 9 ha) (pk_in b 13 (by omega))) (pk_in b 9 hb) ?_
      rw [ca, cb]
      have f2 : ∀ k, (k < 22 ∨ 30 < k) → mm_up τ (21 + 1 + a) b (nI g) k = σ k := fun k hk => by rw [mm_up_n (by omega)]; exact hf k hk
      refine call b a _ _ hb mb ba f2 (fun g2 hg2 => ?_)
      refine kb_33_60 (mr21n hb (by omega)) ?_
      rw [nI_1, ca]
      refine ih _ (fun k hk => by rw [mm_up_n (by omega)]; exact f2 k hk) (fun k hk x y h1 h2 hx hy => ?_) _ _
      by_cases eq : k = e
      · subst eq
        have p1 := nI9 hx ha (h1.symm.trans e1)
        have p2 := nI9 hy hb (h2.symm.trans e2)
        subst p1; subst p2
        exact ⟨DD_up hg2 (Or.inr (DD_up hg (Or.inl ⟨rfl, rfl⟩))), DD_up hg2 (Or.inl ⟨rfl, rfl⟩)⟩
      · obtain ⟨p, r⟩ := hd k (by omega) x y h1 h2 hx hy
        exact ⟨DD_up hg2 (Or.inr (DD_up hg (Or.inr p))), DD_up hg2 (Or.inr (DD_up hg (Or.inr r)))⟩
end
section
/-! bits -/
theorem sh_bv (i : Nat) (hi : i < 31) (x : Int32) : (x >>> (nI i &&& 31)).toBitVec = x.toBitVec.sshiftRight i := by
  rw [Int32.toBitVec_shiftRight]
  have h : ∀ i, i < 31 → ((nI i &&& 31).toBitVec.smod 32).toNat = i := by decide
  show x.toBitVec.sshiftRight ((nI i &&& 31).toBitVec.smod 32).toNat = _
  rw [h i hi]
theorem and1 (y : Int32) : (y &&& 1 = 1) ↔ y.toBitVec.getLsbD 0 = true := by
  rw [← Int32.toBitVec_inj, Int32.toBitVec_and]
  constructor
  · intro h
    have := congrArg (fun z => z.getLsbD 0) h
    simp at this
    simpa using this
  · intro h
    apply BitVec.eq_of_getLsbD_eq
    intro k hk
    simp only [BitVec.getLsbD_and]
    by_cases e : k = 0
    · subst e; simp [h]
    · have : (1 : Int32).toBitVec.getLsbD k = false := by
        show (1#32).getLsbD k = false
        simp [BitVec.getLsbD_one, e]
      rw [this]; simp
theorem hs_bit {m i : Nat} (hm : m < 2 ^ 31) (hi : i < 31) : hs (nI m) (nI i) = if m.testBit i = true then 1 else 0 := by
  unfold hs
  have key : ((nI m >>> (nI i &&& 31)) &&& 1 = 1) ↔ m.testBit i = true := by
    rw [and1, sh_bv i hi, BitVec.getLsbD_sshiftRight]
    have : (nI m).toBitVec = BitVec.ofNat 32 m := rfl
    rw [this]
    simp only [Nat.add_zero, BitVec.getLsbD_ofNat]
    simp [show i < 32 by omega]
  by_cases h : m.testBit i = true
  · rw [if_pos h, if_pos (key.mpr h)]
  · rw [if_neg h, if_neg (fun z => h (key.mp z))]
theorem or_bit {m k : Nat} : nI m ||| nI k = nI (m ||| k) := by
  rw [← Int32.toBitVec_inj, Int32.toBitVec_or]
  show BitVec.ofNat 32 m ||| BitVec.ofNat 32 k = BitVec.ofNat 32 (m ||| k)
  rw [BitVec.ofNat_or]
theorem and_bit {m k : Nat} : nI m &&& nI k = nI (m &&& k) := by
  rw [← Int32.toBitVec_inj, Int32.toBitVec_and]
  show BitVec.ofNat 32 m &&& BitVec.ofNat 32 k = BitVec.ofNat 32 (m &&& k)
  rw [BitVec.ofNat_and]
theorem one_sh {i : Nat} (hi : i < 31) : (1 : Int32) <<< (nI i &&& 31) = nI (2 ^ i) := by
  have h : ∀ i, i < 31 → (1 : Int32) <<< (nI i &&& 31) = nI (2 ^ i) := by decide
  exact h i hi
theorem xor_bit {m k : Nat} : nI m ^^^ nI k = nI (m ^^^ k) := by
  rw [← Int32.toBitVec_inj, Int32.toBitVec_xor]
  show BitVec.ofNat 32 m ^^^ BitVec.ofNat 32 k = BitVec.ofNat 32 (m ^^^ k)
  rw [BitVec.ofNat_xor]
theorem hs_b1 {m i : Nat} (hm : m < 2 ^ 31) (hi : i < 31) : hs (nI m) (nI i) = 1 ↔ m.testBit i = true := by
  rw [hs_bit hm hi]
  by_cases h : m.testBit i = true
  · simp [h]
  · simp [h]
theorem hs_b0 {m i : Nat} (hm : m < 2 ^ 31) (hi : i < 31) : hs (nI m) (nI i) = 0 ↔ m.testBit i = false := by
  rw [hs_bit hm hi]
  by_cases h : m.testBit i = true
  · simp [h]
  · simp [h]
theorem aj_bit {σ : mm_S} {i j q : Nat} (hq : q < 512) (e : σ 15 i = nI q) : aj σ i j ↔ j < 9 ∧ q.testBit j = true := by
  unfold aj
  rw [e]
  constructor
  · rintro ⟨h1, h2⟩; exact ⟨h1, (hs_b1 (by omega) (by omega)).mp h2⟩
  · rintro ⟨h1, h2⟩; exact ⟨h1, (hs_b1 (by omega) (by omega)).mpr h2⟩
/-- Bits.lowest -/
theorem c_5 {d m : Nat} {Q : mm_Q} {σ : mm_S} (hm : m < 2 ^ 31) (q : ∀ i, i ≤ 13 → (∀ j, j < i → m.testBit j = false) → (i < 13 → m.testBit i = true) → Q (some (.int (nI i))) σ) : mD (d + 2) 5 [.int (nI m)] σ Q := by
  refine ke_5 (kb_5_0 ?_)
  refine lp_dn (P := fun i => (∀ j, j < i → m.testBit j = false) → mw (d + 1) mt_5 Q 2 [some (.int (nI m)), some (.int (nI i))] [] σ) 13 ?_ ?_ 0 (by omega) (fun j hj => absurd hj (Nat.not_lt_zero j))
  · intro h
    exact kb_5_2 (fun _ => kb_5_22 (q 13 (Nat.le_refl 13) h (fun z => absurd z (Nat.lt_irrefl 13)))) (fun g => absurd (by decide) g)
  · intro i hi ih h
    refine kb_5_2 (fun g => absurd g (hI_nle (a := 13) (by omega) hi)) (fun _ => kb_5_8 (c_4 (kb_5_13 (fun z => kb_5_16 ?_) (fun z => kb_5_22 (q i (by omega) h (fun _ => ?_))))))
    · rw [nI_1]
      refine ih (fun j hj => ?_)
      by_cases e : j = i
      · subst e; exact (hs_b0 hm (by omega)).mp z
      · exact h j (by omega)
    · exact (hs_b1 hm (by omega)).mp ((hs_01 _ _).resolve_left z)
end
section
/-! class: reachAll -/
theorem bc_le {a b : Nat} : ∀ n, (∀ j, j < n → a.testBit j = true → b.testBit j = true) → bc a n ≤ bc b n
  | 0, _ => Nat.le_refl 0
  | n + 1, h => by
    have ih := bc_le n (fun j hj => h j (by omega))
    have hn := h n (by omega)
    unfold bc
    by_cases c : a.testBit n = true
    · rw [if_pos c, if_pos (hn c)]; omega
    · rw [if_neg c]; split <;> omega
theorem bc_lt {a b : Nat} : ∀ n, (∀ j, j < n → a.testBit j = true → b.testBit j = true) → (∃ j, j < n ∧ b.testBit j = true ∧ ¬ a.testBit j = true) → bc a n < bc b n
  | 0, _, h2 => by obtain ⟨j, hj, _⟩ := h2; exact absurd hj (Nat.not_lt_zero j)
  | n + 1, h, h2 => by
    have hn := h n (by omega)
    have il := bc_le n (fun j hj => h j (by omega))
    unfold bc
    by_cases c : b.testBit n = true ∧ ¬ a.testBit n = true
    · rw [if_neg c.2, if_pos c.1]; omega
    · have ih := bc_lt n (fun j hj => h j (by omega)) (by
        obtain ⟨j, hj, h3, h4⟩ := h2
        by_cases e : j = n
        · subst e; exact absurd ⟨h3, h4⟩ c
        · exact ⟨j, by omega, h3, h4⟩)
      by_cases c1 : a.testBit n = true
      · rw [if_pos c1, if_pos (hn c1)]; omega
      · rw [if_neg c1]; split <;> omega
theorem bc_n (m : Nat) : ∀ n, bc m n ≤ n
  | 0 => Nat.le_refl 0
  | n + 1 => by
    have := bc_n m n
    unfold bc
    split <;> omega
theorem bc_pos {m : Nat} : ∀ n, 0 < bc m n → ∃ j, j < n ∧ m.testBit j = true
  | 0, h => absurd h (Nat.lt_irrefl 0)
  | n + 1, h => by
    unfold bc at h
    by_cases c : m.testBit n = true
    · exact ⟨n, by omega, c⟩
    · rw [if_neg c] at h
      obtain ⟨j, hj, h1⟩ := bc_pos n (by omega)
      exact ⟨j, by omega, h1⟩
theorem bc_ge {m i : Nat} : ∀ n, i < n → m.testBit i = true → 0 < bc m n
  | 0, h, _ => absurd h (Nat.not_lt_zero i)
  | n + 1, h, h1 => by
    unfold bc
    by_cases e : i = n
    · subst e; rw [if_pos h1]; omega
    · have := bc_ge n (by omega) h1; omega
theorem tb_lt {m i k : Nat} (h : m < 2 ^ k) (hi : k ≤ i) : m.testBit i = false := Nat.testBit_lt_two_pow (Nat.lt_of_lt_of_le h (Nat.pow_le_pow_right (by decide) hi))
theorem tb_ext {a b k : Nat} (ha : a < 2 ^ k) (hb : b < 2 ^ k) (h : ∀ j, j < k → (a.testBit j = true ↔ b.testBit j = true)) : a = b := by
  apply Nat.eq_of_testBit_eq
  intro j
  by_cases hj : j < k
  · have := h j hj
    cases x : a.testBit j <;> cases y : b.testBit j <;> simp_all
  · rw [tb_lt ha (by omega), tb_lt hb (by omega)]
/-- the rooms of one piece -/
def Cn (σ : mm_S) (m : Nat) : Prop := ∀ S : Nat → Prop, (∃ i, i < 9 ∧ m.testBit i = true ∧ S i) → (∀ i j, i < 9 → m.testBit i = true → S i → aj σ i j → S j) → ∀ i, i < 9 → m.testBit i = true → S i
def cls (σ : mm_S) (r : Nat) : Prop := ∀ i j, i < 9 → r.testBit i = true → aj σ i j → r.testBit j = true
theorem c_31 {d n m : Nat} {Q : mm_Q} {σ : mm_S} (C : CK σ n m) (h0 : 0 < bc m 9) (q1 : Cn σ m → Q (some (.int 1)) σ) (q0 : ¬ Cn σ m → Q (some (.int 0)) σ) : mD (d + 3) 31 [.ref 5] σ Q := by
  have m9 := C.dm.1
  refine ke_31 (kb_31_0 ?_)
  rw [C.dm.2]
  refine c_5 (by omega) (fun l hl13 hl hl1 => ?_)
  have hl9 : l < 9 := by
    obtain ⟨j, hj, hb⟩ := bc_pos 9 h0
    rcases Nat.lt_or_ge l 9 with z | z
    · exact z
    · have := hl j (by omega); rw [this] at hb; exact absurd hb (by decide)
  have ml : m.testBit l = true := hl1 (by omega)
  refine kb_31_11 ?_
  rw [one_sh (by omega)]
  -- what is known of the set
  have main : ∀ R : Nat → Nat → Prop, True := fun _ => trivial
  refine lp_dn (P := fun k => ∀ r, r < 512 → r.testBit l = true → (∀ i, i < 9 → r.testBit i = true → m.testBit i = true) → (∀ S : Nat → Prop, S l → (∀ i j, i < 9 → m.testBit i = true → S i → aj σ i j → S j) → ∀ i, i < 9 → r.testBit i = true → S i) → (cls σ r ∨ k < bc r 9) → ∀ o3, mw (d + 2) mt_31 Q 15 [some (.ref 5), some (.int (nI r)), some (.int (nI k)), o3] [] σ) 9 ?_ ?_ 0 (by omega) (2 ^ l) ?_ ?_ ?_ ?_ ?_ none
  · intro r r9 rl rm rS rc o3
    have hc : cls σ r := by
      rcases rc with z | z
      · exact z
      · have := bc_n r 9; omega
    refine kb_31_15 (fun _ => kb_31_61 (fun e => kb_31_72 (q1 ?_)) (fun e => kb_31_76 (q0 ?_))) (fun g => absurd (by decide) g)
    · rw [C.dm.2] at e
      have er : r = m := (nI_eq (by omega) (by omega)).mp e
      subst er
      intro S hS hcl i hi mi
      by_cases sl : S l
      · exact rS S sl hcl i hi mi
      · obtain ⟨k, hk, mk, sk⟩ := hS
        have := rS (fun x => x < 9 ∧ r.testBit x = true ∧ ¬ S x) ⟨hl9, ml, sl⟩ (fun a b ha ma hs hab => by
          obtain ⟨b9, mb, -⟩ := C.aj_dr ha ma hab
          exact ⟨b9, mb, fun z => hs.2.2 (hcl b a b9 mb z (C.aj_sym ha ma hab))⟩) k hk mk
        exact absurd sk this.2.2
    · intro hC
      apply e
      rw [C.dm.2]
      congr 1
      refine tb_ext (k := 9) (by omega) (by omega) (fun j hj => ⟨rm j hj, fun mj => ?_⟩)
      exact hC (fun x => r.testBit x = true) ⟨l, hl9, ml, rl⟩ (fun a b ha _ hs hab => hc a b ha hs hab) j hj mj
  · intro k hk ih r r9 rl rm rS rc o3
    refine kb_31_15 (fun g => absurd g (hI_nle (a := 9) (by omega) hk)) (fun _ => kb_31_21 ?_)
    refine lp_dn (P := fun i => ∀ s, s < 512 → (∀ j, j < 9 → r.testBit j = true → s.testBit j = true) → (∀ j, j < 9 → s.testBit j = true → m.testBit j = true) → (∀ S : Nat → Prop, S l → (∀ i j, i < 9 → m.testBit i = true → S i → aj σ i j → S j) → ∀ i, i < 9 → s.testBit i = true → S i) → (∀ a b, a < i → r.testBit a = true → aj σ a b → s.testBit b = true) → mw (d + 2) mt_31 Q 23 [some (.ref 5), some (.int (nI s)), some (.int (nI k)), some (.int (nI i))] [] σ) 9 ?_ ?_ 0 (by omega) r r9 (fun _ _ z => z) rm rS (fun a b h => absurd h (Nat.not_lt_zero a))
    · intro s s9 rs sm sS sd
      refine kb_31_23 (fun _ => kb_31_55 ?_) (fun g => absurd (by decide) g)
      rw [nI_1]
      refine ih s s9 (rs l hl9 rl) sm sS ?_ _
      by_cases e : s = r
      · subst e
        exact Or.inl (fun i j hi hb haj => sd i j hi hb haj)
      · rcases rc with z | z
        · -- closed already: nothing was added
          exfalso
          apply e
          refine tb_ext (k := 9) (by omega) (by omega) (fun j hj => ⟨fun hs => ?_, rs j hj⟩)
          exact sS (fun x => x < 9 ∧ m.testBit x = true ∧ r.testBit x = true) ⟨hl9, ml, rl⟩ (fun a b ha ma hs hab => by
            obtain ⟨b9, mb, -⟩ := C.aj_dr ha ma hab
            exact ⟨b9, mb, z a b ha hs.2.2 hab⟩) j hj hs |>.2.2
        · right
          have : bc r 9 < bc s 9 := by
            refine bc_lt 9 rs ?_
            refine Classical.byContradiction (fun hn => e ?_)
            refine tb_ext (k := 9) (by omega) (by omega) (fun j hj => ⟨fun hs => ?_, rs j hj⟩)
            exact Classical.byContradiction (fun hr => hn ⟨j, hj, hs, hr⟩)
          omega
    · intro i hi ihi s s9 rs sm sS sd
      refine kb_31_23 (fun g => absurd g (hI_nle (a := 9) (by omega) hi)) (fun _ => kb_31_29 (c_4 (kb_31_34 (fun z => kb_31_49 ?_) (fun z => kb_31_37 (pk_in i 9 hi) ?_))))
      · rw [nI_1]
        refine ihi s s9 rs sm sS (fun a b ha hr hab => ?_)
        by_cases e : a = i
        · subst e
          have := (hs_b0 (by omega) (by omega)).mp z
          rw [rs a hi hr] at this
          exact absurd this (by decide)
        · exact sd a b (by omega) hr hab
      · have sb := (hs_b1 (by omega) (by omega)).mp ((hs_01 _ _).resolve_left z)
        have mi := sm i hi sb
        obtain ⟨p, p9, ep⟩ := C.jm i hi mi
        rw [nI_1, nI_clamp (show i < 2 ^ 31 by omega), ep, or_bit]
        have hp : ∀ j, j < 9 → p.testBit j = true → aj σ i j := fun j hj hb => (aj_bit p9 ep).mpr ⟨hj, hb⟩
        refine ihi (s ||| p) (Nat.or_lt_two_pow (n := 9) s9 p9) (fun j hj hr => ?_) (fun j hj hb => ?_) (fun S sl hcl j hj hb => ?_) (fun a b ha hr hab => ?_)
        · rw [Nat.testBit_or, rs j hj hr]; rfl
        · rw [Nat.testBit_or, Bool.or_eq_true] at hb
          rcases hb with hb | hb
          · exact sm j hj hb
          · exact (C.aj_dr hi mi (hp j hj hb)).2.1
        · rw [Nat.testBit_or, Bool.or_eq_true] at hb
          rcases hb with hb | hb
          · exact sS S sl hcl j hj hb
          · exact hcl i j hi mi (sS S sl hcl i hi sb) (hp j hj hb)
        · rw [Nat.testBit_or, Bool.or_eq_true]
          by_cases e : a = i
          · subst e; exact Or.inr ((aj_bit p9 ep).mp hab).2
          · exact Or.inl (sd a b (by omega) hr hab)
  · exact Nat.pow_lt_pow_right (by decide) hl9
  · exact Nat.testBit_two_pow_self
  · intro i hi hb
    rw [Nat.testBit_two_pow] at hb
    have : l = i := by simpa using hb
    rw [← this]; exact ml
  · intro S sl hcl i hi hb
    rw [Nat.testBit_two_pow] at hb
    have : l = i := by simpa using hb
    rw [← this]; exact sl
  · exact Or.inr (bc_ge 9 hl9 Nat.testBit_two_pow_self)
end
section
/-! class: westmost, northmostFrom -/
/-- HouseDesk$Walks.isFurtherWest -/
def f_37 (σ : mm_S) (x1 x2 : Int32) : Int32 := (if (σ 11 x1.toNatClampNeg) < (σ 11 x2.toNatClampNeg) then (1 : Int32) else (if (σ 11 x1.toNatClampNeg) = (σ 11 x2.toNatClampNeg) then (if (σ 12 x2.toNatClampNeg) ≤ (σ 12 x1.toNatClampNeg) then (0 : Int32) else (1 : Int32)) else (0 : Int32)))
theorem f_37_01 (σ : mm_S) (x1 x2 : Int32) : (f_37 σ x1 x2) = 0 ∨ (f_37 σ x1 x2) = 1 := by
  unfold f_37
  repeat' split
  all_goals first | exact Or.inl rfl | exact Or.inr rfl
theorem c_37 {d : Nat} {Q : mm_Q} {x1 x2 : Int32} {σ : mm_S} (H1 : vp_in x1 9) (H2 : vp_in x2 9) (q : Q (some (.int (f_37 σ x1 x2))) σ) : mD (d + 1) 37 [.ref 5, .int x1, .int x2] σ Q := ke_37 (kb_37_0 H1 H2 (fun g0 => (kb_37_63 (q_pos g0 q))) (fun g0 => (kb_37_21 H1 H2 (fun g1 => (kb_37_42 H1 H2 (fun g2 => (kb_37_67 (q_pos g2 (q_pos g1 (q_neg g0 q))))) (fun g2 => (kb_37_63 (q_neg g2 (q_pos g1 (q_neg g0 q))))))) (fun g1 => (kb_37_67 (q_neg g1 (q_neg g0 q)))))))
/-- HouseDesk$Walks.westmost, from 0 -/
theorem ks_36_0 {d : Nat} {Q : mm_Q} {σ : mm_S} (q0 : mw d mt_36 Q 4 [some (.ref 5), some (.int (-1 : Int32)), some (.int (0 : Int32))] [] σ) : mD (d + 1) 36 [.ref 5] σ Q := ke_36 (kb_36_0 q0)
/-- HouseDesk$Walks.westmost, from 4 -/
theorem ks_36_4 {d : Nat} {Q : mm_Q} {x1 x2 : Int32} {σ : mm_S} (H1 : ¬ ((9 : Int32) ≤ x2) → ¬ ((xd σ x2) = 0) → ¬ (x1 < 0) → vp_in x2 9) (H2 : ¬ ((9 : Int32) ≤ x2) → ¬ ((xd σ x2) = 0) → ¬ (x1 < 0) → vp_in x1 9) (q0 : (9 : Int32) ≤ x2 → Q (some (.int x1)) σ) (q1 : ¬ ((9 : Int32) ≤ x2) → (xd σ x2) = 0 → mw (d + 2) mt_36 Q 4 [some (.ref 5), some (.int x1), some (.int (x2 + 1))] [] σ) (q2 : ¬ ((9 : Int32) ≤ x2) → ¬ ((xd σ x2) = 0) → x1 < 0 → mw (d + 2) mt_36 Q 4 [some (.ref 5), some (.int x2), some (.int (x2 + 1))] [] σ) (q3 : ¬ ((9 : Int32) ≤ x2) → ¬ ((xd σ x2) = 0) → ¬ (x1 < 0) → (f_37 σ x2 x1) = 0 → mw (d + 2) mt_36 Q 4 [some (.ref 5), some (.int x1), some (.int (x2 + 1))] [] σ) (q4 : ¬ ((9 : Int32) ≤ x2) → ¬ ((xd σ x2) = 0) → ¬ (x1 < 0) → ¬ ((f_37 σ x2 x1) = 0) → mw (d + 2) mt_36 Q 4 [some (.ref 5), some (.int x2), some (.int (x2 + 1))] [] σ) : mw (d + 2) mt_36 Q 4 [some (.ref 5), some (.int x1), some (.int x2)] [] σ := (kb_36_4 (fun g0 => (kb_36_42 (q0 g0))) (fun g0 => (kb_36_10 (c_7 (kb_36_18 (fun g1 => (kb_36_36 (q1 g0 g1))) (fun g1 => (kb_36_21 (fun g2 => (kb_36_34 (q2 g0 g1 g2))) (fun g2 => (kb_36_25 (c_37 (H1 g0 g1 g2) (H2 g0 g1 g2) (kb_36_31 (fun g3 => (kb_36_36 (q3 g0 g1 g2 g3))) (fun g3 => (kb_36_34 (q4 g0 g1 g2 g3))))))))))))))
/-- HouseDesk$Walks.northmostFrom, from 0 -/
theorem ks_38_0 {d : Nat} {Q : mm_Q} {x1 : Int32} {σ : mm_S} (q0 : mw d mt_38 Q 4 [some (.ref 5), some (.int x1), some (.int (-1 : Int32)), some (.int (0 : Int32))] [] σ) : mD (d + 1) 38 [.ref 5, .int x1] σ Q := ke_38 (kb_38_0 q0)
/-- HouseDesk$Walks.northmostFrom, from 4 -/
theorem ks_38_4 {d : Nat} {Q : mm_Q} {x1 x2 x3 : Int32} {σ : mm_S} (H1 : ¬ ((9 : Int32) ≤ x3) → vp_in x1 9) (H2 : ¬ ((9 : Int32) ≤ x3) → ¬ ((hs (σ 15 x1.toNatClampNeg) x3) = 0) → ¬ (x2 < 0) → vp_in x3 9) (H3 : ¬ ((9 : Int32) ≤ x3) → ¬ ((hs (σ 15 x1.toNatClampNeg) x3) = 0) → ¬ (x2 < 0) → vp_in x1 9) (H4 : ¬ ((9 : Int32) ≤ x3) → ¬ ((hs (σ 15 x1.toNatClampNeg) x3) = 0) → ¬ (x2 < 0) → vp_in x2 9) (q0 : (9 : Int32) ≤ x3 → Q (some (.int x2)) σ) (q1 : ¬ ((9 : Int32) ≤ x3) → (hs (σ 15 x1.toNatClampNeg) x3) = 0 → mw (d + 2) mt_38 Q 4 [some (.ref 5), some (.int x1), some (.int x2), some (.int (x3 + 1))] [] σ) (q2 : ¬ ((9 : Int32) ≤ x3) → ¬ ((hs (σ 15 x1.toNatClampNeg) x3) = 0) → x2 < 0 → mw (d + 2) mt_38 Q 4 [some (.ref 5), some (.int x1), some (.int x3), some (.int (x3 + 1))] [] σ) (q3 : ¬ ((9 : Int32) ≤ x3) → ¬ ((hs (σ 15 x1.toNatClampNeg) x3) = 0) → ¬ (x2 < 0) → 0 ≤ (f_17 σ x1 x3 x2) → mw (d + 2) mt_38 Q 4 [some (.ref 5), some (.int x1), some (.int x2), some (.int (x3 + 1))] [] σ) (q4 : ¬ ((9 : Int32) ≤ x3) → ¬ ((hs (σ 15 x1.toNatClampNeg) x3) = 0) → ¬ (x2 < 0) → ¬ (0 ≤ (f_17 σ x1 x3 x2)) → mw (d + 2) mt_38 Q 4 [some (.ref 5), some (.int x1), some (.int x3), some (.int (x3 + 1))] [] σ) : mw (d + 2) mt_38 Q 4 [some (.ref 5), some (.int x1), some (.int x2), some (.int x3)] [] σ := (kb_38_4 (fun g0 => (kb_38_47 (q0 g0))) (fun g0 => (kb_38_10 (c_10 (H1 g0) (kb_38_19 (fun g1 => (kb_38_41 (q1 g0 g1))) (fun g1 => (kb_38_22 (fun g2 => (kb_38_39 (q2 g0 g1 g2))) (fun g2 => (kb_38_26 (c_17 (H2 g0 g1 g2) (H3 g0 g1 g2) (H4 g0 g1 g2) (kb_38_36 (fun g3 => (kb_38_41 (q3 g0 g1 g2 g3))) (fun g3 => (kb_38_39 (q4 g0 g1 g2 g3))))))))))))))
/-- room i lies further west than room j, or right below it -/
def fw (σ : mm_S) (i j : Nat) : Prop := pX σ i < pX σ j ∨ (pX σ i = pX σ j ∧ pY σ i < pY σ j)
theorem f_37_iff {σ : mm_S} {i j : Nat} (hi : i < 9) (hj : j < 9) : ¬ f_37 σ (nI i) (nI j) = 0 ↔ fw σ i j := by
  unfold f_37 fw pX pY
  rw [nI_clamp (show i < 2 ^ 31 by omega), nI_clamp (show j < 2 ^ 31 by omega)]
  simp only [Int32.lt_iff_toInt_lt, Int32.le_iff_toInt_le, ← Int32.toInt_inj]
  by_cases h1 : (σ 11 i).toInt < (σ 11 j).toInt <;> by_cases h2 : (σ 11 i).toInt = (σ 11 j).toInt <;> by_cases h3 : (σ 12 j).toInt ≤ (σ 12 i).toInt <;> simp only [h1, h2, h3, if_true, if_false] <;> simp <;> omega
def wms (σ : mm_S) (m n s : Nat) : Prop := s < 9 ∧ s < n ∧ m.testBit s = true ∧ ∀ j, j < n → m.testBit j = true → ¬ fw σ j s
theorem m1_neg : (-1 : Int32) < 0 := by decide
theorem c_36 {d n m : Nat} {Q : mm_Q} {σ : mm_S} (C : CK σ n m) (h0 : 0 < bc m 9) (q : ∀ s, wms σ m 9 s → Q (some (.int (nI s))) σ) : mD (d + 3) 36 [.ref 5] σ Q := by
  refine ks_36_0 ?_
  refine lp_dn (P := fun i => ∀ x, (x = -1 ∧ ∀ j, j < i → ¬ m.testBit j = true) ∨ (∃ s, x = nI s ∧ wms σ m i s) → mw (d + 2) mt_36 Q 4 [some (.ref 5), some (.int x), some (.int (nI i))] [] σ) 9 ?_ ?_ 0 (by omega) (-1) (Or.inl ⟨rfl, fun j hj => absurd hj (Nat.not_lt_zero j)⟩)
  · intro x hx
    refine ks_36_4 (fun g => absurd (by decide) g) (fun g => absurd (by decide) g) (fun _ => ?_) (fun g => absurd (by decide) g) (fun g => absurd (by decide) g) (fun g => absurd (by decide) g) (fun g => absurd (by decide) g)
    rcases hx with ⟨_, h⟩ | ⟨s, e, h⟩
    · obtain ⟨j, hj, hb⟩ := bc_pos 9 h0
      exact absurd hb (h j hj)
    · rw [e]; exact q s h
  · intro i hi ih x hx
    have g9 : ¬ ((9 : Int32) ≤ nI i) := hI_nle (a := 9) (by omega) hi
    have bi : ¬ xd σ (nI i) = 0 → m.testBit i = true := fun z => (C.dr i hi).mp ((xd_01 _ _).resolve_left z)
    have nx : ∀ y, ((y = -1 ∧ ∀ j, j < i + 1 → ¬ m.testBit j = true) ∨ (∃ s, y = nI s ∧ wms σ m (i + 1) s)) → mw (d + 2) mt_36 Q 4 [some (.ref 5), some (.int y), some (.int (nI i + 1))] [] σ := fun y hy => by
      rw [nI_1]; exact ih y hy
    rcases hx with ⟨e, h⟩ | ⟨s, e, s9, si, ms, h⟩
    · subst e
      refine ks_36_4 (fun _ _ z => absurd m1_neg z) (fun _ _ z => absurd m1_neg z) (fun g => absurd g g9) (fun _ a => nx _ (Or.inl ⟨rfl, fun j hj hb => ?_⟩)) (fun _ a _ => nx _ (Or.inr ⟨i, rfl, hi, by omega, bi a, fun j hj hb => ?_⟩)) (fun _ _ z => absurd m1_neg z) (fun _ _ z => absurd m1_neg z)
      · by_cases e : j = i
        · subst e; rw [(C.dr j hi).mpr hb] at a; exact absurd a (by decide)
        · exact h j (by omega) hb
      · by_cases e : j = i
        · subst e; unfold fw; omega
        · exact absurd hb (h j (by omega))
    · subst e
      have sp : ¬ (nI s < 0) := nI_pos (by omega)
      refine ks_36_4 (fun _ _ _ => pk_in i 9 hi) (fun _ _ _ => pk_in s 9 s9) (fun g => absurd g g9) (fun _ a => nx _ (Or.inr ⟨s, rfl, s9, by omega, ms, fun j hj hb => ?_⟩)) (fun _ _ z => absurd z sp) (fun _ a _ b => nx _ (Or.inr ⟨s, rfl, s9, by omega, ms, fun j hj hb => ?_⟩)) (fun _ a _ b => nx _ (Or.inr ⟨i, rfl, hi, by omega, bi a, fun j hj hb => ?_⟩))
      · by_cases e : j = i
        · subst e; rw [(C.dr j hi).mpr hb] at a; exact absurd a (by decide)
        · exact h j (by omega) hb
      · by_cases e : j = i
        · subst e; exact fun z => absurd b ((f_37_iff hi s9).mpr z)
        · exact h j (by omega) hb
      · have hf := (f_37_iff hi s9).mp b
        by_cases e : j = i
        · subst e; unfold fw; omega
        · have := h j (by omega) hb
          unfold fw at *
          omega
/-- the joins of the westmost room: the first, clockwise from the south -/
def nms (σ : mm_S) (s n t : Nat) : Prop := aj σ s t ∧ t < n ∧ ∀ j, j < n → aj σ s j → j ≠ t → gcr (vc σ s t) (vc σ s j) < 0
def sou : V2 := (0, -1)
theorem sou_pos : 0 < gdt sou sou := by decide
theorem wm_half {σ : mm_S} {n m s j : Nat} (C : CK σ n m) (W : wms σ m 9 s) (hj : aj σ s j) : ¬ gcr sou (vc σ s j) < 0 ∧ ¬ gsd sou (vc σ s j) := by
  obtain ⟨j9, mj, hne⟩ := C.aj_dr W.1 W.2.2.1 hj
  have h := W.2.2.2 j j9 mj
  have hd : ¬ (pX σ j = pX σ s ∧ pY σ j = pY σ s) := fun z => hne (C.ds j s j9 W.1 mj W.2.2.1 z.1 z.2)
  unfold fw at h
  unfold gsd gcr gdt sou vc
  simp only
  constructor
  · omega
  · rintro ⟨a, b⟩
    omega
theorem c_38 {d n m s : Nat} {Q : mm_Q} {σ : mm_S} (C : CK σ n m) (N : NC σ n) (W : wms σ m 9 s) (ha : ∃ j, aj σ s j) (q : ∀ t, nms σ s 9 t → Q (some (.int (nI t))) σ) : mD (d + 3) 38 [.ref 5, .int (nI s)] σ Q := by
  have s9 := W.1
  have ms := W.2.2.1
  have cs : (nI s).toNatClampNeg = s := nI_clamp (by omega)
  have hd := C.gdd N s9 ms
  have gs : s < 9 ∧ cG σ s := ⟨s9, C.xy s s9 ms⟩
  have gj : ∀ j, aj σ s j → j < 9 ∧ cG σ j := fun j hj => ⟨(C.aj_dr s9 ms hj).1, C.xy j (C.aj_dr s9 ms hj).1 (C.aj_dr s9 ms hj).2.1⟩
  have tot : ∀ j k, aj σ s j → aj σ s k → j ≠ k → ¬ gcr (vc σ s j) (vc σ s k) < 0 → gcr (vc σ s k) (vc σ s j) < 0 := fun j k hj hk hne hn => by
    have wj := wm_half C W hj
    have wk := wm_half C W hk
    rcases gtot sou_pos (hd.1 j hj) (hd.1 k hk) wj.2 wk.2 (hd.2 j k hj hk hne) with z | z
    · rcases z with z | z
      · exact absurd z.1 wj.1
      · exact absurd z.2 hn
    · rcases z with z | z
      · exact absurd z.1 wk.1
      · exact z.2
  refine ks_38_0 ?_
  refine lp_dn (P := fun i => ∀ x, (x = -1 ∧ ∀ j, j < i → ¬ aj σ s j) ∨ (∃ t, x = nI t ∧ nms σ s i t) → mw (d + 2) mt_38 Q 4 [some (.ref 5), some (.int (nI s)), some (.int x), some (.int (nI i))] [] σ) 9 ?_ ?_ 0 (by omega) (-1) (Or.inl ⟨rfl, fun j hj => absurd hj (Nat.not_lt_zero j)⟩)
  · intro x hx
    refine ks_38_4 (fun g => absurd (by decide) g) (fun g => absurd (by decide) g) (fun g => absurd (by decide) g) (fun g => absurd (by decide) g) (fun _ => ?_) (fun g => absurd (by decide) g) (fun g => absurd (by decide) g) (fun g => absurd (by decide) g) (fun g => absurd (by decide) g)
    rcases hx with ⟨_, h⟩ | ⟨t, e, h⟩
    · obtain ⟨j, hj⟩ := ha
      exact absurd hj (h j hj.1)
    · rw [e]; exact q t h
  · intro i hi ih x hx
    have g9 : ¬ ((9 : Int32) ≤ nI i) := hI_nle (a := 9) (by omega) hi
    have ai : ¬ hs (σ 15 (nI s).toNatClampNeg) (nI i) = 0 → aj σ s i := fun z => ⟨hi, by rw [cs] at z; exact (hs_01 _ _).resolve_left z⟩
    have ni : hs (σ 15 (nI s).toNatClampNeg) (nI i) = 0 → ¬ aj σ s i := fun z w => by rw [cs, w.2] at z; exact absurd z (by decide)
    have nx : ∀ y, ((y = -1 ∧ ∀ j, j < i + 1 → ¬ aj σ s j) ∨ (∃ t, y = nI t ∧ nms σ s (i + 1) t)) → mw (d + 2) mt_38 Q 4 [some (.ref 5), some (.int (nI s)), some (.int y), some (.int (nI i + 1))] [] σ := fun y hy => by
      rw [nI_1]; exact ih y hy
    rcases hx with ⟨e, h⟩ | ⟨t, e, at_, ti, h⟩
    · subst e
      refine ks_38_4 (fun _ => pk_in s 9 s9) (fun _ _ z => absurd m1_neg z) (fun _ _ z => absurd m1_neg z) (fun _ _ z => absurd m1_neg z) (fun g => absurd g g9) (fun _ a => nx _ (Or.inl ⟨rfl, fun j hj hb => ?_⟩)) (fun _ a _ => nx _ (Or.inr ⟨i, rfl, ai a, by omega, fun j hj hb hne => ?_⟩)) (fun _ _ z => absurd m1_neg z) (fun _ _ z => absurd m1_neg z)
      · by_cases e : j = i
        · subst e; exact ni a hb
        · exact h j (by omega) hb
      · exact absurd hb (h j (by omega))
    · subst e
      have t9 := (gj t at_).1
      have sp : ¬ (nI t < 0) := nI_pos (by omega)
      have tn : aj σ s i → (f_17 σ (nI s) (nI i) (nI t)).toInt = gcr (vc σ s i) (vc σ s t) := fun z => f_17_toInt gs (gj i z) (gj t at_)
      refine ks_38_4 (fun _ => pk_in s 9 s9) (fun _ _ _ => pk_in i 9 hi) (fun _ _ _ => pk_in s 9 s9) (fun _ _ _ => pk_in t 9 t9) (fun g => absurd g g9) (fun _ a => nx _ (Or.inr ⟨t, rfl, at_, by omega, fun j hj hb hne => ?_⟩)) (fun _ _ z => absurd z sp) (fun _ a _ b => nx _ (Or.inr ⟨t, rfl, at_, by omega, fun j hj hb hne => ?_⟩)) (fun _ a _ b => nx _ (Or.inr ⟨i, rfl, ai a, by omega, fun j hj hb hne => ?_⟩))
      · by_cases e : j = i
        · subst e; exact absurd hb (ni a)
        · exact h j (by omega) hb hne
      · by_cases e : j = i
        · subst e
          rw [ge0, tn hb] at b
          exact tot j t hb at_ hne b
        · exact h j (by omega) hb hne
      · rw [ge0, tn (ai a)] at b
        have b' : gcr (vc σ s i) (vc σ s t) < 0 := by omega
        by_cases e : j = t
        · subst e; exact b'
        · have h2 := h j (by omega) hb e
          have wi := wm_half C W (ai a)
          have wt := wm_half C W at_
          have wj := wm_half C W hb
          rcases gtrans sou_pos (hd.1 i (ai a)) (hd.1 j hb) wi.2 wt.2 wj.2 (hd.2 i j (ai a) hb (fun z => hne z.symm)) (Or.inr ⟨by simp [wi.1, wt.1], b'⟩) (Or.inr ⟨by simp [wt.1, wj.1], h2⟩) with z | z
          · exact absurd z.1 wi.1
          · exact z.2
end
section
/-! class: goAround -/
def BH (σ τ : mm_S) (m : Nat) : Prop := ∀ a b, a < 9 → m.testBit a = true → aj σ a b → DD σ τ a b
def Bf (τ : mm_S) (a b : Nat) : Nat := (τ (21 + 1 + a) b).toNatClampNeg
theorem BH_sp {σ τ : mm_S} {m a b : Nat} (H : BH σ τ m) (ha : a < 9) (ma : m.testBit a = true) (hab : aj σ a b) : τ (21 + 1 + a) b = nI (Bf τ a b) ∧ nxt (aj σ a) (vc σ a) b (Bf τ a b) := by
  obtain ⟨g, h1, h2⟩ := H a b ha ma hab
  have g9 := h2.2.1.1
  have : Bf τ a b = g := by unfold Bf; rw [h1]; exact nI_clamp (by omega)
  rw [this]
  exact ⟨h1, h2⟩
/-- a walk along darts: from, to -/
def dwf (B : Nat → Nat → Nat) (s t : Nat) : Nat → Nat × Nat
  | 0 => (s, t)
  | k + 1 => ((dwf B s t k).2, B (dwf B s t k).2 (dwf B s t k).1)
def wo (B : Nat → Nat → Nat) (s t k : Nat) : Nat := (dwf B s t k).1
theorem wo_0 {B : Nat → Nat → Nat} {s t : Nat} : wo B s t 0 = s := rfl
theorem wo_1 {B : Nat → Nat → Nat} {s t : Nat} : wo B s t 1 = t := rfl
theorem wo_2 {B : Nat → Nat → Nat} {s t k : Nat} : wo B s t (k + 2) = B (wo B s t (k + 1)) (wo B s t k) := rfl
theorem wo_aj {σ τ : mm_S} {n m s t : Nat} (C : CK σ n m) (H : BH σ τ m) (s9 : s < 9) (ms : m.testBit s = true) (hst : aj σ s t) : ∀ k, wo (Bf τ) s t k < 9 ∧ m.testBit (wo (Bf τ) s t k) = true ∧ aj σ (wo (Bf τ) s t k) (wo (Bf τ) s t (k + 1))
  | 0 => ⟨s9, ms, hst⟩
  | k + 1 => by
    obtain ⟨h1, h2, h3⟩ := wo_aj C H s9 ms hst k
    obtain ⟨b1, b2, b3⟩ := C.aj_dr h1 h2 h3
    refine ⟨b1, b2, ?_⟩
    rw [wo_2]
    exact (BH_sp H b1 b2 (C.aj_sym h1 h2 h3)).2.2.1
theorem bc_add {m i : Nat} (hm : ¬ m.testBit i = true) : ∀ n, bc (m ||| 2 ^ i) n = bc m n + if i < n then 1 else 0
  | 0 => rfl
  | n + 1 => by
    have ih := bc_add hm n
    unfold bc
    rw [ih, Nat.testBit_or, Nat.testBit_two_pow]
    by_cases e : i = n
    · subst e
      rw [if_neg hm, if_neg (Nat.lt_irrefl i), if_pos (Nat.lt_succ_self i)]
      simp
    · have hi : (i < n + 1) ↔ (i < n) := by omega
      by_cases c : m.testBit n = true
      · simp only [c, Bool.true_or, if_true, hi]
        split <;> omega
      · have c' : m.testBit n = false := by simpa using c
        simp only [c', e, decide_false, Bool.or_self, hi]
        split <;> simp
theorem bc_full {m : Nat} : ∀ n, bc m n = n → ∀ j, j < n → m.testBit j = true
  | 0, _, j, hj => absurd hj (Nat.not_lt_zero j)
  | n + 1, h, j, hj => by
    have l := bc_n m n
    unfold bc at h
    by_cases c : m.testBit n = true
    · rw [if_pos c] at h
      by_cases e : j = n
      · rw [e]; exact c
      · exact bc_full n (by omega) j (by omega)
    · rw [if_neg c] at h; omega
/-- the outline as it stands behind goAround: length, rooms, places -/
def OL (τ : mm_S) (s t L : Nat) : Prop := 1 ≤ L ∧ L ≤ 9 ∧ τ 5 3 = nI L ∧ wo (Bf τ) s t L = s ∧ wo (Bf τ) s t (L + 1) = t ∧ (∀ i j, i < j → j < L → wo (Bf τ) s t i ≠ wo (Bf τ) s t j) ∧ (∀ j, j < L → τ 31 j = nI (wo (Bf τ) s t j) ∧ τ 32 (wo (Bf τ) s t j) = nI j) ∧ (∀ i, i < 9 → (∀ j, j < L → wo (Bf τ) s t j ≠ i) → τ 32 i = -1)
/-- the walk comes to a room twice -/
def NS (τ : mm_S) (s t : Nat) : Prop := ∃ k, k ≤ 9 ∧ (∀ i j, i < j → j < k → wo (Bf τ) s t i ≠ wo (Bf τ) s t j) ∧ (∃ j, j < k ∧ wo (Bf τ) s t j = wo (Bf τ) s t k) ∧ ¬ (wo (Bf τ) s t k = s ∧ wo (Bf τ) s t (k + 1) = t)
def fr32 (σ τ : mm_S) : Prop := (∀ k, k ≠ 5 → (k < 22 ∨ 32 < k) → τ k = σ k) ∧ ∀ j, j ≠ 3 → τ 5 j = σ 5 j
theorem Bf_cg {σ τ : mm_S} (h : ∀ k, 22 ≤ k → k ≤ 30 → τ k = σ k) : ∀ a b, a < 9 → Bf τ a b = Bf σ a b := fun a b ha => by unfold Bf; rw [h (21 + 1 + a) (by omega) (by omega)]
theorem wo_cg {B B' : Nat → Nat → Nat} {s t : Nat} (h : ∀ k, B (wo B' s t (k + 1)) (wo B' s t k) = B' (wo B' s t (k + 1)) (wo B' s t k)) : ∀ k, dwf B s t k = dwf B' s t k
  | 0 => rfl
  | k + 1 => by
    have ih := wo_cg h k
    show ((dwf B s t k).2, B (dwf B s t k).2 (dwf B s t k).1) = ((dwf B' s t k).2, B' (dwf B' s t k).2 (dwf B' s t k).1)
    rw [ih]
    exact congrArg _ (h k)
theorem DD_cg {σ τ τ' : mm_S} {a b : Nat} (h : τ' (21 + 1 + a) = τ (21 + 1 + a)) (hd : DD σ τ a b) : DD σ τ' a b := by
  obtain ⟨g, h1, h2⟩ := hd
  exact ⟨g, by rw [h]; exact h1, h2⟩
end
section
/-! class: goAround, its contract -/
/-- HouseDesk$Walks.goAround, from 49 -/
theorem ks_32_49 {d : Nat} {Q : mm_Q} {x1 x2 x3 x4 x5 : Int32} {o6 : Option Value} {σ : mm_S} (H1 : ¬ ((9 : Int32) < x5) → vp_in x3 9) (H2 : ¬ ((9 : Int32) < x5) → (σ 32 x3.toNatClampNeg) < 0 → vp_in x3 9) (H3 : ¬ ((9 : Int32) < x5) → (σ 32 x3.toNatClampNeg) < 0 → vp_in (σ 5 3) 9) (H4 : ¬ ((9 : Int32) < x5) → (σ 32 x3.toNatClampNeg) < 0 → vp_in x4 9) (H5 : ¬ ((9 : Int32) < x5) → (σ 32 x3.toNatClampNeg) < 0 → vp_in x3 13) (q0 : (9 : Int32) < x5 → Q (some (.int (0 : Int32))) σ) (q1 : ¬ ((9 : Int32) < x5) → (σ 32 x3.toNatClampNeg) < 0 → mw d mt_32 Q 49 [some (.ref 5), some (.int x1), some (.int x2), some (.int x4), some (.int ((mm_up (mm_up (mm_up σ 32 x3.toNatClampNeg (σ 5 3)) 31 (σ 5 3).toNatClampNeg x3) 5 3 ((σ 5 3) + (1 : Int32))) (21 + 1 + x4.toNatClampNeg) x3.toNatClampNeg)), some (.int (x5 + 1)), some (.int ((mm_up (mm_up (mm_up σ 32 x3.toNatClampNeg (σ 5 3)) 31 (σ 5 3).toNatClampNeg x3) 5 3 ((σ 5 3) + (1 : Int32))) (21 + 1 + x4.toNatClampNeg) x3.toNatClampNeg))] [] (mm_up (mm_up (mm_up σ 32 x3.toNatClampNeg (σ 5 3)) 31 (σ 5 3).toNatClampNeg x3) 5 3 ((σ 5 3) + (1 : Int32)))) (q2 : ¬ ((9 : Int32) < x5) → ¬ ((σ 32 x3.toNatClampNeg) < 0) → x3 = x1 → x4 = x2 → Q (some (.int (1 : Int32))) σ) (q3 : ¬ ((9 : Int32) < x5) → ¬ ((σ 32 x3.toNatClampNeg) < 0) → x3 = x1 → ¬ (x4 = x2) → Q (some (.int (0 : Int32))) σ) (q4 : ¬ ((9 : Int32) < x5) → ¬ ((σ 32 x3.toNatClampNeg) < 0) → ¬ (x3 = x1) → Q (some (.int (0 : Int32))) σ) : mw d mt_32 Q 49 [some (.ref 5), some (.int x1), some (.int x2), some (.int x3), some (.int x4), some (.int x5), o6] [] σ := (kb_32_49 (fun g0 => (kb_32_136 (q0 g0))) (fun g0 => (kb_32_56 (H1 g0) (fun g1 => (kb_32_82 (H2 g0 g1) (H3 g0 g1) (H4 g0 g1) (H5 g0 g1) (q1 g0 g1))) (fun g1 => (kb_32_65 (fun g2 => (kb_32_70 (fun g3 => (kb_32_76 (q2 g0 g1 g2 g3))) (fun g3 => (kb_32_80 (q3 g0 g1 g2 g3))))) (fun g2 => (kb_32_80 (q4 g0 g1 g2))))))))
theorem xd_cg {σ ρ : mm_S} (h : ρ 1 = σ 1) : xd ρ = xd σ := by
  funext i
  unfold xd
  rw [h]
theorem pX_cg {σ ρ : mm_S} (h : ρ 11 = σ 11) : pX ρ = pX σ := by
  funext i
  unfold pX
  rw [h]
theorem pY_cg {σ ρ : mm_S} (h : ρ 12 = σ 12) : pY ρ = pY σ := by
  funext i
  unfold pY
  rw [h]
theorem CK_cg {σ ρ : mm_S} {n m : Nat} (h1 : ρ 1 = σ 1) (h11 : ρ 11 = σ 11) (h12 : ρ 12 = σ 12) (h15 : ρ 15 = σ 15) (h16 : ρ 16 = σ 16) (h17 : ρ 17 = σ 17) (C : CK σ n m) : CK ρ n m := by
  unfold CK at *
  rw [h1, h15, h16, h17, xd_cg h1, pX_cg h11, pY_cg h12, cG_cg h11 h12, aj_cg h15]
  exact C
theorem f_17_cg {σ ρ : mm_S} (h11 : ρ 11 = σ 11) (h12 : ρ 12 = σ 12) : f_17 ρ = f_17 σ := by
  funext a b c
  unfold f_17
  rw [h11, h12]
theorem f_27_cg {σ ρ : mm_S} (h11 : ρ 11 = σ 11) (h12 : ρ 12 = σ 12) (h16 : ρ 16 = σ 16) (h17 : ρ 17 = σ 17) : f_27 ρ = f_27 σ := by
  funext a b
  unfold f_27 f_11
  rw [f_17_cg h11 h12, h11, h12, h16, h17]
theorem f_29_cg {σ ρ : mm_S} (h11 : ρ 11 = σ 11) (h12 : ρ 12 = σ 12) (h16 : ρ 16 = σ 16) (h17 : ρ 17 = σ 17) : f_29 ρ = f_29 σ := by
  funext a b
  unfold f_29 f_30
  rw [f_17_cg h11 h12, h16, h17]
theorem NC_cg {σ ρ : mm_S} {n : Nat} (h11 : ρ 11 = σ 11) (h12 : ρ 12 = σ 12) (h16 : ρ 16 = σ 16) (h17 : ρ 17 = σ 17) (N : NC σ n) : NC ρ n := by
  unfold NC cxx f_26 at *
  rw [f_27_cg h11 h12 h16 h17, f_29_cg h11 h12 h16 h17, h16, h17]
  exact N
theorem fw_cg {σ ρ : mm_S} (h11 : ρ 11 = σ 11) (h12 : ρ 12 = σ 12) : fw ρ = fw σ := by
  funext i j
  unfold fw
  rw [pX_cg h11, pY_cg h12]
theorem wms_cg {σ ρ : mm_S} (h11 : ρ 11 = σ 11) (h12 : ρ 12 = σ 12) : wms ρ = wms σ := by
  funext m n s
  unfold wms
  rw [fw_cg h11 h12]
theorem nms_cg {σ ρ : mm_S} (h11 : ρ 11 = σ 11) (h12 : ρ 12 = σ 12) (h15 : ρ 15 = σ 15) : nms ρ = nms σ := by
  funext s n t
  unfold nms
  rw [aj_cg h15, vc_cg h11 h12]
theorem c_32 {d n m : Nat} {Q : mm_Q} {σ : mm_S} (C : CK σ n m) (N : NC σ n) (h0 : 0 < bc m 9) (ha : ∀ i, i < 9 → m.testBit i = true → ∃ j, aj σ i j)
    (q1 : ∀ τ s t L, fr32 σ τ → BH σ τ m → wms σ m 9 s → nms σ s 9 t → OL τ s t L → Q (some (.int 1)) τ)
    (q0 : ∀ τ s t, fr32 σ τ → BH σ τ m → wms σ m 9 s → nms σ s 9 t → NS τ s t → Q (some (.int 0)) τ) : mD (d + 5) 32 [.ref 5] σ Q := by
  refine ke_32 (kb_32_0 (c_33 C N (fun τ0 hf0 hB0 => kb_32_4 ?_)))
  refine lp_dn (P := fun i => ∀ τ : mm_S, (∀ k, k ≠ 32 → τ k = τ0 k) → (∀ j, j < i → τ 32 j = -1) → mw (d + 4) mt_32 Q 6 [some (.ref 5), some (.int (nI i)), none, none, none, none, none] [] τ) 9 ?_ ?_ 0 (by omega) τ0 (fun _ _ => rfl) (fun j hj => absurd hj (Nat.not_lt_zero j))
  · intro τ hτ hm1
    refine kb_32_6 (fun _ => kb_32_25 ?_) (fun g => absurd (by decide) g)
    have fr : ∀ k, k ≠ 5 → k ≠ 32 → (k < 22 ∨ 30 < k) → (mm_up τ 5 3 0) k = σ k := fun k k1 k2 k3 => by rw [mm_up_n k1, hτ k k2]; exact hf0 k k3
    have r1 := fr 1 (by omega) (by omega) (by omega)
    have r11 := fr 11 (by omega) (by omega) (by omega)
    have r12 := fr 12 (by omega) (by omega) (by omega)
    have r15 := fr 15 (by omega) (by omega) (by omega)
    have r16 := fr 16 (by omega) (by omega) (by omega)
    have r17 := fr 17 (by omega) (by omega) (by omega)
    have C' := CK_cg r1 r11 r12 r15 r16 r17 C
    have N' := NC_cg (n := n) r11 r12 r16 r17 N
    refine c_36 C' h0 (fun s W' => kb_32_34 (c_38 C' N' W' ?_ (fun t T' => kb_32_40 ?_)))
    · rw [aj_cg r15]
      rw [wms_cg r11 r12] at W'
      exact ha s W'.1 W'.2.2.1
    · have W : wms σ m 9 s := by rw [wms_cg r11 r12] at W'; exact W'
      have T : nms σ s 9 t := by rw [nms_cg r11 r12 r15] at T'; exact T'
      have hB : BH σ (mm_up τ 5 3 0) m := fun a b h1 h2 h3 => DD_cg (by rw [mm_up_n (by omega), hτ _ (by omega)]) (hB0 a b h1 h2 h3)
      have hm1' : ∀ j, j < 9 → (mm_up τ 5 3 0) 32 j = -1 := fun j hj => by rw [mm_up_n (by decide)]; exact hm1 j hj
      have h5 : ∀ j, j ≠ 3 → (mm_up τ 5 3 0) 5 j = σ 5 j := fun j hj => by rw [mm_up_o hj, hτ 5 (by decide), hf0 5 (by omega)]
      have h53 : (mm_up τ 5 3 0) 5 3 = nI 0 := mm_up_s
      clear hm1
      generalize mm_up τ 5 3 0 = ρ at *
      have AJ := wo_aj C hB W.1 W.2.2.1 T.1
      have key := lp_dn (P := fun k => ∀ (τ : mm_S) (v : Nat), (∀ c, c ≠ 5 → c ≠ 31 → c ≠ 32 → τ c = ρ c) → (∀ j, j ≠ 3 → τ 5 j = ρ 5 j) → τ 5 3 = nI k → v < 512 → bc v 9 = k → (∀ i j, i < j → j < k → wo (Bf ρ) s t i ≠ wo (Bf ρ) s t j) → (∀ j, j < k → τ 31 j = nI (wo (Bf ρ) s t j) ∧ τ 32 (wo (Bf ρ) s t j) = nI j) → (∀ i, i < 9 → (v.testBit i = true ↔ ∃ j, j < k ∧ wo (Bf ρ) s t j = i)) → (∀ i, i < 9 → (∀ j, j < k → wo (Bf ρ) s t j ≠ i) → τ 32 i = -1) → ∀ o6, mw (d + 4) mt_32 Q 49 [some (.ref 5), some (.int (nI s)), some (.int (nI t)), some (.int (nI (wo (Bf ρ) s t k))), some (.int (nI (wo (Bf ρ) s t (k + 1)))), some (.int (nI k)), o6] [] τ) 10 ?_ ?_ 0 (by omega)
      · exact key ρ 0 (fun _ _ _ _ => rfl) (fun _ _ => rfl) h53 (by decide) (by decide) (fun i j _ hj => absurd hj (Nat.not_lt_zero j)) (fun j hj => absurd hj (Nat.not_lt_zero j)) (fun i _ => ⟨fun z => absurd z (by simp), fun z => absurd z.choose_spec.1 (Nat.not_lt_zero _)⟩) (fun i hi _ => hm1' i hi) none
      · intro τ v _ _ _ _ hv _ _ _ _ _
        have := bc_n v 9
        omega
      · intro k hk ih τ v f1 f2 f3 v9 hv dis arr vb non o6
        obtain ⟨a1, a2, a3⟩ := AJ k
        obtain ⟨b1, b2, b3⟩ := AJ (k + 1)
        have ck : (nI (wo (Bf ρ) s t k)).toNatClampNeg = wo (Bf ρ) s t k := nI_clamp (by omega)
        have ck1 : (nI (wo (Bf ρ) s t (k + 1))).toNatClampNeg = wo (Bf ρ) s t (k + 1) := nI_clamp (by omega)
        have hBf : ∀ a b, a < 9 → Bf τ a b = Bf ρ a b := Bf_cg (fun c h1 h2 => f1 c (by omega) (by omega) (by omega))
        have hwo : ∀ j, wo (Bf τ) s t j = wo (Bf ρ) s t j := fun j => congrArg Prod.fst (wo_cg (fun i => hBf _ _ (AJ (i + 1)).1) j)
        have hfr : fr32 σ τ := ⟨fun c h1 h2 => by rw [f1 c h1 (by omega) (by omega)]; exact fr c h1 (by omega) (by omega), fun j hj => by rw [f2 j hj]; exact h5 j hj⟩
        have hBH : BH σ τ m := fun a b h1 h2 h3 => DD_cg (f1 _ (by omega) (by omega) (by omega)) (hB a b h1 h2 h3)
        have st : ∀ x : Nat, x < 9 → ∀ y : Nat, y < 9 → nI x = nI y → x = y := fun x hx y hy h => nI9 hx hy h
        have twice : ¬ τ 32 (nI (wo (Bf ρ) s t k)).toNatClampNeg < 0 → ∃ j, j < k ∧ wo (Bf ρ) s t j = wo (Bf ρ) s t k := fun z => by
          refine Classical.byContradiction (fun hn => z ?_)
          rw [ck, non _ a1 (fun j hj e => hn ⟨j, hj, e⟩)]
          decide
        have fresh : τ 32 (nI (wo (Bf ρ) s t k)).toNatClampNeg < 0 → ∀ j, j < k → wo (Bf ρ) s t j ≠ wo (Bf ρ) s t k := fun z j hj e => by
          rw [ck, ← e, (arr j hj).2] at z
          exact absurd z (nI_pos (by omega))
        have k9 : τ 32 (nI (wo (Bf ρ) s t k)).toNatClampNeg < 0 → k < 9 := fun z => by
          rcases Nat.lt_or_ge k 9 with y | y
          · exact y
          · have e9 : k = 9 := by omega
            obtain ⟨j, hj, e⟩ := (vb _ a1).mp (bc_full 9 (by omega) _ a1)
            exact absurd e (fresh z j hj)
        have ns : ¬ τ 32 (nI (wo (Bf ρ) s t k)).toNatClampNeg < 0 → ¬ (wo (Bf ρ) s t k = s ∧ wo (Bf ρ) s t (k + 1) = t) → NS τ s t := fun z hne => by
          refine ⟨k, by omega, fun i j h1 h2 => ?_, ?_, ?_⟩
          · rw [hwo, hwo]; exact dis i j h1 h2
          · obtain ⟨j, hj, e⟩ := twice z
            exact ⟨j, hj, by rw [hwo, hwo]; exact e⟩
          · rw [hwo, hwo]; exact hne
        have t9 : t < 9 := T.1.1
        refine ks_32_49 (fun _ => pk_in _ 9 a1) (fun _ _ => pk_in _ 9 a1) (fun _ z => ?_) (fun _ _ => pk_in _ 9 b1) (fun _ _ => pk_in (wo (Bf ρ) s t k) 13 (by omega)) (fun g => absurd g ?_) (fun _ z => ?_) (fun _ z e1 e2 => q1 τ s t k hfr hBH W T ?_) (fun _ z e1 e2 => q0 τ s t hfr hBH W T (ns z (fun w => e2 (by rw [w.2])))) (fun _ z e1 => q0 τ s t hfr hBH W T (ns z (fun w => e1 (by rw [w.1]))))
        · rw [f3]; exact pk_in k 9 (k9 z)
        · exact nI_nlt (a := 9) (b := k) (by omega) (by omega)
        · have kk := k9 z
          have fr' := fresh z
          rw [f3, ck, ck1, nI_clamp (show k < 2 ^ 31 by omega), nI_1]
          have rd : (mm_up (mm_up (mm_up τ 32 (wo (Bf ρ) s t k) (nI k)) 31 k (nI (wo (Bf ρ) s t k))) 5 3 (nI (k + 1))) (21 + 1 + wo (Bf ρ) s t (k + 1)) (wo (Bf ρ) s t k) = nI (wo (Bf ρ) s t (k + 2)) := by
            rw [mm_up_n (by omega), mm_up_n (by omega), mm_up_n (by omega), f1 _ (by omega) (by omega) (by omega), wo_2]
            exact (BH_sp hB b1 b2 (C.aj_sym a1 a2 a3)).1
          rw [rd]
          refine ih _ (v ||| 2 ^ wo (Bf ρ) s t k) (fun c h1 h2 h3 => ?_) (fun j hj => ?_) mm_up_s ?_ ?_ (fun i j h1 h2 => ?_) (fun j hj => ?_) (fun i hi => ?_) (fun i hi hn => ?_) _
          · rw [mm_up_n h1, mm_up_n h2, mm_up_n h3]; exact f1 c h1 h2 h3
          · rw [mm_up_o hj, mm_up_n (by decide), mm_up_n (by decide)]; exact f2 j hj
          · exact Nat.or_lt_two_pow (n := 9) v9 (Nat.pow_lt_pow_right (by decide) a1)
          · rw [bc_add (fun y => by
              obtain ⟨j, hj, e⟩ := (vb _ a1).mp y
              exact fr' j hj e), if_pos a1, hv]
          · by_cases e : j = k
            · subst e; exact fr' i h1
            · exact dis i j h1 (by omega)
          · rw [mm_up_n (by decide), mm_up_n (show (32 : Nat) ≠ 5 by decide), mm_up_n (show (32 : Nat) ≠ 31 by decide)]
            by_cases e : j = k
            · subst e; exact ⟨mm_up_s, mm_up_s⟩
            · obtain ⟨p, r⟩ := arr j (by omega)
              refine ⟨?_, ?_⟩
              · rw [mm_up_o e, mm_up_n (by decide)]; exact p
              · rw [mm_up_o (fr' j (by omega))]; exact r
          · rw [Nat.testBit_or, Nat.testBit_two_pow, Bool.or_eq_true, vb i hi]
            constructor
            · rintro (⟨j, hj, e⟩ | e)
              · exact ⟨j, by omega, e⟩
              · exact ⟨k, by omega, by simpa using e⟩
            · rintro ⟨j, hj, e⟩
              by_cases ek : j = k
              · subst ek; exact Or.inr (by simpa using e)
              · exact Or.inl ⟨j, by omega, e⟩
          · rw [mm_up_n (by decide), mm_up_n (by decide), mm_up_o (fun y => hn k (by omega) y.symm)]
            exact non i hi (fun j hj => hn j (by omega))
        · have e1' := st _ a1 _ W.1 e1
          have e2' := st _ b1 _ t9 e2
          have k1 : 1 ≤ k := by obtain ⟨j, hj, _⟩ := twice z; omega
          refine ⟨k1, by omega, f3, by rw [hwo]; exact e1', by rw [hwo]; exact e2', fun i j h1 h2 => by rw [hwo, hwo]; exact dis i j h1 h2, fun j hj => by rw [hwo]; exact arr j hj, fun i hi hn => non i hi (fun j hj => by rw [← hwo]; exact hn j hj)⟩
  · intro i hi ih τ hτ hm1
    refine kb_32_6 (fun g => absurd g (hI_nle (a := 9) (by omega) hi)) (fun _ => kb_32_12 (pk_in i 9 hi) ?_)
    rw [nI_1, nI_clamp (show i < 2 ^ 31 by omega)]
    refine ih _ (fun k hk => by rw [mm_up_n hk]; exact hτ k hk) (fun j hj => ?_)
    by_cases e : j = i
    · subst e; exact mm_up_s
    · rw [mm_up_o e]; exact hm1 j (by omega)
end
section
/-! darts, walks around faces -/
def it (f : Nat × Nat → Nat × Nat) (x : Nat × Nat) : Nat → Nat × Nat
  | 0 => x
  | k + 1 => f (it f x k)
theorem it_D {D : Nat × Nat → Prop} {f : Nat × Nat → Nat × Nat} (hD : ∀ x, D x → D (f x)) {x : Nat × Nat} (hx : D x) : ∀ k, D (it f x k)
  | 0 => hx
  | k + 1 => hD _ (it_D hD hx k)
/-- a walk whose darts differ comes back to its first -/
theorem it_back {D : Nat × Nat → Prop} {f : Nat × Nat → Nat × Nat} (hD : ∀ x, D x → D (f x)) (inj : ∀ x y, D x → D y → f x = f y → x = y) {x : Nat × Nat} (hx : D x) {k j : Nat} (hj : j < k) (h : it f x k = it f x j) (dis : ∀ a b, a < b → b < k → it f x a ≠ it f x b) : j = 0 := by
  rcases Nat.eq_zero_or_pos j with z | z
  · exact z
  · exfalso
    obtain ⟨k', rfl⟩ : ∃ k', k = k' + 1 := ⟨k - 1, by omega⟩
    obtain ⟨j', rfl⟩ : ∃ j', j = j' + 1 := ⟨j - 1, by omega⟩
    have := inj _ _ (it_D hD hx k') (it_D hD hx j') h
    exact dis j' k' (by omega) (by omega) this.symm
theorem it_add {f : Nat × Nat → Nat × Nat} {x : Nat × Nat} (a : Nat) : ∀ b, it f x (a + b) = it f (it f x a) b
  | 0 => rfl
  | b + 1 => congrArg f (it_add a b)
def ph (B : Nat → Nat → Nat) (x : Nat × Nat) : Nat × Nat := (x.2, B x.2 x.1)
def Dt (σ : mm_S) (m : Nat) (x : Nat × Nat) : Prop := x.1 < 9 ∧ m.testBit x.1 = true ∧ aj σ x.1 x.2
def Fw (τ : mm_S) (x : Nat × Nat) : Int32 := τ (33 + 1 + x.1) x.2
theorem Dt_2 {σ : mm_S} {n m : Nat} {x : Nat × Nat} (C : CK σ n m) (h : Dt σ m x) : x.2 < 9 ∧ m.testBit x.2 = true ∧ aj σ x.2 x.1 := by
  obtain ⟨h1, h2, h3⟩ := h
  obtain ⟨b1, b2, -⟩ := C.aj_dr h1 h2 h3
  exact ⟨b1, b2, C.aj_sym h1 h2 h3⟩
theorem ph_D {σ τ : mm_S} {n m : Nat} (C : CK σ n m) (H : BH σ τ m) (x : Nat × Nat) (h : Dt σ m x) : Dt σ m (ph (Bf τ) x) := by
  obtain ⟨b1, b2, b3⟩ := Dt_2 C h
  exact ⟨b1, b2, (BH_sp H b1 b2 b3).2.2.1⟩
theorem ph_inj {σ τ : mm_S} {n m : Nat} (C : CK σ n m) (N : NC σ n) (H : BH σ τ m) (x y : Nat × Nat) (hx : Dt σ m x) (hy : Dt σ m y) (h : ph (Bf τ) x = ph (Bf τ) y) : x = y := by
  obtain ⟨b1, b2, b3⟩ := Dt_2 C hx
  obtain ⟨c1, c2, c3⟩ := Dt_2 C hy
  have e2 : x.2 = y.2 := congrArg Prod.fst h
  have e3 : Bf τ x.2 x.1 = Bf τ y.2 y.1 := congrArg Prod.snd h
  have n1 := (BH_sp H b1 b2 b3).2
  have n2 := (BH_sp H c1 c2 c3).2
  rw [← e2] at n2 e3
  rw [← e3] at n2
  have e1 := nxt_inj (C.gdd N b1 b2) n1 n2
  exact Prod.ext e1 e2
/-- the darts by numbers -/
def dcd (σ : mm_S) (c : Nat) : Nat × Nat := if c % 2 = 0 then ((σ 16 (c / 2)).toNatClampNeg, (σ 17 (c / 2)).toNatClampNeg) else ((σ 17 (c / 2)).toNatClampNeg, (σ 16 (c / 2)).toNatClampNeg)
theorem dcd_ex {σ : mm_S} {n m : Nat} {x : Nat × Nat} (C : CK σ n m) (h : Dt σ m x) : ∃ c, c < 2 * n ∧ dcd σ c = x := by
  obtain ⟨h1, h2, h3⟩ := h
  obtain ⟨k, hk, hh, h9⟩ := (C.ja x.1 x.2 h1 h2).mp h3
  rcases hh with ⟨p, q⟩ | ⟨p, q⟩
  · refine ⟨2 * k, by omega, ?_⟩
    unfold dcd
    rw [if_pos (by omega), show 2 * k / 2 = k by omega, p, q, nI_clamp (by omega), nI_clamp (by omega)]
  · refine ⟨2 * k + 1, by omega, ?_⟩
    unfold dcd
    rw [if_neg (by omega), show (2 * k + 1) / 2 = k by omega, p, q, nI_clamp (by omega), nI_clamp (by omega)]
theorem dcd_D {σ : mm_S} {n m c : Nat} (C : CK σ n m) (hc : c < 2 * n) : Dt σ m (dcd σ c) := by
  have hk : c / 2 < n := by omega
  obtain ⟨a, b, ha, hb, hne, ma, mb, e1, e2⟩ := C.je (c / 2) hk
  unfold dcd
  rw [e1, e2, nI_clamp (show a < 2 ^ 31 by omega), nI_clamp (show b < 2 ^ 31 by omega)]
  split
  · exact ⟨ha, ma, (C.ja a b ha ma).mpr ⟨c / 2, hk, Or.inl ⟨e1, e2⟩, hb⟩⟩
  · exact ⟨hb, mb, (C.ja b a hb mb).mpr ⟨c / 2, hk, Or.inr ⟨e1, e2⟩, ha⟩⟩
/-- the faces that have been walked -/
def FS (σ τ : mm_S) (m f : Nat) : Prop := (τ 5 6 = nI f) ∧ (∀ x, Dt σ m x → Fw τ (ph (Bf τ) x) = Fw τ x) ∧ (∀ x, Dt σ m x → Fw τ x = -2 ∨ Fw τ x = -1 ∨ ∃ g, g < f ∧ Fw τ x = nI g) ∧ (∀ g, g < f → ∃ M, M < 512 ∧ τ 43 g = nI M ∧ (∀ a, a < 9 → (M.testBit a = true ↔ ∃ b, Dt σ m (a, b) ∧ Fw τ (a, b) = nI g)) ∧ ∃ x, Dt σ m x ∧ Fw τ x = nI g ∧ ∀ y, Dt σ m y → Fw τ y = nI g → ∃ k, y = it (ph (Bf τ)) x k) ∧ (∃ v, f ≤ bc v 42 ∧ ∀ c, c < 42 → v.testBit c = true → Dt σ m (dcd σ c) ∧ ∃ g, g < f ∧ Fw τ (dcd σ c) = nI g)
theorem FS.fc {σ τ : mm_S} {m f : Nat} (h : FS σ τ m f) : τ 5 6 = nI f := h.1
theorem FS.iv {σ τ : mm_S} {m f : Nat} (h : FS σ τ m f) : ∀ x, Dt σ m x → Fw τ (ph (Bf τ) x) = Fw τ x := h.2.1
theorem FS.rg {σ τ : mm_S} {m f : Nat} (h : FS σ τ m f) : ∀ x, Dt σ m x → Fw τ x = -2 ∨ Fw τ x = -1 ∨ ∃ g, g < f ∧ Fw τ x = nI g := h.2.2.1
theorem FS.fr {σ τ : mm_S} {m f : Nat} (h : FS σ τ m f) : ∀ g, g < f → ∃ M, M < 512 ∧ τ 43 g = nI M ∧ (∀ a, a < 9 → (M.testBit a = true ↔ ∃ b, Dt σ m (a, b) ∧ Fw τ (a, b) = nI g)) ∧ ∃ x, Dt σ m x ∧ Fw τ x = nI g ∧ ∀ y, Dt σ m y → Fw τ y = nI g → ∃ k, y = it (ph (Bf τ)) x k := h.2.2.2.1
theorem FS.ct {σ τ : mm_S} {m f : Nat} (h : FS σ τ m f) : ∃ v, f ≤ bc v 42 ∧ ∀ c, c < 42 → v.testBit c = true → Dt σ m (dcd σ c) ∧ ∃ g, g < f ∧ Fw τ (dcd σ c) = nI g := h.2.2.2.2
theorem FS_lt {σ τ : mm_S} {n m f : Nat} {x : Nat × Nat} (C : CK σ n m) (S : FS σ τ m f) (hx : Dt σ m x) (h2 : Fw τ x = -2) : f < 42 := by
  obtain ⟨v, hv, hc⟩ := S.ct
  have hn := C.jn.1
  have := bc_n v 42
  rcases Nat.lt_or_ge f 42 with z | z
  · exact z
  · exfalso
    obtain ⟨c, c1, c2⟩ := dcd_ex C hx
    obtain ⟨-, g, hg, e⟩ := hc c (by omega) (bc_full 42 (by omega) c (by omega))
    rw [c2, h2] at e
    have h1 := congrArg Int32.toInt e
    rw [nI_toInt (by omega), show (-2 : Int32).toInt = -2 by decide] at h1
    omega
theorem nI_m2 {j : Nat} (h : j < 2 ^ 31) : ¬ nI j = -2 := fun z => by
  have h1 := congrArg Int32.toInt z
  rw [nI_toInt h, show (-2 : Int32).toInt = -2 by decide] at h1
  omega
theorem Fw_up {τ : mm_S} {x y : Nat × Nat} {v : Int32} : Fw (mm_up τ (33 + 1 + x.1) x.2 v) y = if y = x then v else Fw τ y := by
  unfold Fw
  by_cases e : y = x
  · subst e; rw [if_pos rfl]; exact mm_up_s
  · rw [if_neg e]
    by_cases e1 : y.1 = x.1
    · rw [e1]
      exact mm_up_o (fun z => e (Prod.ext e1 z))
    · rw [mm_up_n (by omega)]
end
section
/-! class: walkFace -/
/-- HouseDesk$Walks.roomBehind -/
def f_40 (σ : mm_S) (x1 : Int32) : Int32 := (if (σ 5 3) ≤ (x1 + (1 : Int32)) then (σ 31 0) else (σ 31 (x1 + (1 : Int32)).toNatClampNeg))
theorem c_40 {d : Nat} {Q : mm_Q} {x1 : Int32} {σ : mm_S} (H1 : ¬ ((σ 5 3) ≤ (x1 + (1 : Int32))) → vp_in (x1 + (1 : Int32)) 9) (q : Q (some (.int (f_40 σ x1))) σ) : mD (d + 1) 40 [.ref 5, .int x1] σ Q := ke_40 (kb_40_0 (fun g0 => (kb_40_20 (pk_in 0 9 (by decide)) (q_pos g0 q))) (fun g0 => (kb_40_14 (H1 g0) (q_neg g0 q))))
/-- HouseDesk$Walks.roomBefore -/
def f_41 (σ : mm_S) (x1 : Int32) : Int32 := (if x1 ≤ 0 then (σ 31 ((σ 5 3) - (1 : Int32)).toNatClampNeg) else (σ 31 (x1 - (1 : Int32)).toNatClampNeg))
theorem c_41 {d : Nat} {Q : mm_Q} {x1 : Int32} {σ : mm_S} (H1 : x1 ≤ 0 → vp_in ((σ 5 3) - (1 : Int32)) 9) (H2 : ¬ (x1 ≤ 0) → vp_in (x1 - (1 : Int32)) 9) (q : Q (some (.int (f_41 σ x1))) σ) : mD (d + 1) 41 [.ref 5, .int x1] σ Q := ke_41 (kb_41_0 (fun g0 => (kb_41_14 (H1 g0) (q_pos g0 q))) (fun g0 => (kb_41_8 (H2 g0) (q_neg g0 q))))
/-- HouseDesk$Walks.walkFace, from 0 -/
theorem ks_42_0 {d : Nat} {Q : mm_Q} {x1 x2 : Int32} {σ : mm_S} (H1 : vp_in x1 9) (H2 : vp_in x2 9) (q0 : (σ (33 + 1 + x1.toNatClampNeg) x2.toNatClampNeg) = (-2 : Int32) → mw d mt_42 Q 25 [some (.ref 5), some (.int x1), some (.int x2), some (.int x1), some (.int x2), some (.int (0 : Int32)), some (.int (0 : Int32)), none] [] σ) (q1 : ¬ ((σ (33 + 1 + x1.toNatClampNeg) x2.toNatClampNeg) = (-2 : Int32)) → Q (none) σ) : mD (d + 1) 42 [.ref 5, .int x1, .int x2] σ Q := ke_42 (kb_42_0 H1 H2 (fun g0 => (kb_42_14 (q0 g0))) (fun g0 => (kb_42_13 (q1 g0))))
/-- HouseDesk$Walks.walkFace, from 25 -/
theorem ks_42_25 {d : Nat} {Q : mm_Q} {x1 x2 x3 x4 x5 x6 : Int32} {o7 : Option Value} {σ : mm_S} (H1 : (42 : Int32) ≤ x6 → vp_in (σ 5 6) 42) (H2 : ¬ ((42 : Int32) ≤ x6) → vp_in x3 9) (H3 : ¬ ((42 : Int32) ≤ x6) → vp_in x4 9) (H4 : ¬ ((42 : Int32) ≤ x6) → vp_in x3 13) (H5 : ¬ ((42 : Int32) ≤ x6) → vp_in (σ 5 6) 42) (q0 : (42 : Int32) ≤ x6 → Q (none) (mm_up (mm_up σ 43 (σ 5 6).toNatClampNeg x5) 5 6 ((σ 5 6) + (1 : Int32)))) (q1 : ¬ ((42 : Int32) ≤ x6) → (σ (33 + 1 + x3.toNatClampNeg) x4.toNatClampNeg) = (-2 : Int32) → mw d mt_42 Q 25 [some (.ref 5), some (.int x1), some (.int x2), some (.int x4), some (.int ((mm_up σ (33 + 1 + x3.toNatClampNeg) x4.toNatClampNeg (σ 5 6)) (21 + 1 + x4.toNatClampNeg) x3.toNatClampNeg)), some (.int (x5 ||| ((1 : Int32) <<< (x3 &&& 31)))), some (.int (x6 + 1)), some (.int ((mm_up σ (33 + 1 + x3.toNatClampNeg) x4.toNatClampNeg (σ 5 6)) (21 + 1 + x4.toNatClampNeg) x3.toNatClampNeg))] [] (mm_up σ (33 + 1 + x3.toNatClampNeg) x4.toNatClampNeg (σ 5 6))) (q2 : ¬ ((42 : Int32) ≤ x6) → ¬ ((σ (33 + 1 + x3.toNatClampNeg) x4.toNatClampNeg) = (-2 : Int32)) → Q (none) (mm_up (mm_up σ 43 (σ 5 6).toNatClampNeg x5) 5 6 ((σ 5 6) + (1 : Int32)))) : mw d mt_42 Q 25 [some (.ref 5), some (.int x1), some (.int x2), some (.int x3), some (.int x4), some (.int x5), some (.int x6), o7] [] σ := (kb_42_25 (fun g0 => (kb_42_91 (H1 g0) (q0 g0))) (fun g0 => (kb_42_32 (H2 g0) (H3 g0) (fun g1 => (kb_42_46 (H2 g0) (H3 g0) (H3 g0) (H4 g0) (q1 g0 g1))) (fun g1 => (kb_42_91 (H5 g0) (q2 g0 g1))))))
theorem it_cg {D : Nat × Nat → Prop} {f f' : Nat × Nat → Nat × Nat} (hD : ∀ x, D x → D (f x)) (h : ∀ x, D x → f' x = f x) {x : Nat × Nat} (hx : D x) : ∀ k, it f' x k = it f x k
  | 0 => rfl
  | k + 1 => by
    show f' (it f' x k) = f (it f x k)
    rw [it_cg hD h hx k]
    exact h _ (it_D hD hx k)
/-- what walkFace leaves behind -/
def wf (σ τ τ' : mm_S) (m f f' : Nat) : Prop := (∀ c, c ≠ 5 → (c < 34 ∨ 43 < c) → τ' c = τ c) ∧ (∀ j, j ≠ 6 → τ' 5 j = τ 5 j) ∧ FS σ τ' m f' ∧ f ≤ f' ∧ ∀ y, Dt σ m y → (Fw τ' y = Fw τ y ∨ (Fw τ y = -2 ∧ ∃ g, g < f' ∧ Fw τ' y = nI g))
theorem c_42 {d n m f : Nat} {x : Nat × Nat} {Q : mm_Q} {σ τ : mm_S} (C : CK σ n m) (N : NC σ n) (H : BH σ τ m) (S : FS σ τ m f) (hx : Dt σ m x)
    (q : ∀ τ' f', wf σ τ τ' m f f' → ¬ Fw τ' x = -2 → Q none τ') : mD (d + 1) 42 [.ref 5, .int (nI x.1), .int (nI x.2)] τ Q := by
  have x2 := (Dt_2 C hx).1
  have c1 : (nI x.1).toNatClampNeg = x.1 := nI_clamp (by have := hx.1; omega)
  have c2 : (nI x.2).toNatClampNeg = x.2 := nI_clamp (by omega)
  refine ks_42_0 (pk_in _ 9 hx.1) (pk_in _ 9 x2) (fun z => ?_) (fun z => q τ f ⟨fun _ _ _ => rfl, fun _ _ => rfl, S, Nat.le_refl f, fun y _ => Or.inl rfl⟩ (by rw [c1, c2] at z; exact z))
  rw [c1, c2] at z
  have hx2 : Fw τ x = -2 := z
  have f42 := FS_lt C S hx hx2
  have n21 := C.jn.1
  have OD := it_D (ph_D C H) hx
  -- the end of the walk
  have fin : ∀ (k : Nat) (ρ : mm_S) (v M : Nat), (∀ c, (c < 34 ∨ 42 < c) → ρ c = τ c) → (∀ y, Dt σ m y → (Fw ρ y = nI f ∧ ∃ j, j < k ∧ y = it (ph (Bf τ)) x j) ∨ (Fw ρ y = Fw τ y ∧ ∀ j, j < k → y ≠ it (ph (Bf τ)) x j)) → M < 512 → (∀ a, a < 9 → (M.testBit a = true ↔ ∃ j, j < k ∧ (it (ph (Bf τ)) x j).1 = a)) → f + k ≤ bc v 42 → (∀ c, c < 42 → v.testBit c = true → Dt σ m (dcd σ c) ∧ ((∃ g, g < f ∧ Fw τ (dcd σ c) = nI g) ∨ ∃ j, j < k ∧ dcd σ c = it (ph (Bf τ)) x j)) → (∀ a b, a < b → b < k → it (ph (Bf τ)) x a ≠ it (ph (Bf τ)) x b) → (∀ j, j < k → Fw τ (it (ph (Bf τ)) x j) = -2) → (∃ j, j < k ∧ it (ph (Bf τ)) x k = it (ph (Bf τ)) x j) → Q none (mm_up (mm_up ρ 43 (ρ 5 6).toNatClampNeg (nI M)) 5 6 ((ρ 5 6) + 1)) := by
    intro k ρ v M fr lab m9 mb hv hc dis old ⟨j, hj, e⟩
    have j0 := it_back (ph_D C H) (ph_inj C N H) hx hj e dis
    subst j0
    rw [fr 5 (by omega), S.fc, nI_clamp (show f < 2 ^ 31 by omega), nI_1]
    generalize hρ' : mm_up (mm_up ρ 43 f (nI M)) 5 6 (nI (f + 1)) = ρ'
    have rF : ∀ y, Dt σ m y → Fw ρ' y = Fw ρ y := fun y hy => by
      have y9 := hy.1
      unfold Fw
      rw [← hρ', mm_up_n (by omega), mm_up_n (by omega)]
    have hB : ∀ a b, a < 9 → Bf ρ' a b = Bf τ a b := Bf_cg (fun c h1 h2 => by rw [← hρ', mm_up_n (by omega), mm_up_n (by omega)]; exact fr c (by omega))
    have hph : ∀ y, Dt σ m y → ph (Bf ρ') y = ph (Bf τ) y := fun y hy => by
      unfold ph
      rw [hB _ _ (Dt_2 C hy).1]
    have lab' : ∀ y, Dt σ m y → (Fw ρ' y = nI f ∧ ∃ j, j < k ∧ y = it (ph (Bf τ)) x j) ∨ (Fw ρ' y = Fw τ y ∧ ∀ j, j < k → y ≠ it (ph (Bf τ)) x j) := fun y hy => by
      rw [rF y hy]; exact lab y hy
    have inl : ∀ j, j < k → Fw ρ' (it (ph (Bf τ)) x j) = nI f := fun j hj' => by
      rcases lab' _ (OD j) with z | z
      · exact z.1
      · exact absurd rfl (z.2 j hj')
    have r43 : ∀ g, g < f → ρ' 43 g = τ 43 g := fun g hg => by
      rw [← hρ', mm_up_n (by decide), mm_up_o (by omega), fr 43 (by omega)]
    refine q ρ' (f + 1) ⟨fun c h1 h2 => ?_, fun i hi => ?_, ⟨?_, fun y hy => ?_, fun y hy => ?_, fun g hg => ?_, ⟨v, by omega, fun c h1 h2 => ?_⟩⟩, by omega, fun y hy => ?_⟩ ?_
    · rw [← hρ', mm_up_n h1, mm_up_n (by omega)]; exact fr c (by omega)
    · rw [← hρ', mm_up_o hi, mm_up_n (by decide), fr 5 (by omega)]
    · rw [← hρ']; exact mm_up_s
    · rw [hph y hy]
      rcases lab' y hy with ⟨a1, i, hi, a2⟩ | ⟨a1, a2⟩
      · rw [a1, a2]
        show Fw ρ' (it (ph (Bf τ)) x (i + 1)) = nI f
        by_cases ek : i + 1 = k
        · rw [ek, e]; exact inl 0 hj
        · exact inl (i + 1) (by omega)
      · rw [a1, ← S.iv y hy]
        rcases lab' _ (ph_D C H y hy) with ⟨b1, i, hi, b2⟩ | ⟨b1, b2⟩
        · exfalso
          rcases Nat.eq_zero_or_pos i with iz | iz
          · subst iz
            obtain ⟨k', rfl⟩ : ∃ k', k = k' + 1 := ⟨k - 1, by omega⟩
            have : ph (Bf τ) y = ph (Bf τ) (it (ph (Bf τ)) x k') := b2.trans e.symm
            exact a2 k' (by omega) (ph_inj C N H _ _ hy (OD k') this)
          · obtain ⟨i', rfl⟩ : ∃ i', i = i' + 1 := ⟨i - 1, by omega⟩
            exact a2 i' (by omega) (ph_inj C N H _ _ hy (OD i') b2)
        · exact b1
    · rcases lab' y hy with ⟨a1, _⟩ | ⟨a1, _⟩
      · exact Or.inr (Or.inr ⟨f, by omega, a1⟩)
      · rw [a1]
        rcases S.rg y hy with z | z | ⟨g, hg, z⟩
        · exact Or.inl z
        · exact Or.inr (Or.inl z)
        · exact Or.inr (Or.inr ⟨g, by omega, z⟩)
    · by_cases eg : g = f
      · subst eg
        refine ⟨M, m9, by rw [← hρ', mm_up_n (by decide)]; exact mm_up_s, fun a ha => ?_, x, hx, inl 0 hj, fun y hy hl => ?_⟩
        · rw [mb a ha]
          constructor
          · rintro ⟨i, hi, ea⟩
            refine ⟨(it (ph (Bf τ)) x i).2, ?_, ?_⟩
            · rw [← ea]; exact OD i
            · rw [← ea]; exact inl i hi
          · rintro ⟨b, hd, hl⟩
            rcases lab' _ hd with ⟨_, i, hi, a2⟩ | ⟨a1, _⟩
            · exact ⟨i, hi, by rw [← a2]⟩
            · exfalso
              rw [hl] at a1
              rcases S.rg _ hd with z | z | ⟨g', hg', z⟩
              · exact nI_m2 (by omega) (a1.trans z)
              · exact nI_m1 (by omega) (a1.trans z)
              · have := (nI_eq (by omega) (by omega)).mp (a1.trans z); omega
        · rcases lab' _ hy with ⟨_, i, hi, a2⟩ | ⟨a1, _⟩
          · exact ⟨i, by rw [it_cg (ph_D C H) hph hx]; exact a2⟩
          · exfalso
            rw [hl] at a1
            rcases S.rg _ hy with z | z | ⟨g', hg', z⟩
            · exact nI_m2 (by omega) (a1.trans z)
            · exact nI_m1 (by omega) (a1.trans z)
            · have := (nI_eq (by omega) (by omega)).mp (a1.trans z); omega
      · have hg' : g < f := by omega
        obtain ⟨M', p1, p2, p3, y0, p4, p5, p6⟩ := S.fr g hg'
        have same : ∀ y, Dt σ m y → (Fw ρ' y = nI g ↔ Fw τ y = nI g) := fun y hy => by
          rcases lab' y hy with ⟨a1, i, hi, a2⟩ | ⟨a1, _⟩
          · rw [a1, a2, old i hi]
            exact ⟨fun z => absurd ((nI_eq (by omega) (by omega)).mp z) (by omega), fun z => absurd z.symm (nI_m2 (by omega))⟩
          · rw [a1]
        refine ⟨M', p1, by rw [r43 g hg']; exact p2, fun a ha => ?_, y0, p4, (same y0 p4).mpr p5, fun y hy hl => ?_⟩
        · rw [p3 a ha]
          constructor
          · rintro ⟨b, hd, hl⟩; exact ⟨b, hd, (same _ hd).mpr hl⟩
          · rintro ⟨b, hd, hl⟩; exact ⟨b, hd, (same _ hd).mp hl⟩
        · obtain ⟨i, hi⟩ := p6 y hy ((same y hy).mp hl)
          exact ⟨i, by rw [it_cg (ph_D C H) hph p4]; exact hi⟩
    · obtain ⟨hd, hh⟩ := hc c h1 h2
      refine ⟨hd, ?_⟩
      rcases lab' _ hd with ⟨a1, _⟩ | ⟨a1, a2⟩
      · exact ⟨f, by omega, a1⟩
      · rcases hh with ⟨g, hg, hl⟩ | ⟨i, hi, hl⟩
        · exact ⟨g, by omega, a1.trans hl⟩
        · exact absurd hl (a2 i hi)
    · rcases lab' y hy with ⟨a1, i, hi, a2⟩ | ⟨a1, _⟩
      · exact Or.inr ⟨by rw [a2]; exact old i hi, f, by omega, a1⟩
      · exact Or.inl a1
    · have := inl 0 hj
      rw [show Fw ρ' x = nI f from this]
      exact nI_m2 (by omega)
  obtain ⟨v0, hv0, hc0⟩ := S.ct
  refine lp_dn (P := fun k => ∀ (ρ : mm_S) (v M : Nat), (∀ c, (c < 34 ∨ 42 < c) → ρ c = τ c) → (∀ y, Dt σ m y → (Fw ρ y = nI f ∧ ∃ j, j < k ∧ y = it (ph (Bf τ)) x j) ∨ (Fw ρ y = Fw τ y ∧ ∀ j, j < k → y ≠ it (ph (Bf τ)) x j)) → M < 512 → (∀ a, a < 9 → (M.testBit a = true ↔ ∃ j, j < k ∧ (it (ph (Bf τ)) x j).1 = a)) → f + k ≤ bc v 42 → (∀ c, c < 42 → v.testBit c = true → Dt σ m (dcd σ c) ∧ ((∃ g, g < f ∧ Fw τ (dcd σ c) = nI g) ∨ ∃ j, j < k ∧ dcd σ c = it (ph (Bf τ)) x j)) → (∀ a b, a < b → b < k → it (ph (Bf τ)) x a ≠ it (ph (Bf τ)) x b) → (∀ j, j < k → Fw τ (it (ph (Bf τ)) x j) = -2) → ∀ o7, mw d mt_42 Q 25 [some (.ref 5), some (.int (nI x.1)), some (.int (nI x.2)), some (.int (nI (it (ph (Bf τ)) x k).1)), some (.int (nI (it (ph (Bf τ)) x k).2)), some (.int (nI M)), some (.int (nI k)), o7] [] ρ) 42 ?_ ?_ 0 (by omega) τ v0 0 (fun _ _ => rfl) (fun y _ => Or.inr ⟨rfl, fun j hj => absurd hj (Nat.not_lt_zero j)⟩) (by decide) (fun a _ => ⟨fun z => absurd z (by simp), fun z => absurd z.choose_spec.1 (Nat.not_lt_zero _)⟩) hv0 (fun c h1 h2 => ⟨(hc0 c h1 h2).1, Or.inl (hc0 c h1 h2).2⟩) (fun a b _ h => absurd h (Nat.not_lt_zero b)) (fun j hj => absurd hj (Nat.not_lt_zero j)) none
  · intro ρ v M fr lab m9 mb hv hc dis old o7
    have h5 : vp_in (ρ 5 6) 42 := by rw [fr 5 (by omega), S.fc]; exact pk_in f 42 f42
    have g42 : (42 : Int32) ≤ nI 42 := by decide
    refine ks_42_25 (fun _ => h5) (fun g => absurd g42 g) (fun g => absurd g42 g) (fun g => absurd g42 g) (fun g => absurd g42 g) (fun _ => fin 42 ρ v M fr lab m9 mb hv hc dis old ?_) (fun g => absurd g42 g) (fun g => absurd g42 g)
    have := bc_n v 42
    obtain ⟨c, k1, k2⟩ := dcd_ex C (OD 42)
    obtain ⟨_, hh⟩ := hc c (by omega) (bc_full 42 (by omega) c (by omega))
    rcases hh with ⟨g, hg, _⟩ | ⟨j, hj, e⟩
    · omega
    · exact ⟨j, hj, by rw [← k2]; exact e⟩
  · intro k hk ih ρ v M fr lab m9 mb hv hc dis old o7
    have h5 : vp_in (ρ 5 6) 42 := by rw [fr 5 (by omega), S.fc]; exact pk_in f 42 f42
    have Dk := OD k
    obtain ⟨y9, my, ay⟩ := Dt_2 C Dk
    have k1 : (nI (it (ph (Bf τ)) x k).1).toNatClampNeg = (it (ph (Bf τ)) x k).1 := nI_clamp (by have := Dk.1; omega)
    have k2 : (nI (it (ph (Bf τ)) x k).2).toNatClampNeg = (it (ph (Bf τ)) x k).2 := nI_clamp (by omega)
    have g42 : ¬ ((42 : Int32) ≤ nI k) := hI_nle (a := 42) (by omega) hk
    have dk1 := Dk.1
    refine ks_42_25 (fun g => absurd g g42) (fun _ => pk_in _ 9 Dk.1) (fun _ => pk_in _ 9 y9) (fun _ => pk_in (it (ph (Bf τ)) x k).1 13 (by omega)) (fun _ => h5) (fun g => absurd g g42) (fun _ z => ?_) (fun _ z => fin k ρ v M fr lab m9 mb hv hc dis old ?_)
    · rw [k1, k2] at z
      have hz : Fw ρ (it (ph (Bf τ)) x k) = -2 := z
      rw [k1, k2, nI_1, fr 5 (by omega), S.fc, one_sh (by omega), or_bit]
      have fresh : ∀ j, j < k → it (ph (Bf τ)) x k ≠ it (ph (Bf τ)) x j := by
        rcases lab _ Dk with ⟨a1, _⟩ | ⟨_, a2⟩
        · exact absurd (a1.symm.trans hz) (nI_m2 (by omega))
        · exact a2
      have o2 : Fw τ (it (ph (Bf τ)) x k) = -2 := by
        rcases lab _ Dk with ⟨a1, _⟩ | ⟨a1, _⟩
        · exact absurd (a1.symm.trans hz) (nI_m2 (by omega))
        · exact a1.symm.trans hz
      have rd : (mm_up ρ (33 + 1 + (it (ph (Bf τ)) x k).1) (it (ph (Bf τ)) x k).2 (nI f)) (21 + 1 + (it (ph (Bf τ)) x k).2) (it (ph (Bf τ)) x k).1 = nI (it (ph (Bf τ)) x (k + 1)).2 := by
        rw [mm_up_n (by omega), fr _ (by omega)]
        exact (BH_sp H y9 my ay).1
      rw [rd]
      obtain ⟨c, c1, c2⟩ := dcd_ex C Dk
      have cn : ¬ v.testBit c = true := fun y => by
        obtain ⟨_, hh⟩ := hc c (by omega) y
        rw [c2] at hh
        rcases hh with ⟨g, hg, e⟩ | ⟨j, hj, e⟩
        · exact nI_m2 (by omega) (e.symm.trans o2)
        · exact fresh j hj e
      refine ih _ (v ||| 2 ^ c) (M ||| 2 ^ (it (ph (Bf τ)) x k).1) (fun c' h => ?_) (fun y hy => ?_) ?_ (fun a ha => ?_) ?_ (fun c' h1 h2 => ?_) (fun a b h1 h2 => ?_) (fun j hj => ?_) _
      · rw [mm_up_n (by omega)]; exact fr c' h
      · rw [Fw_up]
        by_cases e : y = it (ph (Bf τ)) x k
        · rw [if_pos e]
          exact Or.inl ⟨rfl, k, by omega, e⟩
        · rw [if_neg e]
          rcases lab y hy with ⟨a1, i, hi, a2⟩ | ⟨a1, a2⟩
          · exact Or.inl ⟨a1, i, by omega, a2⟩
          · refine Or.inr ⟨a1, fun j hj => ?_⟩
            by_cases ej : j = k
            · rw [ej]; exact e
            · exact a2 j (by omega)
      · exact Nat.or_lt_two_pow (n := 9) m9 (Nat.pow_lt_pow_right (by decide) dk1)
      · rw [Nat.testBit_or, Nat.testBit_two_pow, Bool.or_eq_true, mb a ha]
        constructor
        · rintro (⟨j, hj, e⟩ | e)
          · exact ⟨j, by omega, e⟩
          · exact ⟨k, by omega, by simpa using e⟩
        · rintro ⟨j, hj, e⟩
          by_cases ek : j = k
          · subst ek; exact Or.inr (by simpa using e)
          · exact Or.inl ⟨j, by omega, e⟩
      · rw [bc_add cn, if_pos (by omega)]; omega
      · rw [Nat.testBit_or, Nat.testBit_two_pow, Bool.or_eq_true] at h2
        rcases h2 with h2 | h2
        · obtain ⟨p, r⟩ := hc c' h1 h2
          refine ⟨p, ?_⟩
          rcases r with r | ⟨j, hj, e⟩
          · exact Or.inl r
          · exact Or.inr ⟨j, by omega, e⟩
        · have e : c = c' := by simpa using h2
          subst e
          exact ⟨by rw [c2]; exact Dk, Or.inr ⟨k, by omega, c2⟩⟩
      · by_cases e : b = k
        · subst e; exact fun w => fresh a h1 w.symm
        · exact dis a b h1 (by omega)
      · by_cases e : j = k
        · subst e; exact o2
        · exact old j (by omega)
    · rw [k1, k2] at z
      rcases lab _ Dk with ⟨_, j, hj, a2⟩ | ⟨a1, _⟩
      · exact ⟨j, hj, a2⟩
      · exfalso
        apply z
        show Fw ρ (it (ph (Bf τ)) x k) = -2
        rw [a1]
        rcases Nat.eq_zero_or_pos k with kz | kz
        · subst kz; exact hx2
        · obtain ⟨k', rfl⟩ : ∃ k', k = k' + 1 := ⟨k - 1, by omega⟩
          show Fw τ (ph (Bf τ) (it (ph (Bf τ)) x k')) = -2
          rw [S.iv _ (OD k')]
          exact old k' (by omega)
end
