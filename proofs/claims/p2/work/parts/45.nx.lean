/-! class: what comes next clockwise -/
/-- HouseDesk$Walks.isSooner -/
def f_35 (σ : mm_S) (x1 x2 x3 x4 : Int32) : Int32 := (if 0 ≤ (f_17 σ x1 x2 x3) then (if 0 ≤ (f_17 σ x1 x2 x4) then (if 0 ≤ (f_17 σ x1 x3 x4) then (0 : Int32) else (1 : Int32)) else (0 : Int32)) else (if 0 ≤ (f_17 σ x1 x2 x4) then (1 : Int32) else (if 0 ≤ (f_17 σ x1 x3 x4) then (0 : Int32) else (1 : Int32))))
theorem f_35_01 (σ : mm_S) (x1 x2 x3 x4 : Int32) : (f_35 σ x1 x2 x3 x4) = 0 ∨ (f_35 σ x1 x2 x3 x4) = 1 := by
  unfold f_35
  repeat' split
  all_goals first | exact Or.inl rfl | exact Or.inr rfl
theorem c_35 {d : Nat} {Q : mm_Q} {x1 x2 x3 x4 : Int32} {σ : mm_S} (H1 : vp_in x2 9) (H2 : vp_in x1 9) (H3 : vp_in x3 9) (H4 : vp_in x4 9) (q : Q (some (.int (f_35 σ x1 x2 x3 x4))) σ) : mD (d + 2) 35 [.ref 5, .int x1, .int x2, .int x3, .int x4] σ Q := ke_35 (kb_35_0 (c_17 H1 H2 H3 (kb_35_10 (fun g0 => (kb_35_17 (c_17 H1 H2 H4 (kb_35_31 (fun g1 => (kb_35_38 (fun _ => (kb_35_51 (c_17 H3 H2 H4 (kb_35_62 (fun g2 => (kb_35_69 (q_pos g2 (q_pos g1 (q_pos g0 q))))) (fun g2 => (kb_35_65 (q_neg g2 (q_pos g1 (q_pos g0 q))))))))) (fun g2 => (absurd (show ¬ ((0 : Int32) = (0 : Int32)) from g2) (by decide))))) (fun g1 => (kb_35_34 (fun g2 => (absurd (show (0 : Int32) = (1 : Int32) from g2) (by decide))) (fun _ => (kb_35_48 (Or.inl rfl) (q_neg g1 (q_pos g0 q)))))))))) (fun g0 => (kb_35_13 (c_17 H1 H2 H4 (kb_35_31 (fun g1 => (kb_35_38 (fun g2 => (absurd (show (1 : Int32) = (0 : Int32) from g2) (by decide))) (fun _ => (kb_35_48 (Or.inr rfl) (q_pos g1 (q_neg g0 q)))))) (fun g1 => (kb_35_34 (fun _ => (kb_35_51 (c_17 H3 H2 H4 (kb_35_62 (fun g2 => (kb_35_69 (q_pos g2 (q_neg g1 (q_neg g0 q))))) (fun g2 => (kb_35_65 (q_neg g2 (q_neg g1 (q_neg g0 q))))))))) (fun g2 => (absurd (show ¬ ((1 : Int32) = (1 : Int32)) from g2) (by decide))))))))))))
/-- HouseDesk$Walks.nextClockwise, from 0 -/
theorem ks_34_0 {d : Nat} {Q : mm_Q} {x1 x2 : Int32} {σ : mm_S} (q0 : mw d mt_34 Q 5 [some (.ref 5), some (.int x1), some (.int x2), some (.int x2), some (.int (0 : Int32))] [] σ) : mD (d + 1) 34 [.ref 5, .int x1, .int x2] σ Q := ke_34 (kb_34_0 q0)
/-- HouseDesk$Walks.nextClockwise, from 5 -/
theorem ks_34_5 {d : Nat} {Q : mm_Q} {x1 x2 x3 x4 : Int32} {σ : mm_S} (H1 : ¬ ((9 : Int32) ≤ x4) → vp_in x1 9) (H2 : ¬ ((9 : Int32) ≤ x4) → vp_in x2 9) (H3 : ¬ ((9 : Int32) ≤ x4) → vp_in x4 9) (H4 : ¬ ((9 : Int32) ≤ x4) → vp_in x3 9) (q0 : (9 : Int32) ≤ x4 → Q (some (.int x3)) σ) (q1 : ¬ ((9 : Int32) ≤ x4) → x4 = x2 → mw (d + 2) mt_34 Q 5 [some (.ref 5), some (.int x1), some (.int x2), some (.int x3), some (.int (x4 + 1))] [] σ) (q2 : ¬ ((9 : Int32) ≤ x4) → ¬ (x4 = x2) → (hs (σ 15 x1.toNatClampNeg) x4) = 0 → mw (d + 2) mt_34 Q 5 [some (.ref 5), some (.int x1), some (.int x2), some (.int x3), some (.int (x4 + 1))] [] σ) (q3 : ¬ ((9 : Int32) ≤ x4) → ¬ (x4 = x2) → ¬ ((hs (σ 15 x1.toNatClampNeg) x4) = 0) → x3 = x2 → mw (d + 2) mt_34 Q 5 [some (.ref 5), some (.int x1), some (.int x2), some (.int x4), some (.int (x4 + 1))] [] σ) (q4 : ¬ ((9 : Int32) ≤ x4) → ¬ (x4 = x2) → ¬ ((hs (σ 15 x1.toNatClampNeg) x4) = 0) → ¬ (x3 = x2) → (f_35 σ x1 x2 x4 x3) = 0 → mw (d + 2) mt_34 Q 5 [some (.ref 5), some (.int x1), some (.int x2), some (.int x3), some (.int (x4 + 1))] [] σ) (q5 : ¬ ((9 : Int32) ≤ x4) → ¬ (x4 = x2) → ¬ ((hs (σ 15 x1.toNatClampNeg) x4) = 0) → ¬ (x3 = x2) → ¬ ((f_35 σ x1 x2 x4 x3) = 0) → mw (d + 2) mt_34 Q 5 [some (.ref 5), some (.int x1), some (.int x2), some (.int x4), some (.int (x4 + 1))] [] σ) : mw (d + 2) mt_34 Q 5 [some (.ref 5), some (.int x1), some (.int x2), some (.int x3), some (.int x4)] [] σ := (kb_34_5 (fun g0 => (kb_34_57 (q0 g0))) (fun g0 => (kb_34_12 (fun g1 => (kb_34_51 (q1 g0 g1))) (fun g1 => (kb_34_18 (c_10 (H1 g0) (kb_34_28 (fun g2 => (kb_34_51 (q2 g0 g1 g2))) (fun g2 => (kb_34_31 (fun g3 => (kb_34_48 (q3 g0 g1 g2 g3))) (fun g3 => (kb_34_36 (c_35 (H2 g0) (H1 g0) (H3 g0) (H4 g0) (kb_34_45 (fun g4 => (kb_34_51 (q4 g0 g1 g2 g3 g4))) (fun g4 => (kb_34_48 (q5 g0 g1 g2 g3 g4))))))))))))))))
def pX (σ : mm_S) (i : Nat) : Int := (σ 11 i).toInt
def pY (σ : mm_S) (i : Nat) : Int := (σ 12 i).toInt
/-- where room j lies, seen from room i -/
def vc (σ : mm_S) (i j : Nat) : V2 := (pX σ j - pX σ i, pY σ j - pY σ i)
def cG (σ : mm_S) (i : Nat) : Prop := 0 ≤ pX σ i ∧ pX σ i < 32 ∧ 0 ≤ pY σ i ∧ pY σ i < 32
theorem i32_sub {x y : Int32} (h : - 2147483648 ≤ x.toInt - y.toInt ∧ x.toInt - y.toInt < 2147483648) : (x - y).toInt = x.toInt - y.toInt := by
  rw [Int32.toInt_sub]
  exact Int.bmod_eq_of_le (by omega) (by omega)
theorem i32_mul {x y : Int32} (h : - 2147483648 ≤ x.toInt * y.toInt ∧ x.toInt * y.toInt < 2147483648) : (x * y).toInt = x.toInt * y.toInt := by
  rw [Int32.toInt_mul]
  exact Int.bmod_eq_of_le (by omega) (by omega)
theorem i32_add {x y : Int32} (h : - 2147483648 ≤ x.toInt + y.toInt ∧ x.toInt + y.toInt < 2147483648) : (x + y).toInt = x.toInt + y.toInt := by
  rw [Int32.toInt_add]
  exact Int.bmod_eq_of_le (by omega) (by omega)
theorem mul_bd {a b A B : Int} (ha : - A ≤ a ∧ a ≤ A) (hb : - B ≤ b ∧ b ≤ B) : - (A * B) ≤ a * b ∧ a * b ≤ A * B := by
  have h1 : 0 ≤ (A - a) * (B + b) := Int.mul_nonneg (by omega) (by omega)
  have h2 : 0 ≤ (A + a) * (B - b) := Int.mul_nonneg (by omega) (by omega)
  have h3 : 0 ≤ (A - a) * (B - b) := Int.mul_nonneg (by omega) (by omega)
  have h4 : 0 ≤ (A + a) * (B + b) := Int.mul_nonneg (by omega) (by omega)
  have e1 : (A - a) * (B + b) + (A + a) * (B - b) = 2 * (A * B) - 2 * (a * b) := by grind
  have e2 : (A - a) * (B - b) + (A + a) * (B + b) = 2 * (A * B) + 2 * (a * b) := by grind
  omega
theorem tn_toInt {a b c e f g : Int32} (h : (0 ≤ a.toInt ∧ a.toInt < 32) ∧ (0 ≤ b.toInt ∧ b.toInt < 32) ∧ (0 ≤ c.toInt ∧ c.toInt < 32) ∧ (0 ≤ e.toInt ∧ e.toInt < 32) ∧ (0 ≤ f.toInt ∧ f.toInt < 32) ∧ (0 ≤ g.toInt ∧ g.toInt < 32)) : (((c - a) * (g - b)) - ((e - b) * (f - a))).toInt = (c.toInt - a.toInt) * (g.toInt - b.toInt) - (e.toInt - b.toInt) * (f.toInt - a.toInt) := by
  have s1 : (c - a).toInt = c.toInt - a.toInt := i32_sub (by omega)
  have s2 : (g - b).toInt = g.toInt - b.toInt := i32_sub (by omega)
  have s3 : (e - b).toInt = e.toInt - b.toInt := i32_sub (by omega)
  have s4 : (f - a).toInt = f.toInt - a.toInt := i32_sub (by omega)
  have b1 := mul_bd (a := c.toInt - a.toInt) (b := g.toInt - b.toInt) (A := 31) (B := 31) (by omega) (by omega)
  have b2 := mul_bd (a := e.toInt - b.toInt) (b := f.toInt - a.toInt) (A := 31) (B := 31) (by omega) (by omega)
  have m1 : ((c - a) * (g - b)).toInt = (c.toInt - a.toInt) * (g.toInt - b.toInt) := by rw [i32_mul, s1, s2]; rw [s1, s2]; omega
  have m2 : ((e - b) * (f - a)).toInt = (e.toInt - b.toInt) * (f.toInt - a.toInt) := by rw [i32_mul, s3, s4]; rw [s3, s4]; omega
  rw [i32_sub, m1, m2]
  rw [m1, m2]; omega
theorem f_17_toInt {σ : mm_S} {i q r : Nat} (hi : i < 9 ∧ cG σ i) (hq : q < 9 ∧ cG σ q) (hr : r < 9 ∧ cG σ r) : (f_17 σ (nI i) (nI q) (nI r)).toInt = gcr (vc σ i q) (vc σ i r) := by
  unfold f_17
  rw [nI_clamp (show i < 2 ^ 31 by omega), nI_clamp (show q < 2 ^ 31 by omega), nI_clamp (show r < 2 ^ 31 by omega)]
  obtain ⟨-, i1, i2, i3, i4⟩ := hi
  obtain ⟨-, q1, q2, q3, q4⟩ := hq
  obtain ⟨-, r1, r2, r3, r4⟩ := hr
  exact tn_toInt ⟨⟨i1, i2⟩, ⟨i3, i4⟩, ⟨q1, q2⟩, ⟨q3, q4⟩, ⟨r1, r2⟩, ⟨r3, r4⟩⟩
theorem ge0 {x : Int32} : 0 ≤ x ↔ ¬ x.toInt < 0 := by
  rw [Int32.le_iff_toInt_le, show (0 : Int32).toInt = 0 from rfl]
  omega
theorem f_35_so {σ : mm_S} {i f j k : Nat} (hi : i < 9 ∧ cG σ i) (hf : f < 9 ∧ cG σ f) (hj : j < 9 ∧ cG σ j) (hk : k < 9 ∧ cG σ k) : ¬ f_35 σ (nI i) (nI f) (nI j) (nI k) = 0 ↔ gso (vc σ i f) (vc σ i j) (vc σ i k) := by
  unfold f_35 gso
  simp only [ge0, f_17_toInt hi hf hj, f_17_toInt hi hf hk, f_17_toInt hi hj hk]
  by_cases p : gcr (vc σ i f) (vc σ i j) < 0 <;> by_cases q : gcr (vc σ i f) (vc σ i k) < 0 <;> by_cases r : gcr (vc σ i j) (vc σ i k) < 0 <;> simp [p, q, r]
/-- room i is joined with room j, by the class -/
def aj (σ : mm_S) (i j : Nat) : Prop := j < 9 ∧ hs (σ 15 i) (nI j) = 1
theorem c_34 {d i f : Nat} {Q : mm_Q} {σ : mm_S} (hi : i < 9 ∧ cG σ i) (hn : ∀ j, aj σ i j → cG σ j) (hd : gdd (aj σ i) (vc σ i)) (hf : aj σ i f) (q : ∀ g, nxt (aj σ i) (vc σ i) f g → Q (some (.int (nI g))) σ) : mD (d + 3) 34 [.ref 5, .int (nI i), .int (nI f)] σ Q := by
  have f9 := hf.1
  have ci : (nI i).toNatClampNeg = i := nI_clamp (by omega)
  refine ks_34_0 ?_
  refine lp_dn (P := fun j => ∀ g, g < 9 → nxs (aj σ i) (vc σ i) f j g → mw (d + 2) mt_34 Q 5 [some (.ref 5), some (.int (nI i)), some (.int (nI f)), some (.int (nI g)), some (.int (nI j))] [] σ) 9 ?_ ?_ 0 (by omega) f f9 nxs_0
  · intro g hg h
    refine ks_34_5 (fun g => absurd (by decide) g) (fun g => absurd (by decide) g) (fun g => absurd (by decide) g) (fun g => absurd (by decide) g) (fun _ => q g (nxs_end hf (fun j hj => hj.1) h)) (fun g => absurd (by decide) g) (fun g => absurd (by decide) g) (fun g => absurd (by decide) g) (fun g => absurd (by decide) g) (fun g => absurd (by decide) g)
  · intro j hj ih g hg h
    have nx : ∀ g', g' < 9 → nxs (aj σ i) (vc σ i) f (j + 1) g' → mw (d + 2) mt_34 Q 5 [some (.ref 5), some (.int (nI i)), some (.int (nI f)), some (.int (nI g')), some (.int (nI j + 1))] [] σ := fun g' h1 h2 => by
      rw [nI_1]; exact ih g' h1 h2
    have ne : ∀ {a b : Nat}, a < 9 → b < 9 → ¬ nI a = nI b → a ≠ b := fun ha hb h z => h (by rw [z])
    have eq : ∀ {a b : Nat}, a < 9 → b < 9 → nI a = nI b → a = b := fun ha hb h => (nI_eq (by omega) (by omega)).mp h
    have ajj : ¬ hs (σ 15 (nI i).toNatClampNeg) (nI j) = 0 → aj σ i j := fun h => ⟨hj, by rw [ci] at h; exact (hs_01 _ _).resolve_left h⟩
    refine ks_34_5 (fun _ => pk_in i 9 hi.1) (fun _ => pk_in f 9 f9) (fun _ => pk_in j 9 hj) (fun _ => pk_in g 9 hg) (fun z => absurd z (hI_nle (a := 9) (by omega) hj)) (fun _ a => nx g hg (nxs_skip h (Or.inr (eq hj f9 a)))) (fun _ _ a => nx g hg (nxs_skip h (Or.inl (fun z => ?_)))) (fun _ a b c => nx j hj (nxs_first h (eq hg f9 c) (ajj b) (ne hj f9 a))) (fun _ a b c e => nx g hg ?_) (fun _ a b c e => nx j hj ?_)
    · rw [ci, z.2] at a
      exact absurd a (by decide)
    · have gf := ne hg f9 c
      have ag : aj σ i g := by
        rcases h with ⟨z, _⟩ | ⟨_, z, _⟩
        · exact absurd z gf
        · exact z
      refine nxs_keep hd hf h gf (ajj b) (ne hj f9 a) (fun z => ?_)
      exact (f_35_so hi ⟨f9, hn f hf⟩ ⟨hj, hn j (ajj b)⟩ ⟨hg, hn g ag⟩).mpr z e
    · have gf := ne hg f9 c
      have ag : aj σ i g := by
        rcases h with ⟨z, _⟩ | ⟨_, z, _⟩
        · exact absurd z gf
        · exact z
      exact nxs_take hd hf h gf (ajj b) (ne hj f9 a) ((f_35_so hi ⟨f9, hn f hf⟩ ⟨hj, hn j (ajj b)⟩ ⟨hg, hn g ag⟩).mp e)
