section
-- crossings: the class and the reference see the same
def PR (σ : mm_S) (j : Nat) : Prop := j < 9 ∧ cG σ j ∧ σ 76 j = σ 11 j ∧ σ 77 j = σ 12 j
theorem f_96_z {a b c e f g : Int32} : (f_96 a b c e f g).toInt = if ((((c - a) * (g - b)) - ((e - b) * (f - a))).toInt) < 0 then -1 else if ((((c - a) * (g - b)) - ((e - b) * (f - a))).toInt) = 0 then 0 else 1 := by
  unfold f_96
  generalize (((c - a) * (g - b)) - ((e - b) * (f - a))) = T
  have z : (0 : Int32).toInt = 0 := by decide
  by_cases h : T ≤ 0
  · rw [if_pos h]
    have h' := Int32.le_iff_toInt_le.mp h
    by_cases k : 0 ≤ T
    · rw [if_pos k]
      have k' := Int32.le_iff_toInt_le.mp k
      rw [if_neg (by omega), if_pos (by omega)]; rfl
    · rw [if_neg k]
      have k' := Int32.lt_iff_toInt_lt.mp (Int32.not_le.mp k)
      rw [if_pos (by omega)]; rfl
  · rw [if_neg h]
    have h' := Int32.lt_iff_toInt_lt.mp (Int32.not_le.mp h)
    rw [if_neg (by omega), if_neg (by omega)]; rfl
theorem f_96_g {σ : mm_S} {p q j : Nat} (hp : PR σ p) (hq : PR σ q) (hj : PR σ j) : (f_96 (σ 76 p) (σ 77 p) (σ 76 q) (σ 77 q) (σ 76 j) (σ 77 j)).toInt = if gcr (vc σ p q) (vc σ p j) < 0 then -1 else if gcr (vc σ p q) (vc σ p j) = 0 then 0 else 1 := by
  rw [f_96_z, hp.2.2.1, hp.2.2.2, hq.2.2.1, hq.2.2.2, hj.2.2.1, hj.2.2.2]
  have h := f_17_toInt (σ := σ) ⟨hp.1, hp.2.1⟩ ⟨hq.1, hq.2.1⟩ ⟨hj.1, hj.2.1⟩
  unfold f_17 at h
  have a := hp.1
  have b := hq.1
  have c := hj.1
  rw [nI_clamp (by omega), nI_clamp (by omega), nI_clamp (by omega)] at h
  rw [h]
theorem mi_b {r a b : Int32} {A B R : Int} (ha : a.toInt = A) (hb : b.toInt = B) (hr : r.toInt = R) : ¬ mi r a b = 0 ↔ A ≤ R ∧ R ≤ B := by
  unfold mi
  by_cases h : r < a
  · rw [if_pos h]
    have := Int32.lt_iff_toInt_lt.mp h
    exact ⟨fun z => absurd rfl z, fun z => by omega⟩
  · rw [if_neg h]
    have h' := Int32.le_iff_toInt_le.mp (Int32.not_lt.mp h)
    by_cases k : b < r
    · rw [if_pos k]
      have := Int32.lt_iff_toInt_lt.mp k
      exact ⟨fun z => absurd rfl z, fun z => by omega⟩
    · rw [if_neg k]
      have k' := Int32.le_iff_toInt_le.mp (Int32.not_lt.mp k)
      exact ⟨fun _ => by omega, fun _ => by decide⟩
theorem ab_s {a b : Int32} : (a + b) - b = a ∧ (a + b) - a = b := by
  constructor
  · exact Int32.add_sub_cancel a b
  · rw [Int32.add_comm]; exact Int32.add_sub_cancel b a
theorem bt_l {a b r : Int32} : (b ≤ a → (¬ mi r b ((a + b) - b) = 0 ↔ btw r.toInt a.toInt b.toInt)) ∧ (¬ b ≤ a → (¬ mi r a ((a + b) - a) = 0 ↔ btw r.toInt a.toInt b.toInt)) := by
  rw [ab_s.1, ab_s.2]
  constructor
  · intro h
    have := Int32.le_iff_toInt_le.mp h
    rw [mi_b rfl rfl rfl]
    unfold btw
    omega
  · intro h
    have := Int32.lt_iff_toInt_lt.mp (Int32.not_le.mp h)
    rw [mi_b rfl rfl rfl]
    unfold btw
    omega
theorem ite_01 {p : Prop} [Decidable p] {x : Int32} : ¬ (if p then (0 : Int32) else x) = 0 ↔ ¬ p ∧ ¬ x = 0 := by
  by_cases h : p
  · rw [if_pos h]; exact ⟨fun z => absurd rfl z, fun z => absurd h z.1⟩
  · rw [if_neg h]; exact ⟨fun z => ⟨h, z⟩, fun z => z.2⟩
theorem f_97_iff {σ : mm_S} {j e p q : Nat} (he : e < 21) (hj : PR σ j) (hp : PR σ p) (hq : PR σ q) (e80 : σ 80 e = nI p) (e81 : σ 81 e = nI q) : ¬ f_97 σ (nI j) (nI e) = 0 ↔ lon σ j p q := by
  have a := hp.1
  have b := hq.1
  have c := hj.1
  unfold f_97
  rw [nI_clamp (by omega), e80, e81, nI_clamp (by omega), nI_clamp (by omega), nI_clamp (by omega), ite_01, ite_01]
  have g := f_96_g hp hq hj
  have gz : f_96 (σ 76 p) (σ 77 p) (σ 76 q) (σ 77 q) (σ 76 j) (σ 77 j) = 0 ↔ gcr (vc σ p q) (vc σ p j) = 0 := by
    rw [← Int32.toInt_inj, g]
    have z : (0 : Int32).toInt = 0 := by decide
    split
    · rw [z]; constructor <;> intro h <;> omega
    · split
      · rename_i h; exact ⟨fun _ => h, fun _ => by rw [z]⟩
      · rename_i h; rw [z]; exact ⟨fun h' => by omega, fun h' => absurd h' h⟩
  have ne : ∀ {u : Nat}, u < 9 → (¬ nI j = nI u ↔ j ≠ u) := fun hu => ⟨fun h e => h (by rw [e]), fun h e => h (nI9 c hu e)⟩
  rw [ne a, ne b]
  unfold lon
  refine and_congr Iff.rfl (and_congr Iff.rfl ?_)
  have xx := bt_l (a := σ 76 p) (b := σ 76 q) (r := σ 76 j)
  have yy := bt_l (a := σ 77 p) (b := σ 77 q) (r := σ 77 j)
  have X : btw (pX σ j) (pX σ p) (pX σ q) ↔ btw (σ 76 j).toInt (σ 76 p).toInt (σ 76 q).toInt := by unfold pX; rw [hp.2.2.1, hq.2.2.1, hj.2.2.1]
  have Y : btw (pY σ j) (pY σ p) (pY σ q) ↔ btw (σ 77 j).toInt (σ 77 p).toInt (σ 77 q).toInt := by unfold pY; rw [hp.2.2.2, hq.2.2.2, hj.2.2.2]
  rw [X, Y, ← gz]
  by_cases h0 : f_96 (σ 76 p) (σ 77 p) (σ 76 q) (σ 77 q) (σ 76 j) (σ 77 j) = 0
  · rw [if_pos h0]
    by_cases h1 : σ 76 q ≤ σ 76 p
    · rw [if_pos h1]
      by_cases h2 : σ 77 q ≤ σ 77 p
      · rw [if_pos h2, ite_01, ite_01, xx.1 h1, yy.1 h2]
        exact ⟨fun h => ⟨h0, h.1, h.2.1⟩, fun h => ⟨h.2.1, h.2.2, by decide⟩⟩
      · rw [if_neg h2, ite_01, ite_01, xx.1 h1, yy.2 h2]
        exact ⟨fun h => ⟨h0, h.1, h.2.1⟩, fun h => ⟨h.2.1, h.2.2, by decide⟩⟩
    · rw [if_neg h1]
      by_cases h2 : σ 77 q ≤ σ 77 p
      · rw [if_pos h2, ite_01, ite_01, xx.2 h1, yy.1 h2]
        exact ⟨fun h => ⟨h0, h.1, h.2.1⟩, fun h => ⟨h.2.1, h.2.2, by decide⟩⟩
      · rw [if_neg h2, ite_01, ite_01, xx.2 h1, yy.2 h2]
        exact ⟨fun h => ⟨h0, h.1, h.2.1⟩, fun h => ⟨h.2.1, h.2.2, by decide⟩⟩
  · rw [if_neg h0]
    exact ⟨fun h => absurd rfl h, fun h => absurd h.1 h0⟩
def sg (A : Int) : Int := if A < 0 then -1 else if A = 0 then 0 else 1
theorem sg_p (A B : Int) : sg A * sg B < 0 ↔ A * B < 0 := by
  unfold sg
  rcases Int.lt_trichotomy A 0 with a | a | a
  · rw [if_pos a]
    rcases Int.lt_trichotomy B 0 with b | b | b
    · rw [if_pos b]
      have := Int.mul_pos_of_neg_of_neg a b
      constructor <;> intro h <;> omega
    · rw [b]; simp
    · rw [if_neg (by omega), if_neg (by omega)]
      have := Int.mul_neg_of_neg_of_pos a b
      constructor <;> intro h <;> omega
  · rw [a]; simp
  · rw [if_neg (by omega), if_neg (by omega)]
    rcases Int.lt_trichotomy B 0 with b | b | b
    · rw [if_pos b]
      have := Int.mul_neg_of_pos_of_neg a b
      constructor <;> intro h <;> omega
    · rw [b]; simp
    · rw [if_neg (by omega), if_neg (by omega)]
      have := Int.mul_pos a b
      constructor <;> intro h <;> omega
theorem sg_b (A : Int) : -1 ≤ sg A ∧ sg A ≤ 1 := by
  unfold sg
  split
  · omega
  · split <;> omega
theorem gcr_b {σ : mm_S} {p q j : Nat} (hp : cG σ p) (hq : cG σ q) (hj : cG σ j) : -1922 ≤ gcr (vc σ p q) (vc σ p j) ∧ gcr (vc σ p q) (vc σ p j) ≤ 1922 := by
  unfold cG at hp hq hj
  have b1 := mul_bd (a := pX σ q - pX σ p) (b := pY σ j - pY σ p) (A := 31) (B := 31) (by omega) (by omega)
  have b2 := mul_bd (a := pY σ q - pY σ p) (b := pX σ j - pX σ p) (A := 31) (B := 31) (by omega) (by omega)
  show -1922 ≤ (pX σ q - pX σ p) * (pY σ j - pY σ p) - (pY σ q - pY σ p) * (pX σ j - pX σ p) ∧ (pX σ q - pX σ p) * (pY σ j - pY σ p) - (pY σ q - pY σ p) * (pX σ j - pX σ p) ≤ 1922
  omega
theorem m_neg {x y : Int32} {A B : Int} (hx : x.toInt = A) (hy : y.toInt = B) (ha : -1922 ≤ A ∧ A ≤ 1922) (hb : -1922 ≤ B ∧ B ≤ 1922) : ¬ (0 : Int32) ≤ x * y ↔ A * B < 0 := by
  have b := mul_bd (a := A) (b := B) (A := 1922) (B := 1922) ha hb
  rw [ge0, i32_mul (by rw [hx, hy]; omega), hx, hy]
  omega
theorem gcr_s (u : V2) : gcr u u = 0 := by unfold gcr; rw [Int.mul_comm]; omega
theorem vc_s (σ : mm_S) (p : Nat) : vc σ p p = (0, 0) := by unfold vc; simp
theorem gcr_0 (u : V2) : gcr u (0, 0) = 0 := by unfold gcr; simp
theorem xx_iff {σ : mm_S} {e f p q r s : Nat} (he : e < 21) (hf : f < 21) (hp : PR σ p) (hq : PR σ q) (hr : PR σ r) (hs : PR σ s) (a1 : σ 16 e = nI p) (a2 : σ 17 e = nI q) (a3 : σ 16 f = nI r) (a4 : σ 17 f = nI s) (b1 : σ 80 e = nI p) (b2 : σ 81 e = nI q) (b3 : σ 80 f = nI r) (b4 : σ 81 f = nI s) : mxx σ e f ↔ cxx σ e f := by
  have ce : (nI e).toNatClampNeg = e := nI_clamp (by omega)
  have cf : (nI f).toNatClampNeg = f := nI_clamp (by omega)
  have p9 := hp.1
  have q9 := hq.1
  have r9 := hr.1
  have s9 := hs.1
  have gp : p < 9 ∧ cG σ p := ⟨hp.1, hp.2.1⟩
  have gq : q < 9 ∧ cG σ q := ⟨hq.1, hq.2.1⟩
  have gr : r < 9 ∧ cG σ r := ⟨hr.1, hr.2.1⟩
  have gs : s < 9 ∧ cG σ s := ⟨hs.1, hs.2.1⟩
  have l1 := f_97_iff he hr hp hq b1 b2
  have l2 := f_97_iff he hs hp hq b1 b2
  have l3 := f_97_iff hf hp hr hs b3 b4
  have l4 := f_97_iff hf hq hr hs b3 b4
  have k1 := f_27_iff he gr gp gq a1 a2
  have k2 := f_27_iff he gs gp gq a1 a2
  have k3 := f_27_iff hf gp gr gs a3 a4
  have k4 := f_27_iff hf gq gr gs a3 a4
  have n27 : ∀ x y, f_27 σ x y = 0 ∨ ¬ f_27 σ x y = 0 := fun x y => Classical.em _
  have c26 : ¬ f_26 σ (nI e) (nI f) = 0 ↔ lon σ p r s ∨ lon σ q r s := by
    unfold f_26
    rw [ce, a1, a2, ← k3, ← k4]
    by_cases h : f_27 σ (nI p) (nI f) = 0
    · rw [if_pos h]
      by_cases h' : f_27 σ (nI q) (nI f) = 0
      · rw [if_pos h']; exact ⟨fun z => absurd rfl z, fun z => z.elim (fun y => absurd h y) (fun y => absurd h' y)⟩
      · rw [if_neg h']; exact ⟨fun _ => Or.inr h', fun _ => by decide⟩
    · rw [if_neg h]; exact ⟨fun _ => Or.inl h, fun _ => by decide⟩
  have c26' : ¬ f_26 σ (nI f) (nI e) = 0 ↔ lon σ r p q ∨ lon σ s p q := by
    unfold f_26
    rw [cf, a3, a4, ← k1, ← k2]
    by_cases h : f_27 σ (nI r) (nI e) = 0
    · rw [if_pos h]
      by_cases h' : f_27 σ (nI s) (nI e) = 0
      · rw [if_pos h']; exact ⟨fun z => absurd rfl z, fun z => z.elim (fun y => absurd h y) (fun y => absurd h' y)⟩
      · rw [if_neg h']; exact ⟨fun _ => Or.inr h', fun _ => by decide⟩
    · rw [if_neg h]; exact ⟨fun _ => Or.inl h, fun _ => by decide⟩
  have A := gcr_b hp.2.1 hq.2.1 hr.2.1
  have B := gcr_b hp.2.1 hq.2.1 hs.2.1
  have C := gcr_b hr.2.1 hs.2.1 hp.2.1
  have D := gcr_b hr.2.1 hs.2.1 hq.2.1
  have c29 : ¬ f_29 σ (nI e) (nI f) = 0 ↔ gcr (vc σ p q) (vc σ p r) * gcr (vc σ p q) (vc σ p s) < 0 ∧ gcr (vc σ r s) (vc σ r p) * gcr (vc σ r s) (vc σ r q) < 0 := by
    unfold f_29 f_30
    rw [ce, cf, a1, a2, a3, a4, ← m_neg (f_17_toInt gp gq gr) (f_17_toInt gp gq gs) A B, ← m_neg (f_17_toInt gr gs gp) (f_17_toInt gr gs gq) C D]
    by_cases h : (0 : Int32) ≤ f_17 σ (nI p) (nI q) (nI r) * f_17 σ (nI p) (nI q) (nI s)
    · rw [if_pos h, if_pos rfl]; exact ⟨fun z => absurd rfl z, fun z => absurd h z.1⟩
    · rw [if_neg h, if_neg (by decide)]
      by_cases h' : (0 : Int32) ≤ f_17 σ (nI r) (nI s) (nI p) * f_17 σ (nI r) (nI s) (nI q)
      · rw [if_pos h', if_pos rfl]; exact ⟨fun z => absurd rfl z, fun z => absurd h' z.2⟩
      · rw [if_neg h', if_neg (by decide)]; exact ⟨fun _ => ⟨h, h'⟩, fun _ => by decide⟩
  have cc : cxx σ e f ↔ (lon σ r p q ∨ lon σ s p q ∨ lon σ p r s ∨ lon σ q r s) ∨ (gcr (vc σ p q) (vc σ p r) * gcr (vc σ p q) (vc σ p s) < 0 ∧ gcr (vc σ r s) (vc σ r p) * gcr (vc σ r s) (vc σ r q) < 0) := by
    unfold cxx
    rw [← c29]
    constructor
    · intro h
      by_cases h1 : f_26 σ (nI e) (nI f) = 0
      · by_cases h2 : f_26 σ (nI f) (nI e) = 0
        · exact Or.inr (fun h3 => h ⟨h1, h2, h3⟩)
        · rcases c26'.mp h2 with h | h
          · exact Or.inl (Or.inl h)
          · exact Or.inl (Or.inr (Or.inl h))
      · rcases c26.mp h1 with h | h
        · exact Or.inl (Or.inr (Or.inr (Or.inl h)))
        · exact Or.inl (Or.inr (Or.inr (Or.inr h)))
    · rintro ((h | h | h | h) | h) ⟨z1, z2, z3⟩
      · exact c26'.mpr (Or.inl h) z2
      · exact c26'.mpr (Or.inr h) z2
      · exact c26.mpr (Or.inl h) z1
      · exact c26.mpr (Or.inr h) z1
      · exact h z3
  rw [cc]
  unfold mxx f_98
  rw [ce, cf, b1, b2, b3, b4, ← l1, ← l2, ← l3, ← l4]
  by_cases h1 : f_97 σ (nI r) (nI e) = 0
  · rw [if_pos h1]
    by_cases h2 : f_97 σ (nI s) (nI e) = 0
    · rw [if_pos h2]
      by_cases h3 : f_97 σ (nI p) (nI f) = 0
      · rw [if_pos h3]
        by_cases h4 : f_97 σ (nI q) (nI f) = 0
        · rw [if_pos h4]
          have red : (((¬ f_97 σ (nI r) (nI e) = 0) ∨ (¬ f_97 σ (nI s) (nI e) = 0) ∨ (¬ f_97 σ (nI p) (nI f) = 0) ∨ ¬ f_97 σ (nI q) (nI f) = 0) ∨ (gcr (vc σ p q) (vc σ p r) * gcr (vc σ p q) (vc σ p s) < 0 ∧ gcr (vc σ r s) (vc σ r p) * gcr (vc σ r s) (vc σ r q) < 0)) ↔ (gcr (vc σ p q) (vc σ p r) * gcr (vc σ p q) (vc σ p s) < 0 ∧ gcr (vc σ r s) (vc σ r p) * gcr (vc σ r s) (vc σ r q) < 0) := by
            constructor
            · rintro ((h | h | h | h) | h)
              · exact absurd h1 h
              · exact absurd h2 h
              · exact absurd h3 h
              · exact absurd h4 h
              · exact h
            · exact Or.inr
          rw [red]
          have cl : ∀ {u : Nat}, u < 9 → (nI u).toNatClampNeg = u := fun h => nI_clamp (by omega)
          rw [cl p9, cl q9, cl r9, cl s9, ite_01, ite_01, ite_01, ite_01, ite_01, ite_01]
          have sA := f_96_g hp hq hr
          have sB := f_96_g hp hq hs
          have sC := f_96_g hr hs hp
          have sD := f_96_g hr hs hq
          have b96 : ∀ X : Int, -1922 ≤ sg X ∧ sg X ≤ 1922 := fun X => by have := sg_b X; omega
          rw [m_neg (A := sg (gcr (vc σ p q) (vc σ p r))) (B := sg (gcr (vc σ p q) (vc σ p s))) sA sB (b96 _) (b96 _), m_neg (A := sg (gcr (vc σ r s) (vc σ r p))) (B := sg (gcr (vc σ r s) (vc σ r q))) sC sD (b96 _) (b96 _), sg_p, sg_p]
          constructor
          · rintro ⟨_, _, _, _, h, h', _⟩
            exact ⟨h, h'⟩
          · rintro ⟨h, h'⟩
            refine ⟨fun e => ?_, fun e => ?_, fun e => ?_, fun e => ?_, h, h', by decide⟩
            · have := nI9 p9 r9 e
              subst this
              rw [vc_s, gcr_0, Int.zero_mul] at h; omega
            · have := nI9 p9 s9 e
              subst this
              rw [vc_s, gcr_0, Int.mul_zero] at h; omega
            · have := nI9 q9 r9 e
              subst this
              rw [gcr_s, Int.zero_mul] at h; omega
            · have := nI9 q9 s9 e
              subst this
              rw [gcr_s, Int.mul_zero] at h; omega
        · rw [if_neg h4]; exact ⟨fun _ => Or.inl (Or.inr (Or.inr (Or.inr h4))), fun _ => by decide⟩
      · rw [if_neg h3]; exact ⟨fun _ => Or.inl (Or.inr (Or.inr (Or.inl h3))), fun _ => by decide⟩
    · rw [if_neg h2]; exact ⟨fun _ => Or.inl (Or.inr (Or.inl h2)), fun _ => by decide⟩
  · rw [if_neg h1]; exact ⟨fun _ => Or.inl (Or.inl h1), fun _ => by decide⟩
theorem ZI.pr {σ : mm_S} {n m j : Nat} (Z : ZI σ n m) (hj : j < 9) (hm : m.testBit j = true) : PR σ j := by
  have h := (Z.rm j hj).2 ((Z.ck.dr j hj).mpr hm)
  exact ⟨hj, Z.ck.xy j hj hm, h.1.symm, h.2.symm⟩
theorem ZI.xx {σ : mm_S} {n m e f : Nat} (Z : ZI σ n m) (he : e < n) (hf : f < n) : mxx σ e f ↔ cxx σ e f := by
  have n21 := Z.ck.jn.1
  obtain ⟨p, q, hp, hq, _, mp, mq, a1, a2⟩ := Z.ck.je e he
  obtain ⟨r, s, hr, hs, _, mr, ms, a3, a4⟩ := Z.ck.je f hf
  exact xx_iff (by omega) (by omega) (Z.pr hp mp) (Z.pr hq mq) (Z.pr hr mr) (Z.pr hs ms) a1 a2 a3 a4 (by rw [(Z.jj e he).1]; exact a1) (by rw [(Z.jj e he).2]; exact a2) (by rw [(Z.jj f hf).1]; exact a3) (by rw [(Z.jj f hf).2]; exact a4)
theorem ZI.lx {σ : mm_S} {n m e i : Nat} (Z : ZI σ n m) (he : e < n) (hi : i < 9) : mlx σ e i ↔ clx σ e i := by
  have n21 := Z.ck.jn.1
  obtain ⟨p, q, hp, hq, _, mp, mq, a1, a2⟩ := Z.ck.je e he
  unfold mlx clx
  have x1 : ¬ xd σ (nI i) = 0 ↔ xd σ (nI i) = 1 := ⟨fun h => (xd_01 σ _).resolve_left h, fun h z => by rw [h] at z; exact absurd z (by decide)⟩
  rw [x1, ← (Z.rm i hi).1]
  constructor
  · rintro ⟨h, k⟩
    have pi := Z.pr hi ((Z.ck.dr i hi).mp h)
    refine ⟨h, ?_⟩
    rw [f_27_iff (by omega) ⟨hi, pi.2.1⟩ ⟨hp, (Z.pr hp mp).2.1⟩ ⟨hq, (Z.pr hq mq).2.1⟩ a1 a2]
    exact (f_97_iff (by omega) pi (Z.pr hp mp) (Z.pr hq mq) (by rw [(Z.jj e he).1]; exact a1) (by rw [(Z.jj e he).2]; exact a2)).mp k
  · rintro ⟨h, k⟩
    have pi := Z.pr hi ((Z.ck.dr i hi).mp h)
    refine ⟨h, ?_⟩
    rw [f_97_iff (by omega) pi (Z.pr hp mp) (Z.pr hq mq) (by rw [(Z.jj e he).1]; exact a1) (by rw [(Z.jj e he).2]; exact a2)]
    exact (f_27_iff (by omega) ⟨hi, pi.2.1⟩ ⟨hp, (Z.pr hp mp).2.1⟩ ⟨hq, (Z.pr hq mq).2.1⟩ a1 a2).mp k
end
section
-- the order of directions: from the west, clockwise
theorem grot {a b c : V2} (ha : 0 < gdt a a) (hb : 0 < gdt b b) (hc : 0 < gdt c c) (nab : ¬ gsd a b) (nac : ¬ gsd a c) (nca : ¬ gsd c a) (ncb : ¬ gsd c b) (h : gso a b c) : gso c a b := by
  rcases gtot hc ha hb nca ncb nab with k | k
  · exact k
  · exact (ginj ha nac h k).elim
theorem gsd_c {u v : V2} (h : gsd u v) : gsd v u := by
  unfold gsd at *
  rw [gcr_anti v u, gdt_comm v u, h.1]
  exact ⟨rfl, h.2⟩
theorem gsd_sg {w a v : V2} (hw : 0 < gdt w w) (h : gsd w a) : (gcr w v < 0 ↔ gcr a v < 0) ∧ (gcr w v = 0 ↔ gcr a v = 0) := by
  obtain ⟨h0, h1⟩ := h
  have e := gdt_id a w v
  rw [gcr_anti a w, h0, Int.neg_zero, Int.mul_zero, Int.zero_add, gdt_comm a w] at e
  constructor
  · constructor
    · intro k
      have := Int.mul_neg_of_pos_of_neg h1 k
      rcases Int.lt_or_le (gcr a v) 0 with z | z
      · exact z
      · have := Int.mul_nonneg (Int.le_of_lt hw) z; omega
    · intro k
      have := Int.mul_neg_of_pos_of_neg hw k
      rcases Int.lt_or_le (gcr w v) 0 with z | z
      · exact z
      · have := Int.mul_nonneg (Int.le_of_lt h1) z; omega
  · constructor
    · intro k
      rw [k, Int.mul_zero] at e
      rcases Int.mul_eq_zero.mp e with z | z
      · omega
      · exact z
    · intro k
      rw [k, Int.mul_zero] at e
      rcases Int.mul_eq_zero.mp e.symm with z | z
      · omega
      · exact z
theorem gsd_so {w a u v : V2} (hw : 0 < gdt w w) (h : gsd w a) : gso w u v ↔ gso a u v := by
  unfold gso
  rw [(gsd_sg hw h).1, (gsd_sg hw h).1]
/-- from w on, clockwise, u comes before v (w's own direction first) -/
def gah (w u v : V2) : Prop := (gsd w u ∧ ¬ gsd w v) ∨ (¬ gsd w u ∧ ¬ gsd w v ∧ gso w u v)
theorem gah_asym {w u v : V2} (h : gah w u v) : ¬ gah w v u := by
  intro k
  rcases h with ⟨h1, h2⟩ | ⟨h1, h2, h3⟩ <;> rcases k with ⟨k1, k2⟩ | ⟨k1, k2, k3⟩
  · exact k2 h1
  · exact k2 h1
  · exact h2 k1
  · exact gso_asym h3 k3
theorem gsd_ww {w u v : V2} (hw : 0 < gdt w w) (hu : 0 < gdt u u) (h1 : gsd w u) (h2 : gsd w v) : gsd u v := by
  have e := (gsd_sg (v := v) hw h1).2.mp h2.1
  have e2 := gdt_id2 w u v
  rw [h1.1, Int.zero_mul, Int.add_zero] at e2
  have p := Int.mul_pos h1.2 h2.2
  exact ⟨e, by
    rcases Int.lt_or_le 0 (gdt u v) with z | z
    · exact z
    · have := Int.mul_nonpos_of_nonneg_of_nonpos (Int.le_of_lt hw) z; omega⟩
theorem gah_tot {w u v : V2} (hw : 0 < gdt w w) (hu : 0 < gdt u u) (hv : 0 < gdt v v) (n : ¬ gsd u v) : gah w u v ∨ gah w v u := by
  by_cases p : gsd w u
  · by_cases q : gsd w v
    · exact absurd (gsd_ww hw hu p q) n
    · exact Or.inl (Or.inl ⟨p, q⟩)
  · by_cases q : gsd w v
    · exact Or.inr (Or.inl ⟨q, p⟩)
    · rcases gtot hw hu hv p q n with k | k
      · exact Or.inl (Or.inr ⟨p, q, k⟩)
      · exact Or.inr (Or.inr ⟨q, p, k⟩)
theorem gah_trans {w u v x : V2} (hw : 0 < gdt w w) (hu : 0 < gdt u u) (hx : 0 < gdt x x) (n : ¬ gsd u x) (h : gah w u v) (k : gah w v x) : gah w u x := by
  rcases h with ⟨h1, h2⟩ | ⟨h1, h2, h3⟩ <;> rcases k with ⟨k1, k2⟩ | ⟨k1, k2, k3⟩
  · exact absurd k1 h2
  · exact Or.inl ⟨h1, k2⟩
  · exact absurd k1 h2
  · exact Or.inr ⟨h1, k2, gtrans hw hu hx h1 h2 k2 n h3 k3⟩
/-- three in their order from w on: the second comes before the third behind the first -/
theorem gah_3 {w a u v : V2} (hw : 0 < gdt w w) (ha : 0 < gdt a a) (hu : 0 < gdt u u) (hv : 0 < gdt v v) (nau : ¬ gsd a u) (nav : ¬ gsd a v) (nuv : ¬ gsd u v) (h : gah w a u) (k : gah w u v) : gso a u v ∧ gso u v a ∧ gso v a u := by
  have nua : ¬ gsd u a := fun z => nau (gsd_c z)
  have nva : ¬ gsd v a := fun z => nav (gsd_c z)
  have nvu : ¬ gsd v u := fun z => nuv (gsd_c z)
  have key : gso a u v := by
    rcases h with ⟨h1, h2⟩ | ⟨h1, h2, h3⟩
    · rcases k with ⟨k1, k2⟩ | ⟨k1, k2, k3⟩
      · exact absurd k1 h2
      · exact (gsd_so hw h1).mp k3
    · rcases k with ⟨k1, k2⟩ | ⟨k1, k2, k3⟩
      · exact absurd k1 h2
      · have nwa : ¬ gsd a w := fun z => h1 (gsd_c z)
        have nwu : ¬ gsd u w := fun z => h2 (gsd_c z)
        have nwv : ¬ gsd v w := fun z => k2 (gsd_c z)
        -- [u, v, w] and [u, w, a]
        have r1 : gso v w u := grot hw hu hv h2 k2 nwv nvu k3
        have r2 : gso u v w := grot hv hw hu nwv nvu nuv nwu r1
        have r3 : gso u w a := grot hw ha hu h1 h2 nwu nua h3
        have r4 : gso u v a := gtrans hu hv ha nuv nwu nua nva r2 r3
        exact grot hu hv ha nuv nua nau nav r4
  have r1 : gso v a u := grot ha hu hv nau nav nva nvu key
  exact ⟨key, grot hv ha hu nva nvu nuv nua r1, r1⟩
/-! the reference's parts -/
def wst : V2 := (-1, 0)
theorem wst_pos : 0 < gdt wst wst := by decide
def gpt (x y : Int) : Nat := if x < 0 ∧ y = 0 then 0 else if x < 0 ∧ 0 < y then 1 else if 0 ≤ x ∧ 0 < y then 2 else if 0 < x ∧ y ≤ 0 then 3 else 4
theorem f_102_n (x y : Int32) : f_102 x y = nI (gpt x.toInt y.toInt) := by
  have e0 : (0 : Int32).toInt = 0 := by decide
  unfold f_102 gpt
  simp only [Int32.le_iff_toInt_le, Int32.lt_iff_toInt_lt, ← Int32.toInt_inj, e0]
  rcases Int.lt_trichotomy x.toInt 0 with a | a | a <;> rcases Int.lt_trichotomy y.toInt 0 with b | b | b
  all_goals (repeat' split) <;> first | rfl | (exfalso; omega)
theorem gpt_lt (x y : Int) : gpt x y < 5 := by
  unfold gpt
  repeat' split
  all_goals omega
theorem gah_w (u v : V2) : gah wst u v ↔ ((u.2 = 0 ∧ u.1 < 0) ∧ ¬ (v.2 = 0 ∧ v.1 < 0)) ∨ (¬ (u.2 = 0 ∧ u.1 < 0) ∧ ¬ (v.2 = 0 ∧ v.1 < 0) ∧ ((0 < u.2 ∧ ¬ 0 < v.2) ∨ ((0 < u.2 ↔ 0 < v.2) ∧ gcr u v < 0))) := by
  have c1 : ∀ x : V2, gcr wst x = - x.2 := fun x => by unfold gcr wst; show (-1) * x.2 - 0 * x.1 = _; omega
  have c2 : ∀ x : V2, gdt wst x = - x.1 := fun x => by unfold gdt wst; show (-1) * x.1 + 0 * x.2 = _; omega
  have c3 : ∀ x : V2, gsd wst x ↔ (x.2 = 0 ∧ x.1 < 0) := fun x => by unfold gsd; rw [c1, c2]; omega
  have c4 : ∀ x : V2, gcr wst x < 0 ↔ 0 < x.2 := fun x => by rw [c1]; omega
  unfold gah gso
  rw [c3, c3, c4, c4]
theorem gpt_c {a b : Int} (h : ¬ (a = 0 ∧ b = 0)) : (gpt a b = 0 ∧ a < 0 ∧ b = 0) ∨ (gpt a b = 1 ∧ a < 0 ∧ 0 < b) ∨ (gpt a b = 2 ∧ 0 ≤ a ∧ 0 < b) ∨ (gpt a b = 3 ∧ 0 < a ∧ b ≤ 0) ∨ (gpt a b = 4 ∧ a ≤ 0 ∧ b < 0) := by
  unfold gpt
  by_cases h1 : a < 0 ∧ b = 0
  · rw [if_pos h1]; omega
  · rw [if_neg h1]
    by_cases h2 : a < 0 ∧ 0 < b
    · rw [if_pos h2]; omega
    · rw [if_neg h2]
      by_cases h3 : 0 ≤ a ∧ 0 < b
      · rw [if_pos h3]; omega
      · rw [if_neg h3]
        by_cases h4 : 0 < a ∧ b ≤ 0
        · rw [if_pos h4]; omega
        · rw [if_neg h4]; omega
theorem gah_pt {u v : V2} (hu : ¬ (u.1 = 0 ∧ u.2 = 0)) (hv : ¬ (v.1 = 0 ∧ v.2 = 0)) : (gpt u.1 u.2 < gpt v.1 v.2 ∨ (gpt u.1 u.2 = gpt v.1 v.2 ∧ gcr u v < 0)) ↔ gah wst u v := by
  rw [gah_w]
  have cu := gpt_c hu
  have cv := gpt_c hv
  have eg : gcr u v = u.1 * v.2 - u.2 * v.1 := rfl
  rw [eg]
  generalize gpt u.1 u.2 = P at *
  generalize gpt v.1 v.2 = R at *
  generalize u.1 = a at *
  generalize u.2 = b at *
  generalize v.1 = x at *
  generalize v.2 = y at *
  clear eg hu hv
  -- the signs of the products
  have s1 : a < 0 → 0 ≤ x → 0 < b → 0 < y → a * y - b * x < 0 := fun h1 h2 h3 h4 => by
    have := Int.mul_neg_of_neg_of_pos h1 h4
    have := Int.mul_nonneg (Int.le_of_lt h3) h2
    omega
  have s2 : 0 ≤ a → x < 0 → 0 < b → 0 < y → 0 < a * y - b * x := fun h1 h2 h3 h4 => by
    have := Int.mul_nonneg h1 (Int.le_of_lt h4)
    have := Int.mul_neg_of_pos_of_neg h3 h2
    omega
  have s3 : 0 < a → b ≤ 0 → x ≤ 0 → y < 0 → a * y - b * x < 0 := fun h1 h2 h3 h4 => by
    have := Int.mul_neg_of_pos_of_neg h1 h4
    have := Int.mul_nonneg_of_nonpos_of_nonpos h2 h3
    omega
  have s4 : a ≤ 0 → b < 0 → 0 < x → y ≤ 0 → 0 < a * y - b * x := fun h1 h2 h3 h4 => by
    have := Int.mul_nonneg_of_nonpos_of_nonpos h1 h4
    have := Int.mul_neg_of_neg_of_pos h2 h3
    omega
  have s5 : b = 0 → y = 0 → a * y - b * x = 0 := fun h1 h2 => by rw [h1, h2, Int.mul_zero, Int.zero_mul]; rfl
  generalize a * y - b * x = g at *
  rcases cu with ⟨e, h1, h2⟩ | ⟨e, h1, h2⟩ | ⟨e, h1, h2⟩ | ⟨e, h1, h2⟩ | ⟨e, h1, h2⟩ <;> rcases cv with ⟨e', h3, h4⟩ | ⟨e', h3, h4⟩ | ⟨e', h3, h4⟩ | ⟨e', h3, h4⟩ | ⟨e', h3, h4⟩ <;> subst e <;> subst e' <;> omega
theorem f_103_cg {σ ρ : mm_S} (h76 : ρ 76 = σ 76) (h77 : ρ 77 = σ 77) (h80 : ρ 80 = σ 80) (h81 : ρ 81 = σ 81) : f_103 ρ = f_103 σ := by
  funext a b c
  unfold f_103 f_101
  rw [h76, h77, h80, h81]
theorem f_103_ah {σ : mm_S} {r k l o p : Nat} (hr : PR σ r) (ho : PR σ o) (hp : PR σ p) (eo : f_101 σ (nI k) (nI r) = nI o) (ep : f_101 σ (nI l) (nI r) = nI p) (no : ¬ ((vc σ r o).1 = 0 ∧ (vc σ r o).2 = 0)) (np : ¬ ((vc σ r p).1 = 0 ∧ (vc σ r p).2 = 0)) : f_103 σ (nI k) (nI l) (nI r) = 1 ↔ gah wst (vc σ r o) (vc σ r p) := by
  obtain ⟨r9, gr, r1, r2⟩ := hr
  obtain ⟨o9, go, o1, o2⟩ := ho
  obtain ⟨p9, gp, p1, p2⟩ := hp
  rw [← gah_pt no np]
  unfold f_103
  rw [eo, ep, nI_clamp (show r < 2 ^ 31 by omega), nI_clamp (show o < 2 ^ 31 by omega), nI_clamp (show p < 2 ^ 31 by omega), r1, r2, o1, o2, p1, p2]
  obtain ⟨gr1, gr2, gr3, gr4⟩ := gr
  obtain ⟨go1, go2, go3, go4⟩ := go
  obtain ⟨gp1, gp2, gp3, gp4⟩ := gp
  unfold pX at gr1 gr2 go1 go2 gp1 gp2
  unfold pY at gr3 gr4 go3 go4 gp3 gp4
  have d1 : (σ 11 o - σ 11 r).toInt = (vc σ r o).1 := i32_sub (by omega)
  have d2 : (σ 12 o - σ 12 r).toInt = (vc σ r o).2 := i32_sub (by omega)
  have d3 : (σ 11 p - σ 11 r).toInt = (vc σ r p).1 := i32_sub (by omega)
  have d4 : (σ 12 p - σ 12 r).toInt = (vc σ r p).2 := i32_sub (by omega)
  have cr := tn_toInt (a := σ 11 r) (b := σ 12 r) (c := σ 11 o) (e := σ 12 o) (f := σ 11 p) (g := σ 12 p) ⟨⟨gr1, gr2⟩, ⟨gr3, gr4⟩, ⟨go1, go2⟩, ⟨go3, go4⟩, ⟨gp1, gp2⟩, ⟨gp3, gp4⟩⟩
  have cr' : (((σ 11 o - σ 11 r) * (σ 12 p - σ 12 r)) - ((σ 12 o - σ 12 r) * (σ 11 p - σ 11 r))).toInt = gcr (vc σ r o) (vc σ r p) := cr
  rw [f_102_n, f_102_n, d1, d2, d3, d4]
  have l1 := gpt_lt (vc σ r o).1 (vc σ r o).2
  have l2 := gpt_lt (vc σ r p).1 (vc σ r p).2
  generalize gpt (vc σ r o).1 (vc σ r o).2 = P at *
  generalize gpt (vc σ r p).1 (vc σ r p).2 = R at *
  by_cases e : P = R
  · rw [if_pos (by rw [e])]
    have g0 : 0 ≤ ((σ 11 o - σ 11 r) * (σ 12 p - σ 12 r)) - ((σ 12 o - σ 12 r) * (σ 11 p - σ 11 r)) ↔ ¬ gcr (vc σ r o) (vc σ r p) < 0 := by rw [ge0, cr']
    by_cases z : gcr (vc σ r o) (vc σ r p) < 0
    · rw [if_neg (fun y => g0.mp y z)]
      exact ⟨fun _ => Or.inr ⟨e, z⟩, fun _ => rfl⟩
    · rw [if_pos (g0.mpr z)]
      exact ⟨fun y => absurd y (by decide), fun y => by rcases y with y | y; omega; exact absurd y.2 z⟩
  · rw [if_neg (fun y => e ((nI_eq (by omega) (by omega)).mp y))]
    by_cases z : R ≤ P
    · rw [if_pos (hI_le (by omega) z)]
      exact ⟨fun y => absurd y (by decide), fun y => by omega⟩
    · rw [if_neg (hI_nle (by omega) (by omega))]
      exact ⟨fun _ => Or.inl (by omega), fun _ => rfl⟩
end
section
-- the reference's sortAround sorts
def OTr (σ : mm_S) (n r : Nat) : Prop := (∀ k l, k < n → l < n → em σ r k → em σ r l → k ≠ l → f_103 σ (nI k) (nI l) (nI r) = 1 ∨ f_103 σ (nI l) (nI k) (nI r) = 1) ∧ (∀ j k l, j < n → k < n → l < n → em σ r j → em σ r k → em σ r l → f_103 σ (nI j) (nI k) (nI r) = 1 → f_103 σ (nI k) (nI l) (nI r) = 1 → f_103 σ (nI j) (nI l) (nI r) = 1)
def RS (σ τ : mm_S) (r k : Nat) : Prop := ∃ w, w < 512 ∧ ¬ w.testBit r = true ∧ τ 87 r = nI (bc w 9) ∧ (∀ i, i < bc w 9 → ∃ k', k' < k ∧ em σ r k' ∧ τ 88 (16 * r + i) = nI k') ∧ (∀ k', k' < k → em σ r k' → ∃ i, i < bc w 9 ∧ τ 88 (16 * r + i) = nI k') ∧ (∀ o, w.testBit o = true → o ≠ r ∧ ∃ k', k' < k ∧ em σ r k' ∧ em σ o k') ∧ (∀ i j, i < j → j < bc w 9 → f_103 σ (τ 88 (16 * r + i)) (τ 88 (16 * r + j)) (nI r) = 1)
def AO (σ τ : mm_S) (n : Nat) : Prop := ∀ r, r < 9 → ∃ dg, dg ≤ 8 ∧ τ 87 r = nI dg ∧ (∀ i, i < dg → ∃ k, k < n ∧ em σ r k ∧ τ 88 (16 * r + i) = nI k) ∧ (∀ k, k < n → em σ r k → ∃ i, i < dg ∧ τ 88 (16 * r + i) = nI k) ∧ (∀ i j, i < j → j < dg → f_103 σ (τ 88 (16 * r + i)) (τ 88 (16 * r + j)) (nI r) = 1)
theorem c_104s {d n : Nat} {Q : mm_Q} {σ : mm_S} (M : MK σ n) (OT : ∀ r, r < 9 → OTr σ n r) (q : ∀ τ : mm_S, (∀ c, c ≠ 87 → c ≠ 88 → τ c = σ c) → AO σ τ n → Q none τ) : mD (d + 3) 104 [.ref 10] σ Q := by
  have n21 := M.jn.1
  refine ke_104 (kb_104_0 ?_)
  refine lp_dn (P := fun r => ∀ τ : mm_S, (∀ c, c ≠ 87 → c ≠ 88 → τ c = σ c) → (∀ r', r' < r → RS σ τ r' n) → ∀ o2 o3, mw (d + 2) mt_104 Q 2 [some (.ref 10), some (.int (nI r)), o2, o3] [] τ) 9 ?_ ?_ 0 (by omega) σ (fun _ _ _ => rfl) (fun r' h => absurd h (Nat.not_lt_zero r')) none none
  · intro τ fr hR o2 o3
    refine kb_104_2 (fun _ => kb_104_154 (q τ fr (fun r hr => ?_))) (fun g => absurd (by decide) g)
    obtain ⟨w, w9, wr, e87, a1, a2, _, a4⟩ := hR r hr
    exact ⟨bc w 9, by have := bc_not hr wr; omega, e87, a1, a2, a4⟩
  · intro r hr ih τ fr hR o2 o3
    have cr : (nI r).toNatClampNeg = r := nI_clamp (by omega)
    refine kb_104_2 (fun g => absurd g (hI_nle (a := 9) (by omega) hr)) (fun _ => kb_104_8 (pk_in r 9 hr) ?_)
    rw [cr]
    -- over the joins
    refine lp_dn (P := fun k => ∀ τ : mm_S, (∀ c, c ≠ 87 → c ≠ 88 → τ c = σ c) → (∀ r', r' < r → RS σ τ r' n) → RS σ τ r k → ∀ o3, mw (d + 2) mt_104 Q 17 [some (.ref 10), some (.int (nI r)), some (.int (nI k)), o3] [] τ) n ?_ ?_ 0 (Nat.zero_le n) _ (fun c h1 h2 => by rw [mm_up_n h1]; exact fr c h1 h2) (fun r' hr' => ?_) ⟨0, by decide, by simp, mm_up_s, fun i hi => absurd hi (by rw [show bc 0 9 = 0 by decide]; omega), fun k' hk' => absurd hk' (Nat.not_lt_zero k'), fun o h => absurd h (by simp), fun i j _ h => absurd h (by rw [show bc 0 9 = 0 by decide]; omega)⟩ o3
    · intro τ fr hR R o3
      have e6 : τ 10 6 = nI n := by rw [fr 10 (by decide) (by decide)]; exact M.jn.2
      refine kb_104_17 (fun _ => kb_104_148 ?_) (fun g => absurd (by rw [e6]; exact hI_le (by omega) (Nat.le_refl n)) g)
      rw [nI_1]
      refine ih τ fr (fun r' hr' => ?_) _ _
      by_cases e : r' = r
      · subst e; exact R
      · exact hR r' (by omega)
    · intro k hk ihk τ fr hR R o3
      have e6 : τ 10 6 = nI n := by rw [fr 10 (by decide) (by decide)]; exact M.jn.2
      have ck : (nI k).toNatClampNeg = k := nI_clamp (by omega)
      have e80 : τ 80 = σ 80 := fr 80 (by decide) (by decide)
      have e81 : τ 81 = σ 81 := fr 81 (by decide) (by decide)
      have e75 : τ 75 = σ 75 := fr 75 (by decide) (by decide)
      -- room r isn't drawn: no join is at it
      have skipall : σ 75 r = 0 → ∀ k', k' < n → ¬ em σ r k' := fun z k' hk' h => by
        obtain ⟨o, _, _, _, _, _, dr, _⟩ := MK_ot M hk' hr h
        exact dr z
      have next : ¬ em σ r k → ∀ o3, mw (d + 2) mt_104 Q 17 [some (.ref 10), some (.int (nI r)), some (.int (nI k + 1)), o3] [] τ := fun hn o3 => by
        rw [nI_1]
        refine ihk τ fr hR ?_ o3
        obtain ⟨w, w9, wr, e87, a1, a2, a3, a4⟩ := R
        refine ⟨w, w9, wr, e87, fun i hi => ?_, fun k' hk' hem => ?_, fun o ho => ?_, a4⟩
        · obtain ⟨k', h1, h2, h3⟩ := a1 i hi; exact ⟨k', by omega, h2, h3⟩
        · by_cases e : k' = k
          · subst e; exact absurd hem hn
          · exact a2 k' (by omega) hem
        · obtain ⟨b1, k', b2, b3⟩ := a3 o ho; exact ⟨b1, k', by omega, b3⟩
      have take : em σ r k → ∀ o3, mw (d + 2) mt_104 Q 57 [some (.ref 10), some (.int (nI r)), some (.int (nI k)), o3] [] τ := fun hem o3 => by
        obtain ⟨w, w9, wr, e87, a1, a2, a3, a4⟩ := R
        have dl : bc w 9 ≤ 8 := by have := bc_not hr wr; omega
        obtain ⟨o, o9, onr, eo, emo, _, _, ends⟩ := MK_ot M hk hr hem
        have ow : ¬ w.testBit o = true := fun y => by
          obtain ⟨_, k', hk', h1, h2⟩ := a3 o y
          have hk'' : k' < n := by omega
          obtain ⟨o', o9', onr', eo', _, _, _, ends'⟩ := MK_ot M hk'' hr h1
          have oo : o' = o := by
            unfold em at h2
            rcases ends' with ⟨p, q⟩ | ⟨p, q⟩
            · rw [p, q] at h2
              rcases h2 with h2 | h2
              · exact absurd (nI9 hr o9 h2).symm onr
              · exact nI9 o9' o9 h2
            · rw [p, q] at h2
              rcases h2 with h2 | h2
              · exact nI9 o9' o9 h2
              · exact absurd (nI9 hr o9 h2).symm onr
          subst oo
          have : k = k' := by
            rcases ends with ⟨p, q⟩ | ⟨p, q⟩
            · exact M.jd k k' hk hk'' r o' p q ends'
            · exact M.jd k k' hk hk'' o' r p q ends'.symm
          omega
        have b8 : bc w 9 + 1 ≤ 9 := by omega
        have f101 : ∀ k' (ρ : mm_S), k' < n → em σ r k' → ρ 80 = σ 80 → ρ 81 = σ 81 → vp_in (f_101 ρ (nI k') (nI r)) 9 := fun k' ρ hk' h h80 h81 => by
          obtain ⟨o, o9, _, eo, _⟩ := MK_ot M hk' hr h
          have : f_101 ρ (nI k') (nI r) = f_101 σ (nI k') (nI r) := by unfold f_101; rw [h80, h81]
          rw [this, eo]; exact pk_in o 9 o9
        -- behind the place
        have put : ∀ (i : Nat) (ρ : mm_S) (o3 : Option Value), i ≤ bc w 9 → (∀ c, c ≠ 88 → ρ c = τ c) → (∀ x, (x < 16 * r ∨ 16 * r + bc w 9 < x) → ρ 88 x = τ 88 x) → (∀ j, j < i → ρ 88 (16 * r + j) = τ 88 (16 * r + j)) → (∀ j, i < j → j ≤ bc w 9 → ρ 88 (16 * r + j) = τ 88 (16 * r + (j - 1))) → (∀ j, i ≤ j → j < bc w 9 → f_103 σ (nI k) (τ 88 (16 * r + j)) (nI r) = 1) → (∀ j, j < i → f_103 σ (τ 88 (16 * r + j)) (nI k) (nI r) = 1) → mw (d + 2) mt_104 Q 17 [some (.ref 10), some (.int (nI r)), some (.int (nI k + 1)), o3] [] (mm_up (mm_up ρ 88 ((16 : Int32) * nI r + nI i).toNatClampNeg (nI k)) 87 (nI r).toNatClampNeg ((ρ 87 (nI r).toNatClampNeg) + 1)) := by
          intro i ρ o3 hi f1 out lo hi2 hb ha
          rw [nI_1, nI_16, cr, nI_clamp (show 16 * r + i < 2 ^ 31 by omega), f1 87 (by decide), e87, nI_1]
          have wbc : bc (w ||| 2 ^ o) 9 = bc w 9 + 1 := by rw [bc_add ow, if_pos o9]
          have rd : ∀ x, (mm_up (mm_up ρ 88 (16 * r + i) (nI k)) 87 r (nI (bc w 9 + 1))) 88 x = if x = 16 * r + i then nI k else ρ 88 x := fun x => by
            rw [mm_up_n (by decide)]
            by_cases e : x = 16 * r + i
            · rw [if_pos e, e]; exact mm_up_s
            · rw [if_neg e]; exact mm_up_o e
          refine ihk _ (fun c h1 h2 => by rw [mm_up_n h1, mm_up_n h2, f1 c h2]; exact fr c h1 h2) (fun r' hr' => ?_) ?_ o3
          · obtain ⟨w', b1, b2, b3, b4, b5, b6, b7⟩ := hR r' hr'
            have b8' : bc w' 9 ≤ 8 := by have := bc_not (show r' < 9 by omega) b2; omega
            have same : ∀ i', i' < bc w' 9 → (mm_up (mm_up ρ 88 (16 * r + i) (nI k)) 87 r (nI (bc w 9 + 1))) 88 (16 * r' + i') = τ 88 (16 * r' + i') := fun i' hi' => by
              rw [rd, if_neg (by omega)]; exact out _ (by omega)
            refine ⟨w', b1, b2, by rw [mm_up_o (by omega), mm_up_n (by decide), f1 87 (by decide)]; exact b3, fun i' hi' => by rw [same i' hi']; exact b4 i' hi', fun k' hk' h => ?_, b6, fun i' j' h1 h2 => by rw [same i' (by omega), same j' h2]; exact b7 i' j' h1 h2⟩
            obtain ⟨i', c1, c2⟩ := b5 k' hk' h
            exact ⟨i', c1, by rw [same i' c1]; exact c2⟩
          · refine ⟨w ||| 2 ^ o, Nat.or_lt_two_pow (n := 9) w9 (Nat.pow_lt_pow_right (by decide) o9), ?_, by rw [wbc]; exact mm_up_s, fun j hj => ?_, fun k' hk' h => ?_, fun x hx => ?_, fun x y hxy hy => ?_⟩
            · rw [Nat.testBit_or, Nat.testBit_two_pow, Bool.or_eq_true]
              rintro (y | y)
              · exact wr y
              · exact onr (by simpa using y)
            · rw [wbc] at hj
              rw [rd]
              by_cases e : j = i
              · rw [if_pos (by omega)]; exact ⟨k, by omega, hem, rfl⟩
              · rw [if_neg (by omega)]
                by_cases l : j < i
                · obtain ⟨k', c1, c2, c3⟩ := a1 j (by omega)
                  exact ⟨k', by omega, c2, by rw [lo j l]; exact c3⟩
                · obtain ⟨k', c1, c2, c3⟩ := a1 (j - 1) (by omega)
                  exact ⟨k', by omega, c2, by rw [hi2 j (by omega) (by omega)]; exact c3⟩
            · rw [wbc]
              by_cases e : k' = k
              · subst e; exact ⟨i, by omega, by rw [rd, if_pos rfl]⟩
              · obtain ⟨j, c1, c2⟩ := a2 k' (by omega) h
                by_cases l : j < i
                · exact ⟨j, by omega, by rw [rd, if_neg (by omega), lo j l]; exact c2⟩
                · exact ⟨j + 1, by omega, by rw [rd, if_neg (by omega), hi2 (j + 1) (by omega) (by omega)]; exact c2⟩
            · rw [Nat.testBit_or, Nat.testBit_two_pow, Bool.or_eq_true] at hx
              rcases hx with hx | hx
              · obtain ⟨c1, k', c2, c3⟩ := a3 x hx; exact ⟨c1, k', by omega, c3⟩
              · have : o = x := by simpa using hx
                subst this
                exact ⟨onr, k, by omega, hem, emo⟩
            · rw [wbc] at hy
              rw [rd, rd]
              by_cases ex : x = i
              · rw [if_pos (by omega), if_neg (by omega), hi2 y (by omega) (by omega)]
                exact hb (y - 1) (by omega) (by omega)
              · rw [if_neg (by omega)]
                by_cases ey : y = i
                · rw [if_pos (by omega), lo x (by omega)]
                  exact ha x (by omega)
                · rw [if_neg (by omega)]
                  by_cases lx : x < i
                  · rw [lo x lx]
                    by_cases ly : y < i
                    · rw [lo y ly]; exact a4 x y hxy (by omega)
                    · rw [hi2 y (by omega) (by omega)]; exact a4 x (y - 1) (by omega) (by omega)
                  · rw [hi2 x (by omega) (by omega), hi2 y (by omega) (by omega)]
                    exact a4 (x - 1) (y - 1) (by omega) (by omega)
        refine kb_104_57 (pk_in r 9 hr) ?_
        rw [cr, e87]
        have shift : ∀ i, i ≤ bc w 9 → ∀ ρ : mm_S, (∀ c, c ≠ 88 → ρ c = τ c) → (∀ x, (x < 16 * r ∨ 16 * r + bc w 9 < x) → ρ 88 x = τ 88 x) → (∀ j, j < i → ρ 88 (16 * r + j) = τ 88 (16 * r + j)) → (∀ j, i < j → j ≤ bc w 9 → ρ 88 (16 * r + j) = τ 88 (16 * r + (j - 1))) → (∀ j, i ≤ j → j < bc w 9 → f_103 σ (nI k) (τ 88 (16 * r + j)) (nI r) = 1) → mw (d + 2) mt_104 Q 64 [some (.ref 10), some (.int (nI r)), some (.int (nI k)), some (.int (nI i))] [] ρ := by
          intro i
          induction i with
          | zero =>
            intro hi ρ f1 out lo hi2 hb
            have z0 : nI 0 ≤ (0 : Int32) := by decide
            refine ks_104_64 (fun _ => by rw [nI_16]; exact pk_in (16 * r + 0) 144 (by omega)) (fun _ => pk_in r 9 hr) (fun g => absurd z0 g) (fun g => absurd z0 g) (fun g => absurd z0 g) (fun g => absurd z0 g) (fun g => absurd z0 g) (fun g => absurd z0 g) (fun g => absurd z0 g) (fun g => absurd z0 g) (fun g => absurd z0 g) (fun g => absurd z0 g) (fun _ => put 0 ρ _ hi f1 out lo hi2 hb (fun j hj => absurd hj (Nat.not_lt_zero j))) (fun g => absurd z0 g) (fun g => absurd z0 g)
          | succ i ihi =>
            intro hi ρ f1 out lo hi2 hb
            have zn : ¬ (nI (i + 1) ≤ 0) := nI_nle (by omega) (by omega)
            have ei : (16 : Int32) * nI r + nI (i + 1) - 1 = nI (16 * r + i) := by rw [nI_16]; exact nI_pred (16 * r + i)
            have ci : (nI (16 * r + i)).toNatClampNeg = 16 * r + i := nI_clamp (by omega)
            obtain ⟨kx, x1, x2, x3⟩ := a1 i (by omega)
            have e88 : ρ 88 ((16 : Int32) * nI r + nI (i + 1) - 1).toNatClampNeg = nI kx := by rw [ei, ci, lo i (by omega)]; exact x3
            have v1 : vp_in ((16 : Int32) * nI r + nI (i + 1) - 1) 144 := by rw [ei]; exact pk_in (16 * r + i) 144 (by omega)
            have v2 : vp_in ((16 : Int32) * nI r + nI (i + 1)) 144 := by rw [nI_16]; exact pk_in (16 * r + (i + 1)) 144 (by omega)
            have h80 : ρ 80 = σ 80 := by rw [f1 80 (by decide)]; exact e80
            have h81 : ρ 81 = σ 81 := by rw [f1 81 (by decide)]; exact e81
            have fc : f_103 ρ = f_103 σ := f_103_cg (by rw [f1 76 (by decide)]; exact fr 76 (by decide) (by decide)) (by rw [f1 77 (by decide)]; exact fr 77 (by decide) (by decide)) h80 h81
            refine ks_104_64 (fun g => absurd g zn) (fun g => absurd g zn) (fun _ => v1) (fun _ => pk_in k 21 (by omega)) (fun _ => f101 k ρ hk hem h80 h81) (fun _ => pk_in r 9 hr) (fun _ => by rw [e88]; exact pk_in kx 21 (by omega)) (fun _ => by rw [e88]; exact f101 kx ρ (by omega) x2 h80 h81) (fun _ _ => v2) (fun _ _ => pk_in r 9 hr) (fun _ _ => v1) (fun _ _ => v2) (fun g => absurd g zn) (fun _ z => put (i + 1) ρ _ hi f1 out lo hi2 hb (fun j hj => ?_)) (fun _ z => ?_)
            · -- behind what isn't ahead
              rw [e88, fc] at z
              have tx : f_103 σ (nI kx) (nI k) (nI r) = 1 := by
                rcases OT r hr |>.1 k kx hk (by omega) hem x2 (by omega) with y | y
                · rw [y] at z; exact absurd z (by decide)
                · exact y
              by_cases e : j = i
              · subst e; rw [x3]; exact tx
              · obtain ⟨kj, j1, j2, j3⟩ := a1 j (by omega)
                have s1 := a4 j i (by omega) (by omega)
                rw [x3, j3] at s1
                rw [j3]
                exact OT r hr |>.2 kj kx k (by omega) (by omega) hk j2 x2 hem s1 tx
            have hk1 : f_103 σ (nI k) (nI kx) (nI r) = 1 := by
              rw [e88, fc] at z
              exact (f_103_01 σ _ _ _).resolve_left z
            rw [e88, nI_pm, nI_16, nI_clamp (show 16 * r + (i + 1) < 2 ^ 31 by omega)]
            refine ihi (by omega) _ (fun c hc => by rw [mm_up_n hc]; exact f1 c hc) (fun x hx => by rw [mm_up_o (by omega)]; exact out x hx) (fun j hj => by rw [mm_up_o (by omega)]; exact lo j (by omega)) (fun j h1 h2 => ?_) (fun j h1 h2 => ?_)
            · by_cases e : j = i + 1
              · subst e
                rw [mm_up_s, show i + 1 - 1 = i by omega]; exact x3.symm
              · rw [mm_up_o (by omega)]; exact hi2 j (by omega) h2
            · by_cases e : j = i
              · subst e; rw [x3]; exact hk1
              · exact hb j (by omega) h2
        exact shift (bc w 9) (Nat.le_refl _) τ (fun _ _ => rfl) (fun _ _ => rfl) (fun _ _ => rfl) (fun j h1 h2 => by omega) (fun j h1 h2 => by omega)
      refine kb_104_17 (fun g => absurd g (by rw [e6]; exact hI_nle (by omega) hk)) (fun _ => kb_104_25 (pk_in r 9 hr) (fun z => kb_104_148 ?_) (fun z => kb_104_34 (pk_in k 21 (by omega)) (fun y => take (Or.inl ?_) _) (fun y => kb_104_44 (pk_in k 21 (by omega)) (fun u => take (Or.inr ?_) _) (fun u => kb_104_54 (next (fun h => ?_) _)))))
      · rw [cr, e75] at z
        rw [nI_1]
        refine ih τ fr (fun r' hr' => ?_) _ _
        by_cases e : r' = r
        · subst e
          obtain ⟨w, w9, wr, e87, a1, a2, a3, a4⟩ := R
          refine ⟨w, w9, wr, e87, fun i hi => ?_, fun k' hk' h => absurd h (skipall z k' hk'), fun o ho => ?_, a4⟩
          · obtain ⟨k', c1, c2, c3⟩ := a1 i hi; exact ⟨k', by omega, c2, c3⟩
          · obtain ⟨c1, k', c2, c3⟩ := a3 o ho; exact ⟨c1, k', by omega, c3⟩
        · exact hR r' (by omega)
      · rw [ck, e80] at y; exact y
      · rw [ck, e81] at u; exact u
      · rw [ck, e80] at y
        rw [ck, e81] at u
        rcases h with h | h
        · exact y h
        · exact u h
    · obtain ⟨w', b1, b2, b3, b4, b5, b6, b7⟩ := hR r' hr'
      refine ⟨w', b1, b2, by rw [mm_up_o (by omega)]; exact b3, fun i' hi' => by rw [mm_up_n (by decide)]; exact b4 i' hi', fun k' hk' h => ?_, b6, fun i' j' h1 h2 => by rw [mm_up_n (by decide)]; exact b7 i' j' h1 h2⟩
      rw [mm_up_n (by decide)]; exact b5 k' hk' h
end
section
-- the reference's behind is what comes next clockwise
theorem ZI.ot {σ : mm_S} {n m k r : Nat} (Z : ZI σ n m) (hk : k < n) (hr : r < 9) (h : em σ r k) : ∃ o, o < 9 ∧ o ≠ r ∧ m.testBit r = true ∧ m.testBit o = true ∧ f_101 σ (nI k) (nI r) = nI o ∧ em σ o k ∧ aj σ r o ∧ ((σ 80 k = nI r ∧ σ 81 k = nI o) ∨ (σ 80 k = nI o ∧ σ 81 k = nI r)) := by
  obtain ⟨o, o9, onr, eo, emo, _, _, ends⟩ := MK_ot Z.mk hk hr h
  obtain ⟨a, b, ha, hb, _, ma, mb, e1, e2⟩ := Z.ck.je k hk
  obtain ⟨j1, j2⟩ := Z.jj k hk
  have mm : m.testBit r = true ∧ m.testBit o = true := by
    rcases ends with ⟨p, q⟩ | ⟨p, q⟩
    · have x1 := nI9 ha hr (e1.symm.trans (j1.symm.trans p))
      have x2 := nI9 hb o9 (e2.symm.trans (j2.symm.trans q))
      subst x1; subst x2; exact ⟨ma, mb⟩
    · have x1 := nI9 ha o9 (e1.symm.trans (j1.symm.trans p))
      have x2 := nI9 hb hr (e2.symm.trans (j2.symm.trans q))
      subst x1; subst x2; exact ⟨mb, ma⟩
  refine ⟨o, o9, onr, mm.1, mm.2, eo, emo, (Z.ck.ja r o hr mm.1).mpr ⟨k, hk, ?_, o9⟩, ends⟩
  rw [← j1, ← j2]; exact ends
theorem ZI.oj {σ : mm_S} {n m r o : Nat} (Z : ZI σ n m) (hr : r < 9) (mr : m.testBit r = true) (h : aj σ r o) : ∃ k, k < n ∧ em σ r k ∧ f_101 σ (nI k) (nI r) = nI o := by
  obtain ⟨k, hk, ends, o9⟩ := (Z.ck.ja r o hr mr).mp h
  obtain ⟨_, _, onr⟩ := Z.ck.aj_dr hr mr h
  obtain ⟨j1, j2⟩ := Z.jj k hk
  rw [← j1, ← j2] at ends
  have n21 := Z.ck.jn.1
  refine ⟨k, hk, ?_, ?_⟩
  · rcases ends with ⟨p, q⟩ | ⟨p, q⟩
    · exact Or.inl p
    · exact Or.inr q
  · unfold f_101
    rw [nI_clamp (show k < 2 ^ 31 by omega)]
    rcases ends with ⟨p, q⟩ | ⟨p, q⟩
    · rw [p, if_pos rfl, q]
    · rw [p, if_neg (fun z => onr (nI9 o9 hr z))]
theorem ZI.oi {σ : mm_S} {n m k l r o : Nat} (Z : ZI σ n m) (hk : k < n) (hl : l < n) (hr : r < 9) (h : em σ r k) (h' : em σ r l) (e : f_101 σ (nI k) (nI r) = nI o) (e' : f_101 σ (nI l) (nI r) = nI o) (o9 : o < 9) : k = l := by
  obtain ⟨p, p9, _, _, _, ep, _, _, ends⟩ := Z.ot hk hr h
  obtain ⟨p', p9', _, _, _, ep', _, _, ends'⟩ := Z.ot hl hr h'
  have x1 := nI9 p9 o9 (ep.symm.trans e)
  have x2 := nI9 p9' o9 (ep'.symm.trans e')
  subst x1; subst x2
  rcases ends with ⟨p, q⟩ | ⟨p, q⟩
  · exact Z.mk.jd k l hk hl _ _ p q ends'
  · exact Z.mk.jd k l hk hl _ _ p q ends'.symm
theorem gdt_nz {u : V2} (h : 0 < gdt u u) : ¬ (u.1 = 0 ∧ u.2 = 0) := fun ⟨a, b⟩ => by
  unfold gdt at h
  rw [a, b] at h
  exact absurd h (by decide)
theorem ZI.f3 {σ : mm_S} {n m r k l o p : Nat} (Z : ZI σ n m) (N : NC σ n) (hr : r < 9) (mr : m.testBit r = true) (ao : aj σ r o) (ap : aj σ r p) (eo : f_101 σ (nI k) (nI r) = nI o) (ep : f_101 σ (nI l) (nI r) = nI p) : f_103 σ (nI k) (nI l) (nI r) = 1 ↔ gah wst (vc σ r o) (vc σ r p) := by
  have G := Z.ck.gdd N hr mr
  obtain ⟨o9, mo, _⟩ := Z.ck.aj_dr hr mr ao
  obtain ⟨p9, mp, _⟩ := Z.ck.aj_dr hr mr ap
  exact f_103_ah (Z.pr hr mr) (Z.pr o9 mo) (Z.pr p9 mp) eo ep (gdt_nz (G.1 o ao)) (gdt_nz (G.1 p ap))
theorem ZI.otr {σ : mm_S} {n m r : Nat} (Z : ZI σ n m) (N : NC σ n) (hr : r < 9) : OTr σ n r := by
  constructor
  · intro k l hk hl ek el hne
    obtain ⟨o, o9, _, mr, _, eo, _, ao, _⟩ := Z.ot hk hr ek
    obtain ⟨p, p9, _, _, _, ep, _, ap, _⟩ := Z.ot hl hr el
    have G := Z.ck.gdd N hr mr
    have op : o ≠ p := fun z => by subst z; exact hne (Z.oi hk hl hr ek el eo ep o9)
    rw [Z.f3 N hr mr ao ap eo ep, Z.f3 N hr mr ap ao ep eo]
    exact gah_tot wst_pos (G.1 o ao) (G.1 p ap) (G.2 o p ao ap op)
  · intro j k l hj hk hl ej ek el h1 h2
    obtain ⟨u, u9, _, mr, _, eu, _, au, _⟩ := Z.ot hj hr ej
    obtain ⟨o, o9, _, _, _, eo, _, ao, _⟩ := Z.ot hk hr ek
    obtain ⟨p, p9, _, _, _, ep, _, ap, _⟩ := Z.ot hl hr el
    have G := Z.ck.gdd N hr mr
    rw [Z.f3 N hr mr au ao eu eo] at h1
    rw [Z.f3 N hr mr ao ap eo ep] at h2
    rw [Z.f3 N hr mr au ap eu ep]
    have up : u ≠ p := fun z => by subst z; exact gah_asym h1 h2
    exact gah_trans wst_pos (G.1 u au) (G.1 p ap) (G.2 u p au ap up) h1 h2
theorem AO_nx {σ τ : mm_S} {n m r i dg k k' : Nat} (Z : ZI σ n m) (N : NC σ n) (hr : r < 9) (hi : i < dg)
    (a1 : ∀ i, i < dg → ∃ k, k < n ∧ em σ r k ∧ τ 88 (16 * r + i) = nI k) (a2 : ∀ k, k < n → em σ r k → ∃ i, i < dg ∧ τ 88 (16 * r + i) = nI k) (a3 : ∀ i j, i < j → j < dg → f_103 σ (τ 88 (16 * r + i)) (τ 88 (16 * r + j)) (nI r) = 1)
    (hk : k < n) (ek : em σ r k) (e1 : τ 88 (16 * r + i) = nI k) (hk' : k' < n) (ek' : em σ r k') (e2 : τ 88 (16 * r + (i + 1) % dg) = nI k') : ∃ o o', f_101 σ (nI k) (nI r) = nI o ∧ f_101 σ (nI k') (nI r) = nI o' ∧ nxt (aj σ r) (vc σ r) o o' := by
  have n21 := Z.ck.jn.1
  obtain ⟨o, o9, _, mr, _, eo, _, ao, _⟩ := Z.ot hk hr ek
  obtain ⟨p, p9, _, _, _, ep, _, ap, _⟩ := Z.ot hk' hr ek'
  have G := Z.ck.gdd N hr mr
  have ml : (i + 1) % dg < dg := Nat.mod_lt _ (by omega)
  -- the order of two places
  have lt : ∀ x y kx ky ox oy, x < y → y < dg → kx < n → ky < n → em σ r kx → em σ r ky → τ 88 (16 * r + x) = nI kx → τ 88 (16 * r + y) = nI ky → f_101 σ (nI kx) (nI r) = nI ox → f_101 σ (nI ky) (nI r) = nI oy → aj σ r ox → aj σ r oy → gah wst (vc σ r ox) (vc σ r oy) := fun x y kx ky ox oy h1 h2 _ _ _ _ h7 h8 h9 h10 h11 h12 => by
    have := a3 x y h1 h2
    rw [h7, h8] at this
    exact (Z.f3 N hr mr h11 h12 h9 h10).mp this
  have ne : ∀ x y kx ky ox oy, x < y → y < dg → kx < n → ky < n → em σ r kx → em σ r ky → τ 88 (16 * r + x) = nI kx → τ 88 (16 * r + y) = nI ky → f_101 σ (nI kx) (nI r) = nI ox → f_101 σ (nI ky) (nI r) = nI oy → aj σ r ox → aj σ r oy → ox ≠ oy := fun x y kx ky ox oy h1 h2 h3 h4 h5 h6 h7 h8 h9 h10 h11 h12 z => by
    have := lt x y kx ky ox oy h1 h2 h3 h4 h5 h6 h7 h8 h9 h10 h11 h12
    subst z
    exact gah_asym this this
  refine ⟨o, p, eo, ep, ao, ap, ?_⟩
  by_cases d1 : dg = 1
  · have all : ∀ j, aj σ r j → j = o := fun j aj' => by
      obtain ⟨l, hl, el, ej⟩ := Z.oj hr mr aj'
      obtain ⟨x, hx, ex⟩ := a2 l hl el
      have x0 : x = i := by omega
      subst x0
      have := (nI_eq (by omega) (by omega)).mp (ex.symm.trans e1)
      subst this
      exact nI9 aj'.1 o9 (ej.symm.trans eo)
    exact Or.inl ⟨all p ap, all⟩
  · have G3 : ∀ {a b c : Nat}, aj σ r a → aj σ r b → aj σ r c → gah wst (vc σ r a) (vc σ r b) → gah wst (vc σ r b) (vc σ r c) → a ≠ b → a ≠ c → b ≠ c → gso (vc σ r a) (vc σ r b) (vc σ r c) ∧ gso (vc σ r b) (vc σ r c) (vc σ r a) ∧ gso (vc σ r c) (vc σ r a) (vc σ r b) := fun {a b c} ha hb hc h1 h2 n1 n2 n3 =>
      gah_3 wst_pos (G.1 a ha) (G.1 b hb) (G.1 c hc) (G.2 a b ha hb n1) (G.2 a c ha hc n2) (G.2 b c hb hc n3) h1 h2
    by_cases il : i + 1 = dg
    · have e0 : (i + 1) % dg = 0 := by rw [il, Nat.mod_self]
      rw [e0] at e2
      have po : p ≠ o := ne 0 i k' k p o (by omega) hi hk' hk ek' ek e2 e1 ep eo ap ao
      refine Or.inr ⟨po, fun j aj' jo jp => ?_⟩
      obtain ⟨l, hl, el, ej⟩ := Z.oj hr mr aj'
      obtain ⟨x, hx, ex⟩ := a2 l hl el
      have x0 : x ≠ 0 := fun z => by
        subst z
        have := (nI_eq (by omega) (by omega)).mp (ex.symm.trans e2)
        subst this
        exact jp (nI9 aj'.1 p9 (ej.symm.trans ep))
      have xi : x ≠ i := fun z => by
        subst z
        have := (nI_eq (by omega) (by omega)).mp (ex.symm.trans e1)
        subst this
        exact jo (nI9 aj'.1 o9 (ej.symm.trans eo))
      exact (G3 ap aj' ao (lt 0 x k' l p j (by omega) hx hk' hl ek' el e2 ex ep ej ap aj') (lt x i l k j o (by omega) hi hl hk el ek ex e1 ej eo aj' ao) (fun z => jp z.symm) po jo).2.2
    · have e0 : (i + 1) % dg = i + 1 := Nat.mod_eq_of_lt (by omega)
      rw [e0] at e2 ml
      have po : o ≠ p := ne i (i + 1) k k' o p (by omega) ml hk hk' ek ek' e1 e2 eo ep ao ap
      refine Or.inr ⟨fun z => po z.symm, fun j aj' jo jp => ?_⟩
      obtain ⟨l, hl, el, ej⟩ := Z.oj hr mr aj'
      obtain ⟨x, hx, ex⟩ := a2 l hl el
      have x0 : x ≠ i + 1 := fun z => by
        subst z
        have := (nI_eq (by omega) (by omega)).mp (ex.symm.trans e2)
        subst this
        exact jp (nI9 aj'.1 p9 (ej.symm.trans ep))
      have xi : x ≠ i := fun z => by
        subst z
        have := (nI_eq (by omega) (by omega)).mp (ex.symm.trans e1)
        subst this
        exact jo (nI9 aj'.1 o9 (ej.symm.trans eo))
      have l1 := lt i (i + 1) k k' o p (by omega) ml hk hk' ek ek' e1 e2 eo ep ao ap
      by_cases xl : x < i
      · exact (G3 aj' ao ap (lt x i l k j o xl hi hl hk el ek ex e1 ej eo aj' ao) l1 jo jp po).2.1
      · exact (G3 ao ap aj' l1 (lt (i + 1) x k' l p j (by omega) hx hk' hl ek' el e2 ex ep ej ap aj') po (fun z => jo z.symm) (fun z => jp z.symm)).1
theorem AO_first {σ τ : mm_S} {n m r k : Nat} (Z : ZI σ n m) (N : NC σ n) (A : AO σ τ n) (hr : r < 9) (hk : k < n) (ek : em σ r k) (e : τ 88 (16 * r) = nI k) : ∃ o, f_101 σ (nI k) (nI r) = nI o ∧ aj σ r o ∧ ∀ j, aj σ r j → j ≠ o → gah wst (vc σ r o) (vc σ r j) := by
  have n21 := Z.ck.jn.1
  obtain ⟨dg, d8, e87, a1, a2, a3⟩ := A r hr
  obtain ⟨o, o9, _, mr, _, eo, _, ao, _⟩ := Z.ot hk hr ek
  refine ⟨o, eo, ao, fun j aj' jo => ?_⟩
  obtain ⟨l, hl, el, ej⟩ := Z.oj hr mr aj'
  obtain ⟨x, hx, ex⟩ := a2 l hl el
  have x0 : x ≠ 0 := fun z => by
    subst z
    have := (nI_eq (by omega) (by omega)).mp (ex.symm.trans e)
    subst this
    exact jo (nI9 aj'.1 o9 (ej.symm.trans eo))
  have := a3 0 x (by omega) hx
  rw [show 16 * r + 0 = 16 * r from rfl, e, ex] at this
  exact (Z.f3 N hr mr ao aj' eo ej).mp this
theorem c_105s {d n m r k : Nat} {Q : mm_Q} {σ τ : mm_S} (Z : ZI σ n m) (N : NC σ n) (A : AO σ τ n) (hr : r < 9) (hk : k < n) (he : em σ r k) (q : ∀ k' o o', k' < n → em σ r k' → f_101 σ (nI k) (nI r) = nI o → f_101 σ (nI k') (nI r) = nI o' → nxt (aj σ r) (vc σ r) o o' → Q (some (.int (nI k'))) τ) : mD (d + 1) 105 [.ref 10, .int (nI k), .int (nI r)] τ Q := by
  have n21 := Z.ck.jn.1
  obtain ⟨dg, d8, e87, a1, a2, a3⟩ := A r hr
  obtain ⟨i0, hi0, ei0⟩ := a2 k hk he
  have cr : (nI r).toNatClampNeg = r := nI_clamp (by omega)
  have fin : ∀ i, i < dg → τ 88 (16 * r + i) = nI k → mw d mt_105 Q 23 [some (.ref 10), some (.int (nI k)), some (.int (nI r)), some (.int (nI i))] [] τ := fun i hi ei => by
    have em' : nI i + (1 : Int32) - (nI i + (1 : Int32)) / (τ 87 (nI r).toNatClampNeg) * (τ 87 (nI r).toNatClampNeg) = nI ((i + 1) % dg) := by
      rw [cr, e87, nI_1]; exact rem_n0 dg (by omega) (by omega) (i + 1) (by omega)
    have ml : (i + 1) % dg < dg := Nat.mod_lt _ (by omega)
    obtain ⟨k', b1, b2, b3⟩ := a1 _ ml
    refine kb_105_23 (pk_in r 9 hr) (by rw [cr, e87]; exact nI_ne0 (by omega) (by omega)) (by rw [em', nI_16]; exact pk_in (16 * r + (i + 1) % dg) 144 (by omega)) ?_
    rw [em', nI_16, nI_clamp (show 16 * r + (i + 1) % dg < 2 ^ 31 by omega), b3]
    obtain ⟨o, o', h1, h2, h3⟩ := AO_nx Z N hr hi a1 a2 a3 hk he ei b1 b2 b3
    exact q k' o o' b1 b2 h1 h2 h3
  refine ke_105 (kb_105_0 ?_)
  refine lp_dn (P := fun i => mw d mt_105 Q 2 [some (.ref 10), some (.int (nI k)), some (.int (nI r)), some (.int (nI i))] [] τ) i0 ?_ ?_ 0 (Nat.zero_le _)
  · refine kb_105_2 (by rw [nI_16]; exact pk_in (16 * r + i0) 144 (by omega)) (fun _ => fin i0 hi0 ei0) (fun z => absurd ?_ z)
    rw [nI_16, nI_clamp (by omega)]; exact ei0
  · intro i hi ih
    refine kb_105_2 (by rw [nI_16]; exact pk_in (16 * r + i) 144 (by omega)) (fun z => fin i (by omega) ?_) (fun _ => kb_105_17 ?_)
    · rw [nI_16, nI_clamp (by omega)] at z; exact z
    · rw [nI_1]; exact ih
theorem AO_AR {σ τ : mm_S} {n m : Nat} (Z : ZI σ n m) (N : NC σ n) (A : AO σ τ n) : AR σ τ n := fun r hr => by
  have n21 := Z.ck.jn.1
  obtain ⟨dg, d8, e87, a1, a2, a3⟩ := A r hr
  refine ⟨dg, d8, e87, a1, a2, fun i j hij hj e => ?_⟩
  obtain ⟨k, hk, ek, e1⟩ := a1 i (by omega)
  obtain ⟨o, o9, _, mr, _, eo, _, ao, _⟩ := Z.ot hk hr ek
  have := a3 i j hij hj
  rw [← e, e1] at this
  have := (Z.f3 N hr mr ao ao eo eo).mp this
  exact gah_asym this this
end
section
-- the reference's areTogether says whether the rooms hang together
theorem ZI.dm {σ : mm_S} {n m i : Nat} (Z : ZI σ n m) (hi : i < 9) : ¬ σ 75 i = 0 ↔ m.testBit i = true := by
  rw [← (Z.rm i hi).1]; exact Z.ck.dr i hi
theorem ZI.rcb {σ : mm_S} {n m : Nat} (Z : ZI σ n m) : ∀ i, i ≤ 9 → rc σ i = bc m i
  | 0, _ => rfl
  | i + 1, h => by
    have ih := ZI.rcb Z i (by omega)
    show rc σ i + (if σ 75 i = 0 then 0 else 1) = bc m i + (if m.testBit i = true then 1 else 0)
    rw [ih]
    by_cases c : m.testBit i = true
    · rw [if_pos c, if_neg ((Z.dm (by omega)).mpr c)]
    · rw [if_neg c]
      by_cases z : σ 75 i = 0
      · rw [if_pos z]
      · exact absurd ((Z.dm (by omega)).mp z) c
/-- closed under the joins -/
def jcl (σ : mm_S) (n : Nat) (S : Nat → Prop) : Prop := ∀ k p s, k < n → p < 9 → s < 9 → σ 80 k = nI p → σ 81 k = nI s → (S p ↔ S s)
theorem jcl_not {σ : mm_S} {n : Nat} {S : Nat → Prop} (h : jcl σ n S) : jcl σ n (fun i => ¬ S i) := fun k p s a b c e f => by
  show ¬ S p ↔ ¬ S s
  rw [h k p s a b c e f]
theorem and_2 {w p s : Nat} : w &&& (2 ^ p ||| 2 ^ s) = 0 ↔ ¬ w.testBit p = true ∧ ¬ w.testBit s = true := by
  have t : ∀ i, (w &&& (2 ^ p ||| 2 ^ s)).testBit i = true ↔ w.testBit i = true ∧ (p = i ∨ s = i) := fun i => by
    rw [Nat.testBit_and, Nat.testBit_or, Nat.testBit_two_pow, Nat.testBit_two_pow, Bool.and_eq_true, Bool.or_eq_true]; simp
  constructor
  · intro h
    refine ⟨fun y => ?_, fun y => ?_⟩
    · have := (t p).mpr ⟨y, Or.inl rfl⟩
      rw [h] at this; simp at this
    · have := (t s).mpr ⟨y, Or.inr rfl⟩
      rw [h] at this; simp at this
  · rintro ⟨h1, h2⟩
    apply Nat.eq_of_testBit_eq
    intro i
    rw [Nat.zero_testBit]
    cases hb : (w &&& (2 ^ p ||| 2 ^ s)).testBit i with
    | false => rfl
    | true =>
      obtain ⟨x, y⟩ := (t i).mp hb
      rcases y with y | y
      · subst y; exact absurd x h1
      · subst y; exact absurd x h2
theorem Cn_jcl {σ : mm_S} {n m f w : Nat} (Z : ZI σ n m) (f9 : f < 9) (mf : m.testBit f = true) (w9 : w < 512) (wf : w.testBit f = true) (so : ∀ S, jcl σ n S → S f → ∀ i, i < 9 → w.testBit i = true → S i) (cl : jcl σ n (fun i => w.testBit i = true)) : w = m ↔ Cn σ m := by
  have ends : ∀ k p s, k < n → p < 9 → s < 9 → σ 80 k = nI p → σ 81 k = nI s → m.testBit p = true ∧ m.testBit s = true ∧ aj σ p s ∧ aj σ s p := fun k p s hk hp hs e1 e2 => by
    obtain ⟨a, b, ha, hb, _, ma, mb, x1, x2⟩ := Z.ck.je k hk
    obtain ⟨j1, j2⟩ := Z.jj k hk
    have y1 := nI9 hp ha (e1.symm.trans (j1.trans x1))
    have y2 := nI9 hs hb (e2.symm.trans (j2.trans x2))
    subst y1; subst y2
    exact ⟨ma, mb, (Z.ck.ja p s hp ma).mpr ⟨k, hk, Or.inl ⟨x1, x2⟩, hs⟩, (Z.ck.ja s p hs mb).mpr ⟨k, hk, Or.inr ⟨x1, x2⟩, hp⟩⟩
  constructor
  · intro e S ⟨i0, h9, hm, hS⟩ hcl
    subst e
    have T : jcl σ n (fun i => i < 9 ∧ w.testBit i = true ∧ S i) := fun k p s hk hp hs e1 e2 => by
      obtain ⟨a1, a2, a3, a4⟩ := ends k p s hk hp hs e1 e2
      exact ⟨fun h => ⟨hs, a2, hcl p s hp a1 h.2.2 a3⟩, fun h => ⟨hp, a1, hcl s p hs a2 h.2.2 a4⟩⟩
    intro i hi mi
    by_cases c : f < 9 ∧ w.testBit f = true ∧ S f
    · exact (so _ T c i hi mi).2.2
    · exact absurd ⟨h9, hm, hS⟩ (so _ (jcl_not T) c i0 h9 hm)
  · intro h
    refine tb_ext (k := 9) w9 Z.ck.dm.1 (fun j hj => ⟨fun y => ?_, fun y => ?_⟩)
    · exact so (fun i => m.testBit i = true) (fun k p s hk hp hs e1 e2 => by
        obtain ⟨a1, a2, _⟩ := ends k p s hk hp hs e1 e2
        exact ⟨fun _ => a2, fun _ => a1⟩) mf j hj y
    · refine h (fun i => w.testBit i = true) ⟨f, f9, mf, wf⟩ (fun i j hi mi wi hij => ?_) j hj y
      obtain ⟨k, hk, hends, j9⟩ := (Z.ck.ja i j hi mi).mp hij
      obtain ⟨j1, j2⟩ := Z.jj k hk
      rw [← j1, ← j2] at hends
      rcases hends with ⟨p, q⟩ | ⟨p, q⟩
      · exact (cl k i j hk hi j9 p q).mp wi
      · exact (cl k j i hk j9 hi p q).mpr wi
theorem c_107s {d n m : Nat} {Q : mm_Q} {σ τ : mm_S} (Z : ZI σ n m) (t10 : τ 10 6 = σ 10 6) (t75 : τ 75 = σ 75) (t80 : τ 80 = σ 80) (t81 : τ 81 = σ 81) (h3 : 3 ≤ bc m 9) (q1 : Cn σ m → Q (some (.int 1)) τ) (q0 : ¬ Cn σ m → Q (some (.int 0)) τ) : mD (d + 1) 107 [.ref 10] τ Q := by
  have M := Z.mk
  have n21 := M.jn.1
  have tb : ∀ a k i : Nat, (a ||| 2 ^ k).testBit i = true ↔ a.testBit i = true ∨ k = i := fun a k i => by
    rw [Nat.testBit_or, Nat.testBit_two_pow, Bool.or_eq_true]; simp
  refine ke_107 (kb_107_0 ?_)
  refine lp_dn (P := fun r => ∀ (a : Nat) (x : Int32), a < 512 → (∀ i, i < 9 → (a.testBit i = true ↔ i < r ∧ ¬ σ 75 i = 0)) → (x = -1 ∧ (∀ i, i < r → σ 75 i = 0) ∨ ∃ f, f < 9 ∧ x = nI f ∧ a.testBit f = true) → mw d mt_107 Q 6 [some (.ref 10), some (.int (nI a)), some (.int x), some (.int (nI r)), none, none, none] [] τ) 9 ?_ ?_ 0 (by omega) 0 (-1) (by decide) (fun i _ => ⟨fun z => absurd z (by simp), fun z => absurd z.1 (Nat.not_lt_zero i)⟩) (Or.inl ⟨rfl, fun i hi => absurd hi (Nat.not_lt_zero i)⟩)
  · intro a x a9 ab hx
    refine kb_107_6 (fun _ => kb_107_57 ?_) (fun g => absurd (by decide) g)
    have am : a = m := tb_ext (k := 9) a9 Z.ck.dm.1 (fun j hj => by rw [ab j hj, Z.dm hj]; exact ⟨fun h => h.2, fun h => ⟨hj, h⟩⟩)
    subst am
    rcases hx with ⟨_, h⟩ | ⟨f, f9, ef, fa⟩
    · exfalso
      obtain ⟨j, hj, hb⟩ := bc_pos (m := a) 9 (by omega)
      exact absurd (h j hj) ((ab j hj).mp hb).2
    · subst ef
      rw [one_sh (by omega)]
      refine lp_dn (P := fun j => ∀ w, w < 512 → w.testBit f = true → (∀ S, jcl σ n S → S f → ∀ i, i < 9 → w.testBit i = true → S i) → (jcl σ n (fun i => w.testBit i = true) ∨ j + 1 ≤ bc w 9) → ∀ o5 o6, mw d mt_107 Q 64 [some (.ref 10), some (.int (nI a)), some (.int (nI f)), some (.int (nI w)), some (.int (nI j)), o5, o6] [] τ) 9 ?_ ?_ 0 (by omega) (2 ^ f) (Nat.pow_lt_pow_right (by decide) f9) (by rw [Nat.testBit_two_pow]; simp) (fun S _ hS i _ hb => ?_) (Or.inr ?_) none none
      · intro w w9 wf so pr o5 o6
        have cl : jcl σ n (fun i => w.testBit i = true) := by
          rcases pr with y | y
          · exact y
          · have := bc_n w 9; omega
        have key := Cn_jcl Z f9 fa w9 wf so cl
        refine kb_107_64 (fun _ => kb_107_128 (fun e => kb_107_133 (q1 (key.mp ((nI_eq (by omega) (by omega)).mp e)))) (fun e => kb_107_137 (q0 (fun c => e (by rw [key.mpr c]))))) (fun g => absurd (by decide) g)
      · intro j hj ih w0 w9 wf so pr o5 o6
        refine kb_107_64 (fun g => absurd g (hI_nle (a := 9) (by omega) hj)) (fun _ => kb_107_71 ?_)
        refine lp_dn (P := fun k => ∀ w, w < 512 → (∀ S, jcl σ n S → S f → ∀ i, i < 9 → w.testBit i = true → S i) → (∀ i, w0.testBit i = true → w.testBit i = true) → (∀ k' p s, k' < k → p < 9 → s < 9 → σ 80 k' = nI p → σ 81 k' = nI s → (w0.testBit p = true ∨ w0.testBit s = true) → w.testBit p = true ∧ w.testBit s = true) → (jcl σ n (fun i => w0.testBit i = true) → w = w0) → ∀ o6, mw d mt_107 Q 74 [some (.ref 10), some (.int (nI a)), some (.int (nI f)), some (.int (nI w)), some (.int (nI j)), some (.int (nI k)), o6] [] τ) n ?_ ?_ 0 (Nat.zero_le n) w0 w9 so (fun _ h => h) (fun k' p s h => absurd h (Nat.not_lt_zero k')) (fun _ => rfl) o6
        · intro w w9' so' sub pg sm o6
          have nw : jcl σ n (fun i => w.testBit i = true) ∨ j + 1 + 1 ≤ bc w 9 := by
            by_cases c0 : jcl σ n (fun i => w0.testBit i = true)
            · have := sm c0
              subst this
              exact Or.inl c0
            · have b0 := pr.resolve_left c0
              by_cases c1 : ∃ i, i < 9 ∧ w.testBit i = true ∧ ¬ w0.testBit i = true
              · obtain ⟨i, hi, x1, x2⟩ := c1
                have := bc_lt (a := w0) (b := w) 9 (fun j _ h => sub j h) ⟨i, hi, x1, x2⟩
                exact Or.inr (by omega)
              · have back : ∀ i, i < 9 → w.testBit i = true → w0.testBit i = true := fun i hi h => by
                  by_cases y : w0.testBit i = true
                  · exact y
                  · exact absurd ⟨i, hi, h, y⟩ c1
                refine Or.inl (fun k p s hk hp hs e1 e2 => ⟨fun h => ?_, fun h => ?_⟩)
                · exact (pg k p s hk hp hs e1 e2 (Or.inl (back p hp h))).2
                · exact (pg k p s hk hp hs e1 e2 (Or.inr (back s hs h))).1
          exact kb_107_74 (fun _ => kb_107_122 (by rw [nI_1]; exact ih w w9' (sub f wf) so' nw _ _)) (fun g => absurd (by rw [t10, M.jn.2]; exact hI_le (by omega) (Nat.le_refl n)) g)
        · intro k hk ihk w w9' so' sub pg sm o6
          obtain ⟨p, s, hp, hs, _, _, _, e1, e2⟩ := M.je k hk
          have ck : (nI k).toNatClampNeg = k := nI_clamp (by omega)
          have same : ∀ p' s', p' < 9 → s' < 9 → σ 80 k = nI p' → σ 81 k = nI s' → p' = p ∧ s' = s := fun p' s' h1 h2 h3 h4 => ⟨nI9 h1 hp (h3.symm.trans e1), nI9 h2 hs (h4.symm.trans e2)⟩
          refine kb_107_74 (fun g => absurd g (by rw [t10, M.jn.2]; exact hI_nle (by omega) hk)) (fun _ => kb_107_83 (pk_in k 21 (by omega)) (pk_in k 21 (by omega)) (fun z => kb_107_116 ?_) (fun z => kb_107_111 ?_))
          · rw [ck, t80, t81, e1, e2, one_sh (by omega), one_sh (by omega), or_bit, and_bit] at z
            have z' := and_2.mp ((nI_eq (b := 0) (by have := Nat.and_le_left (n := w) (m := (2 ^ p ||| 2 ^ s)); omega) (by omega)).mp z)
            rw [nI_1]
            refine ihk w w9' so' sub (fun k' p' s' h h1 h2 h3 h4 h5 => ?_) sm _
            by_cases e : k' = k
            · subst e
              obtain ⟨x1, x2⟩ := same p' s' h1 h2 h3 h4
              subst x1; subst x2
              rcases h5 with h5 | h5
              · exact absurd (sub _ h5) z'.1
              · exact absurd (sub _ h5) z'.2
            · exact pg k' p' s' (by omega) h1 h2 h3 h4 h5
          · rw [ck, t80, t81, e1, e2, one_sh (by omega), one_sh (by omega), or_bit, and_bit] at z
            have z' : w.testBit p = true ∨ w.testBit s = true := by
              by_cases y1 : w.testBit p = true
              · exact Or.inl y1
              · by_cases y2 : w.testBit s = true
                · exact Or.inr y2
                · exact absurd (by rw [and_2.mpr ⟨y1, y2⟩]; rfl) z
            rw [ck, t80, t81, e1, e2, one_sh (by omega), one_sh (by omega), or_bit, or_bit, nI_1]
            have tb2 : ∀ i, (w ||| (2 ^ p ||| 2 ^ s)).testBit i = true ↔ w.testBit i = true ∨ p = i ∨ s = i := fun i => by
              rw [Nat.testBit_or, Bool.or_eq_true, tb, Nat.testBit_two_pow]; simp
            have u9 : (w ||| (2 ^ p ||| 2 ^ s)) < 512 := Nat.or_lt_two_pow (n := 9) w9' (Nat.or_lt_two_pow (n := 9) (Nat.pow_lt_pow_right (by decide) hp) (Nat.pow_lt_pow_right (by decide) hs))
            refine ihk _ u9 (fun S hS hf i hi hb => ?_) (fun i h => (tb2 i).mpr (Or.inl (sub i h))) (fun k' p' s' h h1 h2 h3 h4 h5 => ?_) (fun c0 => ?_) _
            · have both : S p ∧ S s := by
                rcases z' with y | y
                · have := so' S hS hf p hp y
                  exact ⟨this, (hS k p s hk hp hs e1 e2).mp this⟩
                · have := so' S hS hf s hs y
                  exact ⟨(hS k p s hk hp hs e1 e2).mpr this, this⟩
              rcases (tb2 i).mp hb with y | y | y
              · exact so' S hS hf i hi y
              · subst y; exact both.1
              · subst y; exact both.2
            · by_cases e : k' = k
              · subst e
                obtain ⟨x1, x2⟩ := same p' s' h1 h2 h3 h4
                subst x1; subst x2
                exact ⟨(tb2 _).mpr (Or.inr (Or.inl rfl)), (tb2 _).mpr (Or.inr (Or.inr rfl))⟩
              · obtain ⟨y1, y2⟩ := pg k' p' s' (by omega) h1 h2 h3 h4 h5
                exact ⟨(tb2 _).mpr (Or.inl y1), (tb2 _).mpr (Or.inl y2)⟩
            · have ew := sm c0
              subst ew
              have both : w.testBit p = true ∧ w.testBit s = true := by
                rcases z' with y | y
                · exact ⟨y, (c0 k p s hk hp hs e1 e2).mp y⟩
                · exact ⟨(c0 k p s hk hp hs e1 e2).mpr y, y⟩
              refine tb_ext (k := 9) u9 w9' (fun i _ => ?_)
              rw [tb2]
              constructor
              · rintro (y | y | y)
                · exact y
                · subst y; exact both.1
                · subst y; exact both.2
              · exact Or.inl
      · rw [Nat.testBit_two_pow] at hb
        have : f = i := by simpa using hb
        subst this; exact hS
      · exact bc_ge 9 f9 (by rw [Nat.testBit_two_pow]; simp)
  · intro r hr ih a x a9 ab hx
    have cr : (nI r).toNatClampNeg = r := nI_clamp (by omega)
    have u : (nI a ||| (0 : Int32)) = nI a := by rw [show (0 : Int32) = nI 0 from rfl, or_bit, Nat.or_zero]
    refine kb_107_6 (fun g => absurd g (hI_nle (a := 9) (by omega) hr)) (fun _ => kb_107_12 (pk_in r 9 hr) (fun z => kb_107_28 (pk_in r 9 hr) (fun _ => kb_107_49 ?_) (fun y => absurd z y)) (fun z => kb_107_22 (pk_in r 9 hr) (fun y => absurd y z) (fun _ => ?_)))
    · rw [cr, t75] at z
      rw [nI_1, u]
      refine ih a x a9 (fun i hi => ?_) ?_
      · rw [ab i hi]
        constructor
        · rintro ⟨h1, h2⟩; exact ⟨by omega, h2⟩
        · rintro ⟨h1, h2⟩
          by_cases e : i = r
          · subst e; exact absurd z h2
          · exact ⟨by omega, h2⟩
      · rcases hx with ⟨h1, h2⟩ | h
        · refine Or.inl ⟨h1, fun i hi => ?_⟩
          by_cases e : i = r
          · subst e; exact z
          · exact h2 i (by omega)
        · exact Or.inr h
    · rw [cr, t75] at z
      rw [one_sh (by omega), or_bit]
      have nx : ∀ y, (∃ f, f < 9 ∧ y = nI f ∧ (a ||| 2 ^ r).testBit f = true) → mw d mt_107 Q 6 [some (.ref 10), some (.int (nI (a ||| 2 ^ r))), some (.int y), some (.int (nI r + 1)), none, none, none] [] τ := fun y hy => by
        rw [nI_1]
        refine ih _ y (Nat.or_lt_two_pow (n := 9) a9 (Nat.pow_lt_pow_right (by decide) hr)) (fun i hi => ?_) (Or.inr hy)
        rw [tb, ab i hi]
        constructor
        · rintro (⟨h1, h2⟩ | h)
          · exact ⟨by omega, h2⟩
          · subst h; exact ⟨by omega, z⟩
        · rintro ⟨h1, h2⟩
          by_cases e : i = r
          · exact Or.inr e.symm
          · exact Or.inl ⟨by omega, h2⟩
      refine kb_107_40 (fun _ => kb_107_45 (nx _ ⟨r, hr, rfl, (tb a r r).mpr (Or.inr rfl)⟩)) (fun y => kb_107_49 (nx _ ?_))
      rcases hx with ⟨h1, _⟩ | ⟨f, f9, ef, fa⟩
      · exact absurd h1 y
      · exact ⟨f, f9, ef, (tb a r f).mpr (Or.inl fa)⟩
end
