-- crossings: the class and the reference see the same
def PR (σ : mm_S) (j : Nat) : Prop := j < 9 ∧ cG σ j ∧ σ 76 j = σ 11 j ∧ σ 77 j = σ 12 j
theorem f_96_z {a b c e f g : Int32} : (f_96 a b c e f g).toInt = if ((((c - a) * (g - b)) - ((e - b) * (f - a))).toInt) < 0 then -1 else if ((((c - a) * (g - b)) - ((e - b) * (f - a))).toInt) = 0 then 0 else 1 := by
  unfold f_96
  generalize (((c - a) * (g - b)) - ((e - b) * (f - a))) = T
  have z : (0 : Int32).toInt = 0 := by decide
  by_cases h : T ≤ 0
  · rw [if_pos h]
    have h' := Int32.le_iff_toInt_le.mp h
    by_cases k : 0 ≤ T
    · rw [if_pos k]
      have k' := Int32.le_iff_toInt_le.mp k
      rw [if_neg (by omega), if_pos (by omega)]; rfl
    · rw [if_neg k]
      have k' := Int32.lt_iff_toInt_lt.mp (Int32.not_le.mp k)
      rw [if_pos (by omega)]; rfl
  · rw [if_neg h]
    have h' := Int32.lt_iff_toInt_lt.mp (Int32.not_le.mp h)
    rw [if_neg (by omega), if_neg (by omega)]; rfl
theorem f_96_g {σ : mm_S} {p q j : Nat} (hp : PR σ p) (hq : PR σ q) (hj : PR σ j) : (f_96 (σ 76 p) (σ 77 p) (σ 76 q) (σ 77 q) (σ 76 j) (σ 77 j)).toInt = if gcr (vc σ p q) (vc σ p j) < 0 then -1 else if gcr (vc σ p q) (vc σ p j) = 0 then 0 else 1 := by
  rw [f_96_z, hp.2.2.1, hp.2.2.2, hq.2.2.1, hq.2.2.2, hj.2.2.1, hj.2.2.2]
  have h := f_17_toInt (σ := σ) ⟨hp.1, hp.2.1⟩ ⟨hq.1, hq.2.1⟩ ⟨hj.1, hj.2.1⟩
  unfold f_17 at h
  have a := hp.1
  have b := hq.1
  have c := hj.1
  rw [nI_clamp (by omega), nI_clamp (by omega), nI_clamp (by omega)] at h
  rw [h]
theorem mi_b {r a b : Int32} {A B R : Int} (ha : a.toInt = A) (hb : b.toInt = B) (hr : r.toInt = R) : ¬ mi r a b = 0 ↔ A ≤ R ∧ R ≤ B := by
  unfold mi
  by_cases h : r < a
  · rw [if_pos h]
    have := Int32.lt_iff_toInt_lt.mp h
    exact ⟨fun z => absurd rfl z, fun z => by omega⟩
  · rw [if_neg h]
    have h' := Int32.le_iff_toInt_le.mp (Int32.not_lt.mp h)
    by_cases k : b < r
    · rw [if_pos k]
      have := Int32.lt_iff_toInt_lt.mp k
      exact ⟨fun z => absurd rfl z, fun z => by omega⟩
    · rw [if_neg k]
      have k' := Int32.le_iff_toInt_le.mp (Int32.not_lt.mp k)
      exact ⟨fun _ => by omega, fun _ => by decide⟩
theorem ab_s {a b : Int32} : (a + b) - b = a ∧ (a + b) - a = b := by
  constructor
  · exact Int32.add_sub_cancel a b
  · rw [Int32.add_comm]; exact Int32.add_sub_cancel b a
theorem bt_l {a b r : Int32} : (b ≤ a → (¬ mi r b ((a + b) - b) = 0 ↔ btw r.toInt a.toInt b.toInt)) ∧ (¬ b ≤ a → (¬ mi r a ((a + b) - a) = 0 ↔ btw r.toInt a.toInt b.toInt)) := by
  rw [ab_s.1, ab_s.2]
  constructor
  · intro h
    have := Int32.le_iff_toInt_le.mp h
    rw [mi_b rfl rfl rfl]
    unfold btw
    omega
  · intro h
    have := Int32.lt_iff_toInt_lt.mp (Int32.not_le.mp h)
    rw [mi_b rfl rfl rfl]
    unfold btw
    omega
theorem ite_01 {p : Prop} [Decidable p] {x : Int32} : ¬ (if p then (0 : Int32) else x) = 0 ↔ ¬ p ∧ ¬ x = 0 := by
  by_cases h : p
  · rw [if_pos h]; exact ⟨fun z => absurd rfl z, fun z => absurd h z.1⟩
  · rw [if_neg h]; exact ⟨fun z => ⟨h, z⟩, fun z => z.2⟩
theorem f_97_iff {σ : mm_S} {j e p q : Nat} (he : e < 21) (hj : PR σ j) (hp : PR σ p) (hq : PR σ q) (e80 : σ 80 e = nI p) (e81 : σ 81 e = nI q) : ¬ f_97 σ (nI j) (nI e) = 0 ↔ lon σ j p q := by
  have a := hp.1
  have b := hq.1
  have c := hj.1
  unfold f_97
  rw [nI_clamp (by omega), e80, e81, nI_clamp (by omega), nI_clamp (by omega), nI_clamp (by omega), ite_01, ite_01]
  have g := f_96_g hp hq hj
  have gz : f_96 (σ 76 p) (σ 77 p) (σ 76 q) (σ 77 q) (σ 76 j) (σ 77 j) = 0 ↔ gcr (vc σ p q) (vc σ p j) = 0 := by
    rw [← Int32.toInt_inj, g]
    have z : (0 : Int32).toInt = 0 := by decide
    split
    · rw [z]; constructor <;> intro h <;> omega
    · split
      · rename_i h; exact ⟨fun _ => h, fun _ => by rw [z]⟩
      · rename_i h; rw [z]; exact ⟨fun h' => by omega, fun h' => absurd h' h⟩
  have ne : ∀ {u : Nat}, u < 9 → (¬ nI j = nI u ↔ j ≠ u) := fun hu => ⟨fun h e => h (by rw [e]), fun h e => h (nI9 c hu e)⟩
  rw [ne a, ne b]
  unfold lon
  refine and_congr Iff.rfl (and_congr Iff.rfl ?_)
  have xx := bt_l (a := σ 76 p) (b := σ 76 q) (r := σ 76 j)
  have yy := bt_l (a := σ 77 p) (b := σ 77 q) (r := σ 77 j)
  have X : btw (pX σ j) (pX σ p) (pX σ q) ↔ btw (σ 76 j).toInt (σ 76 p).toInt (σ 76 q).toInt := by unfold pX; rw [hp.2.2.1, hq.2.2.1, hj.2.2.1]
  have Y : btw (pY σ j) (pY σ p) (pY σ q) ↔ btw (σ 77 j).toInt (σ 77 p).toInt (σ 77 q).toInt := by unfold pY; rw [hp.2.2.2, hq.2.2.2, hj.2.2.2]
  rw [X, Y, ← gz]
  by_cases h0 : f_96 (σ 76 p) (σ 77 p) (σ 76 q) (σ 77 q) (σ 76 j) (σ 77 j) = 0
  · rw [if_pos h0]
    by_cases h1 : σ 76 q ≤ σ 76 p
    · rw [if_pos h1]
      by_cases h2 : σ 77 q ≤ σ 77 p
      · rw [if_pos h2, ite_01, ite_01, xx.1 h1, yy.1 h2]
        exact ⟨fun h => ⟨h0, h.1, h.2.1⟩, fun h => ⟨h.2.1, h.2.2, by decide⟩⟩
      · rw [if_neg h2, ite_01, ite_01, xx.1 h1, yy.2 h2]
        exact ⟨fun h => ⟨h0, h.1, h.2.1⟩, fun h => ⟨h.2.1, h.2.2, by decide⟩⟩
    · rw [if_neg h1]
      by_cases h2 : σ 77 q ≤ σ 77 p
      · rw [if_pos h2, ite_01, ite_01, xx.2 h1, yy.1 h2]
        exact ⟨fun h => ⟨h0, h.1, h.2.1⟩, fun h => ⟨h.2.1, h.2.2, by decide⟩⟩
      · rw [if_neg h2, ite_01, ite_01, xx.2 h1, yy.2 h2]
        exact ⟨fun h => ⟨h0, h.1, h.2.1⟩, fun h => ⟨h.2.1, h.2.2, by decide⟩⟩
  · rw [if_neg h0]
    exact ⟨fun h => absurd rfl h, fun h => absurd h.1 h0⟩
def sg (A : Int) : Int := if A < 0 then -1 else if A = 0 then 0 else 1
theorem sg_p (A B : Int) : sg A * sg B < 0 ↔ A * B < 0 := by
  unfold sg
  rcases Int.lt_trichotomy A 0 with a | a | a
  · rw [if_pos a]
    rcases Int.lt_trichotomy B 0 with b | b | b
    · rw [if_pos b]
      have := Int.mul_pos_of_neg_of_neg a b
      constructor <;> intro h <;> omega
    · rw [b]; simp
    · rw [if_neg (by omega), if_neg (by omega)]
      have := Int.mul_neg_of_neg_of_pos a b
      constructor <;> intro h <;> omega
  · rw [a]; simp
  · rw [if_neg (by omega), if_neg (by omega)]
    rcases Int.lt_trichotomy B 0 with b | b | b
    · rw [if_pos b]
      have := Int.mul_neg_of_pos_of_neg a b
      constructor <;> intro h <;> omega
    · rw [b]; simp
    · rw [if_neg (by omega), if_neg (by omega)]
      have := Int.mul_pos a b
      constructor <;> intro h <;> omega
theorem sg_b (A : Int) : -1 ≤ sg A ∧ sg A ≤ 1 := by
  unfold sg
  split
  · omega
  · split <;> omega
theorem gcr_b {σ : mm_S} {p q j : Nat} (hp : cG σ p) (hq : cG σ q) (hj : cG σ j) : -1922 ≤ gcr (vc σ p q) (vc σ p j) ∧ gcr (vc σ p q) (vc σ p j) ≤ 1922 := by
  unfold cG at hp hq hj
  have b1 := mul_bd (a := pX σ q - pX σ p) (b := pY σ j - pY σ p) (A := 31) (B := 31) (by omega) (by omega)
  have b2 := mul_bd (a := pY σ q - pY σ p) (b := pX σ j - pX σ p) (A := 31) (B := 31) (by omega) (by omega)
  show -1922 ≤ (pX σ q - pX σ p) * (pY σ j - pY σ p) - (pY σ q - pY σ p) * (pX σ j - pX σ p) ∧ (pX σ q - pX σ p) * (pY σ j - pY σ p) - (pY σ q - pY σ p) * (pX σ j - pX σ p) ≤ 1922
  omega
theorem m_neg {x y : Int32} {A B : Int} (hx : x.toInt = A) (hy : y.toInt = B) (ha : -1922 ≤ A ∧ A ≤ 1922) (hb : -1922 ≤ B ∧ B ≤ 1922) : ¬ (0 : Int32) ≤ x * y ↔ A * B < 0 := by
  have b := mul_bd (a := A) (b := B) (A := 1922) (B := 1922) ha hb
  rw [ge0, i32_mul (by rw [hx, hy]; omega), hx, hy]
  omega
theorem gcr_s (u : V2) : gcr u u = 0 := by unfold gcr; rw [Int.mul_comm]; omega
theorem vc_s (σ : mm_S) (p : Nat) : vc σ p p = (0, 0) := by unfold vc; simp
theorem gcr_0 (u : V2) : gcr u (0, 0) = 0 := by unfold gcr; simp
theorem xx_iff {σ : mm_S} {e f p q r s : Nat} (he : e < 21) (hf : f < 21) (hp : PR σ p) (hq : PR σ q) (hr : PR σ r) (hs : PR σ s) (a1 : σ 16 e = nI p) (a2 : σ 17 e = nI q) (a3 : σ 16 f = nI r) (a4 : σ 17 f = nI s) (b1 : σ 80 e = nI p) (b2 : σ 81 e = nI q) (b3 : σ 80 f = nI r) (b4 : σ 81 f = nI s) : mxx σ e f ↔ cxx σ e f := by
  have ce : (nI e).toNatClampNeg = e := nI_clamp (by omega)
  have cf : (nI f).toNatClampNeg = f := nI_clamp (by omega)
  have p9 := hp.1
  have q9 := hq.1
  have r9 := hr.1
  have s9 := hs.1
  have gp : p < 9 ∧ cG σ p := ⟨hp.1, hp.2.1⟩
  have gq : q < 9 ∧ cG σ q := ⟨hq.1, hq.2.1⟩
  have gr : r < 9 ∧ cG σ r := ⟨hr.1, hr.2.1⟩
  have gs : s < 9 ∧ cG σ s := ⟨hs.1, hs.2.1⟩
  have l1 := f_97_iff he hr hp hq b1 b2
  have l2 := f_97_iff he hs hp hq b1 b2
  have l3 := f_97_iff hf hp hr hs b3 b4
  have l4 := f_97_iff hf hq hr hs b3 b4
  have k1 := f_27_iff he gr gp gq a1 a2
  have k2 := f_27_iff he gs gp gq a1 a2
  have k3 := f_27_iff hf gp gr gs a3 a4
  have k4 := f_27_iff hf gq gr gs a3 a4
  have n27 : ∀ x y, f_27 σ x y = 0 ∨ ¬ f_27 σ x y = 0 := fun x y => Classical.em _
  have c26 : ¬ f_26 σ (nI e) (nI f) = 0 ↔ lon σ p r s ∨ lon σ q r s := by
    unfold f_26
    rw [ce, a1, a2, ← k3, ← k4]
    by_cases h : f_27 σ (nI p) (nI f) = 0
    · rw [if_pos h]
      by_cases h' : f_27 σ (nI q) (nI f) = 0
      · rw [if_pos h']; exact ⟨fun z => absurd rfl z, fun z => z.elim (fun y => absurd h y) (fun y => absurd h' y)⟩
      · rw [if_neg h']; exact ⟨fun _ => Or.inr h', fun _ => by decide⟩
    · rw [if_neg h]; exact ⟨fun _ => Or.inl h, fun _ => by decide⟩
  have c26' : ¬ f_26 σ (nI f) (nI e) = 0 ↔ lon σ r p q ∨ lon σ s p q := by
    unfold f_26
    rw [cf, a3, a4, ← k1, ← k2]
    by_cases h : f_27 σ (nI r) (nI e) = 0
    · rw [if_pos h]
      by_cases h' : f_27 σ (nI s) (nI e) = 0
      · rw [if_pos h']; exact ⟨fun z => absurd rfl z, fun z => z.elim (fun y => absurd h y) (fun y => absurd h' y)⟩
      · rw [if_neg h']; exact ⟨fun _ => Or.inr h', fun _ => by decide⟩
    · rw [if_neg h]; exact ⟨fun _ => Or.inl h, fun _ => by decide⟩
  have A := gcr_b hp.2.1 hq.2.1 hr.2.1
  have B := gcr_b hp.2.1 hq.2.1 hs.2.1
  have C := gcr_b hr.2.1 hs.2.1 hp.2.1
  have D := gcr_b hr.2.1 hs.2.1 hq.2.1
  have c29 : ¬ f_29 σ (nI e) (nI f) = 0 ↔ gcr (vc σ p q) (vc σ p r) * gcr (vc σ p q) (vc σ p s) < 0 ∧ gcr (vc σ r s) (vc σ r p) * gcr (vc σ r s) (vc σ r q) < 0 := by
    unfold f_29 f_30
    rw [ce, cf, a1, a2, a3, a4, ← m_neg (f_17_toInt gp gq gr) (f_17_toInt gp gq gs) A B, ← m_neg (f_17_toInt gr gs gp) (f_17_toInt gr gs gq) C D]
    by_cases h : (0 : Int32) ≤ f_17 σ (nI p) (nI q) (nI r) * f_17 σ (nI p) (nI q) (nI s)
    · rw [if_pos h, if_pos rfl]; exact ⟨fun z => absurd rfl z, fun z => absurd h z.1⟩
    · rw [if_neg h, if_neg (by decide)]
      by_cases h' : (0 : Int32) ≤ f_17 σ (nI r) (nI s) (nI p) * f_17 σ (nI r) (nI s) (nI q)
      · rw [if_pos h', if_pos rfl]; exact ⟨fun z => absurd rfl z, fun z => absurd h' z.2⟩
      · rw [if_neg h', if_neg (by decide)]; exact ⟨fun _ => ⟨h, h'⟩, fun _ => by decide⟩
  have cc : cxx σ e f ↔ (lon σ r p q ∨ lon σ s p q ∨ lon σ p r s ∨ lon σ q r s) ∨ (gcr (vc σ p q) (vc σ p r) * gcr (vc σ p q) (vc σ p s) < 0 ∧ gcr (vc σ r s) (vc σ r p) * gcr (vc σ r s) (vc σ r q) < 0) := by
    unfold cxx
    rw [← c29]
    constructor
    · intro h
      by_cases h1 : f_26 σ (nI e) (nI f) = 0
      · by_cases h2 : f_26 σ (nI f) (nI e) = 0
        · exact Or.inr (fun h3 => h ⟨h1, h2, h3⟩)
        · rcases c26'.mp h2 with h | h
          · exact Or.inl (Or.inl h)
          · exact Or.inl (Or.inr (Or.inl h))
      · rcases c26.mp h1 with h | h
        · exact Or.inl (Or.inr (Or.inr (Or.inl h)))
        · exact Or.inl (Or.inr (Or.inr (Or.inr h)))
    · rintro ((h | h | h | h) | h) ⟨z1, z2, z3⟩
      · exact c26'.mpr (Or.inl h) z2
      · exact c26'.mpr (Or.inr h) z2
      · exact c26.mpr (Or.inl h) z1
      · exact c26.mpr (Or.inr h) z1
      · exact h z3
  rw [cc]
  unfold mxx f_98
  rw [ce, cf, b1, b2, b3, b4, ← l1, ← l2, ← l3, ← l4]
  by_cases h1 : f_97 σ (nI r) (nI e) = 0
  · rw [if_pos h1]
    by_cases h2 : f_97 σ (nI s) (nI e) = 0
    · rw [if_pos h2]
      by_cases h3 : f_97 σ (nI p) (nI f) = 0
      · rw [if_pos h3]
        by_cases h4 : f_97 σ (nI q) (nI f) = 0
        · rw [if_pos h4]
          have red : (((¬ f_97 σ (nI r) (nI e) = 0) ∨ (¬ f_97 σ (nI s) (nI e) = 0) ∨ (¬ f_97 σ (nI p) (nI f) = 0) ∨ ¬ f_97 σ (nI q) (nI f) = 0) ∨ (gcr (vc σ p q) (vc σ p r) * gcr (vc σ p q) (vc σ p s) < 0 ∧ gcr (vc σ r s) (vc σ r p) * gcr (vc σ r s) (vc σ r q) < 0)) ↔ (gcr (vc σ p q) (vc σ p r) * gcr (vc σ p q) (vc σ p s) < 0 ∧ gcr (vc σ r s) (vc σ r p) * gcr (vc σ r s) (vc σ r q) < 0) := by
            constructor
            · rintro ((h | h | h | h) | h)
              · exact absurd h1 h
              · exact absurd h2 h
              · exact absurd h3 h
              · exact absurd h4 h
              · exact h
            · exact Or.inr
          rw [red]
          have cl : ∀ {u : Nat}, u < 9 → (nI u).toNatClampNeg = u := fun h => nI_clamp (by omega)
          rw [cl p9, cl q9, cl r9, cl s9, ite_01, ite_01, ite_01, ite_01, ite_01, ite_01]
          have sA := f_96_g hp hq hr
          have sB := f_96_g hp hq hs
          have sC := f_96_g hr hs hp
          have sD := f_96_g hr hs hq
          have b96 : ∀ X : Int, -1922 ≤ sg X ∧ sg X ≤ 1922 := fun X => by have := sg_b X; omega
          rw [m_neg (A := sg (gcr (vc σ p q) (vc σ p r))) (B := sg (gcr (vc σ p q) (vc σ p s))) sA sB (b96 _) (b96 _), m_neg (A := sg (gcr (vc σ r s) (vc σ r p))) (B := sg (gcr (vc σ r s) (vc σ r q))) sC sD (b96 _) (b96 _), sg_p, sg_p]
          constructor
          · rintro ⟨_, _, _, _, h, h', _⟩
            exact ⟨h, h'⟩
          · rintro ⟨h, h'⟩
            refine ⟨fun e => ?_, fun e => ?_, fun e => ?_, fun e => ?_, h, h', by decide⟩
            · have := nI9 p9 r9 e
              subst this
              rw [vc_s, gcr_0, Int.zero_mul] at h; omega
            · have := nI9 p9 s9 e
              subst this
              rw [vc_s, gcr_0, Int.mul_zero] at h; omega
            · have := nI9 q9 r9 e
              subst this
              rw [gcr_s, Int.zero_mul] at h; omega
            · have := nI9 q9 s9 e
              subst this
              rw [gcr_s, Int.mul_zero] at h; omega
        · rw [if_neg h4]; exact ⟨fun _ => Or.inl (Or.inr (Or.inr (Or.inr h4))), fun _ => by decide⟩
      · rw [if_neg h3]; exact ⟨fun _ => Or.inl (Or.inr (Or.inr (Or.inl h3))), fun _ => by decide⟩
    · rw [if_neg h2]; exact ⟨fun _ => Or.inl (Or.inr (Or.inl h2)), fun _ => by decide⟩
  · rw [if_neg h1]; exact ⟨fun _ => Or.inl (Or.inl h1), fun _ => by decide⟩
theorem ZI.pr {σ : mm_S} {n m j : Nat} (Z : ZI σ n m) (hj : j < 9) (hm : m.testBit j = true) : PR σ j := by
  have h := (Z.rm j hj).2 ((Z.ck.dr j hj).mpr hm)
  exact ⟨hj, Z.ck.xy j hj hm, h.1.symm, h.2.symm⟩
theorem ZI.xx {σ : mm_S} {n m e f : Nat} (Z : ZI σ n m) (he : e < n) (hf : f < n) : mxx σ e f ↔ cxx σ e f := by
  have n21 := Z.ck.jn.1
  obtain ⟨p, q, hp, hq, _, mp, mq, a1, a2⟩ := Z.ck.je e he
  obtain ⟨r, s, hr, hs, _, mr, ms, a3, a4⟩ := Z.ck.je f hf
  exact xx_iff (by omega) (by omega) (Z.pr hp mp) (Z.pr hq mq) (Z.pr hr mr) (Z.pr hs ms) a1 a2 a3 a4 (by rw [(Z.jj e he).1]; exact a1) (by rw [(Z.jj e he).2]; exact a2) (by rw [(Z.jj f hf).1]; exact a3) (by rw [(Z.jj f hf).2]; exact a4)
theorem ZI.lx {σ : mm_S} {n m e i : Nat} (Z : ZI σ n m) (he : e < n) (hi : i < 9) : mlx σ e i ↔ clx σ e i := by
  have n21 := Z.ck.jn.1
  obtain ⟨p, q, hp, hq, _, mp, mq, a1, a2⟩ := Z.ck.je e he
  unfold mlx clx
  have x1 : ¬ xd σ (nI i) = 0 ↔ xd σ (nI i) = 1 := ⟨fun h => (xd_01 σ _).resolve_left h, fun h z => by rw [h] at z; exact absurd z (by decide)⟩
  rw [x1, ← (Z.rm i hi).1]
  constructor
  · rintro ⟨h, k⟩
    have pi := Z.pr hi ((Z.ck.dr i hi).mp h)
    refine ⟨h, ?_⟩
    rw [f_27_iff (by omega) ⟨hi, pi.2.1⟩ ⟨hp, (Z.pr hp mp).2.1⟩ ⟨hq, (Z.pr hq mq).2.1⟩ a1 a2]
    exact (f_97_iff (by omega) pi (Z.pr hp mp) (Z.pr hq mq) (by rw [(Z.jj e he).1]; exact a1) (by rw [(Z.jj e he).2]; exact a2)).mp k
  · rintro ⟨h, k⟩
    have pi := Z.pr hi ((Z.ck.dr i hi).mp h)
    refine ⟨h, ?_⟩
    rw [f_97_iff (by omega) pi (Z.pr hp mp) (Z.pr hq mq) (by rw [(Z.jj e he).1]; exact a1) (by rw [(Z.jj e he).2]; exact a2)]
    exact (f_27_iff (by omega) ⟨hi, pi.2.1⟩ ⟨hp, (Z.pr hp mp).2.1⟩ ⟨hq, (Z.pr hq mq).2.1⟩ a1 a2).mp k

