/-! class: what plan needs to know between its steps -/
theorem bcz_0 : ∀ n, bc 0 n = 0
  | 0 => rfl
  | n + 1 => by unfold bc; rw [bcz_0 n]; simp
theorem bcz_1 {i n : Nat} (h : i < n) : bc (2 ^ i) n = 1 := by
  have := bc_add (m := 0) (i := i) (by simp) n
  rw [Nat.zero_or, bcz_0, if_pos h] at this
  exact this
theorem bcz_2 {a b n : Nat} (ha : a < n) (hb : b < n) (hab : a ≠ b) : bc (2 ^ a ||| 2 ^ b) n = 2 := by
  rw [bc_add (by rw [Nat.testBit_two_pow]; simpa using hab), bcz_1 ha, if_pos hb]
theorem bcz_3 {a b c n : Nat} (ha : a < n) (hb : b < n) (hc : c < n) (hab : a ≠ b) (hac : a ≠ c) (hbc : b ≠ c) : bc (2 ^ a ||| 2 ^ b ||| 2 ^ c) n = 3 := by
  rw [bc_add (by rw [Nat.testBit_or, Nat.testBit_two_pow, Nat.testBit_two_pow]; simp [hac, hbc]), bcz_2 ha hb hab, if_pos hc]
theorem bc_ge3 {M a b c n : Nat} (ha : a < n) (hb : b < n) (hc : c < n) (hab : a ≠ b) (hac : a ≠ c) (hbc : b ≠ c) (ma : M.testBit a = true) (mb : M.testBit b = true) (mc : M.testBit c = true) : 3 ≤ bc M n := by
  rw [← bcz_3 ha hb hc hab hac hbc]
  refine bc_le n (fun j _ h => ?_)
  rw [Nat.testBit_or, Nat.testBit_or, Nat.testBit_two_pow, Nat.testBit_two_pow, Nat.testBit_two_pow, Bool.or_eq_true, Bool.or_eq_true] at h
  rcases h with (h | h) | h
  · rw [← show a = j by simpa using h]; exact ma
  · rw [← show b = j by simpa using h]; exact mb
  · rw [← show c = j by simpa using h]; exact mc
theorem Cn_aj {σ : mm_S} {m i : Nat} (Z : Cn σ m) (h3 : 3 ≤ bc m 9) (hi : i < 9) (mi : m.testBit i = true) : ∃ j, aj σ i j := by
  refine Classical.byContradiction (fun hn => ?_)
  have all := Z (fun x => x = i) ⟨i, hi, mi, rfl⟩ (fun a b _ _ e hab => absurd ⟨b, by rw [← e]; exact hab⟩ hn)
  have : bc m 9 ≤ bc (2 ^ i) 9 := bc_le 9 (fun j hj h => by rw [all j hj h]; exact Nat.testBit_two_pow_self)
  rw [bcz_1 hi] at this
  omega
/-- each inner face has three rooms at least -/
theorem FS_3 {σ τ : mm_S} {n m f g M : Nat} (C : CK σ n m) (H : BH σ τ m) (S : FS σ τ m f) (Z : Cn σ m) (h3 : 3 ≤ bc m 9) (hg : g < f) (hM : M < 512) (e : τ 43 g = nI M) : 3 ≤ bc M 9 := by
  obtain ⟨M', m1, m2, m3, x, hx, hxg, -⟩ := S.fr g hg
  have eM : M' = M := (nI_eq (by omega) (by omega)).mp (m2.symm.trans e)
  subst eM
  have room : ∀ y, Dt σ m y → Fw τ y = nI g → M'.testBit y.1 = true := fun y hy hl => (m3 y.1 hy.1).mpr ⟨y.2, hy, hl⟩
  have D1 := ph_D C H x hx
  have D2 := ph_D C H _ D1
  have l1 : Fw τ (ph (Bf τ) x) = nI g := by rw [S.iv x hx]; exact hxg
  have l2 : Fw τ (ph (Bf τ) (ph (Bf τ) x)) = nI g := by rw [S.iv _ D1]; exact l1
  have r0 := room x hx hxg
  have r1 : M'.testBit x.2 = true := room _ D1 l1
  have r2 : M'.testBit (Bf τ x.2 x.1) = true := room _ D2 l2
  obtain ⟨b9, mb, ab⟩ := Dt_2 C hx
  have ne1 : x.2 ≠ x.1 := (C.aj_dr hx.1 hx.2.1 hx.2.2).2.2
  obtain ⟨c9, mc, ac⟩ := Dt_2 C D1
  have ne2 : Bf τ x.2 x.1 ≠ x.2 := (C.aj_dr b9 mb D1.2.2).2.2
  by_cases e1 : Bf τ x.2 x.1 = x.1
  · -- b has a alone
    have n1 := (BH_sp H b9 mb ab).2
    have only1 : ∀ j, aj σ x.2 j → j = x.1 := by
      rcases n1.2.2 with z | z
      · exact z.2
      · exact absurd e1 z.1
    have D3 := ph_D C H _ D2
    have l3 : Fw τ (ph (Bf τ) (ph (Bf τ) (ph (Bf τ) x))) = nI g := by rw [S.iv _ D2]; exact l2
    have r3 := room _ D3 l3
    have D2' : Dt σ m (x.1, Bf τ x.1 x.2) := by
      have h := D2
      unfold ph at h
      simp only [e1] at h
      exact h
    have eq3 : (ph (Bf τ) (ph (Bf τ) (ph (Bf τ) x))).1 = Bf τ x.1 x.2 := by
      show Bf τ (Bf τ x.2 x.1) x.2 = Bf τ x.1 x.2
      rw [e1]
    rw [eq3] at r3
    have ne3 : Bf τ x.1 x.2 ≠ x.1 := (C.aj_dr hx.1 hx.2.1 D2'.2.2).2.2
    have e9 : Bf τ x.1 x.2 < 9 := D2'.2.2.1
    by_cases e2 : Bf τ x.1 x.2 = x.2
    · exfalso
      have n2 := (BH_sp H hx.1 hx.2.1 hx.2.2).2
      have only2 : ∀ j, aj σ x.1 j → j = x.2 := by
        rcases n2.2.2 with z | z
        · exact z.2
        · exact absurd e2 z.1
      have all := Z (fun y => y = x.1 ∨ y = x.2) ⟨x.1, hx.1, hx.2.1, Or.inl rfl⟩ (fun i j _ _ hi hij => by
        rcases hi with hi | hi
        · rw [hi] at hij; exact Or.inr (only2 j hij)
        · rw [hi] at hij; exact Or.inl (only1 j hij))
      have : bc m 9 ≤ bc (2 ^ x.1 ||| 2 ^ x.2) 9 := bc_le 9 (fun j hj h => by
        rw [Nat.testBit_or, Nat.testBit_two_pow, Nat.testBit_two_pow, Bool.or_eq_true]
        rcases all j hj h with z | z
        · exact Or.inl (by simp [z])
        · exact Or.inr (by simp [z]))
      rw [bcz_2 hx.1 b9 (fun z => ne1 z.symm)] at this
      omega
    · exact bc_ge3 hx.1 b9 e9 (fun z => ne1 z.symm) (fun z => ne3 z.symm) (fun z => e2 z.symm) r0 r1 r3
  · exact bc_ge3 hx.1 b9 c9 (fun z => ne1 z.symm) (fun z => e1 z.symm) (fun z => ne2 z.symm) r0 r1 r2
theorem OL_OA {τ : mm_S} {s t L : Nat} (O : OL τ s t L) (h9 : ∀ k, wo (Bf τ) s t k < 9) : OA τ L (wo (Bf τ) s t) := by
  obtain ⟨l1, l9, e3, eL, eL1, dis, arr, non⟩ := O
  refine ⟨l1, l9, e3, fun k hk => ⟨h9 k, (arr k hk).1, (arr k hk).2⟩, fun i k hi hk h => ?_⟩
  refine Classical.byContradiction (fun hn => ?_)
  by_cases ex : ∃ j, j < L ∧ wo (Bf τ) s t j = i
  · obtain ⟨j, hj, e⟩ := ex
    have := (arr j hj).2
    rw [e, h] at this
    have := (nI_eq (by omega) (by omega)).mp this
    exact hn (by rw [this, e])
  · rw [non i hi (fun j hj e => ex ⟨j, hj, e⟩)] at h
    exact nI_m1 (by omega) h.symm
theorem FSd_uniq {K : Nat → Nat} {r s s' : Nat} (F : FSd K r s) (F' : FSd K r s') : s = s' := by
  obtain ⟨h4, F⟩ := F
  obtain ⟨h4', F'⟩ := F'
  rcases F with ⟨a1, a2, a3⟩ | ⟨a1, a2⟩ <;> rcases F' with ⟨b1, b2, b3⟩ | ⟨b1, b2⟩
  · rcases Nat.lt_trichotomy s s' with z | z | z
    · exact absurd ⟨a1, a2⟩ (b3 s z)
    · exact z
    · exact absurd ⟨b1, b2⟩ (a3 s' z)
  · have := b2 s h4 a1; rw [a2] at this; exact absurd this (by decide)
  · have := a2 s' h4' b1; rw [b2] at this; exact absurd this (by decide)
  · omega
theorem st_mod {L i : Nat} {p : Nat → Nat} (hp : p (nx4 i) < L) (hq : p i < L) : (p i + st L p i) % L = p (nx4 i) := by
  unfold st
  split
  · rw [show p i + (p (nx4 i) + L - p i) = p (nx4 i) + L by omega, Nat.add_mod_right, Nat.mod_eq_of_lt hp]
  · rw [show p i + (p (nx4 i) - p i) = p (nx4 i) by omega, Nat.mod_eq_of_lt hp]
/-- the sides go around the whole outline -/
theorem cover {L k : Nat} {o p : Nat → Nat} (hp : ∀ i, i < 4 → p i < L) (hs : st L p 0 + st L p 1 + st L p 2 + st L p 3 = L) (hk : k < L) : ∃ s, s < 4 ∧ onp o p L s (st L p s + 1) (o k) := by
  have m0 := st_mod (i := 0) (hp 1 (by decide)) (hp 0 (by decide))
  have m1 := st_mod (i := 1) (hp 2 (by decide)) (hp 1 (by decide))
  have m2 := st_mod (i := 2) (hp 3 (by decide)) (hp 2 (by decide))
  simp only [nx4] at m0 m1 m2
  have p0 := hp 0 (by decide)
  obtain ⟨x, x1, x2, x3⟩ : ∃ x, p 0 ≤ x ∧ x < p 0 + L ∧ x % L = k := by
    rcases Nat.lt_or_ge k (p 0) with z | z
    · exact ⟨k + L, by omega, by omega, by rw [Nat.add_mod_right, Nat.mod_eq_of_lt hk]⟩
    · exact ⟨k, z, by omega, Nat.mod_eq_of_lt hk⟩
  have q1 : (p 0 + st L p 0) % L = p 1 := m0
  have q2 : (p 0 + st L p 0 + st L p 1) % L = p 2 := by rw [← Nat.mod_add_mod, q1]; exact m1
  have q3 : (p 0 + st L p 0 + st L p 1 + st L p 2) % L = p 3 := by rw [← Nat.mod_add_mod, q2]; exact m2
  have fin : ∀ (s base : Nat), s < 4 → base % L = p s → base ≤ x → x ≤ base + st L p s → ∃ s, s < 4 ∧ onp o p L s (st L p s + 1) (o k) := fun s base h4 hb h1 h2 => by
    refine ⟨s, h4, x - base, by omega, ?_⟩
    rw [← hb, Nat.mod_add_mod, show base + (x - base) = x by omega, x3]
  rcases Nat.lt_or_ge (p 0 + st L p 0) x with z0 | z0
  · rcases Nat.lt_or_ge (p 0 + st L p 0 + st L p 1) x with z1 | z1
    · rcases Nat.lt_or_ge (p 0 + st L p 0 + st L p 1 + st L p 2) x with z2 | z2
      · exact fin 3 _ (by decide) q3 (by omega) (by omega)
      · exact fin 2 _ (by decide) q2 (by omega) (by omega)
    · exact fin 1 _ (by decide) q1 (by omega) (by omega)
  · exact fin 0 (p 0) (by decide) (Nat.mod_eq_of_lt p0) (by omega) (by omega)
