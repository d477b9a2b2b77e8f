/-! class: the sketch; around each room the joins look different ways -/
/-- how many bits below i -/
def bc (m : Nat) : Nat → Nat
  | 0 => 0
  | i + 1 => bc m i + if m.testBit i = true then 1 else 0
def CK (σ : mm_S) (n m : Nat) : Prop := (σ 1 11 = nI (bc m 9)) ∧ (m < 512 ∧ σ 1 10 = nI m) ∧ (∀ j, j < 9 → (xd σ (nI j) = 1 ↔ m.testBit j = true)) ∧ (∀ j, j < 9 → m.testBit j = true → cG σ j) ∧ (∀ i j, i < 9 → j < 9 → m.testBit i = true → m.testBit j = true → pX σ i = pX σ j → pY σ i = pY σ j → i = j) ∧ (n ≤ 21 ∧ σ 1 12 = nI n) ∧ (∀ k, k < n → ∃ a b, a < 9 ∧ b < 9 ∧ a ≠ b ∧ m.testBit a = true ∧ m.testBit b = true ∧ σ 16 k = nI a ∧ σ 17 k = nI b) ∧ (∀ i, i < 9 → m.testBit i = true → ∃ q, q < 512 ∧ σ 15 i = nI q) ∧ (∀ i j, i < 9 → m.testBit i = true → (aj σ i j ↔ ∃ k, k < n ∧ ((σ 16 k = nI i ∧ σ 17 k = nI j) ∨ (σ 16 k = nI j ∧ σ 17 k = nI i)) ∧ j < 9))
theorem CK.cr {σ : mm_S} {n m : Nat} (h : CK σ n m) : σ 1 11 = nI (bc m 9) := h.1
theorem CK.dm {σ : mm_S} {n m : Nat} (h : CK σ n m) : m < 512 ∧ σ 1 10 = nI m := h.2.1
theorem CK.dr {σ : mm_S} {n m : Nat} (h : CK σ n m) : ∀ j, j < 9 → (xd σ (nI j) = 1 ↔ m.testBit j = true) := h.2.2.1
theorem CK.xy {σ : mm_S} {n m : Nat} (h : CK σ n m) : ∀ j, j < 9 → m.testBit j = true → cG σ j := h.2.2.2.1
theorem CK.ds {σ : mm_S} {n m : Nat} (h : CK σ n m) : ∀ i j, i < 9 → j < 9 → m.testBit i = true → m.testBit j = true → pX σ i = pX σ j → pY σ i = pY σ j → i = j := h.2.2.2.2.1
theorem CK.jn {σ : mm_S} {n m : Nat} (h : CK σ n m) : n ≤ 21 ∧ σ 1 12 = nI n := h.2.2.2.2.2.1
theorem CK.je {σ : mm_S} {n m : Nat} (h : CK σ n m) : ∀ k, k < n → ∃ a b, a < 9 ∧ b < 9 ∧ a ≠ b ∧ m.testBit a = true ∧ m.testBit b = true ∧ σ 16 k = nI a ∧ σ 17 k = nI b := h.2.2.2.2.2.2.1
theorem CK.jm {σ : mm_S} {n m : Nat} (h : CK σ n m) : ∀ i, i < 9 → m.testBit i = true → ∃ q, q < 512 ∧ σ 15 i = nI q := h.2.2.2.2.2.2.2.1
theorem CK.ja {σ : mm_S} {n m : Nat} (h : CK σ n m) : ∀ i j, i < 9 → m.testBit i = true → (aj σ i j ↔ ∃ k, k < n ∧ ((σ 16 k = nI i ∧ σ 17 k = nI j) ∨ (σ 16 k = nI j ∧ σ 17 k = nI i)) ∧ j < 9) := h.2.2.2.2.2.2.2.2
theorem CK.Jr {σ : mm_S} {n m : Nat} (C : CK σ n m) : Jr σ n := ⟨C.jn.1, C.jn.2, fun k hk => by
  obtain ⟨a, b, ha, hb, -, -, -, e1, e2⟩ := C.je k hk
  rw [e1, e2]
  exact ⟨pk_in a 9 ha, pk_in b 9 hb⟩⟩
theorem nI9 {a b : Nat} (ha : a < 9) (hb : b < 9) (h : nI a = nI b) : a = b := (nI_eq (by omega) (by omega)).mp h
theorem CK.aj_dr {σ : mm_S} {n m i j : Nat} (C : CK σ n m) (hi : i < 9) (hm : m.testBit i = true) (h : aj σ i j) : j < 9 ∧ m.testBit j = true ∧ j ≠ i := by
  obtain ⟨k, hk, h1, h2⟩ := (C.ja i j hi hm).mp h
  obtain ⟨a, b, ha, hb, hne, ma, mb, e1, e2⟩ := C.je k hk
  rw [e1, e2] at h1
  rcases h1 with ⟨p, q⟩ | ⟨p, q⟩
  · have := nI9 ha hi p
    have := nI9 hb h2 q
    subst a; subst b
    exact ⟨h2, mb, fun z => hne z.symm⟩
  · have := nI9 ha h2 p
    have := nI9 hb hi q
    subst a; subst b
    exact ⟨h2, ma, hne⟩
theorem CK.aj_sym {σ : mm_S} {n m i j : Nat} (C : CK σ n m) (hi : i < 9) (hm : m.testBit i = true) (h : aj σ i j) : aj σ j i := by
  obtain ⟨h9, hj, -⟩ := C.aj_dr hi hm h
  obtain ⟨k, hk, h1, h2⟩ := (C.ja i j hi hm).mp h
  exact (C.ja j i h9 hj).mpr ⟨k, hk, h1.symm, hi⟩
theorem f_26_t {σ : mm_S} {j e f : Nat} (he : e < 21) (hj : σ 16 e = nI j ∨ σ 17 e = nI j) (h : ¬ f_27 σ (nI j) (nI f) = 0) : ¬ f_26 σ (nI e) (nI f) = 0 := by
  unfold f_26
  rw [nI_clamp (show e < 2 ^ 31 by omega)]
  rcases hj with hj | hj
  · rw [hj, if_neg h]; decide
  · by_cases z : f_27 σ (σ 16 e) (nI f) = 0
    · rw [if_pos z, hj, if_neg h]; decide
    · rw [if_neg z]; decide
/-- nothing crosses -/
def NC (σ : mm_S) (n : Nat) : Prop := ∀ e f, e < f → f < n → ¬ cxx σ e f
theorem NC_t {σ : mm_S} {n e f : Nat} (N : NC σ n) (he : e < n) (hf : f < n) (hne : e ≠ f) : f_26 σ (nI e) (nI f) = 0 := by
  by_cases z : f_26 σ (nI e) (nI f) = 0
  · exact z
  · rcases Nat.lt_or_gt_of_ne hne with h | h
    · exact absurd (fun q => z q.1) (N e f h hf)
    · exact absurd (fun q => z q.2.1) (N f e h he)
theorem CK.gdd {σ : mm_S} {n m i : Nat} (C : CK σ n m) (N : NC σ n) (hi : i < 9) (hm : m.testBit i = true) : gdd (aj σ i) (vc σ i) := by
  have gi := C.xy i hi hm
  have pos : ∀ j, aj σ i j → 0 < gdt (vc σ i j) (vc σ i j) := fun j hj => by
    obtain ⟨h9, mj, hne⟩ := C.aj_dr hi hm hj
    refine gdt_pos (fun z => hne (C.ds j i h9 hi mj hm ?_ ?_))
    · have := z.1; unfold vc at this; simp only at this; omega
    · have := z.2; unfold vc at this; simp only at this; omega
  refine ⟨pos, fun j k hj hk hjk hs => ?_⟩
  obtain ⟨j9, mj, hji⟩ := C.aj_dr hi hm hj
  obtain ⟨k9, mk, hki⟩ := C.aj_dr hi hm hk
  obtain ⟨e, he, e1, -⟩ := (C.ja i j hi hm).mp hj
  obtain ⟨f, hf, f1, -⟩ := (C.ja i k hi hm).mp hk
  have n21 := C.jn.1
  have hef : e ≠ f := fun z => by
    subst z
    rcases e1 with ⟨p, q⟩ | ⟨p, q⟩ <;> rcases f1 with ⟨r, s⟩ | ⟨r, s⟩
    · exact hjk (nI9 j9 k9 (q.symm.trans s))
    · exact hki (nI9 k9 hi (r.symm.trans p))
    · exact hji (nI9 j9 hi (p.symm.trans r))
    · exact hjk (nI9 j9 k9 (p.symm.trans r))
  have t1 := NC_t N he hf hef
  have t2 := NC_t N hf he (fun z => hef z.symm)
  have gj := C.xy j j9 mj
  have gk := C.xy k k9 mk
  have ej : σ 16 e = nI j ∨ σ 17 e = nI j := e1.elim (fun z => Or.inr z.2) (fun z => Or.inl z.1)
  have fk : σ 16 f = nI k ∨ σ 17 f = nI k := f1.elim (fun z => Or.inr z.2) (fun z => Or.inl z.1)
  rcases gbt (pos j hj) (pos k hk) hs with b | b
  · obtain ⟨l1, l2⟩ := lon_of (σ := σ) (i := i) (j := j) (k := k) hji hjk hs.1 b
    refine f_26_t (f := f) (by omega) ej ?_ t1
    rcases f1 with ⟨r, s⟩ | ⟨r, s⟩
    · exact (f_27_iff (by omega) ⟨j9, gj⟩ ⟨hi, gi⟩ ⟨k9, gk⟩ r s).mpr l1
    · exact (f_27_iff (by omega) ⟨j9, gj⟩ ⟨k9, gk⟩ ⟨hi, gi⟩ r s).mpr l2
  · obtain ⟨l1, l2⟩ := lon_of (σ := σ) (i := i) (j := k) (k := j) hki (fun z => hjk z.symm) (by have := gcr_anti (vc σ i k) (vc σ i j); rw [hs.1] at this; omega) b
    refine f_26_t (f := e) (by omega) fk ?_ t2
    rcases e1 with ⟨r, s⟩ | ⟨r, s⟩
    · exact (f_27_iff (by omega) ⟨k9, gk⟩ ⟨hi, gi⟩ ⟨j9, gj⟩ r s).mpr l1
    · exact (f_27_iff (by omega) ⟨k9, gk⟩ ⟨j9, gj⟩ ⟨hi, gi⟩ r s).mpr l2
