-- the invariant over both sketches
def ZI (σ : mm_S) (n m : Nat) : Prop := (CK σ n m) ∧ (COk σ) ∧ (BG σ) ∧ (DG σ) ∧ (WN σ) ∧ (MK σ n) ∧ (Rm σ) ∧ (∀ k, k < n → σ 80 k = σ 16 k ∧ σ 81 k = σ 17 k) ∧ (σ 10 10 = σ 1 9 ∧ (σ 1 9 = 1 → ∀ i, i < 4 → σ 83 i = σ 19 i)) ∧ (∀ j, j < 9 → (σ 75 j = 0 → σ 78 j = 1 ∧ σ 79 j = 1) ∧ (¬ σ 75 j = 0 → σ 78 j = σ 13 j ∧ σ 79 j = σ 14 j)) ∧ (∀ k, k < n → σ 82 k = σ 18 k) ∧ (∃ w, w ≤ 9 ∧ σ 9 1 = nI w ∧ σ 10 34 = nI w ∧ ∀ i, i < w → σ 98 i = σ 73 i)
theorem ZI.ck {σ : mm_S} {n m : Nat} (h : ZI σ n m) : CK σ n m := h.1
theorem ZI.co {σ : mm_S} {n m : Nat} (h : ZI σ n m) : COk σ := h.2.1
theorem ZI.bg {σ : mm_S} {n m : Nat} (h : ZI σ n m) : BG σ := h.2.2.1
theorem ZI.dg {σ : mm_S} {n m : Nat} (h : ZI σ n m) : DG σ := h.2.2.2.1
theorem ZI.wn {σ : mm_S} {n m : Nat} (h : ZI σ n m) : WN σ := h.2.2.2.2.1
theorem ZI.mk {σ : mm_S} {n m : Nat} (h : ZI σ n m) : MK σ n := h.2.2.2.2.2.1
theorem ZI.rm {σ : mm_S} {n m : Nat} (h : ZI σ n m) : Rm σ := h.2.2.2.2.2.2.1
theorem ZI.jj {σ : mm_S} {n m : Nat} (h : ZI σ n m) : ∀ k, k < n → σ 80 k = σ 16 k ∧ σ 81 k = σ 17 k := h.2.2.2.2.2.2.2.1
theorem ZI.cc {σ : mm_S} {n m : Nat} (h : ZI σ n m) : σ 10 10 = σ 1 9 ∧ (σ 1 9 = 1 → ∀ i, i < 4 → σ 83 i = σ 19 i) := h.2.2.2.2.2.2.2.2.1
theorem ZI.wh {σ : mm_S} {n m : Nat} (h : ZI σ n m) : ∀ j, j < 9 → (σ 75 j = 0 → σ 78 j = 1 ∧ σ 79 j = 1) ∧ (¬ σ 75 j = 0 → σ 78 j = σ 13 j ∧ σ 79 j = σ 14 j) := h.2.2.2.2.2.2.2.2.2.1
theorem ZI.ww {σ : mm_S} {n m : Nat} (h : ZI σ n m) : ∀ k, k < n → σ 82 k = σ 18 k := h.2.2.2.2.2.2.2.2.2.2.1
theorem ZI.wy {σ : mm_S} {n m : Nat} (h : ZI σ n m) : ∃ w, w ≤ 9 ∧ σ 9 1 = nI w ∧ σ 10 34 = nI w ∧ ∀ i, i < w → σ 98 i = σ 73 i := h.2.2.2.2.2.2.2.2.2.2.2
theorem xd_10 {σ τ : mm_S} (h : τ 1 10 = σ 1 10) (i : Int32) : xd τ i = xd σ i := by unfold xd; rw [h]
theorem Rm_cg {σ τ : mm_S} (h : τ 1 10 = σ 1 10) (h11 : τ 11 = σ 11) (h12 : τ 12 = σ 12) (h75 : τ 75 = σ 75) (h76 : τ 76 = σ 76) (h77 : τ 77 = σ 77) (R : Rm σ) : Rm τ := fun j hj => by
  rw [xd_10 h, h11, h12, h75, h76, h77]
  exact R j hj
theorem ZI_cg {σ τ : mm_S} {n m : Nat} (h : ∀ c, (c = 1 ∨ c = 9 ∨ (11 ≤ c ∧ c ≤ 19) ∨ (73 ≤ c ∧ c ≤ 83 ∧ c ≠ 74) ∨ c = 98) → τ c = σ c) (h10 : ∀ j, (j = 6 ∨ j = 10 ∨ j = 34) → τ 10 j = σ 10 j) (B : BG τ) (D : DG τ) (W : WN τ) (Z : ZI σ n m) : ZI τ n m := by
  have h1 := h 1 (by omega)
  refine ⟨CK_cg h1 (h 11 (by omega)) (h 12 (by omega)) (h 15 (by omega)) (h 16 (by omega)) (h 17 (by omega)) Z.ck, ?_, B, D, W, MK_cg (h10 6 (by omega)) (h10 10 (by omega)) (h 75 (by omega)) (h 80 (by omega)) (h 81 (by omega)) (h 83 (by omega)) Z.mk, Rm_cg (by rw [h1]) (h 11 (by omega)) (h 12 (by omega)) (h 75 (by omega)) (h 76 (by omega)) (h 77 (by omega)) Z.rm, ?_, ?_, ?_, ?_, ?_⟩
  · unfold COk; rw [h1, h 19 (by omega)]; exact Z.co
  · intro k hk; rw [h 80 (by omega), h 81 (by omega), h 16 (by omega), h 17 (by omega)]; exact Z.jj k hk
  · rw [h10 10 (by omega), h1, h 83 (by omega), h 19 (by omega)]; exact Z.cc
  · intro j hj; rw [h 75 (by omega), h 78 (by omega), h 79 (by omega), h 13 (by omega), h 14 (by omega)]; exact Z.wh j hj
  · intro k hk; rw [h 82 (by omega), h 18 (by omega)]; exact Z.ww k hk
  · rw [h 9 (by omega), h10 34 (by omega), h 98 (by omega), h 73 (by omega)]; exact Z.wy
theorem ZI_10 {σ : mm_S} {n m j : Nat} {x : Int32} (hj : j ≠ 6 ∧ j ≠ 10 ∧ j ≠ 34) (Z : ZI σ n m) : ZI (mm_up σ 10 j x) n m :=
  ZI_cg (fun c h => mm_up_n (by omega)) (fun i h => mm_up_o (by omega)) (BG_cg (fun c _ _ => mm_up_n (by omega)) Z.bg) (DG_cg (mm_up_n (by decide)) Z.dg) (by unfold WN; rw [mm_up_n (by decide)]; exact Z.wn) Z
theorem ZI_0 {σ : mm_S} {n m j : Nat} {x : Int32} (Z : ZI σ n m) : ZI (mm_up σ 0 j x) n m :=
  ZI_cg (fun c h => mm_up_n (by omega)) (fun i h => by rw [mm_up_n (by decide)]) (BG_cg (fun c _ _ => mm_up_n (by omega)) Z.bg) (DG_cg (mm_up_n (by decide)) Z.dg) (by unfold WN; rw [mm_up_n (by decide)]; exact Z.wn) Z
theorem ZI_MF {σ τ : mm_S} {n m : Nat} (F : MF σ τ) (Z : ZI σ n m) : ZI τ n m :=
  ZI_cg (fun c h => F.1 c (by omega) (by omega)) (fun i h => F.2 i (by omega)) (BG_cg (fun c _ _ => F.1 c (by omega) (by omega)) Z.bg) (DG_cg (F.1 45 (by omega) (by omega)) Z.dg) (by unfold WN; rw [F.1 3 (by omega) (by omega)]; exact Z.wn) Z
theorem ZI_jfr {σ τ : mm_S} {n m : Nat} (F : jfr σ τ) (B : BG τ) (D : DG τ) (W : WN τ) (Z : ZI σ n m) : ZI τ n m :=
  ZI_cg (fun c h => F c (by omega)) (fun i h => by rw [F 10 (by omega)]) B D W Z
theorem mi8 {r : Int32} (h : mi r 0 8 = 1) : ∃ i, i < 9 ∧ r = nI i := vp_in_of (mi_in h) (by decide)
theorem mi31 {x : Int32} (h : mi x 0 31 = 1) : 0 ≤ x.toInt ∧ x.toInt < 32 := by
  unfold mi at h
  by_cases h1 : x < 0
  · rw [if_pos h1] at h; exact absurd h (by decide)
  · rw [if_neg h1] at h
    by_cases h2 : (31 : Int32) < x
    · rw [if_pos h2] at h; exact absurd h (by decide)
    · have a := Int32.le_iff_toInt_le.mp (Int32.not_lt.mp h1)
      have b := Int32.le_iff_toInt_le.mp (Int32.not_lt.mp h2)
      have c : (0 : Int32).toInt = 0 := by decide
      have e : (31 : Int32).toInt = 31 := by decide
      omega
theorem xd_1 {σ : mm_S} {r : Int32} (h : xd σ r = 1) : ∃ i, i < 9 ∧ r = nI i := vp_in_of (xd_in h) (by decide)
theorem tb_or {m i j : Nat} : (m ||| 2 ^ i).testBit j = true ↔ (m.testBit j = true ∨ j = i) := by
  rw [Nat.testBit_or, Nat.testBit_two_pow, Bool.or_eq_true]
  simp only [decide_eq_true_eq]
  constructor
  · rintro (h | h)
    · exact Or.inl h
    · exact Or.inr h.symm
  · rintro (h | h)
    · exact Or.inl h
    · exact Or.inr h.symm
theorem xd_m {σ : mm_S} {m j : Nat} (hm : m < 512) (e : σ 1 10 = nI m) (hj : j < 9) : xd σ (nI j) = 1 ↔ m.testBit j = true := by
  unfold xd
  rw [if_neg, if_neg, e]
  · exact hs_b1 (by omega) (by omega)
  · exact hI_nle (a := 9) (by omega) hj
  · intro z
    have := Int32.lt_iff_toInt_lt.mp z
    rw [nI_toInt (by omega)] at this
    have c : (0 : Int32).toInt = 0 := by decide
    omega
theorem ZI_rdr {σ : mm_S} {n m : Nat} {r x y : Int32} (Z : ZI σ n m) (ok : mok r x y) (h0 : xd σ r = 0) (nt : ∀ j, j < 9 → ¬ xtk σ x y j) : ∃ m', ZI (rdr σ r x y) n m' := by
  obtain ⟨i, hi, rfl⟩ := mi8 ok.1
  have hx := mi31 ok.2.1
  have hy := mi31 ok.2.2
  obtain ⟨hm, e10⟩ := Z.ck.dm
  have nb : ¬ m.testBit i = true := fun z => by
    rw [(xd_m hm e10 hi).mpr z] at h0
    exact absurd h0 (by decide)
  have ci : (nI i).toNatClampNeg = i := nI_clamp (by omega)
  have fo : ∀ c, c ≠ 0 → c ≠ 1 → c ≠ 10 → (c < 11 ∨ 15 < c) → (c < 75 ∨ 77 < c) → rdr σ (nI i) x y c = σ c := fun c a b e f g => by
    unfold rdr xdr
    simp only [mm_up_n a, mm_up_n b, mm_up_n e, mm_up_n (show c ≠ 11 by omega), mm_up_n (show c ≠ 12 by omega), mm_up_n (show c ≠ 13 by omega), mm_up_n (show c ≠ 14 by omega), mm_up_n (show c ≠ 15 by omega), mm_up_n (show c ≠ 75 by omega), mm_up_n (show c ≠ 76 by omega), mm_up_n (show c ≠ 77 by omega)]
  have g10 : rdr σ (nI i) x y 1 10 = nI (m ||| 2 ^ i) := by
    have e : rdr σ (nI i) x y 1 10 = σ 1 10 ||| ((1 : Int32) <<< (nI i &&& 31)) := by
      unfold rdr xdr
      simp [mm_up_n, mm_up_o, mm_up_s]
    rw [e, e10, one_sh (by omega), or_bit]
  have g11 : rdr σ (nI i) x y 1 11 = σ 1 11 + 1 := by
    unfold rdr xdr
    simp [mm_up_n, mm_up_o, mm_up_s]
  have g1 : ∀ j, j ≠ 10 → j ≠ 11 → rdr σ (nI i) x y 1 j = σ 1 j := fun j a b => by
    unfold rdr xdr
    simp [mm_up_n, mm_up_o a, mm_up_o b]
  have gx : ∀ j, rdr σ (nI i) x y 11 j = if j = i then x else σ 11 j := fun j => by
    unfold rdr xdr
    simp only [mm_up_n (show (11 : Nat) ≠ 10 by decide), mm_up_n (show (11 : Nat) ≠ 77 by decide), mm_up_n (show (11 : Nat) ≠ 76 by decide), mm_up_n (show (11 : Nat) ≠ 75 by decide), mm_up_n (show (11 : Nat) ≠ 0 by decide), mm_up_n (show (11 : Nat) ≠ 1 by decide), mm_up_n (show (11 : Nat) ≠ 12 by decide), mm_up_n (show (11 : Nat) ≠ 13 by decide), mm_up_n (show (11 : Nat) ≠ 14 by decide), mm_up_n (show (11 : Nat) ≠ 15 by decide), ci]
    split
    · subst j; exact mm_up_s
    · exact mm_up_o (by assumption)
  have gy : ∀ j, rdr σ (nI i) x y 12 j = if j = i then y else σ 12 j := fun j => by
    unfold rdr xdr
    simp only [mm_up_n (show (12 : Nat) ≠ 10 by decide), mm_up_n (show (12 : Nat) ≠ 77 by decide), mm_up_n (show (12 : Nat) ≠ 76 by decide), mm_up_n (show (12 : Nat) ≠ 75 by decide), mm_up_n (show (12 : Nat) ≠ 0 by decide), mm_up_n (show (12 : Nat) ≠ 1 by decide), mm_up_n (show (12 : Nat) ≠ 11 by decide), mm_up_n (show (12 : Nat) ≠ 13 by decide), mm_up_n (show (12 : Nat) ≠ 14 by decide), mm_up_n (show (12 : Nat) ≠ 15 by decide), ci]
    split
    · subst j; exact mm_up_s
    · exact mm_up_o (by assumption)
  have g13 : ∀ j, rdr σ (nI i) x y 13 j = if j = i then 1 else σ 13 j := fun j => by
    unfold rdr xdr
    simp only [mm_up_n (show (13 : Nat) ≠ 10 by decide), mm_up_n (show (13 : Nat) ≠ 77 by decide), mm_up_n (show (13 : Nat) ≠ 76 by decide), mm_up_n (show (13 : Nat) ≠ 75 by decide), mm_up_n (show (13 : Nat) ≠ 0 by decide), mm_up_n (show (13 : Nat) ≠ 1 by decide), mm_up_n (show (13 : Nat) ≠ 11 by decide), mm_up_n (show (13 : Nat) ≠ 12 by decide), mm_up_n (show (13 : Nat) ≠ 14 by decide), mm_up_n (show (13 : Nat) ≠ 15 by decide), ci]
    split
    · subst j; exact mm_up_s
    · exact mm_up_o (by assumption)
  have g14 : ∀ j, rdr σ (nI i) x y 14 j = if j = i then 1 else σ 14 j := fun j => by
    unfold rdr xdr
    simp only [mm_up_n (show (14 : Nat) ≠ 10 by decide), mm_up_n (show (14 : Nat) ≠ 77 by decide), mm_up_n (show (14 : Nat) ≠ 76 by decide), mm_up_n (show (14 : Nat) ≠ 75 by decide), mm_up_n (show (14 : Nat) ≠ 0 by decide), mm_up_n (show (14 : Nat) ≠ 1 by decide), mm_up_n (show (14 : Nat) ≠ 11 by decide), mm_up_n (show (14 : Nat) ≠ 12 by decide), mm_up_n (show (14 : Nat) ≠ 13 by decide), mm_up_n (show (14 : Nat) ≠ 15 by decide), ci]
    split
    · subst j; exact mm_up_s
    · exact mm_up_o (by assumption)
  have g15 : ∀ j, rdr σ (nI i) x y 15 j = if j = i then 0 else σ 15 j := fun j => by
    unfold rdr xdr
    simp only [mm_up_n (show (15 : Nat) ≠ 10 by decide), mm_up_n (show (15 : Nat) ≠ 77 by decide), mm_up_n (show (15 : Nat) ≠ 76 by decide), mm_up_n (show (15 : Nat) ≠ 75 by decide), mm_up_n (show (15 : Nat) ≠ 0 by decide), mm_up_n (show (15 : Nat) ≠ 1 by decide), mm_up_n (show (15 : Nat) ≠ 11 by decide), mm_up_n (show (15 : Nat) ≠ 12 by decide), mm_up_n (show (15 : Nat) ≠ 13 by decide), mm_up_n (show (15 : Nat) ≠ 14 by decide), ci]
    split
    · subst j; exact mm_up_s
    · exact mm_up_o (by assumption)
  have g75 : ∀ j, rdr σ (nI i) x y 75 j = if j = i then 1 else σ 75 j := fun j => by
    unfold rdr xdr
    simp only [mm_up_n (show (75 : Nat) ≠ 10 by decide), mm_up_n (show (75 : Nat) ≠ 77 by decide), mm_up_n (show (75 : Nat) ≠ 76 by decide), mm_up_n (show (75 : Nat) ≠ 0 by decide), mm_up_n (show (75 : Nat) ≠ 1 by decide), mm_up_n (show (75 : Nat) ≠ 11 by decide), mm_up_n (show (75 : Nat) ≠ 12 by decide), mm_up_n (show (75 : Nat) ≠ 13 by decide), mm_up_n (show (75 : Nat) ≠ 14 by decide), mm_up_n (show (75 : Nat) ≠ 15 by decide), ci, nar_1]
    split
    · subst j; rw [mm_up_s]
    · rw [mm_up_o (by assumption)]; simp only [mm_up_n (show (75 : Nat) ≠ 0 by decide), mm_up_n (show (75 : Nat) ≠ 1 by decide), mm_up_n (show (75 : Nat) ≠ 11 by decide), mm_up_n (show (75 : Nat) ≠ 12 by decide), mm_up_n (show (75 : Nat) ≠ 13 by decide), mm_up_n (show (75 : Nat) ≠ 14 by decide), mm_up_n (show (75 : Nat) ≠ 15 by decide), mm_up_n (show (75 : Nat) ≠ 10 by decide)]
  have g76 : ∀ j, rdr σ (nI i) x y 76 j = if j = i then x else σ 76 j := fun j => by
    unfold rdr xdr
    simp only [mm_up_n (show (76 : Nat) ≠ 10 by decide), mm_up_n (show (76 : Nat) ≠ 77 by decide), mm_up_n (show (76 : Nat) ≠ 75 by decide), ci]
    split
    · subst j; rw [mm_up_s]
    · rw [mm_up_o (by assumption)]; simp only [mm_up_n (show (76 : Nat) ≠ 0 by decide), mm_up_n (show (76 : Nat) ≠ 1 by decide), mm_up_n (show (76 : Nat) ≠ 11 by decide), mm_up_n (show (76 : Nat) ≠ 12 by decide), mm_up_n (show (76 : Nat) ≠ 13 by decide), mm_up_n (show (76 : Nat) ≠ 14 by decide), mm_up_n (show (76 : Nat) ≠ 15 by decide), mm_up_n (show (76 : Nat) ≠ 10 by decide), mm_up_n (show (76 : Nat) ≠ 75 by decide)]
  have g77 : ∀ j, rdr σ (nI i) x y 77 j = if j = i then y else σ 77 j := fun j => by
    unfold rdr xdr
    simp only [mm_up_n (show (77 : Nat) ≠ 10 by decide), mm_up_n (show (77 : Nat) ≠ 75 by decide), ci]
    split
    · subst j; rw [mm_up_s]
    · rw [mm_up_o (by assumption)]; simp only [mm_up_n (show (77 : Nat) ≠ 0 by decide), mm_up_n (show (77 : Nat) ≠ 1 by decide), mm_up_n (show (77 : Nat) ≠ 11 by decide), mm_up_n (show (77 : Nat) ≠ 12 by decide), mm_up_n (show (77 : Nat) ≠ 13 by decide), mm_up_n (show (77 : Nat) ≠ 14 by decide), mm_up_n (show (77 : Nat) ≠ 15 by decide), mm_up_n (show (77 : Nat) ≠ 10 by decide), mm_up_n (show (77 : Nat) ≠ 75 by decide), mm_up_n (show (77 : Nat) ≠ 76 by decide)]
  have gm : ∀ j, j ≠ 0 → j ≠ 12 → rdr σ (nI i) x y 10 j = σ 10 j := fun j a b => by
    unfold rdr xdr
    simp only [mm_up_o b, mm_up_o a, mm_up_n (show (10 : Nat) ≠ 75 by decide), mm_up_n (show (10 : Nat) ≠ 76 by decide), mm_up_n (show (10 : Nat) ≠ 77 by decide), mm_up_n (show (10 : Nat) ≠ 0 by decide), mm_up_n (show (10 : Nat) ≠ 1 by decide), mm_up_n (show (10 : Nat) ≠ 11 by decide), mm_up_n (show (10 : Nat) ≠ 12 by decide), mm_up_n (show (10 : Nat) ≠ 13 by decide), mm_up_n (show (10 : Nat) ≠ 14 by decide), mm_up_n (show (10 : Nat) ≠ 15 by decide)]
  generalize rdr σ (nI i) x y = τ at *
  have hm' : m ||| 2 ^ i < 512 := Nat.or_lt_two_pow (n := 9) hm (Nat.pow_lt_pow_right (by decide) hi)
  have C := Z.ck
  have old : ∀ {j}, (m ||| 2 ^ i).testBit j = true → j ≠ i → m.testBit j = true := fun h h' => (tb_or.mp h).resolve_right h'
  have up : ∀ {j}, m.testBit j = true → (m ||| 2 ^ i).testBit j = true := fun h => tb_or.mpr (Or.inl h)
  have ne : ∀ {j}, m.testBit j = true → j ≠ i := fun h e => nb (by rw [← e]; exact h)
  have e16 : τ 16 = σ 16 := fo 16 (by omega) (by omega) (by omega) (by omega) (by omega)
  have e17 : τ 17 = σ 17 := fo 17 (by omega) (by omega) (by omega) (by omega) (by omega)
  have nj : ∀ k, k < n → ¬ σ 16 k = nI i ∧ ¬ σ 17 k = nI i := fun k hk => by
    obtain ⟨a, b, ha, hb, _, ma, mb, ea, eb⟩ := C.je k hk
    exact ⟨fun z => ne ma (nI9 ha hi (ea.symm.trans z)), fun z => ne mb (nI9 hb hi (eb.symm.trans z))⟩
  refine ⟨m ||| 2 ^ i, ⟨?_, ⟨hm', g10⟩, fun j hj => xd_m hm' g10 hj, ?_, ?_, ⟨C.jn.1, by rw [g1 12 (by decide) (by decide)]; exact C.jn.2⟩, ?_, ?_, ?_⟩, ?_, BG_cg (fun c _ _ => fo c (by omega) (by omega) (by omega) (by omega) (by omega)) Z.bg, DG_cg (fo 45 (by omega) (by omega) (by omega) (by omega) (by omega)) Z.dg, ?_, ?_, ?_, ?_, ?_, ?_, ?_, ?_⟩
  · rw [g11, C.cr, bc_add nb 9, if_pos hi, nI_1]
  · intro j hj mj
    unfold cG pX pY
    rw [gx, gy]
    by_cases e : j = i
    · rw [if_pos e, if_pos e]; exact ⟨hx.1, hx.2, hy.1, hy.2⟩
    · rw [if_neg e, if_neg e]; exact C.xy j hj (old mj e)
  · intro a b ha hb ma mb
    unfold pX pY
    rw [gx, gx, gy, gy]
    by_cases ea : a = i
    · by_cases eb : b = i
      · intros; omega
      · rw [if_pos ea, if_neg eb, if_pos ea, if_neg eb]
        intro p q
        exact absurd ⟨(xd_m hm e10 hb).mpr (old mb eb), (Int32.toInt_inj.mp p).symm, (Int32.toInt_inj.mp q).symm⟩ (nt b hb)
    · by_cases eb : b = i
      · rw [if_neg ea, if_pos eb, if_neg ea, if_pos eb]
        intro p q
        exact absurd ⟨(xd_m hm e10 ha).mpr (old ma ea), Int32.toInt_inj.mp p, Int32.toInt_inj.mp q⟩ (nt a ha)
      · rw [if_neg ea, if_neg eb, if_neg ea, if_neg eb]
        exact C.ds a b ha hb (old ma ea) (old mb eb)
  · intro k hk
    obtain ⟨a, b, ha, hb, hne, ma, mb, ea, eb⟩ := C.je k hk
    exact ⟨a, b, ha, hb, hne, up ma, up mb, by rw [e16]; exact ea, by rw [e17]; exact eb⟩
  · intro j hj mj
    rw [g15]
    by_cases e : j = i
    · rw [if_pos e]; exact ⟨0, by omega, rfl⟩
    · rw [if_neg e]; exact C.jm j hj (old mj e)
  · intro a b ha ma
    rw [e16, e17]
    by_cases e : a = i
    · subst e
      constructor
      · intro h
        have h2 := h.2
        rw [g15, if_pos rfl, show (0 : Int32) = nI 0 from rfl, hs_b1 (by decide) (by have := h.1; omega)] at h2
        simp at h2
      · rintro ⟨k, hk, h, _⟩
        rcases h with h | h
        · exact absurd h.1 (nj k hk).1
        · exact absurd h.2 (nj k hk).2
    · rw [← C.ja a b ha (old ma e)]
      unfold aj
      rw [g15, if_neg e]
  · unfold COk
    rw [g1 9 (by decide) (by decide), fo 19 (by omega) (by omega) (by omega) (by omega) (by omega)]
    exact Z.co
  · unfold WN
    rw [fo 3 (by omega) (by omega) (by omega) (by omega) (by omega)]
    exact Z.wn
  · have M := Z.mk
    have e80 : τ 80 = σ 80 := fo 80 (by omega) (by omega) (by omega) (by omega) (by omega)
    have e81 : τ 81 = σ 81 := fo 81 (by omega) (by omega) (by omega) (by omega) (by omega)
    refine ⟨⟨M.jn.1, by rw [gm 6 (by decide) (by decide)]; exact M.jn.2⟩, fun k hk => ?_, ?_, ?_⟩
    · obtain ⟨a, b, ha, hb, hne, da, db, ea, eb⟩ := M.je k hk
      refine ⟨a, b, ha, hb, hne, ?_, ?_, by rw [e80]; exact ea, by rw [e81]; exact eb⟩
      · rw [g75]; split
        · decide
        · exact da
      · rw [g75]; split
        · decide
        · exact db
    · rw [e80, e81]; exact M.jd
    · rw [gm 10 (by decide) (by decide), fo 83 (by omega) (by omega) (by omega) (by omega) (by omega)]; exact M.co
  · intro j hj
    rw [xd_m hm' g10 hj, gx, gy, g75, g76, g77]
    by_cases e : j = i
    · rw [if_pos e, if_pos e, if_pos e, if_pos e, if_pos e]
      exact ⟨⟨fun _ => by decide, fun _ => tb_or.mpr (Or.inr e)⟩, fun _ => ⟨rfl, rfl⟩⟩
    · rw [if_neg e, if_neg e, if_neg e, if_neg e, if_neg e]
      have R := Z.rm j hj
      rw [xd_m hm e10 hj] at R
      exact ⟨⟨fun h => R.1.mp (old h e), fun h => up (R.1.mpr h)⟩, fun h => R.2 (old h e)⟩
  · intro k hk
    rw [e16, e17, fo 80 (by omega) (by omega) (by omega) (by omega) (by omega), fo 81 (by omega) (by omega) (by omega) (by omega) (by omega)]
    exact Z.jj k hk
  · rw [gm 10 (by decide) (by decide), g1 9 (by decide) (by decide), fo 83 (by omega) (by omega) (by omega) (by omega) (by omega), fo 19 (by omega) (by omega) (by omega) (by omega) (by omega)]
    exact Z.cc
  · intro j hj
    rw [g75, fo 78 (by omega) (by omega) (by omega) (by omega) (by omega), fo 79 (by omega) (by omega) (by omega) (by omega) (by omega), g13, g14]
    by_cases e : j = i
    · rw [if_pos e, if_pos e, if_pos e]
      have u : σ 75 j = 0 := by
        apply Classical.byContradiction
        intro z
        exact nb (by rw [← e]; exact (xd_m hm e10 hj).mp ((Z.rm j hj).1.mpr z))
      exact ⟨fun h => absurd h (by decide), fun _ => (Z.wh j hj).1 u⟩
    · rw [if_neg e, if_neg e, if_neg e]
      exact Z.wh j hj
  · intro k hk
    rw [fo 82 (by omega) (by omega) (by omega) (by omega) (by omega), fo 18 (by omega) (by omega) (by omega) (by omega) (by omega)]
    exact Z.ww k hk
  · rw [fo 9 (by omega) (by omega) (by omega) (by omega) (by omega), gm 34 (by decide) (by decide), fo 98 (by omega) (by omega) (by omega) (by omega) (by omega), fo 73 (by omega) (by omega) (by omega) (by omega) (by omega)]
    exact Z.wy
