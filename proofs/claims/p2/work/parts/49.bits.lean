/-! bits -/
theorem sh_bv (i : Nat) (hi : i < 31) (x : Int32) : (x >>> (nI i &&& 31)).toBitVec = x.toBitVec.sshiftRight i := by
  rw [Int32.toBitVec_shiftRight]
  have h : ∀ i, i < 31 → ((nI i &&& 31).toBitVec.smod 32).toNat = i := by decide
  show x.toBitVec.sshiftRight ((nI i &&& 31).toBitVec.smod 32).toNat = _
  rw [h i hi]
theorem and1 (y : Int32) : (y &&& 1 = 1) ↔ y.toBitVec.getLsbD 0 = true := by
  rw [← Int32.toBitVec_inj, Int32.toBitVec_and]
  constructor
  · intro h
    have := congrArg (fun z => z.getLsbD 0) h
    simp at this
    simpa using this
  · intro h
    apply BitVec.eq_of_getLsbD_eq
    intro k hk
    simp only [BitVec.getLsbD_and]
    by_cases e : k = 0
    · subst e; simp [h]
    · have : (1 : Int32).toBitVec.getLsbD k = false := by
        show (1#32).getLsbD k = false
        simp [BitVec.getLsbD_one, e]
      rw [this]; simp
theorem hs_bit {m i : Nat} (hm : m < 2 ^ 31) (hi : i < 31) : hs (nI m) (nI i) = if m.testBit i = true then 1 else 0 := by
  unfold hs
  have key : ((nI m >>> (nI i &&& 31)) &&& 1 = 1) ↔ m.testBit i = true := by
    rw [and1, sh_bv i hi, BitVec.getLsbD_sshiftRight]
    have : (nI m).toBitVec = BitVec.ofNat 32 m := rfl
    rw [this]
    simp only [Nat.add_zero, BitVec.getLsbD_ofNat]
    simp [show i < 32 by omega]
  by_cases h : m.testBit i = true
  · rw [if_pos h, if_pos (key.mpr h)]
  · rw [if_neg h, if_neg (fun z => h (key.mp z))]
theorem or_bit {m k : Nat} : nI m ||| nI k = nI (m ||| k) := by
  rw [← Int32.toBitVec_inj, Int32.toBitVec_or]
  show BitVec.ofNat 32 m ||| BitVec.ofNat 32 k = BitVec.ofNat 32 (m ||| k)
  rw [BitVec.ofNat_or]
theorem and_bit {m k : Nat} : nI m &&& nI k = nI (m &&& k) := by
  rw [← Int32.toBitVec_inj, Int32.toBitVec_and]
  show BitVec.ofNat 32 m &&& BitVec.ofNat 32 k = BitVec.ofNat 32 (m &&& k)
  rw [BitVec.ofNat_and]
theorem one_sh {i : Nat} (hi : i < 31) : (1 : Int32) <<< (nI i &&& 31) = nI (2 ^ i) := by
  have h : ∀ i, i < 31 → (1 : Int32) <<< (nI i &&& 31) = nI (2 ^ i) := by decide
  exact h i hi
theorem xor_bit {m k : Nat} : nI m ^^^ nI k = nI (m ^^^ k) := by
  rw [← Int32.toBitVec_inj, Int32.toBitVec_xor]
  show BitVec.ofNat 32 m ^^^ BitVec.ofNat 32 k = BitVec.ofNat 32 (m ^^^ k)
  rw [BitVec.ofNat_xor]
theorem hs_b1 {m i : Nat} (hm : m < 2 ^ 31) (hi : i < 31) : hs (nI m) (nI i) = 1 ↔ m.testBit i = true := by
  rw [hs_bit hm hi]
  by_cases h : m.testBit i = true
  · simp [h]
  · simp [h]
theorem hs_b0 {m i : Nat} (hm : m < 2 ^ 31) (hi : i < 31) : hs (nI m) (nI i) = 0 ↔ m.testBit i = false := by
  rw [hs_bit hm hi]
  by_cases h : m.testBit i = true
  · simp [h]
  · simp [h]
theorem aj_bit {σ : mm_S} {i j q : Nat} (hq : q < 512) (e : σ 15 i = nI q) : aj σ i j ↔ j < 9 ∧ q.testBit j = true := by
  unfold aj
  rw [e]
  constructor
  · rintro ⟨h1, h2⟩; exact ⟨h1, (hs_b1 (by omega) (by omega)).mp h2⟩
  · rintro ⟨h1, h2⟩; exact ⟨h1, (hs_b1 (by omega) (by omega)).mpr h2⟩
/-- Bits.lowest -/
theorem c_5 {d m : Nat} {Q : mm_Q} {σ : mm_S} (hm : m < 2 ^ 31) (q : ∀ i, i ≤ 13 → (∀ j, j < i → m.testBit j = false) → (i < 13 → m.testBit i = true) → Q (some (.int (nI i))) σ) : mD (d + 2) 5 [.int (nI m)] σ Q := by
  refine ke_5 (kb_5_0 ?_)
  refine lp_dn (P := fun i => (∀ j, j < i → m.testBit j = false) → mw (d + 1) mt_5 Q 2 [some (.int (nI m)), some (.int (nI i))] [] σ) 13 ?_ ?_ 0 (by omega) (fun j hj => absurd hj (Nat.not_lt_zero j))
  · intro h
    exact kb_5_2 (fun _ => kb_5_22 (q 13 (Nat.le_refl 13) h (fun z => absurd z (Nat.lt_irrefl 13)))) (fun g => absurd (by decide) g)
  · intro i hi ih h
    refine kb_5_2 (fun g => absurd g (hI_nle (a := 13) (by omega) hi)) (fun _ => kb_5_8 (c_4 (kb_5_13 (fun z => kb_5_16 ?_) (fun z => kb_5_22 (q i (by omega) h (fun _ => ?_))))))
    · rw [nI_1]
      refine ih (fun j hj => ?_)
      by_cases e : j = i
      · subst e; exact (hs_b0 hm (by omega)).mp z
      · exact h j (by omega)
    · exact (hs_b1 hm (by omega)).mp ((hs_01 _ _).resolve_left z)
