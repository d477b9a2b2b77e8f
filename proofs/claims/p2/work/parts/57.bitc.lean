/-! class: bitCount, lowest as a number, findWideFace -/
def F153 (x0 : Int32) : Int32 := ((((((((x0 - ((x0.toUInt32 >>> ((1 : Int32).toUInt32 &&& Int32.toUInt32 31)).toInt32 &&& (1431655765 : Int32))) &&& (858993459 : Int32)) + (((x0 - ((x0.toUInt32 >>> ((1 : Int32).toUInt32 &&& Int32.toUInt32 31)).toInt32 &&& (1431655765 : Int32))).toUInt32 >>> ((2 : Int32).toUInt32 &&& Int32.toUInt32 31)).toInt32 &&& (858993459 : Int32))) + ((((x0 - ((x0.toUInt32 >>> ((1 : Int32).toUInt32 &&& Int32.toUInt32 31)).toInt32 &&& (1431655765 : Int32))) &&& (858993459 : Int32)) + (((x0 - ((x0.toUInt32 >>> ((1 : Int32).toUInt32 &&& Int32.toUInt32 31)).toInt32 &&& (1431655765 : Int32))).toUInt32 >>> ((2 : Int32).toUInt32 &&& Int32.toUInt32 31)).toInt32 &&& (858993459 : Int32))).toUInt32 >>> ((4 : Int32).toUInt32 &&& Int32.toUInt32 31)).toInt32) &&& (252645135 : Int32)) + ((((((x0 - ((x0.toUInt32 >>> ((1 : Int32).toUInt32 &&& Int32.toUInt32 31)).toInt32 &&& (1431655765 : Int32))) &&& (858993459 : Int32)) + (((x0 - ((x0.toUInt32 >>> ((1 : Int32).toUInt32 &&& Int32.toUInt32 31)).toInt32 &&& (1431655765 : Int32))).toUInt32 >>> ((2 : Int32).toUInt32 &&& Int32.toUInt32 31)).toInt32 &&& (858993459 : Int32))) + ((((x0 - ((x0.toUInt32 >>> ((1 : Int32).toUInt32 &&& Int32.toUInt32 31)).toInt32 &&& (1431655765 : Int32))) &&& (858993459 : Int32)) + (((x0 - ((x0.toUInt32 >>> ((1 : Int32).toUInt32 &&& Int32.toUInt32 31)).toInt32 &&& (1431655765 : Int32))).toUInt32 >>> ((2 : Int32).toUInt32 &&& Int32.toUInt32 31)).toInt32 &&& (858993459 : Int32))).toUInt32 >>> ((4 : Int32).toUInt32 &&& Int32.toUInt32 31)).toInt32) &&& (252645135 : Int32)).toUInt32 >>> ((8 : Int32).toUInt32 &&& Int32.toUInt32 31)).toInt32) + (((((((x0 - ((x0.toUInt32 >>> ((1 : Int32).toUInt32 &&& Int32.toUInt32 31)).toInt32 &&& (1431655765 : Int32))) &&& (858993459 : Int32)) + (((x0 - ((x0.toUInt32 >>> ((1 : Int32).toUInt32 &&& Int32.toUInt32 31)).toInt32 &&& (1431655765 : Int32))).toUInt32 >>> ((2 : Int32).toUInt32 &&& Int32.toUInt32 31)).toInt32 &&& (858993459 : Int32))) + ((((x0 - ((x0.toUInt32 >>> ((1 : Int32).toUInt32 &&& Int32.toUInt32 31)).toInt32 &&& (1431655765 : Int32))) &&& (858993459 : Int32)) + (((x0 - ((x0.toUInt32 >>> ((1 : Int32).toUInt32 &&& Int32.toUInt32 31)).toInt32 &&& (1431655765 : Int32))).toUInt32 >>> ((2 : Int32).toUInt32 &&& Int32.toUInt32 31)).toInt32 &&& (858993459 : Int32))).toUInt32 >>> ((4 : Int32).toUInt32 &&& Int32.toUInt32 31)).toInt32) &&& (252645135 : Int32)) + ((((((x0 - ((x0.toUInt32 >>> ((1 : Int32).toUInt32 &&& Int32.toUInt32 31)).toInt32 &&& (1431655765 : Int32))) &&& (858993459 : Int32)) + (((x0 - ((x0.toUInt32 >>> ((1 : Int32).toUInt32 &&& Int32.toUInt32 31)).toInt32 &&& (1431655765 : Int32))).toUInt32 >>> ((2 : Int32).toUInt32 &&& Int32.toUInt32 31)).toInt32 &&& (858993459 : Int32))) + ((((x0 - ((x0.toUInt32 >>> ((1 : Int32).toUInt32 &&& Int32.toUInt32 31)).toInt32 &&& (1431655765 : Int32))) &&& (858993459 : Int32)) + (((x0 - ((x0.toUInt32 >>> ((1 : Int32).toUInt32 &&& Int32.toUInt32 31)).toInt32 &&& (1431655765 : Int32))).toUInt32 >>> ((2 : Int32).toUInt32 &&& Int32.toUInt32 31)).toInt32 &&& (858993459 : Int32))).toUInt32 >>> ((4 : Int32).toUInt32 &&& Int32.toUInt32 31)).toInt32) &&& (252645135 : Int32)).toUInt32 >>> ((8 : Int32).toUInt32 &&& Int32.toUInt32 31)).toInt32).toUInt32 >>> ((16 : Int32).toUInt32 &&& Int32.toUInt32 31)).toInt32) &&& (63 : Int32))
theorem c_153 {d : Nat} {Q : mm_Q} {x : Int32} {σ : mm_S} (q : Q (some (.int (F153 x))) σ) : mD (d + 1) 153 [.int x] σ Q := ke_153 (kb_153_0 q)
set_option maxRecDepth 1000000 in
theorem F153_bc0 : ∀ a, a < 16 → ∀ m, m < 512 → F153 (nI (512 * a + m)) = nI (bc (512 * a + m) 13) := by decide +kernel
theorem F153_bc {m : Nat} (h : m < 8192) : F153 (nI m) = nI (bc m 13) := by
  have := F153_bc0 (m / 512) (by omega) (m % 512) (by omega)
  rw [show 512 * (m / 512) + m % 512 = m by omega] at this
  exact this
/-- the lowest bit -/
def lo (m : Nat) : Nat → Nat → Nat
  | 0, i => i
  | k + 1, i => if m.testBit i = true then i else lo m k (i + 1)
theorem lo_eq {m i : Nat} : ∀ k j, j + k = 13 → j ≤ i → i ≤ 13 → (∀ l, l < i → m.testBit l = false) → (i < 13 → m.testBit i = true) → lo m k j = i
  | 0, j, h1, h2, h3, _, _ => by show j = i; omega
  | k + 1, j, h1, h2, h3, h4, h5 => by
    show (if m.testBit j = true then j else lo m k (j + 1)) = i
    by_cases e : j = i
    · subst e; rw [if_pos (h5 (by omega))]
    · rw [if_neg (by rw [h4 j (by omega)]; decide)]
      exact lo_eq k (j + 1) (by omega) (by omega) h3 h4 h5
def F5 (x : Int32) : Int32 := nI (lo x.toNatClampNeg 13 0)
theorem F5_n {m : Nat} (h : m < 2 ^ 31) : F5 (nI m) = nI (lo m 13 0) := by unfold F5; rw [nI_clamp h]
theorem c_5f {d : Nat} {Q : mm_Q} {x : Int32} {σ : mm_S} (h : ¬ x < 0) (q : Q (some (.int (F5 x))) σ) : mD (d + 2) 5 [.int x] σ Q := by
  obtain ⟨m, hm, e⟩ := nI_of h
  subst e
  rw [F5_n hm] at q
  refine c_5 hm (fun i h1 h2 h3 => ?_)
  rw [lo_eq 13 0 rfl (Nat.zero_le i) h1 h2 h3] at q
  exact q
