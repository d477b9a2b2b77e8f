/-! contracts: the class's room -/
def xdr (σ : mm_S) (x1 x2 x3 : Int32) : mm_S := (mm_up (mm_up (mm_up (mm_up (mm_up (mm_up (mm_up σ 11 x1.toNatClampNeg x2) 12 x1.toNatClampNeg x3) 13 x1.toNatClampNeg (1 : Int32)) 14 x1.toNatClampNeg (1 : Int32)) 15 x1.toNatClampNeg (0 : Int32)) 1 10 (((mm_up (mm_up (mm_up (mm_up (mm_up σ 11 x1.toNatClampNeg x2) 12 x1.toNatClampNeg x3) 13 x1.toNatClampNeg (1 : Int32)) 14 x1.toNatClampNeg (1 : Int32)) 15 x1.toNatClampNeg (0 : Int32)) 1 10) ||| ((1 : Int32) <<< (x1 &&& 31)))) 1 11 (((mm_up (mm_up (mm_up (mm_up (mm_up (mm_up σ 11 x1.toNatClampNeg x2) 12 x1.toNatClampNeg x3) 13 x1.toNatClampNeg (1 : Int32)) 14 x1.toNatClampNeg (1 : Int32)) 15 x1.toNatClampNeg (0 : Int32)) 1 10 (((mm_up (mm_up (mm_up (mm_up (mm_up σ 11 x1.toNatClampNeg x2) 12 x1.toNatClampNeg x3) 13 x1.toNatClampNeg (1 : Int32)) 14 x1.toNatClampNeg (1 : Int32)) 15 x1.toNatClampNeg (0 : Int32)) 1 10) ||| ((1 : Int32) <<< (x1 &&& 31)))) 1 11) + (1 : Int32)))
theorem c_12 {d : Nat} {Q : mm_Q} {r x y : Int32} {σ : mm_S} (h : vp_in r 9) (q : Q none (xdr σ r x y)) : mD (d + 1) 12 [.ref 1, .int r, .int x, .int y] σ Q := ke_12 (kb_12_0 h h h h h q)
theorem mi_8 {x : Int32} : mi x 0 8 = 1 ↔ ¬ x < 0 ∧ ¬ (9 : Int32) ≤ x := by
  have e0 : (0 : Int32).toInt = 0 := rfl
  have e8 : (8 : Int32).toInt = 8 := rfl
  have e9 : (9 : Int32).toInt = 9 := rfl
  unfold mi
  by_cases h1 : x < 0
  · rw [if_pos h1]
    exact ⟨fun h => absurd h (by decide), fun h => absurd h1 h.1⟩
  · rw [if_neg h1]
    by_cases h2 : 8 < x
    · rw [if_pos h2]
      refine ⟨fun h => absurd h (by decide), fun h => absurd ?_ h.2⟩
      rw [Int32.lt_iff_toInt_lt, e8] at h2
      rw [Int32.le_iff_toInt_le, e9]
      omega
    · rw [if_neg h2]
      refine ⟨fun _ => ⟨h1, fun h => h2 ?_⟩, fun _ => rfl⟩
      rw [Int32.le_iff_toInt_le, e9] at h
      rw [Int32.lt_iff_toInt_lt, e8]
      omega
theorem mi_31 {x : Int32} : mi x 0 31 = 1 ↔ ¬ x < 0 ∧ x < (32 : Int32) := by
  have e8 : (31 : Int32).toInt = 31 := rfl
  have e9 : (32 : Int32).toInt = 32 := rfl
  unfold mi
  by_cases h1 : x < 0
  · rw [if_pos h1]
    exact ⟨fun h => absurd h (by decide), fun h => absurd h1 h.1⟩
  · rw [if_neg h1]
    by_cases h2 : 31 < x
    · rw [if_pos h2]
      refine ⟨fun h => absurd h (by decide), fun h => absurd h.2 ?_⟩
      rw [Int32.lt_iff_toInt_lt, e8] at h2
      rw [Int32.lt_iff_toInt_lt, e9]
      omega
    · rw [if_neg h2]
      refine ⟨fun _ => ⟨h1, ?_⟩, fun _ => rfl⟩
      rw [Int32.lt_iff_toInt_lt, e8] at h2
      rw [Int32.lt_iff_toInt_lt, e9]
      omega
theorem x_room {d : Nat} {Q : mm_Q} {XQ : Nat → mm_S → Prop} {r x y : Int32} {σ : mm_S} (e0 : ¬ mok r x y → XQ 0 σ) (e1 : mok r x y → (xd σ r = 1 ∨ ∃ j, j < 9 ∧ xtk σ x y j) → XQ 1 σ)
    (q : mok r x y → xd σ r = 0 → (∀ j, j < 9 → ¬ xtk σ x y j) → Q none (mm_up (xdr σ r x y) 0 3 0)) : xD (d + 3) 0 [.ref 0, .int r, .int x, .int y] σ Q XQ := by
  refine ⟨rfl, ?_⟩
  show xw (d + 3) 0 Q XQ 0 [some (.ref 0), some (.int r), some (.int x), some (.int y)] [] σ
  refine xr_0_0 (fun h => xr_0_30 (e0 (fun z => (mi_8.mp z.1).1 h))) (fun h1 => xr_0_4 (fun h => xr_0_30 (e0 (fun z => (mi_8.mp z.1).2 h))) (fun h2 => xr_0_10 (fun h => xr_0_30 (e0 (fun z => (mi_31.mp z.2.1).1 h))) (fun h3 => xr_0_14 (fun h => xr_0_30 (e0 (fun z => ?_))) (fun h4 => xr_0_20 (fun h => xr_0_30 (e0 (fun z => (mi_31.mp z.2.2).1 h))) (fun h5 => xr_0_24 (fun h6 => ?_) (fun h => xr_0_30 (e0 (fun z => h (mi_31.mp z.2.2).2))))))))
  · have h9 := (mi_31.mp z.2.1).2
    rw [Int32.lt_iff_toInt_lt] at h9
    rw [Int32.le_iff_toInt_le] at h
    omega
  have hmok : mok r x y := by
    refine ⟨mi_8.mpr ⟨h1, h2⟩, mi_31.mpr ⟨h3, ?_⟩, mi_31.mpr ⟨h5, h6⟩⟩
    rw [Int32.le_iff_toInt_le] at h4
    rw [Int32.lt_iff_toInt_lt]
    omega
  refine xr_0_40 (c_7 ?_)
  show xw (d + 3) 0 Q XQ 48 [some (.ref 0), some (.int r), some (.int x), some (.int y)] [.int (xd σ r)] σ
  refine xr_0_48 (fun h => xr_0_51 (c_8 (fun hex => ?_) (fun hall => ?_))) (fun h => xr_0_63 (e1 hmok (Or.inl ((xd_01 σ r).resolve_left h))))
  · exact xr_0_60 (fun z => absurd z (by decide)) (fun _ => xr_0_63 (e1 hmok (Or.inr hex)))
  · exact xr_0_60 (fun _ => xr_0_73 (c_12 (mi_in hmok.1) (xr_0_83 (q hmok h hall)))) (fun z => absurd rfl z)
