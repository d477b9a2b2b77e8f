/-! contracts: hasJoin, areJoined; the model's thrown, in, isRoom -/
def xj (σ : mm_S) (j : Int32) : Int32 := if j < 0 then 0 else if (σ 1 12) ≤ j then 0 else 1
theorem c_9 {d : Nat} {Q : mm_Q} {j : Int32} {σ : mm_S} (q : Q (some (.int (xj σ j))) σ) : mD (d + 1) 9 [.ref 1, .int j] σ Q := by
  refine ke_9 (kb_9_0 (fun h => kb_9_16 ?_) (fun h => kb_9_4 (fun h2 => kb_9_16 ?_) (fun h2 => kb_9_12 ?_)))
  · rw [xj, if_pos h] at q; exact q
  · rw [xj, if_neg h, if_pos h2] at q; exact q
  · rw [xj, if_neg h, if_neg h2] at q; exact q
theorem c_10 {d : Nat} {Q : mm_Q} {a b : Int32} {σ : mm_S} (ha : vp_in a 9) (q : Q (some (.int (hs (σ 15 a.toNatClampNeg) b))) σ) : mD (d + 2) 10 [.ref 1, .int a, .int b] σ Q :=
  ke_10 (kb_10_0 ha (c_4 (kb_10_10 (hs_01 _ _) q)))
theorem c_86 {d : Nat} {Q : mm_Q} {σ : mm_S} (q : Q (some (.int (σ 10 0))) σ) : mD (d + 1) 86 [.ref 10] σ Q := ke_86 (kb_86_0 q)
def mi (x a b : Int32) : Int32 := if x < a then 0 else if b < x then 0 else 1
theorem mi_01 (x a b : Int32) : mi x a b = 0 ∨ mi x a b = 1 := by
  unfold mi; split
  · exact Or.inl rfl
  · split
    · exact Or.inl rfl
    · exact Or.inr rfl
theorem mi_in {x : Int32} (h : mi x 0 8 = 1) : vp_in x 9 := by
  unfold mi at h
  split at h
  · exact absurd h (by decide)
  · split at h
    · exact absurd h (by decide)
    · rename_i h1 h2
      rw [vp_in_iff]
      rw [Int32.lt_iff_toInt_lt] at h1 h2
      have e0 : (0 : Int32).toInt = 0 := rfl
      have e8 : (8 : Int32).toInt = 8 := rfl
      rw [e0] at h1
      rw [e8] at h2
      omega
theorem c_87 {d : Nat} {Q : mm_Q} {x a b : Int32} {σ : mm_S} (q : Q (some (.int (mi x a b))) σ) : mD (d + 1) 87 [.int x, .int a, .int b] σ Q := by
  refine ke_87 (kb_87_0 (fun h => kb_87_14 ?_) (fun h => kb_87_5 (fun h2 => kb_87_14 ?_) (fun h2 => kb_87_10 ?_)))
  · rw [mi, if_pos h] at q; exact q
  · rw [mi, if_neg h, if_pos h2] at q; exact q
  · rw [mi, if_neg h, if_neg h2] at q; exact q
/-- whether room i is drawn, by the reference -/
def mdr (σ : mm_S) (i : Int32) : Int32 := if mi i 0 8 = 0 then 0 else if (σ 75 i.toNatClampNeg) = 0 then 0 else 1
theorem c_88 {d : Nat} {Q : mm_Q} {i : Int32} {σ : mm_S} (q : Q (some (.int (mdr σ i))) σ) : mD (d + 2) 88 [.ref 10, .int i] σ Q := by
  refine ke_88 (kb_88_0 (c_87 ?_))
  show mw (d + 1) mt_88 Q 7 [some (.ref 10), some (.int i)] [.int (mi i 0 8)] σ
  refine kb_88_7 (fun h => kb_88_37 ?_) (fun h => kb_88_10 (c_87 ?_))
  · rw [mdr, if_pos h] at q; exact q
  · show mw (d + 1) mt_88 Q 21 [some (.ref 10), some (.int i)] [.int (mi i 0 8), .ref 75] σ
    have h1 : mi i 0 8 = 1 := (mi_01 i 0 8).resolve_left h
    refine kb_88_21 (fun z => absurd z h) (fun _ => kb_88_24 (mi_in h1) (fun h2 => kb_88_37 ?_) (fun h2 => kb_88_33 ?_))
    · rw [mdr, if_neg h, if_pos h2] at q; exact q
    · rw [mdr, if_neg h, if_neg h2] at q; exact q
