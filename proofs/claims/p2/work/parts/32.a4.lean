/-! the law's arm 4: wall -/
/-- joins: class and reference hold as many -/
def Jm (σ : mm_S) : Prop := σ 10 6 = σ 1 12 ∧ ¬ σ 1 12 < 0 ∧ σ 1 12 ≤ 21
theorem xj_01 (σ : mm_S) (j : Int32) : xj σ j = 0 ∨ xj σ j = 1 := by
  unfold xj; split
  · exact Or.inl rfl
  · split
    · exact Or.inl rfl
    · exact Or.inr rfl
theorem xj_1 {σ : mm_S} {j : Int32} : xj σ j = 1 ↔ ¬ j < 0 ∧ ¬ σ 1 12 ≤ j := by
  unfold xj
  by_cases a : j < 0
  · rw [if_pos a]; exact ⟨fun h => absurd h (by decide), fun h => absurd a h.1⟩
  · rw [if_neg a]
    by_cases b : σ 1 12 ≤ j
    · rw [if_pos b]; exact ⟨fun h => absurd h (by decide), fun h => absurd b h.2⟩
    · rw [if_neg b]; exact ⟨fun _ => ⟨a, b⟩, fun _ => rfl⟩
theorem xj_in {σ : mm_S} {j : Int32} (hJ : Jm σ) (h : xj σ j = 1) : vp_in j 21 := by
  obtain ⟨a, b⟩ := xj_1.mp h
  rw [vp_in_iff]
  have e0 : (0 : Int32).toInt = 0 := rfl
  have e21 : (21 : Int32).toInt = 21 := rfl
  have h2 := hJ.2.2
  rw [Int32.lt_iff_toInt_lt, e0] at a
  rw [Int32.le_iff_toInt_le] at b
  rw [Int32.le_iff_toInt_le, e21] at h2
  omega
theorem Jm_j {σ : mm_S} {j : Int32} (hJ : Jm σ) : mi j 0 ((σ 10 6) - 1) = 1 ↔ xj σ j = 1 := by
  obtain ⟨n, hn, e⟩ := nI_of2 (x := σ 1 12) (M := 21) (n := 21) rfl hJ.2.1 hJ.2.2
  rw [xj_1, hJ.1, e]
  have e0 : (0 : Int32).toInt = 0 := rfl
  have e1 : (nI n - (1 : Int32)).toInt = (n : Int) - 1 := pk_sub_toInt (a := n) (b := 1) (by omega) (by omega)
  have e2 : (nI n).toInt = (n : Int) := nI_toInt (by omega)
  unfold mi
  by_cases a : j < 0
  · rw [if_pos a]; exact ⟨fun h => absurd h (by decide), fun h => absurd a h.1⟩
  · rw [if_neg a]
    by_cases b : nI n - 1 < j
    · rw [if_pos b]
      refine ⟨fun h => absurd h (by decide), fun h => absurd ?_ h.2⟩
      rw [Int32.lt_iff_toInt_lt, e1] at b
      rw [Int32.le_iff_toInt_le, e2]
      omega
    · rw [if_neg b]
      refine ⟨fun _ => ⟨a, fun z => b ?_⟩, fun _ => rfl⟩
      rw [Int32.le_iff_toInt_le, e2] at z
      rw [Int32.lt_iff_toInt_lt, e1]
      omega
theorem mi_20 {x : Int32} : mi x 1 20 = 1 ↔ ¬ x < (1 : Int32) ∧ x ≤ (20 : Int32) := by
  unfold mi
  by_cases a : x < 1
  · rw [if_pos a]; exact ⟨fun h => absurd h (by decide), fun h => absurd a h.1⟩
  · rw [if_neg a]
    by_cases b : 20 < x
    · rw [if_pos b]; exact ⟨fun h => absurd h (by decide), fun h => absurd h.2 (Int32.not_le.mpr b)⟩
    · rw [if_neg b]; exact ⟨fun _ => ⟨a, Int32.not_lt.mp b⟩, fun _ => rfl⟩
theorem x_wall {d : Nat} {Q : mm_Q} {XQ : Nat → mm_S → Prop} {j w : Int32} {σ : mm_S} (hJ : Jm σ) (e0 : ¬ (xj σ j = 1 ∧ mi w 1 20 = 1) → XQ 0 σ)
    (q : (xj σ j = 1 ∧ mi w 1 20 = 1) → Q none (mm_up (mm_up σ 18 j.toNatClampNeg w) 0 3 0)) : xD (d + 1) 4 [.ref 0, .int j, .int w] σ Q XQ := by
  refine ⟨rfl, ?_⟩
  show xw (d + 1) 4 Q XQ 0 [some (.ref 0), some (.int j), some (.int w)] [] σ
  refine xr_4_0 (c_9 ?_)
  show xw (d + 1) 4 Q XQ 8 [some (.ref 0), some (.int j), some (.int w)] [.int (xj σ j)] σ
  refine xr_4_8 (fun a => xr_4_22 (e0 (fun z => absurd (a.symm.trans z.1) (by decide)))) (fun a => xr_4_11 (fun b => xr_4_22 (e0 (fun z => (mi_20.mp z.2).1 b))) (fun b => xr_4_16 (fun c => ?_) (fun c => xr_4_22 (e0 (fun z => c (mi_20.mp z.2).2)))))
  have ok := (xj_01 σ j).resolve_left a
  exact xr_4_32 (xj_in hJ ok) (q ⟨ok, mi_20.mpr ⟨b, c⟩⟩)
theorem c_94 {d : Nat} {Q : mm_Q} {j w : Int32} {σ : mm_S} (hin : mi j 0 ((σ 10 6) - 1) = 1 → vp_in j 21) (q1 : ¬ (mi j 0 ((σ 10 6) - 1) = 1 ∧ mi w 1 20 = 1) → Q none (mm_up σ 10 0 1))
    (q0 : (mi j 0 ((σ 10 6) - 1) = 1 ∧ mi w 1 20 = 1) → Q none (mm_up (mm_up (mm_up σ 10 0 0) 82 j.toNatClampNeg w) 10 12 0)) : mD (d + 2) 94 [.ref 10, .int j, .int w] σ Q := by
  have bad : ¬ (mi j 0 ((σ 10 6) - 1) = 1 ∧ mi w 1 20 = 1) → mw (d + 1) mt_94 Q 29 [some (.ref 10), some (.int j), some (.int w)] [.ref 10] σ := fun hn =>
    kb_94_29 (fun z => absurd z (by rw [show (mm_up σ 10 0 (1 : Int32)) 10 0 = 1 from mm_up_s]; decide)) (fun _ => kb_94_40 (q1 hn))
  refine ke_94 (kb_94_0 (c_87 ?_))
  show mw (d + 1) mt_94 Q 12 [some (.ref 10), some (.int j), some (.int w)] [.int (mi j 0 ((σ 10 6) - 1)), .ref 10] σ
  refine kb_94_12 (fun a => bad (fun z => absurd (a.symm.trans z.1) (by decide))) (fun a => kb_94_15 (c_87 ?_))
  show mw (d + 1) mt_94 Q 22 [some (.ref 10), some (.int j), some (.int w)] [.int (mi w 1 20), .ref 10] σ
  refine kb_94_22 (fun b => bad (fun z => absurd (b.symm.trans z.2) (by decide))) (fun b => ?_)
  have m0 := (mi_01 j 0 ((σ 10 6) - 1)).resolve_left a
  exact kb_94_25 (fun _ => kb_94_41 (hin m0) (q0 ⟨m0, (mi_01 w 1 20).resolve_left b⟩)) (fun z => absurd (by rw [show (mm_up σ 10 0 (0 : Int32)) 10 0 = 0 from mm_up_s]; decide) z)
