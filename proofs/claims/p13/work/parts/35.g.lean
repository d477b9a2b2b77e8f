section
/-! contracts by symbolic execution (program auto.py): loop-free methods, and the passes of loops (ks) -/
theorem q_pos {c : Prop} [Decidable c] {a b : Int32} {Q : mm_Q} {σ : mm_S} (h : c) (q : Q (some (.int (if c then a else b))) σ) : Q (some (.int a)) σ := by rwa [if_pos h] at q
theorem q_neg {c : Prop} [Decidable c] {a b : Int32} {Q : mm_Q} {σ : mm_S} (h : ¬ c) (q : Q (some (.int (if c then a else b))) σ) : Q (some (.int b)) σ := by rwa [if_neg h] at q
theorem c_151 {d : Nat} {Q : mm_Q} {x y : Int32} {σ : mm_S} (q : Q (some (.int (if x < y then y else x))) σ) : mD (d + 1) 151 [.int x, .int y] σ Q := Or.inl q
theorem c_152 {d : Nat} {Q : mm_Q} {x y : Int32} {σ : mm_S} (q : Q (some (.int (if y < x then y else x))) σ) : mD (d + 1) 152 [.int x, .int y] σ Q := Or.inl q
theorem c_154 {d : Nat} {Q : mm_Q} {j : Int32} {σ : mm_S} (h : ms_dok σ j) (q : Q (some (ms_dir σ j)) σ) : mD (d + 1) 154 [.ref 7, .int j] σ Q := Or.inl ⟨⟨rfl, h⟩, q⟩
theorem xz_10 {Q : mm_Q} {XQ : Nat → mm_S → Prop} {σ : mm_S} (q0 : (σ 0 3) = 0 → XQ 2 σ) (q1 : ¬ ((σ 0 3) = 0) → Q none σ) : xC0 10 [.ref 0] σ Q XQ :=
  have hf : mx_monoC (fun _ _ _ _ _ => False) := fun _ _ _ _ _ _ _ _ _ h => h.elim
  ⟨rfl, rfl, mx_ink (ms_mono 0) hf 3 _ _ _ _ (And.intro (fun g => mx_ink (ms_mono 0) hf 1 _ _ _ _ (And.intro rfl (q0 g))) (fun g => mx_ink (ms_mono 0) hf 1 _ _ _ _ (q1 g)))⟩
/-- HouseDesk$Bits.withoutLowest -/
def f_6 (x0 : Int32) : Int32 := (x0 &&& (x0 - (1 : Int32)))
theorem c_6 {d : Nat} {Q : mm_Q} {x0 : Int32} {σ : mm_S} (q : Q (some (.int (f_6 x0))) σ) : mD (d + 1) 6 [.int x0] σ Q := ke_6 (kb_6_0 q)
/-- HouseDesk$Sketch.isEnd -/
def f_11 (σ : mm_S) (x1 x2 : Int32) : Int32 := (if (σ 16 x2.toNatClampNeg) = x1 then (1 : Int32) else (if (σ 17 x2.toNatClampNeg) = x1 then (1 : Int32) else (0 : Int32)))
theorem f_11_01 (σ : mm_S) (x1 x2 : Int32) : (f_11 σ x1 x2) = 0 ∨ (f_11 σ x1 x2) = 1 := by
  unfold f_11
  repeat' split
  all_goals first | exact Or.inl rfl | exact Or.inr rfl
theorem c_11 {d : Nat} {Q : mm_Q} {x1 x2 : Int32} {σ : mm_S} (H1 : vp_in x2 21) (q : Q (some (.int (f_11 σ x1 x2))) σ) : mD (d + 1) 11 [.ref 1, .int x1, .int x2] σ Q := ke_11 (kb_11_0 H1 (fun g0 => (kb_11_20 (q_pos g0 q))) (fun g0 => (kb_11_10 H1 (fun g1 => (kb_11_20 (q_pos g1 (q_neg g0 q)))) (fun g1 => (kb_11_24 (q_neg g1 (q_neg g0 q)))))))
/-- HouseDesk$Sketch.turn -/
def f_17 (σ : mm_S) (x1 x2 x3 : Int32) : Int32 := ((((σ 11 x2.toNatClampNeg) - (σ 11 x1.toNatClampNeg)) * ((σ 12 x3.toNatClampNeg) - (σ 12 x1.toNatClampNeg))) - (((σ 12 x2.toNatClampNeg) - (σ 12 x1.toNatClampNeg)) * ((σ 11 x3.toNatClampNeg) - (σ 11 x1.toNatClampNeg))))
theorem c_17 {d : Nat} {Q : mm_Q} {x1 x2 x3 : Int32} {σ : mm_S} (H1 : vp_in x2 9) (H2 : vp_in x1 9) (H3 : vp_in x3 9) (q : Q (some (.int (f_17 σ x1 x2 x3))) σ) : mD (d + 1) 17 [.ref 1, .int x1, .int x2, .int x3] σ Q := ke_17 (kb_17_0 H1 H2 H3 H2 H1 H2 H3 H2 q)
/-- HouseDesk$Crossings.isBetween -/
def f_28 (x0 x1 x2 : Int32) : Int32 := (if x0 < (if x2 < x1 then x2 else x1) then (0 : Int32) else (if (if x1 < x2 then x2 else x1) < x0 then (0 : Int32) else (1 : Int32)))
theorem f_28_01 (x0 x1 x2 : Int32) : (f_28 x0 x1 x2) = 0 ∨ (f_28 x0 x1 x2) = 1 := by
  unfold f_28
  repeat' split
  all_goals first | exact Or.inl rfl | exact Or.inr rfl
theorem c_28 {d : Nat} {Q : mm_Q} {x0 x1 x2 : Int32} {σ : mm_S} (q : Q (some (.int (f_28 x0 x1 x2))) σ) : mD (d + 2) 28 [.int x0, .int x1, .int x2] σ Q := ke_28 (kb_28_0 (c_152 (kb_28_6 (fun g0 => (kb_28_22 (q_pos g0 q))) (fun g0 => (kb_28_9 (c_151 (kb_28_15 (fun g1 => (kb_28_22 (q_pos g1 (q_neg g0 q)))) (fun g1 => (kb_28_18 (q_neg g1 (q_neg g0 q)))))))))))
/-- HouseDesk$Crossings.liesOn -/
def f_27 (σ : mm_S) (x1 x2 : Int32) : Int32 := (if (f_11 σ x1 x2) = 0 then (if (f_17 σ (σ 16 x2.toNatClampNeg) (σ 17 x2.toNatClampNeg) x1) = 0 then (if (f_28 (σ 11 x1.toNatClampNeg) (σ 11 (σ 16 x2.toNatClampNeg).toNatClampNeg) (σ 11 (σ 17 x2.toNatClampNeg).toNatClampNeg)) = 0 then (0 : Int32) else (if (f_28 (σ 12 x1.toNatClampNeg) (σ 12 (σ 16 x2.toNatClampNeg).toNatClampNeg) (σ 12 (σ 17 x2.toNatClampNeg).toNatClampNeg)) = 0 then (0 : Int32) else (1 : Int32))) else (0 : Int32)) else (0 : Int32))
theorem f_27_01 (σ : mm_S) (x1 x2 : Int32) : (f_27 σ x1 x2) = 0 ∨ (f_27 σ x1 x2) = 1 := by
  unfold f_27
  repeat' split
  all_goals first | exact Or.inl rfl | exact Or.inr rfl | exact (f_11_01 _ _ _) | exact (f_28_01 _ _ _)
theorem c_27 {d : Nat} {Q : mm_Q} {x1 x2 : Int32} {σ : mm_S} (H1 : vp_in x2 21) (H2 : vp_in (σ 17 x2.toNatClampNeg) 9) (H3 : vp_in (σ 16 x2.toNatClampNeg) 9) (H4 : vp_in x1 9) (q : Q (some (.int (f_27 σ x1 x2))) σ) : mD (d + 3) 27 [.ref 4, .int x1, .int x2] σ Q := ke_27 (kb_27_0 (c_11 H1 (kb_27_9 (fun g0 => (kb_27_14 H1 H1 (c_17 H2 H3 H4 (kb_27_46 (fun g1 => (kb_27_49 H4 H3 H2 (c_28 (kb_27_80 (fun g2 => (kb_27_121 (q_pos g2 (q_pos g1 (q_pos g0 q))))) (fun g2 => (kb_27_83 H4 H3 H2 (c_28 (kb_27_114 (fun g3 => (kb_27_121 (q_pos g3 (q_neg g2 (q_pos g1 (q_pos g0 q)))))) (fun g3 => (kb_27_117 (q_neg g3 (q_neg g2 (q_pos g1 (q_pos g0 q)))))))))))))) (fun g1 => (kb_27_121 (q_neg g1 (q_pos g0 q)))))))) (fun g0 => (kb_27_12 (q_neg g0 q))))))
/-- HouseDesk$Crossings.touches -/
def f_26 (σ : mm_S) (x1 x2 : Int32) : Int32 := (if (f_27 σ (σ 16 x1.toNatClampNeg) x2) = 0 then (if (f_27 σ (σ 17 x1.toNatClampNeg) x2) = 0 then (0 : Int32) else (1 : Int32)) else (1 : Int32))
theorem f_26_01 (σ : mm_S) (x1 x2 : Int32) : (f_26 σ x1 x2) = 0 ∨ (f_26 σ x1 x2) = 1 := by
  unfold f_26
  repeat' split
  all_goals first | exact Or.inl rfl | exact Or.inr rfl | exact (f_27_01 _ _ _)
theorem c_26 {d : Nat} {Q : mm_Q} {x1 x2 : Int32} {σ : mm_S} (H1 : vp_in x1 21) (H2 : vp_in x2 21) (H3 : vp_in (σ 17 x2.toNatClampNeg) 9) (H4 : vp_in (σ 16 x2.toNatClampNeg) 9) (H5 : vp_in (σ 16 x1.toNatClampNeg) 9) (H6 : vp_in (σ 17 x1.toNatClampNeg) 9) (q : Q (some (.int (f_26 σ x1 x2))) σ) : mD (d + 4) 26 [.ref 4, .int x1, .int x2] σ Q := ke_26 (kb_26_0 H1 (c_27 H2 H3 H4 H5 (kb_26_14 (fun g0 => (kb_26_17 H1 (c_27 H2 H3 H4 H6 (kb_26_31 (fun g1 => (kb_26_38 (q_pos g1 (q_pos g0 q)))) (fun g1 => (kb_26_34 (q_neg g1 (q_pos g0 q)))))))) (fun g0 => (kb_26_34 (q_neg g0 q))))))
/-- HouseDesk$Crossings.parts -/
def f_30 (σ : mm_S) (x1 x2 : Int32) : Int32 := (if 0 ≤ ((f_17 σ (σ 16 x1.toNatClampNeg) (σ 17 x1.toNatClampNeg) (σ 16 x2.toNatClampNeg)) * (f_17 σ (σ 16 x1.toNatClampNeg) (σ 17 x1.toNatClampNeg) (σ 17 x2.toNatClampNeg))) then (0 : Int32) else (1 : Int32))
theorem f_30_01 (σ : mm_S) (x1 x2 : Int32) : (f_30 σ x1 x2) = 0 ∨ (f_30 σ x1 x2) = 1 := by
  unfold f_30
  repeat' split
  all_goals first | exact Or.inl rfl | exact Or.inr rfl
theorem c_30 {d : Nat} {Q : mm_Q} {x1 x2 : Int32} {σ : mm_S} (H1 : vp_in x1 21) (H2 : vp_in x2 21) (H3 : vp_in (σ 17 x1.toNatClampNeg) 9) (H4 : vp_in (σ 16 x1.toNatClampNeg) 9) (H5 : vp_in (σ 16 x2.toNatClampNeg) 9) (H6 : vp_in (σ 17 x2.toNatClampNeg) 9) (q : Q (some (.int (f_30 σ x1 x2))) σ) : mD (d + 2) 30 [.ref 4, .int x1, .int x2] σ Q := ke_30 (kb_30_0 H1 H1 H2 (c_17 H3 H4 H5 (kb_30_40 H2 (c_17 H3 H4 H6 (kb_30_59 (fun g0 => (kb_30_67 (q_pos g0 q))) (fun g0 => (kb_30_63 (q_neg g0 q))))))))
/-- HouseDesk$Crossings.crosses -/
def f_29 (σ : mm_S) (x1 x2 : Int32) : Int32 := (if (f_30 σ x1 x2) = 0 then (0 : Int32) else (if (f_30 σ x2 x1) = 0 then (0 : Int32) else (1 : Int32)))
theorem f_29_01 (σ : mm_S) (x1 x2 : Int32) : (f_29 σ x1 x2) = 0 ∨ (f_29 σ x1 x2) = 1 := by
  unfold f_29
  repeat' split
  all_goals first | exact Or.inl rfl | exact Or.inr rfl | exact (f_30_01 _ _ _)
theorem c_29 {d : Nat} {Q : mm_Q} {x1 x2 : Int32} {σ : mm_S} (H1 : vp_in x1 21) (H2 : vp_in x2 21) (H3 : vp_in (σ 17 x1.toNatClampNeg) 9) (H4 : vp_in (σ 16 x1.toNatClampNeg) 9) (H5 : vp_in (σ 16 x2.toNatClampNeg) 9) (H6 : vp_in (σ 17 x2.toNatClampNeg) 9) (q : Q (some (.int (f_29 σ x1 x2))) σ) : mD (d + 3) 29 [.ref 4, .int x1, .int x2] σ Q := ke_29 (kb_29_0 (c_30 H1 H2 H3 H4 H5 H6 (kb_29_6 (fun g0 => (kb_29_22 (q_pos g0 q))) (fun g0 => (kb_29_9 (c_30 H2 H1 H6 H5 H4 H3 (kb_29_15 (fun g1 => (kb_29_22 (q_pos g1 (q_neg g0 q)))) (fun g1 => (kb_29_18 (q_neg g1 (q_neg g0 q)))))))))))
/-- HouseDesk$Sketch.drawJoin -/
theorem c_13 {d : Nat} {Q : mm_Q} {x1 x2 : Int32} {σ : mm_S} (H1 : vp_in (σ 1 12) 21) (H2 : vp_in x1 9) (H3 : vp_in x2 9) (q0 : Q (none) (mm_up (mm_up (mm_up (mm_up (mm_up (mm_up σ 16 (σ 1 12).toNatClampNeg x1) 17 (σ 1 12).toNatClampNeg x2) 18 (σ 1 12).toNatClampNeg (1 : Int32)) 15 x1.toNatClampNeg ((σ 15 x1.toNatClampNeg) ||| ((1 : Int32) <<< (x2 &&& 31)))) 15 x2.toNatClampNeg (((mm_up (mm_up (mm_up (mm_up σ 16 (σ 1 12).toNatClampNeg x1) 17 (σ 1 12).toNatClampNeg x2) 18 (σ 1 12).toNatClampNeg (1 : Int32)) 15 x1.toNatClampNeg ((σ 15 x1.toNatClampNeg) ||| ((1 : Int32) <<< (x2 &&& 31)))) 15 x2.toNatClampNeg) ||| ((1 : Int32) <<< (x1 &&& 31)))) 1 12 ((σ 1 12) + (1 : Int32)))) : mD (d + 1) 13 [.ref 1, .int x1, .int x2] σ Q := ke_13 (kb_13_0 H1 H1 H1 H2 H2 H3 H3 q0)
/-- HouseDesk$Sketch.wipe -/
theorem c_15 {d : Nat} {Q : mm_Q} {σ : mm_S} (q0 : Q (none) (mm_up (mm_up (mm_up (mm_up σ 1 10 (0 : Int32)) 1 11 (0 : Int32)) 1 12 (0 : Int32)) 1 9 (0 : Int32))) : mD (d + 1) 15 [.ref 1] σ Q := ke_15 (kb_15_0 q0)
/-- HouseDesk.clear -/
theorem c_0 {d : Nat} {Q : mm_Q} {σ : mm_S} (q0 : Q (none) (mm_up (mm_up (mm_up (mm_up (mm_up σ 1 10 (0 : Int32)) 1 11 (0 : Int32)) 1 12 (0 : Int32)) 1 9 (0 : Int32)) 0 3 (0 : Int32))) : mD (d + 2) 0 [.ref 0] σ Q := ke_0 (kb_0_0 (c_15 (kb_0_7 q0)))
/-- HouseDesk$Witness.forget -/
theorem c_19 {d : Nat} {Q : mm_Q} {σ : mm_S} (q0 : Q (none) (mm_up σ 3 1 (0 : Int32))) : mD (d + 1) 19 [.ref 3] σ Q := ke_19 (kb_19_0 q0)
/-- HouseDesk$Witness.tellTwo -/
theorem c_20 {d : Nat} {Q : mm_Q} {x1 x2 : Int32} {σ : mm_S} (q0 : Q (none) (mm_up (mm_up (mm_up σ 20 0 x1) 20 1 x2) 3 1 (2 : Int32))) : mD (d + 1) 20 [.ref 3, .int x1, .int x2] σ Q := ke_20 (kb_20_0 (pk_in 0 3 (by decide)) (pk_in 1 3 (by decide)) q0)
/-- HouseDesk$Witness.tellThree -/
theorem c_21 {d : Nat} {Q : mm_Q} {x1 x2 x3 : Int32} {σ : mm_S} (q0 : Q (none) (mm_up (mm_up (mm_up (mm_up σ 20 0 x1) 20 1 x2) 20 2 x3) 3 1 (3 : Int32))) : mD (d + 1) 21 [.ref 3, .int x1, .int x2, .int x3] σ Q := ke_21 (kb_21_0 (pk_in 0 3 (by decide)) (pk_in 1 3 (by decide)) (pk_in 2 3 (by decide)) q0)
/-- HouseDesk$Witness.at -/
def f_22 (σ : mm_S) (x1 : Int32) : Int32 := (if x1 < 0 then (-1 : Int32) else (if (σ 3 1) ≤ x1 then (-1 : Int32) else (σ 20 x1.toNatClampNeg)))
theorem c_22 {d : Nat} {Q : mm_Q} {x1 : Int32} {σ : mm_S} (H1 : ¬ (x1 < 0) → ¬ ((σ 3 1) ≤ x1) → vp_in x1 3) (q : Q (some (.int (f_22 σ x1))) σ) : mD (d + 1) 22 [.ref 3, .int x1] σ Q := ke_22 (kb_22_0 (fun g0 => (kb_22_21 (q_pos g0 q))) (fun g0 => (kb_22_4 (fun g1 => (kb_22_21 (q_pos g1 (q_neg g0 q)))) (fun g1 => (kb_22_12 (H1 g0 g1) (q_neg g1 (q_neg g0 q)))))))
/-- HouseDesk.witness -/
def f_2 (σ : mm_S) (x1 : Int32) : Int32 := (f_22 σ x1)
theorem c_2 {d : Nat} {Q : mm_Q} {x1 : Int32} {σ : mm_S} (H1 : ¬ (x1 < 0) → ¬ ((σ 3 1) ≤ x1) → vp_in x1 3) (q : Q (some (.int (f_2 σ x1))) σ) : mD (d + 2) 2 [.ref 0, .int x1] σ Q := ke_2 (kb_2_0 (c_22 H1 (kb_2_11 q)))
/-- HouseDesk$Way.at -/
def f_85 (σ : mm_S) (x1 : Int32) : Int32 := (if x1 < 0 then (-1 : Int32) else (if (σ 9 1) ≤ x1 then (-1 : Int32) else (σ 73 x1.toNatClampNeg)))
theorem c_85 {d : Nat} {Q : mm_Q} {x1 : Int32} {σ : mm_S} (H1 : ¬ (x1 < 0) → ¬ ((σ 9 1) ≤ x1) → vp_in x1 9) (q : Q (some (.int (f_85 σ x1))) σ) : mD (d + 1) 85 [.ref 9, .int x1] σ Q := ke_85 (kb_85_0 (fun g0 => (kb_85_21 (q_pos g0 q))) (fun g0 => (kb_85_4 (fun g1 => (kb_85_21 (q_pos g1 (q_neg g0 q)))) (fun g1 => (kb_85_12 (H1 g0 g1) (q_neg g1 (q_neg g0 q)))))))
/-- HouseDesk.wayRoom -/
def f_3 (σ : mm_S) (x1 : Int32) : Int32 := (f_85 σ x1)
theorem c_3 {d : Nat} {Q : mm_Q} {x1 : Int32} {σ : mm_S} (H1 : ¬ (x1 < 0) → ¬ ((σ 9 1) ≤ x1) → vp_in x1 9) (q : Q (some (.int (f_3 σ x1))) σ) : mD (d + 2) 3 [.ref 0, .int x1] σ Q := ke_3 (kb_3_0 (c_85 H1 (kb_3_8 q)))
/-- HouseDesk$Crossings.findTwoJoins, from 0 -/
theorem ks_24_0 {d : Nat} {Q : mm_Q} {σ : mm_S} (q0 : mw d mt_24 Q 2 [some (.ref 4), some (.ref 3), some (.int (0 : Int32)), none] [] σ) : mD (d + 1) 24 [.ref 4, .ref 3] σ Q := ke_24 (kb_24_0 q0)
/-- HouseDesk$Crossings.findTwoJoins, from 2 -/
theorem ks_24_2 {d : Nat} {Q : mm_Q} {x2 : Int32} {o3 : Option Value} {σ : mm_S} (q0 : (σ 1 12) ≤ x2 → Q (some (.int (0 : Int32))) σ) (q1 : ¬ ((σ 1 12) ≤ x2) → mw d mt_24 Q 17 [some (.ref 4), some (.ref 3), some (.int x2), some (.int (x2 + (1 : Int32)))] [] σ) : mw d mt_24 Q 2 [some (.ref 4), some (.ref 3), some (.int x2), o3] [] σ := (kb_24_2 (fun g0 => (kb_24_75 (q0 g0))) (fun g0 => (kb_24_13 (q1 g0))))
/-- HouseDesk$Crossings.findTwoJoins, from 17 -/
theorem ks_24_17 {d : Nat} {Q : mm_Q} {x2 x3 : Int32} {σ : mm_S} (H1 : ¬ ((σ 1 12) ≤ x3) → vp_in x2 21) (H2 : ¬ ((σ 1 12) ≤ x3) → vp_in x3 21) (H3 : ¬ ((σ 1 12) ≤ x3) → vp_in (σ 17 x3.toNatClampNeg) 9) (H4 : ¬ ((σ 1 12) ≤ x3) → vp_in (σ 16 x3.toNatClampNeg) 9) (H5 : ¬ ((σ 1 12) ≤ x3) → vp_in (σ 16 x2.toNatClampNeg) 9) (H6 : ¬ ((σ 1 12) ≤ x3) → vp_in (σ 17 x2.toNatClampNeg) 9) (q0 : (σ 1 12) ≤ x3 → mw (d + 4) mt_24 Q 2 [some (.ref 4), some (.ref 3), some (.int (x2 + 1)), some (.int x3)] [] σ) (q1 : ¬ ((σ 1 12) ≤ x3) → (f_26 σ x2 x3) = 0 → (f_26 σ x3 x2) = 0 → (f_29 σ x2 x3) = 0 → mw (d + 4) mt_24 Q 17 [some (.ref 4), some (.ref 3), some (.int x2), some (.int (x3 + 1))] [] σ) (q2 : ¬ ((σ 1 12) ≤ x3) → (f_26 σ x2 x3) = 0 → (f_26 σ x3 x2) = 0 → ¬ ((f_29 σ x2 x3) = 0) → Q (some (.int (1 : Int32))) (mm_up (mm_up (mm_up σ 20 0 x2) 20 1 x3) 3 1 (2 : Int32))) (q3 : ¬ ((σ 1 12) ≤ x3) → (f_26 σ x2 x3) = 0 → ¬ ((f_26 σ x3 x2) = 0) → Q (some (.int (1 : Int32))) (mm_up (mm_up (mm_up σ 20 0 x2) 20 1 x3) 3 1 (2 : Int32))) (q4 : ¬ ((σ 1 12) ≤ x3) → ¬ ((f_26 σ x2 x3) = 0) → Q (some (.int (1 : Int32))) (mm_up (mm_up (mm_up σ 20 0 x2) 20 1 x3) 3 1 (2 : Int32))) : mw (d + 4) mt_24 Q 17 [some (.ref 4), some (.ref 3), some (.int x2), some (.int x3)] [] σ := (kb_24_17 (fun g0 => (kb_24_69 (q0 g0))) (fun g0 => (kb_24_28 (c_26 (H1 g0) (H2 g0) (H3 g0) (H4 g0) (H5 g0) (H6 g0) (kb_24_34 (fun g1 => (kb_24_37 (c_26 (H2 g0) (H1 g0) (H6 g0) (H5 g0) (H4 g0) (H3 g0) (kb_24_43 (fun g2 => (kb_24_46 (c_29 (H1 g0) (H2 g0) (H6 g0) (H5 g0) (H4 g0) (H3 g0) (kb_24_52 (fun g3 => (kb_24_63 (q1 g0 g1 g2 g3))) (fun g3 => (kb_24_55 (c_20 (kb_24_61 (q2 g0 g1 g2 g3))))))))) (fun g2 => (kb_24_55 (c_20 (kb_24_61 (q3 g0 g1 g2))))))))) (fun g1 => (kb_24_55 (c_20 (kb_24_61 (q4 g0 g1))))))))))
/-- HouseDesk$Crossings.findRoomOnJoin, from 0 -/
theorem ks_25_0 {d : Nat} {Q : mm_Q} {σ : mm_S} (q0 : mw d mt_25 Q 2 [some (.ref 4), some (.ref 3), some (.int (0 : Int32)), none] [] σ) : mD (d + 1) 25 [.ref 4, .ref 3] σ Q := ke_25 (kb_25_0 q0)
/-- HouseDesk$Crossings.findRoomOnJoin, from 2 -/
theorem ks_25_2 {d : Nat} {Q : mm_Q} {x2 : Int32} {o3 : Option Value} {σ : mm_S} (q0 : (σ 1 12) ≤ x2 → Q (some (.int (0 : Int32))) σ) (q1 : ¬ ((σ 1 12) ≤ x2) → mw d mt_25 Q 15 [some (.ref 4), some (.ref 3), some (.int x2), some (.int (0 : Int32))] [] σ) : mw d mt_25 Q 2 [some (.ref 4), some (.ref 3), some (.int x2), o3] [] σ := (kb_25_2 (fun g0 => (kb_25_61 (q0 g0))) (fun g0 => (kb_25_13 (q1 g0))))
/-- HouseDesk$Crossings.findRoomOnJoin, from 15 -/
theorem ks_25_15 {d : Nat} {Q : mm_Q} {x2 x3 : Int32} {σ : mm_S} (H1 : ¬ ((9 : Int32) ≤ x3) → vp_in x2 21) (H2 : ¬ ((9 : Int32) ≤ x3) → vp_in (σ 17 x2.toNatClampNeg) 9) (H3 : ¬ ((9 : Int32) ≤ x3) → vp_in (σ 16 x2.toNatClampNeg) 9) (H4 : ¬ ((9 : Int32) ≤ x3) → vp_in x3 9) (q0 : (9 : Int32) ≤ x3 → mw (d + 3) mt_25 Q 2 [some (.ref 4), some (.ref 3), some (.int (x2 + 1)), some (.int x3)] [] σ) (q1 : ¬ ((9 : Int32) ≤ x3) → (xd σ x3) = 0 → mw (d + 3) mt_25 Q 15 [some (.ref 4), some (.ref 3), some (.int x2), some (.int (x3 + 1))] [] σ) (q2 : ¬ ((9 : Int32) ≤ x3) → ¬ ((xd σ x3) = 0) → (f_27 σ x3 x2) = 0 → mw (d + 3) mt_25 Q 15 [some (.ref 4), some (.ref 3), some (.int x2), some (.int (x3 + 1))] [] σ) (q3 : ¬ ((9 : Int32) ≤ x3) → ¬ ((xd σ x3) = 0) → ¬ ((f_27 σ x3 x2) = 0) → Q (some (.int (1 : Int32))) (mm_up (mm_up (mm_up σ 20 0 x2) 20 1 x3) 3 1 (2 : Int32))) : mw (d + 3) mt_25 Q 15 [some (.ref 4), some (.ref 3), some (.int x2), some (.int x3)] [] σ := (kb_25_15 (fun g0 => (kb_25_55 (q0 g0))) (fun g0 => (kb_25_21 (c_7 (kb_25_29 (fun g1 => (kb_25_49 (q1 g0 g1))) (fun g1 => (kb_25_32 (c_27 (H1 g0) (H2 g0) (H3 g0) (H4 g0) (kb_25_38 (fun g2 => (kb_25_49 (q2 g0 g1 g2))) (fun g2 => (kb_25_41 (c_20 (kb_25_47 (q3 g0 g1 g2))))))))))))))
/-- HouseDesk$Sides.bitOfSide -/
def f_52 (x0 : Int32) : Int32 := ((1 : Int32) <<< (((9 : Int32) + x0) &&& 31))
theorem c_52 {d : Nat} {Q : mm_Q} {x0 : Int32} {σ : mm_S} (q : Q (some (.int (f_52 x0))) σ) : mD (d + 1) 52 [.int x0] σ Q := ke_52 (kb_52_0 q)
/-- HouseDesk$Sides.isOn -/
def f_53 (σ : mm_S) (x1 x2 : Int32) : Int32 := (if ((σ 44 x1.toNatClampNeg) &&& (f_52 x2)) = 0 then (0 : Int32) else (1 : Int32))
theorem f_53_01 (σ : mm_S) (x1 x2 : Int32) : (f_53 σ x1 x2) = 0 ∨ (f_53 σ x1 x2) = 1 := by
  unfold f_53
  repeat' split
  all_goals first | exact Or.inl rfl | exact Or.inr rfl
theorem c_53 {d : Nat} {Q : mm_Q} {x1 x2 : Int32} {σ : mm_S} (H1 : vp_in x1 13) (q : Q (some (.int (f_53 σ x1 x2))) σ) : mD (d + 2) 53 [.ref 6, .int x1, .int x2] σ Q := ke_53 (kb_53_0 H1 (c_52 (kb_53_10 (fun g0 => (kb_53_18 (q_pos g0 q))) (fun g0 => (kb_53_14 (q_neg g0 q))))))
/-- HouseDesk$Places.axisOf -/
def f_74 (σ : mm_S) (x1 : Int32) : Int32 := ((σ 45 x1.toNatClampNeg) >>> ((1 : Int32) &&& 31))
theorem c_74 {d : Nat} {Q : mm_Q} {x1 : Int32} {σ : mm_S} (H1 : vp_in x1 21) (q : Q (some (.int (f_74 σ x1))) σ) : mD (d + 1) 74 [.ref 8, .int x1] σ Q := ke_74 (kb_74_0 H1 q)
/-- HouseDesk$Places.wallBegin -/
def f_78 (σ : mm_S) (x1 : Int32) : Int32 := (if (σ (62 + 1 + (σ 16 x1.toNatClampNeg).toNatClampNeg) ((1 : Int32) - (f_74 σ x1)).toNatClampNeg) < (σ (62 + 1 + (σ 17 x1.toNatClampNeg).toNatClampNeg) ((1 : Int32) - (f_74 σ x1)).toNatClampNeg) then (σ (62 + 1 + (σ 17 x1.toNatClampNeg).toNatClampNeg) ((1 : Int32) - (f_74 σ x1)).toNatClampNeg) else (σ (62 + 1 + (σ 16 x1.toNatClampNeg).toNatClampNeg) ((1 : Int32) - (f_74 σ x1)).toNatClampNeg))
theorem c_78 {d : Nat} {Q : mm_Q} {x1 : Int32} {σ : mm_S} (H1 : vp_in x1 21) (H2 : vp_in (σ 16 x1.toNatClampNeg) 9) (H3 : vp_in ((1 : Int32) - (f_74 σ x1)) 4) (H4 : vp_in (σ 17 x1.toNatClampNeg) 9) (q : Q (some (.int (f_78 σ x1))) σ) : mD (d + 2) 78 [.ref 8, .int x1] σ Q := ke_78 (kb_78_0 (c_74 H1 (kb_78_6 H1 H2 H3 H1 H4 H3 (c_151 (kb_78_43 q)))))
/-- HouseDesk$Places.wallEnd -/
def f_79 (σ : mm_S) (x1 : Int32) : Int32 := (if (σ (62 + 1 + (σ 17 x1.toNatClampNeg).toNatClampNeg) (((1 : Int32) - (f_74 σ x1)) + (2 : Int32)).toNatClampNeg) < (σ (62 + 1 + (σ 16 x1.toNatClampNeg).toNatClampNeg) (((1 : Int32) - (f_74 σ x1)) + (2 : Int32)).toNatClampNeg) then (σ (62 + 1 + (σ 17 x1.toNatClampNeg).toNatClampNeg) (((1 : Int32) - (f_74 σ x1)) + (2 : Int32)).toNatClampNeg) else (σ (62 + 1 + (σ 16 x1.toNatClampNeg).toNatClampNeg) (((1 : Int32) - (f_74 σ x1)) + (2 : Int32)).toNatClampNeg))
theorem c_79 {d : Nat} {Q : mm_Q} {x1 : Int32} {σ : mm_S} (H1 : vp_in x1 21) (H2 : vp_in (σ 16 x1.toNatClampNeg) 9) (H3 : vp_in (((1 : Int32) - (f_74 σ x1)) + (2 : Int32)) 4) (H4 : vp_in (σ 17 x1.toNatClampNeg) 9) (q : Q (some (.int (f_79 σ x1))) σ) : mD (d + 2) 79 [.ref 8, .int x1] σ Q := ke_79 (kb_79_0 (c_74 H1 (kb_79_6 H1 H2 H3 H1 H4 H3 (c_152 (kb_79_45 q)))))
/-- HouseDesk$Places.lengthAt -/
def f_80 (σ : mm_S) (x1 x2 : Int32) : Int32 := ((σ (62 + 1 + x1.toNatClampNeg) ((x2 &&& (1 : Int32)) + (2 : Int32)).toNatClampNeg) - (σ (62 + 1 + x1.toNatClampNeg) (x2 &&& (1 : Int32)).toNatClampNeg))
theorem c_80 {d : Nat} {Q : mm_Q} {x1 x2 : Int32} {σ : mm_S} (H1 : vp_in x1 9) (H2 : vp_in ((x2 &&& (1 : Int32)) + (2 : Int32)) 4) (H3 : vp_in (x2 &&& (1 : Int32)) 4) (q : Q (some (.int (f_80 σ x1 x2))) σ) : mD (d + 1) 80 [.ref 8, .int x1, .int x2] σ Q := ke_80 (kb_80_0 H1 H2 H1 H3 q)
/-- HouseDeskModel.clear, from 0 -/
theorem ks_95_0 {d : Nat} {Q : mm_Q} {σ : mm_S} (q0 : mw d mt_95 Q 7 [some (.ref 10), some (.int (0 : Int32))] [] (mm_up σ 10 0 (0 : Int32))) : mD (d + 1) 95 [.ref 10] σ Q := ke_95 (kb_95_0 q0)
/-- HouseDeskModel.clear, from 7 -/
theorem ks_95_7 {d : Nat} {Q : mm_Q} {x1 : Int32} {σ : mm_S} (H1 : ¬ ((9 : Int32) ≤ x1) → vp_in x1 9) (q0 : (9 : Int32) ≤ x1 → Q (none) (mm_up (mm_up (mm_up σ 10 6 (0 : Int32)) 10 10 (0 : Int32)) 10 12 (0 : Int32))) (q1 : ¬ ((9 : Int32) ≤ x1) → mw d mt_95 Q 7 [some (.ref 10), some (.int (x1 + 1))] [] (mm_up (mm_up (mm_up σ 75 x1.toNatClampNeg (vp_nar .boolean (0 : Int32))) 78 x1.toNatClampNeg (1 : Int32)) 79 x1.toNatClampNeg (1 : Int32))) : mw d mt_95 Q 7 [some (.ref 10), some (.int x1)] [] σ := (kb_95_7 (fun g0 => (kb_95_40 (q0 g0))) (fun g0 => (kb_95_13 (H1 g0) (H1 g0) (H1 g0) (q1 g0))))
/-- HouseDeskModel.turn -/
def f_96 (x0 x1 x2 x3 x4 x5 : Int32) : Int32 := (if (((x2 - x0) * (x5 - x1)) - ((x3 - x1) * (x4 - x0))) ≤ 0 then (if 0 ≤ (((x2 - x0) * (x5 - x1)) - ((x3 - x1) * (x4 - x0))) then (0 : Int32) else (-1 : Int32)) else (1 : Int32))
theorem c_96 {d : Nat} {Q : mm_Q} {x0 x1 x2 x3 x4 x5 : Int32} {σ : mm_S} (q : Q (some (.int (f_96 x0 x1 x2 x3 x4 x5))) σ) : mD (d + 1) 96 [.int x0, .int x1, .int x2, .int x3, .int x4, .int x5] σ Q := ke_96 (kb_96_0 (fun g0 => (kb_96_28 (fun g1 => (kb_96_37 (q_pos g1 (q_pos g0 q)))) (fun g1 => (kb_96_33 (q_neg g1 (q_pos g0 q)))))) (fun g0 => (kb_96_24 (q_neg g0 q))))
/-- HouseDeskModel.other -/
def f_101 (σ : mm_S) (x1 x2 : Int32) : Int32 := (if (σ 80 x1.toNatClampNeg) = x2 then (σ 81 x1.toNatClampNeg) else (σ 80 x1.toNatClampNeg))
theorem c_101 {d : Nat} {Q : mm_Q} {x1 x2 : Int32} {σ : mm_S} (H1 : vp_in x1 21) (q : Q (some (.int (f_101 σ x1 x2))) σ) : mD (d + 1) 101 [.ref 10, .int x1, .int x2] σ Q := ke_101 (kb_101_0 H1 (fun g0 => (kb_101_10 H1 (q_pos g0 q))) (fun g0 => (kb_101_19 H1 (q_neg g0 q))))
/-- HouseDeskModel.isOn -/
def f_97 (σ : mm_S) (x1 x2 : Int32) : Int32 := (if x1 = (σ 80 x2.toNatClampNeg) then (0 : Int32) else (if x1 = (σ 81 x2.toNatClampNeg) then (0 : Int32) else (if (f_96 (σ 76 (σ 80 x2.toNatClampNeg).toNatClampNeg) (σ 77 (σ 80 x2.toNatClampNeg).toNatClampNeg) (σ 76 (σ 81 x2.toNatClampNeg).toNatClampNeg) (σ 77 (σ 81 x2.toNatClampNeg).toNatClampNeg) (σ 76 x1.toNatClampNeg) (σ 77 x1.toNatClampNeg)) = 0 then (if (σ 76 (σ 81 x2.toNatClampNeg).toNatClampNeg) ≤ (σ 76 (σ 80 x2.toNatClampNeg).toNatClampNeg) then (if (σ 77 (σ 81 x2.toNatClampNeg).toNatClampNeg) ≤ (σ 77 (σ 80 x2.toNatClampNeg).toNatClampNeg) then (if (mi (σ 76 x1.toNatClampNeg) (σ 76 (σ 81 x2.toNatClampNeg).toNatClampNeg) (((σ 76 (σ 80 x2.toNatClampNeg).toNatClampNeg) + (σ 76 (σ 81 x2.toNatClampNeg).toNatClampNeg)) - (σ 76 (σ 81 x2.toNatClampNeg).toNatClampNeg))) = 0 then (0 : Int32) else (if (mi (σ 77 x1.toNatClampNeg) (σ 77 (σ 81 x2.toNatClampNeg).toNatClampNeg) (((σ 77 (σ 80 x2.toNatClampNeg).toNatClampNeg) + (σ 77 (σ 81 x2.toNatClampNeg).toNatClampNeg)) - (σ 77 (σ 81 x2.toNatClampNeg).toNatClampNeg))) = 0 then (0 : Int32) else (1 : Int32))) else (if (mi (σ 76 x1.toNatClampNeg) (σ 76 (σ 81 x2.toNatClampNeg).toNatClampNeg) (((σ 76 (σ 80 x2.toNatClampNeg).toNatClampNeg) + (σ 76 (σ 81 x2.toNatClampNeg).toNatClampNeg)) - (σ 76 (σ 81 x2.toNatClampNeg).toNatClampNeg))) = 0 then (0 : Int32) else (if (mi (σ 77 x1.toNatClampNeg) (σ 77 (σ 80 x2.toNatClampNeg).toNatClampNeg) (((σ 77 (σ 80 x2.toNatClampNeg).toNatClampNeg) + (σ 77 (σ 81 x2.toNatClampNeg).toNatClampNeg)) - (σ 77 (σ 80 x2.toNatClampNeg).toNatClampNeg))) = 0 then (0 : Int32) else (1 : Int32)))) else (if (σ 77 (σ 81 x2.toNatClampNeg).toNatClampNeg) ≤ (σ 77 (σ 80 x2.toNatClampNeg).toNatClampNeg) then (if (mi (σ 76 x1.toNatClampNeg) (σ 76 (σ 80 x2.toNatClampNeg).toNatClampNeg) (((σ 76 (σ 80 x2.toNatClampNeg).toNatClampNeg) + (σ 76 (σ 81 x2.toNatClampNeg).toNatClampNeg)) - (σ 76 (σ 80 x2.toNatClampNeg).toNatClampNeg))) = 0 then (0 : Int32) else (if (mi (σ 77 x1.toNatClampNeg) (σ 77 (σ 81 x2.toNatClampNeg).toNatClampNeg) (((σ 77 (σ 80 x2.toNatClampNeg).toNatClampNeg) + (σ 77 (σ 81 x2.toNatClampNeg).toNatClampNeg)) - (σ 77 (σ 81 x2.toNatClampNeg).toNatClampNeg))) = 0 then (0 : Int32) else (1 : Int32))) else (if (mi (σ 76 x1.toNatClampNeg) (σ 76 (σ 80 x2.toNatClampNeg).toNatClampNeg) (((σ 76 (σ 80 x2.toNatClampNeg).toNatClampNeg) + (σ 76 (σ 81 x2.toNatClampNeg).toNatClampNeg)) - (σ 76 (σ 80 x2.toNatClampNeg).toNatClampNeg))) = 0 then (0 : Int32) else (if (mi (σ 77 x1.toNatClampNeg) (σ 77 (σ 80 x2.toNatClampNeg).toNatClampNeg) (((σ 77 (σ 80 x2.toNatClampNeg).toNatClampNeg) + (σ 77 (σ 81 x2.toNatClampNeg).toNatClampNeg)) - (σ 77 (σ 80 x2.toNatClampNeg).toNatClampNeg))) = 0 then (0 : Int32) else (1 : Int32))))) else (0 : Int32))))
theorem f_97_01 (σ : mm_S) (x1 x2 : Int32) : (f_97 σ x1 x2) = 0 ∨ (f_97 σ x1 x2) = 1 := by
  unfold f_97
  repeat' split
  all_goals first | exact Or.inl rfl | exact Or.inr rfl | exact (mi_01 _ _ _)
theorem c_97 {d : Nat} {Q : mm_Q} {x1 x2 : Int32} {σ : mm_S} (H1 : vp_in x2 21) (H2 : vp_in (σ 80 x2.toNatClampNeg) 9) (H3 : vp_in (σ 81 x2.toNatClampNeg) 9) (H4 : vp_in x1 9) (q : Q (some (.int (f_97 σ x1 x2))) σ) : mD (d + 2) 97 [.ref 10, .int x1, .int x2] σ Q := ke_97 (kb_97_0 H1 H1 (fun g0 => (kb_97_70 (q_pos g0 q))) (fun g0 => (kb_97_20 (fun g1 => (kb_97_70 (q_pos g1 (q_neg g0 q)))) (fun g1 => (kb_97_26 H2 H2 H3 H3 H4 H4 (c_96 (kb_97_67 (fun g2 => (kb_97_72 H2 H3 (fun g3 => (kb_97_97 H3 H2 H3 H2 H3 (fun g4 => (kb_97_150 H3 H2 H3 H4 (c_87 (kb_97_191 (fun g5 => (kb_97_214 (q_pos g5 (q_pos g4 (q_pos g3 (q_pos g2 (q_neg g1 (q_neg g0 q)))))))) (fun g5 => (kb_97_194 H4 (c_87 (kb_97_207 (fun g6 => (kb_97_214 (q_pos g6 (q_neg g5 (q_pos g4 (q_pos g3 (q_pos g2 (q_neg g1 (q_neg g0 q))))))))) (fun g6 => (kb_97_210 (q_neg g6 (q_neg g5 (q_pos g4 (q_pos g3 (q_pos g2 (q_neg g1 (q_neg g0 q))))))))))))))))) (fun g4 => (kb_97_141 H2 H2 H3 H4 (c_87 (kb_97_191 (fun g5 => (kb_97_214 (q_pos g5 (q_neg g4 (q_pos g3 (q_pos g2 (q_neg g1 (q_neg g0 q)))))))) (fun g5 => (kb_97_194 H4 (c_87 (kb_97_207 (fun g6 => (kb_97_214 (q_pos g6 (q_neg g5 (q_neg g4 (q_pos g3 (q_pos g2 (q_neg g1 (q_neg g0 q))))))))) (fun g6 => (kb_97_210 (q_neg g6 (q_neg g5 (q_neg g4 (q_pos g3 (q_pos g2 (q_neg g1 (q_neg g0 q))))))))))))))))))) (fun g3 => (kb_97_88 H2 H2 H3 H2 H3 (fun g4 => (kb_97_150 H3 H2 H3 H4 (c_87 (kb_97_191 (fun g5 => (kb_97_214 (q_pos g5 (q_pos g4 (q_neg g3 (q_pos g2 (q_neg g1 (q_neg g0 q)))))))) (fun g5 => (kb_97_194 H4 (c_87 (kb_97_207 (fun g6 => (kb_97_214 (q_pos g6 (q_neg g5 (q_pos g4 (q_neg g3 (q_pos g2 (q_neg g1 (q_neg g0 q))))))))) (fun g6 => (kb_97_210 (q_neg g6 (q_neg g5 (q_pos g4 (q_neg g3 (q_pos g2 (q_neg g1 (q_neg g0 q))))))))))))))))) (fun g4 => (kb_97_141 H2 H2 H3 H4 (c_87 (kb_97_191 (fun g5 => (kb_97_214 (q_pos g5 (q_neg g4 (q_neg g3 (q_pos g2 (q_neg g1 (q_neg g0 q)))))))) (fun g5 => (kb_97_194 H4 (c_87 (kb_97_207 (fun g6 => (kb_97_214 (q_pos g6 (q_neg g5 (q_neg g4 (q_neg g3 (q_pos g2 (q_neg g1 (q_neg g0 q))))))))) (fun g6 => (kb_97_210 (q_neg g6 (q_neg g5 (q_neg g4 (q_neg g3 (q_pos g2 (q_neg g1 (q_neg g0 q))))))))))))))))))))) (fun g2 => (kb_97_70 (q_neg g2 (q_neg g1 (q_neg g0 q))))))))))))
/-- HouseDeskModel.cross -/
def f_98 (σ : mm_S) (x1 x2 : Int32) : Int32 := (if (f_97 σ (σ 80 x2.toNatClampNeg) x1) = 0 then (if (f_97 σ (σ 81 x2.toNatClampNeg) x1) = 0 then (if (f_97 σ (σ 80 x1.toNatClampNeg) x2) = 0 then (if (f_97 σ (σ 81 x1.toNatClampNeg) x2) = 0 then (if (σ 80 x1.toNatClampNeg) = (σ 80 x2.toNatClampNeg) then (0 : Int32) else (if (σ 80 x1.toNatClampNeg) = (σ 81 x2.toNatClampNeg) then (0 : Int32) else (if (σ 81 x1.toNatClampNeg) = (σ 80 x2.toNatClampNeg) then (0 : Int32) else (if (σ 81 x1.toNatClampNeg) = (σ 81 x2.toNatClampNeg) then (0 : Int32) else (if 0 ≤ ((f_96 (σ 76 (σ 80 x1.toNatClampNeg).toNatClampNeg) (σ 77 (σ 80 x1.toNatClampNeg).toNatClampNeg) (σ 76 (σ 81 x1.toNatClampNeg).toNatClampNeg) (σ 77 (σ 81 x1.toNatClampNeg).toNatClampNeg) (σ 76 (σ 80 x2.toNatClampNeg).toNatClampNeg) (σ 77 (σ 80 x2.toNatClampNeg).toNatClampNeg)) * (f_96 (σ 76 (σ 80 x1.toNatClampNeg).toNatClampNeg) (σ 77 (σ 80 x1.toNatClampNeg).toNatClampNeg) (σ 76 (σ 81 x1.toNatClampNeg).toNatClampNeg) (σ 77 (σ 81 x1.toNatClampNeg).toNatClampNeg) (σ 76 (σ 81 x2.toNatClampNeg).toNatClampNeg) (σ 77 (σ 81 x2.toNatClampNeg).toNatClampNeg))) then (0 : Int32) else (if 0 ≤ ((f_96 (σ 76 (σ 80 x2.toNatClampNeg).toNatClampNeg) (σ 77 (σ 80 x2.toNatClampNeg).toNatClampNeg) (σ 76 (σ 81 x2.toNatClampNeg).toNatClampNeg) (σ 77 (σ 81 x2.toNatClampNeg).toNatClampNeg) (σ 76 (σ 80 x1.toNatClampNeg).toNatClampNeg) (σ 77 (σ 80 x1.toNatClampNeg).toNatClampNeg)) * (f_96 (σ 76 (σ 80 x2.toNatClampNeg).toNatClampNeg) (σ 77 (σ 80 x2.toNatClampNeg).toNatClampNeg) (σ 76 (σ 81 x2.toNatClampNeg).toNatClampNeg) (σ 77 (σ 81 x2.toNatClampNeg).toNatClampNeg) (σ 76 (σ 81 x1.toNatClampNeg).toNatClampNeg) (σ 77 (σ 81 x1.toNatClampNeg).toNatClampNeg))) then (0 : Int32) else (1 : Int32))))))) else (1 : Int32)) else (1 : Int32)) else (1 : Int32)) else (1 : Int32))
theorem f_98_01 (σ : mm_S) (x1 x2 : Int32) : (f_98 σ x1 x2) = 0 ∨ (f_98 σ x1 x2) = 1 := by
  unfold f_98
  repeat' split
  all_goals first | exact Or.inl rfl | exact Or.inr rfl | exact (f_97_01 _ _ _)
theorem c_98 {d : Nat} {Q : mm_Q} {x1 x2 : Int32} {σ : mm_S} (H1 : vp_in x2 21) (H2 : vp_in x1 21) (H3 : vp_in (σ 80 x1.toNatClampNeg) 9) (H4 : vp_in (σ 81 x1.toNatClampNeg) 9) (H5 : vp_in (σ 80 x2.toNatClampNeg) 9) (H6 : vp_in (σ 81 x2.toNatClampNeg) 9) (q : Q (some (.int (f_98 σ x1 x2))) σ) : mD (d + 3) 98 [.ref 10, .int x1, .int x2] σ Q := ke_98 (kb_98_0 H1 (c_97 H2 H3 H4 H5 (kb_98_11 (fun g0 => (kb_98_14 H1 (c_97 H2 H3 H4 H6 (kb_98_25 (fun g1 => (kb_98_28 H2 (c_97 H1 H5 H6 H3 (kb_98_39 (fun g2 => (kb_98_42 H2 (c_97 H1 H5 H6 H4 (kb_98_53 (fun g3 => (kb_98_58 H2 H1 (fun g4 => (kb_98_118 (q_pos g4 (q_pos g3 (q_pos g2 (q_pos g1 (q_pos g0 q))))))) (fun g4 => (kb_98_73 H2 H1 (fun g5 => (kb_98_118 (q_pos g5 (q_neg g4 (q_pos g3 (q_pos g2 (q_pos g1 (q_pos g0 q)))))))) (fun g5 => (kb_98_88 H2 H1 (fun g6 => (kb_98_118 (q_pos g6 (q_neg g5 (q_neg g4 (q_pos g3 (q_pos g2 (q_pos g1 (q_pos g0 q))))))))) (fun g6 => (kb_98_103 H2 H1 (fun g7 => (kb_98_118 (q_pos g7 (q_neg g6 (q_neg g5 (q_neg g4 (q_pos g3 (q_pos g2 (q_pos g1 (q_pos g0 q)))))))))) (fun g7 => (kb_98_120 H2 H3 H2 H3 H2 H4 H2 H4 H1 H5 H1 H5 (c_96 (kb_98_189 H2 H3 H2 H3 H2 H4 H2 H4 H1 H6 H1 H6 (c_96 (kb_98_259 H1 H5 H1 H5 H1 H6 H1 H6 H2 H3 H2 H3 (c_96 (kb_98_330 H1 H5 H1 H5 H1 H6 H1 H6 H2 H4 H2 H4 (c_96 (kb_98_401 (fun g8 => (kb_98_422 (q_pos g8 (q_neg g7 (q_neg g6 (q_neg g5 (q_neg g4 (q_pos g3 (q_pos g2 (q_pos g1 (q_pos g0 q))))))))))) (fun g8 => (kb_98_410 (fun g9 => (kb_98_422 (q_pos g9 (q_neg g8 (q_neg g7 (q_neg g6 (q_neg g5 (q_neg g4 (q_pos g3 (q_pos g2 (q_pos g1 (q_pos g0 q)))))))))))) (fun g9 => (kb_98_418 (q_neg g9 (q_neg g8 (q_neg g7 (q_neg g6 (q_neg g5 (q_neg g4 (q_pos g3 (q_pos g2 (q_pos g1 (q_pos g0 q)))))))))))))))))))))))))))))))) (fun g3 => (kb_98_56 (q_neg g3 (q_pos g2 (q_pos g1 (q_pos g0 q)))))))))) (fun g2 => (kb_98_56 (q_neg g2 (q_pos g1 (q_pos g0 q))))))))) (fun g1 => (kb_98_56 (q_neg g1 (q_pos g0 q)))))))) (fun g0 => (kb_98_56 (q_neg g0 q))))))
/-- HouseDeskModel.tell -/
theorem c_100 {d : Nat} {Q : mm_Q} {x1 x2 x3 x4 : Int32} {σ : mm_S} (q0 : Q (none) (mm_up (mm_up (mm_up (mm_up σ 10 13 x1) 84 0 x2) 84 1 x3) 84 2 x4)) : mD (d + 1) 100 [.ref 10, .int x1, .int x2, .int x3, .int x4] σ Q := ke_100 (kb_100_0 (pk_in 0 3 (by decide)) (pk_in 1 3 (by decide)) (pk_in 2 3 (by decide)) q0)
/-- HouseDeskModel.isCrossed, from 0 -/
theorem ks_99_0 {d : Nat} {Q : mm_Q} {σ : mm_S} (q0 : mw d mt_99 Q 2 [some (.ref 10), some (.int (0 : Int32)), none] [] σ) : mD (d + 1) 99 [.ref 10] σ Q := ke_99 (kb_99_0 q0)
/-- HouseDeskModel.isCrossed, from 2 -/
theorem ks_99_2 {d : Nat} {Q : mm_Q} {x1 : Int32} {o2 : Option Value} {σ : mm_S} (q0 : (σ 10 6) ≤ x1 → mw d mt_99 Q 58 [some (.ref 10), some (.int (0 : Int32)), o2] [] σ) (q1 : ¬ ((σ 10 6) ≤ x1) → mw d mt_99 Q 14 [some (.ref 10), some (.int x1), some (.int (x1 + (1 : Int32)))] [] σ) : mw d mt_99 Q 2 [some (.ref 10), some (.int x1), o2] [] σ := (kb_99_2 (fun g0 => (kb_99_56 (q0 g0))) (fun g0 => (kb_99_10 (q1 g0))))
/-- HouseDeskModel.isCrossed, from 14 -/
theorem ks_99_14 {d : Nat} {Q : mm_Q} {x1 x2 : Int32} {σ : mm_S} (H1 : ¬ ((σ 10 6) ≤ x2) → vp_in x2 21) (H2 : ¬ ((σ 10 6) ≤ x2) → vp_in x1 21) (H3 : ¬ ((σ 10 6) ≤ x2) → vp_in (σ 80 x1.toNatClampNeg) 9) (H4 : ¬ ((σ 10 6) ≤ x2) → vp_in (σ 81 x1.toNatClampNeg) 9) (H5 : ¬ ((σ 10 6) ≤ x2) → vp_in (σ 80 x2.toNatClampNeg) 9) (H6 : ¬ ((σ 10 6) ≤ x2) → vp_in (σ 81 x2.toNatClampNeg) 9) (q0 : (σ 10 6) ≤ x2 → mw (d + 3) mt_99 Q 2 [some (.ref 10), some (.int (x1 + 1)), some (.int x2)] [] σ) (q1 : ¬ ((σ 10 6) ≤ x2) → (f_98 σ x1 x2) = 0 → mw (d + 3) mt_99 Q 14 [some (.ref 10), some (.int x1), some (.int (x2 + 1))] [] σ) (q2 : ¬ ((σ 10 6) ≤ x2) → ¬ ((f_98 σ x1 x2) = 0) → Q (some (.int (1 : Int32))) (mm_up (mm_up (mm_up (mm_up σ 10 13 (0 : Int32)) 84 0 x1) 84 1 x2) 84 2 (-1 : Int32))) : mw (d + 3) mt_99 Q 14 [some (.ref 10), some (.int x1), some (.int x2)] [] σ := (kb_99_14 (fun g0 => (kb_99_50 (q0 g0))) (fun g0 => (kb_99_22 (c_98 (H1 g0) (H2 g0) (H3 g0) (H4 g0) (H5 g0) (H6 g0) (kb_99_28 (fun g1 => (kb_99_31 (q1 g0 g1))) (fun g1 => (kb_99_34 (c_100 (kb_99_42 (q2 g0 g1))))))))))
/-- HouseDeskModel.isCrossed, from 58 -/
theorem ks_99_58 {d : Nat} {Q : mm_Q} {x1 : Int32} {o2 : Option Value} {σ : mm_S} (q0 : (σ 10 6) ≤ x1 → Q (some (.int (0 : Int32))) σ) (q1 : ¬ ((σ 10 6) ≤ x1) → mw d mt_99 Q 68 [some (.ref 10), some (.int x1), some (.int (0 : Int32))] [] σ) : mw d mt_99 Q 58 [some (.ref 10), some (.int x1), o2] [] σ := (kb_99_58 (fun g0 => (kb_99_117 (q0 g0))) (fun g0 => (kb_99_66 (q1 g0))))
/-- HouseDeskModel.isCrossed, from 68 -/
theorem ks_99_68 {d : Nat} {Q : mm_Q} {x1 x2 : Int32} {σ : mm_S} (H1 : ¬ ((9 : Int32) ≤ x2) → vp_in x2 9) (H2 : ¬ ((9 : Int32) ≤ x2) → vp_in x1 21) (H3 : ¬ ((9 : Int32) ≤ x2) → vp_in (σ 80 x1.toNatClampNeg) 9) (H4 : ¬ ((9 : Int32) ≤ x2) → vp_in (σ 81 x1.toNatClampNeg) 9) (q0 : (9 : Int32) ≤ x2 → mw (d + 2) mt_99 Q 58 [some (.ref 10), some (.int (x1 + 1)), some (.int x2)] [] σ) (q1 : ¬ ((9 : Int32) ≤ x2) → (σ 75 x2.toNatClampNeg) = 0 → mw (d + 2) mt_99 Q 68 [some (.ref 10), some (.int x1), some (.int (x2 + 1))] [] σ) (q2 : ¬ ((9 : Int32) ≤ x2) → ¬ ((σ 75 x2.toNatClampNeg) = 0) → (f_97 σ x2 x1) = 0 → mw (d + 2) mt_99 Q 68 [some (.ref 10), some (.int x1), some (.int (x2 + 1))] [] σ) (q3 : ¬ ((9 : Int32) ≤ x2) → ¬ ((σ 75 x2.toNatClampNeg) = 0) → ¬ ((f_97 σ x2 x1) = 0) → Q (some (.int (1 : Int32))) (mm_up (mm_up (mm_up (mm_up σ 10 13 (0 : Int32)) 84 0 x1) 84 1 x2) 84 2 (-1 : Int32))) : mw (d + 2) mt_99 Q 68 [some (.ref 10), some (.int x1), some (.int x2)] [] σ := (kb_99_68 (fun g0 => (kb_99_111 (q0 g0))) (fun g0 => (kb_99_74 (H1 g0) (fun g1 => (kb_99_105 (q1 g0 g1))) (fun g1 => (kb_99_83 (c_97 (H2 g0) (H3 g0) (H4 g0) (H1 g0) (kb_99_89 (fun g2 => (kb_99_92 (q2 g0 g1 g2))) (fun g2 => (kb_99_95 (c_100 (kb_99_103 (q3 g0 g1 g2))))))))))))
/-- HouseDeskModel.answer -/
theorem c_141 {d : Nat} {Q : mm_Q} {x1 : Int32} {σ : mm_S} (q0 : x1 = (1 : Int32) → Q (some (.int x1)) (mm_up σ 10 12 (1 : Int32))) (q1 : ¬ (x1 = (1 : Int32)) → Q (some (.int x1)) (mm_up σ 10 12 (0 : Int32))) : mD (d + 1) 141 [.ref 10, .int x1] σ Q := ke_141 (kb_141_0 (fun g0 => (kb_141_6 (q0 g0))) (fun g0 => (kb_141_10 (q1 g0))))
/-- HouseDeskModel.witness -/
theorem c_143 {d : Nat} {Q : mm_Q} {x1 : Int32} {σ : mm_S} (H1 : ¬ ((σ 10 13) = (-1 : Int32)) → (σ 10 13) = 0 → ¬ ((mi x1 (0 : Int32) (1 : Int32)) = 0) → vp_in x1 3) (H2 : ¬ ((σ 10 13) = (-1 : Int32)) → ¬ ((σ 10 13) = 0) → ¬ ((mi x1 (0 : Int32) (2 : Int32)) = 0) → vp_in x1 3) (q0 : (σ 10 13) = (-1 : Int32) → Q (some (.int (-1 : Int32))) (mm_up σ 10 0 (0 : Int32))) (q1 : ¬ ((σ 10 13) = (-1 : Int32)) → (σ 10 13) = 0 → (mi x1 (0 : Int32) (1 : Int32)) = 0 → Q (some (.int (-1 : Int32))) (mm_up σ 10 0 (0 : Int32))) (q2 : ¬ ((σ 10 13) = (-1 : Int32)) → (σ 10 13) = 0 → ¬ ((mi x1 (0 : Int32) (1 : Int32)) = 0) → Q (some (.int (σ 84 x1.toNatClampNeg))) (mm_up σ 10 0 (0 : Int32))) (q3 : ¬ ((σ 10 13) = (-1 : Int32)) → ¬ ((σ 10 13) = 0) → (mi x1 (0 : Int32) (2 : Int32)) = 0 → Q (some (.int (-1 : Int32))) (mm_up σ 10 0 (0 : Int32))) (q4 : ¬ ((σ 10 13) = (-1 : Int32)) → ¬ ((σ 10 13) = 0) → ¬ ((mi x1 (0 : Int32) (2 : Int32)) = 0) → Q (some (.int (σ 84 x1.toNatClampNeg))) (mm_up σ 10 0 (0 : Int32))) : mD (d + 2) 143 [.ref 10, .int x1] σ Q := ke_143 (kb_143_0 (fun g0 => (kb_143_33 (q0 g0))) (fun g0 => (kb_143_13 (fun g1 => (kb_143_22 (c_87 (kb_143_30 (fun g2 => (kb_143_33 (q1 g0 g1 g2))) (fun g2 => (kb_143_37 (H1 g0 g1 g2) (q2 g0 g1 g2))))))) (fun g1 => (kb_143_26 (c_87 (kb_143_30 (fun g2 => (kb_143_33 (q3 g0 g1 g2))) (fun g2 => (kb_143_37 (H2 g0 g1 g2) (q4 g0 g1 g2))))))))))
/-- HouseDeskModel.at -/
def f_135 (x0 x1 : Int32) : Int32 := (if x1 = 0 then (((2 : Int32) * x0) + (0 : Int32)) else (((2 : Int32) * x0) + (1 : Int32)))
theorem c_135 {d : Nat} {Q : mm_Q} {x0 x1 : Int32} {σ : mm_S} (q : Q (some (.int (f_135 x0 x1))) σ) : mD (d + 1) 135 [.int x0, .int x1] σ Q := ke_135 (kb_135_0 (fun g0 => (kb_135_11 (q_pos g0 q))) (fun g0 => (kb_135_7 (q_neg g0 q))))
/-- HouseDeskModel.rect -/
theorem c_144 {d : Nat} {Q : mm_Q} {x1 x2 : Int32} {σ : mm_S} (H1 : ¬ ((σ 10 12) = 0) → ¬ ((mdr σ x1) = 0) → ¬ ((mi x2 (0 : Int32) (3 : Int32)) = 0) → (2 : Int32) ≤ x2 → x2 = (3 : Int32) → vp_in (f_135 x1 (1 : Int32)) 18) (H2 : ¬ ((σ 10 12) = 0) → ¬ ((mdr σ x1) = 0) → ¬ ((mi x2 (0 : Int32) (3 : Int32)) = 0) → (2 : Int32) ≤ x2 → ¬ (x2 = (3 : Int32)) → vp_in (f_135 x1 (0 : Int32)) 18) (H3 : ¬ ((σ 10 12) = 0) → ¬ ((mdr σ x1) = 0) → ¬ ((mi x2 (0 : Int32) (3 : Int32)) = 0) → ¬ ((2 : Int32) ≤ x2) → x2 = (1 : Int32) → vp_in (f_135 x1 (1 : Int32)) 18) (H4 : ¬ ((σ 10 12) = 0) → ¬ ((mdr σ x1) = 0) → ¬ ((mi x2 (0 : Int32) (3 : Int32)) = 0) → ¬ ((2 : Int32) ≤ x2) → ¬ (x2 = (1 : Int32)) → vp_in (f_135 x1 (0 : Int32)) 18) (q0 : (σ 10 12) = 0 → Q (some (.int (0 : Int32))) (mm_up σ 10 0 (1 : Int32))) (q1 : ¬ ((σ 10 12) = 0) → (mdr σ x1) = 0 → Q (some (.int (0 : Int32))) (mm_up σ 10 0 (2 : Int32))) (q2 : ¬ ((σ 10 12) = 0) → ¬ ((mdr σ x1) = 0) → (mi x2 (0 : Int32) (3 : Int32)) = 0 → Q (some (.int (0 : Int32))) (mm_up σ 10 0 (2 : Int32))) (q3 : ¬ ((σ 10 12) = 0) → ¬ ((mdr σ x1) = 0) → ¬ ((mi x2 (0 : Int32) (3 : Int32)) = 0) → (2 : Int32) ≤ x2 → x2 = (3 : Int32) → Q (some (.int (σ 97 (f_135 x1 (1 : Int32)).toNatClampNeg))) (mm_up σ 10 0 (0 : Int32))) (q4 : ¬ ((σ 10 12) = 0) → ¬ ((mdr σ x1) = 0) → ¬ ((mi x2 (0 : Int32) (3 : Int32)) = 0) → (2 : Int32) ≤ x2 → ¬ (x2 = (3 : Int32)) → Q (some (.int (σ 97 (f_135 x1 (0 : Int32)).toNatClampNeg))) (mm_up σ 10 0 (0 : Int32))) (q5 : ¬ ((σ 10 12) = 0) → ¬ ((mdr σ x1) = 0) → ¬ ((mi x2 (0 : Int32) (3 : Int32)) = 0) → ¬ ((2 : Int32) ≤ x2) → x2 = (1 : Int32) → Q (some (.int (σ 96 (f_135 x1 (1 : Int32)).toNatClampNeg))) (mm_up σ 10 0 (0 : Int32))) (q6 : ¬ ((σ 10 12) = 0) → ¬ ((mdr σ x1) = 0) → ¬ ((mi x2 (0 : Int32) (3 : Int32)) = 0) → ¬ ((2 : Int32) ≤ x2) → ¬ (x2 = (1 : Int32)) → Q (some (.int (σ 96 (f_135 x1 (0 : Int32)).toNatClampNeg))) (mm_up σ 10 0 (0 : Int32))) : mD (d + 3) 144 [.ref 10, .int x1, .int x2] σ Q := ke_144 (kb_144_0 (fun g0 => (kb_144_8 (fun g1 => (absurd (show (1 : Int32) ≤ 0 from g1) (by decide))) (fun _ => (kb_144_44 (q0 g0))))) (fun g0 => (kb_144_12 (c_88 (kb_144_17 (fun g1 => (kb_144_29 (fun g2 => (absurd (show (2 : Int32) ≤ 0 from g2) (by decide))) (fun _ => (kb_144_44 (q1 g0 g1))))) (fun g1 => (kb_144_20 (c_87 (kb_144_26 (fun g2 => (kb_144_29 (fun g3 => (absurd (show (2 : Int32) ≤ 0 from g3) (by decide))) (fun _ => (kb_144_44 (q2 g0 g1 g2))))) (fun g2 => (kb_144_33 (fun _ => (kb_144_46 (fun g3 => (kb_144_73 (fun g4 => (kb_144_83 (c_135 (kb_144_91 (H1 g0 g1 g2 g3 g4) (q3 g0 g1 g2 g3 g4))))) (fun g4 => (kb_144_87 (c_135 (kb_144_91 (H2 g0 g1 g2 g3 g4) (q4 g0 g1 g2 g3 g4))))))) (fun g3 => (kb_144_51 (fun g4 => (kb_144_61 (c_135 (kb_144_69 (H3 g0 g1 g2 g3 g4) (q5 g0 g1 g2 g3 g4))))) (fun g4 => (kb_144_65 (c_135 (kb_144_69 (H4 g0 g1 g2 g3 g4) (q6 g0 g1 g2 g3 g4))))))))) (fun g3 => (absurd (show ¬ ((0 : Int32) ≤ 0) from g3) (by decide))))))))))))))
/-- HouseDeskModel.wayRoom -/
theorem c_149 {d : Nat} {Q : mm_Q} {x1 : Int32} {σ : mm_S} (H1 : ¬ ((mi x1 (0 : Int32) ((σ 10 34) - (1 : Int32))) = 0) → vp_in x1 9) (q0 : (mi x1 (0 : Int32) ((σ 10 34) - (1 : Int32))) = 0 → Q (some (.int (-1 : Int32))) (mm_up σ 10 0 (0 : Int32))) (q1 : ¬ ((mi x1 (0 : Int32) ((σ 10 34) - (1 : Int32))) = 0) → Q (some (.int (σ 98 x1.toNatClampNeg))) (mm_up σ 10 0 (0 : Int32))) : mD (d + 2) 149 [.ref 10, .int x1] σ Q := ke_149 (kb_149_0 (c_87 (kb_149_16 (fun g0 => (kb_149_28 (q0 g0))) (fun g0 => (kb_149_19 (H1 g0) (q1 g0))))))
/-- HouseDesk.join, which may throw -/
theorem xz_1 {d : Nat} {Q : mm_Q} {XQ : Nat → mm_S → Prop} {x1 x2 : Int32} {σ : mm_S} (H1 : ¬ (x1 = x2) → ¬ ((xd σ x1) = 0) → ¬ ((xd σ x2) = 0) → vp_in x1 9) (H2 : ¬ (x1 = x2) → ¬ ((xd σ x1) = 0) → ¬ ((xd σ x2) = 0) → (hs (σ 15 x1.toNatClampNeg) x2) = 0 → (σ 1 12) < (21 : Int32) → vp_in (σ 1 12) 21) (H3 : ¬ (x1 = x2) → ¬ ((xd σ x1) = 0) → ¬ ((xd σ x2) = 0) → (hs (σ 15 x1.toNatClampNeg) x2) = 0 → (σ 1 12) < (21 : Int32) → vp_in x1 9) (H4 : ¬ (x1 = x2) → ¬ ((xd σ x1) = 0) → ¬ ((xd σ x2) = 0) → (hs (σ 15 x1.toNatClampNeg) x2) = 0 → (σ 1 12) < (21 : Int32) → vp_in x2 9) (q0 : x1 = x2 → XQ 0 σ) (q1 : ¬ (x1 = x2) → (xd σ x1) = 0 → XQ 0 σ) (q2 : ¬ (x1 = x2) → ¬ ((xd σ x1) = 0) → (xd σ x2) = 0 → XQ 0 σ) (q3 : ¬ (x1 = x2) → ¬ ((xd σ x1) = 0) → ¬ ((xd σ x2) = 0) → (hs (σ 15 x1.toNatClampNeg) x2) = 0 → (σ 1 12) < (21 : Int32) → Q (some (.int (((σ 1 12) + (1 : Int32)) - (1 : Int32)))) (mm_up (mm_up (mm_up (mm_up (mm_up (mm_up (mm_up σ 16 (σ 1 12).toNatClampNeg x1) 17 (σ 1 12).toNatClampNeg x2) 18 (σ 1 12).toNatClampNeg (1 : Int32)) 15 x1.toNatClampNeg ((σ 15 x1.toNatClampNeg) ||| ((1 : Int32) <<< (x2 &&& 31)))) 15 x2.toNatClampNeg (((mm_up (mm_up (mm_up (mm_up σ 16 (σ 1 12).toNatClampNeg x1) 17 (σ 1 12).toNatClampNeg x2) 18 (σ 1 12).toNatClampNeg (1 : Int32)) 15 x1.toNatClampNeg ((σ 15 x1.toNatClampNeg) ||| ((1 : Int32) <<< (x2 &&& 31)))) 15 x2.toNatClampNeg) ||| ((1 : Int32) <<< (x1 &&& 31)))) 1 12 ((σ 1 12) + (1 : Int32))) 0 3 (0 : Int32))) (q4 : ¬ (x1 = x2) → ¬ ((xd σ x1) = 0) → ¬ ((xd σ x2) = 0) → (hs (σ 15 x1.toNatClampNeg) x2) = 0 → ¬ ((σ 1 12) < (21 : Int32)) → XQ 1 σ) (q5 : ¬ (x1 = x2) → ¬ ((xd σ x1) = 0) → ¬ ((xd σ x2) = 0) → ¬ ((hs (σ 15 x1.toNatClampNeg) x2) = 0) → XQ 1 σ) : xD (d + 2) 1 [.ref 0, .int x1, .int x2] σ Q XQ := ⟨rfl, (xr_1_0 (fun g0 => (xr_1_27 (q0 g0))) (fun g0 => (xr_1_5 (c_7 (xr_1_13 (fun g1 => (xr_1_27 (q1 g0 g1))) (fun g1 => (xr_1_16 (c_7 (xr_1_24 (fun g2 => (xr_1_27 (q2 g0 g1 g2))) (fun g2 => (xr_1_37 (c_10 (H1 g0 g1 g2) (xr_1_46 (fun g3 => (xr_1_49 (fun g4 => (xr_1_71 (c_13 (H2 g0 g1 g2 g3 g4) (H3 g0 g1 g2 g3 g4) (H4 g0 g1 g2 g3 g4) (xr_1_80 (q3 g0 g1 g2 g3 g4))))) (fun g4 => (xr_1_61 (q4 g0 g1 g2 g3 g4))))) (fun g3 => (xr_1_61 (q5 g0 g1 g2 g3))))))))))))))))⟩
/-- HouseDesk.rect, which may throw -/
theorem xz_5 {d : Nat} {Q : mm_Q} {XQ : Nat → mm_S → Prop} {x1 x2 : Int32} {σ : mm_S} (H1 : ¬ ((σ 0 3) = 0) → ¬ ((xd σ x1) = 0) → ¬ (x2 < 0) → x2 < (4 : Int32) → vp_in x1 9) (H2 : ¬ ((σ 0 3) = 0) → ¬ ((xd σ x1) = 0) → ¬ (x2 < 0) → x2 < (4 : Int32) → vp_in x2 4) (q0 : (σ 0 3) = 0 → XQ 2 σ) (q1 : ¬ ((σ 0 3) = 0) → (xd σ x1) = 0 → XQ 0 σ) (q2 : ¬ ((σ 0 3) = 0) → ¬ ((xd σ x1) = 0) → x2 < 0 → XQ 0 σ) (q3 : ¬ ((σ 0 3) = 0) → ¬ ((xd σ x1) = 0) → ¬ (x2 < 0) → x2 < (4 : Int32) → Q (some (.int (σ (62 + 1 + x1.toNatClampNeg) x2.toNatClampNeg))) σ) (q4 : ¬ ((σ 0 3) = 0) → ¬ ((xd σ x1) = 0) → ¬ (x2 < 0) → ¬ (x2 < (4 : Int32)) → XQ 0 σ) : xD (d + 2) 5 [.ref 0, .int x1, .int x2] σ Q XQ := ⟨rfl, (xr_5_0 (xz_10 (fun g0 => (q0 g0)) (fun g0 => (xr_5_4 (c_7 (xr_5_12 (fun g1 => (xr_5_24 (q1 g0 g1))) (fun g1 => (xr_5_15 (fun g2 => (xr_5_24 (q2 g0 g1 g2))) (fun g2 => (xr_5_19 (fun g3 => (xr_5_34 (H1 g0 g1 g2 g3) (H2 g0 g1 g2 g3) (q3 g0 g1 g2 g3))) (fun g3 => (xr_5_24 (q4 g0 g1 g2 g3)))))))))))))⟩
end
section
/-! contracts: clear, roomCount, isCrossed of the reference; the crossings of the class -/
def clr (σ τ : mm_S) : Prop := (∀ k, k ≠ 10 → k ≠ 75 → k ≠ 78 → k ≠ 79 → τ k = σ k) ∧ (∀ j, j < 9 → τ 75 j = 0 ∧ τ 78 j = 1 ∧ τ 79 j = 1) ∧ (∀ i, i ≠ 0 → i ≠ 6 → i ≠ 10 → i ≠ 12 → τ 10 i = σ 10 i) ∧ τ 10 0 = 0 ∧ τ 10 6 = 0 ∧ τ 10 10 = 0 ∧ τ 10 12 = 0
theorem mm_up_e {σ : mm_S} {k j : Nat} {x : Int32} : mm_up σ k j x k = upd (σ k) j x := mm_up_eq
theorem mm_up_o {σ : mm_S} {k i j : Nat} {x : Int32} (h : i ≠ j) : mm_up σ k j x k i = σ k i := by rw [mm_up_e]; exact pk_un h
theorem c_95 {d : Nat} {Q : mm_Q} {σ : mm_S} (q : ∀ τ, clr σ τ → Q none τ) : mD (d + 1) 95 [.ref 10] σ Q := by
  refine ks_95_0 ?_
  have main : ∀ m i, i + m = 9 → ∀ τ : mm_S, (∀ k, k ≠ 10 → k ≠ 75 → k ≠ 78 → k ≠ 79 → τ k = σ k) → (∀ j, j < i → τ 75 j = 0 ∧ τ 78 j = 1 ∧ τ 79 j = 1) → (∀ j, j ≠ 0 → τ 10 j = σ 10 j) → τ 10 0 = 0 → mw d mt_95 Q 7 [some (.ref 10), some (.int (nI i))] [] τ := by
    intro m
    induction m with
    | zero =>
      intro i hi τ h1 h2 h3 h4
      have e : i = 9 := by omega
      subst e
      refine ks_95_7 (fun g => absurd (by decide) g) (fun _ => q _ ⟨fun k a b c e => ?_, fun j hj => ?_, fun j a b c e => ?_, ?_, ?_, ?_, ?_⟩) (fun g => absurd (by decide) g)
      · rw [mm_up_n a, mm_up_n a, mm_up_n a]; exact h1 k a b c e
      · rw [mm_up_n (by decide), mm_up_n (by decide), mm_up_n (by decide), mm_up_n (by decide), mm_up_n (by decide), mm_up_n (by decide), mm_up_n (by decide), mm_up_n (by decide), mm_up_n (by decide)]; exact h2 j hj
      · rw [mm_up_o e, mm_up_o c, mm_up_o b]; exact h3 j a
      · rw [mm_up_o (by decide), mm_up_o (by decide), mm_up_o (by decide)]; exact h4
      · rw [mm_up_o (by decide), mm_up_o (by decide)]; exact mm_up_s
      · rw [mm_up_o (by decide)]; exact mm_up_s
      · exact mm_up_s
    | succ m ih =>
      intro i hi τ h1 h2 h3 h4
      have hcl : (nI i).toNatClampNeg = i := pk_cl i
      have hin : vp_in (nI i) 9 := pk_in i 9 (by omega)
      refine ks_95_7 (fun _ => hin) (fun g => absurd ((nI_leI (a := 9) (b := i) (by omega) (by omega)).mp g) (by omega)) (fun _ => ?_)
      rw [nI_1, hcl]
      refine ih (i + 1) (by omega) _ (fun k a b c e => ?_) (fun j hj => ?_) (fun j a => ?_) ?_
      · rw [mm_up_n e, mm_up_n c, mm_up_n b]; exact h1 k a b c e
      · rw [mm_up_n (show (75 : Nat) ≠ 79 by decide), mm_up_n (show (75 : Nat) ≠ 78 by decide), mm_up_n (show (78 : Nat) ≠ 79 by decide)]
        by_cases eq : j = i
        · subst eq
          refine ⟨mm_up_s, mm_up_s, mm_up_s⟩
        · have := h2 j (by omega)
          rw [mm_up_o eq, mm_up_o eq, mm_up_o eq, mm_up_n (by decide), mm_up_n (by decide), mm_up_n (by decide)]
          exact this
      · rw [mm_up_n (by decide), mm_up_n (by decide), mm_up_n (by decide)]; exact h3 j a
      · rw [mm_up_n (by decide), mm_up_n (by decide), mm_up_n (by decide)]; exact h4
  refine main 9 0 rfl _ (fun k a _ _ _ => mm_up_n a) (fun j hj => absurd hj (Nat.not_lt_zero j)) (fun j a => mm_up_o a) mm_up_s
/-- how many rooms are drawn, by the reference -/
def rc (σ : mm_S) : Nat → Nat
  | 0 => 0
  | i + 1 => rc σ i + if σ 75 i = 0 then 0 else 1
theorem rc_le (σ : mm_S) : ∀ i, rc σ i ≤ i
  | 0 => Nat.le_refl 0
  | i + 1 => by
    have := rc_le σ i
    unfold rc
    split <;> omega
theorem c_108 {d : Nat} {Q : mm_Q} {σ : mm_S} (q : Q (some (.int (nI (rc σ 9)))) σ) : mD (d + 1) 108 [.ref 10] σ Q := by
  refine ke_108 (kb_108_0 ?_)
  have main : ∀ m i, i + m = 9 → mw d mt_108 Q 4 [some (.ref 10), some (.int (nI (rc σ i))), some (.int (nI i))] [] σ := by
    intro m
    induction m with
    | zero =>
      intro i hi
      have e : i = 9 := by omega
      subst e
      exact kb_108_4 (fun _ => kb_108_33 q) (fun g => absurd (by decide) g)
    | succ m ih =>
      intro i hi
      have hcl : (nI i).toNatClampNeg = i := pk_cl i
      have hin : vp_in (nI i) 9 := pk_in i 9 (by omega)
      have hr : ∀ c, rc σ (i + 1) = rc σ i + c → mw d mt_108 Q 4 [some (.ref 10), some (.int (nI (rc σ i) + nI c)), some (.int (nI i + 1))] [] σ := fun c hc => by
        rw [nI_add, nI_1, ← hc]; exact ih (i + 1) (by omega)
      refine kb_108_4 (fun g => absurd ((nI_leI (a := 9) (b := i) (by omega) (by omega)).mp g) (by omega)) (fun _ => kb_108_10 hin (fun h => kb_108_24 (hr 0 ?_)) (fun h => kb_108_20 (hr 1 ?_)))
      · rw [hcl] at h
        rw [rc, if_pos h]
      · rw [hcl] at h
        rw [rc, if_neg h]
  exact main 9 0 rfl
end
section
/-! loops that count upward -/
theorem lp_dn {P : Nat → Prop} (N : Nat) (h0 : P N) (h1 : ∀ i, i < N → P (i + 1) → P i) : ∀ i, i ≤ N → P i := by
  have key : ∀ m i, i + m = N → P i := by
    intro m
    induction m with
    | zero => intro i hi; rw [show i = N by omega]; exact h0
    | succ m ih => intro i hi; exact h1 i (by omega) (ih (i + 1) (by omega))
  intro i hi
  exact key (N - i) i (by omega)
theorem hI_le {a b : Nat} (hb : b < 100000) (h : a ≤ b) : nI a ≤ nI b := (nI_leI (by omega) (by omega)).mpr h
theorem hI_nle {a b : Nat} (ha : a < 100000) (h : b < a) : ¬ (nI a ≤ nI b) := fun z => by
  have := (nI_leI (a := a) (b := b) (by omega) (by omega)).mp z
  omega
/-- the joins of the class: how many, and that their ends are rooms -/
def Jr (σ : mm_S) (n : Nat) : Prop := n ≤ 21 ∧ σ 1 12 = nI n ∧ ∀ k, k < n → vp_in (σ 16 k) 9 ∧ vp_in (σ 17 k) 9
def cxx (σ : mm_S) (e f : Nat) : Prop := ¬ (f_26 σ (nI e) (nI f) = 0 ∧ f_26 σ (nI f) (nI e) = 0 ∧ f_29 σ (nI e) (nI f) = 0)
def clx (σ : mm_S) (e i : Nat) : Prop := ¬ (xd σ (nI i) = 0) ∧ ¬ (f_27 σ (nI i) (nI e) = 0)
def tw2 (σ : mm_S) (a b : Nat) : mm_S := mm_up (mm_up (mm_up σ 20 0 (nI a)) 20 1 (nI b)) 3 1 2
theorem c_24 {d n : Nat} {Q : mm_Q} {σ : mm_S} (J : Jr σ n)
    (q1 : ∀ e f, e < f → f < n → cxx σ e f → (∀ e' f', e' < f' → f' < n → (e' < e ∨ (e' = e ∧ f' < f)) → ¬ cxx σ e' f') → Q (some (.int 1)) (tw2 σ e f))
    (q0 : (∀ e f, e < f → f < n → ¬ cxx σ e f) → Q (some (.int 0)) σ) : mD (d + 5) 24 [.ref 4, .ref 3] σ Q := by
  obtain ⟨hn, e12, hr⟩ := J
  refine ks_24_0 ?_
  refine lp_dn (P := fun e => (∀ e' f', e' < f' → f' < n → e' < e → ¬ cxx σ e' f') → ∀ o3, mw (d + 4) mt_24 Q 2 [some (.ref 4), some (.ref 3), some (.int (nI e)), o3] [] σ) n ?_ ?_ 0 (Nat.zero_le n) (fun e' f' _ _ h => absurd h (Nat.not_lt_zero _)) none
  · intro hall o3
    refine ks_24_2 (fun _ => q0 (fun e f h1 h2 => hall e f h1 h2 (by omega))) (fun g => absurd ?_ g)
    rw [e12]; exact hI_le (by omega) (Nat.le_refl n)
  · intro e he ih hall o3
    have g0 : ∀ f, f < n → ¬ (σ 1 12 ≤ nI f) := fun f hf => by rw [e12]; exact hI_nle (by omega) hf
    refine ks_24_2 (fun g => absurd g (g0 e he)) (fun _ => ?_)
    rw [nI_1]
    refine lp_dn (P := fun f => e < f → (∀ f', e < f' → f' < f → ¬ cxx σ e f') → mw (d + 4) mt_24 Q 17 [some (.ref 4), some (.ref 3), some (.int (nI e)), some (.int (nI f))] [] σ) n ?_ ?_ (e + 1) (by omega) (by omega) (fun f' h1 h2 => absurd h2 (by omega))
    · intro hef hal
      have gt : σ 1 12 ≤ nI n := by rw [e12]; exact hI_le (by omega) (Nat.le_refl n)
      refine ks_24_17 (fun g => absurd gt g) (fun g => absurd gt g) (fun g => absurd gt g) (fun g => absurd gt g) (fun g => absurd gt g) (fun g => absurd gt g) (fun _ => ?_) (fun g => absurd gt g) (fun g => absurd gt g) (fun g => absurd gt g) (fun g => absurd gt g)
      rw [nI_1]
      refine ih (fun e' f' h1 h2 h3 => ?_) _
      by_cases eq : e' = e
      · subst eq; exact hal f' h1 h2
      · exact hall e' f' h1 h2 (by omega)
    · intro f hf ihf hef hal
      have ce : (nI e).toNatClampNeg = e := pk_cl e
      have cf : (nI f).toNatClampNeg = f := pk_cl f
      have bf : ∀ e' f', e' < f' → f' < n → (e' < e ∨ (e' = e ∧ f' < f)) → ¬ cxx σ e' f' := fun e' f' h1 h2 h3 => by
        rcases h3 with h3 | ⟨h3, h4⟩
        · exact hall e' f' h1 h2 h3
        · subst h3; exact hal f' h1 h4
      refine ks_24_17 (fun _ => pk_in e 21 (by omega)) (fun _ => pk_in f 21 (by omega)) (fun _ => ?_) (fun _ => ?_) (fun _ => ?_) (fun _ => ?_) (fun g => absurd g (g0 f hf)) (fun _ a b c => ?_) (fun _ a b c => ?_) (fun _ a b => ?_) (fun _ a => ?_)
      · rw [cf]; exact (hr f hf).2
      · rw [cf]; exact (hr f hf).1
      · rw [ce]; exact (hr e he).1
      · rw [ce]; exact (hr e he).2
      · rw [nI_1]
        refine ihf (by omega) (fun f' h1 h2 => ?_)
        by_cases eq : f' = f
        · subst eq; exact fun z => z ⟨a, b, c⟩
        · exact hal f' h1 (by omega)
      · exact q1 e f hef hf (fun z => c z.2.2) bf
      · exact q1 e f hef hf (fun z => b z.2.1) bf
      · exact q1 e f hef hf (fun z => a z.1) bf
theorem c_25 {d n : Nat} {Q : mm_Q} {σ : mm_S} (J : Jr σ n)
    (q1 : ∀ e i, e < n → i < 9 → clx σ e i → (∀ e' i', e' < n → i' < 9 → (e' < e ∨ (e' = e ∧ i' < i)) → ¬ clx σ e' i') → Q (some (.int 1)) (tw2 σ e i))
    (q0 : (∀ e i, e < n → i < 9 → ¬ clx σ e i) → Q (some (.int 0)) σ) : mD (d + 4) 25 [.ref 4, .ref 3] σ Q := by
  obtain ⟨hn, e12, hr⟩ := J
  refine ks_25_0 ?_
  refine lp_dn (P := fun e => (∀ e' i', e' < n → i' < 9 → e' < e → ¬ clx σ e' i') → ∀ o3, mw (d + 3) mt_25 Q 2 [some (.ref 4), some (.ref 3), some (.int (nI e)), o3] [] σ) n ?_ ?_ 0 (Nat.zero_le n) (fun e' f' _ _ h => absurd h (Nat.not_lt_zero _)) none
  · intro hall o3
    refine ks_25_2 (fun _ => q0 (fun e f h1 h2 => hall e f h1 h2 (by omega))) (fun g => absurd ?_ g)
    rw [e12]; exact hI_le (by omega) (Nat.le_refl n)
  · intro e he ih hall o3
    refine ks_25_2 (fun g => absurd g (by rw [e12]; exact hI_nle (by omega) he)) (fun _ => ?_)
    refine lp_dn (P := fun i => (∀ i', i' < i → ¬ clx σ e i') → mw (d + 3) mt_25 Q 15 [some (.ref 4), some (.ref 3), some (.int (nI e)), some (.int (nI i))] [] σ) 9 ?_ ?_ 0 (by omega) (fun f' h2 => absurd h2 (by omega))
    · intro hal
      have gt : (9 : Int32) ≤ nI 9 := by decide
      refine ks_25_15 (fun g => absurd gt g) (fun g => absurd gt g) (fun g => absurd gt g) (fun g => absurd gt g) (fun _ => ?_) (fun g => absurd gt g) (fun g => absurd gt g) (fun g => absurd gt g)
      rw [nI_1]
      refine ih (fun e' f' h1 h2 h3 => ?_) _
      by_cases eq : e' = e
      · subst eq; exact hal f' h2
      · exact hall e' f' h1 h2 (by omega)
    · intro i hi ihi hal
      have ce : (nI e).toNatClampNeg = e := pk_cl e
      have bf : ∀ e' f', e' < n → f' < 9 → (e' < e ∨ (e' = e ∧ f' < i)) → ¬ clx σ e' f' := fun e' f' h1 h2 h3 => by
        rcases h3 with h3 | ⟨h3, h4⟩
        · exact hall e' f' h1 h2 h3
        · subst h3; exact hal f' h4
      have nx : ¬ clx σ e i → mw (d + 3) mt_25 Q 15 [some (.ref 4), some (.ref 3), some (.int (nI e)), some (.int (nI i + 1))] [] σ := fun hne => by
        rw [nI_1]
        refine ihi (fun f' h2 => ?_)
        by_cases eq : f' = i
        · subst eq; exact hne
        · exact hal f' (by omega)
      refine ks_25_15 (fun _ => pk_in e 21 (by omega)) (fun _ => ?_) (fun _ => ?_) (fun _ => pk_in i 9 hi) (fun g => absurd g (hI_nle (a := 9) (by omega) hi)) (fun _ a => nx (fun z => z.1 a)) (fun _ a b => nx (fun z => z.2 b)) (fun _ a b => q1 e i he hi ⟨a, b⟩ bf)
      · rw [ce]; exact (hr e he).2
      · rw [ce]; exact (hr e he).1
/-- what the class finds: two joins that meet, or a room on a join; the first such pair -/
def cfa (σ : mm_S) (n a b : Nat) : Prop :=
  (a < b ∧ b < n ∧ cxx σ a b ∧ ∀ e f, e < f → f < n → (e < a ∨ (e = a ∧ f < b)) → ¬ cxx σ e f) ∨
  ((∀ e f, e < f → f < n → ¬ cxx σ e f) ∧ a < n ∧ b < 9 ∧ clx σ a b ∧ ∀ e i, e < n → i < 9 → (e < a ∨ (e = a ∧ i < b)) → ¬ clx σ e i)
theorem c_23 {d n : Nat} {Q : mm_Q} {σ : mm_S} (J : Jr σ n)
    (q1 : ∀ a b, cfa σ n a b → Q (some (.int 1)) (tw2 σ a b))
    (q0 : (∀ e f, e < f → f < n → ¬ cxx σ e f) → (∀ e i, e < n → i < 9 → ¬ clx σ e i) → Q (some (.int 0)) σ) : mD (d + 6) 23 [.ref 4, .ref 3] σ Q := by
  refine ke_23 (kb_23_0 (c_24 J (fun e f h1 h2 h3 h4 => ?_) (fun h => ?_)))
  · exact kb_23_5 (fun z => absurd z (by decide)) (fun _ => kb_23_16 (q1 e f (Or.inl ⟨h1, h2, h3, h4⟩)))
  · refine kb_23_5 (fun _ => kb_23_8 (c_25 J (fun e i h1 h2 h3 h4 => ?_) (fun h' => ?_))) (fun z => absurd rfl z)
    · exact kb_23_13 (fun z => absurd z (by decide)) (fun _ => kb_23_16 (q1 e i (Or.inr ⟨h, h1, h2, h3, h4⟩)))
    · exact kb_23_13 (fun _ => kb_23_20 (q0 h h')) (fun z => absurd rfl z)
/-- the same of the reference -/
def Mr (σ : mm_S) (n : Nat) : Prop := n ≤ 21 ∧ σ 10 6 = nI n ∧ ∀ k, k < n → vp_in (σ 80 k) 9 ∧ vp_in (σ 81 k) 9
def mxx (σ : mm_S) (e f : Nat) : Prop := ¬ (f_98 σ (nI e) (nI f) = 0)
def mlx (σ : mm_S) (e i : Nat) : Prop := ¬ (σ 75 i = 0) ∧ ¬ (f_97 σ (nI i) (nI e) = 0)
def mt3 (σ : mm_S) (k a b c : Int32) : mm_S := mm_up (mm_up (mm_up (mm_up σ 10 13 k) 84 0 a) 84 1 b) 84 2 c
def mfa (σ : mm_S) (n a b : Nat) : Prop :=
  (a < b ∧ b < n ∧ mxx σ a b ∧ ∀ e f, e < f → f < n → (e < a ∨ (e = a ∧ f < b)) → ¬ mxx σ e f) ∨
  ((∀ e f, e < f → f < n → ¬ mxx σ e f) ∧ a < n ∧ b < 9 ∧ mlx σ a b ∧ ∀ e i, e < n → i < 9 → (e < a ∨ (e = a ∧ i < b)) → ¬ mlx σ e i)
theorem c_99 {d n : Nat} {Q : mm_Q} {σ : mm_S} (J : Mr σ n)
    (q1 : ∀ a b, mfa σ n a b → Q (some (.int 1)) (mt3 σ 0 (nI a) (nI b) (-1)))
    (q0 : (∀ e f, e < f → f < n → ¬ mxx σ e f) → (∀ e i, e < n → i < 9 → ¬ mlx σ e i) → Q (some (.int 0)) σ) : mD (d + 4) 99 [.ref 10] σ Q := by
  obtain ⟨hn, e12, hr⟩ := J
  have gt : σ 10 6 ≤ nI n := by rw [e12]; exact hI_le (by omega) (Nat.le_refl n)
  have g0 : ∀ f, f < n → ¬ (σ 10 6 ≤ nI f) := fun f hf => by rw [e12]; exact hI_nle (by omega) hf
  have part2 : (∀ e f, e < f → f < n → ¬ mxx σ e f) → ∀ o2, mw (d + 3) mt_99 Q 58 [some (.ref 10), some (.int (nI 0)), o2] [] σ := by
    intro hno
    refine lp_dn (P := fun e => (∀ e' i', e' < n → i' < 9 → e' < e → ¬ mlx σ e' i') → ∀ o2, mw (d + 3) mt_99 Q 58 [some (.ref 10), some (.int (nI e)), o2] [] σ) n ?_ ?_ 0 (Nat.zero_le n) (fun e' f' _ _ h => absurd h (Nat.not_lt_zero _))
    · intro hall o2
      exact ks_99_58 (fun _ => q0 hno (fun e f h1 h2 => hall e f h1 h2 (by omega))) (fun g => absurd gt g)
    · intro e he ih hall o2
      refine ks_99_58 (fun g => absurd g (g0 e he)) (fun _ => ?_)
      refine lp_dn (P := fun i => (∀ i', i' < i → ¬ mlx σ e i') → mw (d + 3) mt_99 Q 68 [some (.ref 10), some (.int (nI e)), some (.int (nI i))] [] σ) 9 ?_ ?_ 0 (by omega) (fun f' h2 => absurd h2 (by omega))
      · intro hal
        have g9 : (9 : Int32) ≤ nI 9 := by decide
        refine ks_99_68 (fun g => absurd g9 g) (fun g => absurd g9 g) (fun g => absurd g9 g) (fun g => absurd g9 g) (fun _ => ?_) (fun g => absurd g9 g) (fun g => absurd g9 g) (fun g => absurd g9 g)
        rw [nI_1]
        refine ih (fun e' f' h1 h2 h3 => ?_) _
        by_cases eq : e' = e
        · subst eq; exact hal f' h2
        · exact hall e' f' h1 h2 (by omega)
      · intro i hi ihi hal
        have ce : (nI e).toNatClampNeg = e := pk_cl e
        have ci : (nI i).toNatClampNeg = i := pk_cl i
        have bf : ∀ e' f', e' < n → f' < 9 → (e' < e ∨ (e' = e ∧ f' < i)) → ¬ mlx σ e' f' := fun e' f' h1 h2 h3 => by
          rcases h3 with h3 | ⟨h3, h4⟩
          · exact hall e' f' h1 h2 h3
          · subst h3; exact hal f' h4
        have nx : ¬ mlx σ e i → mw (d + 3) mt_99 Q 68 [some (.ref 10), some (.int (nI e)), some (.int (nI i + 1))] [] σ := fun hne => by
          rw [nI_1]
          refine ihi (fun f' h2 => ?_)
          by_cases eq : f' = i
          · subst eq; exact hne
          · exact hal f' (by omega)
        refine ks_99_68 (fun _ => pk_in i 9 hi) (fun _ => pk_in e 21 (by omega)) (fun _ => ?_) (fun _ => ?_) (fun g => absurd g (hI_nle (a := 9) (by omega) hi)) (fun _ a => nx (fun z => z.1 ?_)) (fun _ a b => nx (fun z => z.2 b)) (fun _ a b => q1 e i (Or.inr ⟨hno, he, hi, ⟨?_, b⟩, bf⟩))
        · rw [ce]; exact (hr e he).1
        · rw [ce]; exact (hr e he).2
        · rw [ci] at a; exact a
        · rw [ci] at a; exact a
  refine ks_99_0 ?_
  refine lp_dn (P := fun e => (∀ e' f', e' < f' → f' < n → e' < e → ¬ mxx σ e' f') → ∀ o2, mw (d + 3) mt_99 Q 2 [some (.ref 10), some (.int (nI e)), o2] [] σ) n ?_ ?_ 0 (Nat.zero_le n) (fun e' f' _ _ h => absurd h (Nat.not_lt_zero _)) none
  · intro hall o2
    exact ks_99_2 (fun _ => part2 (fun e f h1 h2 => hall e f h1 h2 (by omega)) _) (fun g => absurd gt g)
  · intro e he ih hall o2
    refine ks_99_2 (fun g => absurd g (g0 e he)) (fun _ => ?_)
    rw [nI_1]
    refine lp_dn (P := fun f => e < f → (∀ f', e < f' → f' < f → ¬ mxx σ e f') → mw (d + 3) mt_99 Q 14 [some (.ref 10), some (.int (nI e)), some (.int (nI f))] [] σ) n ?_ ?_ (e + 1) (by omega) (by omega) (fun f' h1 h2 => absurd h2 (by omega))
    · intro hef hal
      refine ks_99_14 (fun g => absurd gt g) (fun g => absurd gt g) (fun g => absurd gt g) (fun g => absurd gt g) (fun g => absurd gt g) (fun g => absurd gt g) (fun _ => ?_) (fun g => absurd gt g) (fun g => absurd gt g)
      rw [nI_1]
      refine ih (fun e' f' h1 h2 h3 => ?_) _
      by_cases eq : e' = e
      · subst eq; exact hal f' h1 h2
      · exact hall e' f' h1 h2 (by omega)
    · intro f hf ihf hef hal
      have ce : (nI e).toNatClampNeg = e := pk_cl e
      have cf : (nI f).toNatClampNeg = f := pk_cl f
      refine ks_99_14 (fun _ => pk_in f 21 (by omega)) (fun _ => pk_in e 21 (by omega)) (fun _ => ?_) (fun _ => ?_) (fun _ => ?_) (fun _ => ?_) (fun g => absurd g (g0 f hf)) (fun _ a => ?_) (fun _ a => q1 e f (Or.inl ⟨hef, hf, a, fun e' f' h1 h2 h3 => ?_⟩))
      · rw [ce]; exact (hr e he).1
      · rw [ce]; exact (hr e he).2
      · rw [cf]; exact (hr f hf).1
      · rw [cf]; exact (hr f hf).2
      · rw [nI_1]
        refine ihf (by omega) (fun f' h1 h2 => ?_)
        by_cases eq : f' = f
        · subst eq; exact fun z => z a
        · exact hal f' h1 (by omega)
      · rcases h3 with h3 | ⟨h3, h4⟩
        · exact hall e' f' h1 h2 h3
        · subst h3; exact hal f' h1 h4
end
section
/-! the tails of the arms whose answers are compared -/
theorem lg_cmp_self (x : Int64) : lg_cmp x x = 0 := by
  unfold lg_cmp
  rw [if_neg (Int64.lt_irrefl (a := x)), if_pos rfl]
end
section
/-! wishedArea -/
def war (σ : mm_S) : Nat → Int32
  | 0 => 0
  | i + 1 => if xd σ (nI i) = 0 then war σ i else war σ i + σ 13 i * σ 14 i
/-- HouseDesk$Sketch.wishedArea, from 0 -/
theorem ks_16_0 {d : Nat} {Q : mm_Q} {σ : mm_S} (q0 : mw d mt_16 Q 4 [some (.ref 1), some (.int (0 : Int32)), some (.int (0 : Int32))] [] σ) : mD (d + 1) 16 [.ref 1] σ Q := ke_16 (kb_16_0 q0)
/-- HouseDesk$Sketch.wishedArea, from 4 -/
theorem ks_16_4 {d : Nat} {Q : mm_Q} {x1 x2 : Int32} {σ : mm_S} (H1 : ¬ ((9 : Int32) ≤ x2) → vp_in x2 9) (q0 : (9 : Int32) ≤ x2 → Q (some (.int x1)) σ) (q1 : ¬ ((9 : Int32) ≤ x2) → (xd σ x2) = 0 → mw (d + 2) mt_16 Q 4 [some (.ref 1), some (.int x1), some (.int (x2 + 1))] [] σ) (q2 : ¬ ((9 : Int32) ≤ x2) → ¬ ((xd σ x2) = 0) → mw (d + 2) mt_16 Q 4 [some (.ref 1), some (.int (x1 + ((σ 13 x2.toNatClampNeg) * (σ 14 x2.toNatClampNeg)))), some (.int (x2 + 1))] [] σ) : mw (d + 2) mt_16 Q 4 [some (.ref 1), some (.int x1), some (.int x2)] [] σ := (kb_16_4 (fun g0 => (kb_16_40 (q0 g0))) (fun g0 => (kb_16_10 (c_7 (kb_16_15 (fun g1 => (kb_16_34 (q1 g0 g1))) (fun g1 => (kb_16_18 (H1 g0) (H1 g0) (q2 g0 g1))))))))
theorem c_16 {d : Nat} {Q : mm_Q} {σ : mm_S} (q : Q (some (.int (war σ 9))) σ) : mD (d + 3) 16 [.ref 1] σ Q := by
  refine ks_16_0 ?_
  refine lp_dn (P := fun i => mw (d + 2) mt_16 Q 4 [some (.ref 1), some (.int (war σ i)), some (.int (nI i))] [] σ) 9 ?_ ?_ 0 (by omega)
  · exact ks_16_4 (fun g => absurd (by decide) g) (fun _ => q) (fun g => absurd (by decide) g) (fun g => absurd (by decide) g)
  · intro i hi ih
    have hcl : (nI i).toNatClampNeg = i := pk_cl i
    refine ks_16_4 (fun _ => pk_in i 9 hi) (fun g => absurd g (hI_nle (a := 9) (by omega) hi)) (fun _ h => ?_) (fun _ h => ?_)
    · rw [nI_1]
      rw [war, if_pos h] at ih
      exact ih
    · rw [nI_1, hcl]
      rw [war, if_neg h] at ih
      exact ih
/-- HouseDeskModel.house, from 0 -/
theorem ks_145_0 {d : Nat} {Q : mm_Q} {x1 : Int32} {σ : mm_S} (q0 : (σ 10 12) = 0 → Q (some (.int (0 : Int32))) (mm_up σ 10 0 (1 : Int32))) (q1 : ¬ ((σ 10 12) = 0) → (mi x1 (0 : Int32) (2 : Int32)) = 0 → Q (some (.int (0 : Int32))) (mm_up σ 10 0 (2 : Int32))) (q2 : ¬ ((σ 10 12) = 0) → ¬ ((mi x1 (0 : Int32) (2 : Int32)) = 0) → mw (d + 1) mt_145 Q 42 [some (.ref 10), some (.int x1), some (.int (0 : Int32)), some (.int (0 : Int32))] [] (mm_up σ 10 0 (0 : Int32))) : mD (d + 2) 145 [.ref 10, .int x1] σ Q := ke_145 (kb_145_0 (fun g0 => (kb_145_8 (fun g1 => (absurd (show (1 : Int32) ≤ 0 from g1) (by decide))) (fun _ => (kb_145_36 (q0 g0))))) (fun g0 => (kb_145_12 (c_87 (kb_145_18 (fun g1 => (kb_145_21 (fun g2 => (absurd (show (2 : Int32) ≤ 0 from g2) (by decide))) (fun _ => (kb_145_36 (q1 g0 g1))))) (fun g1 => (kb_145_25 (fun _ => (kb_145_38 (q2 g0 g1))) (fun g2 => (absurd (show ¬ ((0 : Int32) ≤ 0) from g2) (by decide))))))))))
/-- HouseDeskModel.house, from 42 -/
theorem ks_145_42 {d : Nat} {Q : mm_Q} {x1 x2 x3 : Int32} {σ : mm_S} (H1 : ¬ ((9 : Int32) ≤ x3) → vp_in x3 9) (q0 : (9 : Int32) ≤ x3 → x1 = 0 → Q (some (.int (σ 10 32))) σ) (q1 : (9 : Int32) ≤ x3 → ¬ (x1 = 0) → x1 = (1 : Int32) → Q (some (.int (σ 10 33))) σ) (q2 : (9 : Int32) ≤ x3 → ¬ (x1 = 0) → ¬ (x1 = (1 : Int32)) → Q (some (.int (((σ 10 32) * (σ 10 33)) - x2))) σ) (q3 : ¬ ((9 : Int32) ≤ x3) → (σ 75 x3.toNatClampNeg) = 0 → mw d mt_145 Q 42 [some (.ref 10), some (.int x1), some (.int (x2 + (0 : Int32))), some (.int (x3 + 1))] [] σ) (q4 : ¬ ((9 : Int32) ≤ x3) → ¬ ((σ 75 x3.toNatClampNeg) = 0) → mw d mt_145 Q 42 [some (.ref 10), some (.int x1), some (.int (x2 + ((σ 78 x3.toNatClampNeg) * (σ 79 x3.toNatClampNeg)))), some (.int (x3 + 1))] [] σ) : mw d mt_145 Q 42 [some (.ref 10), some (.int x1), some (.int x2), some (.int x3)] [] σ := (kb_145_42 (fun g0 => (kb_145_83 (fun g1 => (kb_145_87 (q0 g0 g1))) (fun g1 => (kb_145_94 (fun g2 => (kb_145_99 (q1 g0 g1 g2))) (fun g2 => (kb_145_106 (q2 g0 g1 g2))))))) (fun g0 => (kb_145_48 (H1 g0) (fun g1 => (kb_145_74 (q3 g0 g1))) (fun g1 => (kb_145_58 (H1 g0) (H1 g0) (q4 g0 g1))))))
/-- HouseDeskModel.count -/
theorem c_150 {d : Nat} {Q : mm_Q} {x1 : Int32} {σ : mm_S} (q0 : x1 = 0 → Q (some (.int (nI (rc (mm_up σ 10 0 (0 : Int32)) 9)))) (mm_up σ 10 0 (0 : Int32))) (q1 : ¬ (x1 = 0) → x1 = (1 : Int32) → Q (some (.int (σ 10 6))) (mm_up σ 10 0 (0 : Int32))) (q2 : ¬ (x1 = 0) → ¬ (x1 = (1 : Int32)) → x1 = (2 : Int32) → Q (some (.int (σ 10 15))) (mm_up σ 10 0 (0 : Int32))) (q3 : ¬ (x1 = 0) → ¬ (x1 = (1 : Int32)) → ¬ (x1 = (2 : Int32)) → x1 = (3 : Int32) → Q (some (.int (σ 10 16))) (mm_up σ 10 0 (0 : Int32))) (q4 : ¬ (x1 = 0) → ¬ (x1 = (1 : Int32)) → ¬ (x1 = (2 : Int32)) → ¬ (x1 = (3 : Int32)) → x1 = (4 : Int32) → (σ 10 12) = 0 → Q (some (.int (0 : Int32))) (mm_up σ 10 0 (0 : Int32))) (q5 : ¬ (x1 = 0) → ¬ (x1 = (1 : Int32)) → ¬ (x1 = (2 : Int32)) → ¬ (x1 = (3 : Int32)) → x1 = (4 : Int32) → ¬ ((σ 10 12) = 0) → Q (some (.int (1 : Int32))) (mm_up σ 10 0 (0 : Int32))) (q6 : ¬ (x1 = 0) → ¬ (x1 = (1 : Int32)) → ¬ (x1 = (2 : Int32)) → ¬ (x1 = (3 : Int32)) → ¬ (x1 = (4 : Int32)) → Q (some (.int (-1 : Int32))) (mm_up σ 10 0 (0 : Int32))) : mD (d + 2) 150 [.ref 10, .int x1] σ Q := ke_150 (kb_150_0 (fun g0 => (kb_150_9 (c_108 (kb_150_13 (q0 g0))))) (fun g0 => (kb_150_14 (fun g1 => (kb_150_19 (q1 g0 g1))) (fun g1 => (kb_150_24 (fun g2 => (kb_150_29 (q2 g0 g1 g2))) (fun g2 => (kb_150_34 (fun g3 => (kb_150_39 (q3 g0 g1 g2 g3))) (fun g3 => (kb_150_44 (fun g4 => (kb_150_49 (fun g5 => (kb_150_60 (q4 g0 g1 g2 g3 g4 g5))) (fun g5 => (kb_150_56 (q5 g0 g1 g2 g3 g4 g5))))) (fun g4 => (kb_150_64 (q6 g0 g1 g2 g3 g4))))))))))))
/-- HouseDeskModel.wallOf -/
theorem c_146 {d : Nat} {Q : mm_Q} {x1 x2 : Int32} {σ : mm_S} (H1 : ¬ ((σ 10 12) = 0) → ¬ ((mi x1 (0 : Int32) ((σ 10 6) - (1 : Int32))) = 0) → ¬ ((mi x2 (0 : Int32) (2 : Int32)) = 0) → x2 = 0 → vp_in x1 21) (H2 : ¬ ((σ 10 12) = 0) → ¬ ((mi x1 (0 : Int32) ((σ 10 6) - (1 : Int32))) = 0) → ¬ ((mi x2 (0 : Int32) (2 : Int32)) = 0) → ¬ (x2 = 0) → vp_in x1 21) (H3 : ¬ ((σ 10 12) = 0) → ¬ ((mi x1 (0 : Int32) ((σ 10 6) - (1 : Int32))) = 0) → ¬ ((mi x2 (0 : Int32) (2 : Int32)) = 0) → ¬ (x2 = 0) → (σ 95 x1.toNatClampNeg) = 0 → vp_in x1 21) (H4 : ¬ ((σ 10 12) = 0) → ¬ ((mi x1 (0 : Int32) ((σ 10 6) - (1 : Int32))) = 0) → ¬ ((mi x2 (0 : Int32) (2 : Int32)) = 0) → ¬ (x2 = 0) → (σ 95 x1.toNatClampNeg) = 0 → x2 = (1 : Int32) → vp_in (f_135 (σ 80 x1.toNatClampNeg) (1 : Int32)) 18) (H5 : ¬ ((σ 10 12) = 0) → ¬ ((mi x1 (0 : Int32) ((σ 10 6) - (1 : Int32))) = 0) → ¬ ((mi x2 (0 : Int32) (2 : Int32)) = 0) → ¬ (x2 = 0) → (σ 95 x1.toNatClampNeg) = 0 → x2 = (1 : Int32) → vp_in (f_135 (σ 81 x1.toNatClampNeg) (1 : Int32)) 18) (H6 : ¬ ((σ 10 12) = 0) → ¬ ((mi x1 (0 : Int32) ((σ 10 6) - (1 : Int32))) = 0) → ¬ ((mi x2 (0 : Int32) (2 : Int32)) = 0) → ¬ (x2 = 0) → (σ 95 x1.toNatClampNeg) = 0 → x2 = (1 : Int32) → (σ 96 (f_135 (σ 80 x1.toNatClampNeg) (1 : Int32)).toNatClampNeg) ≤ (σ 96 (f_135 (σ 81 x1.toNatClampNeg) (1 : Int32)).toNatClampNeg) → vp_in (f_135 (σ 81 x1.toNatClampNeg) (1 : Int32)) 18) (H7 : ¬ ((σ 10 12) = 0) → ¬ ((mi x1 (0 : Int32) ((σ 10 6) - (1 : Int32))) = 0) → ¬ ((mi x2 (0 : Int32) (2 : Int32)) = 0) → ¬ (x2 = 0) → (σ 95 x1.toNatClampNeg) = 0 → x2 = (1 : Int32) → ¬ ((σ 96 (f_135 (σ 80 x1.toNatClampNeg) (1 : Int32)).toNatClampNeg) ≤ (σ 96 (f_135 (σ 81 x1.toNatClampNeg) (1 : Int32)).toNatClampNeg)) → vp_in (f_135 (σ 80 x1.toNatClampNeg) (1 : Int32)) 18) (H8 : ¬ ((σ 10 12) = 0) → ¬ ((mi x1 (0 : Int32) ((σ 10 6) - (1 : Int32))) = 0) → ¬ ((mi x2 (0 : Int32) (2 : Int32)) = 0) → ¬ (x2 = 0) → (σ 95 x1.toNatClampNeg) = 0 → ¬ (x2 = (1 : Int32)) → vp_in (f_135 (σ 80 x1.toNatClampNeg) (1 : Int32)) 18) (H9 : ¬ ((σ 10 12) = 0) → ¬ ((mi x1 (0 : Int32) ((σ 10 6) - (1 : Int32))) = 0) → ¬ ((mi x2 (0 : Int32) (2 : Int32)) = 0) → ¬ (x2 = 0) → (σ 95 x1.toNatClampNeg) = 0 → ¬ (x2 = (1 : Int32)) → vp_in (f_135 (σ 81 x1.toNatClampNeg) (1 : Int32)) 18) (H10 : ¬ ((σ 10 12) = 0) → ¬ ((mi x1 (0 : Int32) ((σ 10 6) - (1 : Int32))) = 0) → ¬ ((mi x2 (0 : Int32) (2 : Int32)) = 0) → ¬ (x2 = 0) → (σ 95 x1.toNatClampNeg) = 0 → ¬ (x2 = (1 : Int32)) → (σ 97 (f_135 (σ 81 x1.toNatClampNeg) (1 : Int32)).toNatClampNeg) ≤ (σ 97 (f_135 (σ 80 x1.toNatClampNeg) (1 : Int32)).toNatClampNeg) → vp_in (f_135 (σ 81 x1.toNatClampNeg) (1 : Int32)) 18) (H11 : ¬ ((σ 10 12) = 0) → ¬ ((mi x1 (0 : Int32) ((σ 10 6) - (1 : Int32))) = 0) → ¬ ((mi x2 (0 : Int32) (2 : Int32)) = 0) → ¬ (x2 = 0) → (σ 95 x1.toNatClampNeg) = 0 → ¬ (x2 = (1 : Int32)) → ¬ ((σ 97 (f_135 (σ 81 x1.toNatClampNeg) (1 : Int32)).toNatClampNeg) ≤ (σ 97 (f_135 (σ 80 x1.toNatClampNeg) (1 : Int32)).toNatClampNeg)) → vp_in (f_135 (σ 80 x1.toNatClampNeg) (1 : Int32)) 18) (H12 : ¬ ((σ 10 12) = 0) → ¬ ((mi x1 (0 : Int32) ((σ 10 6) - (1 : Int32))) = 0) → ¬ ((mi x2 (0 : Int32) (2 : Int32)) = 0) → ¬ (x2 = 0) → ¬ ((σ 95 x1.toNatClampNeg) = 0) → vp_in x1 21) (H13 : ¬ ((σ 10 12) = 0) → ¬ ((mi x1 (0 : Int32) ((σ 10 6) - (1 : Int32))) = 0) → ¬ ((mi x2 (0 : Int32) (2 : Int32)) = 0) → ¬ (x2 = 0) → ¬ ((σ 95 x1.toNatClampNeg) = 0) → (σ 95 x1.toNatClampNeg) = (1 : Int32) → vp_in x1 21) (H14 : ¬ ((σ 10 12) = 0) → ¬ ((mi x1 (0 : Int32) ((σ 10 6) - (1 : Int32))) = 0) → ¬ ((mi x2 (0 : Int32) (2 : Int32)) = 0) → ¬ (x2 = 0) → ¬ ((σ 95 x1.toNatClampNeg) = 0) → (σ 95 x1.toNatClampNeg) = (1 : Int32) → x2 = (1 : Int32) → vp_in (f_135 (σ 80 x1.toNatClampNeg) (1 : Int32)) 18) (H15 : ¬ ((σ 10 12) = 0) → ¬ ((mi x1 (0 : Int32) ((σ 10 6) - (1 : Int32))) = 0) → ¬ ((mi x2 (0 : Int32) (2 : Int32)) = 0) → ¬ (x2 = 0) → ¬ ((σ 95 x1.toNatClampNeg) = 0) → (σ 95 x1.toNatClampNeg) = (1 : Int32) → x2 = (1 : Int32) → vp_in (f_135 (σ 81 x1.toNatClampNeg) (1 : Int32)) 18) (H16 : ¬ ((σ 10 12) = 0) → ¬ ((mi x1 (0 : Int32) ((σ 10 6) - (1 : Int32))) = 0) → ¬ ((mi x2 (0 : Int32) (2 : Int32)) = 0) → ¬ (x2 = 0) → ¬ ((σ 95 x1.toNatClampNeg) = 0) → (σ 95 x1.toNatClampNeg) = (1 : Int32) → x2 = (1 : Int32) → (σ 96 (f_135 (σ 80 x1.toNatClampNeg) (1 : Int32)).toNatClampNeg) ≤ (σ 96 (f_135 (σ 81 x1.toNatClampNeg) (1 : Int32)).toNatClampNeg) → vp_in (f_135 (σ 81 x1.toNatClampNeg) (1 : Int32)) 18) (H17 : ¬ ((σ 10 12) = 0) → ¬ ((mi x1 (0 : Int32) ((σ 10 6) - (1 : Int32))) = 0) → ¬ ((mi x2 (0 : Int32) (2 : Int32)) = 0) → ¬ (x2 = 0) → ¬ ((σ 95 x1.toNatClampNeg) = 0) → (σ 95 x1.toNatClampNeg) = (1 : Int32) → x2 = (1 : Int32) → ¬ ((σ 96 (f_135 (σ 80 x1.toNatClampNeg) (1 : Int32)).toNatClampNeg) ≤ (σ 96 (f_135 (σ 81 x1.toNatClampNeg) (1 : Int32)).toNatClampNeg)) → vp_in (f_135 (σ 80 x1.toNatClampNeg) (1 : Int32)) 18) (H18 : ¬ ((σ 10 12) = 0) → ¬ ((mi x1 (0 : Int32) ((σ 10 6) - (1 : Int32))) = 0) → ¬ ((mi x2 (0 : Int32) (2 : Int32)) = 0) → ¬ (x2 = 0) → ¬ ((σ 95 x1.toNatClampNeg) = 0) → (σ 95 x1.toNatClampNeg) = (1 : Int32) → ¬ (x2 = (1 : Int32)) → vp_in (f_135 (σ 80 x1.toNatClampNeg) (1 : Int32)) 18) (H19 : ¬ ((σ 10 12) = 0) → ¬ ((mi x1 (0 : Int32) ((σ 10 6) - (1 : Int32))) = 0) → ¬ ((mi x2 (0 : Int32) (2 : Int32)) = 0) → ¬ (x2 = 0) → ¬ ((σ 95 x1.toNatClampNeg) = 0) → (σ 95 x1.toNatClampNeg) = (1 : Int32) → ¬ (x2 = (1 : Int32)) → vp_in (f_135 (σ 81 x1.toNatClampNeg) (1 : Int32)) 18) (H20 : ¬ ((σ 10 12) = 0) → ¬ ((mi x1 (0 : Int32) ((σ 10 6) - (1 : Int32))) = 0) → ¬ ((mi x2 (0 : Int32) (2 : Int32)) = 0) → ¬ (x2 = 0) → ¬ ((σ 95 x1.toNatClampNeg) = 0) → (σ 95 x1.toNatClampNeg) = (1 : Int32) → ¬ (x2 = (1 : Int32)) → (σ 97 (f_135 (σ 81 x1.toNatClampNeg) (1 : Int32)).toNatClampNeg) ≤ (σ 97 (f_135 (σ 80 x1.toNatClampNeg) (1 : Int32)).toNatClampNeg) → vp_in (f_135 (σ 81 x1.toNatClampNeg) (1 : Int32)) 18) (H21 : ¬ ((σ 10 12) = 0) → ¬ ((mi x1 (0 : Int32) ((σ 10 6) - (1 : Int32))) = 0) → ¬ ((mi x2 (0 : Int32) (2 : Int32)) = 0) → ¬ (x2 = 0) → ¬ ((σ 95 x1.toNatClampNeg) = 0) → (σ 95 x1.toNatClampNeg) = (1 : Int32) → ¬ (x2 = (1 : Int32)) → ¬ ((σ 97 (f_135 (σ 81 x1.toNatClampNeg) (1 : Int32)).toNatClampNeg) ≤ (σ 97 (f_135 (σ 80 x1.toNatClampNeg) (1 : Int32)).toNatClampNeg)) → vp_in (f_135 (σ 80 x1.toNatClampNeg) (1 : Int32)) 18) (H22 : ¬ ((σ 10 12) = 0) → ¬ ((mi x1 (0 : Int32) ((σ 10 6) - (1 : Int32))) = 0) → ¬ ((mi x2 (0 : Int32) (2 : Int32)) = 0) → ¬ (x2 = 0) → ¬ ((σ 95 x1.toNatClampNeg) = 0) → ¬ ((σ 95 x1.toNatClampNeg) = (1 : Int32)) → vp_in x1 21) (H23 : ¬ ((σ 10 12) = 0) → ¬ ((mi x1 (0 : Int32) ((σ 10 6) - (1 : Int32))) = 0) → ¬ ((mi x2 (0 : Int32) (2 : Int32)) = 0) → ¬ (x2 = 0) → ¬ ((σ 95 x1.toNatClampNeg) = 0) → ¬ ((σ 95 x1.toNatClampNeg) = (1 : Int32)) → x2 = (1 : Int32) → vp_in (f_135 (σ 80 x1.toNatClampNeg) (0 : Int32)) 18) (H24 : ¬ ((σ 10 12) = 0) → ¬ ((mi x1 (0 : Int32) ((σ 10 6) - (1 : Int32))) = 0) → ¬ ((mi x2 (0 : Int32) (2 : Int32)) = 0) → ¬ (x2 = 0) → ¬ ((σ 95 x1.toNatClampNeg) = 0) → ¬ ((σ 95 x1.toNatClampNeg) = (1 : Int32)) → x2 = (1 : Int32) → vp_in (f_135 (σ 81 x1.toNatClampNeg) (0 : Int32)) 18) (H25 : ¬ ((σ 10 12) = 0) → ¬ ((mi x1 (0 : Int32) ((σ 10 6) - (1 : Int32))) = 0) → ¬ ((mi x2 (0 : Int32) (2 : Int32)) = 0) → ¬ (x2 = 0) → ¬ ((σ 95 x1.toNatClampNeg) = 0) → ¬ ((σ 95 x1.toNatClampNeg) = (1 : Int32)) → x2 = (1 : Int32) → (σ 96 (f_135 (σ 80 x1.toNatClampNeg) (0 : Int32)).toNatClampNeg) ≤ (σ 96 (f_135 (σ 81 x1.toNatClampNeg) (0 : Int32)).toNatClampNeg) → vp_in (f_135 (σ 81 x1.toNatClampNeg) (0 : Int32)) 18) (H26 : ¬ ((σ 10 12) = 0) → ¬ ((mi x1 (0 : Int32) ((σ 10 6) - (1 : Int32))) = 0) → ¬ ((mi x2 (0 : Int32) (2 : Int32)) = 0) → ¬ (x2 = 0) → ¬ ((σ 95 x1.toNatClampNeg) = 0) → ¬ ((σ 95 x1.toNatClampNeg) = (1 : Int32)) → x2 = (1 : Int32) → ¬ ((σ 96 (f_135 (σ 80 x1.toNatClampNeg) (0 : Int32)).toNatClampNeg) ≤ (σ 96 (f_135 (σ 81 x1.toNatClampNeg) (0 : Int32)).toNatClampNeg)) → vp_in (f_135 (σ 80 x1.toNatClampNeg) (0 : Int32)) 18) (H27 : ¬ ((σ 10 12) = 0) → ¬ ((mi x1 (0 : Int32) ((σ 10 6) - (1 : Int32))) = 0) → ¬ ((mi x2 (0 : Int32) (2 : Int32)) = 0) → ¬ (x2 = 0) → ¬ ((σ 95 x1.toNatClampNeg) = 0) → ¬ ((σ 95 x1.toNatClampNeg) = (1 : Int32)) → ¬ (x2 = (1 : Int32)) → vp_in (f_135 (σ 80 x1.toNatClampNeg) (0 : Int32)) 18) (H28 : ¬ ((σ 10 12) = 0) → ¬ ((mi x1 (0 : Int32) ((σ 10 6) - (1 : Int32))) = 0) → ¬ ((mi x2 (0 : Int32) (2 : Int32)) = 0) → ¬ (x2 = 0) → ¬ ((σ 95 x1.toNatClampNeg) = 0) → ¬ ((σ 95 x1.toNatClampNeg) = (1 : Int32)) → ¬ (x2 = (1 : Int32)) → vp_in (f_135 (σ 81 x1.toNatClampNeg) (0 : Int32)) 18) (H29 : ¬ ((σ 10 12) = 0) → ¬ ((mi x1 (0 : Int32) ((σ 10 6) - (1 : Int32))) = 0) → ¬ ((mi x2 (0 : Int32) (2 : Int32)) = 0) → ¬ (x2 = 0) → ¬ ((σ 95 x1.toNatClampNeg) = 0) → ¬ ((σ 95 x1.toNatClampNeg) = (1 : Int32)) → ¬ (x2 = (1 : Int32)) → (σ 97 (f_135 (σ 81 x1.toNatClampNeg) (0 : Int32)).toNatClampNeg) ≤ (σ 97 (f_135 (σ 80 x1.toNatClampNeg) (0 : Int32)).toNatClampNeg) → vp_in (f_135 (σ 81 x1.toNatClampNeg) (0 : Int32)) 18) (H30 : ¬ ((σ 10 12) = 0) → ¬ ((mi x1 (0 : Int32) ((σ 10 6) - (1 : Int32))) = 0) → ¬ ((mi x2 (0 : Int32) (2 : Int32)) = 0) → ¬ (x2 = 0) → ¬ ((σ 95 x1.toNatClampNeg) = 0) → ¬ ((σ 95 x1.toNatClampNeg) = (1 : Int32)) → ¬ (x2 = (1 : Int32)) → ¬ ((σ 97 (f_135 (σ 81 x1.toNatClampNeg) (0 : Int32)).toNatClampNeg) ≤ (σ 97 (f_135 (σ 80 x1.toNatClampNeg) (0 : Int32)).toNatClampNeg)) → vp_in (f_135 (σ 80 x1.toNatClampNeg) (0 : Int32)) 18) (q0 : (σ 10 12) = 0 → Q (some (.int (0 : Int32))) (mm_up σ 10 0 (1 : Int32))) (q1 : ¬ ((σ 10 12) = 0) → (mi x1 (0 : Int32) ((σ 10 6) - (1 : Int32))) = 0 → Q (some (.int (0 : Int32))) (mm_up σ 10 0 (2 : Int32))) (q2 : ¬ ((σ 10 12) = 0) → ¬ ((mi x1 (0 : Int32) ((σ 10 6) - (1 : Int32))) = 0) → (mi x2 (0 : Int32) (2 : Int32)) = 0 → Q (some (.int (0 : Int32))) (mm_up σ 10 0 (2 : Int32))) (q3 : ¬ ((σ 10 12) = 0) → ¬ ((mi x1 (0 : Int32) ((σ 10 6) - (1 : Int32))) = 0) → ¬ ((mi x2 (0 : Int32) (2 : Int32)) = 0) → x2 = 0 → Q (some (.int (σ 95 x1.toNatClampNeg))) (mm_up σ 10 0 (0 : Int32))) (q4 : ¬ ((σ 10 12) = 0) → ¬ ((mi x1 (0 : Int32) ((σ 10 6) - (1 : Int32))) = 0) → ¬ ((mi x2 (0 : Int32) (2 : Int32)) = 0) → ¬ (x2 = 0) → (σ 95 x1.toNatClampNeg) = 0 → x2 = (1 : Int32) → (σ 96 (f_135 (σ 80 x1.toNatClampNeg) (1 : Int32)).toNatClampNeg) ≤ (σ 96 (f_135 (σ 81 x1.toNatClampNeg) (1 : Int32)).toNatClampNeg) → Q (some (.int (σ 96 (f_135 (σ 81 x1.toNatClampNeg) (1 : Int32)).toNatClampNeg))) (mm_up σ 10 0 (0 : Int32))) (q5 : ¬ ((σ 10 12) = 0) → ¬ ((mi x1 (0 : Int32) ((σ 10 6) - (1 : Int32))) = 0) → ¬ ((mi x2 (0 : Int32) (2 : Int32)) = 0) → ¬ (x2 = 0) → (σ 95 x1.toNatClampNeg) = 0 → x2 = (1 : Int32) → ¬ ((σ 96 (f_135 (σ 80 x1.toNatClampNeg) (1 : Int32)).toNatClampNeg) ≤ (σ 96 (f_135 (σ 81 x1.toNatClampNeg) (1 : Int32)).toNatClampNeg)) → Q (some (.int (σ 96 (f_135 (σ 80 x1.toNatClampNeg) (1 : Int32)).toNatClampNeg))) (mm_up σ 10 0 (0 : Int32))) (q6 : ¬ ((σ 10 12) = 0) → ¬ ((mi x1 (0 : Int32) ((σ 10 6) - (1 : Int32))) = 0) → ¬ ((mi x2 (0 : Int32) (2 : Int32)) = 0) → ¬ (x2 = 0) → (σ 95 x1.toNatClampNeg) = 0 → ¬ (x2 = (1 : Int32)) → (σ 97 (f_135 (σ 81 x1.toNatClampNeg) (1 : Int32)).toNatClampNeg) ≤ (σ 97 (f_135 (σ 80 x1.toNatClampNeg) (1 : Int32)).toNatClampNeg) → Q (some (.int (σ 97 (f_135 (σ 81 x1.toNatClampNeg) (1 : Int32)).toNatClampNeg))) (mm_up σ 10 0 (0 : Int32))) (q7 : ¬ ((σ 10 12) = 0) → ¬ ((mi x1 (0 : Int32) ((σ 10 6) - (1 : Int32))) = 0) → ¬ ((mi x2 (0 : Int32) (2 : Int32)) = 0) → ¬ (x2 = 0) → (σ 95 x1.toNatClampNeg) = 0 → ¬ (x2 = (1 : Int32)) → ¬ ((σ 97 (f_135 (σ 81 x1.toNatClampNeg) (1 : Int32)).toNatClampNeg) ≤ (σ 97 (f_135 (σ 80 x1.toNatClampNeg) (1 : Int32)).toNatClampNeg)) → Q (some (.int (σ 97 (f_135 (σ 80 x1.toNatClampNeg) (1 : Int32)).toNatClampNeg))) (mm_up σ 10 0 (0 : Int32))) (q8 : ¬ ((σ 10 12) = 0) → ¬ ((mi x1 (0 : Int32) ((σ 10 6) - (1 : Int32))) = 0) → ¬ ((mi x2 (0 : Int32) (2 : Int32)) = 0) → ¬ (x2 = 0) → ¬ ((σ 95 x1.toNatClampNeg) = 0) → (σ 95 x1.toNatClampNeg) = (1 : Int32) → x2 = (1 : Int32) → (σ 96 (f_135 (σ 80 x1.toNatClampNeg) (1 : Int32)).toNatClampNeg) ≤ (σ 96 (f_135 (σ 81 x1.toNatClampNeg) (1 : Int32)).toNatClampNeg) → Q (some (.int (σ 96 (f_135 (σ 81 x1.toNatClampNeg) (1 : Int32)).toNatClampNeg))) (mm_up σ 10 0 (0 : Int32))) (q9 : ¬ ((σ 10 12) = 0) → ¬ ((mi x1 (0 : Int32) ((σ 10 6) - (1 : Int32))) = 0) → ¬ ((mi x2 (0 : Int32) (2 : Int32)) = 0) → ¬ (x2 = 0) → ¬ ((σ 95 x1.toNatClampNeg) = 0) → (σ 95 x1.toNatClampNeg) = (1 : Int32) → x2 = (1 : Int32) → ¬ ((σ 96 (f_135 (σ 80 x1.toNatClampNeg) (1 : Int32)).toNatClampNeg) ≤ (σ 96 (f_135 (σ 81 x1.toNatClampNeg) (1 : Int32)).toNatClampNeg)) → Q (some (.int (σ 96 (f_135 (σ 80 x1.toNatClampNeg) (1 : Int32)).toNatClampNeg))) (mm_up σ 10 0 (0 : Int32))) (q10 : ¬ ((σ 10 12) = 0) → ¬ ((mi x1 (0 : Int32) ((σ 10 6) - (1 : Int32))) = 0) → ¬ ((mi x2 (0 : Int32) (2 : Int32)) = 0) → ¬ (x2 = 0) → ¬ ((σ 95 x1.toNatClampNeg) = 0) → (σ 95 x1.toNatClampNeg) = (1 : Int32) → ¬ (x2 = (1 : Int32)) → (σ 97 (f_135 (σ 81 x1.toNatClampNeg) (1 : Int32)).toNatClampNeg) ≤ (σ 97 (f_135 (σ 80 x1.toNatClampNeg) (1 : Int32)).toNatClampNeg) → Q (some (.int (σ 97 (f_135 (σ 81 x1.toNatClampNeg) (1 : Int32)).toNatClampNeg))) (mm_up σ 10 0 (0 : Int32))) (q11 : ¬ ((σ 10 12) = 0) → ¬ ((mi x1 (0 : Int32) ((σ 10 6) - (1 : Int32))) = 0) → ¬ ((mi x2 (0 : Int32) (2 : Int32)) = 0) → ¬ (x2 = 0) → ¬ ((σ 95 x1.toNatClampNeg) = 0) → (σ 95 x1.toNatClampNeg) = (1 : Int32) → ¬ (x2 = (1 : Int32)) → ¬ ((σ 97 (f_135 (σ 81 x1.toNatClampNeg) (1 : Int32)).toNatClampNeg) ≤ (σ 97 (f_135 (σ 80 x1.toNatClampNeg) (1 : Int32)).toNatClampNeg)) → Q (some (.int (σ 97 (f_135 (σ 80 x1.toNatClampNeg) (1 : Int32)).toNatClampNeg))) (mm_up σ 10 0 (0 : Int32))) (q12 : ¬ ((σ 10 12) = 0) → ¬ ((mi x1 (0 : Int32) ((σ 10 6) - (1 : Int32))) = 0) → ¬ ((mi x2 (0 : Int32) (2 : Int32)) = 0) → ¬ (x2 = 0) → ¬ ((σ 95 x1.toNatClampNeg) = 0) → ¬ ((σ 95 x1.toNatClampNeg) = (1 : Int32)) → x2 = (1 : Int32) → (σ 96 (f_135 (σ 80 x1.toNatClampNeg) (0 : Int32)).toNatClampNeg) ≤ (σ 96 (f_135 (σ 81 x1.toNatClampNeg) (0 : Int32)).toNatClampNeg) → Q (some (.int (σ 96 (f_135 (σ 81 x1.toNatClampNeg) (0 : Int32)).toNatClampNeg))) (mm_up σ 10 0 (0 : Int32))) (q13 : ¬ ((σ 10 12) = 0) → ¬ ((mi x1 (0 : Int32) ((σ 10 6) - (1 : Int32))) = 0) → ¬ ((mi x2 (0 : Int32) (2 : Int32)) = 0) → ¬ (x2 = 0) → ¬ ((σ 95 x1.toNatClampNeg) = 0) → ¬ ((σ 95 x1.toNatClampNeg) = (1 : Int32)) → x2 = (1 : Int32) → ¬ ((σ 96 (f_135 (σ 80 x1.toNatClampNeg) (0 : Int32)).toNatClampNeg) ≤ (σ 96 (f_135 (σ 81 x1.toNatClampNeg) (0 : Int32)).toNatClampNeg)) → Q (some (.int (σ 96 (f_135 (σ 80 x1.toNatClampNeg) (0 : Int32)).toNatClampNeg))) (mm_up σ 10 0 (0 : Int32))) (q14 : ¬ ((σ 10 12) = 0) → ¬ ((mi x1 (0 : Int32) ((σ 10 6) - (1 : Int32))) = 0) → ¬ ((mi x2 (0 : Int32) (2 : Int32)) = 0) → ¬ (x2 = 0) → ¬ ((σ 95 x1.toNatClampNeg) = 0) → ¬ ((σ 95 x1.toNatClampNeg) = (1 : Int32)) → ¬ (x2 = (1 : Int32)) → (σ 97 (f_135 (σ 81 x1.toNatClampNeg) (0 : Int32)).toNatClampNeg) ≤ (σ 97 (f_135 (σ 80 x1.toNatClampNeg) (0 : Int32)).toNatClampNeg) → Q (some (.int (σ 97 (f_135 (σ 81 x1.toNatClampNeg) (0 : Int32)).toNatClampNeg))) (mm_up σ 10 0 (0 : Int32))) (q15 : ¬ ((σ 10 12) = 0) → ¬ ((mi x1 (0 : Int32) ((σ 10 6) - (1 : Int32))) = 0) → ¬ ((mi x2 (0 : Int32) (2 : Int32)) = 0) → ¬ (x2 = 0) → ¬ ((σ 95 x1.toNatClampNeg) = 0) → ¬ ((σ 95 x1.toNatClampNeg) = (1 : Int32)) → ¬ (x2 = (1 : Int32)) → ¬ ((σ 97 (f_135 (σ 81 x1.toNatClampNeg) (0 : Int32)).toNatClampNeg) ≤ (σ 97 (f_135 (σ 80 x1.toNatClampNeg) (0 : Int32)).toNatClampNeg)) → Q (some (.int (σ 97 (f_135 (σ 80 x1.toNatClampNeg) (0 : Int32)).toNatClampNeg))) (mm_up σ 10 0 (0 : Int32))) : mD (d + 2) 146 [.ref 10, .int x1, .int x2] σ Q := ke_146 (kb_146_0 (fun g0 => (kb_146_8 (fun g1 => (absurd (show (1 : Int32) ≤ 0 from g1) (by decide))) (fun _ => (kb_146_50 (q0 g0))))) (fun g0 => (kb_146_12 (c_87 (kb_146_23 (fun g1 => (kb_146_35 (fun g2 => (absurd (show (2 : Int32) ≤ 0 from g2) (by decide))) (fun _ => (kb_146_50 (q1 g0 g1))))) (fun g1 => (kb_146_26 (c_87 (kb_146_32 (fun g2 => (kb_146_35 (fun g3 => (absurd (show (2 : Int32) ≤ 0 from g3) (by decide))) (fun _ => (kb_146_50 (q2 g0 g1 g2))))) (fun g2 => (kb_146_39 (fun _ => (kb_146_52 (fun g3 => (kb_146_56 (H1 g0 g1 g2 g3) (q3 g0 g1 g2 g3))) (fun g3 => (kb_146_63 (H2 g0 g1 g2 g3) (fun g4 => (kb_146_82 (H3 g0 g1 g2 g3 g4) (c_135 (kb_146_98 (H3 g0 g1 g2 g3 g4) (c_135 (kb_146_110 (fun g5 => (kb_146_117 (H4 g0 g1 g2 g3 g4 g5) (H5 g0 g1 g2 g3 g4 g5) (fun g6 => (kb_146_144 (H6 g0 g1 g2 g3 g4 g5 g6) (q4 g0 g1 g2 g3 g4 g5 g6))) (fun g6 => (kb_146_134 (H7 g0 g1 g2 g3 g4 g5 g6) (q5 g0 g1 g2 g3 g4 g5 g6))))) (fun g5 => (kb_146_152 (H8 g0 g1 g2 g3 g4 g5) (H9 g0 g1 g2 g3 g4 g5) (fun g6 => (kb_146_179 (H10 g0 g1 g2 g3 g4 g5 g6) (q6 g0 g1 g2 g3 g4 g5 g6))) (fun g6 => (kb_146_169 (H11 g0 g1 g2 g3 g4 g5 g6) (q7 g0 g1 g2 g3 g4 g5 g6))))))))))) (fun g4 => (kb_146_72 (H12 g0 g1 g2 g3 g4) (fun g5 => (kb_146_82 (H13 g0 g1 g2 g3 g4 g5) (c_135 (kb_146_98 (H13 g0 g1 g2 g3 g4 g5) (c_135 (kb_146_110 (fun g6 => (kb_146_117 (H14 g0 g1 g2 g3 g4 g5 g6) (H15 g0 g1 g2 g3 g4 g5 g6) (fun g7 => (kb_146_144 (H16 g0 g1 g2 g3 g4 g5 g6 g7) (q8 g0 g1 g2 g3 g4 g5 g6 g7))) (fun g7 => (kb_146_134 (H17 g0 g1 g2 g3 g4 g5 g6 g7) (q9 g0 g1 g2 g3 g4 g5 g6 g7))))) (fun g6 => (kb_146_152 (H18 g0 g1 g2 g3 g4 g5 g6) (H19 g0 g1 g2 g3 g4 g5 g6) (fun g7 => (kb_146_179 (H20 g0 g1 g2 g3 g4 g5 g6 g7) (q10 g0 g1 g2 g3 g4 g5 g6 g7))) (fun g7 => (kb_146_169 (H21 g0 g1 g2 g3 g4 g5 g6 g7) (q11 g0 g1 g2 g3 g4 g5 g6 g7))))))))))) (fun g5 => (kb_146_86 (H22 g0 g1 g2 g3 g4 g5) (c_135 (kb_146_98 (H22 g0 g1 g2 g3 g4 g5) (c_135 (kb_146_110 (fun g6 => (kb_146_117 (H23 g0 g1 g2 g3 g4 g5 g6) (H24 g0 g1 g2 g3 g4 g5 g6) (fun g7 => (kb_146_144 (H25 g0 g1 g2 g3 g4 g5 g6 g7) (q12 g0 g1 g2 g3 g4 g5 g6 g7))) (fun g7 => (kb_146_134 (H26 g0 g1 g2 g3 g4 g5 g6 g7) (q13 g0 g1 g2 g3 g4 g5 g6 g7))))) (fun g6 => (kb_146_152 (H27 g0 g1 g2 g3 g4 g5 g6) (H28 g0 g1 g2 g3 g4 g5 g6) (fun g7 => (kb_146_179 (H29 g0 g1 g2 g3 g4 g5 g6 g7) (q14 g0 g1 g2 g3 g4 g5 g6 g7))) (fun g7 => (kb_146_169 (H30 g0 g1 g2 g3 g4 g5 g6 g7) (q15 g0 g1 g2 g3 g4 g5 g6 g7))))))))))))))))) (fun g3 => (absurd (show ¬ ((0 : Int32) ≤ 0) from g3) (by decide))))))))))))))
/-- HouseDeskModel.side -/
theorem c_147 {d : Nat} {Q : mm_Q} {x1 x2 : Int32} {σ : mm_S} (H1 : ¬ ((σ 10 12) = 0) → ¬ ((mdr σ x1) = 0) → ¬ ((mi x2 (0 : Int32) (3 : Int32)) = 0) → vp_in ((9 : Int32) + x2) 13) (H2 : ¬ ((σ 10 12) = 0) → ¬ ((mdr σ x1) = 0) → ¬ ((mi x2 (0 : Int32) (3 : Int32)) = 0) → ¬ ((((σ 91 ((9 : Int32) + x2).toNatClampNeg) >>> (x1 &&& 31)) &&& (1 : Int32)) = 0) → x2 = (1 : Int32) → vp_in (f_135 x1 (1 : Int32)) 18) (H3 : ¬ ((σ 10 12) = 0) → ¬ ((mdr σ x1) = 0) → ¬ ((mi x2 (0 : Int32) (3 : Int32)) = 0) → ¬ ((((σ 91 ((9 : Int32) + x2).toNatClampNeg) >>> (x1 &&& 31)) &&& (1 : Int32)) = 0) → ¬ (x2 = (1 : Int32)) → x2 = (3 : Int32) → vp_in (f_135 x1 (1 : Int32)) 18) (H4 : ¬ ((σ 10 12) = 0) → ¬ ((mdr σ x1) = 0) → ¬ ((mi x2 (0 : Int32) (3 : Int32)) = 0) → ¬ ((((σ 91 ((9 : Int32) + x2).toNatClampNeg) >>> (x1 &&& 31)) &&& (1 : Int32)) = 0) → ¬ (x2 = (1 : Int32)) → ¬ (x2 = (3 : Int32)) → vp_in (f_135 x1 (0 : Int32)) 18) (q0 : (σ 10 12) = 0 → Q (some (.int (0 : Int32))) (mm_up σ 10 0 (1 : Int32))) (q1 : ¬ ((σ 10 12) = 0) → (mdr σ x1) = 0 → Q (some (.int (0 : Int32))) (mm_up σ 10 0 (2 : Int32))) (q2 : ¬ ((σ 10 12) = 0) → ¬ ((mdr σ x1) = 0) → (mi x2 (0 : Int32) (3 : Int32)) = 0 → Q (some (.int (0 : Int32))) (mm_up σ 10 0 (2 : Int32))) (q3 : ¬ ((σ 10 12) = 0) → ¬ ((mdr σ x1) = 0) → ¬ ((mi x2 (0 : Int32) (3 : Int32)) = 0) → (((σ 91 ((9 : Int32) + x2).toNatClampNeg) >>> (x1 &&& 31)) &&& (1 : Int32)) = 0 → Q (some (.int (0 : Int32))) (mm_up σ 10 0 (0 : Int32))) (q4 : ¬ ((σ 10 12) = 0) → ¬ ((mdr σ x1) = 0) → ¬ ((mi x2 (0 : Int32) (3 : Int32)) = 0) → ¬ ((((σ 91 ((9 : Int32) + x2).toNatClampNeg) >>> (x1 &&& 31)) &&& (1 : Int32)) = 0) → x2 = (1 : Int32) → Q (some (.int ((σ 97 (f_135 x1 (1 : Int32)).toNatClampNeg) - (σ 96 (f_135 x1 (1 : Int32)).toNatClampNeg)))) (mm_up σ 10 0 (0 : Int32))) (q5 : ¬ ((σ 10 12) = 0) → ¬ ((mdr σ x1) = 0) → ¬ ((mi x2 (0 : Int32) (3 : Int32)) = 0) → ¬ ((((σ 91 ((9 : Int32) + x2).toNatClampNeg) >>> (x1 &&& 31)) &&& (1 : Int32)) = 0) → ¬ (x2 = (1 : Int32)) → x2 = (3 : Int32) → Q (some (.int ((σ 97 (f_135 x1 (1 : Int32)).toNatClampNeg) - (σ 96 (f_135 x1 (1 : Int32)).toNatClampNeg)))) (mm_up σ 10 0 (0 : Int32))) (q6 : ¬ ((σ 10 12) = 0) → ¬ ((mdr σ x1) = 0) → ¬ ((mi x2 (0 : Int32) (3 : Int32)) = 0) → ¬ ((((σ 91 ((9 : Int32) + x2).toNatClampNeg) >>> (x1 &&& 31)) &&& (1 : Int32)) = 0) → ¬ (x2 = (1 : Int32)) → ¬ (x2 = (3 : Int32)) → Q (some (.int ((σ 97 (f_135 x1 (0 : Int32)).toNatClampNeg) - (σ 96 (f_135 x1 (0 : Int32)).toNatClampNeg)))) (mm_up σ 10 0 (0 : Int32))) : mD (d + 3) 147 [.ref 10, .int x1, .int x2] σ Q := ke_147 (kb_147_0 (fun g0 => (kb_147_8 (fun _ => (kb_147_60 (q0 g0))) (fun g1 => (absurd (show ¬ (0 < (1 : Int32)) from g1) (by decide))))) (fun g0 => (kb_147_12 (c_88 (kb_147_17 (fun g1 => (kb_147_29 (fun _ => (kb_147_60 (q1 g0 g1))) (fun g2 => (absurd (show ¬ (0 < (2 : Int32)) from g2) (by decide))))) (fun g1 => (kb_147_20 (c_87 (kb_147_26 (fun g2 => (kb_147_29 (fun _ => (kb_147_60 (q2 g0 g1 g2))) (fun g3 => (absurd (show ¬ (0 < (2 : Int32)) from g3) (by decide))))) (fun g2 => (kb_147_33 (fun g3 => (absurd (show 0 < (0 : Int32) from g3) (by decide))) (fun _ => (kb_147_44 (H1 g0 g1 g2) (fun g3 => (kb_147_60 (q3 g0 g1 g2 g3))) (fun g3 => (kb_147_62 (fun g4 => (kb_147_72 (c_135 (kb_147_87 (H2 g0 g1 g2 g3 g4) (c_135 (kb_147_97 (H2 g0 g1 g2 g3 g4) (q4 g0 g1 g2 g3 g4))))))) (fun g4 => (kb_147_67 (fun g5 => (kb_147_72 (c_135 (kb_147_87 (H3 g0 g1 g2 g3 g4 g5) (c_135 (kb_147_97 (H3 g0 g1 g2 g3 g4 g5) (q5 g0 g1 g2 g3 g4 g5))))))) (fun g5 => (kb_147_76 (c_135 (kb_147_87 (H4 g0 g1 g2 g3 g4 g5) (c_135 (kb_147_97 (H4 g0 g1 g2 g3 g4 g5) (q6 g0 g1 g2 g3 g4 g5))))))))))))))))))))))))
/-- HouseDesk.house, which may throw -/
theorem xz_6 {d : Nat} {Q : mm_Q} {XQ : Nat → mm_S → Prop} {x1 : Int32} {σ : mm_S} (H1 : ¬ ((σ 0 3) = 0) → ¬ (x1 < 0) → x1 ≤ (2 : Int32) → ¬ ((2 : Int32) ≤ x1) → vp_in x1 2) (q0 : (σ 0 3) = 0 → XQ 2 σ) (q1 : ¬ ((σ 0 3) = 0) → x1 < 0 → XQ 0 σ) (q2 : ¬ ((σ 0 3) = 0) → ¬ (x1 < 0) → x1 ≤ (2 : Int32) → (2 : Int32) ≤ x1 → Q (some (.int (((σ 72 0) * (σ 72 1)) - (war σ 9)))) σ) (q3 : ¬ ((σ 0 3) = 0) → ¬ (x1 < 0) → x1 ≤ (2 : Int32) → ¬ ((2 : Int32) ≤ x1) → Q (some (.int (σ 72 x1.toNatClampNeg))) σ) (q4 : ¬ ((σ 0 3) = 0) → ¬ (x1 < 0) → ¬ (x1 ≤ (2 : Int32)) → XQ 0 σ) : xD (d + 3) 6 [.ref 0, .int x1] σ Q XQ := ⟨rfl, (xr_6_0 (xz_10 (fun g0 => (q0 g0)) (fun g0 => (xr_6_4 (fun g1 => (xr_6_13 (q1 g0 g1))) (fun g1 => (xr_6_8 (fun g2 => (xr_6_23 (fun g3 => (xr_6_45 (pk_in 0 2 (by decide)) (pk_in 1 2 (by decide)) (c_16 (xr_6_59 (q2 g0 g1 g2 g3))))) (fun g3 => (xr_6_39 (H1 g0 g1 g2 g3) (q3 g0 g1 g2 g3))))) (fun g2 => (xr_6_13 (q4 g0 g1 g2)))))))))⟩
/-- HouseDesk.wallOf, which may throw -/
theorem xz_7 {d : Nat} {Q : mm_Q} {XQ : Nat → mm_S → Prop} {x1 x2 : Int32} {σ : mm_S} (H1 : ¬ ((σ 0 3) = 0) → ¬ ((xj σ x1) = 0) → ¬ (x2 < 0) → x2 ≤ (2 : Int32) → x2 = 0 → vp_in x1 21) (H2 : ¬ ((σ 0 3) = 0) → ¬ ((xj σ x1) = 0) → ¬ (x2 < 0) → x2 ≤ (2 : Int32) → ¬ (x2 = 0) → x2 = (1 : Int32) → vp_in x1 21) (H3 : ¬ ((σ 0 3) = 0) → ¬ ((xj σ x1) = 0) → ¬ (x2 < 0) → x2 ≤ (2 : Int32) → ¬ (x2 = 0) → x2 = (1 : Int32) → vp_in (σ 16 x1.toNatClampNeg) 9) (H4 : ¬ ((σ 0 3) = 0) → ¬ ((xj σ x1) = 0) → ¬ (x2 < 0) → x2 ≤ (2 : Int32) → ¬ (x2 = 0) → x2 = (1 : Int32) → vp_in ((1 : Int32) - (f_74 σ x1)) 4) (H5 : ¬ ((σ 0 3) = 0) → ¬ ((xj σ x1) = 0) → ¬ (x2 < 0) → x2 ≤ (2 : Int32) → ¬ (x2 = 0) → x2 = (1 : Int32) → vp_in (σ 17 x1.toNatClampNeg) 9) (H6 : ¬ ((σ 0 3) = 0) → ¬ ((xj σ x1) = 0) → ¬ (x2 < 0) → x2 ≤ (2 : Int32) → ¬ (x2 = 0) → ¬ (x2 = (1 : Int32)) → vp_in x1 21) (H7 : ¬ ((σ 0 3) = 0) → ¬ ((xj σ x1) = 0) → ¬ (x2 < 0) → x2 ≤ (2 : Int32) → ¬ (x2 = 0) → ¬ (x2 = (1 : Int32)) → vp_in (σ 16 x1.toNatClampNeg) 9) (H8 : ¬ ((σ 0 3) = 0) → ¬ ((xj σ x1) = 0) → ¬ (x2 < 0) → x2 ≤ (2 : Int32) → ¬ (x2 = 0) → ¬ (x2 = (1 : Int32)) → vp_in (((1 : Int32) - (f_74 σ x1)) + (2 : Int32)) 4) (H9 : ¬ ((σ 0 3) = 0) → ¬ ((xj σ x1) = 0) → ¬ (x2 < 0) → x2 ≤ (2 : Int32) → ¬ (x2 = 0) → ¬ (x2 = (1 : Int32)) → vp_in (σ 17 x1.toNatClampNeg) 9) (q0 : (σ 0 3) = 0 → XQ 2 σ) (q1 : ¬ ((σ 0 3) = 0) → (xj σ x1) = 0 → XQ 0 σ) (q2 : ¬ ((σ 0 3) = 0) → ¬ ((xj σ x1) = 0) → x2 < 0 → XQ 0 σ) (q3 : ¬ ((σ 0 3) = 0) → ¬ ((xj σ x1) = 0) → ¬ (x2 < 0) → x2 ≤ (2 : Int32) → x2 = 0 → Q (some (.int (σ 45 x1.toNatClampNeg))) σ) (q4 : ¬ ((σ 0 3) = 0) → ¬ ((xj σ x1) = 0) → ¬ (x2 < 0) → x2 ≤ (2 : Int32) → ¬ (x2 = 0) → x2 = (1 : Int32) → Q (some (.int (f_78 σ x1))) σ) (q5 : ¬ ((σ 0 3) = 0) → ¬ ((xj σ x1) = 0) → ¬ (x2 < 0) → x2 ≤ (2 : Int32) → ¬ (x2 = 0) → ¬ (x2 = (1 : Int32)) → Q (some (.int (f_79 σ x1))) σ) (q6 : ¬ ((σ 0 3) = 0) → ¬ ((xj σ x1) = 0) → ¬ (x2 < 0) → ¬ (x2 ≤ (2 : Int32)) → XQ 0 σ) : xD (d + 2) 7 [.ref 0, .int x1, .int x2] σ Q XQ := ⟨rfl, (xr_7_0 (xz_10 (fun g0 => (q0 g0)) (fun g0 => (xr_7_4 (c_9 (xr_7_12 (fun g1 => (xr_7_24 (q1 g0 g1))) (fun g1 => (xr_7_15 (fun g2 => (xr_7_24 (q2 g0 g1 g2))) (fun g2 => (xr_7_19 (fun g3 => (xr_7_34 (fun g4 => (xr_7_38 (H1 g0 g1 g2 g3 g4) (q3 g0 g1 g2 g3 g4))) (fun g4 => (xr_7_51 (fun g5 => (xr_7_56 (c_78 (H2 g0 g1 g2 g3 g4 g5) (H3 g0 g1 g2 g3 g4 g5) (H4 g0 g1 g2 g3 g4 g5) (H5 g0 g1 g2 g3 g4 g5) (xr_7_67 (q4 g0 g1 g2 g3 g4 g5))))) (fun g5 => (xr_7_70 (c_79 (H6 g0 g1 g2 g3 g4 g5) (H7 g0 g1 g2 g3 g4 g5) (H8 g0 g1 g2 g3 g4 g5) (H9 g0 g1 g2 g3 g4 g5) (xr_7_81 (q5 g0 g1 g2 g3 g4 g5))))))))) (fun g3 => (xr_7_24 (q6 g0 g1 g2 g3)))))))))))))⟩
/-- HouseDesk.side, which may throw -/
theorem xz_8 {d : Nat} {Q : mm_Q} {XQ : Nat → mm_S → Prop} {x1 x2 : Int32} {σ : mm_S} (H1 : ¬ ((σ 0 3) = 0) → ¬ ((xd σ x1) = 0) → ¬ (x2 < 0) → x2 < (4 : Int32) → vp_in x1 13) (H2 : ¬ ((σ 0 3) = 0) → ¬ ((xd σ x1) = 0) → ¬ (x2 < 0) → x2 < (4 : Int32) → ¬ ((f_53 σ x1 x2) = 0) → vp_in x1 9) (H3 : ¬ ((σ 0 3) = 0) → ¬ ((xd σ x1) = 0) → ¬ (x2 < 0) → x2 < (4 : Int32) → ¬ ((f_53 σ x1 x2) = 0) → vp_in ((x2 &&& (1 : Int32)) + (2 : Int32)) 4) (H4 : ¬ ((σ 0 3) = 0) → ¬ ((xd σ x1) = 0) → ¬ (x2 < 0) → x2 < (4 : Int32) → ¬ ((f_53 σ x1 x2) = 0) → vp_in (x2 &&& (1 : Int32)) 4) (q0 : (σ 0 3) = 0 → XQ 2 σ) (q1 : ¬ ((σ 0 3) = 0) → (xd σ x1) = 0 → XQ 0 σ) (q2 : ¬ ((σ 0 3) = 0) → ¬ ((xd σ x1) = 0) → x2 < 0 → XQ 0 σ) (q3 : ¬ ((σ 0 3) = 0) → ¬ ((xd σ x1) = 0) → ¬ (x2 < 0) → x2 < (4 : Int32) → (f_53 σ x1 x2) = 0 → Q (some (.int (0 : Int32))) σ) (q4 : ¬ ((σ 0 3) = 0) → ¬ ((xd σ x1) = 0) → ¬ (x2 < 0) → x2 < (4 : Int32) → ¬ ((f_53 σ x1 x2) = 0) → Q (some (.int (f_80 σ x1 x2))) σ) (q5 : ¬ ((σ 0 3) = 0) → ¬ ((xd σ x1) = 0) → ¬ (x2 < 0) → ¬ (x2 < (4 : Int32)) → XQ 0 σ) : xD (d + 2) 8 [.ref 0, .int x1, .int x2] σ Q XQ := ⟨rfl, (xr_8_0 (xz_10 (fun g0 => (q0 g0)) (fun g0 => (xr_8_4 (c_7 (xr_8_12 (fun g1 => (xr_8_24 (q1 g0 g1))) (fun g1 => (xr_8_15 (fun g2 => (xr_8_24 (q2 g0 g1 g2))) (fun g2 => (xr_8_19 (fun g3 => (xr_8_34 (c_53 (H1 g0 g1 g2 g3) (xr_8_46 (fun g4 => (xr_8_64 (q3 g0 g1 g2 g3 g4))) (fun g4 => (xr_8_49 (c_80 (H2 g0 g1 g2 g3 g4) (H3 g0 g1 g2 g3 g4) (H4 g0 g1 g2 g3 g4) (xr_8_61 (q4 g0 g1 g2 g3 g4))))))))) (fun g3 => (xr_8_24 (q5 g0 g1 g2 g3)))))))))))))⟩
theorem c_155 {d : Nat} {Q : mm_Q} {x : Int32} {σ : mm_S} (q0 : x = 0 → Q (some (.int (σ 1 11))) σ) (q1 : x = 1 → Q (some (.int (σ 1 12))) σ) (q2 : x = 2 → Q (some (.int (σ 2 4))) σ) (q3 : x = 3 → Q (some (.int (σ 2 5))) σ) (q4 : x = 4 → Q (some (.int (if σ 0 3 = 0 then 0 else 1))) σ) (q5 : ¬ x = 0 → ¬ x = 1 → ¬ x = 2 → ¬ x = 3 → ¬ x = 4 → Q (some (.int (-1))) σ) : mD (d + 1) 155 [.ref 0, .int x] σ Q := by
  refine ke_155 (kb_155_0 ?_)
  by_cases h0 : x = 0
  · subst h0; unfold mm_sw; rw [if_neg (by decide)]; exact kb_155_36 (q0 rfl)
  by_cases h1 : x = 1
  · subst h1; unfold mm_sw; rw [if_neg (by decide)]; exact kb_155_44 (q1 rfl)
  by_cases h2 : x = 2
  · subst h2; unfold mm_sw; rw [if_neg (by decide)]; exact kb_155_52 (q2 rfl)
  by_cases h3 : x = 3
  · subst h3; unfold mm_sw; rw [if_neg (by decide)]; exact kb_155_60 (q3 rfl)
  by_cases h4 : x = 4
  · subst h4; unfold mm_sw; rw [if_neg (by decide)]
    exact kb_155_68 (fun g => kb_155_79 (q_pos g (q4 rfl))) (fun g => kb_155_75 (q_neg g (q4 rfl)))
  have hb : x.toInt < 0 ∨ 4 < x.toInt := by
    by_cases a : x.toInt < 0
    · exact Or.inl a
    · refine Or.inr ?_
      have n0 : x.toInt ≠ 0 := fun e => h0 (Int32.toInt_inj.mp e)
      have n1 : x.toInt ≠ 1 := fun e => h1 (Int32.toInt_inj.mp e)
      have n2 : x.toInt ≠ 2 := fun e => h2 (Int32.toInt_inj.mp e)
      have n3 : x.toInt ≠ 3 := fun e => h3 (Int32.toInt_inj.mp e)
      have n4 : x.toInt ≠ 4 := fun e => h4 (Int32.toInt_inj.mp e)
      omega
  unfold mm_sw
  rw [if_pos hb]
  exact kb_155_81 (q5 h0 h1 h2 h3 h4)
end
section
/-! the arms at an empty sketch -/
def E0 (σ : mm_S) : Prop := (σ 1 10 = 0) ∧ (σ 1 11 = 0) ∧ (σ 1 12 = 0) ∧ (σ 0 3 = 0) ∧ (σ 3 1 = 0) ∧ (σ 9 1 = 0) ∧ (σ 2 4 = 0) ∧ (σ 2 5 = 0) ∧ (∀ j, j < 9 → σ 75 j = 0) ∧ (σ 10 6 = 0) ∧ (σ 10 12 = 0) ∧ (σ 10 13 = -1) ∧ (σ 10 15 = 0) ∧ (σ 10 16 = 0) ∧ (σ 10 34 = 0)
theorem E0.dr {σ : mm_S} (h : E0 σ) : σ 1 10 = 0 := h.1
theorem E0.rm {σ : mm_S} (h : E0 σ) : σ 1 11 = 0 := h.2.1
theorem E0.jn {σ : mm_S} (h : E0 σ) : σ 1 12 = 0 := h.2.2.1
theorem E0.pl {σ : mm_S} (h : E0 σ) : σ 0 3 = 0 := h.2.2.2.1
theorem E0.ws {σ : mm_S} (h : E0 σ) : σ 3 1 = 0 := h.2.2.2.2.1
theorem E0.wy {σ : mm_S} (h : E0 σ) : σ 9 1 = 0 := h.2.2.2.2.2.1
theorem E0.co {σ : mm_S} (h : E0 σ) : σ 2 4 = 0 := h.2.2.2.2.2.2.1
theorem E0.ci {σ : mm_S} (h : E0 σ) : σ 2 5 = 0 := h.2.2.2.2.2.2.2.1
theorem E0.mr {σ : mm_S} (h : E0 σ) : ∀ j, j < 9 → σ 75 j = 0 := h.2.2.2.2.2.2.2.2.1
theorem E0.mj {σ : mm_S} (h : E0 σ) : σ 10 6 = 0 := h.2.2.2.2.2.2.2.2.2.1
theorem E0.mp {σ : mm_S} (h : E0 σ) : σ 10 12 = 0 := h.2.2.2.2.2.2.2.2.2.2.1
theorem E0.mk {σ : mm_S} (h : E0 σ) : σ 10 13 = -1 := h.2.2.2.2.2.2.2.2.2.2.2.1
theorem E0.mo {σ : mm_S} (h : E0 σ) : σ 10 15 = 0 := h.2.2.2.2.2.2.2.2.2.2.2.2.1
theorem E0.mf {σ : mm_S} (h : E0 σ) : σ 10 16 = 0 := h.2.2.2.2.2.2.2.2.2.2.2.2.2.1
theorem E0.mw {σ : mm_S} (h : E0 σ) : σ 10 34 = 0 := h.2.2.2.2.2.2.2.2.2.2.2.2.2.2
theorem hs_0 (n : Int32) : hs 0 n = 0 := by
  unfold hs
  rw [if_neg]
  simp
theorem E0_xd {σ : mm_S} (e : E0 σ) (r : Int32) : xd σ r = 0 := by
  unfold xd
  rw [e.dr, hs_0]
  split
  · rfl
  · split <;> rfl
theorem E0_md {σ : mm_S} (e : E0 σ) (r : Int32) : mdr σ r = 0 := by
  unfold mdr
  by_cases h : mi r 0 8 = 0
  · rw [if_pos h]
  · rw [if_neg h]
    obtain ⟨j, hj, ej⟩ := vp_in_of (mi_in ((mi_01 r 0 8).resolve_left h)) (by decide)
    rw [if_pos]
    rw [ej, show (nI j).toNatClampNeg = j from pk_cl j]; exact e.mr j hj
theorem E0_rc {σ : mm_S} (h : ∀ j, j < 9 → σ 75 j = 0) : rc σ 9 = 0 := by
  simp only [rc, h 0 (by decide), h 1 (by decide), h 2 (by decide), h 3 (by decide), h 4 (by decide), h 5 (by decide), h 6 (by decide), h 7 (by decide), h 8 (by decide)]
  rfl
section PE
variable {d : Nat} {xs : Nat → Int32} {len t : Nat} {x4 : Int32} {o5 o6 : Option Value} {σ : mm_S} {f : Nat → Int64}
/-- sortAround where there is no join -/
theorem c_104e {Q : mm_Q} {σ : mm_S} (e6 : σ 10 6 = 0) (q : ∀ τ : mm_S, (∀ k, k ≠ 87 → τ k = σ k) → Q none τ) : mD (d + 1) 104 [.ref 10] σ Q := by
  refine ke_104 (kb_104_0 ?_)
  refine lp_dn (P := fun i => ∀ τ : mm_S, (∀ k, k ≠ 87 → τ k = σ k) → ∀ o2 o3, mw d mt_104 Q 2 [some (.ref 10), some (.int (nI i)), o2, o3] [] τ) 9 ?_ ?_ 0 (by omega) σ (fun _ _ => rfl) none none
  · intro τ h o2 o3
    exact kb_104_2 (fun _ => kb_104_154 (q τ h)) (fun g => absurd (by decide) g)
  · intro i hi ih τ h o2 o3
    refine kb_104_2 (fun g => absurd g (hI_nle (a := 9) (by omega) hi)) (fun _ => kb_104_8 (pk_in i 9 hi) (kb_104_17 (fun _ => kb_104_148 ?_) (fun g => absurd ?_ g)))
    · rw [nI_1]
      exact ih _ (fun k hk => by rw [mm_up_n hk]; exact h k hk) _ _
    · rw [mm_up_n (by decide), h 10 (by decide), e6]; decide
end PE
end
section
/-! join: the reference's contract, the law's arm 1 -/
def mjd (σ : mm_S) (a b : Int32) (n : Nat) : mm_S := mm_up (mm_up (mm_up (mm_up (mm_up (mm_up σ 10 0 0) 80 n a) 81 n b) 82 n 1) 10 6 (nI (n + 1))) 10 12 0
theorem mdr_in {σ : mm_S} {r : Int32} (h : mdr σ r = 1) : vp_in r 9 := mi_in (by
  unfold mdr at h
  rcases mi_01 r 0 8 with e | e
  · rw [if_pos e] at h; exact absurd h (by decide)
  · exact e)
theorem nI_m1 {j : Nat} (h : j < 2 ^ 31) : ¬ nI j = -1 := fun z => by
  have h1 := congrArg Int32.toInt z
  rw [nI_toInt h, show (-1 : Int32).toInt = -1 by decide] at h1
  omega
theorem c_91 {d n : Nat} {Q : mm_Q} {a b : Int32} {σ : mm_S} (M : Mr σ n) (q1 : (a = b ∨ mdr σ a = 0 ∨ mdr σ b = 0) → Q (some (.int 0)) (mm_up σ 10 0 1))
    (q2 : ¬ a = b → mdr σ a = 1 → mdr σ b = 1 → ((∃ k, k < n ∧ mjn σ a b k) ∨ n = 21) → Q (some (.int 0)) (mm_up σ 10 0 2))
    (q0 : ¬ a = b → mdr σ a = 1 → mdr σ b = 1 → (∀ k, k < n → ¬ mjn σ a b k) → n < 21 → Q (some (.int (nI n))) (mjd σ a b n)) : mD (d + 3) 91 [.ref 10, .int a, .int b] σ Q := by
  obtain ⟨hn, e6, hr⟩ := M
  have bad : (a = b ∨ mdr σ a = 0 ∨ mdr σ b = 0) → mw (d + 2) mt_91 Q 22 [some (.ref 10), some (.int a), some (.int b)] [.ref 10] σ := fun h =>
    kb_91_22 (fun g => absurd (show (1 : Int32) ≤ 0 from g) (by decide)) (fun _ => kb_91_60 (q1 h))
  refine ke_91 (kb_91_0 (fun h => bad (Or.inl h)) (fun hab => kb_91_6 (c_88 (kb_91_11 (fun h => bad (Or.inr (Or.inl h))) (fun ha => kb_91_14 (c_88 (kb_91_19 (fun h => bad (Or.inr (Or.inr h))) (fun hb => kb_91_26 ?_))))))))
  have a1 := (mdr_01 σ a).resolve_left ha
  have b1 := (mdr_01 σ b).resolve_left hb
  have ful : ((∃ k, k < n ∧ mjn σ a b k) ∨ n = 21) → mw (d + 2) mt_91 Q 45 [some (.ref 10), some (.int a), some (.int b)] [.ref 10] σ := fun h =>
    kb_91_45 (fun g => absurd (show (2 : Int32) ≤ 0 from g) (by decide)) (fun _ => kb_91_60 (q2 hab a1 b1 h))
  refine c_90 hn e6 (fun j hj h1 h2 => kb_91_32 (fun z => absurd z (nI_m1 (by omega))) (fun _ => ful (Or.inl ⟨j, hj, h1⟩))) (fun hall => kb_91_32 (fun _ => kb_91_36 (fun z => ful (Or.inr ?_)) (fun z => kb_91_49 (fun _ => ?_) (fun g => absurd (show (0 : Int32) ≤ 0 from by decide) g))) (fun z => absurd rfl z))
  · rw [e6] at z
    exact (nI_eq (b := 21) (by omega) (by omega)).mp z
  · have hlt : n < 21 := by
      rcases Nat.lt_or_ge n 21 with h | h
      · exact h
      · exact absurd (by rw [e6, show n = 21 by omega]; rfl) z
    have hv : vp_in (σ 10 6) 21 := by rw [e6]; exact pk_in n 21 hlt
    have key : Q (some (.int ((σ 10 6 + 1) - 1))) (mm_up (mm_up (mm_up (mm_up (mm_up (mm_up σ 10 0 0) 80 (σ 10 6).toNatClampNeg a) 81 (σ 10 6).toNatClampNeg b) 82 (σ 10 6).toNatClampNeg 1) 10 6 (σ 10 6 + 1)) 10 12 0) := by
      rw [e6, nI_1, nI_pred, nI_clamp (by omega)]
      exact q0 hab a1 b1 hall hlt
    exact kb_91_62 hv hv hv key
/-- the class's state behind a join that is drawn -/
def cjd (σ : mm_S) (a b : Int32) (n : Nat) : mm_S := mm_up (mm_up (mm_up (mm_up (mm_up (mm_up (mm_up σ 16 n a) 17 n b) 18 n 1) 15 a.toNatClampNeg (σ 15 a.toNatClampNeg ||| ((1 : Int32) <<< (b &&& 31)))) 15 b.toNatClampNeg (σ 15 b.toNatClampNeg ||| ((1 : Int32) <<< (a &&& 31)))) 1 12 (nI (n + 1))) 0 3 0
theorem cjd_o {σ : mm_S} {a b : Int32} {n k : Nat} (h : k ≠ 0 ∧ k ≠ 1 ∧ k ≠ 15 ∧ k ≠ 16 ∧ k ≠ 17 ∧ k ≠ 18) : cjd σ a b n k = σ k := by
  obtain ⟨h0, h1, h2, h3, h4, h5⟩ := h
  unfold cjd
  rw [mm_up_n h0, mm_up_n h1, mm_up_n h2, mm_up_n h2, mm_up_n h5, mm_up_n h4, mm_up_n h3]
theorem x_join {d n : Nat} {Q : mm_Q} {XQ : Nat → mm_S → Prop} {a b : Int32} {σ : mm_S} (J : Jr σ n) (e0 : (a = b ∨ xd σ a = 0 ∨ xd σ b = 0) → XQ 0 σ)
    (e1 : ¬ a = b → xd σ a = 1 → xd σ b = 1 → (hs (σ 15 a.toNatClampNeg) b = 1 ∨ n = 21) → XQ 1 σ)
    (q : ¬ a = b → xd σ a = 1 → xd σ b = 1 → hs (σ 15 a.toNatClampNeg) b = 0 → n < 21 → Q (some (.int (nI n))) (cjd σ a b n)) : xD (d + 2) 1 [.ref 0, .int a, .int b] σ Q XQ := by
  obtain ⟨hn, e12, hr⟩ := J
  have dn : ∀ r, ¬ xd σ r = 0 → xd σ r = 1 := fun r h => (xd_01 σ r).resolve_left h
  have lt21 : σ 1 12 < 21 → n < 21 := fun h => by
    rw [e12] at h
    exact (nI_ltI (b := 21) (by omega) (by omega)).mp h
  refine xz_1 (fun _ h _ => xd_in (dn _ h)) (fun _ _ _ _ h => ?_) (fun _ h _ _ _ => xd_in (dn _ h)) (fun _ _ h _ _ => xd_in (dn _ h)) (fun h => e0 (Or.inl h)) (fun _ h => e0 (Or.inr (Or.inl h))) (fun _ _ h => e0 (Or.inr (Or.inr h))) (fun hab ha hb h0 hl => ?_) (fun hab ha hb h0 hl => e1 hab (dn _ ha) (dn _ hb) (Or.inr ?_)) (fun hab ha hb h0 => e1 hab (dn _ ha) (dn _ hb) (Or.inl ((hs_01 _ _).resolve_left h0)))
  · rw [e12]; exact pk_in n 21 (lt21 h)
  · have ia := xd_in (dn _ ha)
    have ib := xd_in (dn _ hb)
    obtain ⟨i, hi, ei⟩ := vp_in_of ia (by decide)
    obtain ⟨j, hj, ej⟩ := vp_in_of ib (by decide)
    have hne : b.toNatClampNeg ≠ a.toNatClampNeg := by
      rw [ei, ej, nI_clamp (by omega), nI_clamp (by omega)]
      intro z
      exact hab (by rw [ei, ej, z])
    have h := q hab (dn _ ha) (dn _ hb) h0 (lt21 hl)
    have er : ∀ v : Int32, (mm_up (mm_up (mm_up (mm_up σ 16 n a) 17 n b) 18 n 1) 15 a.toNatClampNeg v) 15 b.toNatClampNeg = σ 15 b.toNatClampNeg := fun v => by
      rw [mm_up_o hne, mm_up_n (by decide), mm_up_n (by decide), mm_up_n (by decide)]
    rw [e12, nI_1, nI_pred, nI_clamp (by omega), er]
    exact h
  · rcases Nat.lt_or_ge n 21 with h | h
    · exact absurd (by rw [e12]; exact (nI_ltI (b := 21) (by omega) (by omega)).mpr h) hl
    · omega
/-- joins: class and reference hold the same -/
def Jn (σ : mm_S) (n : Nat) : Prop := Jr σ n ∧ Mr σ n ∧ ∀ a b : Int32, xd σ a = 1 → xd σ b = 1 → (hs (σ 15 a.toNatClampNeg) b = 1 ↔ ∃ k, k < n ∧ mjn σ a b k)
end
section
/-! vectors in the plane: turning clockwise -/
abbrev V2 : Type := Int × Int
def gcr (a b : V2) : Int := a.1 * b.2 - a.2 * b.1
def gdt (a b : V2) : Int := a.1 * b.1 + a.2 * b.2
theorem gcr_anti (a b : V2) : gcr a b = - gcr b a := by unfold gcr; grind
theorem gdt_comm (a b : V2) : gdt a b = gdt b a := by unfold gdt; grind
theorem gcr_id (a u v w : V2) : gcr u v * gcr a w + gcr v w * gcr a u + gcr w u * gcr a v = 0 := by unfold gcr; grind
theorem gdt_id (a u v : V2) : gdt u u * gcr a v = gdt u v * gcr a u + gdt a u * gcr u v := by unfold gcr gdt; grind
theorem gdt_id2 (a u v : V2) : gdt a a * gdt u v = gdt a u * gdt a v + gcr a u * gcr a v := by unfold gcr gdt; grind
theorem gdt_id3 (a u : V2) : gdt a a * gdt u u = gdt a u * gdt a u + gcr a u * gcr a u := by unfold gcr gdt; grind
theorem gsq {x y : Int} (h : x * x + y * y ≤ 0) : x = 0 ∧ y = 0 := by
  have e1 : 0 ≤ x * x := by rcases Int.le_total 0 x with k | k; exact Int.mul_nonneg k k; exact Int.mul_nonneg_of_nonpos_of_nonpos k k
  have e2 : 0 ≤ y * y := by rcases Int.le_total 0 y with k | k; exact Int.mul_nonneg k k; exact Int.mul_nonneg_of_nonpos_of_nonpos k k
  have f1 : x * x = 0 := by omega
  have f2 : y * y = 0 := by omega
  exact ⟨by rcases Int.mul_eq_zero.mp f1 with h | h <;> exact h, by rcases Int.mul_eq_zero.mp f2 with h | h <;> exact h⟩
theorem gdt_pos {u : V2} (h : ¬ (u.1 = 0 ∧ u.2 = 0)) : 0 < gdt u u := by
  unfold gdt
  rcases Int.lt_or_le 0 (u.1 * u.1 + u.2 * u.2) with k | k
  · exact k
  · exact absurd (gsq k) h
/-- two vectors that look the same way -/
def gsd (u v : V2) : Prop := gcr u v = 0 ∧ 0 < gdt u v
/-- clockwise behind a: u comes before v -/
def gso (a u v : V2) : Prop := (gcr a u < 0 ∧ ¬ gcr a v < 0) ∨ ((gcr a u < 0 ↔ gcr a v < 0) ∧ gcr u v < 0)
theorem gso_asym {a u v : V2} : gso a u v → ¬ gso a v u := by
  unfold gso
  intro h1 h2
  have := gcr_anti u v
  rcases h1 with ⟨p, q⟩ | ⟨p, q⟩ <;> rcases h2 with ⟨r, s⟩ | ⟨r, s⟩
  · exact q r
  · exact q (r.mpr p)
  · exact s (p.mpr r)
  · omega
theorem gmul_neg {x y : Int} (h : x * y < 0) (hy : y < 0) : 0 < x := by
  rcases Int.lt_or_le 0 x with k | k
  · exact k
  · have := Int.mul_nonneg_of_nonpos_of_nonpos k (Int.le_of_lt hy); omega
theorem gmul_pos {x y : Int} (h : 0 < x * y) (hy : 0 < y) : 0 < x := by
  rcases Int.lt_or_le 0 x with k | k
  · exact k
  · have := Int.mul_nonneg (a := -x) (b := y) (by omega) (Int.le_of_lt hy)
    rw [Int.neg_mul] at this; omega
theorem gpar {a u : V2} (ha : 0 < gdt a a) (hu : 0 < gdt u u) (h : gcr a u = 0) : gdt a u ≠ 0 := by
  intro z
  have := gdt_id3 a u
  rw [z, h] at this
  have p := Int.mul_pos ha hu
  omega
/-- parallel vectors on one side look the same way -/
theorem gtot {a u v : V2} (ha : 0 < gdt a a) (hu : 0 < gdt u u) (hv : 0 < gdt v v) (nu : ¬ gsd a u) (nv : ¬ gsd a v) (nuv : ¬ gsd u v) : gso a u v ∨ gso a v u := by
  have an := gcr_anti u v
  rcases Int.lt_trichotomy (gcr u v) 0 with h | h | h
  · by_cases p : gcr a u < 0 <;> by_cases q : gcr a v < 0
    · exact Or.inl (Or.inr ⟨by simp [p, q], h⟩)
    · exact Or.inl (Or.inl ⟨p, q⟩)
    · exact Or.inr (Or.inl ⟨q, p⟩)
    · exact Or.inl (Or.inr ⟨by simp [p, q], h⟩)
  · by_cases p : gcr a u < 0 <;> by_cases q : gcr a v < 0
    · exfalso
      have e := gdt_id a u v
      rw [h, Int.mul_zero, Int.add_zero] at e
      have e1 : gdt u v * gcr a u < 0 := by rw [← e]; exact Int.mul_neg_of_pos_of_neg hu q
      exact nuv ⟨h, gmul_neg e1 p⟩
    · exact Or.inl (Or.inl ⟨p, q⟩)
    · exact Or.inr (Or.inl ⟨q, p⟩)
    · exfalso
      have nd : gdt u v ≤ 0 := by
        rcases Int.lt_or_le 0 (gdt u v) with k | k
        · exact absurd ⟨h, k⟩ nuv
        · exact k
      have e := gdt_id a u v
      rw [h, Int.mul_zero, Int.add_zero] at e
      have l1 : 0 ≤ gdt u u * gcr a v := Int.mul_nonneg (by omega) (by omega)
      have l2 : gdt u v * gcr a u ≤ 0 := Int.mul_nonpos_of_nonpos_of_nonneg nd (by omega)
      have zv : gcr a v = 0 := by
        rcases Int.mul_eq_zero.mp (show gdt u u * gcr a v = 0 by omega) with k | k
        · omega
        · exact k
      have e' := gdt_id a v u
      rw [gcr_anti v u, h, Int.neg_zero, Int.mul_zero, Int.add_zero, zv, Int.mul_zero] at e'
      have zu : gcr a u = 0 := by
        rcases Int.mul_eq_zero.mp e' with k | k
        · omega
        · exact k
      have d1 : gdt a u < 0 := by
        have := gpar ha hu zu
        rcases Int.lt_or_le 0 (gdt a u) with k | k
        · exact absurd ⟨zu, k⟩ nu
        · omega
      have d2 : gdt a v < 0 := by
        have := gpar ha hv zv
        rcases Int.lt_or_le 0 (gdt a v) with k | k
        · exact absurd ⟨zv, k⟩ nv
        · omega
      have e2 := gdt_id2 a u v
      rw [zu, Int.zero_mul, Int.add_zero] at e2
      have l3 := Int.mul_pos_of_neg_of_neg d1 d2
      have l4 : gdt a a * gdt u v ≤ 0 := Int.mul_nonpos_of_nonneg_of_nonpos (by omega) nd
      omega
  · have h' : gcr v u < 0 := by have := gcr_anti v u; omega
    by_cases p : gcr a u < 0 <;> by_cases q : gcr a v < 0
    · exact Or.inr (Or.inr ⟨by simp [p, q], h'⟩)
    · exact Or.inl (Or.inl ⟨p, q⟩)
    · exact Or.inr (Or.inl ⟨q, p⟩)
    · exact Or.inr (Or.inr ⟨by simp [p, q], h'⟩)
theorem gtrans {a u v w : V2} (ha : 0 < gdt a a) (hu : 0 < gdt u u) (hw : 0 < gdt w w) (nu : ¬ gsd a u) (nv : ¬ gsd a v) (nw : ¬ gsd a w) (nuw : ¬ gsd u w) (h1 : gso a u v) (h2 : gso a v w) : gso a u w := by
  unfold gso at *
  rcases h1 with ⟨p, q⟩ | ⟨p, q⟩ <;> rcases h2 with ⟨r, s⟩ | ⟨r, s⟩
  · exact absurd r q
  · exact Or.inl ⟨p, fun z => q (r.mpr z)⟩
  · exact Or.inl ⟨p.mpr r, s⟩
  · refine Or.inr ⟨p.trans r, ?_⟩
    have id := gcr_id a u v w
    have an := gcr_anti u w
    by_cases c : gcr a u < 0
    · have cv := p.mp c
      have cw := r.mp cv
      have t1 : 0 < gcr u v * gcr a w := Int.mul_pos_of_neg_of_neg q cw
      have t2 : 0 < gcr v w * gcr a u := Int.mul_pos_of_neg_of_neg s c
      have := gmul_neg (x := gcr w u) (y := gcr a v) (by omega) cv
      omega
    · have cv : ¬ gcr a v < 0 := fun z => c (p.mpr z)
      have cw : ¬ gcr a w < 0 := fun z => cv (r.mpr z)
      have t1 : gcr u v * gcr a w ≤ 0 := Int.mul_nonpos_of_nonpos_of_nonneg (by omega) (by omega)
      have t2 : gcr v w * gcr a u ≤ 0 := Int.mul_nonpos_of_nonpos_of_nonneg (by omega) (by omega)
      rcases Int.lt_or_le 0 (gcr a v) with k | k
      · rcases Int.lt_trichotomy (gcr u w) 0 with z | z | z
        · exact z
        · exfalso
          rcases gtot ha hu hw nu nw nuw with g | g
          · rcases g with ⟨g, _⟩ | ⟨_, g⟩
            · exact c g
            · omega
          · rcases g with ⟨g, _⟩ | ⟨_, g⟩
            · exact cw g
            · have := gcr_anti w u; omega
        · exfalso
          have : gcr w u * gcr a v < 0 := Int.mul_neg_of_neg_of_pos (by omega) k
          omega
      · exfalso
        have zv : gcr a v = 0 := by omega
        -- v looks the other way than a
        have e := gdt_id u a v
        have d1 : gdt a v ≤ 0 := by
          rcases Int.lt_or_le 0 (gdt a v) with z | z
          · exact absurd ⟨zv, z⟩ nv
          · exact z
        rw [zv, Int.mul_zero, Int.add_zero] at e
        have l1 : gdt a a * gcr u v < 0 := Int.mul_neg_of_pos_of_neg ha q
        have ua : gcr u a ≤ 0 := by have := gcr_anti u a; omega
        have l2 : 0 ≤ gdt a v * gcr u a := Int.mul_nonneg_of_nonpos_of_nonpos d1 ua
        omega
/-- whoever comes next behind a doesn't come next behind c -/
theorem ginj {a b c : V2} (hb : 0 < gdt a a) (nac : ¬ gsd a c) (h1 : gso a b c) (h2 : gso c b a) : False := by
  unfold gso at *
  have x1 := gcr_anti a b
  have x2 := gcr_anti b c
  have x3 := gcr_anti a c
  have key : gcr a c = 0 → (0 < gcr a b → 0 ≤ gcr b c) ∧ (gcr a b < 0 → gcr b c ≤ 0) := fun z => by
    have d1 : gdt a c ≤ 0 := by
      rcases Int.lt_or_le 0 (gdt a c) with k | k
      · exact absurd ⟨z, k⟩ nac
      · exact k
    have e := gdt_id b a c
    rw [z, Int.mul_zero, Int.add_zero] at e
    constructor
    · intro k
      have l : 0 ≤ gdt a c * gcr b a := Int.mul_nonneg_of_nonpos_of_nonpos d1 (by omega)
      rcases Int.lt_or_le (gcr b c) 0 with y | y
      · have := Int.mul_neg_of_pos_of_neg hb y; omega
      · exact y
    · intro k
      have l : gdt a c * gcr b a ≤ 0 := Int.mul_nonpos_of_nonpos_of_nonneg d1 (by omega)
      rcases Int.lt_or_le 0 (gcr b c) with y | y
      · have := Int.mul_pos hb y; omega
      · exact y
  rcases h1 with ⟨p, q⟩ | ⟨p, q⟩ <;> rcases h2 with ⟨r, s⟩ | ⟨r, s⟩
  · have := (key (by omega)).2 p
    omega
  · omega
  · omega
  · have c1 : ¬ gcr c b < 0 := by omega
    have c2 : ¬ gcr c a < 0 := fun z => c1 (r.mpr z)
    have c3 : ¬ gcr a b < 0 := by omega
    have c4 : ¬ gcr a c < 0 := fun z => c3 (p.mpr z)
    have := (key (by omega)).1 (by omega)
    omega
/-! what comes next clockwise -/
def nxt (A : Nat → Prop) (v : Nat → V2) (f g : Nat) : Prop := A f ∧ A g ∧ ((g = f ∧ ∀ j, A j → j = f) ∨ (g ≠ f ∧ ∀ j, A j → j ≠ f → j ≠ g → gso (v f) (v g) (v j)))
/-- the joins of one room look different ways -/
def gdd (A : Nat → Prop) (v : Nat → V2) : Prop := (∀ j, A j → 0 < gdt (v j) (v j)) ∧ ∀ j k, A j → A k → j ≠ k → ¬ gsd (v j) (v k)
theorem nxt_uniq {A : Nat → Prop} {v : Nat → V2} {f g g' : Nat} (h : nxt A v f g) (h' : nxt A v f g') : g = g' := by
  obtain ⟨hf, hg, h⟩ := h
  obtain ⟨-, hg', h'⟩ := h'
  rcases h with ⟨e, h⟩ | ⟨e, h⟩
  · rw [e]; exact (h g' hg').symm
  · rcases h' with ⟨e', h'⟩ | ⟨e', h'⟩
    · rw [e']; exact h' g hg
    · by_cases q : g = g'
      · exact q
      · exact absurd (h' g hg e q) (gso_asym (h g' hg' e' (fun z => q z.symm)))
theorem nxt_inj {A : Nat → Prop} {v : Nat → V2} {f f' g : Nat} (hd : gdd A v) (h : nxt A v f g) (h' : nxt A v f' g) : f = f' := by
  obtain ⟨hf, hg, h⟩ := h
  obtain ⟨hf', -, h'⟩ := h'
  rcases h with ⟨e, h⟩ | ⟨e, h⟩
  · exact (h f' hf').symm
  · rcases h' with ⟨e', h'⟩ | ⟨e', h'⟩
    · exact h' f hf
    · by_cases q : f = f'
      · exact q
      · exact (ginj (hd.1 f hf) (hd.2 f f' hf hf' q) (h f' hf' (fun z => q z.symm) (fun z => e' z.symm)) (h' f hf q (fun z => e z.symm))).elim
/-- the least so far among the rooms below n -/
def nxs (A : Nat → Prop) (v : Nat → V2) (f n g : Nat) : Prop := (g = f ∧ ∀ j, j < n → A j → j = f) ∨ (g ≠ f ∧ A g ∧ g < n ∧ ∀ j, j < n → A j → j ≠ f → j ≠ g → gso (v f) (v g) (v j))
theorem nxs_0 {A : Nat → Prop} {v : Nat → V2} {f : Nat} : nxs A v f 0 f := Or.inl ⟨rfl, fun j h => absurd h (Nat.not_lt_zero j)⟩
theorem nxs_skip {A : Nat → Prop} {v : Nat → V2} {f n g : Nat} (h : nxs A v f n g) (hn : ¬ A n ∨ n = f) : nxs A v f (n + 1) g := by
  rcases h with ⟨e, h⟩ | ⟨e, hg, hl, h⟩
  · refine Or.inl ⟨e, fun j hj ha => ?_⟩
    by_cases q : j = n
    · subst q
      rcases hn with hn | hn
      · exact absurd ha hn
      · exact hn
    · exact h j (by omega) ha
  · refine Or.inr ⟨e, hg, by omega, fun j hj ha k1 k2 => ?_⟩
    by_cases q : j = n
    · subst q
      rcases hn with hn | hn
      · exact absurd ha hn
      · exact absurd hn k1
    · exact h j (by omega) ha k1 k2
theorem nxs_first {A : Nat → Prop} {v : Nat → V2} {f n g : Nat} (h : nxs A v f n g) (hgf : g = f) (hn : A n) (hnf : n ≠ f) : nxs A v f (n + 1) n := by
  rcases h with ⟨e, h⟩ | ⟨e, hg, hl, h⟩
  · refine Or.inr ⟨hnf, hn, by omega, fun j hj ha k1 k2 => absurd (h j (by omega) ha) k1⟩
  · exact absurd hgf e
theorem nxs_take {A : Nat → Prop} {v : Nat → V2} {f n g : Nat} (hd : gdd A v) (hf : A f) (h : nxs A v f n g) (hgf : g ≠ f) (hn : A n) (hnf : n ≠ f) (hs : gso (v f) (v n) (v g)) : nxs A v f (n + 1) n := by
  rcases h with ⟨e, h⟩ | ⟨e, hg, hl, h⟩
  · exact absurd e hgf
  · refine Or.inr ⟨hnf, hn, by omega, fun j hj ha k1 k2 => ?_⟩
    by_cases q : j = g
    · rw [q]; exact hs
    · exact gtrans (hd.1 f hf) (hd.1 n hn) (hd.1 j ha) (hd.2 f n hf hn (fun z => hnf z.symm)) (hd.2 f g hf hg (fun z => e z.symm)) (hd.2 f j hf ha (fun z => k1 z.symm)) (hd.2 n j hn ha (fun z => k2 z.symm)) hs (h j (by omega) ha k1 q)
theorem nxs_keep {A : Nat → Prop} {v : Nat → V2} {f n g : Nat} (hd : gdd A v) (hf : A f) (h : nxs A v f n g) (hgf : g ≠ f) (hn : A n) (hnf : n ≠ f) (hs : ¬ gso (v f) (v n) (v g)) : nxs A v f (n + 1) g := by
  rcases h with ⟨e, h⟩ | ⟨e, hg, hl, h⟩
  · exact absurd e hgf
  · refine Or.inr ⟨e, hg, by omega, fun j hj ha k1 k2 => ?_⟩
    by_cases q : j = n
    · subst q
      rcases gtot (hd.1 f hf) (hd.1 g hg) (hd.1 j hn) (hd.2 f g hf hg (fun z => e z.symm)) (hd.2 f j hf hn (fun z => hnf z.symm)) (hd.2 g j hg hn (by omega)) with z | z
      · exact z
      · exact absurd z hs
    · exact h j (by omega) ha k1 k2
theorem nxs_end {A : Nat → Prop} {v : Nat → V2} {f n g : Nat} (hf : A f) (hb : ∀ j, A j → j < n) (h : nxs A v f n g) : nxt A v f g := by
  rcases h with ⟨e, h⟩ | ⟨e, hg, hl, h⟩
  · exact ⟨hf, by rw [e]; exact hf, Or.inl ⟨e, fun j ha => h j (hb j ha) ha⟩⟩
  · exact ⟨hf, hg, Or.inr ⟨e, fun j ha => h j (hb j ha) ha⟩⟩
end
