/-! corners: both contracts -/
def xall (σ : mm_S) (a b c e : Int32) : Prop := xd σ a = 1 ∧ xd σ b = 1 ∧ xd σ c = 1 ∧ xd σ e = 1
def mall (σ : mm_S) (a b c e : Int32) : Prop := mdr σ a = 1 ∧ mdr σ b = 1 ∧ mdr σ c = 1 ∧ mdr σ e = 1
theorem Rm_all {σ : mm_S} {a b c e : Int32} (hR : Rm σ) : xall σ a b c e ↔ mall σ a b c e := by
  unfold xall mall
  rw [Rm_dr hR, Rm_dr hR, Rm_dr hR, Rm_dr hR]
theorem x_corners {d : Nat} {Q : mm_Q} {XQ : Nat → mm_S → Prop} {a b c e : Int32} {σ : mm_S} (e0 : ¬ xall σ a b c e → XQ 0 σ)
    (q : xall σ a b c e → Q none (mm_up (mm_up (mm_up (mm_up (mm_up (mm_up σ 19 0 a) 19 1 b) 19 2 c) 19 3 e) 1 9 1) 0 3 0)) : xD (d + 2) 2 [.ref 0, .int a, .int b, .int c, .int e] σ Q XQ := by
  refine ⟨rfl, ?_⟩
  show xw (d + 2) 2 Q XQ 0 [some (.ref 0), some (.int a), some (.int b), some (.int c), some (.int e)] [] σ
  refine xr_2_0 (c_7 ?_)
  show xw (d + 2) 2 Q XQ 8 [some (.ref 0), some (.int a), some (.int b), some (.int c), some (.int e)] [.int (xd σ a)] σ
  refine xr_2_8 (fun h => xr_2_45 (e0 (fun z => absurd (h.symm.trans z.1) (by decide)))) (fun h1 => xr_2_11 (c_7 ?_))
  show xw (d + 2) 2 Q XQ 19 [some (.ref 0), some (.int a), some (.int b), some (.int c), some (.int e)] [.int (xd σ b)] σ
  refine xr_2_19 (fun h => xr_2_45 (e0 (fun z => absurd (h.symm.trans z.2.1) (by decide)))) (fun h2 => xr_2_22 (c_7 ?_))
  show xw (d + 2) 2 Q XQ 30 [some (.ref 0), some (.int a), some (.int b), some (.int c), some (.int e)] [.int (xd σ c)] σ
  refine xr_2_30 (fun h => xr_2_45 (e0 (fun z => absurd (h.symm.trans z.2.2.1) (by decide)))) (fun h3 => xr_2_33 (c_7 ?_))
  show xw (d + 2) 2 Q XQ 42 [some (.ref 0), some (.int a), some (.int b), some (.int c), some (.int e)] [.int (xd σ e)] σ
  refine xr_2_42 (fun h => xr_2_45 (e0 (fun z => absurd (h.symm.trans z.2.2.2) (by decide)))) (fun h4 => xr_2_55 (ke_14 (kb_14_0 (by unfold vp_in; decide) (by unfold vp_in; decide) (by unfold vp_in; decide) (by unfold vp_in; decide) ?_)))
  exact xr_2_67 (q ⟨(xd_01 σ a).resolve_left h1, (xd_01 σ b).resolve_left h2, (xd_01 σ c).resolve_left h3, (xd_01 σ e).resolve_left h4⟩)
theorem c_92 {d : Nat} {Q : mm_Q} {a b c e : Int32} {σ : mm_S} (q1 : ¬ mall σ a b c e → Q none (mm_up σ 10 0 1))
    (q0 : mall σ a b c e → Q none (mm_up (mm_up (mm_up (mm_up (mm_up (mm_up (mm_up σ 10 0 0) 83 0 a) 83 1 b) 83 2 c) 83 3 e) 10 10 1) 10 12 0)) : mD (d + 3) 92 [.ref 10, .int a, .int b, .int c, .int e] σ Q := by
  have bad : ¬ mall σ a b c e → mw (d + 2) mt_92 Q 38 [some (.ref 10), some (.int a), some (.int b), some (.int c), some (.int e)] [.ref 10] σ := fun hn =>
    kb_92_38 (fun z => absurd z (by rw [show (mm_up σ 10 0 (1 : Int32)) 10 0 = 1 from mm_up_s]; decide)) (fun _ => kb_92_49 (q1 hn))
  refine ke_92 (kb_92_0 (c_88 ?_))
  show mw (d + 2) mt_92 Q 6 [some (.ref 10), some (.int a), some (.int b), some (.int c), some (.int e)] [.int (mdr σ a), .ref 10] σ
  refine kb_92_6 (fun h => bad (fun z => absurd (h.symm.trans z.1) (by decide))) (fun h1 => kb_92_9 (c_88 ?_))
  show mw (d + 2) mt_92 Q 14 [some (.ref 10), some (.int a), some (.int b), some (.int c), some (.int e)] [.int (mdr σ b), .ref 10] σ
  refine kb_92_14 (fun h => bad (fun z => absurd (h.symm.trans z.2.1) (by decide))) (fun h2 => kb_92_17 (c_88 ?_))
  show mw (d + 2) mt_92 Q 22 [some (.ref 10), some (.int a), some (.int b), some (.int c), some (.int e)] [.int (mdr σ c), .ref 10] σ
  refine kb_92_22 (fun h => bad (fun z => absurd (h.symm.trans z.2.2.1) (by decide))) (fun h3 => kb_92_25 (c_88 ?_))
  show mw (d + 2) mt_92 Q 31 [some (.ref 10), some (.int a), some (.int b), some (.int c), some (.int e)] [.int (mdr σ e), .ref 10] σ
  refine kb_92_31 (fun h => bad (fun z => absurd (h.symm.trans z.2.2.2) (by decide))) (fun h4 => ?_)
  exact kb_92_34 (fun _ => kb_92_50 (by unfold vp_in; decide) (by unfold vp_in; decide) (by unfold vp_in; decide) (by unfold vp_in; decide) (q0 ⟨(mdr_01 σ a).resolve_left h1, (mdr_01 σ b).resolve_left h2, (mdr_01 σ c).resolve_left h3, (mdr_01 σ e).resolve_left h4⟩)) (fun z => absurd (by rw [show (mm_up σ 10 0 (0 : Int32)) 10 0 = 0 from mm_up_s]; decide) z)
