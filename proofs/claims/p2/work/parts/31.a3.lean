/-! the law's arm 3: least -/
theorem mdr_01 (σ : mm_S) (i : Int32) : mdr σ i = 0 ∨ mdr σ i = 1 := by
  unfold mdr; split
  · exact Or.inl rfl
  · split
    · exact Or.inl rfl
    · exact Or.inr rfl
theorem Rm_dr {σ : mm_S} {r : Int32} (hR : Rm σ) : xd σ r = 1 ↔ mdr σ r = 1 := by
  rcases mi_01 r 0 8 with e | e
  · have h1 : ¬ (¬ r < 0 ∧ ¬ (9 : Int32) ≤ r) := fun h => by
      rw [mi_8.mpr h] at e; exact absurd e (by decide)
    have h2 : xd σ r = 0 := by
      unfold xd
      by_cases a : r < 0
      · rw [if_pos a]
      · rw [if_neg a]
        by_cases b : (9 : Int32) ≤ r
        · rw [if_pos b]
        · exact absurd ⟨a, b⟩ h1
    have h3 : mdr σ r = 0 := by unfold mdr; rw [if_pos e]
    rw [h2, h3]
  · obtain ⟨j, hj, ej⟩ := vp_in_of (mi_in e) (by decide)
    have hc : r.toNatClampNeg = j := by rw [ej]; exact pk_cl j
    unfold mdr
    rw [if_neg (by rw [e]; decide), hc, ej, (hR j hj).1]
    by_cases z : σ 75 j = 0
    · rw [if_pos z]
      exact ⟨fun h => absurd z h, fun h => absurd h (by decide)⟩
    · rw [if_neg z]
      exact ⟨fun _ => rfl, fun _ => z⟩
theorem xd_in {σ : mm_S} {r : Int32} (h : xd σ r = 1) : vp_in r 9 := by
  refine mi_in (mi_8.mpr ⟨fun a => ?_, fun b => ?_⟩)
  · unfold xd at h; rw [if_pos a] at h; exact absurd h (by decide)
  · unfold xd at h
    by_cases a : r < 0
    · rw [if_pos a] at h; exact absurd h (by decide)
    · rw [if_neg a, if_pos b] at h; exact absurd h (by decide)
theorem mi_50 {x : Int32} : mi x 1 50 = 1 ↔ ¬ x < (1 : Int32) ∧ ¬ (50 : Int32) < x := by
  unfold mi
  by_cases a : x < 1
  · rw [if_pos a]; exact ⟨fun h => absurd h (by decide), fun h => absurd a h.1⟩
  · rw [if_neg a]
    by_cases b : 50 < x
    · rw [if_pos b]; exact ⟨fun h => absurd h (by decide), fun h => absurd b h.2⟩
    · rw [if_neg b]; exact ⟨fun _ => ⟨a, b⟩, fun _ => rfl⟩
theorem x_least {d : Nat} {Q : mm_Q} {XQ : Nat → mm_S → Prop} {r w h : Int32} {σ : mm_S} (e0 : ¬ (xd σ r = 1 ∧ mi w 1 50 = 1 ∧ mi h 1 50 = 1) → XQ 0 σ)
    (q : (xd σ r = 1 ∧ mi w 1 50 = 1 ∧ mi h 1 50 = 1) → Q none (mm_up (mm_up (mm_up σ 13 r.toNatClampNeg w) 14 r.toNatClampNeg h) 0 3 0)) : xD (d + 2) 3 [.ref 0, .int r, .int w, .int h] σ Q XQ := by
  refine ⟨rfl, ?_⟩
  show xw (d + 2) 3 Q XQ 0 [some (.ref 0), some (.int r), some (.int w), some (.int h)] [] σ
  refine xr_3_0 (c_7 ?_)
  show xw (d + 2) 3 Q XQ 8 [some (.ref 0), some (.int r), some (.int w), some (.int h)] [.int (xd σ r)] σ
  refine xr_3_8 (fun a => xr_3_33 (e0 (fun z => absurd (a.symm.trans z.1) (by decide)))) (fun a => xr_3_11 (fun b => xr_3_33 (e0 (fun z => (mi_50.mp z.2.1).1 b))) (fun b => xr_3_16 (fun c => xr_3_33 (e0 (fun z => (mi_50.mp z.2.1).2 c))) (fun c => xr_3_22 (fun g => xr_3_33 (e0 (fun z => (mi_50.mp z.2.2).1 g))) (fun g => xr_3_27 (fun k => ?_) (fun k => xr_3_33 (e0 (fun z => (mi_50.mp z.2.2).2 (Int32.not_le.mp k))))))))
  have ok := (xd_01 σ r).resolve_left a
  exact xr_3_43 (xd_in ok) (xd_in ok) (q ⟨ok, mi_50.mpr ⟨b, c⟩, mi_50.mpr ⟨g, fun z => absurd k (Int32.not_le.mpr z)⟩⟩)
theorem c_93 {d : Nat} {Q : mm_Q} {r w h : Int32} {σ : mm_S} (q1 : ¬ (mdr σ r = 1 ∧ mi w 1 50 = 1 ∧ mi h 1 50 = 1) → Q none (mm_up σ 10 0 1))
    (q0 : (mdr σ r = 1 ∧ mi w 1 50 = 1 ∧ mi h 1 50 = 1) → Q none (mm_up (mm_up (mm_up (mm_up σ 10 0 0) 78 r.toNatClampNeg w) 79 r.toNatClampNeg h) 10 12 0)) : mD (d + 3) 93 [.ref 10, .int r, .int w, .int h] σ Q := by
  have bad : ¬ (mdr σ r = 1 ∧ mi w 1 50 = 1 ∧ mi h 1 50 = 1) → mw (d + 2) mt_93 Q 33 [some (.ref 10), some (.int r), some (.int w), some (.int h)] [.ref 10] σ := fun hn =>
    kb_93_33 (fun z => absurd z (by rw [show (mm_up σ 10 0 (1 : Int32)) 10 0 = 1 from mm_up_s]; decide)) (fun _ => kb_93_44 (q1 hn))
  refine ke_93 (kb_93_0 (c_88 ?_))
  show mw (d + 2) mt_93 Q 6 [some (.ref 10), some (.int r), some (.int w), some (.int h)] [.int (mdr σ r), .ref 10] σ
  refine kb_93_6 (fun a => bad (fun z => absurd (a.symm.trans z.1) (by decide))) (fun a => kb_93_9 (c_87 ?_))
  show mw (d + 2) mt_93 Q 16 [some (.ref 10), some (.int r), some (.int w), some (.int h)] [.int (mi w 1 50), .ref 10] σ
  refine kb_93_16 (fun b => bad (fun z => absurd (b.symm.trans z.2.1) (by decide))) (fun b => kb_93_19 (c_87 ?_))
  show mw (d + 2) mt_93 Q 26 [some (.ref 10), some (.int r), some (.int w), some (.int h)] [.int (mi h 1 50), .ref 10] σ
  refine kb_93_26 (fun c => bad (fun z => absurd (c.symm.trans z.2.2) (by decide))) (fun c => ?_)
  have m0 := (mdr_01 σ r).resolve_left a
  have hin : vp_in r 9 := mi_in (by
    unfold mdr at m0
    rcases mi_01 r 0 8 with e | e
    · rw [if_pos e] at m0; exact absurd m0 (by decide)
    · exact e)
  exact kb_93_29 (fun _ => kb_93_45 hin hin (q0 ⟨m0, (mi_01 w 1 50).resolve_left b, (mi_01 h 1 50).resolve_left c⟩)) (fun z => absurd (by rw [show (mm_up σ 10 0 (0 : Int32)) 10 0 = 0 from mm_up_s]; decide) z)
