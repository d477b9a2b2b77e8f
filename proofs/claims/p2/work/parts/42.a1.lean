/-! join: the reference's contract, the law's arm 1 -/
def mjd (σ : mm_S) (a b : Int32) (n : Nat) : mm_S := mm_up (mm_up (mm_up (mm_up (mm_up (mm_up σ 10 0 0) 80 n a) 81 n b) 82 n 1) 10 6 (nI (n + 1))) 10 12 0
theorem mdr_in {σ : mm_S} {r : Int32} (h : mdr σ r = 1) : vp_in r 9 := mi_in (by
  unfold mdr at h
  rcases mi_01 r 0 8 with e | e
  · rw [if_pos e] at h; exact absurd h (by decide)
  · exact e)
theorem nI_m1 {j : Nat} (h : j < 2 ^ 31) : ¬ nI j = -1 := fun z => by
  have h1 := congrArg Int32.toInt z
  rw [nI_toInt h, show (-1 : Int32).toInt = -1 by decide] at h1
  omega
theorem c_91 {d n : Nat} {Q : mm_Q} {a b : Int32} {σ : mm_S} (M : Mr σ n) (q1 : (a = b ∨ mdr σ a = 0 ∨ mdr σ b = 0) → Q (some (.int 0)) (mm_up σ 10 0 1))
    (q2 : ¬ a = b → mdr σ a = 1 → mdr σ b = 1 → ((∃ k, k < n ∧ mjn σ a b k) ∨ n = 21) → Q (some (.int 0)) (mm_up σ 10 0 2))
    (q0 : ¬ a = b → mdr σ a = 1 → mdr σ b = 1 → (∀ k, k < n → ¬ mjn σ a b k) → n < 21 → Q (some (.int (nI n))) (mjd σ a b n)) : mD (d + 3) 91 [.ref 10, .int a, .int b] σ Q := by
  obtain ⟨hn, e6, hr⟩ := M
  have bad : (a = b ∨ mdr σ a = 0 ∨ mdr σ b = 0) → mw (d + 2) mt_91 Q 22 [some (.ref 10), some (.int a), some (.int b)] [.ref 10] σ := fun h =>
    kb_91_22 (fun g => absurd (show (1 : Int32) ≤ 0 from g) (by decide)) (fun _ => kb_91_60 (q1 h))
  refine ke_91 (kb_91_0 (fun h => bad (Or.inl h)) (fun hab => kb_91_6 (c_88 (kb_91_11 (fun h => bad (Or.inr (Or.inl h))) (fun ha => kb_91_14 (c_88 (kb_91_19 (fun h => bad (Or.inr (Or.inr h))) (fun hb => kb_91_26 ?_))))))))
  have a1 := (mdr_01 σ a).resolve_left ha
  have b1 := (mdr_01 σ b).resolve_left hb
  have ful : ((∃ k, k < n ∧ mjn σ a b k) ∨ n = 21) → mw (d + 2) mt_91 Q 45 [some (.ref 10), some (.int a), some (.int b)] [.ref 10] σ := fun h =>
    kb_91_45 (fun g => absurd (show (2 : Int32) ≤ 0 from g) (by decide)) (fun _ => kb_91_60 (q2 hab a1 b1 h))
  refine c_90 hn e6 (fun j hj h1 h2 => kb_91_32 (fun z => absurd z (nI_m1 (by omega))) (fun _ => ful (Or.inl ⟨j, hj, h1⟩))) (fun hall => kb_91_32 (fun _ => kb_91_36 (fun z => ful (Or.inr ?_)) (fun z => kb_91_49 (fun _ => ?_) (fun g => absurd (show (0 : Int32) ≤ 0 from by decide) g))) (fun z => absurd rfl z))
  · rw [e6] at z
    exact (nI_eq (b := 21) (by omega) (by omega)).mp z
  · have hlt : n < 21 := by
      rcases Nat.lt_or_ge n 21 with h | h
      · exact h
      · exact absurd (by rw [e6, show n = 21 by omega]; rfl) z
    have hv : vp_in (σ 10 6) 21 := by rw [e6]; exact pk_in n 21 hlt
    have key : Q (some (.int ((σ 10 6 + 1) - 1))) (mm_up (mm_up (mm_up (mm_up (mm_up (mm_up σ 10 0 0) 80 (σ 10 6).toNatClampNeg a) 81 (σ 10 6).toNatClampNeg b) 82 (σ 10 6).toNatClampNeg 1) 10 6 (σ 10 6 + 1)) 10 12 0) := by
      rw [e6, nI_1, nI_pred, nI_clamp (by omega)]
      exact q0 hab a1 b1 hall hlt
    exact kb_91_62 hv hv hv key
/-- the class's state behind a join that is drawn -/
def cjd (σ : mm_S) (a b : Int32) (n : Nat) : mm_S := mm_up (mm_up (mm_up (mm_up (mm_up (mm_up (mm_up σ 16 n a) 17 n b) 18 n 1) 15 a.toNatClampNeg (σ 15 a.toNatClampNeg ||| ((1 : Int32) <<< (b &&& 31)))) 15 b.toNatClampNeg (σ 15 b.toNatClampNeg ||| ((1 : Int32) <<< (a &&& 31)))) 1 12 (nI (n + 1))) 0 3 0
theorem cjd_o {σ : mm_S} {a b : Int32} {n k : Nat} (h : k ≠ 0 ∧ k ≠ 1 ∧ k ≠ 15 ∧ k ≠ 16 ∧ k ≠ 17 ∧ k ≠ 18) : cjd σ a b n k = σ k := by
  obtain ⟨h0, h1, h2, h3, h4, h5⟩ := h
  unfold cjd
  rw [mm_up_n h0, mm_up_n h1, mm_up_n h2, mm_up_n h2, mm_up_n h5, mm_up_n h4, mm_up_n h3]
theorem x_join {d n : Nat} {Q : mm_Q} {XQ : Nat → mm_S → Prop} {a b : Int32} {σ : mm_S} (J : Jr σ n) (e0 : (a = b ∨ xd σ a = 0 ∨ xd σ b = 0) → XQ 0 σ)
    (e1 : ¬ a = b → xd σ a = 1 → xd σ b = 1 → (hs (σ 15 a.toNatClampNeg) b = 1 ∨ n = 21) → XQ 1 σ)
    (q : ¬ a = b → xd σ a = 1 → xd σ b = 1 → hs (σ 15 a.toNatClampNeg) b = 0 → n < 21 → Q (some (.int (nI n))) (cjd σ a b n)) : xD (d + 2) 1 [.ref 0, .int a, .int b] σ Q XQ := by
  obtain ⟨hn, e12, hr⟩ := J
  have dn : ∀ r, ¬ xd σ r = 0 → xd σ r = 1 := fun r h => (xd_01 σ r).resolve_left h
  have lt21 : σ 1 12 < 21 → n < 21 := fun h => by
    rw [e12] at h
    exact (nI_ltI (b := 21) (by omega) (by omega)).mp h
  refine xz_1 (fun _ h _ => xd_in (dn _ h)) (fun _ _ _ _ h => ?_) (fun _ h _ _ _ => xd_in (dn _ h)) (fun _ _ h _ _ => xd_in (dn _ h)) (fun h => e0 (Or.inl h)) (fun _ h => e0 (Or.inr (Or.inl h))) (fun _ _ h => e0 (Or.inr (Or.inr h))) (fun hab ha hb h0 hl => ?_) (fun hab ha hb h0 hl => e1 hab (dn _ ha) (dn _ hb) (Or.inr ?_)) (fun hab ha hb h0 => e1 hab (dn _ ha) (dn _ hb) (Or.inl ((hs_01 _ _).resolve_left h0)))
  · rw [e12]; exact pk_in n 21 (lt21 h)
  · have ia := xd_in (dn _ ha)
    have ib := xd_in (dn _ hb)
    obtain ⟨i, hi, ei⟩ := vp_in_of ia (by decide)
    obtain ⟨j, hj, ej⟩ := vp_in_of ib (by decide)
    have hne : b.toNatClampNeg ≠ a.toNatClampNeg := by
      rw [ei, ej, nI_clamp (by omega), nI_clamp (by omega)]
      intro z
      exact hab (by rw [ei, ej, z])
    have h := q hab (dn _ ha) (dn _ hb) h0 (lt21 hl)
    have er : ∀ v : Int32, (mm_up (mm_up (mm_up (mm_up σ 16 n a) 17 n b) 18 n 1) 15 a.toNatClampNeg v) 15 b.toNatClampNeg = σ 15 b.toNatClampNeg := fun v => by
      rw [mm_up_o hne, mm_up_n (by decide), mm_up_n (by decide), mm_up_n (by decide)]
    rw [e12, nI_1, nI_pred, nI_clamp (by omega), er]
    exact h
  · rcases Nat.lt_or_ge n 21 with h | h
    · exact absurd (by rw [e12]; exact (nI_ltI (b := 21) (by omega) (by omega)).mpr h) hl
    · omega
/-- joins: class and reference hold the same -/
def Jn (σ : mm_S) (n : Nat) : Prop := Jr σ n ∧ Mr σ n ∧ ∀ a b : Int32, xd σ a = 1 → xd σ b = 1 → (hs (σ 15 a.toNatClampNeg) b = 1 ↔ ∃ k, k < n ∧ mjn σ a b k)
