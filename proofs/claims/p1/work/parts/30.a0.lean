/-! the law's arm 0: room -/
theorem mm_up_n {σ : mm_S} {k k' j : Nat} {x : Int32} (h : k' ≠ k) : mm_up σ k j x k' = σ k' := by
  unfold mm_up
  first | exact if_neg h | simp [h] | (funext i; simp [h])
theorem xdr_o {σ : mm_S} {r x y : Int32} {k : Nat} (h : k ≠ 1 ∧ k ≠ 11 ∧ k ≠ 12 ∧ k ≠ 13 ∧ k ≠ 14 ∧ k ≠ 15) : xdr σ r x y k = σ k := by
  obtain ⟨h1, h2, h3, h4, h5, h6⟩ := h
  unfold xdr
  rw [mm_up_n h1, mm_up_n h1, mm_up_n h6, mm_up_n h5, mm_up_n h4, mm_up_n h3, mm_up_n h2]
/-- rooms: class and reference hold the same -/
def Rm (σ : mm_S) : Prop := ∀ j, j < 9 → (xd σ (nI j) = 1 ↔ ¬ σ 75 j = 0) ∧ (xd σ (nI j) = 1 → σ 11 j = σ 76 j ∧ σ 12 j = σ 77 j)
theorem Rm_tk {σ : mm_S} {r x y : Int32} (hR : Rm σ) (hr : mi r 0 8 = 1) : (∃ j, j < 9 ∧ mtk σ r x y j) ↔ (xd σ r = 1 ∨ ∃ j, j < 9 ∧ xtk σ x y j) := by
  constructor
  · rintro ⟨j, hj, h1, h2⟩
    have h3 := ((hR j hj).1).mpr h1
    rcases h2 with h2 | h2
    · rw [← h2]; exact Or.inl h3
    · obtain ⟨a1, a2⟩ := (hR j hj).2 h3
      exact Or.inr ⟨j, hj, h3, a1.trans h2.1, a2.trans h2.2⟩
  · rintro (h | ⟨j, hj, h1, h2, h3⟩)
    · obtain ⟨j, hj, e⟩ := vp_in_of (mi_in hr) (by decide)
      rw [e] at h
      exact ⟨j, hj, ((hR j hj).1).mp h, Or.inl e.symm⟩
    · obtain ⟨a1, a2⟩ := (hR j hj).2 h1
      exact ⟨j, hj, ((hR j hj).1).mp h1, Or.inr ⟨a1.symm.trans h2, a2.symm.trans h3⟩⟩
theorem mtk_cg {σ σ' : mm_S} {r x y : Int32} {j : Nat} (h75 : σ' 75 = σ 75) (h76 : σ' 76 = σ 76) (h77 : σ' 77 = σ 77) : mtk σ' r x y j ↔ mtk σ r x y j := by
  unfold mtk
  rw [h75, h76, h77]
/-- both sides' state behind a room that is drawn -/
def rdr (σ : mm_S) (r x y : Int32) : mm_S := mm_up (mm_up (mm_up (mm_up (mm_up (mm_up (xdr σ r x y) 0 3 0) 10 0 0) 75 r.toNatClampNeg (vp_nar .boolean (1 : Int32))) 76 r.toNatClampNeg x) 77 r.toNatClampNeg y) 10 12 0
theorem arm_0 {d : Nat} {xs : Nat → Int32} {len t : Nat} {x4 : Int32} {o5 o6 : Option Value} {σ : mm_S} {f : Nat → Int64} (hR : Rm σ) (h1 : vp_in (x4 + (1 : Int32)) len) (h2 : vp_in (x4 + (2 : Int32)) len) (h3 : vp_in (x4 + (3 : Int32)) len) (ht : t < 512)
    (k1 : lw (d + 3) xs len 512 847 (lL x4 (some (.int 1)) o6) [] (mm_up σ 10 0 1) f (t + 1)) (k2 : lw (d + 3) xs len 512 847 (lL x4 (some (.int 2)) o6) [] (mm_up σ 10 0 2) f (t + 1))
    (k0 : mok (xs (x4 + 1).toNatClampNeg) (xs (x4 + 2).toNatClampNeg) (xs (x4 + 3).toNatClampNeg) → xd σ (xs (x4 + 1).toNatClampNeg) = 0 → (∀ j, j < 9 → ¬ xtk σ (xs (x4 + 2).toNatClampNeg) (xs (x4 + 3).toNatClampNeg) j) → lw (d + 3) xs len 512 847 (lL x4 (some (.int 0)) o6) [] (rdr σ (xs (x4 + 1).toNatClampNeg) (xs (x4 + 2).toNatClampNeg) (xs (x4 + 3).toNatClampNeg)) f (t + 1)) :
    lw (d + 3) xs len 512 112 (lL x4 o5 o6) [] σ f t := by
  have fin : ∀ (k : Int32) (τ : mm_S), τ 10 0 = k → lw (d + 3) xs len 512 847 (lL x4 (some (.int k)) o6) [] τ f (t + 1) → lw (d + 3) xs len 512 158 (lL x4 (some (.int k)) o6) [] τ f (t + 1) := fun k τ hk hc => by
    refine lb_158 (c_86 ?_)
    show lw (d + 3) xs len 512 162 (lL x4 (some (.int k)) o6) [.int (τ 10 0)] τ f (t + 1)
    exact lb_162 (fun _ => lb_169 hc) (fun h => absurd hk h)
  refine lb_112 h1 h2 h3 ht ⟨rfl, x_room (fun hn => Or.inl ⟨rfl, ?_⟩) (fun hm hex => Or.inr ⟨rfl, ?_⟩) (fun hm hz hall => ⟨rfl, ?_⟩)⟩
  · refine lb_134 h1 h2 h3 (c_89 (fun _ => fin 1 _ mm_up_s k1) (fun hm => absurd hm hn) (fun hm => absurd hm hn))
  · refine lb_134 h1 h2 h3 (c_89 (fun hn => absurd hm hn) (fun _ _ => fin 2 _ mm_up_s k2) (fun _ hall => ?_))
    obtain ⟨j, hj, hk⟩ := (Rm_tk hR hm.1).mpr hex
    exact absurd hk (hall j hj)
  · have e75 : (mm_up (xdr σ (xs (x4 + 1).toNatClampNeg) (xs (x4 + 2).toNatClampNeg) (xs (x4 + 3).toNatClampNeg)) 0 3 0) 75 = σ 75 := by rw [mm_up_n (by decide), xdr_o (by decide)]
    have e76 : (mm_up (xdr σ (xs (x4 + 1).toNatClampNeg) (xs (x4 + 2).toNatClampNeg) (xs (x4 + 3).toNatClampNeg)) 0 3 0) 76 = σ 76 := by rw [mm_up_n (by decide), xdr_o (by decide)]
    have e77 : (mm_up (xdr σ (xs (x4 + 1).toNatClampNeg) (xs (x4 + 2).toNatClampNeg) (xs (x4 + 3).toNatClampNeg)) 0 3 0) 77 = σ 77 := by rw [mm_up_n (by decide), xdr_o (by decide)]
    refine lb_134 h1 h2 h3 (c_89 (fun hn => absurd hm hn) (fun _ hex => ?_) (fun _ _ => fin 0 _ ?_ (k0 hm hz hall)))
    · obtain ⟨j, hj, hk⟩ := hex
      rcases (Rm_tk hR hm.1).mp ⟨j, hj, (mtk_cg e75 e76 e77).mp hk⟩ with h | ⟨j, hj, h⟩
      · rw [h] at hz; exact absurd hz (by decide)
      · exact absurd h (hall j hj)
    · rw [mm_up_eq, pk_un (by decide), mm_up_n (by decide), mm_up_n (by decide), mm_up_n (by decide)]
      exact mm_up_s
