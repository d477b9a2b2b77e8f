-- the order of directions: from the west, clockwise
theorem grot {a b c : V2} (ha : 0 < gdt a a) (hb : 0 < gdt b b) (hc : 0 < gdt c c) (nab : ¬ gsd a b) (nac : ¬ gsd a c) (nca : ¬ gsd c a) (ncb : ¬ gsd c b) (h : gso a b c) : gso c a b := by
  rcases gtot hc ha hb nca ncb nab with k | k
  · exact k
  · exact (ginj ha nac h k).elim
theorem gsd_c {u v : V2} (h : gsd u v) : gsd v u := by
  unfold gsd at *
  rw [gcr_anti v u, gdt_comm v u, h.1]
  exact ⟨rfl, h.2⟩
theorem gsd_sg {w a v : V2} (hw : 0 < gdt w w) (h : gsd w a) : (gcr w v < 0 ↔ gcr a v < 0) ∧ (gcr w v = 0 ↔ gcr a v = 0) := by
  obtain ⟨h0, h1⟩ := h
  have e := gdt_id a w v
  rw [gcr_anti a w, h0, Int.neg_zero, Int.mul_zero, Int.zero_add, gdt_comm a w] at e
  constructor
  · constructor
    · intro k
      have := Int.mul_neg_of_pos_of_neg h1 k
      rcases Int.lt_or_le (gcr a v) 0 with z | z
      · exact z
      · have := Int.mul_nonneg (Int.le_of_lt hw) z; omega
    · intro k
      have := Int.mul_neg_of_pos_of_neg hw k
      rcases Int.lt_or_le (gcr w v) 0 with z | z
      · exact z
      · have := Int.mul_nonneg (Int.le_of_lt h1) z; omega
  · constructor
    · intro k
      rw [k, Int.mul_zero] at e
      rcases Int.mul_eq_zero.mp e with z | z
      · omega
      · exact z
    · intro k
      rw [k, Int.mul_zero] at e
      rcases Int.mul_eq_zero.mp e.symm with z | z
      · omega
      · exact z
theorem gsd_so {w a u v : V2} (hw : 0 < gdt w w) (h : gsd w a) : gso w u v ↔ gso a u v := by
  unfold gso
  rw [(gsd_sg hw h).1, (gsd_sg hw h).1]
/-- from w on, clockwise, u comes before v (w's own direction first) -/
def gah (w u v : V2) : Prop := (gsd w u ∧ ¬ gsd w v) ∨ (¬ gsd w u ∧ ¬ gsd w v ∧ gso w u v)
theorem gah_asym {w u v : V2} (h : gah w u v) : ¬ gah w v u := by
  intro k
  rcases h with ⟨h1, h2⟩ | ⟨h1, h2, h3⟩ <;> rcases k with ⟨k1, k2⟩ | ⟨k1, k2, k3⟩
  · exact k2 h1
  · exact k2 h1
  · exact h2 k1
  · exact gso_asym h3 k3
theorem gsd_ww {w u v : V2} (hw : 0 < gdt w w) (hu : 0 < gdt u u) (h1 : gsd w u) (h2 : gsd w v) : gsd u v := by
  have e := (gsd_sg (v := v) hw h1).2.mp h2.1
  have e2 := gdt_id2 w u v
  rw [h1.1, Int.zero_mul, Int.add_zero] at e2
  have p := Int.mul_pos h1.2 h2.2
  exact ⟨e, by
    rcases Int.lt_or_le 0 (gdt u v) with z | z
    · exact z
    · have := Int.mul_nonpos_of_nonneg_of_nonpos (Int.le_of_lt hw) z; omega⟩
theorem gah_tot {w u v : V2} (hw : 0 < gdt w w) (hu : 0 < gdt u u) (hv : 0 < gdt v v) (n : ¬ gsd u v) : gah w u v ∨ gah w v u := by
  by_cases p : gsd w u
  · by_cases q : gsd w v
    · exact absurd (gsd_ww hw hu p q) n
    · exact Or.inl (Or.inl ⟨p, q⟩)
  · by_cases q : gsd w v
    · exact Or.inr (Or.inl ⟨q, p⟩)
    · rcases gtot hw hu hv p q n with k | k
      · exact Or.inl (Or.inr ⟨p, q, k⟩)
      · exact Or.inr (Or.inr ⟨q, p, k⟩)
theorem gah_trans {w u v x : V2} (hw : 0 < gdt w w) (hu : 0 < gdt u u) (hx : 0 < gdt x x) (n : ¬ gsd u x) (h : gah w u v) (k : gah w v x) : gah w u x := by
  rcases h with ⟨h1, h2⟩ | ⟨h1, h2, h3⟩ <;> rcases k with ⟨k1, k2⟩ | ⟨k1, k2, k3⟩
  · exact absurd k1 h2
  · exact Or.inl ⟨h1, k2⟩
  · exact absurd k1 h2
  · exact Or.inr ⟨h1, k2, gtrans hw hu hx h1 h2 k2 n h3 k3⟩
/-- three in their order from w on: the second comes before the third behind the first -/
theorem gah_3 {w a u v : V2} (hw : 0 < gdt w w) (ha : 0 < gdt a a) (hu : 0 < gdt u u) (hv : 0 < gdt v v) (nau : ¬ gsd a u) (nav : ¬ gsd a v) (nuv : ¬ gsd u v) (h : gah w a u) (k : gah w u v) : gso a u v ∧ gso u v a ∧ gso v a u := by
  have nua : ¬ gsd u a := fun z => nau (gsd_c z)
  have nva : ¬ gsd v a := fun z => nav (gsd_c z)
  have nvu : ¬ gsd v u := fun z => nuv (gsd_c z)
  have key : gso a u v := by
    rcases h with ⟨h1, h2⟩ | ⟨h1, h2, h3⟩
    · rcases k with ⟨k1, k2⟩ | ⟨k1, k2, k3⟩
      · exact absurd k1 h2
      · exact (gsd_so hw h1).mp k3
    · rcases k with ⟨k1, k2⟩ | ⟨k1, k2, k3⟩
      · exact absurd k1 h2
      · have nwa : ¬ gsd a w := fun z => h1 (gsd_c z)
        have nwu : ¬ gsd u w := fun z => h2 (gsd_c z)
        have nwv : ¬ gsd v w := fun z => k2 (gsd_c z)
        -- [u, v, w] and [u, w, a]
        have r1 : gso v w u := grot hw hu hv h2 k2 nwv nvu k3
        have r2 : gso u v w := grot hv hw hu nwv nvu nuv nwu r1
        have r3 : gso u w a := grot hw ha hu h1 h2 nwu nua h3
        have r4 : gso u v a := gtrans hu hv ha nuv nwu nua nva r2 r3
        exact grot hu hv ha nuv nua nau nav r4
  have r1 : gso v a u := grot ha hu hv nau nav nva nvu key
  exact ⟨key, grot hv ha hu nva nvu nuv nua r1, r1⟩
/-! the reference's parts -/
def wst : V2 := (-1, 0)
theorem wst_pos : 0 < gdt wst wst := by decide
def gpt (x y : Int) : Nat := if x < 0 ∧ y = 0 then 0 else if x < 0 ∧ 0 < y then 1 else if 0 ≤ x ∧ 0 < y then 2 else if 0 < x ∧ y ≤ 0 then 3 else 4
theorem f_102_n (x y : Int32) : f_102 x y = nI (gpt x.toInt y.toInt) := by
  have e0 : (0 : Int32).toInt = 0 := by decide
  unfold f_102 gpt
  simp only [Int32.le_iff_toInt_le, Int32.lt_iff_toInt_lt, ← Int32.toInt_inj, e0]
  rcases Int.lt_trichotomy x.toInt 0 with a | a | a <;> rcases Int.lt_trichotomy y.toInt 0 with b | b | b
  all_goals (repeat' split) <;> first | rfl | (exfalso; omega)
theorem gpt_lt (x y : Int) : gpt x y < 5 := by
  unfold gpt
  repeat' split
  all_goals omega
theorem gah_w (u v : V2) : gah wst u v ↔ ((u.2 = 0 ∧ u.1 < 0) ∧ ¬ (v.2 = 0 ∧ v.1 < 0)) ∨ (¬ (u.2 = 0 ∧ u.1 < 0) ∧ ¬ (v.2 = 0 ∧ v.1 < 0) ∧ ((0 < u.2 ∧ ¬ 0 < v.2) ∨ ((0 < u.2 ↔ 0 < v.2) ∧ gcr u v < 0))) := by
  have c1 : ∀ x : V2, gcr wst x = - x.2 := fun x => by unfold gcr wst; show (-1) * x.2 - 0 * x.1 = _; omega
  have c2 : ∀ x : V2, gdt wst x = - x.1 := fun x => by unfold gdt wst; show (-1) * x.1 + 0 * x.2 = _; omega
  have c3 : ∀ x : V2, gsd wst x ↔ (x.2 = 0 ∧ x.1 < 0) := fun x => by unfold gsd; rw [c1, c2]; omega
  have c4 : ∀ x : V2, gcr wst x < 0 ↔ 0 < x.2 := fun x => by rw [c1]; omega
  unfold gah gso
  rw [c3, c3, c4, c4]
theorem gpt_c {a b : Int} (h : ¬ (a = 0 ∧ b = 0)) : (gpt a b = 0 ∧ a < 0 ∧ b = 0) ∨ (gpt a b = 1 ∧ a < 0 ∧ 0 < b) ∨ (gpt a b = 2 ∧ 0 ≤ a ∧ 0 < b) ∨ (gpt a b = 3 ∧ 0 < a ∧ b ≤ 0) ∨ (gpt a b = 4 ∧ a ≤ 0 ∧ b < 0) := by
  unfold gpt
  by_cases h1 : a < 0 ∧ b = 0
  · rw [if_pos h1]; omega
  · rw [if_neg h1]
    by_cases h2 : a < 0 ∧ 0 < b
    · rw [if_pos h2]; omega
    · rw [if_neg h2]
      by_cases h3 : 0 ≤ a ∧ 0 < b
      · rw [if_pos h3]; omega
      · rw [if_neg h3]
        by_cases h4 : 0 < a ∧ b ≤ 0
        · rw [if_pos h4]; omega
        · rw [if_neg h4]; omega
theorem gah_pt {u v : V2} (hu : ¬ (u.1 = 0 ∧ u.2 = 0)) (hv : ¬ (v.1 = 0 ∧ v.2 = 0)) : (gpt u.1 u.2 < gpt v.1 v.2 ∨ (gpt u.1 u.2 = gpt v.1 v.2 ∧ gcr u v < 0)) ↔ gah wst u v := by
  rw [gah_w]
  have cu := gpt_c hu
  have cv := gpt_c hv
  have eg : gcr u v = u.1 * v.2 - u.2 * v.1 := rfl
  rw [eg]
  generalize gpt u.1 u.2 = P at *
  generalize gpt v.1 v.2 = R at *
  generalize u.1 = a at *
  generalize u.2 = b at *
  generalize v.1 = x at *
  generalize v.2 = y at *
  clear eg hu hv
  -- the signs of the products
  have s1 : a < 0 → 0 ≤ x → 0 < b → 0 < y → a * y - b * x < 0 := fun h1 h2 h3 h4 => by
    have := Int.mul_neg_of_neg_of_pos h1 h4
    have := Int.mul_nonneg (Int.le_of_lt h3) h2
    omega
  have s2 : 0 ≤ a → x < 0 → 0 < b → 0 < y → 0 < a * y - b * x := fun h1 h2 h3 h4 => by
    have := Int.mul_nonneg h1 (Int.le_of_lt h4)
    have := Int.mul_neg_of_pos_of_neg h3 h2
    omega
  have s3 : 0 < a → b ≤ 0 → x ≤ 0 → y < 0 → a * y - b * x < 0 := fun h1 h2 h3 h4 => by
    have := Int.mul_neg_of_pos_of_neg h1 h4
    have := Int.mul_nonneg_of_nonpos_of_nonpos h2 h3
    omega
  have s4 : a ≤ 0 → b < 0 → 0 < x → y ≤ 0 → 0 < a * y - b * x := fun h1 h2 h3 h4 => by
    have := Int.mul_nonneg_of_nonpos_of_nonpos h1 h4
    have := Int.mul_neg_of_neg_of_pos h2 h3
    omega
  have s5 : b = 0 → y = 0 → a * y - b * x = 0 := fun h1 h2 => by rw [h1, h2, Int.mul_zero, Int.zero_mul]; rfl
  generalize a * y - b * x = g at *
  rcases cu with ⟨e, h1, h2⟩ | ⟨e, h1, h2⟩ | ⟨e, h1, h2⟩ | ⟨e, h1, h2⟩ | ⟨e, h1, h2⟩ <;> rcases cv with ⟨e', h3, h4⟩ | ⟨e', h3, h4⟩ | ⟨e', h3, h4⟩ | ⟨e', h3, h4⟩ | ⟨e', h3, h4⟩ <;> subst e <;> subst e' <;> omega
theorem f_103_cg {σ ρ : mm_S} (h76 : ρ 76 = σ 76) (h77 : ρ 77 = σ 77) (h80 : ρ 80 = σ 80) (h81 : ρ 81 = σ 81) : f_103 ρ = f_103 σ := by
  funext a b c
  unfold f_103 f_101
  rw [h76, h77, h80, h81]
theorem f_103_ah {σ : mm_S} {r k l o p : Nat} (hr : PR σ r) (ho : PR σ o) (hp : PR σ p) (eo : f_101 σ (nI k) (nI r) = nI o) (ep : f_101 σ (nI l) (nI r) = nI p) (no : ¬ ((vc σ r o).1 = 0 ∧ (vc σ r o).2 = 0)) (np : ¬ ((vc σ r p).1 = 0 ∧ (vc σ r p).2 = 0)) : f_103 σ (nI k) (nI l) (nI r) = 1 ↔ gah wst (vc σ r o) (vc σ r p) := by
  obtain ⟨r9, gr, r1, r2⟩ := hr
  obtain ⟨o9, go, o1, o2⟩ := ho
  obtain ⟨p9, gp, p1, p2⟩ := hp
  rw [← gah_pt no np]
  unfold f_103
  rw [eo, ep, nI_clamp (show r < 2 ^ 31 by omega), nI_clamp (show o < 2 ^ 31 by omega), nI_clamp (show p < 2 ^ 31 by omega), r1, r2, o1, o2, p1, p2]
  obtain ⟨gr1, gr2, gr3, gr4⟩ := gr
  obtain ⟨go1, go2, go3, go4⟩ := go
  obtain ⟨gp1, gp2, gp3, gp4⟩ := gp
  unfold pX at gr1 gr2 go1 go2 gp1 gp2
  unfold pY at gr3 gr4 go3 go4 gp3 gp4
  have d1 : (σ 11 o - σ 11 r).toInt = (vc σ r o).1 := i32_sub (by omega)
  have d2 : (σ 12 o - σ 12 r).toInt = (vc σ r o).2 := i32_sub (by omega)
  have d3 : (σ 11 p - σ 11 r).toInt = (vc σ r p).1 := i32_sub (by omega)
  have d4 : (σ 12 p - σ 12 r).toInt = (vc σ r p).2 := i32_sub (by omega)
  have cr := tn_toInt (a := σ 11 r) (b := σ 12 r) (c := σ 11 o) (e := σ 12 o) (f := σ 11 p) (g := σ 12 p) ⟨⟨gr1, gr2⟩, ⟨gr3, gr4⟩, ⟨go1, go2⟩, ⟨go3, go4⟩, ⟨gp1, gp2⟩, ⟨gp3, gp4⟩⟩
  have cr' : (((σ 11 o - σ 11 r) * (σ 12 p - σ 12 r)) - ((σ 12 o - σ 12 r) * (σ 11 p - σ 11 r))).toInt = gcr (vc σ r o) (vc σ r p) := cr
  rw [f_102_n, f_102_n, d1, d2, d3, d4]
  have l1 := gpt_lt (vc σ r o).1 (vc σ r o).2
  have l2 := gpt_lt (vc σ r p).1 (vc σ r p).2
  generalize gpt (vc σ r o).1 (vc σ r o).2 = P at *
  generalize gpt (vc σ r p).1 (vc σ r p).2 = R at *
  by_cases e : P = R
  · rw [if_pos (by rw [e])]
    have g0 : 0 ≤ ((σ 11 o - σ 11 r) * (σ 12 p - σ 12 r)) - ((σ 12 o - σ 12 r) * (σ 11 p - σ 11 r)) ↔ ¬ gcr (vc σ r o) (vc σ r p) < 0 := by rw [ge0, cr']
    by_cases z : gcr (vc σ r o) (vc σ r p) < 0
    · rw [if_neg (fun y => g0.mp y z)]
      exact ⟨fun _ => Or.inr ⟨e, z⟩, fun _ => rfl⟩
    · rw [if_pos (g0.mpr z)]
      exact ⟨fun y => absurd y (by decide), fun y => by rcases y with y | y; omega; exact absurd y.2 z⟩
  · rw [if_neg (fun y => e ((nI_eq (by omega) (by omega)).mp y))]
    by_cases z : R ≤ P
    · rw [if_pos (hI_le (by omega) z)]
      exact ⟨fun y => absurd y (by decide), fun y => by omega⟩
    · rw [if_neg (hI_nle (by omega) (by omega))]
      exact ⟨fun _ => Or.inl (by omega), fun _ => rfl⟩

