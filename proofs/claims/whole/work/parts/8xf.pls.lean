-- places: differences, the least of all, and how it is reached
def lowr (D ja jb : Nat → Nat) (e : Nat) : Nat := if D e % 2 = 0 then ja e else jb e
def higr (D ja jb : Nat → Nat) (e : Nat) : Nat := if D e % 2 = 0 then jb e else ja e
def CSt (rm : Nat → Prop) (n : Nat) (D ja jb wsh wid hgt : Nat → Nat) (ea no : Nat → Prop) (x y c : Nat) : Prop :=
  (∃ e, e < n ∧ c = 0 ∧ ((x = 4 * higr D ja jb e + D e / 2 ∧ y = 4 * lowr D ja jb e + D e / 2 + 2) ∨ (x = 4 * lowr D ja jb e + D e / 2 + 2 ∧ y = 4 * higr D ja jb e + D e / 2))) ∨
  (∃ e X Y, e < n ∧ c = wsh e ∧ (X = ja e ∨ X = jb e) ∧ (Y = ja e ∨ Y = jb e) ∧ x = 4 * X + (1 - D e / 2) ∧ y = 4 * Y + (1 - D e / 2) + 2) ∨
  (∃ i, rm i ∧ ((c = wid i ∧ x = 4 * i ∧ y = 4 * i + 2) ∨ (c = hgt i ∧ x = 4 * i + 1 ∧ y = 4 * i + 3))) ∨
  (∃ i j, c = 0 ∧ ((ea i ∧ ea j ∧ x = 4 * i + 2 ∧ y = 4 * j + 2) ∨ (no i ∧ no j ∧ x = 4 * i + 3 ∧ y = 4 * j + 3)))
def Sol (S : Nat → Nat → Nat → Prop) (V : Nat → Nat) : Prop := ∀ x y c, S x y c → V x + c ≤ V y
/-- the least solution -/
def LSo (S : Nat → Nat → Nat → Prop) (V : Nat → Nat) : Prop := Sol S V ∧ ∀ V', Sol S V' → ∀ x, V x ≤ V' x
theorem LSo_ex {S : Nat → Nat → Nat → Prop} (h : ∃ V, Sol S V) : ∃ V, LSo S V := by
  have mn : ∀ x, ∃ k, (∃ V, Sol S V ∧ V x = k) ∧ ∀ V, Sol S V → k ≤ V x := fun x => by
    obtain ⟨V, hV⟩ := h
    have : ∀ k, (∃ V, Sol S V ∧ V x = k) → ∃ k, (∃ V, Sol S V ∧ V x = k) ∧ ∀ V, Sol S V → k ≤ V x := fun k => by
      induction k using Nat.strongRecOn with
      | ind k IH =>
        intro hk
        by_cases q : ∃ V, Sol S V ∧ V x < k
        · obtain ⟨V, h1, h2⟩ := q
          exact IH (V x) h2 ⟨V, h1, rfl⟩
        · refine ⟨k, hk, fun V hV => ?_⟩
          rcases Nat.lt_or_ge (V x) k with z | z
          · exact absurd ⟨V, hV, z⟩ q
          · exact z
    exact this (V x) ⟨V, hV, rfl⟩
  refine ⟨fun x => (mn x).choose, fun x y c hc => ?_, fun V' h' x => (mn x).choose_spec.2 V' h'⟩
  obtain ⟨V, h1, h2⟩ := (mn y).choose_spec.1
  have h3 := (mn x).choose_spec.2 V h1
  have h4 := h1 x y c hc
  show (mn x).choose + c ≤ (mn y).choose
  rw [← h2]
  omega
/-- not all settled: one more can be -/
theorem settle1 {S : Nat → Nat → Nat → Prop} {V v : Nat → Nat} (L : LSo S V) (le : ∀ x, v x ≤ V x) (ne : ∃ x, v x < V x) : ∃ x y c, S x y c ∧ v x = V x ∧ v y < V y ∧ V x + c = V y := by
  refine Classical.not_not.mp (fun no => ?_)
  have sol : Sol S (fun y => if v y < V y then V y - 1 else V y) := fun x y c hc => by
    have h := L.1 x y c hc
    show (if v x < V x then V x - 1 else V x) + c ≤ if v y < V y then V y - 1 else V y
    by_cases hy : v y < V y
    · rw [if_pos hy]
      by_cases hx : v x < V x
      · rw [if_pos hx]; omega
      · rw [if_neg hx]
        have hx' : v x = V x := by have := le x; omega
        have : V x + c ≠ V y := fun e => no ⟨x, y, c, hc, hx', hy, e⟩
        omega
    · rw [if_neg hy]
      split <;> omega
  obtain ⟨x, hx⟩ := ne
  have := L.2 _ sol x
  have h2 : V x ≤ if v x < V x then V x - 1 else V x := this
  rw [if_pos hx] at h2
  omega
/-- a round: nothing falls, nothing goes too high, each wish is met as it stood before -/
def RND1 (S : Nat → Nat → Nat → Prop) (V v v' : Nat → Nat) : Prop := (∀ x, v x ≤ v' x ∧ v' x ≤ V x) ∧ ∀ x y c, S x y c → v x + c ≤ v' y
noncomputable def stl (V v : Nat → Nat) : Nat := ct (fun x => v x = V x) 36
theorem stl_up {S : Nat → Nat → Nat → Prop} {V v v' : Nat → Nat} (L : LSo S V) (R : RND1 S V v v') (le : ∀ x, v x ≤ V x) (dom : ∀ x, 36 ≤ x → v x = V x) : stl V v' = 36 ∨ stl V v + 1 ≤ stl V v' := by
  by_cases ne : ∃ x, v x < V x
  · right
    obtain ⟨x, y, c, h1, h2, h3, h4⟩ := settle1 L le ne
    have y36 : y < 36 := by
      rcases Nat.lt_or_ge y 36 with z | z
      · exact z
      · have := dom y z; omega
    have hy : v' y = V y := by
      have a := R.2 x y c h1
      have b := (R.1 y).2
      omega
    unfold stl
    rw [ct_ins (P := fun x => v' x = V x) 36 y36 hy]
    have := ct_le (P := fun x => v x = V x) (Q := fun j => v' j = V j ∧ j ≠ y) 36 (fun j _ e => ⟨by have := R.1 j; omega, fun z => by rw [z] at e; omega⟩)
    omega
  · left
    unfold stl
    have : ct (fun x => v' x = V x) 36 = ct (fun _ => True) 36 := ct_cg 36 (fun x _ => ⟨fun _ => trivial, fun _ => by
      have a := R.1 x
      have b := le x
      rcases Nat.lt_or_ge (v x) (V x) with z | z
      · exact absurd ⟨x, z⟩ ne
      · omega⟩)
    rw [this]
    exact ct_T 36
theorem stl_full {V v : Nat → Nat} (h : stl V v = 36) : ∀ x, x < 36 → v x = V x := fun x hx => by
  refine Classical.not_not.mp (fun n => ?_)
  have h1 : ct (fun _ => True) 36 = ct (fun j => True ∧ j ≠ x) 36 + 1 := ct_ins (P := fun _ => True) 36 hx trivial
  rw [ct_T] at h1
  have h2 := ct_le (P := fun j => v j = V j) (Q := fun j => True ∧ j ≠ x) 36 (fun j _ e => ⟨trivial, fun z => n (z ▸ e)⟩)
  unfold stl at h
  omega
section PSX
variable {σ : mm_S} {n m : Nat} {B : Nat → Nat → Nat} {s t L f : Nat} {Mk : Nat → Nat} {lab : Nat × Nat → Int32} {p K : Nat → Nat}
/-- near a side, by the mask -/
def neS (K : Nat → Nat) (s r : Nat) : Prop := r < 9 ∧ (K r).testBit (9 + s) = true
/-- places that meet all wishes there are -/
theorem PLD.sol (P : PLD σ n m B s t L f Mk lab p K) {sd : Nat → Nat → Nat} (Y : LYa (rmx m) (nrP σ m B s t L p) (BpP B s t L p) sd) {D wsh wid hgt : Nat → Nat} (hD : ∀ e, e < n → D e = dvec (jA σ) (jB σ) sd e) (hj : ∀ e, e < n → rmx m (jA σ e) ∧ rmx m (jB σ e) ∧ aj σ (jA σ e) (jB σ e)) (hw : ∀ e, e < n → wsh e ≤ 20) (hv : ∀ i, rmx m i → wid i ≤ 50 ∧ hgt i ≤ 50) : ∃ V, Sol (CSt (rmx m) n D (jA σ) (jB σ) wsh wid hgt (neS K 1) (neS K 0)) V ∧ ∀ x, V x ≤ 4050 := by
  have Dk := P.dsk
  have KP := P.kpa
  have NQ := P.nqa Y
  obtain ⟨l0, h0, H0, a1, a2, a3, a4, a5, a6⟩ := crd Dk KP Y NQ (show 0 < 4 by decide)
  obtain ⟨l3, h3, H3, b1, b2, b3, b4, b5, b6⟩ := crd Dk KP Y NQ (show 3 < 4 by decide)
  have nes : ∀ s' r, s' < 4 → neS K s' r → nrs (qo B s t p) (bo4 L p) r s' := fun s' r s4 h => by
    rcases (P.kn (show r < 13 by have := h.1; omega)).mp h.2 with ⟨_, z⟩ | ⟨i, i4, e, z⟩ | ⟨i, i4, e, z⟩ | ⟨i, i', _, _, e, _⟩
    · have := z.1; omega
    · rw [show s' = i by omega]; exact z
    · have := h.1; omega
    · have := h.1; omega
  have low : ∀ r, rmx m r → l0 r ≤ 81 ∧ l3 r ≤ 81 := fun r hr => ⟨by have := a1 r; have := a2 r hr; omega, by have := b1 r; have := b2 r hr; omega⟩
  obtain ⟨va, hva⟩ : ∃ va : Nat → Nat, va = fun x => if x % 4 = 0 then 50 * l0 (x / 4) else if x % 4 = 1 then 50 * l3 (x / 4) else if x % 4 = 2 then 50 * h0 (x / 4) else 50 * h3 (x / 4) := ⟨_, rfl⟩
  have v0 : ∀ i, va (4 * i) = 50 * l0 i := fun i => by rw [hva]; show (if 4 * i % 4 = 0 then _ else _) = _; rw [if_pos (by omega), show 4 * i / 4 = i by omega]
  have v1 : ∀ i, va (4 * i + 1) = 50 * l3 i := fun i => by rw [hva]; show (if (4 * i + 1) % 4 = 0 then _ else if (4 * i + 1) % 4 = 1 then _ else _) = _; rw [if_neg (by omega), if_pos (by omega), show (4 * i + 1) / 4 = i by omega]
  have v2 : ∀ i, va (4 * i + 2) = 50 * h0 i := fun i => by rw [hva]; show (if (4 * i + 2) % 4 = 0 then _ else if (4 * i + 2) % 4 = 1 then _ else if (4 * i + 2) % 4 = 2 then _ else _) = _; rw [if_neg (by omega), if_neg (by omega), if_pos (by omega), show (4 * i + 2) / 4 = i by omega]
  have v3 : ∀ i, va (4 * i + 3) = 50 * h3 i := fun i => by rw [hva]; show (if (4 * i + 3) % 4 = 0 then _ else if (4 * i + 3) % 4 = 1 then _ else if (4 * i + 3) % 4 = 2 then _ else _) = _; rw [if_neg (by omega), if_neg (by omega), if_neg (by omega), show (4 * i + 3) / 4 = i by omega]
  have val : ∀ i q, rmx m i → q < 4 → ic (rmx m ((4 * i + q) / 4)) * va (4 * i + q) = va (4 * i + q) := fun i q hi hq => by rw [show (4 * i + q) / 4 = i by omega, ic_t hi, Nat.one_mul]
  refine ⟨fun x => ic (rmx m (x / 4)) * va x, fun x y c hc => ?_, fun x => ?_⟩
  · show ic (rmx m (x / 4)) * va x + c ≤ ic (rmx m (y / 4)) * va y
    rcases hc with ⟨e, he, hc, h⟩ | ⟨e, X, Z, he, hc, hX, hZ, ex, ey⟩ | ⟨i, hi, h⟩ | ⟨i, j, hc, h⟩
    · -- beside one another
      obtain ⟨rA, rB, ab⟩ := hj e he
      have sl := Y.lt _ _ rA (Or.inl ⟨rA, ab⟩)
      have op := Y.op _ _ rA rB (Or.inl ⟨rA, ab⟩)
      have ba := (P.w.ed rA ab).2.2.1
      have d := hD e he
      subst hc
      unfold dvec dv at d
      have cs : (sd (jA σ e) (jB σ e) = 1 ∧ D e = 0) ∨ (sd (jA σ e) (jB σ e) = 3 ∧ D e = 1) ∨ (sd (jA σ e) (jB σ e) = 0 ∧ D e = 2) ∨ (sd (jA σ e) (jB σ e) = 2 ∧ D e = 3) := by
        rcases (show sd (jA σ e) (jB σ e) = 0 ∨ sd (jA σ e) (jB σ e) = 1 ∨ sd (jA σ e) (jB σ e) = 2 ∨ sd (jA σ e) (jB σ e) = 3 by omega) with z | z | z | z <;> rw [z] at d ⊢ <;> simp at d <;> omega
      have fin : ∀ lo hi, rmx m lo → rmx m hi → ((D e / 2 = 0 ∧ h0 lo = l0 hi) ∨ (D e / 2 = 1 ∧ h3 lo = l3 hi)) → ((x = 4 * hi + D e / 2 ∧ y = 4 * lo + D e / 2 + 2) ∨ (x = 4 * lo + D e / 2 + 2 ∧ y = 4 * hi + D e / 2)) → ic (rmx m (x / 4)) * va x + 0 ≤ ic (rmx m (y / 4)) * va y := fun lo hi r1 r2 h1 h2 => by
        rcases h1 with ⟨z, k⟩ | ⟨z, k⟩ <;> rw [z] at h2 <;> rcases h2 with ⟨u, w⟩ | ⟨u, w⟩ <;> subst u <;> subst w
        · rw [val hi 0 r2 (by decide), val lo 2 r1 (by decide), v2, Nat.add_zero, Nat.add_zero, v0, k]; exact Nat.le_refl _
        · rw [val hi 0 r2 (by decide), val lo 2 r1 (by decide), v2, Nat.add_zero, Nat.add_zero, v0, k]; exact Nat.le_refl _
        · rw [val hi 1 r2 (by decide), show 4 * lo + 1 + 2 = 4 * lo + 3 by omega, val lo 3 r1 (by decide), v3, v1, k]; exact Nat.le_refl _
        · rw [val hi 1 r2 (by decide), show 4 * lo + 1 + 2 = 4 * lo + 3 by omega, val lo 3 r1 (by decide), v3, v1, k]; exact Nat.le_refl _
      unfold lowr higr at h
      rcases cs with ⟨z, w⟩ | ⟨z, w⟩ | ⟨z, w⟩ | ⟨z, w⟩
      · rw [if_pos (by omega), if_pos (by omega)] at h
        exact fin _ _ rA rB (Or.inl ⟨by omega, a5 _ _ rA ab z⟩) h
      · rw [if_neg (by omega), if_neg (by omega)] at h
        exact fin _ _ rB rA (Or.inl ⟨by omega, a5 _ _ rB ba (by omega)⟩) h
      · rw [if_pos (by omega), if_pos (by omega)] at h
        exact fin _ _ rA rB (Or.inr ⟨by omega, b5 _ _ rA ab z⟩) h
      · rw [if_neg (by omega), if_neg (by omega)] at h
        exact fin _ _ rB rA (Or.inr ⟨by omega, b5 _ _ rB ba (by omega)⟩) h
    · -- along the wall
      obtain ⟨rA, rB, ab⟩ := hj e he
      have sl := Y.lt _ _ rA (Or.inl ⟨rA, ab⟩)
      have op := Y.op _ _ rA rB (Or.inl ⟨rA, ab⟩)
      have ba := (P.w.ed rA ab).2.2.1
      have d := hD e he
      unfold dvec dv at d
      have w20 := hw e he
      have rX : rmx m X := by rcases hX with z | z <;> rw [z] <;> assumption
      have rZ : rmx m Z := by rcases hZ with z | z <;> rw [z] <;> assumption
      have cs : ((sd (jA σ e) (jB σ e) = 1 ∨ sd (jA σ e) (jB σ e) = 3) ∧ D e / 2 = 0) ∨ ((sd (jA σ e) (jB σ e) = 0 ∨ sd (jA σ e) (jB σ e) = 2) ∧ D e / 2 = 1) := by
        rcases (show sd (jA σ e) (jB σ e) = 0 ∨ sd (jA σ e) (jB σ e) = 1 ∨ sd (jA σ e) (jB σ e) = 2 ∨ sd (jA σ e) (jB σ e) = 3 by omega) with z | z | z | z <;> rw [z] at d ⊢ <;> simp at d <;> omega
      rcases cs with ⟨z, w⟩ | ⟨z, w⟩
      · rw [w] at ex ey
        have lt : l3 X < h3 Z := by
          have both : l3 (jA σ e) < h3 (jB σ e) ∧ l3 (jB σ e) < h3 (jA σ e) := by
            rcases z with z | z
            · have := b6 _ _ rB ba (by omega); exact ⟨this.2, this.1⟩
            · exact b6 _ _ rA ab z
          rcases hX with u | u <;> rcases hZ with u' | u' <;> rw [u, u']
          · exact b2 _ rA
          · exact both.1
          · exact both.2
          · exact b2 _ rB
        subst ex; subst ey; subst hc
        rw [show 4 * X + (1 - 0) = 4 * X + 1 by omega, show 4 * Z + (1 - 0) + 2 = 4 * Z + 3 by omega, val X 1 rX (by decide), val Z 3 rZ (by decide), v1, v3]
        omega
      · rw [w] at ex ey
        have lt : l0 X < h0 Z := by
          have both : l0 (jA σ e) < h0 (jB σ e) ∧ l0 (jB σ e) < h0 (jA σ e) := by
            rcases z with z | z
            · exact a6 _ _ rA ab z
            · have := a6 _ _ rB ba (by omega); exact ⟨this.2, this.1⟩
          rcases hX with u | u <;> rcases hZ with u' | u' <;> rw [u, u']
          · exact a2 _ rA
          · exact both.1
          · exact both.2
          · exact a2 _ rB
        subst ex; subst ey; subst hc
        rw [show 4 * X + (1 - 1) = 4 * X + 0 by omega, show 4 * Z + (1 - 1) + 2 = 4 * Z + 2 by omega, val X 0 rX (by decide), val Z 2 rZ (by decide), Nat.add_zero, v0, v2]
        omega
    · obtain ⟨q1, q2⟩ := hv i hi
      have u1 := a2 i hi
      have u2 := b2 i hi
      rcases h with ⟨hc, ex, ey⟩ | ⟨hc, ex, ey⟩ <;> subst ex <;> subst ey
      · have z := val i 0 hi (by decide)
        rw [Nat.add_zero] at z
        rw [z, val i 2 hi (by decide), v0, v2]; omega
      · rw [val i 1 hi (by decide), val i 3 hi (by decide), v1, v3]; omega
    · rcases h with ⟨h1, h2, ex, ey⟩ | ⟨h1, h2, ex, ey⟩ <;> subst ex <;> subst ey
      · have n1 := nes 1 i (by decide) h1
        have n2 := nes 1 j (by decide) h2
        rw [val i 2 (Dk.nrm n1) (by decide), val j 2 (Dk.nrm n2) (by decide), v2, v2, a4 i n1, a4 j n2]; omega
      · have n1 := nes 0 i (by decide) h1
        have n2 := nes 0 j (by decide) h2
        rw [val i 3 (Dk.nrm n1) (by decide), val j 3 (Dk.nrm n2) (by decide), v3, v3, b4 i n1, b4 j n2]; omega
  · show ic (rmx m (x / 4)) * va x ≤ 4050
    by_cases r : rmx m (x / 4)
    · rw [ic_t r, Nat.one_mul]
      have q := low _ r
      have q2 := a1 (x / 4)
      have q3 := b1 (x / 4)
      rcases (show x % 4 = 0 ∨ x % 4 = 1 ∨ x % 4 = 2 ∨ x % 4 = 3 by omega) with z | z | z | z
      · rw [show x = 4 * (x / 4) by omega, v0]; omega
      · rw [show x = 4 * (x / 4) + 1 by omega, v1]; omega
      · rw [show x = 4 * (x / 4) + 2 by omega, v2]; omega
      · rw [show x = 4 * (x / 4) + 3 by omega, v3]; omega
    · rw [ic_f r, Nat.zero_mul]; exact Nat.zero_le _
end PSX
