section
/-! class and reference keep the same directions -/
theorem lx_tri {n : Nat} {D D' : Nat → Nat} (h1 : ¬ lx n D D') (h2 : ¬ lx n D' D) : ∀ e, e < n → D e = D' e := by
  have key : ∀ e, e ≤ n → ∀ x, x < e → D x = D' x := by
    intro e
    induction e with
    | zero => intro _ x hx; exact absurd hx (Nat.not_lt_zero x)
    | succ e ih =>
      intro he x hx
      have i1 := ih (by omega)
      by_cases c : x = e
      · subst c
        rcases Nat.lt_trichotomy (D x) (D' x) with c | c | c
        · exact absurd ⟨x, by omega, i1, c⟩ h1
        · exact c
        · exact absurd ⟨x, by omega, fun y hy => (i1 y hy).symm, c⟩ h2
      · exact i1 x (by omega)
  exact fun e he => key n (Nat.le_refl n) e he
theorem lx_cg {n : Nat} {D D' E E' : Nat → Nat} (h1 : ∀ e, e < n → D e = E e) (h2 : ∀ e, e < n → D' e = E' e) (h : lx n D D') : lx n E E' := by
  obtain ⟨e, he, k1, k2⟩ := h
  exact ⟨e, he, fun x hx => by rw [← h1 x (by omega), ← h2 x (by omega)]; exact k1 x hx, by rw [← h1 e he, ← h2 e he]; exact k2⟩
theorem ref_D {σ τ τ' : mm_S} {n m : Nat} {B : Nat → Nat → Nat} {s t L : Nat} {p zz D : Nat → Nat} {en : Nat → Nat → Nat} (X : RX (rmx m) (nrP σ m B s t L p) (BpP B s t L p) n (jA σ) (jB σ) zz en) (Y : LYF σ n m B s t L p D) (dr : ∀ r, r < 9 → (¬ τ 75 r = 0 ↔ m.testBit r = true)) (F : FBr n (RLx τ zz en (jA σ) n) τ' (RLx τ zz en (jA σ) n)) : τ' 10 29 = 1 ∧ ∀ e, e < n → τ' 95 e = nI (D e) := by
  obtain ⟨sd, ly, eD, mn⟩ := Y
  have in1 : RLx τ zz en (jA σ) n (dvec (jA σ) (jB σ) sd) := fun r r9 h => rx_a X ly ⟨r9, (dr r r9).mp h⟩
  rcases F with ⟨_, no⟩ | ⟨f1, D0, r0, b0, mn0⟩
  · exact absurd in1 (no _)
  · refine ⟨f1, fun e he => ?_⟩
    obtain ⟨sd0, ly0, eD0⟩ := rx_b X (D := D0) (fun r hr => r0 r hr.1 ((dr r hr.1).mpr hr.2))
    have h1 : ¬ lx n D D0 := fun h => mn0 _ in1 (lx_cg eD (fun _ _ => rfl) h)
    have h2 : ¬ lx n D0 D := fun h => mn sd0 ly0 (lx_cg eD0 (fun _ _ => rfl) h)
    rw [lx_tri h1 h2 e he]
    exact (b0 e he).1
end
section
/-! the reference: findPlaces reaches the least solution -/
def PVr (τ : mm_S) (v : Nat → Nat) : Prop := ∀ i a, i < 9 → a < 2 → τ 96 (2 * i + a) = nI (v (4 * i + a)) ∧ τ 97 (2 * i + a) = nI (v (4 * i + 2 + a))
def INp (V : Nat → Nat) (WD HT : Nat) (τ : mm_S) : Prop := (∃ v, (∀ x, v x ≤ V x) ∧ PVr τ v) ∧ (∃ w, w ≤ WD ∧ τ 10 32 = nI w) ∧ ∃ h, h ≤ HT ∧ τ 10 33 = nI h
def Sfp (V : Nat → Nat) (WD HT : Nat) (τ τ' : mm_S) : Prop := INp V WD HT τ' ∧ FP τ τ' ∧ (τ' = τ ∨ (τ' 10 44 = 1 ∧ Sm τ' < Sm τ))
theorem Sfp_r {V : Nat → Nat} {WD HT : Nat} {τ : mm_S} (h : INp V WD HT τ) : Sfp V WD HT τ τ := ⟨h, ⟨fun _ _ _ _ => rfl, fun _ _ _ _ => rfl⟩, Or.inl rfl⟩
theorem Sfp_t {V : Nat → Nat} {WD HT : Nat} {τ τ' τ'' : mm_S} (h : Sfp V WD HT τ τ') (k : Sfp V WD HT τ' τ'') : Sfp V WD HT τ τ'' := by
  refine ⟨k.1, FP_t h.2.1 k.2.1, ?_⟩
  rcases h.2.2 with h | ⟨h1, h2⟩
  · rcases k.2.2 with k | ⟨k1, k2⟩
    · exact Or.inl (k.trans h)
    · exact Or.inr ⟨k1, by rw [← h]; exact k2⟩
  · rcases k.2.2 with k | ⟨k1, k2⟩
    · exact Or.inr ⟨by rw [k]; exact h1, by rw [k]; exact h2⟩
    · exact Or.inr ⟨k1, by omega⟩
/-- both steps changed nothing, if their sum changed nothing -/
theorem Sfp_e {V : Nat → Nat} {WD HT : Nat} {τ τ' τ'' : mm_S} (h : Sfp V WD HT τ τ') (k : Sfp V WD HT τ' τ'') (e : τ'' = τ) : τ' = τ := by
  rcases h.2.2 with h | ⟨_, h2⟩
  · exact h
  · rcases k.2.2 with k | ⟨_, k2⟩
    · rw [k] at e; exact e
    · rw [e] at k2; omega
theorem c_137t {d r b x : Nat} {Q : mm_Q} {τ : mm_S} {V : Nat → Nat} {WD HT : Nat} (hr : r < 9) (hb : b < 2) (I : INp V WD HT τ) (V40 : ∀ x, V x ≤ 4050) (hx : x ≤ V (4 * r + 2 + b)) (q : ∀ τ', Sfp V WD HT τ τ' → (τ' = τ → ∀ y, y < 2 ^ 31 → τ 97 (2 * r + b) = nI y → x ≤ y) → Q none τ') : mD (d + 2) 137 [.ref 10, .int (nI r), .int (nI b), .int (nI x)] τ Q := by
  obtain ⟨⟨v, vV, pv⟩, Iw, Ih⟩ := id I
  have e97 := (pv r b hr hb).2
  have b1 := vV (4 * r + 2 + b)
  have b2 := V40 (4 * r + 2 + b)
  refine c_137 (by rw [at_n r hr b hb]; exact pk_in (2 * r + b) 18 (by omega)) (fun g => ?_) (fun g => q τ (Sfp_r I) (fun _ => ?_))
  · rw [at_n r hr b hb, nI_clamp (by omega)] at g ⊢
    have G := Gw_97 (v := 1) (show 2 * r + b < 18 by omega) g
    have lt : v (4 * r + 2 + b) < x := by
      rw [e97] at g
      exact (nI_ltI (by omega) (by omega)).mp g
    refine q _ ⟨⟨⟨fun y => if y = 4 * r + 2 + b then x else v y, fun y => ?_, fun i a hi ha => ?_⟩, ?_, ?_⟩, ⟨G.1, G.2.1⟩, Or.inr ⟨mm_up_s, ?_⟩⟩ (fun e => ?_)
    · show (if y = 4 * r + 2 + b then x else v y) ≤ V y
      by_cases c : y = 4 * r + 2 + b
      · rw [if_pos c, c]; exact hx
      · rw [if_neg c]; exact vV y
    · rw [mm_up_n (by decide), mm_up_n (by decide), mm_up_n (by decide)]
      simp only [if_neg (show ¬ 4 * i + a = 4 * r + 2 + b by omega)]
      refine ⟨(pv i a hi ha).1, ?_⟩
      by_cases c : 2 * i + a = 2 * r + b
      · rw [c, mm_up_s, if_pos (by omega)]
      · rw [mm_up_o c, if_neg (by omega)]; exact (pv i a hi ha).2
    · rw [mm_up_o (by decide), mm_up_n (by decide)]; exact Iw
    · rw [mm_up_o (by decide), mm_up_n (by decide)]; exact Ih
    · rcases G.2.2.2 with h | h
      · have : Sm (mm_up (mm_up τ 97 (2 * r + b) (nI x)) 10 44 1) < Sm τ := by
          unfold Sm
          rw [mm_up_o (by decide), mm_up_o (by decide), mm_up_n (show (97 : Nat) ≠ 10 by decide), mm_up_n (show (96 : Nat) ≠ 10 by decide), mm_up_n (show (10 : Nat) ≠ 97 by decide), mm_up_n (show (96 : Nat) ≠ 97 by decide)]
          have := sm_lt (f := fun j => pot (τ 97 j)) (g := fun j => pot (mm_up τ 97 (2 * r + b) (nI x) 97 j)) (i := 2 * r + b) (fun j hj => by rw [mm_up_o hj]) (by rw [mm_up_s]; exact pot_lt g) 18 (by omega)
          omega
        exact this
      · exact h
    · have := congrFun (congrFun e 97) (2 * r + b)
      rw [mm_up_n (by decide), mm_up_s, e97] at this
      have := (nI_eq (by omega) (by omega)).mp this
      omega
  · rw [at_n r hr b hb, nI_clamp (by omega), e97] at g
    intro y hy ey
    rw [(nI_eq hy (by omega)).mp (ey.symm.trans e97)]
    rcases Nat.lt_or_ge (v (4 * r + 2 + b)) x with c | c
    · exact absurd ((nI_ltI (by omega) (by omega)).mpr c) g
    · exact c
theorem c_136t {d r b x : Nat} {Q : mm_Q} {τ : mm_S} {V : Nat → Nat} {WD HT : Nat} (hr : r < 9) (hb : b < 2) (I : INp V WD HT τ) (V40 : ∀ x, V x ≤ 4050) (hx : x ≤ V (4 * r + b)) (q : ∀ τ', Sfp V WD HT τ τ' → (τ' = τ → ∀ y, y < 2 ^ 31 → τ 96 (2 * r + b) = nI y → x ≤ y) → Q none τ') : mD (d + 2) 136 [.ref 10, .int (nI r), .int (nI b), .int (nI x)] τ Q := by
  obtain ⟨⟨v, vV, pv⟩, Iw, Ih⟩ := id I
  have e97 := (pv r b hr hb).1
  have b1 := vV (4 * r + b)
  have b2 := V40 (4 * r + b)
  refine c_136 (by rw [at_n r hr b hb]; exact pk_in (2 * r + b) 18 (by omega)) (fun g => ?_) (fun g => q τ (Sfp_r I) (fun _ => ?_))
  · rw [at_n r hr b hb, nI_clamp (by omega)] at g ⊢
    have G := Gw_96 (v := 1) (show 2 * r + b < 18 by omega) g
    have lt : v (4 * r + b) < x := by
      rw [e97] at g
      exact (nI_ltI (by omega) (by omega)).mp g
    refine q _ ⟨⟨⟨fun y => if y = 4 * r + b then x else v y, fun y => ?_, fun i a hi ha => ?_⟩, ?_, ?_⟩, ⟨G.1, G.2.1⟩, Or.inr ⟨mm_up_s, ?_⟩⟩ (fun e => ?_)
    · show (if y = 4 * r + b then x else v y) ≤ V y
      by_cases c : y = 4 * r + b
      · rw [if_pos c, c]; exact hx
      · rw [if_neg c]; exact vV y
    · rw [mm_up_n (show (96 : Nat) ≠ 10 by decide), mm_up_n (show (97 : Nat) ≠ 10 by decide), mm_up_n (show (97 : Nat) ≠ 96 by decide)]
      simp only [if_neg (show ¬ 4 * i + 2 + a = 4 * r + b by omega)]
      refine ⟨?_, (pv i a hi ha).2⟩
      by_cases c : 2 * i + a = 2 * r + b
      · rw [c, mm_up_s, if_pos (by omega)]
      · rw [mm_up_o c, if_neg (by omega)]; exact (pv i a hi ha).1
    · rw [mm_up_o (by decide), mm_up_n (by decide)]; exact Iw
    · rw [mm_up_o (by decide), mm_up_n (by decide)]; exact Ih
    · rcases G.2.2.2 with h | h
      · have : Sm (mm_up (mm_up τ 96 (2 * r + b) (nI x)) 10 44 1) < Sm τ := by
          unfold Sm
          rw [mm_up_o (by decide), mm_up_o (by decide), mm_up_n (show (96 : Nat) ≠ 10 by decide), mm_up_n (show (97 : Nat) ≠ 10 by decide), mm_up_n (show (10 : Nat) ≠ 96 by decide), mm_up_n (show (97 : Nat) ≠ 96 by decide)]
          have := sm_lt (f := fun j => pot (τ 96 j)) (g := fun j => pot (mm_up τ 96 (2 * r + b) (nI x) 96 j)) (i := 2 * r + b) (fun j hj => by rw [mm_up_o hj]) (by rw [mm_up_s]; exact pot_lt g) 18 (by omega)
          omega
        exact this
      · exact h
    · have := congrFun (congrFun e 96) (2 * r + b)
      rw [mm_up_n (by decide), mm_up_s, e97] at this
      have := (nI_eq (by omega) (by omega)).mp this
      omega
  · rw [at_n r hr b hb, nI_clamp (by omega), e97] at g
    intro y hy ey
    rw [(nI_eq hy (by omega)).mp (ey.symm.trans e97)]
    rcases Nat.lt_or_ge (v (4 * r + b)) x with c | c
    · exact absurd ((nI_ltI (by omega) (by omega)).mpr c) g
    · exact c
end
section
/-! the reference: raiseRoom -/
def Crm (τ : mm_S) (r wid hgt : Nat) (E N : Prop) : Prop := ∀ v : Nat → Nat, (∀ x, v x ≤ 4050) → PVr τ v → v (4 * r) + wid ≤ v (4 * r + 2) ∧ v (4 * r + 1) + hgt ≤ v (4 * r + 3) ∧ (E → τ 10 32 = nI (v (4 * r + 2))) ∧ (N → τ 10 33 = nI (v (4 * r + 3)))
theorem c_139t {d r wid hgt KE KN : Nat} {Q : mm_Q} {τ : mm_S} {V : Nat → Nat} {WD HT : Nat} (hr : r < 9) (I : INp V WD HT τ) (V40 : ∀ x, V x ≤ 4050) (ew : τ 78 r = nI wid) (eh : τ 79 r = nI hgt) (c1 : V (4 * r) + wid ≤ V (4 * r + 2)) (c2 : V (4 * r + 1) + hgt ≤ V (4 * r + 3)) (eE : τ 91 10 = nI KE) (eN : τ 91 9 = nI KN) (bE : KE < 2 ^ 13) (bN : KN < 2 ^ 13) (cE : KE.testBit r = true → V (4 * r + 2) = WD) (cN : KN.testBit r = true → V (4 * r + 3) = HT) (q : ∀ τ', Sfp V WD HT τ τ' → (τ' = τ → Crm τ r wid hgt (KE.testBit r = true) (KN.testBit r = true)) → Q none τ') : mD (d + 3) 139 [.ref 10, .int (nI r)] τ Q := by
  have a0 : f_135 (nI r) 0 = nI (2 * r) := at_n r hr 0 (by omega)
  have a1 : f_135 (nI r) 1 = nI (2 * r + 1) := at_n r hr 1 (by omega)
  have v0 : vp_in (f_135 (nI r) 0) 18 := by rw [a0]; exact pk_in (2 * r) 18 (by omega)
  have v1 : vp_in (f_135 (nI r) 1) 18 := by rw [a1]; exact pk_in (2 * r + 1) 18 (by omega)
  have k0 : (f_135 (nI r) 0).toNatClampNeg = 2 * r := by rw [a0]; exact nI_clamp (by omega)
  have k1 : (f_135 (nI r) 1).toNatClampNeg = 2 * r + 1 := by rw [a1]; exact nI_clamp (by omega)
  have kr : (nI r).toNatClampNeg = r := nI_clamp (by omega)
  have vr : vp_in (nI r) 9 := pk_in r 9 hr
  have V0 := V40 (4 * r); have V1 := V40 (4 * r + 1); have V2 := V40 (4 * r + 2); have V3 := V40 (4 * r + 3)
  have bit : ∀ (ρ : mm_S) (j K : Nat), K < 2 ^ 13 → ρ 91 j = nI K → ((((ρ 91 j) >>> (nI r &&& 31)) &&& (1 : Int32)) = 1 ↔ K.testBit r = true) := fun ρ j K hK e => by
    rw [e, ← hs_b1 (m := K) (i := r) (by omega) (by omega)]
    unfold hs
    constructor
    · intro z; rw [if_pos z]
    · intro z
      by_cases y : (nI K >>> (nI r &&& 31)) &&& (1 : Int32) = 1
      · exact y
      · rw [if_neg y] at z; exact absurd z (by decide)
  obtain ⟨⟨v, vV, pv⟩, Iw, Ih⟩ := id I
  have l0 := (pv r 0 hr (by decide)).1
  refine ke_139 (kb_139_0 (c_135 (kb_139_12 v0 vr ?_)))
  rw [k0, kr, show τ 96 (2 * r) = nI (v (4 * r)) from l0, ew, nI_add]
  have b0 := vV (4 * r)
  refine c_137t (b := 0) hr (by omega) I V40 (show v (4 * r) + wid ≤ V (4 * r + 2) by omega) (fun τ1 S1 h1 => kb_139_23 (c_135 (kb_139_35 v1 vr ?_)))
  obtain ⟨⟨w, wV, pw⟩, Iw1, Ih1⟩ := id S1.1
  have b1 := wV (4 * r + 1)
  rw [k1, kr, show τ1 96 (2 * r + 1) = nI (w (4 * r + 1)) from (pw r 1 hr (by decide)).1, S1.2.1.1 79 (by decide) (by decide) (by decide), eh, nI_add]
  refine c_137t (b := 1) hr (by omega) S1.1 V40 (show w (4 * r + 1) + hgt ≤ V (4 * r + 2 + 1) by show _ ≤ V (4 * r + 3); omega) (fun τ2 S2 h2 => ?_)
  -- the north side
  have north : ∀ τ3, Sfp V WD HT τ2 τ3 → (τ3 = τ2 → KE.testBit r = true → ∀ y, y < 4051 → τ2 97 (2 * r) = nI y → τ2 10 32 = nI y) → mw (d + 2) mt_139 Q 131 [some (.ref 10), some (.int (nI r))] [] τ3 := fun τ3 S3 h3 => by
    have T3 := Sfp_t (Sfp_t S1 S2) S3
    have fin : ∀ τ4, Sfp V WD HT τ3 τ4 → (τ4 = τ3 → KN.testBit r = true → ∀ y, y < 4051 → τ3 97 (2 * r + 1) = nI y → τ3 10 33 = nI y) → Q none τ4 := fun τ4 S4 h4 => by
      refine q τ4 (Sfp_t T3 S4) (fun e => ?_)
      have e3 : τ3 = τ := Sfp_e T3 S4 e
      have e43 : τ4 = τ3 := e.trans e3.symm
      have e2 : τ2 = τ := Sfp_e (Sfp_t S1 S2) S3 e3
      have e1 : τ1 = τ := Sfp_e S1 S2 e2
      have e32 : τ3 = τ2 := e3.trans e2.symm
      have e21 : τ2 = τ1 := e2.trans e1.symm
      intro u u40 pu
      have u0 := u40 (4 * r); have u1 := u40 (4 * r + 1); have u2 := u40 (4 * r + 2); have u3 := u40 (4 * r + 3)
      have p0 := pu r 0 hr (by decide)
      have p1 := pu r 1 hr (by decide)
      have g1 : v (4 * r) = u (4 * r) := (nI_eq (by omega) (by omega)).mp (l0.symm.trans p0.1)
      have g2 : w (4 * r + 1) = u (4 * r + 1) := by
        have := (pw r 1 hr (by decide)).1
        rw [e1] at this
        exact (nI_eq (by omega) (by omega)).mp (this.symm.trans p1.1)
      refine ⟨?_, ?_, fun hE => ?_, fun hN => ?_⟩
      · have := h1 e1 (u (4 * r + 2)) (by omega) p0.2
        omega
      · have := h2 e21 (u (4 * r + 3)) (by omega) (by rw [e1]; exact p1.2)
        omega
      · have := h3 e32 hE (u (4 * r + 2)) (by omega) (by rw [e2]; exact p0.2)
        rw [e2] at this; exact this
      · have := h4 e43 hN (u (4 * r + 3)) (by omega) (by rw [e3]; exact p1.2)
        rw [e3] at this; exact this
    obtain ⟨⟨u, uV, pu⟩, ⟨w3, lw3, ew3⟩, ⟨t3, lt3, et3⟩⟩ := id S3.1
    have x97 : τ3 97 (2 * r + 1) = nI (u (4 * r + 3)) := (pu r 1 hr (by decide)).2
    have bu := uV (4 * r + 3)
    have bt := bit τ3 9 KN bN (by rw [T3.2.1.1 91 (by decide) (by decide) (by decide)]; exact eN)
    refine kb_139_131 (pk_in 9 13 (by omega)) (fun g => ?_) (fun g => kb_139_216 (fin τ3 (Sfp_r S3.1) (fun _ hN => absurd (bt.mpr hN) g)))
    have yes := bt.mp g
    have eHT := cN yes
    refine kb_139_146 (c_135 (kb_139_155 v1 (fun g => kb_139_168 (c_135 (kb_139_178 v1 (fun _ => kb_139_199 ?_) (fun h => absurd g h)))) (fun g => kb_139_163 (c_135 (kb_139_178 v1 (fun h => ?_) (fun h => kb_139_186 (c_135 (kb_139_195 v1 ?_))))))))
    · rw [k1, x97, et3] at g
      have g' := (nI_leI (by omega) (by omega)).mp g
      rw [mm_up_id, et3]
      refine c_137t (b := 1) hr (by omega) S3.1 V40 (show t3 ≤ V (4 * r + 2 + 1) by show t3 ≤ V (4 * r + 3); omega) (fun τ4 S4 h4 => kb_139_216 (fin τ4 S4 (fun e _ y hy ey => ?_)))
      have := h4 e y (by omega) ey
      have e' := (nI_eq (by omega) (by omega)).mp (ey.symm.trans x97)
      rw [et3]; congr 1; omega
    · rw [mm_up_n (by decide), mm_up_o (by decide)] at h; exact absurd h g
    · rw [k1, mm_up_n (show (97 : Nat) ≠ 10 by decide), x97, mm_up_s]
      rw [k1, x97] at g
      have S4 : Sfp V WD HT τ3 (mm_up (mm_up τ3 10 44 1) 10 33 (nI (u (4 * r + 3)))) := by
        have G := Gw_33 (v := 1) (Int32.not_le.mp g)
        refine ⟨⟨⟨u, uV, fun i a hi ha => by rw [mm_up_n (by decide), mm_up_n (by decide), mm_up_n (by decide), mm_up_n (by decide)]; exact pu i a hi ha⟩, ⟨w3, lw3, by rw [mm_up_o (by decide), mm_up_o (by decide)]; exact ew3⟩, ⟨_, by omega, mm_up_s⟩⟩, ⟨G.1, G.2.1⟩, Or.inr ⟨by rw [mm_up_o (by decide)]; exact mm_up_s, ?_⟩⟩
        unfold Sm
        rw [mm_up_s, mm_up_o (show (32 : Nat) ≠ 33 by decide), mm_up_o (show (32 : Nat) ≠ 44 by decide), mm_up_n (show (97 : Nat) ≠ 10 by decide), mm_up_n (show (97 : Nat) ≠ 10 by decide), mm_up_n (show (96 : Nat) ≠ 10 by decide), mm_up_n (show (96 : Nat) ≠ 10 by decide)]
        have := pot_lt (Int32.not_le.mp g)
        omega
      refine c_137t (b := 1) hr (by omega) S4.1 V40 (show u (4 * r + 3) ≤ V (4 * r + 2 + 1) from bu) (fun τ5 S5 h5 => kb_139_216 (fin τ5 (Sfp_t S4 S5) (fun e => ?_)))
      exfalso
      have e' := Sfp_e S4 S5 e
      have := congrFun (congrFun e' 10) 33
      rw [mm_up_s, et3] at this
      rw [et3, this] at g
      exact g (hI_le (by omega) (Nat.le_refl _))
  have T2 := Sfp_t S1 S2
  obtain ⟨⟨u, uV, pu⟩, ⟨w3, lw3, ew3⟩, ⟨t3, lt3, et3⟩⟩ := id S2.1
  have x97 : τ2 97 (2 * r) = nI (u (4 * r + 2)) := (pu r 0 hr (by decide)).2
  have bu := uV (4 * r + 2)
  have bt := bit τ2 10 KE bE (by rw [T2.2.1.1 91 (by decide) (by decide) (by decide)]; exact eE)
  refine kb_139_46 (pk_in 10 13 (by omega)) (fun g => ?_) (fun g => north τ2 (Sfp_r S2.1) (fun _ hE => absurd (bt.mpr hE) g))
  have yes := bt.mp g
  have eWD := cE yes
  refine kb_139_61 (c_135 (kb_139_70 v0 (fun g => kb_139_83 (c_135 (kb_139_93 v0 (fun _ => kb_139_114 ?_) (fun h => absurd g h)))) (fun g => kb_139_78 (c_135 (kb_139_93 v0 (fun h => ?_) (fun h => kb_139_101 (c_135 (kb_139_110 v0 ?_))))))))
  · rw [k0, x97, ew3] at g
    have g' := (nI_leI (by omega) (by omega)).mp g
    rw [mm_up_id, ew3]
    refine c_137t (b := 0) hr (by omega) S2.1 V40 (show w3 ≤ V (4 * r + 2) by omega) (fun τ4 S4 h4 => north τ4 S4 (fun e _ y hy ey => ?_))
    have := h4 e y (by omega) ey
    have e' := (nI_eq (by omega) (by omega)).mp (ey.symm.trans x97)
    rw [ew3]; congr 1; omega
  · rw [mm_up_n (by decide), mm_up_o (by decide)] at h; exact absurd h g
  · rw [k0, mm_up_n (show (97 : Nat) ≠ 10 by decide), x97, mm_up_s]
    rw [k0, x97] at g
    have S4 : Sfp V WD HT τ2 (mm_up (mm_up τ2 10 44 1) 10 32 (nI (u (4 * r + 2)))) := by
      have G := Gw_32 (v := 1) (Int32.not_le.mp g)
      refine ⟨⟨⟨u, uV, fun i a hi ha => by rw [mm_up_n (by decide), mm_up_n (by decide), mm_up_n (by decide), mm_up_n (by decide)]; exact pu i a hi ha⟩, ⟨_, by omega, mm_up_s⟩, ⟨t3, lt3, by rw [mm_up_o (by decide), mm_up_o (by decide)]; exact et3⟩⟩, ⟨G.1, G.2.1⟩, Or.inr ⟨by rw [mm_up_o (by decide)]; exact mm_up_s, ?_⟩⟩
      unfold Sm
      rw [mm_up_s, mm_up_o (show (33 : Nat) ≠ 32 by decide), mm_up_o (show (33 : Nat) ≠ 44 by decide), mm_up_n (show (97 : Nat) ≠ 10 by decide), mm_up_n (show (97 : Nat) ≠ 10 by decide), mm_up_n (show (96 : Nat) ≠ 10 by decide), mm_up_n (show (96 : Nat) ≠ 10 by decide)]
      have := pot_lt (Int32.not_le.mp g)
      omega
    refine c_137t (b := 0) hr (by omega) S4.1 V40 (show u (4 * r + 2) ≤ V (4 * r + 2) from bu) (fun τ5 S5 h5 => north τ5 (Sfp_t S4 S5) (fun e => ?_))
    exfalso
    have e' := Sfp_e S4 S5 e
    have := congrFun (congrFun e' 10) 32
    rw [mm_up_s, ew3] at this
    rw [ew3, this] at g
    exact g (hI_le (by omega) (Nat.le_refl _))
end
section
/-! the reference: raiseJoin -/
def Cjn (τ : mm_S) (r o t wsh : Nat) : Prop := ∀ v : Nat → Nat, (∀ x, v x ≤ 4050) → PVr τ v → v (4 * r + 2 + (1 - t)) = v (4 * o + (1 - t)) ∧ v (4 * r + t) + wsh ≤ v (4 * r + 2 + t) ∧ v (4 * o + t) + wsh ≤ v (4 * r + 2 + t) ∧ v (4 * r + t) + wsh ≤ v (4 * o + 2 + t) ∧ v (4 * o + t) + wsh ≤ v (4 * o + 2 + t)
theorem c_140m {d k r o t wsh : Nat} {Q : mm_Q} {τ : mm_S} {V : Nat → Nat} {WD HT : Nat} (hk : k < 21) (hr : r < 9) (ho : o < 9) (ht : t < 2) (I : INp V WD HT τ) (V40 : ∀ x, V x ≤ 4050) (e82 : τ 82 k = nI wsh)
    (c1 : V (4 * r + 2 + (1 - t)) = V (4 * o + (1 - t))) (c2 : V (4 * r + t) + wsh ≤ V (4 * r + 2 + t)) (c3 : V (4 * o + t) + wsh ≤ V (4 * r + 2 + t)) (c4 : V (4 * r + t) + wsh ≤ V (4 * o + 2 + t)) (c5 : V (4 * o + t) + wsh ≤ V (4 * o + 2 + t))
    (q : ∀ τ', Sfp V WD HT τ τ' → (τ' = τ → Cjn τ r o t wsh) → Q none τ') : ∀ o4 o5 o6, mw (d + 2) mt_140 Q 66 [some (.ref 10), some (.int (nI k)), some (.int (nI t)), some (.int (nI r)), o4, o5, o6] [.int (nI o)] τ := by
  intro o4 o5 o6
  have vk : vp_in (nI k) 21 := pk_in k 21 hk
  have ck : (nI k).toNatClampNeg = k := nI_clamp (by omega)
  have vat : ∀ i a, i < 9 → a < 2 → vp_in (f_135 (nI i) (nI a)) 18 := fun i a hi ha => by rw [at_n i hi a ha]; exact pk_in (2 * i + a) 18 (by omega)
  have kat : ∀ i a, i < 9 → a < 2 → (f_135 (nI i) (nI a)).toNatClampNeg = 2 * i + a := fun i a hi ha => by rw [at_n i hi a ha]; exact nI_clamp (by omega)
  obtain ⟨t', ht', et'⟩ : ∃ t', t' < 2 ∧ t' = 1 - t := ⟨1 - t, by omega, rfl⟩
  rw [← et'] at c1
  obtain ⟨⟨v, vV, pv⟩, _, _⟩ := id I
  have w1 := V40 (4 * r + 2 + t'); have w2 := V40 (4 * o + t'); have w3 := V40 (4 * r + t); have w4 := V40 (4 * o + t); have w5 := V40 (4 * r + 2 + t); have w6 := V40 (4 * o + 2 + t)
  have x1 := vV (4 * r + 2 + t'); have x2 := vV (4 * o + t')
  -- the end: wishes along the wall
  have wish : ∀ (τ1 : mm_S) x5, Sfp V WD HT τ τ1 → (τ1 = τ → v (4 * r + 2 + t') = v (4 * o + t')) → mw (d + 2) mt_140 Q 183 [some (.ref 10), some (.int (nI k)), some (.int (nI t)), some (.int (nI r)), some (.int (nI o)), some (.int x5), o6] [] τ1 := fun τ1 x5 S1 h1 => by
    obtain ⟨⟨u, uV, pu⟩, _, _⟩ := id S1.1
    have y1 := uV (4 * r + t); have y2 := uV (4 * o + t)
    have z1 : τ1 96 (2 * r + t) = nI (u (4 * r + t)) := (pu r t hr ht).1
    have z2 : τ1 96 (2 * o + t) = nI (u (4 * o + t)) := (pu o t ho ht).1
    have z82 : τ1 82 k = nI wsh := by rw [S1.2.1.1 82 (by decide) (by decide) (by decide)]; exact e82
    have last : ∀ x, x ≤ V (4 * r + t) ∨ x ≤ V (4 * o + t) → (u (4 * r + t) ≤ x ∧ u (4 * o + t) ≤ x) → x ≤ 4050 → (∀ τ2, Sfp V WD HT τ1 τ2 → (τ2 = τ1 → ∀ y, y < 2 ^ 31 → τ1 97 (2 * r + t) = nI y → x + wsh ≤ y) → mw (d + 2) mt_140 Q 248 [some (.ref 10), some (.int (nI k)), some (.int (nI t)), some (.int (nI r)), some (.int (nI o)), some (.int x5), some (.int (nI x))] [] τ2) := fun x hx hu x40 τ2 S2 h2 => by
      refine kb_140_248 vk ?_
      rw [ck, S2.2.1.1 82 (by decide) (by decide) (by decide), z82, nI_add]
      refine c_137t ho ht S2.1 V40 (by rcases hx with h | h <;> omega) (fun τ3 S3 h3 => kb_140_264 (q τ3 (Sfp_t (Sfp_t S1 S2) S3) (fun e => ?_)))
      have e2 : τ2 = τ := Sfp_e (Sfp_t S1 S2) S3 e
      have e1 : τ1 = τ := Sfp_e S1 S2 e2
      have e21 : τ2 = τ1 := e2.trans e1.symm
      have e32 : τ3 = τ2 := e.trans e2.symm
      intro g g40 pg
      have m1 := g40 (4 * r + t); have m2 := g40 (4 * o + t); have m3 := g40 (4 * r + 2 + t); have m4 := g40 (4 * o + 2 + t); have m5 := g40 (4 * r + 2 + t'); have m6 := g40 (4 * o + t')
      have n1 : u (4 * r + t) = g (4 * r + t) := (nI_eq (by omega) (by omega)).mp (z1.symm.trans (by rw [e1]; exact (pg r t hr ht).1))
      have n2 : u (4 * o + t) = g (4 * o + t) := (nI_eq (by omega) (by omega)).mp (z2.symm.trans (by rw [e1]; exact (pg o t ho ht).1))
      have n3 := h2 e21 (g (4 * r + 2 + t)) (by omega) (by rw [e1]; exact (pg r t hr ht).2)
      have n4 := h3 e32 (g (4 * o + 2 + t)) (by omega) (by rw [e2]; exact (pg o t ho ht).2)
      have n5 := h1 e1
      have n6 : v (4 * r + 2 + t') = g (4 * r + 2 + t') := (nI_eq (by omega) (by omega)).mp ((pv r t' hr ht').2.symm.trans (pg r t' hr ht').2)
      have n7 : v (4 * o + t') = g (4 * o + t') := (nI_eq (by omega) (by omega)).mp ((pv o t' ho ht').1.symm.trans (pg o t' ho ht').1)
      rw [← et']
      exact ⟨by omega, by omega, by omega, by omega, by omega⟩
    refine kb_140_183 (c_135 (kb_140_192 (vat r t hr ht) (c_135 (kb_140_203 (vat o t ho ht) (fun g => kb_140_220 (c_135 (kb_140_230 (vat o t ho ht) vk ?_))) (fun g => kb_140_207 (c_135 (kb_140_216 (vat r t hr ht) vk ?_)))))))
    · rw [kat r t hr ht, kat o t ho ht, z1, z2] at g
      have g' := (nI_leI (by omega) (by omega)).mp g
      rw [kat o t ho ht, z2, ck, z82, nI_add]
      exact c_137t hr ht S1.1 V40 (by omega) (fun τ2 S2 h2 => last _ (Or.inr y2) ⟨g', Nat.le_refl _⟩ (by omega) τ2 S2 h2)
    · rw [kat r t hr ht, kat o t ho ht, z1, z2] at g
      have g' : u (4 * o + t) ≤ u (4 * r + t) := by
        rcases Nat.lt_or_ge (u (4 * r + t)) (u (4 * o + t)) with c | c
        · exact absurd ((nI_leI (by omega) (by omega)).mpr (by omega)) g
        · exact c
      rw [kat r t hr ht, z1, ck, z82, nI_add]
      exact c_137t hr ht S1.1 V40 (by omega) (fun τ2 S2 h2 => last _ (Or.inl y1) ⟨Nat.le_refl _, g'⟩ (by omega) τ2 S2 h2)
  rcases (show t = 0 ∨ t = 1 by omega) with e | e <;> subst e
  · have et : t' = 1 := by omega
    subst et
    have ko : (f_135 (nI o) 1).toNatClampNeg = 2 * o + 1 := kat o 1 ho (by decide)
    have kr : (f_135 (nI r) 1).toNatClampNeg = 2 * r + 1 := kat r 1 hr (by decide)
    have vo : vp_in (f_135 (nI o) 1) 18 := vat o 1 ho (by decide)
    have vr : vp_in (f_135 (nI r) 1) 18 := vat r 1 hr (by decide)
    have zr : τ 97 (2 * r + 1) = nI (v (4 * r + 2 + 1)) := (pv r 1 hr (by decide)).2
    have zo : τ 96 (2 * o + 1) = nI (v (4 * o + 1)) := (pv o 1 ho (by decide)).1
    have fin : ∀ x, x ≤ V (4 * o + 1) → v (4 * r + 2 + 1) ≤ x → v (4 * o + 1) ≤ x → mw (d + 2) mt_140 Q 156 [some (.ref 10), some (.int (nI k)), some (.int (nI 0)), some (.int (nI r)), some (.int (nI o)), some (.int (nI x)), o6] [.int (nI r), .ref 10] τ := fun x h1 h2 h3 => kb_140_156 (c_137t (b := 1) hr (by omega) I V40 (by omega) (fun τ1 S1 g1 => kb_140_166 (fun _ => kb_140_173 (c_136t (b := 1) ho (by omega) S1.1 V40 h1 (fun τ2 S2 g2 => wish τ2 (nI x) (Sfp_t S1 S2) (fun e => by
      have e1 : τ1 = τ := Sfp_e S1 S2 e
      have a1 := g1 e1 (v (4 * r + 2 + 1)) (by omega) (pv r 1 hr (by decide)).2
      have a2 := g2 (e.trans e1.symm) (v (4 * o + 1)) (by omega) (by rw [e1]; exact (pv o 1 ho (by decide)).1)
      omega)))) (fun g => absurd rfl g)))
    refine kb_140_66 (fun _ => kb_140_77 (c_135 (kb_140_85 vr (fun _ => kb_140_96 (c_135 (kb_140_104 vo (fun g => kb_140_129 (fun _ => kb_140_139 (c_135 (kb_140_147 vo (fun _ => ?_) (fun g => absurd rfl g)))) (fun g => absurd rfl g)) (fun g => kb_140_108 (fun _ => kb_140_117 (c_135 (kb_140_125 vr (fun _ => ?_) (fun g => absurd rfl g)))) (fun g => absurd rfl g))))) (fun g => absurd rfl g)))) (fun g => absurd rfl g)
    · rw [ko, kr, zr, zo] at g
      have g' := (nI_leI (by omega) (by omega)).mp g
      rw [ko, zo]
      exact fin _ x2 g' (Nat.le_refl _)
    · rw [ko, kr, zr, zo] at g
      have g' : v (4 * o + 1) ≤ v (4 * r + 2 + 1) := by
        rcases Nat.lt_or_ge (v (4 * r + 2 + 1)) (v (4 * o + 1)) with c | c
        · exact absurd ((nI_leI (by omega) (by omega)).mpr (by omega)) g
        · exact c
      rw [kr, zr]
      exact fin _ (by omega) (Nat.le_refl _) g'
  · have et : t' = 0 := by omega
    subst et
    have ko : (f_135 (nI o) 0).toNatClampNeg = 2 * o + 0 := kat o 0 ho (by decide)
    have kr : (f_135 (nI r) 0).toNatClampNeg = 2 * r + 0 := kat r 0 hr (by decide)
    have vo : vp_in (f_135 (nI o) 0) 18 := vat o 0 ho (by decide)
    have vr : vp_in (f_135 (nI r) 0) 18 := vat r 0 hr (by decide)
    have zr : τ 97 (2 * r + 0) = nI (v (4 * r + 2 + 0)) := (pv r 0 hr (by decide)).2
    have zo : τ 96 (2 * o + 0) = nI (v (4 * o + 0)) := (pv o 0 ho (by decide)).1
    have fin : ∀ x, x ≤ V (4 * o + 0) → v (4 * r + 2 + 0) ≤ x → v (4 * o + 0) ≤ x → mw (d + 2) mt_140 Q 160 [some (.ref 10), some (.int (nI k)), some (.int (nI 1)), some (.int (nI r)), some (.int (nI o)), some (.int (nI x)), o6] [.int (nI r), .ref 10] τ := fun x h1 h2 h3 => kb_140_160 (c_137t (b := 0) hr (by omega) I V40 (by omega) (fun τ1 S1 g1 => kb_140_166 (fun g => absurd g (by decide)) (fun _ => kb_140_177 (c_136t (b := 0) ho (by omega) S1.1 V40 h1 (fun τ2 S2 g2 => wish τ2 (nI x) (Sfp_t S1 S2) (fun e => by
      have e1 : τ1 = τ := Sfp_e S1 S2 e
      have a1 := g1 e1 (v (4 * r + 2 + 0)) (by omega) (pv r 0 hr (by decide)).2
      have a2 := g2 (e.trans e1.symm) (v (4 * o + 0)) (by omega) (by rw [e1]; exact (pv o 0 ho (by decide)).1)
      omega))))))
    refine kb_140_66 (fun g => absurd g (by decide)) (fun _ => kb_140_81 (c_135 (kb_140_85 vr (fun g => absurd g (by decide)) (fun _ => kb_140_100 (c_135 (kb_140_104 vo (fun g => kb_140_129 (fun g => absurd g (by decide)) (fun _ => kb_140_143 (c_135 (kb_140_147 vo (fun g => absurd g (by decide)) (fun _ => ?_))))) (fun g => kb_140_108 (fun g => absurd g (by decide)) (fun _ => kb_140_121 (c_135 (kb_140_125 vr (fun g => absurd g (by decide)) (fun _ => ?_)))))))))))
    · rw [ko, kr, zr, zo] at g
      have g' := (nI_leI (by omega) (by omega)).mp g
      rw [ko, zo]
      exact fin _ x2 g' (Nat.le_refl _)
    · rw [ko, kr, zr, zo] at g
      have g' : v (4 * o + 0) ≤ v (4 * r + 2 + 0) := by
        rcases Nat.lt_or_ge (v (4 * r + 2 + 0)) (v (4 * o + 0)) with c | c
        · exact absurd ((nI_leI (by omega) (by omega)).mpr (by omega)) g
        · exact c
      rw [kr, zr]
      exact fin _ (by omega) (Nat.le_refl _) g'
end
