/-! the reference: raiseRoom -/
def Crm (τ : mm_S) (r wid hgt : Nat) (E N : Prop) : Prop := ∀ v : Nat → Nat, (∀ x, v x ≤ 4050) → PVr τ v → v (4 * r) + wid ≤ v (4 * r + 2) ∧ v (4 * r + 1) + hgt ≤ v (4 * r + 3) ∧ (E → τ 10 32 = nI (v (4 * r + 2))) ∧ (N → τ 10 33 = nI (v (4 * r + 3)))
theorem c_139t {d r wid hgt KE KN : Nat} {Q : mm_Q} {τ : mm_S} {V : Nat → Nat} {WD HT : Nat} (hr : r < 9) (I : INp V WD HT τ) (V40 : ∀ x, V x ≤ 4050) (ew : τ 78 r = nI wid) (eh : τ 79 r = nI hgt) (c1 : V (4 * r) + wid ≤ V (4 * r + 2)) (c2 : V (4 * r + 1) + hgt ≤ V (4 * r + 3)) (eE : τ 91 10 = nI KE) (eN : τ 91 9 = nI KN) (bE : KE < 2 ^ 13) (bN : KN < 2 ^ 13) (cE : KE.testBit r = true → V (4 * r + 2) = WD) (cN : KN.testBit r = true → V (4 * r + 3) = HT) (q : ∀ τ', Sfp V WD HT τ τ' → (τ' = τ → Crm τ r wid hgt (KE.testBit r = true) (KN.testBit r = true)) → Q none τ') : mD (d + 3) 139 [.ref 10, .int (nI r)] τ Q := by
  have a0 : f_135 (nI r) 0 = nI (2 * r) := at_n r hr 0 (by omega)
  have a1 : f_135 (nI r) 1 = nI (2 * r + 1) := at_n r hr 1 (by omega)
  have v0 : vp_in (f_135 (nI r) 0) 18 := by rw [a0]; exact pk_in (2 * r) 18 (by omega)
  have v1 : vp_in (f_135 (nI r) 1) 18 := by rw [a1]; exact pk_in (2 * r + 1) 18 (by omega)
  have k0 : (f_135 (nI r) 0).toNatClampNeg = 2 * r := by rw [a0]; exact nI_clamp (by omega)
  have k1 : (f_135 (nI r) 1).toNatClampNeg = 2 * r + 1 := by rw [a1]; exact nI_clamp (by omega)
  have kr : (nI r).toNatClampNeg = r := nI_clamp (by omega)
  have vr : vp_in (nI r) 9 := pk_in r 9 hr
  have V0 := V40 (4 * r); have V1 := V40 (4 * r + 1); have V2 := V40 (4 * r + 2); have V3 := V40 (4 * r + 3)
  have bit : ∀ (ρ : mm_S) (j K : Nat), K < 2 ^ 13 → ρ 91 j = nI K → ((((ρ 91 j) >>> (nI r &&& 31)) &&& (1 : Int32)) = 1 ↔ K.testBit r = true) := fun ρ j K hK e => by
    rw [e, ← hs_b1 (m := K) (i := r) (by omega) (by omega)]
    unfold hs
    constructor
    · intro z; rw [if_pos z]
    · intro z
      by_cases y : (nI K >>> (nI r &&& 31)) &&& (1 : Int32) = 1
      · exact y
      · rw [if_neg y] at z; exact absurd z (by decide)
  obtain ⟨⟨v, vV, pv⟩, Iw, Ih⟩ := id I
  have l0 := (pv r 0 hr (by decide)).1
  refine ke_139 (kb_139_0 (c_135 (kb_139_12 v0 vr ?_)))
  rw [k0, kr, show τ 96 (2 * r) = nI (v (4 * r)) from l0, ew, nI_add]
  have b0 := vV (4 * r)
  refine c_137t (b := 0) hr (by omega) I V40 (show v (4 * r) + wid ≤ V (4 * r + 2) by omega) (fun τ1 S1 h1 => kb_139_23 (c_135 (kb_139_35 v1 vr ?_)))
  obtain ⟨⟨w, wV, pw⟩, Iw1, Ih1⟩ := id S1.1
  have b1 := wV (4 * r + 1)
  rw [k1, kr, show τ1 96 (2 * r + 1) = nI (w (4 * r + 1)) from (pw r 1 hr (by decide)).1, S1.2.1.1 79 (by decide) (by decide) (by decide), eh, nI_add]
  refine c_137t (b := 1) hr (by omega) S1.1 V40 (show w (4 * r + 1) + hgt ≤ V (4 * r + 2 + 1) by show _ ≤ V (4 * r + 3); omega) (fun τ2 S2 h2 => ?_)
  -- the north side
  have north : ∀ τ3, Sfp V WD HT τ2 τ3 → (τ3 = τ2 → KE.testBit r = true → ∀ y, y < 4051 → τ2 97 (2 * r) = nI y → τ2 10 32 = nI y) → mw (d + 2) mt_139 Q 131 [some (.ref 10), some (.int (nI r))] [] τ3 := fun τ3 S3 h3 => by
    have T3 := Sfp_t (Sfp_t S1 S2) S3
    have fin : ∀ τ4, Sfp V WD HT τ3 τ4 → (τ4 = τ3 → KN.testBit r = true → ∀ y, y < 4051 → τ3 97 (2 * r + 1) = nI y → τ3 10 33 = nI y) → Q none τ4 := fun τ4 S4 h4 => by
      refine q τ4 (Sfp_t T3 S4) (fun e => ?_)
      have e3 : τ3 = τ := Sfp_e T3 S4 e
      have e43 : τ4 = τ3 := e.trans e3.symm
      have e2 : τ2 = τ := Sfp_e (Sfp_t S1 S2) S3 e3
      have e1 : τ1 = τ := Sfp_e S1 S2 e2
      have e32 : τ3 = τ2 := e3.trans e2.symm
      have e21 : τ2 = τ1 := e2.trans e1.symm
      intro u u40 pu
      have u0 := u40 (4 * r); have u1 := u40 (4 * r + 1); have u2 := u40 (4 * r + 2); have u3 := u40 (4 * r + 3)
      have p0 := pu r 0 hr (by decide)
      have p1 := pu r 1 hr (by decide)
      have g1 : v (4 * r) = u (4 * r) := (nI_eq (by omega) (by omega)).mp (l0.symm.trans p0.1)
      have g2 : w (4 * r + 1) = u (4 * r + 1) := by
        have := (pw r 1 hr (by decide)).1
        rw [e1] at this
        exact (nI_eq (by omega) (by omega)).mp (this.symm.trans p1.1)
      refine ⟨?_, ?_, fun hE => ?_, fun hN => ?_⟩
      · have := h1 e1 (u (4 * r + 2)) (by omega) p0.2
        omega
      · have := h2 e21 (u (4 * r + 3)) (by omega) (by rw [e1]; exact p1.2)
        omega
      · have := h3 e32 hE (u (4 * r + 2)) (by omega) (by rw [e2]; exact p0.2)
        rw [e2] at this; exact this
      · have := h4 e43 hN (u (4 * r + 3)) (by omega) (by rw [e3]; exact p1.2)
        rw [e3] at this; exact this
    obtain ⟨⟨u, uV, pu⟩, ⟨w3, lw3, ew3⟩, ⟨t3, lt3, et3⟩⟩ := id S3.1
    have x97 : τ3 97 (2 * r + 1) = nI (u (4 * r + 3)) := (pu r 1 hr (by decide)).2
    have bu := uV (4 * r + 3)
    have bt := bit τ3 9 KN bN (by rw [T3.2.1.1 91 (by decide) (by decide) (by decide)]; exact eN)
    refine kb_139_131 (pk_in 9 13 (by omega)) (fun g => ?_) (fun g => kb_139_216 (fin τ3 (Sfp_r S3.1) (fun _ hN => absurd (bt.mpr hN) g)))
    have yes := bt.mp g
    have eHT := cN yes
    refine kb_139_146 (c_135 (kb_139_155 v1 (fun g => kb_139_168 (c_135 (kb_139_178 v1 (fun _ => kb_139_199 ?_) (fun h => absurd g h)))) (fun g => kb_139_163 (c_135 (kb_139_178 v1 (fun h => ?_) (fun h => kb_139_186 (c_135 (kb_139_195 v1 ?_))))))))
    · rw [k1, x97, et3] at g
      have g' := (nI_leI (by omega) (by omega)).mp g
      rw [mm_up_id, et3]
      refine c_137t (b := 1) hr (by omega) S3.1 V40 (show t3 ≤ V (4 * r + 2 + 1) by show t3 ≤ V (4 * r + 3); omega) (fun τ4 S4 h4 => kb_139_216 (fin τ4 S4 (fun e _ y hy ey => ?_)))
      have := h4 e y (by omega) ey
      have e' := (nI_eq (by omega) (by omega)).mp (ey.symm.trans x97)
      rw [et3]; congr 1; omega
    · rw [mm_up_n (by decide), mm_up_o (by decide)] at h; exact absurd h g
    · rw [k1, mm_up_n (show (97 : Nat) ≠ 10 by decide), x97, mm_up_s]
      rw [k1, x97] at g
      have S4 : Sfp V WD HT τ3 (mm_up (mm_up τ3 10 44 1) 10 33 (nI (u (4 * r + 3)))) := by
        have G := Gw_33 (v := 1) (Int32.not_le.mp g)
        refine ⟨⟨⟨u, uV, fun i a hi ha => by rw [mm_up_n (by decide), mm_up_n (by decide), mm_up_n (by decide), mm_up_n (by decide)]; exact pu i a hi ha⟩, ⟨w3, lw3, by rw [mm_up_o (by decide), mm_up_o (by decide)]; exact ew3⟩, ⟨_, by omega, mm_up_s⟩⟩, ⟨G.1, G.2.1⟩, Or.inr ⟨by rw [mm_up_o (by decide)]; exact mm_up_s, ?_⟩⟩
        unfold Sm
        rw [mm_up_s, mm_up_o (show (32 : Nat) ≠ 33 by decide), mm_up_o (show (32 : Nat) ≠ 44 by decide), mm_up_n (show (97 : Nat) ≠ 10 by decide), mm_up_n (show (97 : Nat) ≠ 10 by decide), mm_up_n (show (96 : Nat) ≠ 10 by decide), mm_up_n (show (96 : Nat) ≠ 10 by decide)]
        have := pot_lt (Int32.not_le.mp g)
        omega
      refine c_137t (b := 1) hr (by omega) S4.1 V40 (show u (4 * r + 3) ≤ V (4 * r + 2 + 1) from bu) (fun τ5 S5 h5 => kb_139_216 (fin τ5 (Sfp_t S4 S5) (fun e => ?_)))
      exfalso
      have e' := Sfp_e S4 S5 e
      have := congrFun (congrFun e' 10) 33
      rw [mm_up_s, et3] at this
      rw [et3, this] at g
      exact g (hI_le (by omega) (Nat.le_refl _))
  have T2 := Sfp_t S1 S2
  obtain ⟨⟨u, uV, pu⟩, ⟨w3, lw3, ew3⟩, ⟨t3, lt3, et3⟩⟩ := id S2.1
  have x97 : τ2 97 (2 * r) = nI (u (4 * r + 2)) := (pu r 0 hr (by decide)).2
  have bu := uV (4 * r + 2)
  have bt := bit τ2 10 KE bE (by rw [T2.2.1.1 91 (by decide) (by decide) (by decide)]; exact eE)
  refine kb_139_46 (pk_in 10 13 (by omega)) (fun g => ?_) (fun g => north τ2 (Sfp_r S2.1) (fun _ hE => absurd (bt.mpr hE) g))
  have yes := bt.mp g
  have eWD := cE yes
  refine kb_139_61 (c_135 (kb_139_70 v0 (fun g => kb_139_83 (c_135 (kb_139_93 v0 (fun _ => kb_139_114 ?_) (fun h => absurd g h)))) (fun g => kb_139_78 (c_135 (kb_139_93 v0 (fun h => ?_) (fun h => kb_139_101 (c_135 (kb_139_110 v0 ?_))))))))
  · rw [k0, x97, ew3] at g
    have g' := (nI_leI (by omega) (by omega)).mp g
    rw [mm_up_id, ew3]
    refine c_137t (b := 0) hr (by omega) S2.1 V40 (show w3 ≤ V (4 * r + 2) by omega) (fun τ4 S4 h4 => north τ4 S4 (fun e _ y hy ey => ?_))
    have := h4 e y (by omega) ey
    have e' := (nI_eq (by omega) (by omega)).mp (ey.symm.trans x97)
    rw [ew3]; congr 1; omega
  · rw [mm_up_n (by decide), mm_up_o (by decide)] at h; exact absurd h g
  · rw [k0, mm_up_n (show (97 : Nat) ≠ 10 by decide), x97, mm_up_s]
    rw [k0, x97] at g
    have S4 : Sfp V WD HT τ2 (mm_up (mm_up τ2 10 44 1) 10 32 (nI (u (4 * r + 2)))) := by
      have G := Gw_32 (v := 1) (Int32.not_le.mp g)
      refine ⟨⟨⟨u, uV, fun i a hi ha => by rw [mm_up_n (by decide), mm_up_n (by decide), mm_up_n (by decide), mm_up_n (by decide)]; exact pu i a hi ha⟩, ⟨_, by omega, mm_up_s⟩, ⟨t3, lt3, by rw [mm_up_o (by decide), mm_up_o (by decide)]; exact et3⟩⟩, ⟨G.1, G.2.1⟩, Or.inr ⟨by rw [mm_up_o (by decide)]; exact mm_up_s, ?_⟩⟩
      unfold Sm
      rw [mm_up_s, mm_up_o (show (33 : Nat) ≠ 32 by decide), mm_up_o (show (33 : Nat) ≠ 44 by decide), mm_up_n (show (97 : Nat) ≠ 10 by decide), mm_up_n (show (97 : Nat) ≠ 10 by decide), mm_up_n (show (96 : Nat) ≠ 10 by decide), mm_up_n (show (96 : Nat) ≠ 10 by decide)]
      have := pot_lt (Int32.not_le.mp g)
      omega
    refine c_137t (b := 0) hr (by omega) S4.1 V40 (show u (4 * r + 2) ≤ V (4 * r + 2) from bu) (fun τ5 S5 h5 => north τ5 (Sfp_t S4 S5) (fun e => ?_))
    exfalso
    have e' := Sfp_e S4 S5 e
    have := congrFun (congrFun e' 10) 32
    rw [mm_up_s, ew3] at this
    rw [ew3, this] at g
    exact g (hI_le (by omega) (Nat.le_refl _))
