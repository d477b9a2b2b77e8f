/-! the reference: findPlaces reaches the least solution -/
def PVr (τ : mm_S) (v : Nat → Nat) : Prop := ∀ i a, i < 9 → a < 2 → τ 96 (2 * i + a) = nI (v (4 * i + a)) ∧ τ 97 (2 * i + a) = nI (v (4 * i + 2 + a))
def INp (V : Nat → Nat) (WD HT : Nat) (τ : mm_S) : Prop := (∃ v, (∀ x, v x ≤ V x) ∧ PVr τ v) ∧ (∃ w, w ≤ WD ∧ τ 10 32 = nI w) ∧ ∃ h, h ≤ HT ∧ τ 10 33 = nI h
def Sfp (V : Nat → Nat) (WD HT : Nat) (τ τ' : mm_S) : Prop := INp V WD HT τ' ∧ FP τ τ' ∧ (τ' = τ ∨ (τ' 10 44 = 1 ∧ Sm τ' < Sm τ))
theorem Sfp_r {V : Nat → Nat} {WD HT : Nat} {τ : mm_S} (h : INp V WD HT τ) : Sfp V WD HT τ τ := ⟨h, ⟨fun _ _ _ _ => rfl, fun _ _ _ _ => rfl⟩, Or.inl rfl⟩
theorem Sfp_t {V : Nat → Nat} {WD HT : Nat} {τ τ' τ'' : mm_S} (h : Sfp V WD HT τ τ') (k : Sfp V WD HT τ' τ'') : Sfp V WD HT τ τ'' := by
  refine ⟨k.1, FP_t h.2.1 k.2.1, ?_⟩
  rcases h.2.2 with h | ⟨h1, h2⟩
  · rcases k.2.2 with k | ⟨k1, k2⟩
    · exact Or.inl (k.trans h)
    · exact Or.inr ⟨k1, by rw [← h]; exact k2⟩
  · rcases k.2.2 with k | ⟨k1, k2⟩
    · exact Or.inr ⟨by rw [k]; exact h1, by rw [k]; exact h2⟩
    · exact Or.inr ⟨k1, by omega⟩
/-- both steps changed nothing, if their sum changed nothing -/
theorem Sfp_e {V : Nat → Nat} {WD HT : Nat} {τ τ' τ'' : mm_S} (h : Sfp V WD HT τ τ') (k : Sfp V WD HT τ' τ'') (e : τ'' = τ) : τ' = τ := by
  rcases h.2.2 with h | ⟨_, h2⟩
  · exact h
  · rcases k.2.2 with k | ⟨_, k2⟩
    · rw [k] at e; exact e
    · rw [e] at k2; omega
theorem c_137t {d r b x : Nat} {Q : mm_Q} {τ : mm_S} {V : Nat → Nat} {WD HT : Nat} (hr : r < 9) (hb : b < 2) (I : INp V WD HT τ) (V40 : ∀ x, V x ≤ 4050) (hx : x ≤ V (4 * r + 2 + b)) (q : ∀ τ', Sfp V WD HT τ τ' → (τ' = τ → ∀ y, y < 2 ^ 31 → τ 97 (2 * r + b) = nI y → x ≤ y) → Q none τ') : mD (d + 2) 137 [.ref 10, .int (nI r), .int (nI b), .int (nI x)] τ Q := by
  obtain ⟨⟨v, vV, pv⟩, Iw, Ih⟩ := id I
  have e97 := (pv r b hr hb).2
  have b1 := vV (4 * r + 2 + b)
  have b2 := V40 (4 * r + 2 + b)
  refine c_137 (by rw [at_n r hr b hb]; exact pk_in (2 * r + b) 18 (by omega)) (fun g => ?_) (fun g => q τ (Sfp_r I) (fun _ => ?_))
  · rw [at_n r hr b hb, nI_clamp (by omega)] at g ⊢
    have G := Gw_97 (v := 1) (show 2 * r + b < 18 by omega) g
    have lt : v (4 * r + 2 + b) < x := by
      rw [e97] at g
      exact (nI_ltI (by omega) (by omega)).mp g
    refine q _ ⟨⟨⟨fun y => if y = 4 * r + 2 + b then x else v y, fun y => ?_, fun i a hi ha => ?_⟩, ?_, ?_⟩, ⟨G.1, G.2.1⟩, Or.inr ⟨mm_up_s, ?_⟩⟩ (fun e => ?_)
    · show (if y = 4 * r + 2 + b then x else v y) ≤ V y
      by_cases c : y = 4 * r + 2 + b
      · rw [if_pos c, c]; exact hx
      · rw [if_neg c]; exact vV y
    · rw [mm_up_n (by decide), mm_up_n (by decide), mm_up_n (by decide)]
      simp only [if_neg (show ¬ 4 * i + a = 4 * r + 2 + b by omega)]
      refine ⟨(pv i a hi ha).1, ?_⟩
      by_cases c : 2 * i + a = 2 * r + b
      · rw [c, mm_up_s, if_pos (by omega)]
      · rw [mm_up_o c, if_neg (by omega)]; exact (pv i a hi ha).2
    · rw [mm_up_o (by decide), mm_up_n (by decide)]; exact Iw
    · rw [mm_up_o (by decide), mm_up_n (by decide)]; exact Ih
    · rcases G.2.2.2 with h | h
      · have : Sm (mm_up (mm_up τ 97 (2 * r + b) (nI x)) 10 44 1) < Sm τ := by
          unfold Sm
          rw [mm_up_o (by decide), mm_up_o (by decide), mm_up_n (show (97 : Nat) ≠ 10 by decide), mm_up_n (show (96 : Nat) ≠ 10 by decide), mm_up_n (show (10 : Nat) ≠ 97 by decide), mm_up_n (show (96 : Nat) ≠ 97 by decide)]
          have := sm_lt (f := fun j => pot (τ 97 j)) (g := fun j => pot (mm_up τ 97 (2 * r + b) (nI x) 97 j)) (i := 2 * r + b) (fun j hj => by rw [mm_up_o hj]) (by rw [mm_up_s]; exact pot_lt g) 18 (by omega)
          omega
        exact this
      · exact h
    · have := congrFun (congrFun e 97) (2 * r + b)
      rw [mm_up_n (by decide), mm_up_s, e97] at this
      have := (nI_eq (by omega) (by omega)).mp this
      omega
  · rw [at_n r hr b hb, nI_clamp (by omega), e97] at g
    intro y hy ey
    rw [(nI_eq hy (by omega)).mp (ey.symm.trans e97)]
    rcases Nat.lt_or_ge (v (4 * r + 2 + b)) x with c | c
    · exact absurd ((nI_ltI (by omega) (by omega)).mpr c) g
    · exact c
theorem c_136t {d r b x : Nat} {Q : mm_Q} {τ : mm_S} {V : Nat → Nat} {WD HT : Nat} (hr : r < 9) (hb : b < 2) (I : INp V WD HT τ) (V40 : ∀ x, V x ≤ 4050) (hx : x ≤ V (4 * r + b)) (q : ∀ τ', Sfp V WD HT τ τ' → (τ' = τ → ∀ y, y < 2 ^ 31 → τ 96 (2 * r + b) = nI y → x ≤ y) → Q none τ') : mD (d + 2) 136 [.ref 10, .int (nI r), .int (nI b), .int (nI x)] τ Q := by
  obtain ⟨⟨v, vV, pv⟩, Iw, Ih⟩ := id I
  have e97 := (pv r b hr hb).1
  have b1 := vV (4 * r + b)
  have b2 := V40 (4 * r + b)
  refine c_136 (by rw [at_n r hr b hb]; exact pk_in (2 * r + b) 18 (by omega)) (fun g => ?_) (fun g => q τ (Sfp_r I) (fun _ => ?_))
  · rw [at_n r hr b hb, nI_clamp (by omega)] at g ⊢
    have G := Gw_96 (v := 1) (show 2 * r + b < 18 by omega) g
    have lt : v (4 * r + b) < x := by
      rw [e97] at g
      exact (nI_ltI (by omega) (by omega)).mp g
    refine q _ ⟨⟨⟨fun y => if y = 4 * r + b then x else v y, fun y => ?_, fun i a hi ha => ?_⟩, ?_, ?_⟩, ⟨G.1, G.2.1⟩, Or.inr ⟨mm_up_s, ?_⟩⟩ (fun e => ?_)
    · show (if y = 4 * r + b then x else v y) ≤ V y
      by_cases c : y = 4 * r + b
      · rw [if_pos c, c]; exact hx
      · rw [if_neg c]; exact vV y
    · rw [mm_up_n (show (96 : Nat) ≠ 10 by decide), mm_up_n (show (97 : Nat) ≠ 10 by decide), mm_up_n (show (97 : Nat) ≠ 96 by decide)]
      simp only [if_neg (show ¬ 4 * i + 2 + a = 4 * r + b by omega)]
      refine ⟨?_, (pv i a hi ha).2⟩
      by_cases c : 2 * i + a = 2 * r + b
      · rw [c, mm_up_s, if_pos (by omega)]
      · rw [mm_up_o c, if_neg (by omega)]; exact (pv i a hi ha).1
    · rw [mm_up_o (by decide), mm_up_n (by decide)]; exact Iw
    · rw [mm_up_o (by decide), mm_up_n (by decide)]; exact Ih
    · rcases G.2.2.2 with h | h
      · have : Sm (mm_up (mm_up τ 96 (2 * r + b) (nI x)) 10 44 1) < Sm τ := by
          unfold Sm
          rw [mm_up_o (by decide), mm_up_o (by decide), mm_up_n (show (96 : Nat) ≠ 10 by decide), mm_up_n (show (97 : Nat) ≠ 10 by decide), mm_up_n (show (10 : Nat) ≠ 96 by decide), mm_up_n (show (97 : Nat) ≠ 96 by decide)]
          have := sm_lt (f := fun j => pot (τ 96 j)) (g := fun j => pot (mm_up τ 96 (2 * r + b) (nI x) 96 j)) (i := 2 * r + b) (fun j hj => by rw [mm_up_o hj]) (by rw [mm_up_s]; exact pot_lt g) 18 (by omega)
          omega
        exact this
      · exact h
    · have := congrFun (congrFun e 96) (2 * r + b)
      rw [mm_up_n (by decide), mm_up_s, e97] at this
      have := (nI_eq (by omega) (by omega)).mp this
      omega
  · rw [at_n r hr b hb, nI_clamp (by omega), e97] at g
    intro y hy ey
    rw [(nI_eq hy (by omega)).mp (ey.symm.trans e97)]
    rcases Nat.lt_or_ge (v (4 * r + b)) x with c | c
    · exact absurd ((nI_ltI (by omega) (by omega)).mpr c) g
    · exact c
