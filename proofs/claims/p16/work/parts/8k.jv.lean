-- what the class's plan finds, as facts of the sketch alone
def OLp (B : Nat → Nat → Nat) (s t L : Nat) : Prop := 1 ≤ L ∧ L ≤ 9 ∧ wo B s t L = s ∧ wo B s t (L + 1) = t ∧ ∀ i j, i < j → j < L → wo B s t i ≠ wo B s t j
def NSp (B : Nat → Nat → Nat) (s t : Nat) : Prop := ∃ k, k ≤ 9 ∧ (∀ i j, i < j → j < k → wo B s t i ≠ wo B s t j) ∧ (∃ j, j < k ∧ wo B s t j = wo B s t k) ∧ ¬ (wo B s t k = s ∧ wo B s t (k + 1) = t)
def FLp (σ : mm_S) (m : Nat) (B : Nat → Nat → Nat) (s t L f : Nat) (Mk : Nat → Nat) : Prop := f ≤ 42 ∧ ∃ lab : Nat × Nat → Int32, (∀ x, Dt σ m x → lab (ph B x) = lab x) ∧ (∀ x, Dt σ m x → lab x = -1 ∨ ∃ g, g < f ∧ lab x = nI g) ∧ (∀ x, Dt σ m x → (lab x = -1 ↔ ∃ k, k < L ∧ x = (wo B s t k, wo B s t (k + 1)))) ∧ ∀ g, g < f → Mk g < 512 ∧ (∀ a, a < 9 → ((Mk g).testBit a = true ↔ ∃ b, Dt σ m (a, b) ∧ lab (a, b) = nI g)) ∧ ∃ x, Dt σ m x ∧ lab x = nI g ∧ ∀ y, Dt σ m y → lab y = nI g → ∃ k, y = it (ph B) x k
def J0 (σ : mm_S) (n : Nat) : Prop := (∀ e f, e < f → f < n → ¬ cxx σ e f) ∧ ∀ e i, e < n → i < 9 → ¬ clx σ e i
/-- where the corners fit -/
def J5 (σ : mm_S) (m L f : Nat) (o Mk : Nat → Nat) (a k x y z : Int32) : Prop := ∃ p c K : Nat → Nat, (∀ i, i < 4 → c i < 9 ∧ σ 83 i = nI (c i)) ∧ (∀ i, i < 4 → p i < L ∧ o (p i) = c i) ∧ st L p 0 + st L p 1 + st L p 2 + st L p 3 = L ∧ NB σ m o p L (fun s => st L p s + 1) K ∧ ((∃ i j l, tr K (SF f Mk L o p) i j l ∧ (∀ i' j' l', (i' < i ∨ (i' = i ∧ (j' < j ∨ (j' = j ∧ l' < l)))) → ¬ tr K (SF f Mk L o p) i' j' l') ∧ a = 5 ∧ k = 3 ∧ x = nI i ∧ y = nI j ∧ z = nI l) ∨ ((∀ i j l, ¬ tr K (SF f Mk L o p) i j l) ∧ a = 1 ∧ k = 0))
/-- behind the outline -/
def J3 (σ : mm_S) (m L f : Nat) (o Mk : Nat → Nat) (a k x y z : Int32) : Prop := (∃ K, (∃ g, g < f ∧ 3 < bc (Mk g) 13 ∧ kk (Mk g) = K) ∧ (∀ g, g < f → 3 < bc (Mk g) 13 → K ≤ kk (Mk g)) ∧ a = 3 ∧ k = 3 ∧ x = nI (K / 100) ∧ y = nI (K / 10 % 10) ∧ z = nI (K % 10)) ∨ ((∀ g, g < f → bc (Mk g) 13 ≤ 3) ∧ ((¬ fit σ L o ∧ a = 4 ∧ k = 0) ∨ (fit σ L o ∧ J5 σ m L f o Mk a k x y z)))
def JV (σ : mm_S) (n m : Nat) (a k x y z oc fc : Int32) : Prop :=
  (∃ e f, cfa σ n e f ∧ a = 0 ∧ k = 2 ∧ x = nI e ∧ y = nI f ∧ oc = 0 ∧ fc = 0) ∨
  (J0 σ n ∧ (bc m 9 < 3 ∨ (3 ≤ bc m 9 ∧ ¬ Cn σ m) ∨ (3 ≤ bc m 9 ∧ Cn σ m ∧ ∃ B s t, BN σ m B ∧ wms σ m 9 s ∧ nms σ s 9 t ∧ NSp B s t)) ∧ a = 2 ∧ k = 0 ∧ oc = 0 ∧ fc = 0) ∨
  (J0 σ n ∧ 3 ≤ bc m 9 ∧ Cn σ m ∧ ∃ B s t L f Mk, BN σ m B ∧ wms σ m 9 s ∧ nms σ s 9 t ∧ OLp B s t L ∧ FLp σ m B s t L f Mk ∧ oc = nI L ∧ fc = nI f ∧ J3 σ m L f (wo B s t) Mk a k x y z)
theorem JV_cg {σ τ : mm_S} {n m : Nat} {a k x y z oc fc : Int32} (h1 : τ 1 = σ 1) (h11 : τ 11 = σ 11) (h12 : τ 12 = σ 12) (h15 : τ 15 = σ 15) (h16 : τ 16 = σ 16) (h17 : τ 17 = σ 17) (h83 : τ 83 = σ 83) (h10 : τ 10 10 = σ 10 10) (J : JV σ n m a k x y z oc fc) : JV τ n m a k x y z oc fc := by
  have ea : aj τ = aj σ := aj_cg h15
  have ev : vc τ = vc σ := vc_cg h11 h12
  have e26 : f_26 τ = f_26 σ := by funext e f; unfold f_26; rw [f_27_cg h11 h12 h16 h17, h16, h17]
  have ex : cxx τ = cxx σ := by funext e f; unfold cxx; rw [e26, f_29_cg h11 h12 h16 h17]
  have el : clx τ = clx σ := by funext e f; unfold clx; rw [xd_cg h1, f_27_cg h11 h12 h16 h17]
  have e1 : cfa τ = cfa σ := by funext n a b; unfold cfa; rw [ex, el]
  have e2 : J0 τ = J0 σ := by funext n; unfold J0; rw [ex, el]
  have e3 : Cn τ = Cn σ := by funext m; unfold Cn; rw [ea]
  have e4 : BN τ = BN σ := by funext m B; unfold BN; rw [ea, ev]
  have e5 : Dt τ = Dt σ := by funext m x; unfold Dt; rw [ea]
  have e6 : FLp τ = FLp σ := by funext m B s t L f Mk; unfold FLp; rw [e5]
  have e7 : fit τ = fit σ := by funext L o; unfold fit; rw [h83, h10]
  have e8 : NB τ = NB σ := by funext m o p L c K; unfold NB; rw [ea]
  have e9 : J5 τ = J5 σ := by funext m L f o Mk a k x y z; unfold J5; rw [h83, e8]
  have e10 : J3 τ = J3 σ := by funext m L f o Mk a k x y z; unfold J3; rw [e7, e9]
  unfold JV at *
  rw [e1, e2, e3, e4, e6, e10, wms_cg h11 h12, nms_cg h11 h12 h15]
  exact J
/-- the numbers that plan() shows -/
def WV (τ : mm_S) (k x y z oc fc : Int32) : Prop := τ 3 1 = k ∧ (k = 2 → τ 20 0 = x ∧ τ 20 1 = y) ∧ (k = 3 → τ 20 0 = x ∧ τ 20 1 = y ∧ τ 20 2 = z) ∧ τ 2 4 = oc ∧ τ 2 5 = fc
theorem f57_S0 {σ τ : mm_S} {m L f : Nat} {o p c K Mk : Nat → Nat} (B : NB σ m o p L (fun s => st L p s + 1) K) (O : OA τ L o) (f42 : f ≤ 42) (e6 : τ 5 6 = nI f) (hM : ∀ g, g < f → Mk g < 512 ∧ τ 43 g = nI (Mk g)) (hc : ∀ i, i < 4 → c i < 9 ∧ τ 19 i = nI (c i)) (hp : ∀ i, i < 4 → p i < L ∧ τ 32 (c i) = nI (p i)) (lay : ∀ s, s < 4 → (p 0 + frm L p s) % L = p s ∧ tom L p s = frm L p s + st L p s ∧ tom L p s ≤ L) (i j k : Nat) : tri τ K i j k ↔ tr K (SF f Mk L o p) i j k := by
  unfold tri tr
  constructor
  · rintro ⟨a1, a2, a3, a4, a5, a6, a7⟩
    exact ⟨a1, a2, a3, a4, a5, a6, (f57_SF B O f42 e6 hM hc hp lay a1 a2 a3 a4 a5 a6).mp a7⟩
  · rintro ⟨a1, a2, a3, a4, a5, a6, a7⟩
    exact ⟨a1, a2, a3, a4, a5, a6, (f57_SF B O f42 e6 hM hc hp lay a1 a2 a3 a4 a5 a6).mpr a7⟩
theorem c_18s {d n m : Nat} {Q : mm_Q} {σ : mm_S} (Z0 : ZI σ n m) (q : ∀ τ a k x y z oc fc, jfr σ τ → BG τ → DG τ → WN τ → JV σ n m a k x y z oc fc → WV τ k x y z oc fc → Q (some (.int a)) τ) : mD (d + 62) 18 [.ref 2] σ Q := by
  have C := Z0.ck
  have K0 := Z0.co
  have hB := Z0.bg
  have hD := Z0.dg
  refine ke_18 (kb_18_0 (c_19 (kb_18_7 ?_)))
  have F2 : ∀ c, c ≠ 2 → c ≠ 3 → (mm_up (mm_up (mm_up σ 3 1 (0 : Int32)) 2 4 (0 : Int32)) 2 5 (0 : Int32)) c = σ c := fun c h2 h3 => by rw [mm_up_n h2, mm_up_n h2, mm_up_n h3]
  have W0 : (mm_up (mm_up (mm_up σ 3 1 (0 : Int32)) 2 4 (0 : Int32)) 2 5 (0 : Int32)) 3 1 = 0 := by rw [mm_up_n (by decide), mm_up_n (by decide)]; exact mm_up_s
  have U4 : (mm_up (mm_up (mm_up σ 3 1 (0 : Int32)) 2 4 (0 : Int32)) 2 5 (0 : Int32)) 2 4 = 0 := by rw [mm_up_o (by decide)]; exact mm_up_s
  have U5 : (mm_up (mm_up (mm_up σ 3 1 (0 : Int32)) 2 4 (0 : Int32)) 2 5 (0 : Int32)) 2 5 = 0 := mm_up_s
  generalize mm_up (mm_up (mm_up σ 3 1 (0 : Int32)) 2 4 (0 : Int32)) 2 5 (0 : Int32) = σ2 at F2 W0 U4 U5
  have jv : ∀ {a k x y z oc fc}, JV σ2 n m a k x y z oc fc → JV σ n m a k x y z oc fc := fun J => JV_cg (F2 1 (by decide) (by decide)).symm (F2 11 (by decide) (by decide)).symm (F2 12 (by decide) (by decide)).symm (F2 15 (by decide) (by decide)).symm (F2 16 (by decide) (by decide)).symm (F2 17 (by decide) (by decide)).symm (F2 83 (by decide) (by decide)).symm (by rw [F2 10 (by decide) (by decide)]) J
  have qq : ∀ τ a, jfr σ τ → BG τ → DG τ → WN τ → (∃ k x y z oc fc, JV σ2 n m a k x y z oc fc ∧ WV τ k x y z oc fc) → Q (some (.int a)) τ := fun τ a h1 h2 h3 h4 ⟨k, x, y, z, oc, fc, h5, h6⟩ => q τ a k x y z oc fc h1 h2 h3 h4 (jv h5) h6
  have sm : ∀ {τ : mm_S}, τ 3 1 = 0 → τ 2 4 = 0 → τ 2 5 = 0 → WV τ 0 0 0 0 0 0 := fun a b c => ⟨a, fun h => absurd h (by decide), fun h => absurd h (by decide), b, c⟩
  have C2 : CK σ2 n m := CK_cg (F2 1 (by decide) (by decide)) (F2 11 (by decide) (by decide)) (F2 12 (by decide) (by decide)) (F2 15 (by decide) (by decide)) (F2 16 (by decide) (by decide)) (F2 17 (by decide) (by decide)) C
  have J2 : ∀ τ, (∀ c, c ≠ 2 → c ≠ 3 → c ≠ 20 → (c < 5 ∨ c = 9 ∨ c = 10 ∨ (11 ≤ c ∧ c ≤ 19) ∨ 73 ≤ c) → τ c = σ2 c) → jfr σ τ := fun τ h c hc => by rw [h c (by omega) (by omega) (by omega) (by omega)]; exact F2 c (by omega) (by omega)
  have e11 : σ2 1 11 = nI (bc m 9) := C2.cr
  have b9 := bc_n m 9
  have B2 : BG σ2 := BG_cg (fun c h1 h2 => F2 c (by omega) (by omega)) hB
  have D2 : DG σ2 := DG_cg (F2 45 (by decide) (by decide)) hD
  refine c_23 C2.Jr (fun a b cf => ?_) (fun N NL => ?_)
  · refine kb_18_28 (fun z => absurd z (by decide)) (fun _ => kb_18_31 (qq _ _ (J2 _ (fun c h2 h3 h20 _ => ?_)) (BG_cg (fun c h1 h2 => ?_) B2) (DG_cg ?_ D2) (Or.inr (Or.inl mm_up_s)) ⟨2, nI a, nI b, 0, 0, 0, Or.inl ⟨a, b, cf, rfl, rfl, rfl, rfl, rfl, rfl⟩, mm_up_s, fun _ => ⟨?_, ?_⟩, fun h => absurd h (by decide), ?_, ?_⟩))
    · unfold tw2; rw [mm_up_n h3, mm_up_n h20, mm_up_n h20]
    · unfold tw2; rw [mm_up_n (by omega), mm_up_n (by omega), mm_up_n (by omega)]
    · unfold tw2; rw [mm_up_n (by omega), mm_up_n (by omega), mm_up_n (by omega)]
    · unfold tw2; rw [mm_up_n (by decide), mm_up_o (by decide)]; exact mm_up_s
    · unfold tw2; rw [mm_up_n (by decide)]; exact mm_up_s
    · unfold tw2; rw [mm_up_n (by decide), mm_up_n (by decide), mm_up_n (by decide)]; exact U4
    · unfold tw2; rw [mm_up_n (by decide), mm_up_n (by decide), mm_up_n (by decide)]; exact U5
  · refine kb_18_28 (fun _ => kb_18_33 (fun hr => kb_18_64 (qq _ _ (J2 _ (fun _ _ _ _ _ => rfl)) B2 D2 (Or.inl W0) ⟨0, 0, 0, 0, 0, 0, Or.inr (Or.inl ⟨⟨N, NL⟩, Or.inl (by rw [e11] at hr; exact (nI_ltI (b := 3) (by omega) (by omega)).mp hr), rfl, rfl, rfl, rfl⟩), sm W0 U4 U5⟩)) (fun hr => kb_18_44 ?_)) (fun z => absurd rfl z)
    have h3 : 3 ≤ bc m 9 := by
      rcases Nat.lt_or_ge (bc m 9) 3 with y | y
      · exact absurd (by rw [e11]; exact (nI_ltI (b := 3) (by omega) (by omega)).mpr y) hr
      · exact y
    refine c_31 C2 (by omega) (fun Z => kb_18_51 (fun z => absurd z (by decide)) (fun _ => kb_18_54 ?_)) (fun nC => kb_18_51 (fun _ => kb_18_64 (qq _ _ (J2 _ (fun _ _ _ _ _ => rfl)) B2 D2 (Or.inl W0) ⟨0, 0, 0, 0, 0, 0, Or.inr (Or.inl ⟨⟨N, NL⟩, Or.inr (Or.inl ⟨h3, nC⟩), rfl, rfl, rfl, rfl⟩), sm W0 U4 U5⟩)) (fun z => absurd rfl z))
    refine c_32 C2 N (by omega) (fun i hi mi => Cn_aj Z h3 hi mi) (fun τ s t L fr H W T O => kb_18_61 (fun z => absurd z (by decide)) (fun _ => kb_18_66 ?_)) (fun τ s t fr H W T ns => kb_18_61 (fun _ => kb_18_64 (qq _ _ (J2 _ (fun c _ _ _ h => fr.1 c (by omega) (by omega))) (BG_cg (fun c h1 h2 => fr.1 c (by omega) (by omega)) B2) (DG_cg (fr.1 45 (by omega) (by omega)) D2) (Or.inl (by rw [fr.1 3 (by omega) (by omega)]; exact W0)) ⟨0, 0, 0, 0, 0, 0, Or.inr (Or.inl ⟨⟨N, NL⟩, Or.inr (Or.inr ⟨h3, Z, Bf τ, s, t, BH_BN H, W, T, ns⟩), rfl, rfl, rfl, rfl⟩), sm (by rw [fr.1 3 (by omega) (by omega)]; exact W0) (by rw [fr.1 2 (by omega) (by omega)]; exact U4) (by rw [fr.1 2 (by omega) (by omega)]; exact U5)⟩)) (fun z => absurd rfl z))
    have AJ := wo_aj C2 H W.1 W.2.2.1 T.1
    refine c_39 C2 N (fun c h1 h2 => fr.1 c h1 h2) H W.1 W.2.2.1 T.1 O (fun τ1 f I => kb_18_73 ?_)
    obtain ⟨i1, i2, S, i4⟩ := I
    have k1 : ∀ c, c ≠ 5 → (c < 22 ∨ 43 < c) → τ1 c = σ2 c := fun c h1 h2 => by rw [i1 c h1 (by omega)]; exact fr.1 c h1 (by omega)
    -- the state behind the counts
    have F3 : ∀ c, c ≠ 2 → (mm_up (mm_up τ1 2 4 (τ1 5 3)) 2 5 ((mm_up τ1 2 4 (τ1 5 3)) 5 6)) c = τ1 c := fun c h => by rw [mm_up_n h, mm_up_n h]
    have V4 : (mm_up (mm_up τ1 2 4 (τ1 5 3)) 2 5 ((mm_up τ1 2 4 (τ1 5 3)) 5 6)) 2 4 = nI L := by rw [mm_up_o (by decide), mm_up_s, i2 3 (by decide)]; exact O.2.2.1
    have V5 : (mm_up (mm_up τ1 2 4 (τ1 5 3)) 2 5 ((mm_up τ1 2 4 (τ1 5 3)) 5 6)) 2 5 = nI f := by rw [mm_up_s, mm_up_n (by decide)]; exact S.fc
    generalize mm_up (mm_up τ1 2 4 (τ1 5 3)) 2 5 ((mm_up τ1 2 4 (τ1 5 3)) 5 6) = τ2 at F3 V4 V5
    have k2 : ∀ c, c ≠ 2 → c ≠ 5 → (c < 22 ∨ 43 < c) → τ2 c = σ2 c := fun c h0 h1 h2 => by rw [F3 c h0]; exact k1 c h1 h2
    have H1 : BH σ2 τ1 m := BH_cg (fun k h1 h2 => i1 k (by omega) (by omega)) H
    have f42 : f ≤ 42 := by
      obtain ⟨v, hv, _⟩ := S.ct
      have := bc_n v 42
      omega
    have faces : ∀ g, g < f → ∃ M, M < 512 ∧ τ2 43 g = nI M := fun g hg => by
      obtain ⟨M, m1, m2, _⟩ := S.fr g hg
      exact ⟨M, m1, by rw [F3 43 (by decide)]; exact m2⟩
    have exM : ∃ Mk : Nat → Nat, ∀ g, g < f → Mk g < 512 ∧ τ1 43 g = nI (Mk g) := ⟨fun g => (τ1 43 g).toNatClampNeg, fun g hg => by
      obtain ⟨M, m1, m2, _⟩ := S.fr g hg
      show (τ1 43 g).toNatClampNeg < 512 ∧ τ1 43 g = nI (τ1 43 g).toNatClampNeg
      rw [m2, nI_clamp (by omega)]
      exact ⟨m1, rfl⟩⟩
    obtain ⟨Mk, hMk⟩ := exM
    have pe : ∀ x, Dt σ2 m x → ph (Bf τ1) x = ph (Bf τ) x := fun x hx => by
      unfold ph
      rw [Bf_cg (fun k h1 h2 => i1 k (by omega) (by omega)) _ _ (Dt_2 C2 hx).1]
    have FL : FLp σ2 m (Bf τ) s t L f Mk := ⟨f42, Fw τ1, fun x hx => by rw [← pe x hx]; exact S.iv x hx, fun x hx => (S.rg x hx).resolve_left (i4 x hx).1, fun x hx => (i4 x hx).2, fun g hg => by
      obtain ⟨M, m1, m2, m3, x, x1, x2, x3⟩ := S.fr g hg
      have e : Mk g = M := (nI_eq (by have := (hMk g hg).1; omega) (by omega)).mp ((hMk g hg).2.symm.trans m2)
      rw [e]
      refine ⟨m1, m3, x, x1, x2, fun y hy hl => ?_⟩
      obtain ⟨k, ek⟩ := x3 y hy hl
      exact ⟨k, by rw [ek]; exact it_cg (D := Dt σ2 m) (fun x h => ph_D C2 H x h) pe x1 k⟩⟩
    have hM2 : ∀ g, g < f → Mk g < 512 ∧ τ2 43 g = nI (Mk g) := fun g hg => ⟨(hMk g hg).1, by rw [F3 43 (by decide)]; exact (hMk g hg).2⟩
    have OP : OLp (Bf τ) s t L := ⟨O.1, O.2.1, O.2.2.2.1, O.2.2.2.2.1, O.2.2.2.2.2.1⟩
    have wk := wfb_k hM2 f (Nat.le_refl f)
    have j3 : ∀ {a k x y z : Int32}, J3 σ2 m L f (wo (Bf τ) s t) Mk a k x y z → JV σ2 n m a k x y z (nI L) (nI f) := fun J => Or.inr (Or.inr ⟨⟨N, NL⟩, h3, Z, Bf τ, s, t, L, f, Mk, BH_BN H, W, T, OP, FL, rfl, rfl, J⟩)
    refine c_43 (by rw [F3 5 (by decide)]; exact S.fc) f42 faces (fun wn => kb_18_106 (fun z => absurd z (by decide)) (fun _ => kb_18_109 (qq _ _ (J2 _ (fun c h2 h3 h20 h => ?_)) (BG_cg (fun c h1 h2 => ?_) B2) (DG_cg ?_ D2) (Or.inr (Or.inr mm_up_s)) ?_))) (fun wz => kb_18_106 (fun _ => kb_18_111 ?_) (fun z => absurd rfl z))
    · unfold tw3; rw [mm_up_n h3, mm_up_n h20, mm_up_n h20, mm_up_n h20]; exact k2 c h2 (by omega) (by omega)
    · unfold tw3; rw [mm_up_n (by omega), mm_up_n (by omega), mm_up_n (by omega), mm_up_n (by omega)]; exact k2 c (by omega) (by omega) (by omega)
    · unfold tw3; rw [mm_up_n (by omega), mm_up_n (by omega), mm_up_n (by omega), mm_up_n (by omega)]; exact k2 45 (by omega) (by omega) (by omega)
    · rcases wk with ⟨w0, _⟩ | ⟨b, b9', b3, eb, ⟨g, hg, g1, g2⟩, y⟩
      · exact absurd w0 wn
      · refine ⟨3, nI (kk b / 100), nI (kk b / 10 % 10), nI (kk b % 10), nI L, nI f, j3 (Or.inl ⟨kk b, ⟨g, hg, g1, g2⟩, y, rfl, rfl, rfl, rfl, rfl⟩), ?_⟩
        rw [eb, tw3_k b9' b3]
        refine ⟨mm_up_s, fun h => absurd h (by decide), fun _ => ⟨?_, ?_, ?_⟩, ?_, ?_⟩
        · rw [mm_up_n (by decide), mm_up_o (by decide), mm_up_o (by decide)]; exact mm_up_s
        · rw [mm_up_n (by decide), mm_up_o (by decide)]; exact mm_up_s
        · rw [mm_up_n (by decide)]; exact mm_up_s
        · rw [mm_up_n (by decide), mm_up_n (by decide), mm_up_n (by decide), mm_up_n (by decide)]; exact V4
        · rw [mm_up_n (by decide), mm_up_n (by decide), mm_up_n (by decide), mm_up_n (by decide)]; exact V5
    have small : ∀ g, g < f → bc (Mk g) 13 ≤ 3 := by
      rcases wk with ⟨_, y⟩ | ⟨b, b9', b3, eb, _⟩
      · exact y
      · exfalso
        rw [eb] at wz
        have : b = 0 := (nI_eq (b := 0) (by omega) (by omega)).mp wz
        subst this
        exact absurd b3 (by decide)
    have three : ∀ g, g < f → ∃ M, M < 512 ∧ τ2 43 g = nI M ∧ bc M 9 = 3 := fun g hg => by
      obtain ⟨M, m1, m2⟩ := faces g hg
      refine ⟨M, m1, m2, ?_⟩
      have up := wfb_0 faces f (Nat.le_refl f) wz g M hg m1 m2
      have lo3 := FS_3 C2 H1 S Z h3 hg m1 (by rw [← F3 43 (by decide)]; exact m2)
      have e13 : bc M 9 ≤ bc M 13 := by
        show bc M 9 ≤ bc M 9 + _ + _ + _ + _
        omega
      omega
    have O1 : OA τ L (wo (Bf τ) s t) := OL_OA O (fun k => (AJ k).1)
    have O2 : OA τ2 L (wo (Bf τ) s t) := OA_cg (by rw [F3 5 (by decide), i2 3 (by decide)]) (by rw [F3 31 (by decide), i1 31 (by decide) (by omega)]) (by rw [F3 32 (by decide), i1 32 (by decide) (by omega)]) O1
    have l9 := O1.2.1
    have stop : ∀ (τ' : mm_S), (∀ c, c ≠ 44 → (c < 22 ∨ 30 < c) → c ≠ 3 → c ≠ 20 → τ' c = τ2 c) → jfr σ τ' ∧ BG τ' ∧ DG τ' := fun τ' h => ⟨J2 _ (fun c h2 h3 h20 hh => by rw [h c (by omega) (by omega) h3 h20]; exact k2 c h2 (by omega) (by omega)), BG_cg (fun c h1 h2 => by rw [h c (by omega) (by omega) (by omega) (by omega)]; exact k2 c (by omega) (by omega) (by omega)) B2, DG_cg (by rw [h 45 (by omega) (by omega) (by omega) (by omega)]; exact k2 45 (by omega) (by omega) (by omega)) D2⟩
    have s1 : τ2 1 = σ2 1 := k2 1 (by decide) (by decide) (by omega)
    have s19 : τ2 19 = σ2 19 := k2 19 (by decide) (by decide) (by omega)
    have pl : ∀ i, i < 9 → (∃ k, k < L ∧ τ2 32 i = nI k) ∨ τ2 32 i = -1 := fun i hi => by
      obtain ⟨_, _, _, _, _, _, arr, non⟩ := O
      have e32 : τ2 32 = τ 32 := by rw [F3 32 (by decide), i1 32 (by decide) (by omega)]
      rw [e32]
      by_cases ex : ∃ j, j < L ∧ wo (Bf τ) s t j = i
      · obtain ⟨j, hj, e⟩ := ex
        exact Or.inl ⟨j, hj, by rw [← e]; exact (arr j hj).2⟩
      · exact Or.inr (non i hi (fun j hj e => ex ⟨j, hj, e⟩))
    have cc2 : σ2 10 10 = σ2 1 9 ∧ (σ2 1 9 = 1 → ∀ i, i < 4 → σ2 83 i = σ2 19 i) := by
      rw [F2 10 (by decide) (by decide), F2 1 (by decide) (by decide), F2 83 (by decide) (by decide), F2 19 (by decide) (by decide)]; exact Z0.cc
    have hn9 : τ2 1 9 = 0 ∨ τ2 1 9 = 1 := by rw [s1, F2 1 (by decide) (by decide)]; exact K0.1
    have four : ¬ fit σ2 L (wo (Bf τ) s t) → mw (d + 61) mt_18 Q 121 [some (.ref 2)] [] τ2 := fun nf => by
      refine kb_18_121 ?_
      obtain ⟨x1, x2, x3⟩ := stop τ2 (fun _ _ _ _ _ => rfl)
      have w31 : τ2 3 1 = 0 := by rw [k2 3 (by omega) (by omega) (by omega)]; exact W0
      exact qq _ _ x1 x2 x3 (Or.inl w31) ⟨0, 0, 0, 0, nI L, nI f, j3 (Or.inr ⟨small, Or.inl ⟨nf, rfl, rfl⟩⟩), w31, fun h => absurd h (by decide), fun h => absurd h (by decide), V4, V5⟩
    rcases hn9 with h90 | h91
    · refine ks_47_0 (fun _ => kb_18_118 (fun _ => four (fun F => ?_)) (fun z => absurd rfl z)) (fun z => absurd h90 z)
      rw [s1] at h90
      have := F.1
      rw [cc2.1, h90] at this
      exact absurd this (by decide)
    have h91' : σ2 1 9 = 1 := by rw [← s1]; exact h91
    have e83 : ∀ i, i < 4 → σ2 83 i = τ2 19 i := fun i hi => by rw [s19]; exact cc2.2 h91' i hi
    refine c_47 (by omega) O2.2.2.1 (Or.inr h91) (fun h i hi => ?_) pl (fun p c hc hp hs => kb_18_118 (fun z => absurd z (by decide)) (fun _ => kb_18_123 ?_)) (fun nf => kb_18_118 (fun _ => four (fun F => ?_)) (fun z => absurd rfl z))
    · rw [s19, F2 19 (by decide) (by decide)]
      rw [s1, F2 1 (by decide) (by decide)] at h
      exact K0.2 h i hi
    · have hp' : ∀ i, i < 4 → p i < L ∧ wo (Bf τ) s t (p i) = c i := fun i hi => ⟨(hp i hi).1, (O2.2.2.2.2 (c i) (p i) (hc i hi).1 (hp i hi).1 (hp i hi).2).symm⟩
      have hc' : ∀ i, i < 4 → c i < 9 ∧ σ2 83 i = nI (c i) := fun i hi => ⟨(hc i hi).1, by rw [e83 i hi]; exact (hc i hi).2⟩
      have fi : fit σ2 L (wo (Bf τ) s t) := ⟨by rw [cc2.1]; exact h91', p, c, hc', hp', hs⟩
      have lay := (lay_p (L := L) (p := p) (by omega) (fun i hi => (hp i hi).1)).2 hs
      refine c_54 C2 s1 (k2 15 (by decide) (by decide) (by omega)) O2 hc hp (fun τ3 K f3 hK B => kb_18_130 ?_)
      have O3 : OA τ3 L (wo (Bf τ) s t) := OA_cg (by rw [f3 5 (by decide)]) (f3 31 (by decide)) (f3 32 (by decide)) O2
      have hK' : ∀ v, v < 13 → τ3 44 v = nI (K v) ∧ K v < 8192 := fun v hv => ⟨hK v hv, B.1 v hv⟩
      have TP3 : TP τ3 L := ⟨⟨f, f42, by rw [f3 5 (by decide), F3 5 (by decide)]; exact S.fc⟩, l9, O3.2.2.1, fun i hi => by rw [f3 32 (by decide)]; exact pl i hi⟩
      have tq := f57_S0 (c := c) (Mk := Mk) B O3 f42 (by rw [f3 5 (by decide), F3 5 (by decide)]; exact S.fc) (fun g hg => by rw [f3 43 (by decide)]; exact hM2 g hg) (fun i hi => by rw [f3 19 (by decide)]; exact hc i hi) (fun i hi => by rw [f3 32 (by decide)]; exact hp i hi) lay
      refine c_55 TP3 hK' (fun i j k tk tm => kb_18_141 (fun z => absurd z (by decide)) (fun _ => kb_18_144 ?_)) (fun nt => kb_18_141 (fun _ => kb_18_146 ?_) (fun z => absurd rfl z))
      · obtain ⟨x1, x2, x3⟩ := stop (tw3n τ3 i j k) (fun c h1 _ h3 h20 => by unfold tw3n; rw [mm_up_n h3, mm_up_n h20, mm_up_n h20, mm_up_n h20]; exact f3 c h1)
        refine qq _ _ x1 x2 x3 (Or.inr (Or.inr mm_up_s)) ⟨3, nI i, nI j, nI k, nI L, nI f, j3 (Or.inr ⟨small, Or.inr ⟨fi, p, c, K, hc', hp', hs, B, Or.inl ⟨i, j, k, (tq i j k).mp tk, fun i' j' l' h y => tm i' j' l' h ((tq i' j' l').mpr y), rfl, rfl, rfl, rfl, rfl⟩⟩⟩), mm_up_s, fun h => absurd h (by decide), fun _ => ⟨?_, ?_, ?_⟩, ?_, ?_⟩
        · unfold tw3n; rw [mm_up_n (by decide), mm_up_o (by decide), mm_up_o (by decide)]; exact mm_up_s
        · unfold tw3n; rw [mm_up_n (by decide), mm_up_o (by decide)]; exact mm_up_s
        · unfold tw3n; rw [mm_up_n (by decide)]; exact mm_up_s
        · unfold tw3n; rw [mm_up_n (by decide), mm_up_n (by decide), mm_up_n (by decide), mm_up_n (by decide), f3 2 (by decide)]; exact V4
        · unfold tw3n; rw [mm_up_n (by decide), mm_up_n (by decide), mm_up_n (by decide), mm_up_n (by decide), f3 2 (by decide)]; exact V5
      · obtain ⟨l1, _, _, eL, eL1, dis, _, _⟩ := id O
        refine c_59 O3 dis hK' (fun τ4 f4 row rws => kb_18_153 ?_)
        have k4 : ∀ c, (c < 22 ∨ 30 < c) → c ≠ 44 → τ4 c = τ2 c := fun c h1 h2 => by rw [f4 c h1]; exact f3 c h2
        have O4 : OA τ4 L (wo (Bf τ) s t) := OA_cg (by rw [f4 5 (by omega)]) (f4 31 (by omega)) (f4 32 (by omega)) O3
        have oin : ∀ k, k < L → ∃ s', s' < 4 ∧ (K (wo (Bf τ) s t k)).testBit (9 + s') = true := fun k hk => by
          obtain ⟨s', h4, ho⟩ := cover (o := wo (Bf τ) s t) (fun i hi => (hp i hi).1) hs hk
          exact ⟨s', h4, (B.2.2.1 _ s' (AJ k).1 h4).mpr ho⟩
        have vg := vg_ok C2 H O AJ (fun a ha => by rw [f3 _ (by omega), F3 _ (by omega), i1 _ (by omega) (by omega)]) i4 S.rg (fun c h1 h2 => by rw [f4 c (by omega), f3 c (by omega), F3 c (by omega)]) row rws oin
        have x4 := stop τ4 (fun c h1 h2 _ _ => k4 c h2 h1)
        refine c_61 (d := d + 1) C2 Z (by rw [k4 1 (by omega) (by omega)]; exact s1) (by rw [k4 15 (by omega) (by omega)]; exact k2 15 (by decide) (by decide) (by omega)) (by rw [k4 16 (by omega) (by omega)]; exact k2 16 (by decide) (by decide) (by omega)) (by rw [k4 17 (by omega) (by omega)]; exact k2 17 (by decide) (by decide) (by omega)) f42 (by rw [k4 5 (by omega) (by omega), F3 5 (by decide)]; exact S.fc) (fun g hg => ?_) O4 dis (fun k hk => (AJ k).2.1) (fun v hv => by rw [f4 44 (by omega)]; exact hK' v hv) (V := VV σ2 m L (wo (Bf τ) s t) K) (fun k s' hk F => ⟨(AJ k).2.1, Or.inr ⟨k, s', 0, hk, rfl, F, by decide, by rw [Nat.add_zero, Nat.mod_eq_of_lt F.1], fun i hi => ?_⟩⟩) (fun r v hr mr hrv => ⟨mr, Or.inl ⟨hrv.1, hrv⟩⟩) vg x4.2.1 x4.2.2 (fun τ5 f5 B5 D5 => kb_18_160 ?_)
        · obtain ⟨M, m1, m2, m3⟩ := three g hg
          exact ⟨M, m1, by rw [k4 43 (by omega) (by omega)]; exact m2, m3⟩
        · have i0 : i = 0 := by omega
          subst i0
          rw [Nat.add_zero, Nat.mod_eq_of_lt F.1]
          exact FSd_on F (oin k hk)
        · have g1 : τ5 1 = σ2 1 := by rw [f5 1 (by decide) (by omega), k4 1 (by omega) (by omega)]; exact s1
          have g16 : τ5 16 = σ2 16 := by rw [f5 16 (by decide) (by omega), k4 16 (by omega) (by omega)]; exact k2 16 (by decide) (by decide) (by omega)
          have g17 : τ5 17 = σ2 17 := by rw [f5 17 (by decide) (by omega), k4 17 (by omega) (by omega)]; exact k2 17 (by decide) (by decide) (by omega)
          refine c_72 (n := n) ⟨⟨C2.jn.1, by rw [g1]; exact C2.jn.2⟩, fun k hk => ?_, D5⟩ (fun τ6 f6 => kb_18_167 (qq _ _ (fun c hc => ?_) (BG_cg (fun c h1 h2 => f6 c (by omega) (by omega)) B5) (DG_cg (f6 45 (by omega) (by omega)) D5) (Or.inl (by rw [f6 3 (by omega) (by omega), f5 3 (by omega) (by omega), k4 3 (by omega) (by omega), k2 3 (by omega) (by omega) (by omega)]; exact W0)) ⟨0, 0, 0, 0, nI L, nI f, j3 (Or.inr ⟨small, Or.inr ⟨fi, p, c, K, hc', hp', hs, B, Or.inr ⟨fun i j l y => nt i j l ((tq i j l).mpr y), rfl, rfl⟩⟩⟩), ?_⟩))
          · obtain ⟨a, b, ha, hb, _, _, _, e1, e2⟩ := C2.je k hk
            exact ⟨a, b, ha, hb, by rw [g16]; exact e1, by rw [g17]; exact e2⟩
          · rw [f6 c (by omega) (by omega), f5 c (by omega) (by omega)]
            exact x4.1 c hc
          · have z3 : τ6 3 1 = 0 := by rw [f6 3 (by omega) (by omega), f5 3 (by omega) (by omega), k4 3 (by omega) (by omega), k2 3 (by omega) (by omega) (by omega)]; exact W0
            have z2 : τ6 2 = τ2 2 := by rw [f6 2 (by omega) (by omega), f5 2 (by omega) (by omega), k4 2 (by omega) (by omega)]
            exact ⟨z3, fun h => absurd h (by decide), fun h => absurd h (by decide), by rw [z2]; exact V4, by rw [z2]; exact V5⟩
    · -- the corners don't fit
      obtain ⟨_, p, c, hc, hp, hs⟩ := F
      have o32 : ∀ i, i < 4 → τ2 32 (c i) = nI (p i) := fun i hi => by
        have := (O2.2.2.2.1 (p i) (hp i hi).1).2.2
        rw [(hp i hi).2] at this
        exact this
      rcases nf with u | ⟨_, i, a, hi, ha, e1, e2⟩ | ⟨p', c', hc', hp', hs'⟩
      · rw [h91] at u; exact absurd u (by decide)
      · have ca : c i = a := nI9 (hc i hi).1 ha ((hc i hi).2.symm.trans ((e83 i hi).trans e1))
        have := o32 i hi
        rw [ca, e2] at this
        exact absurd this.symm (nI_m1 (by have := (hp i hi).1; omega))
      · have ec : ∀ i, i < 4 → c i = c' i := fun i hi => nI9 (hc i hi).1 (hc' i hi).1 ((hc i hi).2.symm.trans ((e83 i hi).trans (hc' i hi).2))
        have ep : ∀ i, i < 4 → p i = p' i := fun i hi => by
          have x1 := o32 i hi
          rw [ec i hi, (hp' i hi).2] at x1
          have y1 := (hp i hi).1
          have y2 := (hp' i hi).1
          exact (nI_eq (by omega) (by omega)).mp x1.symm
        apply hs'
        have es : ∀ i, i < 4 → st L p' i = st L p i := fun i hi => by unfold st; rw [ep i hi, ep _ (f_50_n i hi).2]
        rw [es 0 (by decide), es 1 (by decide), es 2 (by decide), es 3 (by decide)]; exact hs
theorem c_1s {d n m : Nat} {Q : mm_Q} {σ : mm_S} (Z : ZI σ n m) (q : ∀ τ (a : Int32) k x y z oc fc, jfr σ τ → BG τ → DG τ → WN τ → JV σ n m a k x y z oc fc → WV τ k x y z oc fc → Q (some (.int a)) (mm_up τ 0 3 (if a = 1 then 1 else 0))) : mD (d + 63) 1 [.ref 0] σ Q :=
  ke_1 (kb_1_0 (c_18s Z (fun τ a k x y z oc fc F B D W J V => kb_1_7 (fun e => kb_1_14 (by have := q τ a k x y z oc fc F B D W J V; rw [if_pos e] at this; exact this)) (fun e => kb_1_18 (by have := q τ a k x y z oc fc F B D W J V; rw [if_neg e] at this; exact this)))))

