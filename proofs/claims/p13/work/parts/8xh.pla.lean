/-! class: plan, with the layout and the places -/
def WRg (σ : mm_S) (n m : Nat) : Prop := (∀ i, rmx m i → σ 13 i = nI (σ 13 i).toNatClampNeg ∧ σ 14 i = nI (σ 14 i).toNatClampNeg ∧ (σ 13 i).toNatClampNeg ≤ 50 ∧ (σ 14 i).toNatClampNeg ≤ 50) ∧ ∀ e, e < n → σ 18 e = nI (σ 18 e).toNatClampNeg ∧ (σ 18 e).toNatClampNeg ≤ 20
/-- what a plan is, and how the class holds it -/
def XPL (σ : mm_S) (n m : Nat) (τ : mm_S) (k oc fc : Int32) : Prop := ∃ B s t L f Mk lab p K D V, PLD σ n m B s t L f Mk lab p K ∧ (∀ i, i < 4 → σ 83 i = nI (wo B s t (p i))) ∧ LYF σ n m B s t L p D ∧ (∀ e, e < n → τ 45 e = nI (D e) ∧ D e < 4) ∧ LSo (CSt (rmx m) n D (jA σ) (jB σ) (fun e => (σ 18 e).toNatClampNeg) (fun i => (σ 13 i).toNatClampNeg) (fun i => (σ 14 i).toNatClampNeg) (neS K 1) (neS K 0)) V ∧ (∀ x, V x ≤ 4050) ∧ PLF (rmx m) K V τ ∧ (∀ v, v < 13 → τ 44 v = nI (K v)) ∧ k = 0 ∧ oc = nI L ∧ fc = nI f
theorem PLD_cg {σ τ : mm_S} {n m : Nat} {B : Nat → Nat → Nat} {s t L f : Nat} {Mk : Nat → Nat} {lab : Nat × Nat → Int32} {p K : Nat → Nat} (h1 : τ 1 = σ 1) (h11 : τ 11 = σ 11) (h12 : τ 12 = σ 12) (h15 : τ 15 = σ 15) (h16 : τ 16 = σ 16) (h17 : τ 17 = σ 17) (P : PLD σ n m B s t L f Mk lab p K) : PLD τ n m B s t L f Mk lab p K := by
  have ea : aj τ = aj σ := aj_cg h15
  have ev : vc τ = vc σ := vc_cg h11 h12
  have e26 : f_26 τ = f_26 σ := by funext e f; unfold f_26; rw [f_27_cg h11 h12 h16 h17, h16, h17]
  have el : clx τ = clx σ := by funext e f; unfold clx; rw [xd_cg h1, f_27_cg h11 h12 h16 h17]
  have e3 : Cn τ = Cn σ := by funext m; unfold Cn; rw [ea]
  have e4 : BN τ = BN σ := by funext m B; unfold BN; rw [ea, ev]
  have e5 : Dt τ = Dt σ := by funext m x; unfold Dt; rw [ea]
  have e6 : FLl τ = FLl σ := by funext m B f lab; unfold FLl; rw [e5]
  have e8 : NB τ = NB σ := by funext m o p L c K; unfold NB; rw [ea]
  obtain ⟨w, r3, cn, bn, ws, nt, ol, fl, lo, mk, sm, pl, sL, nb, no⟩ := P
  exact ⟨⟨CK_cg h1 h11 h12 h15 h16 h17 w.1, NC_cg h11 h12 h16 h17 w.2.1, by rw [el]; exact w.2.2⟩, r3, by rw [e3]; exact cn, by rw [e4]; exact bn, by rw [wms_cg h11 h12]; exact ws, by rw [nms_cg h11 h12 h15]; exact nt, ol, by rw [e6]; exact fl, by rw [e5]; exact lo, by rw [e5]; exact mk, sm, pl, sL, by rw [e8]; exact nb, no⟩
theorem XPL_cg {σ τ ρ : mm_S} {n m : Nat} {ak oc fc : Int32} (h1 : τ 1 = σ 1) (h11 : τ 11 = σ 11) (h12 : τ 12 = σ 12) (h13 : τ 13 = σ 13) (h14 : τ 14 = σ 14) (h15 : τ 15 = σ 15) (h16 : τ 16 = σ 16) (h17 : τ 17 = σ 17) (h18 : τ 18 = σ 18) (h83 : τ 83 = σ 83) (X : XPL σ n m ρ ak oc fc) : XPL τ n m ρ ak oc fc := by
  have ea : aj τ = aj σ := aj_cg h15
  have jA' : jA τ = jA σ := by funext e; unfold jA; rw [h16]
  have jB' : jB τ = jB σ := by funext e; unfold jB; rw [h17]
  have nr' : nrP τ = nrP σ := by funext m B s t L p; unfold nrP; rw [ea]
  have ly : LYF τ = LYF σ := by funext n m B s t L p D; unfold LYF; rw [jA', jB', nr']
  obtain ⟨B, s, t, L, f, Mk, lab, p, K, D, V, P, c, y, d, v, b, pf, k⟩ := X
  exact ⟨B, s, t, L, f, Mk, lab, p, K, D, V, PLD_cg h1 h11 h12 h15 h16 h17 P, by rw [h83]; exact c, by rw [ly]; exact y, d, by rw [jA', jB', h13, h14, h18]; exact v, b, pf, k⟩
theorem c_18t {d n m : Nat} {Q : mm_Q} {σ : mm_S} (Z0 : ZI σ n m) (WR0 : WRg σ n m) (q : ∀ τ a k x y z oc fc, jfr σ τ → BG τ → DG τ → WN τ → JV σ n m a k x y z oc fc → WV τ k x y z oc fc → (a = 1 → XPL σ n m τ k oc fc) → Q (some (.int a)) τ) : mD (d + 62) 18 [.ref 2] σ Q := by
  have C := Z0.ck
  have K0 := Z0.co
  have hB := Z0.bg
  have hD := Z0.dg
  refine ke_18 (kb_18_0 (c_19 (kb_18_7 ?_)))
  have F2 : ∀ c, c ≠ 2 → c ≠ 3 → (mm_up (mm_up (mm_up σ 3 1 (0 : Int32)) 2 4 (0 : Int32)) 2 5 (0 : Int32)) c = σ c := fun c h2 h3 => by rw [mm_up_n h2, mm_up_n h2, mm_up_n h3]
  have W0 : (mm_up (mm_up (mm_up σ 3 1 (0 : Int32)) 2 4 (0 : Int32)) 2 5 (0 : Int32)) 3 1 = 0 := by rw [mm_up_n (by decide), mm_up_n (by decide)]; exact mm_up_s
  have U4 : (mm_up (mm_up (mm_up σ 3 1 (0 : Int32)) 2 4 (0 : Int32)) 2 5 (0 : Int32)) 2 4 = 0 := by rw [mm_up_o (by decide)]; exact mm_up_s
  have U5 : (mm_up (mm_up (mm_up σ 3 1 (0 : Int32)) 2 4 (0 : Int32)) 2 5 (0 : Int32)) 2 5 = 0 := mm_up_s
  generalize mm_up (mm_up (mm_up σ 3 1 (0 : Int32)) 2 4 (0 : Int32)) 2 5 (0 : Int32) = σ2 at F2 W0 U4 U5
  have jv : ∀ {a k x y z oc fc}, JV σ2 n m a k x y z oc fc → JV σ n m a k x y z oc fc := fun J => JV_cg (F2 1 (by decide) (by decide)).symm (F2 11 (by decide) (by decide)).symm (F2 12 (by decide) (by decide)).symm (F2 15 (by decide) (by decide)).symm (F2 16 (by decide) (by decide)).symm (F2 17 (by decide) (by decide)).symm (F2 83 (by decide) (by decide)).symm (by rw [F2 10 (by decide) (by decide)]) J
  have qq : ∀ τ (a : Int32), a ≠ 1 → jfr σ τ → BG τ → DG τ → WN τ → (∃ k x y z oc fc, JV σ2 n m a k x y z oc fc ∧ WV τ k x y z oc fc) → Q (some (.int a)) τ := fun τ a ha h1 h2 h3 h4 ⟨k, x, y, z, oc, fc, h5, h6⟩ => q τ a k x y z oc fc h1 h2 h3 h4 (jv h5) h6 (fun z => absurd z ha)
  have qx : ∀ τ, jfr σ τ → BG τ → DG τ → WN τ → (∃ k x y z oc fc, JV σ2 n m 1 k x y z oc fc ∧ WV τ k x y z oc fc ∧ XPL σ2 n m τ k oc fc) → Q (some (.int 1)) τ := fun τ h1 h2 h3 h4 ⟨k, x, y, z, oc, fc, h5, h6, hx⟩ => q τ 1 k x y z oc fc h1 h2 h3 h4 (jv h5) h6 (fun _ => XPL_cg (F2 1 (by decide) (by decide)).symm (F2 11 (by decide) (by decide)).symm (F2 12 (by decide) (by decide)).symm (F2 13 (by decide) (by decide)).symm (F2 14 (by decide) (by decide)).symm (F2 15 (by decide) (by decide)).symm (F2 16 (by decide) (by decide)).symm (F2 17 (by decide) (by decide)).symm (F2 18 (by decide) (by decide)).symm (F2 83 (by decide) (by decide)).symm hx)
  have sm : ∀ {τ : mm_S}, τ 3 1 = 0 → τ 2 4 = 0 → τ 2 5 = 0 → WV τ 0 0 0 0 0 0 := fun a b c => ⟨a, fun h => absurd h (by decide), fun h => absurd h (by decide), b, c⟩
  have C2 : CK σ2 n m := CK_cg (F2 1 (by decide) (by decide)) (F2 11 (by decide) (by decide)) (F2 12 (by decide) (by decide)) (F2 15 (by decide) (by decide)) (F2 16 (by decide) (by decide)) (F2 17 (by decide) (by decide)) C
  have J2 : ∀ τ, (∀ c, c ≠ 2 → c ≠ 3 → c ≠ 20 → (c < 5 ∨ c = 9 ∨ c = 10 ∨ (11 ≤ c ∧ c ≤ 19) ∨ 73 ≤ c) → τ c = σ2 c) → jfr σ τ := fun τ h c hc => by rw [h c (by omega) (by omega) (by omega) (by omega)]; exact F2 c (by omega) (by omega)
  have e11 : σ2 1 11 = nI (bc m 9) := C2.cr
  have b9 := bc_n m 9
  have B2 : BG σ2 := BG_cg (fun c h1 h2 => F2 c (by omega) (by omega)) hB
  have D2 : DG σ2 := DG_cg (F2 45 (by decide) (by decide)) hD
  refine c_23 C2.Jr (fun a b cf => ?_) (fun N NL => ?_)
  · refine kb_18_28 (fun z => absurd z (by decide)) (fun _ => kb_18_31 (qq _ _ (by decide) (J2 _ (fun c h2 h3 h20 _ => ?_)) (BG_cg (fun c h1 h2 => ?_) B2) (DG_cg ?_ D2) (Or.inr (Or.inl mm_up_s)) ⟨2, nI a, nI b, 0, 0, 0, Or.inl ⟨a, b, cf, rfl, rfl, rfl, rfl, rfl, rfl⟩, mm_up_s, fun _ => ⟨?_, ?_⟩, fun h => absurd h (by decide), ?_, ?_⟩))
    · unfold tw2; rw [mm_up_n h3, mm_up_n h20, mm_up_n h20]
    · unfold tw2; rw [mm_up_n (by omega), mm_up_n (by omega), mm_up_n (by omega)]
    · unfold tw2; rw [mm_up_n (by omega), mm_up_n (by omega), mm_up_n (by omega)]
    · unfold tw2; rw [mm_up_n (by decide), mm_up_o (by decide)]; exact mm_up_s
    · unfold tw2; rw [mm_up_n (by decide)]; exact mm_up_s
    · unfold tw2; rw [mm_up_n (by decide), mm_up_n (by decide), mm_up_n (by decide)]; exact U4
    · unfold tw2; rw [mm_up_n (by decide), mm_up_n (by decide), mm_up_n (by decide)]; exact U5
  · refine kb_18_28 (fun _ => kb_18_33 (fun hr => kb_18_64 (qq _ _ (by decide) (J2 _ (fun _ _ _ _ _ => rfl)) B2 D2 (Or.inl W0) ⟨0, 0, 0, 0, 0, 0, Or.inr (Or.inl ⟨⟨N, NL⟩, Or.inl (by rw [e11] at hr; exact (nI_ltI (b := 3) (by omega) (by omega)).mp hr), rfl, rfl, rfl, rfl⟩), sm W0 U4 U5⟩)) (fun hr => kb_18_44 ?_)) (fun z => absurd rfl z)
    have h3 : 3 ≤ bc m 9 := by
      rcases Nat.lt_or_ge (bc m 9) 3 with y | y
      · exact absurd (by rw [e11]; exact (nI_ltI (b := 3) (by omega) (by omega)).mpr y) hr
      · exact y
    refine c_31 C2 (by omega) (fun Z => kb_18_51 (fun z => absurd z (by decide)) (fun _ => kb_18_54 ?_)) (fun nC => kb_18_51 (fun _ => kb_18_64 (qq _ _ (by decide) (J2 _ (fun _ _ _ _ _ => rfl)) B2 D2 (Or.inl W0) ⟨0, 0, 0, 0, 0, 0, Or.inr (Or.inl ⟨⟨N, NL⟩, Or.inr (Or.inl ⟨h3, nC⟩), rfl, rfl, rfl, rfl⟩), sm W0 U4 U5⟩)) (fun z => absurd rfl z))
    refine c_32 C2 N (by omega) (fun i hi mi => Cn_aj Z h3 hi mi) (fun τ s t L fr H W T O => kb_18_61 (fun z => absurd z (by decide)) (fun _ => kb_18_66 ?_)) (fun τ s t fr H W T ns => kb_18_61 (fun _ => kb_18_64 (qq _ _ (by decide) (J2 _ (fun c _ _ _ h => fr.1 c (by omega) (by omega))) (BG_cg (fun c h1 h2 => fr.1 c (by omega) (by omega)) B2) (DG_cg (fr.1 45 (by omega) (by omega)) D2) (Or.inl (by rw [fr.1 3 (by omega) (by omega)]; exact W0)) ⟨0, 0, 0, 0, 0, 0, Or.inr (Or.inl ⟨⟨N, NL⟩, Or.inr (Or.inr ⟨h3, Z, Bf τ, s, t, BH_BN H, W, T, ns⟩), rfl, rfl, rfl, rfl⟩), sm (by rw [fr.1 3 (by omega) (by omega)]; exact W0) (by rw [fr.1 2 (by omega) (by omega)]; exact U4) (by rw [fr.1 2 (by omega) (by omega)]; exact U5)⟩)) (fun z => absurd rfl z))
    have AJ := wo_aj C2 H W.1 W.2.2.1 T.1
    refine c_39 C2 N (fun c h1 h2 => fr.1 c h1 h2) H W.1 W.2.2.1 T.1 O (fun τ1 f I => kb_18_73 ?_)
    obtain ⟨i1, i2, S, i4⟩ := I
    have k1 : ∀ c, c ≠ 5 → (c < 22 ∨ 43 < c) → τ1 c = σ2 c := fun c h1 h2 => by rw [i1 c h1 (by omega)]; exact fr.1 c h1 (by omega)
    -- the state behind the counts
    have F3 : ∀ c, c ≠ 2 → (mm_up (mm_up τ1 2 4 (τ1 5 3)) 2 5 ((mm_up τ1 2 4 (τ1 5 3)) 5 6)) c = τ1 c := fun c h => by rw [mm_up_n h, mm_up_n h]
    have V4 : (mm_up (mm_up τ1 2 4 (τ1 5 3)) 2 5 ((mm_up τ1 2 4 (τ1 5 3)) 5 6)) 2 4 = nI L := by rw [mm_up_o (by decide), mm_up_s, i2 3 (by decide)]; exact O.2.2.1
    have V5 : (mm_up (mm_up τ1 2 4 (τ1 5 3)) 2 5 ((mm_up τ1 2 4 (τ1 5 3)) 5 6)) 2 5 = nI f := by rw [mm_up_s, mm_up_n (by decide)]; exact S.fc
    generalize mm_up (mm_up τ1 2 4 (τ1 5 3)) 2 5 ((mm_up τ1 2 4 (τ1 5 3)) 5 6) = τ2 at F3 V4 V5
    have k2 : ∀ c, c ≠ 2 → c ≠ 5 → (c < 22 ∨ 43 < c) → τ2 c = σ2 c := fun c h0 h1 h2 => by rw [F3 c h0]; exact k1 c h1 h2
    have H1 : BH σ2 τ1 m := BH_cg (fun k h1 h2 => i1 k (by omega) (by omega)) H
    have f42 : f ≤ 42 := by
      obtain ⟨v, hv, _⟩ := S.ct
      have := bc_n v 42
      omega
    have faces : ∀ g, g < f → ∃ M, M < 512 ∧ τ2 43 g = nI M := fun g hg => by
      obtain ⟨M, m1, m2, _⟩ := S.fr g hg
      exact ⟨M, m1, by rw [F3 43 (by decide)]; exact m2⟩
    have exM : ∃ Mk : Nat → Nat, ∀ g, g < f → Mk g < 512 ∧ τ1 43 g = nI (Mk g) := ⟨fun g => (τ1 43 g).toNatClampNeg, fun g hg => by
      obtain ⟨M, m1, m2, _⟩ := S.fr g hg
      show (τ1 43 g).toNatClampNeg < 512 ∧ τ1 43 g = nI (τ1 43 g).toNatClampNeg
      rw [m2, nI_clamp (by omega)]
      exact ⟨m1, rfl⟩⟩
    obtain ⟨Mk, hMk⟩ := exM
    have pe : ∀ x, Dt σ2 m x → ph (Bf τ1) x = ph (Bf τ) x := fun x hx => by
      unfold ph
      rw [Bf_cg (fun k h1 h2 => i1 k (by omega) (by omega)) _ _ (Dt_2 C2 hx).1]
    have FL : FLp σ2 m (Bf τ) s t L f Mk := ⟨f42, Fw τ1, fun x hx => by rw [← pe x hx]; exact S.iv x hx, fun x hx => (S.rg x hx).resolve_left (i4 x hx).1, fun x hx => (i4 x hx).2, fun g hg => by
      obtain ⟨M, m1, m2, m3, x, x1, x2, x3⟩ := S.fr g hg
      have e : Mk g = M := (nI_eq (by have := (hMk g hg).1; omega) (by omega)).mp ((hMk g hg).2.symm.trans m2)
      rw [e]
      refine ⟨m1, m3, x, x1, x2, fun y hy hl => ?_⟩
      obtain ⟨k, ek⟩ := x3 y hy hl
      exact ⟨k, by rw [ek]; exact it_cg (D := Dt σ2 m) (fun x h => ph_D C2 H x h) pe x1 k⟩⟩
    have hM2 : ∀ g, g < f → Mk g < 512 ∧ τ2 43 g = nI (Mk g) := fun g hg => ⟨(hMk g hg).1, by rw [F3 43 (by decide)]; exact (hMk g hg).2⟩
    have OP : OLp (Bf τ) s t L := ⟨O.1, O.2.1, O.2.2.2.1, O.2.2.2.2.1, O.2.2.2.2.2.1⟩
    have wk := wfb_k hM2 f (Nat.le_refl f)
    have j3 : ∀ {a k x y z : Int32}, J3 σ2 m L f (wo (Bf τ) s t) Mk a k x y z → JV σ2 n m a k x y z (nI L) (nI f) := fun J => Or.inr (Or.inr ⟨⟨N, NL⟩, h3, Z, Bf τ, s, t, L, f, Mk, BH_BN H, W, T, OP, FL, rfl, rfl, J⟩)
    refine c_43 (by rw [F3 5 (by decide)]; exact S.fc) f42 faces (fun wn => kb_18_106 (fun z => absurd z (by decide)) (fun _ => kb_18_109 (qq _ _ (by decide) (J2 _ (fun c h2 h3 h20 h => ?_)) (BG_cg (fun c h1 h2 => ?_) B2) (DG_cg ?_ D2) (Or.inr (Or.inr mm_up_s)) ?_))) (fun wz => kb_18_106 (fun _ => kb_18_111 ?_) (fun z => absurd rfl z))
    · unfold tw3; rw [mm_up_n h3, mm_up_n h20, mm_up_n h20, mm_up_n h20]; exact k2 c h2 (by omega) (by omega)
    · unfold tw3; rw [mm_up_n (by omega), mm_up_n (by omega), mm_up_n (by omega), mm_up_n (by omega)]; exact k2 c (by omega) (by omega) (by omega)
    · unfold tw3; rw [mm_up_n (by omega), mm_up_n (by omega), mm_up_n (by omega), mm_up_n (by omega)]; exact k2 45 (by omega) (by omega) (by omega)
    · rcases wk with ⟨w0, _⟩ | ⟨b, b9', b3, eb, ⟨g, hg, g1, g2⟩, y⟩
      · exact absurd w0 wn
      · refine ⟨3, nI (kk b / 100), nI (kk b / 10 % 10), nI (kk b % 10), nI L, nI f, j3 (Or.inl ⟨kk b, ⟨g, hg, g1, g2⟩, y, rfl, rfl, rfl, rfl, rfl⟩), ?_⟩
        rw [eb, tw3_k b9' b3]
        refine ⟨mm_up_s, fun h => absurd h (by decide), fun _ => ⟨?_, ?_, ?_⟩, ?_, ?_⟩
        · rw [mm_up_n (by decide), mm_up_o (by decide), mm_up_o (by decide)]; exact mm_up_s
        · rw [mm_up_n (by decide), mm_up_o (by decide)]; exact mm_up_s
        · rw [mm_up_n (by decide)]; exact mm_up_s
        · rw [mm_up_n (by decide), mm_up_n (by decide), mm_up_n (by decide), mm_up_n (by decide)]; exact V4
        · rw [mm_up_n (by decide), mm_up_n (by decide), mm_up_n (by decide), mm_up_n (by decide)]; exact V5
    have small : ∀ g, g < f → bc (Mk g) 13 ≤ 3 := by
      rcases wk with ⟨_, y⟩ | ⟨b, b9', b3, eb, _⟩
      · exact y
      · exfalso
        rw [eb] at wz
        have : b = 0 := (nI_eq (b := 0) (by omega) (by omega)).mp wz
        subst this
        exact absurd b3 (by decide)
    have three : ∀ g, g < f → ∃ M, M < 512 ∧ τ2 43 g = nI M ∧ bc M 9 = 3 := fun g hg => by
      obtain ⟨M, m1, m2⟩ := faces g hg
      refine ⟨M, m1, m2, ?_⟩
      have up := wfb_0 faces f (Nat.le_refl f) wz g M hg m1 m2
      have lo3 := FS_3 C2 H1 S Z h3 hg m1 (by rw [← F3 43 (by decide)]; exact m2)
      have e13 : bc M 9 ≤ bc M 13 := by
        show bc M 9 ≤ bc M 9 + _ + _ + _ + _
        omega
      omega
    have O1 : OA τ L (wo (Bf τ) s t) := OL_OA O (fun k => (AJ k).1)
    have O2 : OA τ2 L (wo (Bf τ) s t) := OA_cg (by rw [F3 5 (by decide), i2 3 (by decide)]) (by rw [F3 31 (by decide), i1 31 (by decide) (by omega)]) (by rw [F3 32 (by decide), i1 32 (by decide) (by omega)]) O1
    have l9 := O1.2.1
    have stop : ∀ (τ' : mm_S), (∀ c, c ≠ 44 → (c < 22 ∨ 30 < c) → c ≠ 3 → c ≠ 20 → τ' c = τ2 c) → jfr σ τ' ∧ BG τ' ∧ DG τ' := fun τ' h => ⟨J2 _ (fun c h2 h3 h20 hh => by rw [h c (by omega) (by omega) h3 h20]; exact k2 c h2 (by omega) (by omega)), BG_cg (fun c h1 h2 => by rw [h c (by omega) (by omega) (by omega) (by omega)]; exact k2 c (by omega) (by omega) (by omega)) B2, DG_cg (by rw [h 45 (by omega) (by omega) (by omega) (by omega)]; exact k2 45 (by omega) (by omega) (by omega)) D2⟩
    have s1 : τ2 1 = σ2 1 := k2 1 (by decide) (by decide) (by omega)
    have s19 : τ2 19 = σ2 19 := k2 19 (by decide) (by decide) (by omega)
    have pl : ∀ i, i < 9 → (∃ k, k < L ∧ τ2 32 i = nI k) ∨ τ2 32 i = -1 := fun i hi => by
      obtain ⟨_, _, _, _, _, _, arr, non⟩ := O
      have e32 : τ2 32 = τ 32 := by rw [F3 32 (by decide), i1 32 (by decide) (by omega)]
      rw [e32]
      by_cases ex : ∃ j, j < L ∧ wo (Bf τ) s t j = i
      · obtain ⟨j, hj, e⟩ := ex
        exact Or.inl ⟨j, hj, by rw [← e]; exact (arr j hj).2⟩
      · exact Or.inr (non i hi (fun j hj e => ex ⟨j, hj, e⟩))
    have cc2 : σ2 10 10 = σ2 1 9 ∧ (σ2 1 9 = 1 → ∀ i, i < 4 → σ2 83 i = σ2 19 i) := by
      rw [F2 10 (by decide) (by decide), F2 1 (by decide) (by decide), F2 83 (by decide) (by decide), F2 19 (by decide) (by decide)]; exact Z0.cc
    have hn9 : τ2 1 9 = 0 ∨ τ2 1 9 = 1 := by rw [s1, F2 1 (by decide) (by decide)]; exact K0.1
    have four : ¬ fit σ2 L (wo (Bf τ) s t) → mw (d + 61) mt_18 Q 121 [some (.ref 2)] [] τ2 := fun nf => by
      refine kb_18_121 ?_
      obtain ⟨x1, x2, x3⟩ := stop τ2 (fun _ _ _ _ _ => rfl)
      have w31 : τ2 3 1 = 0 := by rw [k2 3 (by omega) (by omega) (by omega)]; exact W0
      exact qq _ _ (by decide) x1 x2 x3 (Or.inl w31) ⟨0, 0, 0, 0, nI L, nI f, j3 (Or.inr ⟨small, Or.inl ⟨nf, rfl, rfl⟩⟩), w31, fun h => absurd h (by decide), fun h => absurd h (by decide), V4, V5⟩
    rcases hn9 with h90 | h91
    · refine ks_47_0 (fun _ => kb_18_118 (fun _ => four (fun F => ?_)) (fun z => absurd rfl z)) (fun z => absurd h90 z)
      rw [s1] at h90
      have := F.1
      rw [cc2.1, h90] at this
      exact absurd this (by decide)
    have h91' : σ2 1 9 = 1 := by rw [← s1]; exact h91
    have e83 : ∀ i, i < 4 → σ2 83 i = τ2 19 i := fun i hi => by rw [s19]; exact cc2.2 h91' i hi
    refine c_47 (by omega) O2.2.2.1 (Or.inr h91) (fun h i hi => ?_) pl (fun p c hc hp hs => kb_18_118 (fun z => absurd z (by decide)) (fun _ => kb_18_123 ?_)) (fun nf => kb_18_118 (fun _ => four (fun F => ?_)) (fun z => absurd rfl z))
    · rw [s19, F2 19 (by decide) (by decide)]
      rw [s1, F2 1 (by decide) (by decide)] at h
      exact K0.2 h i hi
    · have hp' : ∀ i, i < 4 → p i < L ∧ wo (Bf τ) s t (p i) = c i := fun i hi => ⟨(hp i hi).1, (O2.2.2.2.2 (c i) (p i) (hc i hi).1 (hp i hi).1 (hp i hi).2).symm⟩
      have hc' : ∀ i, i < 4 → c i < 9 ∧ σ2 83 i = nI (c i) := fun i hi => ⟨(hc i hi).1, by rw [e83 i hi]; exact (hc i hi).2⟩
      have fi : fit σ2 L (wo (Bf τ) s t) := ⟨by rw [cc2.1]; exact h91', p, c, hc', hp', hs⟩
      have lay := (lay_p (L := L) (p := p) (by omega) (fun i hi => (hp i hi).1)).2 hs
      refine c_54 C2 s1 (k2 15 (by decide) (by decide) (by omega)) O2 hc hp (fun τ3 K f3 hK B => kb_18_130 ?_)
      have O3 : OA τ3 L (wo (Bf τ) s t) := OA_cg (by rw [f3 5 (by decide)]) (f3 31 (by decide)) (f3 32 (by decide)) O2
      have hK' : ∀ v, v < 13 → τ3 44 v = nI (K v) ∧ K v < 8192 := fun v hv => ⟨hK v hv, B.1 v hv⟩
      have TP3 : TP τ3 L := ⟨⟨f, f42, by rw [f3 5 (by decide), F3 5 (by decide)]; exact S.fc⟩, l9, O3.2.2.1, fun i hi => by rw [f3 32 (by decide)]; exact pl i hi⟩
      have tq := f57_S0 (c := c) (Mk := Mk) B O3 f42 (by rw [f3 5 (by decide), F3 5 (by decide)]; exact S.fc) (fun g hg => by rw [f3 43 (by decide)]; exact hM2 g hg) (fun i hi => by rw [f3 19 (by decide)]; exact hc i hi) (fun i hi => by rw [f3 32 (by decide)]; exact hp i hi) lay
      refine c_55 TP3 hK' (fun i j k tk tm => kb_18_141 (fun z => absurd z (by decide)) (fun _ => kb_18_144 ?_)) (fun nt => kb_18_141 (fun _ => kb_18_146 ?_) (fun z => absurd rfl z))
      · obtain ⟨x1, x2, x3⟩ := stop (tw3n τ3 i j k) (fun c h1 _ h3 h20 => by unfold tw3n; rw [mm_up_n h3, mm_up_n h20, mm_up_n h20, mm_up_n h20]; exact f3 c h1)
        refine qq _ _ (by decide) x1 x2 x3 (Or.inr (Or.inr mm_up_s)) ⟨3, nI i, nI j, nI k, nI L, nI f, j3 (Or.inr ⟨small, Or.inr ⟨fi, p, c, K, hc', hp', hs, B, Or.inl ⟨i, j, k, (tq i j k).mp tk, fun i' j' l' h y => tm i' j' l' h ((tq i' j' l').mpr y), rfl, rfl, rfl, rfl, rfl⟩⟩⟩), mm_up_s, fun h => absurd h (by decide), fun _ => ⟨?_, ?_, ?_⟩, ?_, ?_⟩
        · unfold tw3n; rw [mm_up_n (by decide), mm_up_o (by decide), mm_up_o (by decide)]; exact mm_up_s
        · unfold tw3n; rw [mm_up_n (by decide), mm_up_o (by decide)]; exact mm_up_s
        · unfold tw3n; rw [mm_up_n (by decide)]; exact mm_up_s
        · unfold tw3n; rw [mm_up_n (by decide), mm_up_n (by decide), mm_up_n (by decide), mm_up_n (by decide), f3 2 (by decide)]; exact V4
        · unfold tw3n; rw [mm_up_n (by decide), mm_up_n (by decide), mm_up_n (by decide), mm_up_n (by decide), f3 2 (by decide)]; exact V5
      · obtain ⟨l1, _, _, eL, eL1, dis, _, _⟩ := id O
        refine c_59 O3 dis hK' (fun τ4 f4 row rws => kb_18_153 ?_)
        have k4 : ∀ c, (c < 22 ∨ 30 < c) → c ≠ 44 → τ4 c = τ2 c := fun c h1 h2 => by rw [f4 c h1]; exact f3 c h2
        have O4 : OA τ4 L (wo (Bf τ) s t) := OA_cg (by rw [f4 5 (by omega)]) (f4 31 (by omega)) (f4 32 (by omega)) O3
        have oin : ∀ k, k < L → ∃ s', s' < 4 ∧ (K (wo (Bf τ) s t k)).testBit (9 + s') = true := fun k hk => by
          obtain ⟨s', h4, ho⟩ := cover (o := wo (Bf τ) s t) (fun i hi => (hp i hi).1) hs hk
          exact ⟨s', h4, (B.2.2.1 _ s' (AJ k).1 h4).mpr ho⟩
        have PD : PLD σ2 n m (Bf τ) s t L f Mk (Fw τ1) p K := by
          obtain ⟨fl1, fl2, fl3, fl4, fl5⟩ : f ≤ 42 ∧ (∀ x, Dt σ2 m x → Fw τ1 (ph (Bf τ) x) = Fw τ1 x) ∧ (∀ x, Dt σ2 m x → Fw τ1 x = -1 ∨ ∃ g, g < f ∧ Fw τ1 x = nI g) ∧ (∀ x, Dt σ2 m x → (Fw τ1 x = -1 ↔ ∃ k, k < L ∧ x = (wo (Bf τ) s t k, wo (Bf τ) s t (k + 1)))) ∧ ∀ g, g < f → Mk g < 512 ∧ (∀ a, a < 9 → ((Mk g).testBit a = true ↔ ∃ b, Dt σ2 m (a, b) ∧ Fw τ1 (a, b) = nI g)) ∧ ∃ x, Dt σ2 m x ∧ Fw τ1 x = nI g ∧ ∀ y, Dt σ2 m y → Fw τ1 y = nI g → ∃ k, y = it (ph (Bf τ)) x k := ⟨f42, fun x hx => by rw [← pe x hx]; exact S.iv x hx, fun x hx => (S.rg x hx).resolve_left (i4 x hx).1, fun x hx => (i4 x hx).2, fun g hg => by
            obtain ⟨M, m1, m2, m3, x, x1, x2, x3⟩ := S.fr g hg
            have e : Mk g = M := (nI_eq (by have := (hMk g hg).1; omega) (by omega)).mp ((hMk g hg).2.symm.trans m2)
            rw [e]
            refine ⟨m1, m3, x, x1, x2, fun y hy hl => ?_⟩
            obtain ⟨k, ek⟩ := x3 y hy hl
            exact ⟨k, by rw [ek]; exact it_cg (D := Dt σ2 m) (fun x h => ph_D C2 H x h) pe x1 k⟩⟩
          exact ⟨⟨C2, N, NL⟩, h3, Z, BH_BN H, W, T, OP, ⟨fl1, fl2, fl3, fun g hg => (fl5 g hg).2.2⟩, fl4, fun g hg => ⟨(fl5 g hg).1, (fl5 g hg).2.1⟩, small, fun i hi => (hp i hi).1, hs, B, fun i j l y => nt i j l ((tq i j l).mpr y)⟩
        have b9' : ∀ g, g < f → τ4 43 g = nI (Mk g) ∧ bc (Mk g) 9 = 3 := fun g hg => by
          obtain ⟨M, m1, m2, m3⟩ := three g hg
          have e : Mk g = M := (nI_eq (by have := (hM2 g hg).1; omega) (by omega)).mp ((hM2 g hg).2.symm.trans m2)
          exact ⟨by rw [k4 43 (by omega) (by omega)]; exact (hM2 g hg).2, by rw [e]; exact m3⟩
        -- the rows of what is behind, with the sides in them
        have bh : ∀ r v, rmx m r → nrP σ2 m (Bf τ) s t L p r v → τ4 (21 + 1 + r) v = nI (BpP (Bf τ) s t L p r v) := fun r v hr hv => by
          have DK := PD.dsk
          have base : ∀ v, aj σ2 r v → τ3 (21 + 1 + r) v = nI (Bf τ r v) := fun v hv => by
            rw [f3 _ (by have := hr.1; omega), F3 _ (by have := hr.1; omega), i1 _ (by have := hr.1; omega) (by have := hr.1; omega)]
            exact (BH_sp H hr.1 hr.2 hv).1
          by_cases on : ∃ y, 1 ≤ y ∧ y ≤ L ∧ r = qo (Bf τ) s t p y
          · obtain ⟨y, y1, y2, ey⟩ := on
            have l3 := PD.l3
            have kL := Nat.mod_lt (p 0 + y) (show L > 0 by omega)
            have er : wo (Bf τ) s t ((p 0 + y) % L) = r := by rw [PD.wm]; exact ey.symm
            obtain ⟨s0, FS0, cc, cc4, on1, on2, w1, w2, w3⟩ := rws _ kL
            rw [er] at FS0 on1 on2 w1 w2 w3
            obtain ⟨g1, g2, g3, g4⟩ := DK.fs y1 y2
            have prev : wo (Bf τ) s t (((p 0 + y) % L + L - 1) % L) = qo (Bf τ) s t p (y - 1) := by
              show _ = wo (Bf τ) s t (p 0 + (y - 1))
              rw [PD.wm, ← PD.wm (p 0 + (y - 1)), ← PD.wm ((p 0 + y) % L + L - 1)]
              congr 1
              rw [show (p 0 + y) % L + L - 1 = (p 0 + y) % L + (L - 1) by omega, Nat.mod_add_mod, show p 0 + y + (L - 1) = p 0 + (y - 1) + L by omega, Nat.add_mod_right]
            have nxt1 : wo (Bf τ) s t (((p 0 + y) % L + 1) % L) = qo (Bf τ) s t p (y + 1) := by
              show _ = wo (Bf τ) s t (p 0 + (y + 1))
              rw [PD.wm, ← PD.wm ((p 0 + y) % L + 1), Nat.mod_add_mod, PD.wm]; rfl
            have near : ∀ s', s' < 4 → ((K r).testBit (9 + s') = true ↔ ∃ j, j ≤ nlo (bo4 L p) L y - lo4 (bo4 L p) y ∧ s' = (lo4 (bo4 L p) y + j) % 4) := fun s' h4 => by
              rw [← g3 s' h4, ← ey, PD.kn (by have := hr.1; omega)]
              constructor
              · intro h
                rcases DK.nrr hr h with z | ⟨i, i4', e, z⟩
                · have := z.1; omega
                · rw [show s' = i by omega]; exact z
              · intro h; exact Or.inr (Or.inl ⟨s', h4, rfl, h⟩)
            have l4 := lo4_4 (bo4 L p) y
            -- the first side
            have es0 : s0 = lo4 (bo4 L p) y := by
              have n0 := (near _ l4).mpr ⟨0, Nat.zero_le _, by omega⟩
              have np : ¬ (K r).testBit (9 + pv4 (lo4 (bo4 L p) y)) = true := fun z => by
                have p4 : pv4 (lo4 (bo4 L p) y) < 4 := (f_51_n _ l4).2
                obtain ⟨j, hj, ej⟩ := (near _ p4).mp z
                have := (pv4_1 (lo4 (bo4 L p) y) l4 _ p4).mp rfl
                omega
              rcases FS0 with ⟨q4, ⟨f1, f2, f3'⟩ | ⟨f1, f2⟩⟩
              · obtain ⟨j, hj, ej⟩ := (near s0 q4).mp f1
                have p4 : pv4 s0 < 4 := (f_51_n _ q4).2
                have pe4 := (pv4_1 s0 q4 _ p4).mp rfl
                rcases Nat.eq_zero_or_pos j with z | z
                · subst z; omega
                · exfalso
                  have : (K r).testBit (9 + pv4 s0) = true := (near _ p4).mpr ⟨j - 1, by omega, by omega⟩
                  rw [this] at f2; exact absurd f2 (by decide)
              · exact absurd (f2 _ l4 n0) np
            have ec : cc = nlo (bo4 L p) L y - lo4 (bo4 L p) y + 1 := by
              rw [es0] at on1 on2
              rcases Nat.lt_trichotomy cc (nlo (bo4 L p) L y - lo4 (bo4 L p) y + 1) with z | z | z
              · exfalso
                rcases on2 with u | u
                · omega
                · rw [(near _ (Nat.mod_lt _ (by decide))).mpr ⟨cc, by omega, rfl⟩] at u; exact absurd u (by decide)
              · exact z
              · exfalso
                have u := on1 (nlo (bo4 L p) L y - lo4 (bo4 L p) y + 1) z
                obtain ⟨j, hj, ej⟩ := (near _ (Nat.mod_lt _ (by decide))).mp u
                omega
            rw [prev, es0] at w1 w2 w3
            rw [nxt1] at w2
            have hv' := hv
            rw [ey] at hv'
            rcases DK.cs y1 y2 hv' with c | ⟨c1, c2, c3⟩ | ⟨j, hj, c⟩ | c
            · have x : BpP (Bf τ) s t L p (qo (Bf τ) s t p y) (qo (Bf τ) s t p (y - 1)) = 9 + lo4 (bo4 L p) y := DK.x1 y1 y2
              have z := w1 0 (by omega)
              rw [show (lo4 (bo4 L p) y + 0) % 4 = lo4 (bo4 L p) y by omega] at z
              rw [c, ey, x, ← ey]; exact z
            · have x : BpP (Bf τ) s t L p (qo (Bf τ) s t p y) v = Bf τ (qo (Bf τ) s t p y) v := DK.x4 (DK.qr y).1 c1 c2
              rw [ey, x, ← ey]
              rw [← ey] at c1
              rw [w3 v (fun i hi e => ?_), base v c1]
              match i, e with
              | 0, e => exact c3 e
              | i + 1, e =>
                have e' : v = 9 + (lo4 (bo4 L p) y + i) % 4 := e
                have := c1.1; omega
            · have x : BpP (Bf τ) s t L p (qo (Bf τ) s t p y) (9 + (lo4 (bo4 L p) y + j) % 4) = 9 + (lo4 (bo4 L p) y + (j + 1)) % 4 := DK.x2 y1 y2 hj
              have z := w1 (j + 1) (by omega)
              rw [c, ey, x, ← ey]; exact z
            · have x : BpP (Bf τ) s t L p (qo (Bf τ) s t p y) (9 + nlo (bo4 L p) L y % 4) = qo (Bf τ) s t p (y + 1) := DK.x3 y1 y2
              have z := w2
              rw [ec, show bef (qo (Bf τ) s t p (y - 1)) (lo4 (bo4 L p) y) (nlo (bo4 L p) L y - lo4 (bo4 L p) y + 1) = 9 + nlo (bo4 L p) L y % 4 by show 9 + (lo4 (bo4 L p) y + (nlo (bo4 L p) L y - lo4 (bo4 L p) y)) % 4 = _; congr 2; omega] at z
              rw [c, ey, x, ← ey]; exact z
          · rcases DK.nrr hr hv with h | ⟨i, i4', e, h⟩
            · have x : BpP (Bf τ) s t L p r v = Bf τ r v := DK.x4 hr h (fun o => by obtain ⟨y, y1, y2, y3, _⟩ := DK.out1 o; exact on ⟨y, y1, y2, y3⟩)
              rw [x, row r hr.1 (fun k hk e => on ?_)]
              · exact base v h
              · have l3 := PD.l3
                have p0 := PD.pl 0 (by decide)
                obtain ⟨y, y1, y2, y3, _⟩ := DK.nm (k + L - p 0)
                refine ⟨y, y1, y2, ?_⟩
                rw [y3]
                show r = wo (Bf τ) s t (p 0 + (k + L - p 0))
                rw [show p 0 + (k + L - p 0) = k + L by omega, PD.wp]; exact e.symm
            · exact absurd (DK.at1 i4' h) on
        have x4 := stop τ4 (fun c h1 h2 _ _ => k4 c h2 h1)
        refine c_61t (d := d + 1) PD (by rw [k4 1 (by omega) (by omega)]; exact s1) (by rw [k4 15 (by omega) (by omega)]; exact k2 15 (by decide) (by decide) (by omega)) (by rw [k4 16 (by omega) (by omega)]; exact k2 16 (by decide) (by decide) (by omega)) (by rw [k4 17 (by omega) (by omega)]; exact k2 17 (by decide) (by decide) (by omega)) (by rw [k4 5 (by omega) (by omega), F3 5 (by decide)]; exact S.fc) b9' O4 (fun v hv => by rw [f4 44 (by omega)]; exact (hK' v hv).1) bh (fun a b hd => by have := hd.1; have e : a < 9 := this; rw [k4 _ (by omega) (by omega), F3 _ (by omega)]; rfl) x4.2.1 x4.2.2 (fun τ5 D5v f5 B5 D5 dd lyf => kb_18_160 ?_)
        have g1 : τ5 1 = σ2 1 := by rw [f5 1 (by decide) (by omega), k4 1 (by omega) (by omega)]; exact s1
        have gg : ∀ c, (c = 13 ∨ c = 14 ∨ c = 16 ∨ c = 17 ∨ c = 18) → τ5 c = σ2 c := fun c hc => by rw [f5 c (by omega) (by omega), k4 c (by omega) (by omega)]; exact k2 c (by omega) (by omega) (by omega)
        have W2 : WRg σ2 n m := ⟨fun i hi => by rw [F2 13 (by decide) (by decide), F2 14 (by decide) (by decide)]; exact WR0.1 i hi, fun e he => by rw [F2 18 (by decide) (by decide)]; exact WR0.2 e he⟩
        have jj : ∀ e, e < n → rmx m (jA σ2 e) ∧ rmx m (jB σ2 e) ∧ aj σ2 (jA σ2 e) (jB σ2 e) ∧ σ2 16 e = nI (jA σ2 e) ∧ σ2 17 e = nI (jB σ2 e) := fun e he => by
          obtain ⟨a, b, ha, hb', _, ma, mb, e1, e2⟩ := C2.je e he
          have ea : jA σ2 e = a := by unfold jA; rw [e1, nI_clamp (by omega)]
          have eb : jB σ2 e = b := by unfold jB; rw [e2, nI_clamp (by omega)]
          rw [ea, eb]
          exact ⟨⟨ha, ma⟩, ⟨hb', mb⟩, (C2.ja a b ha ma).mpr ⟨e, he, Or.inl ⟨e1, e2⟩, hb'⟩, e1, e2⟩
        obtain ⟨sd, Ysd, dsd, _⟩ := id lyf
        obtain ⟨V0, sV0, bV0⟩ := PD.sol Ysd (D := D5v) (wsh := fun e => (σ2 18 e).toNatClampNeg) (wid := fun i => (σ2 13 i).toNatClampNeg) (hgt := fun i => (σ2 14 i).toNatClampNeg) dsd (fun e he => ⟨(jj e he).1, (jj e he).2.1, (jj e he).2.2.1⟩) (fun e he => (W2.2 e he).2) (fun i hi => ⟨(W2.1 i hi).2.2.1, (W2.1 i hi).2.2.2⟩)
        obtain ⟨V, lsV⟩ := LSo_ex ⟨V0, sV0⟩
        have bV : ∀ x, V x ≤ 4050 := fun x => Nat.le_trans (lsV.2 V0 sV0 x) (bV0 x)
        have e44 : ∀ v, v < 13 → τ5 44 v = nI (K v) ∧ K v < 8192 := fun v hv => by rw [f5 44 (by decide) (by omega), f4 44 (by omega)]; exact hK' v hv
        have PGx : PGv τ5 (rmx m) n D5v (jA σ2) (jB σ2) (fun e => (σ2 18 e).toNatClampNeg) (fun i => (σ2 13 i).toNatClampNeg) (fun i => (σ2 14 i).toNatClampNeg) K V := by
          refine ⟨⟨C2.jn.1, by rw [g1]; exact C2.jn.2⟩, fun e he => ?_, fun i hi => ?_, fun i hi hrm => ?_, e44, lsV, bV⟩
          · obtain ⟨h1, h2, h3', h4, h5⟩ := jj e he
            exact ⟨h1.1, h2.1, by rw [gg 16 (by omega)]; exact h4, by rw [gg 17 (by omega)]; exact h5, (dd e he).1, (dd e he).2, by rw [gg 18 (by omega)]; exact (W2.2 e he).1, (W2.2 e he).2⟩
          · rw [xd_cg g1, C2.dr i hi]
            exact ⟨fun z => ⟨hi, z⟩, fun z => z.2⟩
          · obtain ⟨h1, h2, h3', h4⟩ := W2.1 i hrm
            exact ⟨by rw [gg 13 (by omega)]; exact h1, by rw [gg 14 (by omega)]; exact h2, h3', h4⟩
        refine c_72v PGx (fun τ6 f6 pf => kb_18_167 (qx _ (fun c hc => ?_) (BG_cg (fun c h1 h2 => f6 c (by omega) (by omega)) B5) (DG_cg (f6 45 (by omega) (by omega)) D5) (Or.inl (by rw [f6 3 (by omega) (by omega), f5 3 (by omega) (by omega), k4 3 (by omega) (by omega), k2 3 (by omega) (by omega) (by omega)]; exact W0)) ⟨0, 0, 0, 0, nI L, nI f, j3 (Or.inr ⟨small, Or.inr ⟨fi, p, c, K, hc', hp', hs, B, Or.inr ⟨fun i j l y => nt i j l ((tq i j l).mpr y), rfl, rfl⟩⟩⟩), ?_, Bf τ, s, t, L, f, Mk, Fw τ1, p, K, D5v, V, PD, fun i hi => by rw [(hc' i hi).2, (hp' i hi).2], lyf, fun e he => by rw [f6 45 (by omega) (by omega)]; exact dd e he, lsV, bV, pf, fun v hv => by rw [f6 44 (by omega) (by omega)]; exact (e44 v hv).1, rfl, rfl, rfl⟩))
        · rw [f6 c (by omega) (by omega), f5 c (by omega) (by omega)]
          exact x4.1 c hc
        · have z3 : τ6 3 1 = 0 := by rw [f6 3 (by omega) (by omega), f5 3 (by omega) (by omega), k4 3 (by omega) (by omega), k2 3 (by omega) (by omega) (by omega)]; exact W0
          have z2 : τ6 2 = τ2 2 := by rw [f6 2 (by omega) (by omega), f5 2 (by omega) (by omega), k4 2 (by omega) (by omega)]
          exact ⟨z3, fun h => absurd h (by decide), fun h => absurd h (by decide), by rw [z2]; exact V4, by rw [z2]; exact V5⟩
    · -- the corners don't fit
      obtain ⟨_, p, c, hc, hp, hs⟩ := F
      have o32 : ∀ i, i < 4 → τ2 32 (c i) = nI (p i) := fun i hi => by
        have := (O2.2.2.2.1 (p i) (hp i hi).1).2.2
        rw [(hp i hi).2] at this
        exact this
      rcases nf with u | ⟨_, i, a, hi, ha, e1, e2⟩ | ⟨p', c', hc', hp', hs'⟩
      · rw [h91] at u; exact absurd u (by decide)
      · have ca : c i = a := nI9 (hc i hi).1 ha ((hc i hi).2.symm.trans ((e83 i hi).trans e1))
        have := o32 i hi
        rw [ca, e2] at this
        exact absurd this.symm (nI_m1 (by have := (hp i hi).1; omega))
      · have ec : ∀ i, i < 4 → c i = c' i := fun i hi => nI9 (hc i hi).1 (hc' i hi).1 ((hc i hi).2.symm.trans ((e83 i hi).trans (hc' i hi).2))
        have ep : ∀ i, i < 4 → p i = p' i := fun i hi => by
          have x1 := o32 i hi
          rw [ec i hi, (hp' i hi).2] at x1
          have y1 := (hp i hi).1
          have y2 := (hp' i hi).1
          exact (nI_eq (by omega) (by omega)).mp x1.symm
        apply hs'
        have es : ∀ i, i < 4 → st L p' i = st L p i := fun i hi => by unfold st; rw [ep i hi, ep _ (f_50_n i hi).2]
        rw [es 0 (by decide), es 1 (by decide), es 2 (by decide), es 3 (by decide)]; exact hs
theorem c_1t {d n m : Nat} {Q : mm_Q} {σ : mm_S} (Z : ZI σ n m) (WR0 : WRg σ n m) (q : ∀ τ (a : Int32) k x y z oc fc, jfr σ τ → BG τ → DG τ → WN τ → JV σ n m a k x y z oc fc → WV τ k x y z oc fc → (a = 1 → XPL σ n m τ k oc fc) → Q (some (.int a)) (mm_up τ 0 3 (if a = 1 then 1 else 0))) : mD (d + 63) 1 [.ref 0] σ Q :=
  ke_1 (kb_1_0 (c_18t Z WR0 (fun τ a k x y z oc fc F B D W J V X => kb_1_7 (fun e => kb_1_14 (by have := q τ a k x y z oc fc F B D W J V X; rw [if_pos e] at this; exact this)) (fun e => kb_1_18 (by have := q τ a k x y z oc fc F B D W J V X; rw [if_neg e] at this; exact this)))))
