section
/-! the reference's plan, with the layout and the places -/
theorem PLD.flp {σ : mm_S} {n m : Nat} {B : Nat → Nat → Nat} {s t L f : Nat} {Mk : Nat → Nat} {lab : Nat × Nat → Int32} {p K : Nat → Nat} (P : PLD σ n m B s t L f Mk lab p K) : FLp σ m B s t L f Mk :=
  ⟨P.fl.1, lab, P.fl.2.1, P.fl.2.2.1, P.lo, fun g hg => ⟨(P.mk g hg).1, (P.mk g hg).2, P.fl.2.2.2 g hg⟩⟩
theorem JV_10 {σ : mm_S} {n m : Nat} {k x y z oc fc : Int32} (J : JV σ n m 1 k x y z oc fc) : σ 10 10 = 1 := by
  rcases J with ⟨e0, f0, cf, h, _⟩ | ⟨j0, why, h, _⟩ | ⟨j0, h3, Cn0, B, s, t, L, f, Mk, H, W, T, OP, FL, _, _, j3⟩
  · exact absurd h (by decide)
  · exact absurd h (by decide)
  · rcases j3 with ⟨K, _, _, h, _⟩ | ⟨_, ⟨_, h, _⟩ | ⟨ft, _⟩⟩
    · exact absurd h (by decide)
    · exact absurd h (by decide)
    · exact ft.1
/-- how the reference holds a plan -/
def RPL (n : Nat) (K D V : Nat → Nat) (τ : mm_S) : Prop := (∀ e, e < n → τ 95 e = nI (D e)) ∧ (PVr τ V) ∧ (∀ v, v < 13 → τ 91 v = nI (K v)) ∧ (∀ i, neS K 1 i → τ 10 32 = nI (V (4 * i + 2))) ∧ (∀ i, neS K 0 i → τ 10 33 = nI (V (4 * i + 3)))
theorem RPL.dd {n : Nat} {K D V : Nat → Nat} {τ : mm_S} (h : RPL n K D V τ) : ∀ e, e < n → τ 95 e = nI (D e) := h.1
theorem RPL.pv {n : Nat} {K D V : Nat → Nat} {τ : mm_S} (h : RPL n K D V τ) : PVr τ V := h.2.1
theorem RPL.kk {n : Nat} {K D V : Nat → Nat} {τ : mm_S} (h : RPL n K D V τ) : ∀ v, v < 13 → τ 91 v = nI (K v) := h.2.2.1
theorem RPL.we {n : Nat} {K D V : Nat → Nat} {τ : mm_S} (h : RPL n K D V τ) : ∀ i, neS K 1 i → τ 10 32 = nI (V (4 * i + 2)) := h.2.2.2.1
theorem RPL.hn {n : Nat} {K D V : Nat → Nat} {τ : mm_S} (h : RPL n K D V τ) : ∀ i, neS K 0 i → τ 10 33 = nI (V (4 * i + 3)) := h.2.2.2.2
theorem LYF_cg {σ τ : mm_S} (h15 : τ 15 = σ 15) (h16 : τ 16 = σ 16) (h17 : τ 17 = σ 17) : LYF τ = LYF σ := by
  have ea : aj τ = aj σ := aj_cg h15
  have jA' : jA τ = jA σ := by funext e; unfold jA; rw [h16]
  have jB' : jB τ = jB σ := by funext e; unfold jB; rw [h17]
  have nr' : nrP τ = nrP σ := by funext m B s t L p; unfold nrP; rw [ea]
  funext n m B s t L p D; unfold LYF; rw [jA', jB', nr']
theorem c_142t {d n m : Nat} {Q : mm_Q} {σ : mm_S} {x y z : Int32} {B : Nat → Nat → Nat} {s t L f : Nat} {Mk : Nat → Nat} {lab : Nat × Nat → Int32} {p K D V : Nat → Nat} (Z0 : ZI σ n m) (WR0 : WRg σ n m) (f10 : σ 10 10 = 1) (P0 : PLD σ n m B s t L f Mk lab p K) (cv0 : ∀ i, i < 4 → σ 83 i = nI (wo B s t (p i))) (Y0 : LYF σ n m B s t L p D) (D4 : ∀ e, e < n → D e < 4) (Ls0 : LSo (CSt (rmx m) n D (jA σ) (jB σ) (fun e => (σ 18 e).toNatClampNeg) (fun i => (σ 13 i).toNatClampNeg) (fun i => (σ 14 i).toNatClampNeg) (neS K 1) (neS K 0)) V) (bV : ∀ x, V x ≤ 4050) (q : ∀ τ, MF σ τ → MWV τ 1 0 x y z (nI L) (nI f) → RPL n K D V τ → Q (some (.int 1)) τ) : mD (d + 6) 142 [.ref 10] σ Q := by
  have n21 := Z0.mk.jn.1
  refine ke_142 (kb_142_0 ?_)
  have g13 : (mm_up (mm_up (mm_up (mm_up σ 10 0 0) 10 13 (-1)) 10 15 0) 10 16 0) 10 13 = -1 := by rw [mm_up_o (by decide), mm_up_o (by decide)]; exact mm_up_s
  have g15 : (mm_up (mm_up (mm_up (mm_up σ 10 0 0) 10 13 (-1)) 10 15 0) 10 16 0) 10 15 = 0 := by rw [mm_up_o (by decide)]; exact mm_up_s
  have g16 : (mm_up (mm_up (mm_up (mm_up σ 10 0 0) 10 13 (-1)) 10 15 0) 10 16 0) 10 16 = 0 := mm_up_s
  generalize hs : mm_up (mm_up (mm_up (mm_up σ 10 0 0) 10 13 (-1)) 10 15 0) 10 16 0 = σ0 at *
  have F0 : MF σ σ0 := by
    rw [← hs]
    exact MF_10 (MF_10 (MF_10 (MF_10 ⟨fun _ _ _ => rfl, fun _ _ => rfl⟩ (by decide)) (by decide)) (by decide)) (by decide)
  have Z : ZI σ0 n m := ZI_MF F0 Z0
  have M := Z.mk
  have P : PLD σ0 n m B s t L f Mk lab p K := PLD_cg (F0.1 1 (by decide) (by decide)) (F0.1 11 (by decide) (by decide)) (F0.1 12 (by decide) (by decide)) (F0.1 15 (by decide) (by decide)) (F0.1 16 (by decide) (by decide)) (F0.1 17 (by decide) (by decide)) P0
  have Y : LYF σ0 n m B s t L p D := by rw [LYF_cg (F0.1 15 (by decide) (by decide)) (F0.1 16 (by decide) (by decide)) (F0.1 17 (by decide) (by decide))]; exact Y0
  have Ls : LSo (CSt (rmx m) n D (jA σ0) (jB σ0) (fun e => (σ0 18 e).toNatClampNeg) (fun i => (σ0 13 i).toNatClampNeg) (fun i => (σ0 14 i).toNatClampNeg) (neS K 1) (neS K 0)) V := by
    have jA' : jA σ0 = jA σ := by funext e; unfold jA; rw [F0.1 16 (by decide) (by decide)]
    have jB' : jB σ0 = jB σ := by funext e; unfold jB; rw [F0.1 17 (by decide) (by decide)]
    rw [jA', jB', F0.1 13 (by decide) (by decide), F0.1 14 (by decide) (by decide), F0.1 18 (by decide) (by decide)]; exact Ls0
  have WR : WRg σ0 n m := ⟨fun i hi => by rw [F0.1 13 (by decide) (by decide), F0.1 14 (by decide) (by decide)]; exact WR0.1 i hi, fun e he => by rw [F0.1 18 (by decide) (by decide)]; exact WR0.2 e he⟩
  have cv : ∀ i, i < 4 → σ0 83 i = nI (wo B s t (p i)) := fun i hi => by rw [F0.1 83 (by decide) (by decide)]; exact cv0 i hi
  have c10f : σ0 10 10 = 1 := by rw [F0.2 10 (by decide)]; exact f10
  clear hs WR0 P0 Y0 Ls0 cv0
  have e6 := M.jn.2
  have JR : Mr σ0 n := ⟨n21, e6, fun k hk => by
    obtain ⟨a, b, ha, hb, _, _, _, ea, eb⟩ := M.je k hk
    rw [ea, eb]
    exact ⟨pk_in a 9 ha, pk_in b 9 hb⟩⟩
  have fin : ∀ {Q' : mm_Q} (τ : mm_S), MF σ τ → (∀ τ', MF σ τ' → (∀ j, j ≠ 12 → τ' 10 j = τ 10 j) → (∀ c, c ≠ 10 → τ' c = τ c) → τ' 10 12 = 1 → Q' (some (.int 1)) τ') → mD (d + 5) 141 [.ref 10, .int 1] τ Q' := fun {Q'} τ F h =>
    c_141 (fun _ => h _ (MF_10 F (by decide)) (fun j hj => mm_up_o hj) (fun c hc => mm_up_n hc) mm_up_s) (fun e => absurd rfl e)
  have j0 : J0 σ0 n := ⟨P.w.2.1, P.w.2.2⟩
  have h3 := P.r3
  have Cn0 := P.cn
  have H := P.bn
  have W := P.ws
  have T := P.nt
  have OP := P.ol
  have FL := P.flp
  refine c_99 JR (fun a b mf => absurd j0 (cfa_J0 (mfa_c Z mf))) (fun _ _ => kb_142_24 (fun _ => kb_142_33 ?_) (fun g => absurd rfl g))
  have N0 : NC σ0 n := j0.1
  have C := Z.ck
  obtain ⟨l1, l9, oL, oL1, dis⟩ := OP
  refine c_104s M (fun r hr => Z.otr N0 hr) (fun τ1 f1 A1 => kb_142_37 (c_108 ?_))
  have F1 : MF σ τ1 := MF_t F0 ⟨fun c a b => f1 c (by omega) (by omega), fun j _ => by rw [f1 10 (by decide) (by decide)]⟩
  have r1 : rc τ1 9 = bc m 9 := by rw [rc_cg (f1 75 (by decide) (by decide)) 9]; exact Z.rcb 9 (Nat.le_refl 9)
  have b9 := bc_n m 9
  refine kb_142_41 (fun g => absurd ((nI_ltI (a := bc m 9) (b := 3) (by omega) (by decide)).mp (by rw [r1] at g; exact g)) (by omega)) (fun g => kb_142_45 ?_)
  refine c_107s Z (by rw [f1 10 (by decide) (by decide)]) (f1 75 (by decide) (by decide)) (f1 80 (by decide) (by decide)) (f1 81 (by decide) (by decide)) h3 (fun _ => kb_142_49 (fun g => absurd g (by decide)) (fun _ => kb_142_52 ?_)) (fun nC => absurd Cn0 nC)
  have cl0 : it (ph B) (s, t) L = (s, t) := by rw [it_wo, oL, oL1]
  refine c_109s Z N0 H (fun c _ h h' => f1 c h h') A1 (fun i hi mi => Cn_aj Cn0 h3 hi mi) (by omega) (fun τ2 N s' t' W' T' f2 g2 N1 _ e15 ol cl ds G2 => kb_142_56 (fun g => absurd g (by decide)) (fun _ => kb_142_65 ?_)) (fun τ2 N s' t' W' T' _ _ _ N1 cl dd tw => ?_)
  rotate_left
  · exfalso
    have es := wms_u Z.ck W' W
    subst es
    have et := nms_u T' T
    subst et
    obtain ⟨i, j, hij, hj, e⟩ := tw
    have c1 : wo B s' t' N = s' := by rw [it_wo] at cl; exact congrArg Prod.fst cl
    rcases Nat.lt_trichotomy L N with u | u | u
    · exact dd 0 L (by omega) u (by rw [cl0]; rfl)
    · subst u; exact dis i j hij hj e
    · exact dis 0 N N1 u (by rw [c1]; rfl)
  have es := wms_u Z.ck W' W
  subst es
  have et := nms_u T' T
  subst et
  have eN : N = L := by
    have c1 : wo B s' t' N = s' := by rw [it_wo] at cl; exact congrArg Prod.fst cl
    rcases Nat.lt_trichotomy L N with u | u | u
    · exact absurd (by rw [oL]; rfl) (ds 0 L (by omega) u)
    · exact u.symm
    · exact absurd (by rw [c1]; rfl) (dis 0 N N1 u)
  subst eN
  have F2 : MF σ τ2 := MF_t F1 ⟨fun c a b => f2 c a (by omega) (by omega), fun j a => g2 j (by omega)⟩
  have A2 : AO σ0 τ2 n := fun r hr => by rw [f2 87 (by decide) (by decide) (by decide), f2 88 (by decide) (by decide) (by decide)]; exact A1 r hr
  have x6 : ∀ τ, MF σ τ → τ 10 6 = σ0 10 6 := fun τ F => by rw [F.2 6 (by decide), F0.2 6 (by decide)]
  have x80 : ∀ τ c, MF σ τ → (c ≠ 10 ∧ c < 84) → τ c = σ0 c := fun τ c F hc => by rw [F.1 c hc.1 (by omega), F0.1 c hc.1 (by omega)]
  have D0 : Dt σ0 m (s', t') := ⟨W.1, W.2.2.1, T.1⟩
  have DX := it_D (D := Dt σ0 m) (fun x h => pn_D C H x h) D0
  refine c_110s Z N0 H (G0 := fun x => ∃ i, i < N ∧ x = it (ph B) (s', t') i) (fun c h h' h'' h3 h4 => by rw [f2 c h h' h4]; exact f1 c h'' h3) (x6 τ2 F2) A2 G2 (fun x hx hg => ?_) (fun τ3 f' y3 f3 g3 f42 e19 R3 cov => kb_142_69 ?_)
  · obtain ⟨i, hi, e⟩ := hg
    rcases Nat.eq_zero_or_pos i with u | u
    · subst u
      refine ⟨N - 1, by omega, pn_inj C N0 H _ _ hx (DX _) ?_⟩
      rw [e]
      show (s', t') = it (ph B) (s', t') (N - 1 + 1)
      rw [show N - 1 + 1 = N by omega, cl]
    · refine ⟨i - 1, by omega, pn_inj C N0 H _ _ hx (DX _) ?_⟩
      rw [e]
      show _ = it (ph B) (s', t') (i - 1 + 1)
      rw [show i - 1 + 1 = i by omega]
  have F3 : MF σ τ3 := MF_t F2 ⟨fun c a b => f3 c a (by omega) (by omega), fun j a => g3 j (by omega)⟩
  have exM : ∃ Mk' : Nat → Nat, ∀ g, g < f' → Mk' g < 512 ∧ τ3 86 g = nI (Mk' g) := ⟨fun g => (τ3 86 g).toNatClampNeg, fun g hg => by
    obtain ⟨_, _, _, M', m1, m2, _⟩ := R3.1 g hg
    show (τ3 86 g).toNatClampNeg < 512 ∧ τ3 86 g = nI (τ3 86 g).toNatClampNeg
    rw [m2, nI_clamp (by omega)]
    exact ⟨m1, rfl⟩⟩
  obtain ⟨Mk', hMk'⟩ := exM
  obtain ⟨ef, sub1, sub2⟩ := faces_eq C N0 H FL R3 cov hMk'
  subst ef
  generalize hs : mm_up τ3 10 16 (τ3 10 19) = τ4
  have F4 : MF σ τ4 := by rw [← hs]; exact MF_10 F3 (by decide)
  have c4 : ∀ c, c ≠ 10 → τ4 c = τ3 c := fun c h => by rw [← hs]; exact mm_up_n h
  have c10 : ∀ j, j ≠ 16 → τ4 10 j = τ3 10 j := fun j h => by rw [← hs]; exact mm_up_o h
  have c16 : τ4 10 16 = nI f' := by rw [← hs, mm_up_s]; exact e19
  clear hs
  have d13 : τ4 10 13 = -1 := by rw [c10 13 (by decide), g3 13 (by decide), g2 13 (by decide), f1 10 (by decide) (by decide)]; exact g13
  have d15 : τ4 10 15 = nI N := by rw [c10 15 (by decide), g3 15 (by decide)]; exact e15
  have fm4 : ∀ g, g < f' → Mk' g < 512 ∧ τ4 86 g = nI (Mk' g) := fun g hg => by rw [c4 86 (by decide)]; exact hMk' g hg
  have e19' : τ4 10 19 = nI f' := by rw [c10 19 (by decide)]; exact e19
  have o9 : ∀ k, wo B s' t' k < 9 := fun k => by have := (DX k).1; rw [it_wo] at this; exact this
  have ol4 : ∀ k, k < N → wo B s' t' k < 9 ∧ τ4 85 k = nI (wo B s' t' k) := fun k hk => ⟨o9 k, by rw [c4 85 (by decide), f3 85 (by decide) (by decide) (by decide)]; exact ol k hk⟩
  refine c_115s f42 e19' fm4 (fun K' ⟨g, hg, w1, w2⟩ mn => kb_142_81 (fun g => absurd g (by decide)) (fun _ => kb_142_84 ?_)) (fun sm' => kb_142_81 (fun _ => kb_142_90 ?_) (fun g => absurd rfl g))
  · -- no great face
    exfalso
    obtain ⟨h', hh', e'⟩ := sub1 g hg
    have := P.sm h' hh'
    rw [e'] at this
    omega
  have m83 : τ4 83 = σ0 83 := x80 τ4 83 F4 (by decide)
  have m10 : τ4 10 10 = σ0 10 10 := by rw [F4.2 10 (by decide), F0.2 10 (by decide)]
  have ft : fit τ4 N (wo B s' t') = fit σ0 N (wo B s' t') := by unfold fit; rw [m83, m10]
  refine c_117s l1 l9 d15 ol4 dis (by rw [m10, m83]; exact M.co) (fun τ5 f5 nf => kb_142_94 (fun _ => kb_142_97 ?_) (fun g => absurd rfl g)) (fun τ5 p' c' f5 hc' hp' hs' h92 fi => kb_142_94 (fun g => absurd g (by decide)) (fun _ => kb_142_103 ?_))
  · exfalso
    rw [ft] at nf
    exact nf ⟨c10f, p, fun i => wo B s' t' (p i), fun i hi => ⟨o9 _, cv i hi⟩, fun i hi => ⟨P.pl i hi, rfl⟩, P.sL⟩
  rw [ft] at fi
  have F5 : MF σ τ5 := MF_t F4 ⟨fun c a b => f5 c (by omega) (by omega), fun j a => by rw [f5 10 (by decide) (by decide)]⟩
  obtain ⟨c, hc, hp⟩ : ∃ c : Nat → Nat, (∀ i, i < 4 → c i < 9 ∧ σ0 83 i = nI (c i)) ∧ (∀ i, i < 4 → p i < N ∧ wo B s' t' (p i) = c i) := ⟨fun i => wo B s' t' (p i), fun i hi => ⟨o9 _, cv i hi⟩, fun i hi => ⟨P.pl i hi, rfl⟩⟩
  have hsum := P.sL
  have NBK := P.nb
  have ec : ∀ i, i < 4 → c' i = c i := fun i hi => nI9 (hc' i hi).1 (hc i hi).1 ((hc' i hi).2.symm.trans (by rw [m83]; exact (hc i hi).2))
  have ep : ∀ i, i < 4 → p' i = p i := fun i hi => by
    have e : wo B s' t' (p' i) = wo B s' t' (p i) := by rw [(hp' i hi).2, (hp i hi).2, ec i hi]
    rcases Nat.lt_trichotomy (p' i) (p i) with u | u | u
    · exact absurd e (dis _ _ u (hp i hi).1)
    · exact u
    · exact absurd e.symm (dis _ _ u (hp' i hi).1)
  have h92' : ∀ s, s < 4 → τ5 92 s = nI (frm N p s) ∧ τ5 93 s = nI (tom N p s) := fun s hs => by
    rw [← frm_cg ep s hs, ← tom_cg ep s hs]; exact h92 s hs
  have lay := (lay_p (L := N) (p := p) (by omega) (fun i hi => (hp i hi).1)).2 hsum
  have lay' : ∀ s, s < 4 → frm N p s ≤ tom N p s ∧ tom N p s ≤ N := fun s hs => by
    have := lay s hs; omega
  have e10 : τ5 10 = τ4 10 := f5 10 (by decide) (by decide)
  have d15' : τ5 10 15 = nI N := by rw [e10]; exact d15
  have ol5 : ∀ k, k < N → wo B s' t' k < 9 ∧ τ5 85 k = nI (wo B s' t' k) := fun k hk => by rw [f5 85 (by decide) (by decide)]; exact ol4 k hk
  have e83 : τ5 83 0 = nI (c 0) := by rw [f5 83 (by decide) (by decide), m83]; exact (hc 0 (by decide)).2
  refine c_120s Z (x6 τ5 F5) (x80 τ5 80 F5 (by decide)) (x80 τ5 81 F5 (by decide)) l1 l9 d15' ol5 dis (hc 0 (by decide)).1 e83 (hp 0 (by decide)).1 (hp 0 (by decide)).2 h92' lay (fun τ6 K' f6 hK' NBK' => kb_142_107 ?_)
  have F6 : MF σ τ6 := MF_t F5 ⟨fun c a b => f6 c (by omega), fun j a => by rw [f6 10 (by decide)]⟩
  have eK := NB_u NBK' NBK
  have SFe : ∀ x, SF f' Mk' N (wo B s' t') p x ↔ SF f' Mk N (wo B s' t') p x := fun x => by
    unfold SF
    have : (∃ g, g < f' ∧ Mk' g = x) ↔ ∃ g, g < f' ∧ Mk g = x := by
      constructor
      · rintro ⟨g, hg, e⟩
        obtain ⟨h, hh, e'⟩ := sub1 g hg
        exact ⟨h, hh, e'.trans e⟩
      · rintro ⟨h, hh, e⟩
        obtain ⟨g, hg, e'⟩ := sub2 h hh
        exact ⟨g, hg, e'.trans e⟩
    rw [this]
  have tre : ∀ i j l, tr K' (SF f' Mk' N (wo B s' t') p) i j l ↔ tr K (SF f' Mk N (wo B s' t') p) i j l := fun i j l => by
    unfold tr
    constructor
    · rintro ⟨a1, a2, a3, a4, a5, a6, a7⟩
      rw [eK i (by omega)] at a4 a5
      rw [eK j (by omega)] at a6
      exact ⟨a1, a2, a3, a4, a5, a6, fun h => a7 ((SFe _).mpr h)⟩
    · rintro ⟨a1, a2, a3, a4, a5, a6, a7⟩
      rw [← eK i (by omega)] at a4 a5
      rw [← eK j (by omega)] at a6
      exact ⟨a1, a2, a3, a4, a5, a6, fun h => a7 ((SFe _).mp h)⟩
  have e10' : τ6 10 = τ5 10 := f6 10 (by decide)
  refine c_122s l1 l9 (by rw [e10']; exact d15') (fun k hk => by rw [f6 85 (by decide)]; exact ol5 k hk) dis (hc 0 (by decide)).1 (by rw [f6 83 (by decide)]; exact e83) (hp 0 (by decide)).1 (hp 0 (by decide)).2 (fun s hs => by rw [f6 92 (by decide), f6 93 (by decide)]; exact h92' s hs) lay' f42 (by rw [e10', e10]; exact e19') (fun g hg => by rw [f6 86 (by decide), f5 86 (by decide) (by decide)]; exact fm4 g hg) (fun v hv => ⟨NBK'.1 v hv, hK' v hv⟩) (fun i j l t1 t2 => kb_142_111 (fun g => absurd g (by decide)) (fun _ => kb_142_114 ?_)) (fun nt => kb_142_111 (fun _ => kb_142_120 ?_) (fun g => absurd rfl g))
  · exact absurd ((tre i j l).mp t1) (P.no i j l)
  have A6 : AO σ0 τ6 n := fun r hr => by rw [f6 87 (by decide), f5 87 (by decide) (by decide), c4 87 (by decide), f3 87 (by decide) (by decide) (by decide), f6 88 (by decide), f5 88 (by decide) (by decide), c4 88 (by decide), f3 88 (by decide) (by decide) (by decide)]; exact A2 r hr
  have s80 : τ6 80 = σ0 80 := x80 τ6 80 F6 (by decide)
  have s81 : τ6 81 = σ0 81 := x80 τ6 81 F6 (by decide)
  have h1r := rc_ex 9 (show 1 ≤ rc σ0 9 by rw [Z.rcb 9 (Nat.le_refl 9)]; omega)
  have KP : ∀ τ : mm_S, τ 10 13 = τ6 10 13 → τ 10 15 = τ6 10 15 → τ 10 16 = τ6 10 16 → (∀ τ', MF σ τ' → (∀ j, j ≠ 12 → τ' 10 j = τ 10 j) → τ' 10 12 = 1 → MWV τ' 1 0 x y z (nI N) (nI f')) := fun τ a1 a2 a3 τ' _ h10 h12 => ⟨fun _ => by rw [h10 13 (by decide), a1, e10', e10]; exact d13, fun h => absurd h (by decide), fun h => absurd h (by decide), by rw [h10 15 (by decide), a2, e10']; exact d15', by rw [h10 16 (by decide), a3, e10', e10]; exact c16, by rw [h12]; rfl⟩
  have OX6 : OX τ6 n N (p 0) (wo B s' t') (bo4 N p) := P.ox n21 (by rw [x6 τ6 F6]; exact e6) l9 (by rw [e10']; exact d15') (fun k hk => by rw [f6 85 (by decide)]; exact (ol5 k hk).2) (by rw [x80 τ6 83 F6 (by decide)]; exact cv 0 (by decide)) (fun i hi => by rw [f6 92 (by decide), f6 93 (by decide)]; exact h92' i hi)
  refine c_123t OX6 (AO_AR Z N0 A6) (fun j hj k l hk hl h h' => mjn_u Z s80 s81 hk hl h h') (fun τ7 f7 R7 => kb_142_124 ?_)
  have F7 : MF σ τ7 := MF_t F6 ⟨fun c a b => f7 c (by omega) (by omega), fun j a => by rw [f7 10 (by decide) (by decide)]⟩
  have ex : ∃ (zz : Nat → Nat) (en : Nat → Nat → Nat), ∀ r, r < 9 → zz r ≤ 16 ∧ RZe τ7 r (zz r) (en r) ∧ RNr σ0 τ6 n N (p 0) (wo B s' t') (bo4 N p) r (zz r) (en r) := by
    have h : ∀ r, ∃ ze : Nat × (Nat → Nat), r < 9 → ze.1 ≤ 16 ∧ RZe τ7 r ze.1 ze.2 ∧ RNr σ0 τ6 n N (p 0) (wo B s' t') (bo4 N p) r ze.1 ze.2 := fun r => by
      by_cases hr : r < 9
      · obtain ⟨z, e, h⟩ := R7 r hr
        exact ⟨(z, e), fun _ => h⟩
      · exact ⟨(0, fun _ => 0), fun h => absurd h hr⟩
    exact ⟨fun r => (h r).choose.1, fun r => (h r).choose.2, fun r hr => (h r).choose_spec hr⟩
  obtain ⟨zz, en, hz⟩ := ex
  have X := P.rx Z A6 s80 s81 (zz := zz) (en := en) (fun r hr => (hz r hr).2.2)
  have dr0 : ∀ r, r < 9 → (¬ σ0 75 r = 0 ↔ m.testBit r = true) := fun r hr => (Z.rm r hr).1.symm.trans (Z.ck.dr r hr)
  refine lp_dn (P := fun i => ∀ τ : mm_S, MF σ τ → (∀ j, j ≠ 29 → τ 10 j = τ6 10 j) → τ 10 29 = 0 → (∀ c, c ≠ 10 → c ≠ 94 → τ c = τ7 c) → (∀ k, k < i → τ 94 k = -1) → mw (d + 5) mt_142 Q 131 [some (.ref 10), some (.int (nI i))] [] τ) 21 ?_ ?_ 0 (by omega) _ (MF_10 F7 (by decide)) (fun j hj => by rw [mm_up_o (by omega), f7 10 (by decide) (by decide)]) mm_up_s (fun c hc _ => mm_up_n hc) (fun k hk => absurd hk (Nat.not_lt_zero k))
  · intro τ F E E29 E7 E94
    refine kb_142_131 (fun _ => kb_142_150 ?_) (fun g => absurd (by decide) g)
    have e75 : τ 75 = σ0 75 := x80 τ 75 F (by decide)
    have drt : ∀ r, r < 9 → (¬ τ 75 r = 0 ↔ m.testBit r = true) := fun r hr => by rw [e75]; exact dr0 r hr
    refine c_131t (zz := zz) (ja := jA σ0) (en := en) n21 (by rw [x6 τ F]; exact e6) ?_ E29 (fun k hk => E94 k (by omega)) (fun r r9 hr => ⟨(hz r r9).1, by rw [E7 89 (by decide) (by decide)]; exact (hz r r9).2.1.1⟩) (fun r r9 hr i hi => ⟨by rw [E7 90 (by decide) (by decide)]; exact (hz r r9).2.1.2 i hi, ?_⟩) (fun k hk => ?_) (fun k hk => ?_) (fun τ8 f8 FB => kb_142_154 ?_)
    · obtain ⟨r, hr, dr⟩ := h1r
      exact ⟨r, hr, by rw [e75]; exact dr⟩
    · rcases X.2.2.1 r i ⟨r9, (drt r r9).mp hr⟩ hi with g | g
      · exact Or.inl g.1
      · exact Or.inr g
    · obtain ⟨a, b, ha, hb, _, _, _, ea, eb, e80, e81⟩ := jA_80 Z hk
      rw [ea]
      exact ⟨ha, by rw [x80 τ 80 F (by decide)]; exact e80⟩
    · have g := (X.2.2.2.2.1 k hk).1
      exact ⟨jA σ0 k, g.1, (drt _ g.1).mpr g.2, (X.2.2.2.2.2.2 k hk).1⟩
    obtain ⟨_, eD⟩ := ref_D X Y drt FB
    have F8 : MF σ τ8 := MF_t F ⟨fun c a b => f8.1 c a (by omega) (by omega) (by omega), fun j a => f8.2 j (by omega) (by omega)⟩
    have e91 : ∀ v, v < 13 → τ8 91 v = nI (K v) := fun v hv => by
      rw [f8.1 91 (by decide) (by decide) (by decide) (by decide), E7 91 (by decide) (by decide), f7 91 (by decide) (by decide), ← eK v hv]; exact hK' v hv
    obtain ⟨WD, HT, cE, cN⟩ := LSo_ea Ls
    refine c_138t (KE := K 10) (KN := K 9) (WD := WD) (HT := HT) (rm := rmx m) (ea := neS K 1) (no := neS K 0) (D := D) (ja := jA σ0) (jb := jB σ0) n21 (by rw [x6 τ8 F8]; exact e6) (fun k hk => ?_) (fun i h => h.1) (fun i hi => ?_) (fun i hi => ?_) (e91 10 (by decide)) (e91 9 (by decide)) (NBK.1 10 (by decide)) (NBK.1 9 (by decide)) (fun i => P.nes (s' := 1) (by decide)) (fun i => P.nes (s' := 0) (by decide)) bV cE cN Ls (fun τ9 f9 pv e32 e33 => kb_142_158 ?_)
    · obtain ⟨a, b, ha, hb, nab, _, _, ea, eb, e80, e81⟩ := jA_80 Z hk
      rw [ea, eb]
      exact ⟨ha, hb, nab, D4 k hk, eD k hk, by rw [x80 τ8 80 F8 (by decide)]; exact e80, by rw [x80 τ8 81 F8 (by decide)]; exact e81, by rw [x80 τ8 82 F8 (by decide), Z.ww k hk]; exact (WR.2 k hk).1⟩
    · rw [x80 τ8 75 F8 (by decide), dr0 i hi]
      exact ⟨fun h => ⟨hi, h⟩, fun h => h.2⟩
    · have w := (Z.wh i hi.1).2 ((dr0 i hi.1).mpr hi.2)
      rw [x80 τ8 78 F8 (by decide), x80 τ8 79 F8 (by decide), w.1, w.2]
      exact ⟨(WR.1 i hi).1, (WR.1 i hi).2.1⟩
    · have F9 : MF σ τ9 := MF_t F8 ⟨fun c a b => f9.1 c a (by omega) (by omega), fun j a => f9.2 j (by omega) (by omega) (by omega)⟩
      have E9 : ∀ j, (j = 13 ∨ j = 15 ∨ j = 16) → τ9 10 j = τ6 10 j := fun j hj => by rw [f9.2 j (by omega) (by omega) (by omega), f8.2 j (by omega) (by omega)]; exact E j (by omega)
      refine fin τ9 F9 (fun τ' F' h10 hc h12 => kb_142_163 (q τ' F' (KP τ9 (E9 13 (by omega)) (E9 15 (by omega)) (E9 16 (by omega)) τ' F' h10 h12) ⟨fun e he => ?_, fun i a hi ha => ?_, fun v hv => ?_, fun i hi => ?_, fun i hi => ?_⟩))
      · rw [hc 95 (by decide), f9.1 95 (by decide) (by decide) (by decide)]; exact eD e he
      · rw [hc 96 (by decide), hc 97 (by decide)]; exact pv i a hi ha
      · rw [hc 91 (by decide), f9.1 91 (by decide) (by decide) (by decide)]; exact e91 v hv
      · rw [h10 32 (by decide), e32 ⟨i, hi⟩, cE i hi]
      · rw [h10 33 (by decide), e33 ⟨i, hi⟩, cN i hi]
  · intro i hi ih τ F E E29 E7 E94
    refine kb_142_131 (fun g => absurd g (hI_nle (a := 21) (by omega) hi)) (fun _ => kb_142_137 (pk_in i 21 hi) ?_)
    rw [nI_1]
    refine ih _ (MF_t F ⟨fun c a b => mm_up_n (by omega), fun j a => by rw [mm_up_n (by decide)]⟩) (fun j hj => by rw [mm_up_n (by decide)]; exact E j hj) (by rw [mm_up_n (by decide)]; exact E29) (fun c h1 h2 => by rw [mm_up_n h2]; exact E7 c h1 h2) (fun k hk => ?_)
    rw [nI_clamp (by omega)]
    by_cases e : k = i
    · subst e; exact mm_up_s
    · rw [mm_up_o e]; exact E94 k (by omega)
end
section
/-! the invariant over both plans -/
def inr (x : Int32) (b : Nat) : Prop := ∃ k, k ≤ b ∧ x = nI k
theorem inr_c {x : Int32} {b : Nat} (hb : b < 1000) (h : inr x b) : x = nI x.toNatClampNeg ∧ x.toNatClampNeg ≤ b := by
  obtain ⟨k, hk, rfl⟩ := h
  rw [nI_clamp (by omega)]
  exact ⟨rfl, hk⟩
theorem inr_1 {x y z : Int32} {b : Nat} (hb : b < 1000) (e1 : y.toInt = 1) (e2 : z.toInt = b) (h1 : ¬ x < y) (h2 : ¬ z < x) : inr x b := by
  have a := Int32.le_iff_toInt_le.mp (Int32.not_lt.mp h1)
  have c := Int32.le_iff_toInt_le.mp (Int32.not_lt.mp h2)
  refine ⟨x.toInt.toNat, by omega, Int32.toInt_inj.mp ?_⟩
  rw [nI_toInt (by omega)]
  omega
theorem inr_50 {x : Int32} (h : mi x 1 50 = 1) : inr x 50 := inr_1 (by decide) (y := 1) (z := 50) rfl rfl (mi_50.mp h).1 (mi_50.mp h).2
theorem inr_20 {x : Int32} (h : mi x 1 20 = 1) : inr x 20 := inr_1 (by decide) (y := 1) (z := 20) rfl rfl (mi_20.mp h).1 (Int32.not_lt.mpr (mi_20.mp h).2)
def WRs (σ : mm_S) : Prop := (∀ i, i < 9 → inr (σ 13 i) 50 ∧ inr (σ 14 i) 50) ∧ ∀ e, e < 21 → inr (σ 18 e) 20
theorem WRs.g {σ : mm_S} {n m : Nat} (W : WRs σ) (hn : n ≤ 21) : WRg σ n m :=
  ⟨fun i hi => ⟨(inr_c (by decide) (W.1 i hi.1).1).1, (inr_c (by decide) (W.1 i hi.1).2).1, (inr_c (by decide) (W.1 i hi.1).1).2, (inr_c (by decide) (W.1 i hi.1).2).2⟩, fun e he => inr_c (by decide) (W.2 e (by omega))⟩
theorem WRs_cg {σ τ : mm_S} (h13 : τ 13 = σ 13) (h14 : τ 14 = σ 14) (h18 : τ 18 = σ 18) (W : WRs σ) : WRs τ := by
  unfold WRs; rw [h13, h14, h18]; exact W
theorem WRs_u {σ : mm_S} {c j : Nat} {x : Int32} (h1 : c = 13 ∨ c = 14 → inr x 50) (h2 : c = 18 → inr x 20) (W : WRs σ) : WRs (mm_up σ c j x) := by
  have key : ∀ (k i b : Nat), (c = k → inr x b) → inr (σ k i) b → inr ((mm_up σ c j x) k i) b := fun k i b a q => by
    by_cases e : k = c
    · subst e
      rw [up_v]
      split
      · exact a rfl
      · exact q
    · rw [mm_up_n e]; exact q
  exact ⟨fun i hi => ⟨key 13 i 50 (fun e => h1 (Or.inl e)) (W.1 i hi).1, key 14 i 50 (fun e => h1 (Or.inr e)) (W.1 i hi).2⟩, fun e he => key 18 e 20 h2 (W.2 e he)⟩
theorem WRs_n {σ : mm_S} {c j : Nat} {x : Int32} (h : c ≠ 13 ∧ c ≠ 14 ∧ c ≠ 18) (W : WRs σ) : WRs (mm_up σ c j x) := WRs_u (fun e => by omega) (fun e => by omega) W
/-- a plan, as both sides hold it -/
def PXd (σ : mm_S) (n m : Nat) (B : Nat → Nat → Nat) (s t L f : Nat) (Mk : Nat → Nat) (lab : Nat × Nat → Int32) (p K D V : Nat → Nat) : Prop := (PLD σ n m B s t L f Mk lab p K) ∧ (∀ e, e < n → σ 45 e = nI (D e) ∧ D e < 4) ∧ (∀ x, V x ≤ 4050) ∧ (PLF (rmx m) K V σ) ∧ (∀ v, v < 13 → σ 44 v = nI (K v)) ∧ (RPL n K D V σ)
theorem PXd.pl {σ : mm_S} {n m : Nat} {B : Nat → Nat → Nat} {s t L f : Nat} {Mk : Nat → Nat} {lab : Nat × Nat → Int32} {p K D V : Nat → Nat} (h : PXd σ n m B s t L f Mk lab p K D V) : PLD σ n m B s t L f Mk lab p K := h.1
theorem PXd.dd {σ : mm_S} {n m : Nat} {B : Nat → Nat → Nat} {s t L f : Nat} {Mk : Nat → Nat} {lab : Nat × Nat → Int32} {p K D V : Nat → Nat} (h : PXd σ n m B s t L f Mk lab p K D V) : ∀ e, e < n → σ 45 e = nI (D e) ∧ D e < 4 := h.2.1
theorem PXd.v4 {σ : mm_S} {n m : Nat} {B : Nat → Nat → Nat} {s t L f : Nat} {Mk : Nat → Nat} {lab : Nat × Nat → Int32} {p K D V : Nat → Nat} (h : PXd σ n m B s t L f Mk lab p K D V) : ∀ x, V x ≤ 4050 := h.2.2.1
theorem PXd.pf {σ : mm_S} {n m : Nat} {B : Nat → Nat → Nat} {s t L f : Nat} {Mk : Nat → Nat} {lab : Nat × Nat → Int32} {p K D V : Nat → Nat} (h : PXd σ n m B s t L f Mk lab p K D V) : PLF (rmx m) K V σ := h.2.2.2.1
theorem PXd.kk {σ : mm_S} {n m : Nat} {B : Nat → Nat → Nat} {s t L f : Nat} {Mk : Nat → Nat} {lab : Nat × Nat → Int32} {p K D V : Nat → Nat} (h : PXd σ n m B s t L f Mk lab p K D V) : ∀ v, v < 13 → σ 44 v = nI (K v) := h.2.2.2.2.1
theorem PXd.rp {σ : mm_S} {n m : Nat} {B : Nat → Nat → Nat} {s t L f : Nat} {Mk : Nat → Nat} {lab : Nat × Nat → Int32} {p K D V : Nat → Nat} (h : PXd σ n m B s t L f Mk lab p K D V) : RPL n K D V σ := h.2.2.2.2.2
def PX (σ : mm_S) (n m : Nat) : Prop := ∃ B s t L f Mk lab p K D V, PXd σ n m B s t L f Mk lab p K D V
theorem PX_cg {σ τ : mm_S} {n m : Nat} (h : ∀ c, (c = 1 ∨ (11 ≤ c ∧ c ≤ 17) ∨ c = 44 ∨ c = 45 ∨ (63 ≤ c ∧ c ≤ 72) ∨ c = 91 ∨ c = 95 ∨ c = 96 ∨ c = 97) → τ c = σ c) (h32 : τ 10 32 = σ 10 32) (h33 : τ 10 33 = σ 10 33) (X : PX σ n m) : PX τ n m := by
  obtain ⟨B, s, t, L, f, Mk, lab, p, K, D, V, P, dd, v4, ⟨f1, f2, f3⟩, kk, r1, r2, r3, r4, r5⟩ := X
  refine ⟨B, s, t, L, f, Mk, lab, p, K, D, V, PLD_cg (h 1 (by omega)) (h 11 (by omega)) (h 12 (by omega)) (h 15 (by omega)) (h 16 (by omega)) (h 17 (by omega)) P, ?_, v4, ⟨fun i p hi hp => ?_, ?_, ?_⟩, ?_, ?_, fun i a hi ha => ?_, ?_, ?_, ?_⟩
  · rw [h 45 (by omega)]; exact dd
  · rw [h (62 + 1 + i) (by omega)]; exact f1 i p hi hp
  · rw [h 72 (by omega)]; exact f2
  · rw [h 72 (by omega)]; exact f3
  · rw [h 44 (by omega)]; exact kk
  · rw [h 95 (by omega)]; exact r1
  · rw [h 96 (by omega), h 97 (by omega)]; exact r2 i a hi ha
  · rw [h 91 (by omega)]; exact r3
  · rw [h32]; exact r4
  · rw [h33]; exact r5
def XI (σ : mm_S) (n m : Nat) : Prop := YI σ n m ∧ WRs σ ∧ (σ 0 3 = 1 → PX σ n m)
theorem XI_0p {τ : mm_S} {n m : Nat} (Y : YI τ n m) (W : WRs τ) (h : τ 0 3 = 0) : XI τ n m := ⟨Y, W, fun e => absurd (h.symm.trans e) (by decide)⟩
theorem XI_10 {σ : mm_S} {n m : Nat} {x : Int32} (X : XI σ n m) : XI (mm_up σ 10 0 x) n m :=
  ⟨YI_10 rfl X.1, WRs_n (by decide) X.2.1, fun h => PX_cg (fun c hc => mm_up_n (by omega)) (mm_up_o (by decide)) (mm_up_o (by decide)) (X.2.2 (by rw [mm_up_n (by decide)] at h; exact h))⟩
theorem XI_rdr {σ : mm_S} {n m : Nat} {r x y : Int32} (X : XI σ n m) (ok : mok r x y) (h0 : xd σ r = 0) (nt : ∀ j, j < 9 → ¬ xtk σ x y j) : ∃ m', XI (rdr σ r x y) n m' := by
  obtain ⟨m', Y⟩ := YI_rdr X.1 ok h0 nt
  have W := X.2.1
  refine ⟨m', XI_0p Y ?_ ?_⟩
  · unfold rdr xdr
    repeat' (first | exact W | refine WRs_n (by decide) ?_ | refine WRs_u (fun _ => ⟨1, by decide, rfl⟩) (fun _ => ⟨1, by decide, rfl⟩) ?_)
  · unfold rdr
    rw [mm_up_n (by decide), mm_up_n (by decide), mm_up_n (by decide), mm_up_n (by decide), mm_up_n (by decide)]
    exact mm_up_s
theorem XI_ldr {σ : mm_S} {n m : Nat} {r w h : Int32} (X : XI σ n m) (hd : xd σ r = 1 ∧ mi w 1 50 = 1 ∧ mi h 1 50 = 1) : XI (ldr σ r w h) n m := by
  have W := X.2.1
  have i1 := inr_50 hd.2.1
  have i2 := inr_50 hd.2.2
  refine XI_0p (YI_ldr X.1 hd.1) ?_ ?_
  · unfold ldr
    refine WRs_n (by decide) (WRs_n (by decide) (WRs_n (by decide) (WRs_n (by decide) (WRs_n (by decide) (WRs_u (fun _ => i2) (fun e => absurd e (by decide)) (WRs_u (fun _ => i1) (fun e => absurd e (by decide)) W))))))
  · unfold ldr
    rw [mm_up_n (by decide), mm_up_n (by decide), mm_up_n (by decide), mm_up_n (by decide)]
    exact mm_up_s
theorem XI_wdr {σ : mm_S} {n m : Nat} {j w : Int32} (X : XI σ n m) (hw : mi w 1 20 = 1) : XI (wdr σ j w) n m := by
  have i1 := inr_20 hw
  refine XI_0p (YI_wdr X.1) ?_ ?_
  · unfold wdr
    exact WRs_n (by decide) (WRs_n (by decide) (WRs_n (by decide) (WRs_n (by decide) (WRs_u (fun e => by omega) (fun _ => i1) X.2.1))))
  · unfold wdr
    rw [mm_up_n (by decide), mm_up_n (by decide), mm_up_n (by decide)]
    exact mm_up_s
theorem XI_cdr {σ : mm_S} {n m : Nat} {a b c e : Int32} (X : XI σ n m) (hx : xall σ a b c e) : XI (cdr σ a b c e) n m := by
  have W := X.2.1
  refine XI_0p (YI_cdr X.1 hx) ?_ ?_
  · unfold cdr
    repeat' (first | exact W | refine WRs_n (by decide) ?_)
  · unfold cdr
    rw [mm_up_n (by decide), mm_up_n (by decide), mm_up_n (by decide), mm_up_n (by decide), mm_up_n (by decide), mm_up_n (by decide), mm_up_n (by decide)]
    exact mm_up_s
theorem XI_join {σ : mm_S} {n m : Nat} {a b : Int32} (X : XI σ n m) (hab : ¬ a = b) (da : xd σ a = 1) (db : xd σ b = 1) (h0 : hs (σ 15 a.toNatClampNeg) b = 0) (hn : n < 21) : XI (mjd (cjd σ a b n) a b n) (n + 1) m := by
  have W := X.2.1
  refine XI_0p (YI_join X.1 hab da db h0 hn) ?_ ?_
  · unfold mjd cjd
    repeat' (first | exact W | refine WRs_n (by decide) ?_ | refine WRs_u (fun _ => ⟨1, by decide, rfl⟩) (fun _ => ⟨1, by decide, rfl⟩) ?_)
  · unfold mjd cjd
    rw [mm_up_n (by decide), mm_up_n (by decide), mm_up_n (by decide), mm_up_n (by decide), mm_up_n (by decide), mm_up_n (by decide)]
    exact mm_up_s
theorem XI_clr {σ τ : mm_S} {n m : Nat} (X : XI σ n m) (K : clr (mm_up (mm_up (mm_up (mm_up (mm_up σ 1 10 (0 : Int32)) 1 11 (0 : Int32)) 1 12 (0 : Int32)) 1 9 (0 : Int32)) 0 3 (0 : Int32)) τ) : XI τ 0 0 := by
  have up : ∀ c, c ≠ 0 → c ≠ 1 → c ≠ 10 → c ≠ 75 → c ≠ 78 → c ≠ 79 → τ c = σ c := fun c _ _ _ _ _ _ => by
    rw [K.1 c (by omega) (by omega) (by omega) (by omega), mm_up_n (by omega), mm_up_n (by omega), mm_up_n (by omega), mm_up_n (by omega), mm_up_n (by omega)]
  refine XI_0p (YI_clr X.1 K) (WRs_cg (up 13 (by decide) (by decide) (by decide) (by decide) (by decide) (by decide)) (up 14 (by decide) (by decide) (by decide) (by decide) (by decide) (by decide)) (up 18 (by decide) (by decide) (by decide) (by decide) (by decide) (by decide)) X.2.1) ?_
  rw [K.1 0 (by decide) (by decide) (by decide) (by decide)]
  exact mm_up_s
theorem x_148 {d n m a b w : Nat} {Q : mm_Q} {σ τ : mm_S} (X : XI σ n m) (d1 : xd σ (nI a) = 1) (d2 : xd σ (nI b) = 1) (ha : a < 9) (hb : b < 9) (f1 : ∀ c, c ≠ 9 → c ≠ 73 → c ≠ 74 → τ c = σ c) (w9 : w ≤ 9) (e1 : τ 9 1 = nI w) (W : WP (Gj σ n) b a w (τ 73))
    (q : ∀ ρ, XI ρ n m → ρ 10 0 = 0 → Q (some (.int (nI w))) ρ) : mD (d + 3) 148 [.ref 10, .int (nI a), .int (nI b)] τ Q := by
  have Y := X.1
  have Z := Y.1
  have k1 : ¬ mdr τ (nI a) = 0 := by rw [mdr_75 (f1 75 (by decide) (by decide) (by decide)), (Rm_dr Z.rm).mp d1]; decide
  have k2 : ¬ mdr τ (nI b) = 0 := by rw [mdr_75 (f1 75 (by decide) (by decide) (by decide)), (Rm_dr Z.rm).mp d2]; decide
  have e10 : τ 10 = σ 10 := f1 10 (by decide) (by decide) (by decide)
  refine c_148 (n := n) (MK_cg (by rw [e10]) (by rw [e10]) (f1 75 (by decide) (by decide) (by decide)) (f1 80 (by decide) (by decide) (by decide)) (f1 81 (by decide) (by decide) (by decide)) (f1 83 (by decide) (by decide) (by decide)) Z.mk) (fun h => absurd h (fun z => z.elim k1 k2)) (fun a' b' ha' hb' ea eb _ _ ρ w' F w9' e2 W' => ?_)
  have := nI9 ha ha' ea
  subst this
  have := nI9 hb hb' eb
  subst this
  rw [Gm_eq Z (f1 80 (by decide) (by decide) (by decide)) (f1 81 (by decide) (by decide) (by decide))] at W'
  obtain ⟨ew, ef⟩ := WP_u W W'
  subst ew
  have up : ∀ c, c ≠ 10 → c ≠ 9 → c ≠ 73 → c ≠ 74 → c ≠ 98 → c ≠ 106 → ρ c = σ c := fun c _ _ _ _ _ _ => by
    rw [F.1 c (by omega) (by omega) (by omega)]; exact f1 c (by omega) (by omega) (by omega)
  have ten : ∀ j, j ≠ 0 → j ≠ 34 → ρ 10 j = σ 10 j := fun j a b => by rw [F.2.1 j a b, e10]
  have e03 : ρ 0 = σ 0 := up 0 (by decide) (by decide) (by decide) (by decide) (by decide) (by decide)
  refine q ρ ⟨YI_cg (ZI_way Z f1 F w9 e1 e2 (fun i hi => (ef i hi).symm)) Y (up 2 (by decide) (by decide) (by decide) (by decide) (by decide) (by decide)) (up 3 (by decide) (by decide) (by decide) (by decide) (by decide) (by decide)) (up 20 (by decide) (by decide) (by decide) (by decide) (by decide) (by decide)) (up 84 (by decide) (by decide) (by decide) (by decide) (by decide) (by decide)) (ten 13 (by decide) (by decide)) (ten 15 (by decide) (by decide)) (ten 16 (by decide) (by decide)) ?_, WRs_cg (up 13 (by decide) (by decide) (by decide) (by decide) (by decide) (by decide)) (up 14 (by decide) (by decide) (by decide) (by decide) (by decide) (by decide)) (up 18 (by decide) (by decide) (by decide) (by decide) (by decide) (by decide)) X.2.1, fun h => PX_cg (fun c hc => up c (by omega) (by omega) (by omega) (by omega) (by omega) (by omega)) (ten 32 (by decide) (by decide)) (ten 33 (by decide) (by decide)) (X.2.2 (by rw [e03] at h; exact h))⟩ F.2.2
  unfold SP
  rw [e03, ten 12 (by decide) (by decide)]
  exact Y.2.2.2
/-- plan of the reference behind plan of the class -/
theorem pl_ref {d n m : Nat} {Q : mm_Q} {σ τ : mm_S} {a k x y z oc fc : Int32} (X : XI σ n m) (F : jfr σ τ) (B : BG τ) (D : DG τ) (W : WN τ) (J : JV σ n m a k x y z oc fc) (V : WV τ k x y z oc fc) (P : a = 1 → XPL σ n m τ k oc fc) (q : ∀ ρ, XI ρ n m → Q (some (.int a)) ρ) : mD (d + 6) 142 [.ref 10] (mm_up τ 0 3 (if a = 1 then 1 else 0)) Q := by
  have Z1 : ZI (mm_up τ 0 3 (if a = 1 then 1 else 0)) n m := ZI_0 (ZI_jfr F B D W X.1.1)
  have up : ∀ c, c ≠ 0 → (c = 1 ∨ c = 10 ∨ (11 ≤ c ∧ c ≤ 19) ∨ 73 ≤ c) → (mm_up τ 0 3 (if a = 1 then 1 else 0)) c = σ c := fun c h h' => by rw [mm_up_n h]; exact F c (by omega)
  have J1 : JV (mm_up τ 0 3 (if a = 1 then 1 else 0)) n m a k x y z oc fc := JV_cg (up 1 (by decide) (by omega)) (up 11 (by decide) (by omega)) (up 12 (by decide) (by omega)) (up 15 (by decide) (by omega)) (up 16 (by decide) (by omega)) (up 17 (by decide) (by omega)) (up 83 (by decide) (by omega)) (by rw [up 10 (by decide) (by omega)]) J
  have W1 : WRs (mm_up τ 0 3 (if a = 1 then 1 else 0)) := WRs_cg (up 13 (by decide) (by omega)) (up 14 (by decide) (by omega)) (up 18 (by decide) (by omega)) X.2.1
  have kW : ∀ ρ, MF (mm_up τ 0 3 (if a = 1 then 1 else 0)) ρ → WRs ρ := fun ρ F' => WRs_cg (F'.1 13 (by decide) (by decide)) (F'.1 14 (by decide) (by decide)) (F'.1 18 (by decide) (by decide)) W1
  by_cases e : a = 1
  · obtain ⟨B', s, t, L, f, Mk, lab, p, K, D', V', PL, cv, Y, dd, ls, bV, pf, kk, e1, e2, e3⟩ := XPL_cg (up 1 (by decide) (by omega)) (up 11 (by decide) (by omega)) (up 12 (by decide) (by omega)) (up 13 (by decide) (by omega)) (up 14 (by decide) (by omega)) (up 15 (by decide) (by omega)) (up 16 (by decide) (by omega)) (up 17 (by decide) (by omega)) (up 18 (by decide) (by omega)) (up 83 (by decide) (by omega)) (P e)
    subst e e1 e2 e3
    refine c_142t (x := x) (y := y) (z := z) Z1 (W1.g Z1.ck.jn.1) (JV_10 J1) PL cv Y (fun e he => (dd e he).2) ls bV (fun ρ F' V'' R => q ρ ⟨YI_plan X.1.1 F B D W V F' V'', kW ρ F', fun _ => ?_⟩)
    have cl : ∀ c, c ≠ 10 → c ≠ 0 → c < 84 → ρ c = τ c := fun c h1 h2 h3 => by rw [F'.1 c h1 (by omega), mm_up_n h2]
    refine ⟨B', s, t, L, f, Mk, lab, p, K, D', V', PLD_cg (F'.1 1 (by decide) (by decide)) (F'.1 11 (by decide) (by decide)) (F'.1 12 (by decide) (by decide)) (F'.1 15 (by decide) (by decide)) (F'.1 16 (by decide) (by decide)) (F'.1 17 (by decide) (by decide)) PL, fun e he => ?_, bV, ⟨fun i p hi hp => ?_, fun i hi => ?_, fun i hi => ?_⟩, fun v hv => ?_, R⟩
    · rw [cl 45 (by decide) (by decide) (by decide)]; exact dd e he
    · rw [cl (62 + 1 + i) (by omega) (by omega) (by omega)]; exact pf.1 i p hi hp
    · rw [cl 72 (by decide) (by decide) (by decide)]; exact pf.2.1 i hi
    · rw [cl 72 (by decide) (by decide) (by decide)]; exact pf.2.2 i hi
    · rw [cl 44 (by decide) (by decide) (by decide)]; exact kk v hv
  · refine c_142s Z1 J1 (fun ρ F' V' => q ρ ⟨YI_plan X.1.1 F B D W V F' V', kW ρ F', fun h => ?_⟩)
    rw [F'.1 0 (by decide) (by decide), mm_up_s, if_neg e] at h
    exact absurd h (by decide)
end
