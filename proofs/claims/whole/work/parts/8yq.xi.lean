/-! the invariant over both plans -/
def inr (x : Int32) (b : Nat) : Prop := ∃ k, k ≤ b ∧ x = nI k
theorem inr_c {x : Int32} {b : Nat} (hb : b < 1000) (h : inr x b) : x = nI x.toNatClampNeg ∧ x.toNatClampNeg ≤ b := by
  obtain ⟨k, hk, rfl⟩ := h
  rw [nI_clamp (by omega)]
  exact ⟨rfl, hk⟩
theorem inr_1 {x y z : Int32} {b : Nat} (hb : b < 1000) (e1 : y.toInt = 1) (e2 : z.toInt = b) (h1 : ¬ x < y) (h2 : ¬ z < x) : inr x b := by
  have a := Int32.le_iff_toInt_le.mp (Int32.not_lt.mp h1)
  have c := Int32.le_iff_toInt_le.mp (Int32.not_lt.mp h2)
  refine ⟨x.toInt.toNat, by omega, Int32.toInt_inj.mp ?_⟩
  rw [nI_toInt (by omega)]
  omega
theorem inr_50 {x : Int32} (h : mi x 1 50 = 1) : inr x 50 := inr_1 (by decide) (y := 1) (z := 50) rfl rfl (mi_50.mp h).1 (mi_50.mp h).2
theorem inr_20 {x : Int32} (h : mi x 1 20 = 1) : inr x 20 := inr_1 (by decide) (y := 1) (z := 20) rfl rfl (mi_20.mp h).1 (Int32.not_lt.mpr (mi_20.mp h).2)
def WRs (σ : mm_S) : Prop := (∀ i, i < 9 → inr (σ 13 i) 50 ∧ inr (σ 14 i) 50) ∧ ∀ e, e < 21 → inr (σ 18 e) 20
theorem WRs.g {σ : mm_S} {n m : Nat} (W : WRs σ) (hn : n ≤ 21) : WRg σ n m :=
  ⟨fun i hi => ⟨(inr_c (by decide) (W.1 i hi.1).1).1, (inr_c (by decide) (W.1 i hi.1).2).1, (inr_c (by decide) (W.1 i hi.1).1).2, (inr_c (by decide) (W.1 i hi.1).2).2⟩, fun e he => inr_c (by decide) (W.2 e (by omega))⟩
theorem WRs_cg {σ τ : mm_S} (h13 : τ 13 = σ 13) (h14 : τ 14 = σ 14) (h18 : τ 18 = σ 18) (W : WRs σ) : WRs τ := by
  unfold WRs; rw [h13, h14, h18]; exact W
theorem WRs_u {σ : mm_S} {c j : Nat} {x : Int32} (h1 : c = 13 ∨ c = 14 → inr x 50) (h2 : c = 18 → inr x 20) (W : WRs σ) : WRs (mm_up σ c j x) := by
  have key : ∀ (k i b : Nat), (c = k → inr x b) → inr (σ k i) b → inr ((mm_up σ c j x) k i) b := fun k i b a q => by
    by_cases e : k = c
    · subst e
      rw [up_v]
      split
      · exact a rfl
      · exact q
    · rw [mm_up_n e]; exact q
  exact ⟨fun i hi => ⟨key 13 i 50 (fun e => h1 (Or.inl e)) (W.1 i hi).1, key 14 i 50 (fun e => h1 (Or.inr e)) (W.1 i hi).2⟩, fun e he => key 18 e 20 h2 (W.2 e he)⟩
theorem WRs_n {σ : mm_S} {c j : Nat} {x : Int32} (h : c ≠ 13 ∧ c ≠ 14 ∧ c ≠ 18) (W : WRs σ) : WRs (mm_up σ c j x) := WRs_u (fun e => by omega) (fun e => by omega) W
/-- a plan, as both sides hold it -/
def PXd (σ : mm_S) (n m : Nat) (B : Nat → Nat → Nat) (s t L f : Nat) (Mk : Nat → Nat) (lab : Nat × Nat → Int32) (p K D V : Nat → Nat) : Prop := (PLD σ n m B s t L f Mk lab p K) ∧ (∀ e, e < n → σ 45 e = nI (D e) ∧ D e < 4) ∧ (∀ x, V x ≤ 4050) ∧ (PLF (rmx m) K V σ) ∧ (∀ v, v < 13 → σ 44 v = nI (K v)) ∧ (RPL n K D V σ)
theorem PXd.pl {σ : mm_S} {n m : Nat} {B : Nat → Nat → Nat} {s t L f : Nat} {Mk : Nat → Nat} {lab : Nat × Nat → Int32} {p K D V : Nat → Nat} (h : PXd σ n m B s t L f Mk lab p K D V) : PLD σ n m B s t L f Mk lab p K := h.1
theorem PXd.dd {σ : mm_S} {n m : Nat} {B : Nat → Nat → Nat} {s t L f : Nat} {Mk : Nat → Nat} {lab : Nat × Nat → Int32} {p K D V : Nat → Nat} (h : PXd σ n m B s t L f Mk lab p K D V) : ∀ e, e < n → σ 45 e = nI (D e) ∧ D e < 4 := h.2.1
theorem PXd.v4 {σ : mm_S} {n m : Nat} {B : Nat → Nat → Nat} {s t L f : Nat} {Mk : Nat → Nat} {lab : Nat × Nat → Int32} {p K D V : Nat → Nat} (h : PXd σ n m B s t L f Mk lab p K D V) : ∀ x, V x ≤ 4050 := h.2.2.1
theorem PXd.pf {σ : mm_S} {n m : Nat} {B : Nat → Nat → Nat} {s t L f : Nat} {Mk : Nat → Nat} {lab : Nat × Nat → Int32} {p K D V : Nat → Nat} (h : PXd σ n m B s t L f Mk lab p K D V) : PLF (rmx m) K V σ := h.2.2.2.1
theorem PXd.kk {σ : mm_S} {n m : Nat} {B : Nat → Nat → Nat} {s t L f : Nat} {Mk : Nat → Nat} {lab : Nat × Nat → Int32} {p K D V : Nat → Nat} (h : PXd σ n m B s t L f Mk lab p K D V) : ∀ v, v < 13 → σ 44 v = nI (K v) := h.2.2.2.2.1
theorem PXd.rp {σ : mm_S} {n m : Nat} {B : Nat → Nat → Nat} {s t L f : Nat} {Mk : Nat → Nat} {lab : Nat × Nat → Int32} {p K D V : Nat → Nat} (h : PXd σ n m B s t L f Mk lab p K D V) : RPL n K D V σ := h.2.2.2.2.2
def PX (σ : mm_S) (n m : Nat) : Prop := ∃ B s t L f Mk lab p K D V, PXd σ n m B s t L f Mk lab p K D V
theorem PX_cg {σ τ : mm_S} {n m : Nat} (h : ∀ c, (c = 1 ∨ (11 ≤ c ∧ c ≤ 17) ∨ c = 44 ∨ c = 45 ∨ (63 ≤ c ∧ c ≤ 72) ∨ c = 91 ∨ c = 95 ∨ c = 96 ∨ c = 97) → τ c = σ c) (h32 : τ 10 32 = σ 10 32) (h33 : τ 10 33 = σ 10 33) (X : PX σ n m) : PX τ n m := by
  obtain ⟨B, s, t, L, f, Mk, lab, p, K, D, V, P, dd, v4, ⟨f1, f2, f3⟩, kk, r1, r2, r3, r4, r5⟩ := X
  refine ⟨B, s, t, L, f, Mk, lab, p, K, D, V, PLD_cg (h 1 (by omega)) (h 11 (by omega)) (h 12 (by omega)) (h 15 (by omega)) (h 16 (by omega)) (h 17 (by omega)) P, ?_, v4, ⟨fun i p hi hp => ?_, ?_, ?_⟩, ?_, ?_, fun i a hi ha => ?_, ?_, ?_, ?_⟩
  · rw [h 45 (by omega)]; exact dd
  · rw [h (62 + 1 + i) (by omega)]; exact f1 i p hi hp
  · rw [h 72 (by omega)]; exact f2
  · rw [h 72 (by omega)]; exact f3
  · rw [h 44 (by omega)]; exact kk
  · rw [h 95 (by omega)]; exact r1
  · rw [h 96 (by omega), h 97 (by omega)]; exact r2 i a hi ha
  · rw [h 91 (by omega)]; exact r3
  · rw [h32]; exact r4
  · rw [h33]; exact r5
def XI (σ : mm_S) (n m : Nat) : Prop := YI σ n m ∧ WRs σ ∧ (σ 0 3 = 1 → PX σ n m)
theorem XI_0p {τ : mm_S} {n m : Nat} (Y : YI τ n m) (W : WRs τ) (h : τ 0 3 = 0) : XI τ n m := ⟨Y, W, fun e => absurd (h.symm.trans e) (by decide)⟩
theorem XI_10 {σ : mm_S} {n m : Nat} {x : Int32} (X : XI σ n m) : XI (mm_up σ 10 0 x) n m :=
  ⟨YI_10 rfl X.1, WRs_n (by decide) X.2.1, fun h => PX_cg (fun c hc => mm_up_n (by omega)) (mm_up_o (by decide)) (mm_up_o (by decide)) (X.2.2 (by rw [mm_up_n (by decide)] at h; exact h))⟩
theorem XI_rdr {σ : mm_S} {n m : Nat} {r x y : Int32} (X : XI σ n m) (ok : mok r x y) (h0 : xd σ r = 0) (nt : ∀ j, j < 9 → ¬ xtk σ x y j) : ∃ m', XI (rdr σ r x y) n m' := by
  obtain ⟨m', Y⟩ := YI_rdr X.1 ok h0 nt
  have W := X.2.1
  refine ⟨m', XI_0p Y ?_ ?_⟩
  · unfold rdr xdr
    repeat' (first | exact W | refine WRs_n (by decide) ?_ | refine WRs_u (fun _ => ⟨1, by decide, rfl⟩) (fun _ => ⟨1, by decide, rfl⟩) ?_)
  · unfold rdr
    rw [mm_up_n (by decide), mm_up_n (by decide), mm_up_n (by decide), mm_up_n (by decide), mm_up_n (by decide)]
    exact mm_up_s
theorem XI_ldr {σ : mm_S} {n m : Nat} {r w h : Int32} (X : XI σ n m) (hd : xd σ r = 1 ∧ mi w 1 50 = 1 ∧ mi h 1 50 = 1) : XI (ldr σ r w h) n m := by
  have W := X.2.1
  have i1 := inr_50 hd.2.1
  have i2 := inr_50 hd.2.2
  refine XI_0p (YI_ldr X.1 hd.1) ?_ ?_
  · unfold ldr
    refine WRs_n (by decide) (WRs_n (by decide) (WRs_n (by decide) (WRs_n (by decide) (WRs_n (by decide) (WRs_u (fun _ => i2) (fun e => absurd e (by decide)) (WRs_u (fun _ => i1) (fun e => absurd e (by decide)) W))))))
  · unfold ldr
    rw [mm_up_n (by decide), mm_up_n (by decide), mm_up_n (by decide), mm_up_n (by decide)]
    exact mm_up_s
theorem XI_wdr {σ : mm_S} {n m : Nat} {j w : Int32} (X : XI σ n m) (hw : mi w 1 20 = 1) : XI (wdr σ j w) n m := by
  have i1 := inr_20 hw
  refine XI_0p (YI_wdr X.1) ?_ ?_
  · unfold wdr
    exact WRs_n (by decide) (WRs_n (by decide) (WRs_n (by decide) (WRs_n (by decide) (WRs_u (fun e => by omega) (fun _ => i1) X.2.1))))
  · unfold wdr
    rw [mm_up_n (by decide), mm_up_n (by decide), mm_up_n (by decide)]
    exact mm_up_s
theorem XI_cdr {σ : mm_S} {n m : Nat} {a b c e : Int32} (X : XI σ n m) (hx : xall σ a b c e) : XI (cdr σ a b c e) n m := by
  have W := X.2.1
  refine XI_0p (YI_cdr X.1 hx) ?_ ?_
  · unfold cdr
    repeat' (first | exact W | refine WRs_n (by decide) ?_)
  · unfold cdr
    rw [mm_up_n (by decide), mm_up_n (by decide), mm_up_n (by decide), mm_up_n (by decide), mm_up_n (by decide), mm_up_n (by decide), mm_up_n (by decide)]
    exact mm_up_s
theorem XI_join {σ : mm_S} {n m : Nat} {a b : Int32} (X : XI σ n m) (hab : ¬ a = b) (da : xd σ a = 1) (db : xd σ b = 1) (h0 : hs (σ 15 a.toNatClampNeg) b = 0) (hn : n < 21) : XI (mjd (cjd σ a b n) a b n) (n + 1) m := by
  have W := X.2.1
  refine XI_0p (YI_join X.1 hab da db h0 hn) ?_ ?_
  · unfold mjd cjd
    repeat' (first | exact W | refine WRs_n (by decide) ?_ | refine WRs_u (fun _ => ⟨1, by decide, rfl⟩) (fun _ => ⟨1, by decide, rfl⟩) ?_)
  · unfold mjd cjd
    rw [mm_up_n (by decide), mm_up_n (by decide), mm_up_n (by decide), mm_up_n (by decide), mm_up_n (by decide), mm_up_n (by decide)]
    exact mm_up_s
theorem XI_clr {σ τ : mm_S} {n m : Nat} (X : XI σ n m) (K : clr (mm_up (mm_up (mm_up (mm_up (mm_up σ 1 10 (0 : Int32)) 1 11 (0 : Int32)) 1 12 (0 : Int32)) 1 9 (0 : Int32)) 0 3 (0 : Int32)) τ) : XI τ 0 0 := by
  have up : ∀ c, c ≠ 0 → c ≠ 1 → c ≠ 10 → c ≠ 75 → c ≠ 78 → c ≠ 79 → τ c = σ c := fun c _ _ _ _ _ _ => by
    rw [K.1 c (by omega) (by omega) (by omega) (by omega), mm_up_n (by omega), mm_up_n (by omega), mm_up_n (by omega), mm_up_n (by omega), mm_up_n (by omega)]
  refine XI_0p (YI_clr X.1 K) (WRs_cg (up 13 (by decide) (by decide) (by decide) (by decide) (by decide) (by decide)) (up 14 (by decide) (by decide) (by decide) (by decide) (by decide) (by decide)) (up 18 (by decide) (by decide) (by decide) (by decide) (by decide) (by decide)) X.2.1) ?_
  rw [K.1 0 (by decide) (by decide) (by decide) (by decide)]
  exact mm_up_s
theorem x_148 {d n m a b w : Nat} {Q : mm_Q} {σ τ : mm_S} (X : XI σ n m) (d1 : xd σ (nI a) = 1) (d2 : xd σ (nI b) = 1) (ha : a < 9) (hb : b < 9) (f1 : ∀ c, c ≠ 9 → c ≠ 73 → c ≠ 74 → τ c = σ c) (w9 : w ≤ 9) (e1 : τ 9 1 = nI w) (W : WP (Gj σ n) b a w (τ 73))
    (q : ∀ ρ, XI ρ n m → ρ 10 0 = 0 → Q (some (.int (nI w))) ρ) : mD (d + 3) 148 [.ref 10, .int (nI a), .int (nI b)] τ Q := by
  have Y := X.1
  have Z := Y.1
  have k1 : ¬ mdr τ (nI a) = 0 := by rw [mdr_75 (f1 75 (by decide) (by decide) (by decide)), (Rm_dr Z.rm).mp d1]; decide
  have k2 : ¬ mdr τ (nI b) = 0 := by rw [mdr_75 (f1 75 (by decide) (by decide) (by decide)), (Rm_dr Z.rm).mp d2]; decide
  have e10 : τ 10 = σ 10 := f1 10 (by decide) (by decide) (by decide)
  refine c_148 (n := n) (MK_cg (by rw [e10]) (by rw [e10]) (f1 75 (by decide) (by decide) (by decide)) (f1 80 (by decide) (by decide) (by decide)) (f1 81 (by decide) (by decide) (by decide)) (f1 83 (by decide) (by decide) (by decide)) Z.mk) (fun h => absurd h (fun z => z.elim k1 k2)) (fun a' b' ha' hb' ea eb _ _ ρ w' F w9' e2 W' => ?_)
  have := nI9 ha ha' ea
  subst this
  have := nI9 hb hb' eb
  subst this
  rw [Gm_eq Z (f1 80 (by decide) (by decide) (by decide)) (f1 81 (by decide) (by decide) (by decide))] at W'
  obtain ⟨ew, ef⟩ := WP_u W W'
  subst ew
  have up : ∀ c, c ≠ 10 → c ≠ 9 → c ≠ 73 → c ≠ 74 → c ≠ 98 → c ≠ 106 → ρ c = σ c := fun c _ _ _ _ _ _ => by
    rw [F.1 c (by omega) (by omega) (by omega)]; exact f1 c (by omega) (by omega) (by omega)
  have ten : ∀ j, j ≠ 0 → j ≠ 34 → ρ 10 j = σ 10 j := fun j a b => by rw [F.2.1 j a b, e10]
  have e03 : ρ 0 = σ 0 := up 0 (by decide) (by decide) (by decide) (by decide) (by decide) (by decide)
  refine q ρ ⟨YI_cg (ZI_way Z f1 F w9 e1 e2 (fun i hi => (ef i hi).symm)) Y (up 2 (by decide) (by decide) (by decide) (by decide) (by decide) (by decide)) (up 3 (by decide) (by decide) (by decide) (by decide) (by decide) (by decide)) (up 20 (by decide) (by decide) (by decide) (by decide) (by decide) (by decide)) (up 84 (by decide) (by decide) (by decide) (by decide) (by decide) (by decide)) (ten 13 (by decide) (by decide)) (ten 15 (by decide) (by decide)) (ten 16 (by decide) (by decide)) ?_, WRs_cg (up 13 (by decide) (by decide) (by decide) (by decide) (by decide) (by decide)) (up 14 (by decide) (by decide) (by decide) (by decide) (by decide) (by decide)) (up 18 (by decide) (by decide) (by decide) (by decide) (by decide) (by decide)) X.2.1, fun h => PX_cg (fun c hc => up c (by omega) (by omega) (by omega) (by omega) (by omega) (by omega)) (ten 32 (by decide) (by decide)) (ten 33 (by decide) (by decide)) (X.2.2 (by rw [e03] at h; exact h))⟩ F.2.2
  unfold SP
  rw [e03, ten 12 (by decide) (by decide)]
  exact Y.2.2.2
/-- plan of the reference behind plan of the class -/
theorem pl_ref {d n m : Nat} {Q : mm_Q} {σ τ : mm_S} {a k x y z oc fc : Int32} (X : XI σ n m) (F : jfr σ τ) (B : BG τ) (D : DG τ) (W : WN τ) (J : JV σ n m a k x y z oc fc) (V : WV τ k x y z oc fc) (P : a = 1 → XPL σ n m τ k oc fc) (q : ∀ ρ, XI ρ n m → Q (some (.int a)) ρ) : mD (d + 6) 142 [.ref 10] (mm_up τ 0 3 (if a = 1 then 1 else 0)) Q := by
  have Z1 : ZI (mm_up τ 0 3 (if a = 1 then 1 else 0)) n m := ZI_0 (ZI_jfr F B D W X.1.1)
  have up : ∀ c, c ≠ 0 → (c = 1 ∨ c = 10 ∨ (11 ≤ c ∧ c ≤ 19) ∨ 73 ≤ c) → (mm_up τ 0 3 (if a = 1 then 1 else 0)) c = σ c := fun c h h' => by rw [mm_up_n h]; exact F c (by omega)
  have J1 : JV (mm_up τ 0 3 (if a = 1 then 1 else 0)) n m a k x y z oc fc := JV_cg (up 1 (by decide) (by omega)) (up 11 (by decide) (by omega)) (up 12 (by decide) (by omega)) (up 15 (by decide) (by omega)) (up 16 (by decide) (by omega)) (up 17 (by decide) (by omega)) (up 83 (by decide) (by omega)) (by rw [up 10 (by decide) (by omega)]) J
  have W1 : WRs (mm_up τ 0 3 (if a = 1 then 1 else 0)) := WRs_cg (up 13 (by decide) (by omega)) (up 14 (by decide) (by omega)) (up 18 (by decide) (by omega)) X.2.1
  have kW : ∀ ρ, MF (mm_up τ 0 3 (if a = 1 then 1 else 0)) ρ → WRs ρ := fun ρ F' => WRs_cg (F'.1 13 (by decide) (by decide)) (F'.1 14 (by decide) (by decide)) (F'.1 18 (by decide) (by decide)) W1
  by_cases e : a = 1
  · obtain ⟨B', s, t, L, f, Mk, lab, p, K, D', V', PL, cv, Y, dd, ls, bV, pf, kk, e1, e2, e3⟩ := XPL_cg (up 1 (by decide) (by omega)) (up 11 (by decide) (by omega)) (up 12 (by decide) (by omega)) (up 13 (by decide) (by omega)) (up 14 (by decide) (by omega)) (up 15 (by decide) (by omega)) (up 16 (by decide) (by omega)) (up 17 (by decide) (by omega)) (up 18 (by decide) (by omega)) (up 83 (by decide) (by omega)) (P e)
    subst e e1 e2 e3
    refine c_142t (x := x) (y := y) (z := z) Z1 (W1.g Z1.ck.jn.1) (JV_10 J1) PL cv Y (fun e he => (dd e he).2) ls bV (fun ρ F' V'' R => q ρ ⟨YI_plan X.1.1 F B D W V F' V'', kW ρ F', fun _ => ?_⟩)
    have cl : ∀ c, c ≠ 10 → c ≠ 0 → c < 84 → ρ c = τ c := fun c h1 h2 h3 => by rw [F'.1 c h1 (by omega), mm_up_n h2]
    refine ⟨B', s, t, L, f, Mk, lab, p, K, D', V', PLD_cg (F'.1 1 (by decide) (by decide)) (F'.1 11 (by decide) (by decide)) (F'.1 12 (by decide) (by decide)) (F'.1 15 (by decide) (by decide)) (F'.1 16 (by decide) (by decide)) (F'.1 17 (by decide) (by decide)) PL, fun e he => ?_, bV, ⟨fun i p hi hp => ?_, fun i hi => ?_, fun i hi => ?_⟩, fun v hv => ?_, R⟩
    · rw [cl 45 (by decide) (by decide) (by decide)]; exact dd e he
    · rw [cl (62 + 1 + i) (by omega) (by omega) (by omega)]; exact pf.1 i p hi hp
    · rw [cl 72 (by decide) (by decide) (by decide)]; exact pf.2.1 i hi
    · rw [cl 72 (by decide) (by decide) (by decide)]; exact pf.2.2 i hi
    · rw [cl 44 (by decide) (by decide) (by decide)]; exact kk v hv
  · refine c_142s Z1 J1 (fun ρ F' V' => q ρ ⟨YI_plan X.1.1 F B D W V F' V', kW ρ F', fun h => ?_⟩)
    rw [F'.1 0 (by decide) (by decide), mm_up_s, if_neg e] at h
    exact absurd h (by decide)
