section
/-! class: the layout, what it finds -/
def LSd (τ0 : mm_S) (rm : Nat → Prop) (nr : Nat → Nat → Prop) (Bp lb : Nat → Nat → Nat) (f : Nat) (bd : Nat → Nat → Nat) (R : Nat) (od an : Nat → Nat) (n : Nat) (ja jb : Nat → Nat) : Prop := (GP rm nr Bp) ∧ (∀ r v, rm r → nr r v → τ0 (21 + 1 + r) v = nI (Bp r v)) ∧ (∀ v r, rm v → rm r → nr r v → rm (Bp r v) → lb v r < f ∧ τ0 (33 + 1 + v) r = nI (lb v r)) ∧ (f ≤ 42 ∧ τ0 5 6 = nI f) ∧ (∀ r, rm r → F153 (τ0 44 r) = nI (dgr nr r)) ∧ (n ≤ 21 ∧ τ0 1 12 = nI n) ∧ (∀ e, e < n → rm (ja e) ∧ rm (jb e) ∧ nr (ja e) (jb e) ∧ τ0 16 e = nI (ja e) ∧ τ0 17 e = nI (jb e)) ∧ (R ≤ 9 ∧ τ0 1 11 = nI R) ∧ (∀ g i, g < f → i < 3 → rm (bd g i) ∧ τ0 46 (3 * g + i) = nI (bd g i)) ∧ (∀ k, k < R → rm (od k) ∧ nr (od k) (an k) ∧ τ0 60 k = nI (od k) ∧ τ0 61 k = nI (an k)) ∧ (∀ i j, i < j → j < R → od i ≠ od j) ∧ (∀ r, rm r → ∃ k, k < R ∧ od k = r) ∧ (∀ k, k < R → (∃ s, s < 4 ∧ an k = 9 + s) ∨ ((∀ s, s < 4 → ¬ nr (od k) (9 + s)) ∧ ∃ j, j < k ∧ an k = od j))
theorem LSd.gp {τ0 : mm_S} {rm : Nat → Prop} {nr : Nat → Nat → Prop} {Bp lb : Nat → Nat → Nat} {f : Nat} {bd : Nat → Nat → Nat} {R : Nat} {od an : Nat → Nat} {n : Nat} {ja jb : Nat → Nat} (h : LSd τ0 rm nr Bp lb f bd R od an n ja jb) : GP rm nr Bp := h.1
theorem LSd.bh {τ0 : mm_S} {rm : Nat → Prop} {nr : Nat → Nat → Prop} {Bp lb : Nat → Nat → Nat} {f : Nat} {bd : Nat → Nat → Nat} {R : Nat} {od an : Nat → Nat} {n : Nat} {ja jb : Nat → Nat} (h : LSd τ0 rm nr Bp lb f bd R od an n ja jb) : ∀ r v, rm r → nr r v → τ0 (21 + 1 + r) v = nI (Bp r v) := h.2.1
theorem LSd.fo {τ0 : mm_S} {rm : Nat → Prop} {nr : Nat → Nat → Prop} {Bp lb : Nat → Nat → Nat} {f : Nat} {bd : Nat → Nat → Nat} {R : Nat} {od an : Nat → Nat} {n : Nat} {ja jb : Nat → Nat} (h : LSd τ0 rm nr Bp lb f bd R od an n ja jb) : ∀ v r, rm v → rm r → nr r v → rm (Bp r v) → lb v r < f ∧ τ0 (33 + 1 + v) r = nI (lb v r) := h.2.2.1
theorem LSd.fc {τ0 : mm_S} {rm : Nat → Prop} {nr : Nat → Nat → Prop} {Bp lb : Nat → Nat → Nat} {f : Nat} {bd : Nat → Nat → Nat} {R : Nat} {od an : Nat → Nat} {n : Nat} {ja jb : Nat → Nat} (h : LSd τ0 rm nr Bp lb f bd R od an n ja jb) : f ≤ 42 ∧ τ0 5 6 = nI f := h.2.2.2.1
theorem LSd.dg {τ0 : mm_S} {rm : Nat → Prop} {nr : Nat → Nat → Prop} {Bp lb : Nat → Nat → Nat} {f : Nat} {bd : Nat → Nat → Nat} {R : Nat} {od an : Nat → Nat} {n : Nat} {ja jb : Nat → Nat} (h : LSd τ0 rm nr Bp lb f bd R od an n ja jb) : ∀ r, rm r → F153 (τ0 44 r) = nI (dgr nr r) := h.2.2.2.2.1
theorem LSd.jn {τ0 : mm_S} {rm : Nat → Prop} {nr : Nat → Nat → Prop} {Bp lb : Nat → Nat → Nat} {f : Nat} {bd : Nat → Nat → Nat} {R : Nat} {od an : Nat → Nat} {n : Nat} {ja jb : Nat → Nat} (h : LSd τ0 rm nr Bp lb f bd R od an n ja jb) : n ≤ 21 ∧ τ0 1 12 = nI n := h.2.2.2.2.2.1
theorem LSd.je {τ0 : mm_S} {rm : Nat → Prop} {nr : Nat → Nat → Prop} {Bp lb : Nat → Nat → Nat} {f : Nat} {bd : Nat → Nat → Nat} {R : Nat} {od an : Nat → Nat} {n : Nat} {ja jb : Nat → Nat} (h : LSd τ0 rm nr Bp lb f bd R od an n ja jb) : ∀ e, e < n → rm (ja e) ∧ rm (jb e) ∧ nr (ja e) (jb e) ∧ τ0 16 e = nI (ja e) ∧ τ0 17 e = nI (jb e) := h.2.2.2.2.2.2.1
theorem LSd.rr {τ0 : mm_S} {rm : Nat → Prop} {nr : Nat → Nat → Prop} {Bp lb : Nat → Nat → Nat} {f : Nat} {bd : Nat → Nat → Nat} {R : Nat} {od an : Nat → Nat} {n : Nat} {ja jb : Nat → Nat} (h : LSd τ0 rm nr Bp lb f bd R od an n ja jb) : R ≤ 9 ∧ τ0 1 11 = nI R := h.2.2.2.2.2.2.2.1
theorem LSd.bd {τ0 : mm_S} {rm : Nat → Prop} {nr : Nat → Nat → Prop} {Bp lb : Nat → Nat → Nat} {f : Nat} {bd : Nat → Nat → Nat} {R : Nat} {od an : Nat → Nat} {n : Nat} {ja jb : Nat → Nat} (h : LSd τ0 rm nr Bp lb f bd R od an n ja jb) : ∀ g i, g < f → i < 3 → rm (bd g i) ∧ τ0 46 (3 * g + i) = nI (bd g i) := h.2.2.2.2.2.2.2.2.1
theorem LSd.od {τ0 : mm_S} {rm : Nat → Prop} {nr : Nat → Nat → Prop} {Bp lb : Nat → Nat → Nat} {f : Nat} {bd : Nat → Nat → Nat} {R : Nat} {od an : Nat → Nat} {n : Nat} {ja jb : Nat → Nat} (h : LSd τ0 rm nr Bp lb f bd R od an n ja jb) : ∀ k, k < R → rm (od k) ∧ nr (od k) (an k) ∧ τ0 60 k = nI (od k) ∧ τ0 61 k = nI (an k) := h.2.2.2.2.2.2.2.2.2.1
theorem LSd.oj {τ0 : mm_S} {rm : Nat → Prop} {nr : Nat → Nat → Prop} {Bp lb : Nat → Nat → Nat} {f : Nat} {bd : Nat → Nat → Nat} {R : Nat} {od an : Nat → Nat} {n : Nat} {ja jb : Nat → Nat} (h : LSd τ0 rm nr Bp lb f bd R od an n ja jb) : ∀ i j, i < j → j < R → od i ≠ od j := h.2.2.2.2.2.2.2.2.2.2.1
theorem LSd.oc {τ0 : mm_S} {rm : Nat → Prop} {nr : Nat → Nat → Prop} {Bp lb : Nat → Nat → Nat} {f : Nat} {bd : Nat → Nat → Nat} {R : Nat} {od an : Nat → Nat} {n : Nat} {ja jb : Nat → Nat} (h : LSd τ0 rm nr Bp lb f bd R od an n ja jb) : ∀ r, rm r → ∃ k, k < R ∧ od k = r := h.2.2.2.2.2.2.2.2.2.2.2.1
theorem LSd.oa {τ0 : mm_S} {rm : Nat → Prop} {nr : Nat → Nat → Prop} {Bp lb : Nat → Nat → Nat} {f : Nat} {bd : Nat → Nat → Nat} {R : Nat} {od an : Nat → Nat} {n : Nat} {ja jb : Nat → Nat} (h : LSd τ0 rm nr Bp lb f bd R od an n ja jb) : ∀ k, k < R → (∃ s, s < 4 ∧ an k = 9 + s) ∨ ((∀ s, s < 4 → ¬ nr (od k) (9 + s)) ∧ ∃ j, j < k ∧ an k = od j) := h.2.2.2.2.2.2.2.2.2.2.2.2
section CL1
variable {τ0 : mm_S} {rm : Nat → Prop} {nr : Nat → Nat → Prop} {Bp lb : Nat → Nat → Nat} {f : Nat} {bd : Nat → Nat → Nat} {R : Nat} {od an : Nat → Nat} {n : Nat} {ja jb : Nat → Nat}
/-- the row of one room -/
def RWb (rm : Nat → Prop) (nr : Nat → Nat → Prop) (Bp lb : Nat → Nat → Nat) (st : Nat → Nat) (τ : mm_S) (r : Nat) (b : Nat → Nat) : Prop := ∀ u, nr r u → τ (50 + 1 + r) u = nI (b u) ∧ b u < 4 ∧ b (Bp r u) = (b u + ic (¬ stq rm Bp lb st r u)) % 4
theorem f50_m {w : Nat} (hw : w < 4) : f_50 (nI w) = nI ((w + 1) % 4) := by
  rw [(f_50_n w hw).1, nx4_mod w hw]
theorem c_68s {d r v w0 : Nat} {Q : mm_Q} {τ : mm_S} {st : Nat → Nat} (S : LSd τ0 rm nr Bp lb f bd R od an n ja jb) (I : LI τ0 τ) (hst : ∀ g, g < f → τ 47 g = nI (st g) ∧ st g < 9) (four : ct (fun u => nr r u ∧ ¬ stq rm Bp lb st r u) 13 = 4) (hr : rm r) (hv : nr r v) (w4 : w0 < 4) (s1 : v < 9 → f_69 (τ (50 + 1 + v) r) = nI w0) (s2 : 9 ≤ v → w0 = v - 9) (q : ∀ τ' b, LI τ0 τ' → (∀ c, c ≠ 50 + 1 + r → τ' c = τ c) → RWb rm nr Bp lb st τ' r b → b v = w0 → Q none τ') : mD (d + 3) 68 [.ref 7, .int (nI r), .int (nI v)] τ Q := by
  have G := S.gp
  have r9 := G.r9 r hr
  have f42 := S.fc.1
  have v13 := (G.lt hv).2
  have cr : (nI r).toNatClampNeg = r := nI_clamp (by omega)
  have cv0 : (nI v).toNatClampNeg = v := nI_clamp (by omega)
  obtain ⟨w, dg, ew0, E⟩ := enu G hv
  obtain ⟨e1, e2, e3, e4, e5⟩ := id E
  rw [enu_ct G E] at four
  have edg : dgr nr r = dg := by
    have h1 : dgr nr r = ct (fun u => nr r u ∧ True) 13 := ct_cg 13 (fun u _ => ⟨fun z => ⟨z, trivial⟩, fun z => z.1⟩)
    rw [h1, enu_ct G E]
    have : ∀ N, ct (fun _ => True) N = N := fun N => by
      induction N with
      | zero => rfl
      | succ N ih => show ct (fun _ => True) N + ic True = N + 1; rw [ih, ic_t trivial]
    exact this dg
  have dg13 : dg ≤ 13 := by rw [← edg]; exact ct_n 13
  obtain ⟨vl, hvl⟩ : ∃ vl : Nat → Nat, vl = fun i => (w0 + ct (fun k => ¬ stq rm Bp lb st r (w k)) i) % 4 := ⟨_, rfl⟩
  have vl4 : ∀ i, vl i < 4 := fun i => by rw [hvl]; exact Nat.mod_lt _ (by decide)
  have vls : ∀ i, vl (i + 1) = (vl i + ic (¬ stq rm Bp lb st r (w i))) % 4 := fun i => by
    rw [hvl]
    show (w0 + (ct (fun k => ¬ stq rm Bp lb st r (w k)) i + ic (¬ stq rm Bp lb st r (w i)))) % 4 = ((w0 + ct (fun k => ¬ stq rm Bp lb st r (w k)) i) % 4 + ic (¬ stq rm Bp lb st r (w i))) % 4
    omega
  have vl0 : vl 0 = w0 := by rw [hvl]; show (w0 + 0) % 4 = w0; omega
  have vld : vl dg = w0 := by rw [hvl]; show (w0 + ct (fun k => ¬ stq rm Bp lb st r (w k)) dg) % 4 = w0; rw [four]; omega
  have loop : ∀ (ρ : mm_S) (x2 : Int32) (o6 : Option Value), LI τ0 ρ → (∀ c, c ≠ 50 + 1 + r → ρ c = τ c) → mw (d + 2) mt_68 Q 42 [some (.ref 7), some (.int (nI r)), some (.int x2), some (.int (nI (vl 0))), some (.int (nI (w 0))), some (.int (nI dg)), o6] [] ρ := by
    intro ρ x2 o6 I fr
    have := lp_dn (P := fun i => ∀ (ρ : mm_S) (o6 : Option Value), LI τ0 ρ → (∀ c, c ≠ 50 + 1 + r → ρ c = τ c) → (∀ j, j < i → ρ (50 + 1 + r) (w j) = nI (vl j)) → mw (d + 2) mt_68 Q 42 [some (.ref 7), some (.int (nI r)), some (.int x2), some (.int (nI (vl i))), some (.int (nI (w i))), some (.int (nI (dg - i))), o6] [] ρ) dg ?_ ?_ 0 (Nat.zero_le dg) ρ o6 I fr (fun j hj => absurd hj (Nat.not_lt_zero j))
    · rw [Nat.sub_zero] at this; exact this
    · intro ρ o6 I fr ro
      rw [Nat.sub_self]
      refine ks_68_42 (fun g => absurd (by decide) g) (fun g => absurd (by decide) g) (fun g => absurd (by decide) g) (fun g => absurd (by decide) g) (fun g => absurd (by decide) g) (fun _ => ?_) (fun g => absurd (by decide) g) (fun g => absurd (by decide) g)
      -- the row as a function of the node
      have ex : ∀ u, ∃ k, nr r u → k < dg ∧ w k = u := fun u => by
        by_cases h : nr r u
        · obtain ⟨k, h1, h2⟩ := e5 u h; exact ⟨k, fun _ => ⟨h1, h2⟩⟩
        · exact ⟨0, fun z => absurd z h⟩
      obtain ⟨ix, hix⟩ : ∃ ix : Nat → Nat, ∀ u, nr r u → ix u < dg ∧ w (ix u) = u := ⟨fun u => (ex u).choose, fun u => (ex u).choose_spec⟩
      have uq : ∀ i j, i < dg → j < dg → w i = w j → i = j := fun i j hi hj e => by
        rcases Nat.lt_trichotomy i j with z | z | z
        · exact absurd e (e4 i j z hj)
        · exact z
        · exact absurd e.symm (e4 j i z hi)
      refine q ρ (fun u => vl (ix u)) I fr (fun u hu => ?_) ?_
      · obtain ⟨h1, h2⟩ := hix u hu
        refine ⟨by have := ro (ix u) h1; rw [h2] at this; exact this, vl4 _, ?_⟩
        obtain ⟨h3, h4⟩ := hix _ (G.nx r u hu)
        show vl (ix (Bp r u)) = (vl (ix u) + ic (¬ stq rm Bp lb st r u)) % 4
        have e : w (ix u + 1) = Bp r u := by rw [(e1 _).2, h2]
        have s := vls (ix u)
        rw [h2] at s
        rw [← s]
        by_cases c : ix u + 1 < dg
        · rw [uq _ _ h3 c (h4.trans e.symm)]
        · have ed : ix u + 1 = dg := by omega
          rw [ed, vld]
          have : ix (Bp r u) = 0 := uq _ _ h3 (by omega) (by rw [h4, ← e, ed]; exact e3)
          rw [this, vl0]
      · obtain ⟨h1, h2⟩ := hix v hv
        show vl (ix v) = w0
        rw [uq (ix v) 0 h1 (by omega) (h2.trans ew0.symm), vl0]
    · intro i hi ih ρ o6 I fr ro
      have ni := (e1 i).1
      have wi13 := (G.lt ni).2
      have cv : (nI (w i)).toNatClampNeg = w i := nI_clamp (by omega)
      have I' := LI_b (v := w i) I r9 (vl4 i)
      have nw := G.nx r _ ni
      have g13 := (G.lt nw).2
      have rd : (mm_up ρ (50 + 1 + r) (w i) (nI (vl i))) (21 + 1 + r) (w i) = nI (w (i + 1)) := by
        rw [I'.1 _ (by omega) (by omega) (by omega) (by omega) (by omega) (by omega), (e1 i).2]; exact S.bh r _ hr ni
      have lt9 : ∀ a, a < 13 → ¬ ((9 : Int32) ≤ nI a) → a < 9 := fun a ha h => by
        rcases Nat.lt_or_ge a 9 with y | y
        · exact y
        · exact absurd (hI_le (a := 9) (by omega) y) h
      have w1 : w (i + 1) = Bp r (w i) := (e1 i).2
      have face : w i < 9 → w (i + 1) < 9 → rm (w i) ∧ rm (Bp r (w i)) ∧ lb (w i) r < f ∧ (mm_up ρ (50 + 1 + r) (w i) (nI (vl i))) (33 + 1 + w i) r = nI (lb (w i) r) := fun h1 h2 => by
        have ra := G.room (G.sy _ _ ni) h1
        have rb := G.room (G.sy _ _ nw) (by rw [← w1]; exact h2)
        have fo := S.fo _ _ ra hr ni rb
        exact ⟨ra, rb, fo.1, by rw [I'.1 _ (by omega) (by omega) (by omega) (by omega) (by omega) (by omega)]; exact fo.2⟩
      -- the corner
      have cor : f_70 (mm_up ρ (50 + 1 + r) (w i) (nI (vl i))) (nI r) (nI (w i)) (nI (w (i + 1))) = 0 ↔ stq rm Bp lb st r (w i) := by
        unfold f_70
        by_cases h1 : (9 : Int32) ≤ nI (w i)
        · rw [if_pos h1]
          refine ⟨fun z => absurd z (by decide), fun z => ?_⟩
          have := G.r9 _ z.1
          exact absurd h1 (hI_nle (a := 9) (by omega) this)
        · rw [if_neg h1]
          have a9 := lt9 _ wi13 h1
          by_cases h2 : (9 : Int32) ≤ nI (w (i + 1))
          · rw [if_pos h2]
            refine ⟨fun z => absurd z (by decide), fun z => ?_⟩
            have := G.r9 _ z.2.1
            rw [w1] at h2
            exact absurd h2 (hI_nle (a := 9) (by omega) this)
          · rw [if_neg h2]
            have b9 := lt9 _ (by rw [w1]; exact g13) h2
            obtain ⟨ra, rb, lf, ef⟩ := face a9 b9
            rw [cv, cr, ef, nI_clamp (by omega), mm_up_n (by omega), fr 47 (by omega), (hst _ lf).1]
            have s9 := (hst _ lf).2
            by_cases h3 : st (lb (w i) r) = r
            · rw [h3, if_pos rfl]; exact ⟨fun _ => ⟨ra, rb, h3⟩, fun _ => rfl⟩
            · rw [if_neg (fun z => h3 (nI9 s9 r9 z))]
              exact ⟨fun z => absurd z (by decide), fun z => absurd z.2.2 h3⟩
      have nxt' : ∀ x : Nat, x = vl (i + 1) → mw (d + 2) mt_68 Q 42 [some (.ref 7), some (.int (nI r)), some (.int x2), some (.int (nI x)), some (.int (nI (w (i + 1)))), some (.int (nI (dg - (i + 1)))), some (.int (nI (w (i + 1))))] [] (mm_up ρ (50 + 1 + r) (w i) (nI (vl i))) := fun x ex => by
        rw [ex]
        refine ih _ _ I' (fun c hc => by rw [mm_up_n hc]; exact fr c hc) (fun j hj => ?_)
        by_cases ej : j = i
        · subst ej; exact mm_up_s
        · have ne : w j ≠ w i := e4 j i (by omega) hi
          rw [mm_up_o ne]; exact ro j (by omega)
      have ck : nI (dg - i) + (-1) = nI (dg - (i + 1)) := by
        rw [show dg - i = dg - (i + 1) + 1 by omega]; exact nI_pm _
      refine ks_68_42 (fun _ => pk_in r 9 r9) (fun _ => pk_in (w i) 13 wi13) (fun _ a _ => pk_in (w i) 9 (lt9 _ wi13 a)) (fun _ _ _ => pk_in r 9 r9) (fun _ a b => ?_) (fun z => absurd z (nI_nle (by omega) (by omega))) (fun _ z => ?_) (fun _ z => ?_)
      · rw [cr, cv, rd] at b
        have a9 := lt9 _ wi13 a
        have b9 := lt9 _ (by rw [w1]; exact g13) b
        obtain ⟨_, _, lf, ef⟩ := face a9 b9
        rw [cr, cv, ef]
        exact pk_in (lb (w i) r) 42 (by omega)
      · rw [cr, cv, rd] at z ⊢
        rw [ck]
        refine nxt' _ ?_
        rw [vls i, ic_f (fun y => y (cor.mp z))]
        have := vl4 i
        omega
      · rw [cr, cv, rd] at z ⊢
        rw [ck, f50_m (vl4 i)]
        refine nxt' _ ?_
        rw [vls i, ic_t (fun y => z (cor.mpr y))]
  have eF : F153 (τ 44 (nI r).toNatClampNeg) = nI dg := by rw [cr, I.1 44 (by decide) (by decide) (by decide) (by decide) (by decide) (by omega), S.dg r hr, edg]
  refine ks_68_0 (fun z => pk_in v 9 ?_) (fun _ => pk_in r 13 (by omega)) (fun _ => pk_in r 13 (by omega)) (fun z => ?_) (fun z => ?_)
  · exact (nI_ltI (b := 9) (by omega) (by omega)).mp z
  · have v9 : v < 9 := (nI_ltI (b := 9) (by omega) (by omega)).mp z
    rw [eF, cr, cv0, s1 v9]
    have := loop τ (nI v) none I (fun _ _ => rfl)
    rw [vl0, ew0] at this
    exact this
  · have v9 : 9 ≤ v := by
      rcases Nat.lt_or_ge v 9 with y | y
      · exact absurd ((nI_ltI (b := 9) (by omega) (by omega)).mpr y) z
      · exact y
    rw [eF, show nI v - (9 : Int32) = nI w0 by rw [s2 v9]; exact nI_sub (b := 9) v9]
    have := loop τ (nI v) none I (fun _ _ => rfl)
    rw [vl0, ew0] at this
    exact this
end CL1
end
section
/-! class: isSooner, weigh, choose, what they find -/
def lx (n : Nat) (D D' : Nat → Nat) : Prop := ∃ e, e < n ∧ (∀ e', e' < e → D e' = D' e') ∧ D e < D' e
def dvec (ja jb : Nat → Nat) (b : Nat → Nat → Nat) (e : Nat) : Nat := dv (b (ja e) (jb e))
def FB (n : Nat) (τ : mm_S) (W : (Nat → Nat) → Prop) : Prop := (τ 7 8 = 0 ∧ ∀ D, ¬ W D) ∨ (τ 7 8 = 1 ∧ ∃ D, W D ∧ (∀ e, e < n → τ 45 e = nI (D e) ∧ D e < 4) ∧ ∀ D', W D' → ¬ lx n D' D)
theorem FB_cg {n : Nat} {τ τ' : mm_S} {W W' : (Nat → Nat) → Prop} (h7 : τ' 7 8 = τ 7 8) (h45 : τ' 45 = τ 45) (hW : ∀ D, W D ↔ W' D) (F : FB n τ W) : FB n τ' W' := by
  rcases F with ⟨a, b⟩ | ⟨a, D, b, c, e⟩
  · exact Or.inl ⟨h7.trans a, fun D z => b D ((hW D).mpr z)⟩
  · exact Or.inr ⟨h7.trans a, D, (hW D).mp b, fun e he => by rw [h45]; exact c e he, fun D' z => e D' ((hW D').mpr z)⟩
theorem dv_4 {w : Nat} (h : w < 4) : dv w < 4 := (mm_tab_n w h).2
theorem f69_m {w : Nat} (hw : w < 4) : f_69 (nI w) = nI ((w + 2) % 4) := by
  unfold f_69
  rw [f50_m hw, f50_m (Nat.mod_lt _ (by decide))]
  congr 1; omega
section CL2
variable {τ0 : mm_S} {rm : Nat → Prop} {nr : Nat → Nat → Prop} {Bp lb : Nat → Nat → Nat} {f : Nat} {bd : Nat → Nat → Nat} {R : Nat} {od an : Nat → Nat} {n : Nat} {ja jb : Nat → Nat}
theorem c_154t {d e : Nat} {Q : mm_Q} {τ : mm_S} {b : Nat → Nat → Nat} (S : LSd τ0 rm nr Bp lb f bd R od an n ja jb) (I : LI τ0 τ) (hb : ∀ r u, rm r → nr r u → τ (50 + 1 + r) u = nI (b r u) ∧ b r u < 4) (he : e < n) (q : Q (some (.int (nI (dvec ja jb b e)))) τ) : mD (d + 1) 154 [.ref 7, .int (nI e)] τ Q := by
  have n21 := S.jn.1
  obtain ⟨ra, rb, nab, e1, e2⟩ := S.je e he
  have ha := S.gp.r9 _ ra
  have hb' := S.gp.r9 _ rb
  have ce : (nI e).toNatClampNeg = e := nI_clamp (by omega)
  have t16 : τ 16 (nI e).toNatClampNeg = nI (ja e) := by rw [ce, LI_k I (by omega)]; exact e1
  have t17 : τ 17 (nI e).toNatClampNeg = nI (jb e) := by rw [ce, LI_k I (by omega)]; exact e2
  obtain ⟨ew, hw⟩ := hb _ _ ra nab
  have br : ms_br τ (nI e) = nI (b (ja e) (jb e)) := by
    unfold ms_br
    rw [t16, t17, nI_clamp (by omega), nI_clamp (by omega)]; exact ew
  refine c_154 ⟨pk_in e 21 (by omega), by rw [t16]; exact pk_in _ 9 ha, by rw [t17]; exact pk_in (jb e) 13 (by omega), by rw [br]; exact pk_in _ 4 hw⟩ ?_
  unfold ms_dir
  rw [br, nI_clamp (by omega), (mm_tab_n _ hw).1]
  exact q
theorem c_71t {d : Nat} {Q : mm_Q} {τ : mm_S} {b : Nat → Nat → Nat} {D : Nat → Nat} (S : LSd τ0 rm nr Bp lb f bd R od an n ja jb) (I : LI τ0 τ) (hb : ∀ r u, rm r → nr r u → τ (50 + 1 + r) u = nI (b r u) ∧ b r u < 4) (hD : ∀ e, e < n → τ 45 e = nI (D e) ∧ D e < 4) (q1 : lx n (dvec ja jb b) D → Q (some (.int 1)) τ) (q0 : ¬ lx n (dvec ja jb b) D → Q (some (.int 0)) τ) : mD (d + 2) 71 [.ref 7] τ Q := by
  have n21 := S.jn.1
  have e12 : τ 1 12 = nI n := by rw [LI_k I (by omega)]; exact S.jn.2
  refine ke_71 (kb_71_0 ?_)
  refine lp_dn (P := fun e => (∀ e', e' < e → dvec ja jb b e' = D e') → ∀ o2, mw (d + 1) mt_71 Q 2 [some (.ref 7), some (.int (nI e)), o2] [] τ) n ?_ ?_ 0 (Nat.zero_le n) (fun e h => absurd h (Nat.not_lt_zero e)) none
  · intro h o2
    exact kb_71_2 (fun _ => kb_71_51 (q0 (fun ⟨e, he, _, k⟩ => by rw [h e he] at k; exact Nat.lt_irrefl _ k))) (fun g => absurd (by rw [e12]; exact hI_le (by omega) (Nat.le_refl n)) g)
  · intro e he ih h o2
    obtain ⟨d1, d2⟩ := hD e he
    have ce : (nI e).toNatClampNeg = e := nI_clamp (by omega)
    obtain ⟨ra, rb, nab, _, _⟩ := S.je e he
    have v4 : dvec ja jb b e < 4 := dv_4 (hb _ _ ra nab).2
    refine kb_71_2 (fun g => absurd g (by rw [e12]; exact hI_nle (by omega) he)) (fun _ => kb_71_13 (c_154t S I hb he (kb_71_18 (pk_in e 21 (by omega)) (fun z => kb_71_45 ?_) (fun z => kb_71_29 (pk_in e 21 (by omega)) (fun y => kb_71_43 (q0 ?_)) (fun y => kb_71_39 (q1 ?_))))))
    · rw [nI_1]
      rw [ce, d1] at z
      have z' := (nI_eq (by omega) (by omega)).mp z
      exact ih (fun e' he' => by
        by_cases c : e' = e
        · rw [c]; exact z'
        · exact h e' (by omega)) _
    · rw [ce, d1] at y z
      have y' := (nI_leI (by omega) (by omega)).mp y
      have z' : dvec ja jb b e ≠ D e := fun q => z (by rw [q])
      rintro ⟨e', he', k1, k2⟩
      rcases Nat.lt_trichotomy e' e with c | c | c
      · rw [h e' c] at k2; exact Nat.lt_irrefl _ k2
      · subst c; omega
      · exact z' (k1 e c)
    · rw [ce, d1] at y
      refine ⟨e, he, h, ?_⟩
      rcases Nat.lt_or_ge (dvec ja jb b e) (D e) with c | c
      · exact c
      · exact absurd (hI_le (by omega) c) y
/-- weigh: rows and the better of two -/
theorem c_67t {d : Nat} {Q : mm_Q} {τ : mm_S} {st : Nat → Nat} {W : (Nat → Nat) → Prop} (S : LSd τ0 rm nr Bp lb f bd R od an n ja jb) (I : LI τ0 τ) (hst : ∀ g, g < f → τ 47 g = nI (st g) ∧ st g < 9) (four : ∀ r, rm r → ct (fun u => nr r u ∧ ¬ stq rm Bp lb st r u) 13 = 4) (F : FB n τ W) (q : ∀ τ' b, LI τ0 τ' → (∀ c, c ≠ 7 → c ≠ 45 → (c < 51 ∨ 59 < c) → τ' c = τ c) → ROa rm nr Bp lb st b → ANa rm nr R od an b → FB n τ' (fun D => W D ∨ ∀ e, e < n → D e = dvec ja jb b e) → Q none τ') : mD (d + 4) 67 [.ref 7] τ Q := by
  have G := S.gp
  have n21 := S.jn.1
  have r9 := S.rr.1
  have od9 : ∀ k, k < R → od k < 9 := fun k hk => G.r9 _ (S.od k hk).1
  refine ke_67 (kb_67_0 ?_)
  refine lp_dn (P := fun k => ∀ (τ : mm_S) (b : Nat → Nat → Nat), LI τ0 τ → (∀ g, g < f → τ 47 g = nI (st g) ∧ st g < 9) → FB n τ W → (∀ (τ' : mm_S) b, LI τ0 τ' → (∀ c, c ≠ 7 → c ≠ 45 → (c < 51 ∨ 59 < c) → τ' c = τ c) → ROa rm nr Bp lb st b → ANa rm nr R od an b → FB n τ' (fun D => W D ∨ ∀ e, e < n → D e = dvec ja jb b e) → Q none τ') → (∀ j, j < k → RWb rm nr Bp lb st τ (od j) (b (od j)) ∧ (∀ s, s < 4 → an j = 9 + s → b (od j) (9 + s) = s) ∧ ∀ i, i < j → an j = od i → b (od j) (od i) = (b (od i) (od j) + 2) % 4) → mw (d + 3) mt_67 Q 2 [some (.ref 7), some (.int (nI k))] [] τ) R ?_ ?_ 0 (Nat.zero_le R) τ (fun _ _ => 0) I hst F q (fun j hj => absurd hj (Nat.not_lt_zero j))
  · intro τ b I hst F q rows
    have e11 : τ 1 11 = nI R := by rw [LI_k I (by omega)]; exact S.rr.2
    have hb : ∀ r u, rm r → nr r u → τ (50 + 1 + r) u = nI (b r u) ∧ b r u < 4 := fun r u hr hu => by
      obtain ⟨k, hk, e⟩ := S.oc r hr
      subst e
      have := (rows k hk).1 u hu
      exact ⟨this.1, this.2.1⟩
    have RO : ROa rm nr Bp lb st b := fun r u hr hu => by
      obtain ⟨k, hk, e⟩ := S.oc r hr
      subst e
      have := (rows k hk).1 u hu
      exact ⟨this.2.1, this.2.2⟩
    have AN : ANa rm nr R od an b := ⟨S.oc, fun k hk => ⟨(S.od k hk).1, (S.od k hk).2.1, by
      rcases S.oa k hk with ⟨s, s4, e⟩ | ⟨ns, j, hj, e⟩
      · exact Or.inl ⟨s, s4, e, (rows k hk).2.1 s s4 e⟩
      · exact Or.inr ⟨ns, j, hj, e, (rows k hk).2.2 j hj e⟩⟩⟩
    have dv4 : ∀ e, e < n → dvec ja jb b e < 4 := fun e he => by
      obtain ⟨ra, rb, nab, _, _⟩ := S.je e he
      exact dv_4 (hb _ _ ra nab).2
    -- storing
    have store : (∀ D, W D → ¬ lx n D (dvec ja jb b)) → ∀ x1, mw (d + 3) mt_67 Q 49 [some (.ref 7), some (.int x1)] [] τ := by
      intro best x1
      refine kb_67_49 ?_
      have I1 : LI τ0 (mm_up τ 7 8 1) := by
        obtain ⟨i1, i2, i3, i4⟩ := I
        exact ⟨fun c h1 h2 h3 h4 h5 h6 => by rw [mm_up_n h1]; exact i1 c h1 h2 h3 h4 h5 h6, Or.inr mm_up_s, fun r v hr hv => by rw [mm_up_n (by omega)]; exact i3 r v hr hv, fun e he => by rw [mm_up_n (by omega)]; exact i4 e he⟩
      refine lp_dn (P := fun e => ∀ ρ, LI τ0 ρ → ρ 7 8 = 1 → (∀ c, c ≠ 7 → c ≠ 45 → ρ c = τ c) → (∀ e', e' < e → ρ 45 e' = nI (dvec ja jb b e')) → mw (d + 3) mt_67 Q 56 [some (.ref 7), some (.int (nI e))] [] ρ) n ?_ ?_ 0 (Nat.zero_le n) _ I1 mm_up_s (fun c h _ => mm_up_n h) (fun e h => absurd h (Nat.not_lt_zero e))
      · intro ρ I e7 fr h
        have e12 : ρ 1 12 = nI n := by rw [LI_k I (by omega)]; exact S.jn.2
        refine kb_67_56 (fun _ => kb_67_84 (q ρ b I (fun c h1 h2 _ => fr c h1 h2) RO AN (Or.inr ⟨e7, dvec ja jb b, Or.inr (fun _ _ => rfl), fun e he => ⟨h e he, dv4 e he⟩, fun D' hD' => ?_⟩))) (fun g => absurd (by rw [e12]; exact hI_le (by omega) (Nat.le_refl n)) g)
        rcases hD' with k | k
        · exact best D' k
        · rintro ⟨e, he, _, k2⟩
          rw [k e he] at k2; exact Nat.lt_irrefl _ k2
      · intro e he ih ρ I e7 fr h
        have e12 : ρ 1 12 = nI n := by rw [LI_k I (by omega)]; exact S.jn.2
        refine kb_67_56 (fun g => absurd g (by rw [e12]; exact hI_nle (by omega) he)) (fun _ => kb_67_67 (c_154t S I (b := b) (fun r u hr hu => by rw [fr _ (by omega) (by omega)]; exact hb r u hr hu) he (kb_67_77 (pk_in e 21 (by omega)) ?_)))
        rw [nI_1, nI_clamp (show e < 2 ^ 31 by omega)]
        refine ih _ ?_ (by rw [mm_up_n (by decide)]; exact e7) (fun c h1 h2 => by rw [mm_up_n h2]; exact fr c h1 h2) (fun e' he' => ?_)
        · obtain ⟨i1, i2, i3, i4⟩ := I
          refine ⟨fun c h1 h2 h3 h4 h5 h6 => by rw [mm_up_n h2]; exact i1 c h1 h2 h3 h4 h5 h6, by rw [mm_up_n (by decide)]; exact i2, fun r v hr hv => by rw [mm_up_n (by omega)]; exact i3 r v hr hv, fun e' he' => ?_⟩
          by_cases ee : e' = e
          · subst ee; exact ⟨_, dv4 e' he, mm_up_s⟩
          · rw [mm_up_o ee]; exact i4 e' he'
        · by_cases ee : e' = e
          · subst ee; exact mm_up_s
          · rw [mm_up_o ee]; exact h e' (by omega)
    refine kb_67_2 (fun _ => ?_) (fun g => absurd (by rw [e11]; exact hI_le (by omega) (Nat.le_refl R)) g)
    rcases F with ⟨a0, no⟩ | ⟨a1, D, hD, dd, mn⟩
    · exact kb_67_35 (fun _ => store (fun D hD => absurd hD (no D)) _) (fun z => absurd a0 z)
    · refine kb_67_35 (fun z => absurd (a1.symm.trans z) (by decide)) (fun _ => kb_67_42 (c_71t S I hb dd (fun lt => kb_67_46 (fun z => absurd z (by decide)) (fun _ => store (fun D' hD' k => ?_) _)) (fun nl => kb_67_46 (fun _ => kb_67_84 (q τ b I (fun _ _ _ _ => rfl) RO AN (Or.inr ⟨a1, D, Or.inl hD, dd, fun D' hD' => ?_⟩))) (fun z => absurd rfl z))))
      · -- what lies below the new one lies below the old one
        obtain ⟨e1, he1, k1, k2⟩ := lt
        obtain ⟨e2, he2, k3, k4⟩ := k
        refine mn D' hD' ?_
        rcases Nat.lt_trichotomy e1 e2 with c | c | c
        · exact ⟨e1, he1, fun e' h => by rw [k3 e' (by omega), k1 e' h], by rw [k3 e1 c]; exact k2⟩
        · subst c; exact ⟨e1, he1, fun e' h => by rw [k3 e' h, k1 e' h], by omega⟩
        · exact ⟨e2, he2, fun e' h => by rw [k3 e' h, k1 e' (by omega)], by rw [← k1 e2 c]; exact k4⟩
      · rcases hD' with k | k
        · exact mn D' k
        · rintro ⟨e, he, k1, k2⟩
          exact nl ⟨e, he, fun e' h => by rw [← k e' (by omega)]; exact k1 e' h, by rw [← k e he]; exact k2⟩
  · intro k hk ih τ b I hst F q rows
    have e11 : τ 1 11 = nI R := by rw [LI_k I (by omega)]; exact S.rr.2
    obtain ⟨hr, hv, e1, e2⟩ := S.od k hk
    have ck : (nI k).toNatClampNeg = k := nI_clamp (by omega)
    refine kb_67_2 (fun g => absurd g (by rw [e11]; exact hI_nle (by omega) hk)) (fun _ => kb_67_13 (pk_in k 9 (by omega)) (pk_in k 9 (by omega)) ?_)
    rw [ck, LI_k I (by omega), LI_k I (by omega), e1, e2]
    -- where the anchor stands
    have go : ∀ w0, w0 < 4 → (an k < 9 → f_69 (τ (50 + 1 + an k) (od k)) = nI w0) → (9 ≤ an k → w0 = an k - 9) → (∀ i, i < k → an k = od i → w0 = (b (od i) (od k) + 2) % 4) → mD (d + 3) 68 [.ref 7, .int (nI (od k)), .int (nI (an k))] τ (fun v τ => mw (d + 3) mt_67 Q 29 [some (.ref 7), some (.int (nI k))] (v.toList ++ []) τ) := fun w0 w4 s1 s2 s3 => by
      refine c_68s S I hst (four _ hr) hr hv w4 s1 s2 (fun τ' row I' fr RW ev => kb_67_29 ?_)
      rw [nI_1]
      have ne : ∀ j, j < k → od j ≠ od k := fun j hj => S.oj j k hj hk
      refine ih τ' (fun r => if r = od k then row else b r) I' (fun g hg => by rw [fr 47 (by omega)]; exact hst g hg) (FB_cg (by rw [fr 7 (by omega)]) (fr 45 (by omega)) (fun _ => Iff.rfl) F) (fun τ2 b2 I2 f2 => q τ2 b2 I2 (fun c h1 h2 h3 => by rw [f2 c h1 h2 h3]; exact fr c (by have := od9 k hk; omega))) (fun j hj => ?_)
      by_cases ej : j = k
      · subst ej
        refine ⟨by rw [if_pos rfl]; exact RW, fun s s4 es => ?_, fun i hi ei => ?_⟩
        · show (if od j = od j then row else b (od j)) (9 + s) = s
          rw [if_pos rfl, ← es, ev, s2 (by omega)]; omega
        · show (if od j = od j then row else b (od j)) (od i) = ((if od i = od j then row else b (od i)) (od j) + 2) % 4
          have e' : row (od i) = w0 := by rw [← ei]; exact ev
          rw [if_pos rfl, if_neg (ne i hi), e']; exact s3 i hi ei
      · have nj := ne j (by omega)
        obtain ⟨h1, h2, h3⟩ := rows j (by omega)
        have dj := od9 j (by omega)
        refine ⟨?_, fun s s4 es => ?_, fun i hi ei => ?_⟩
        · rw [if_neg nj]
          intro u hu
          obtain ⟨x1, x2, x3⟩ := h1 u hu
          exact ⟨by rw [fr _ (by omega)]; exact x1, x2, x3⟩
        · show (if od j = od k then row else b (od j)) (9 + s) = s
          rw [if_neg nj]; exact h2 s s4 es
        · show (if od j = od k then row else b (od j)) (od i) = ((if od i = od k then row else b (od i)) (od j) + 2) % 4
          rw [if_neg nj, if_neg (ne i (by omega))]; exact h3 i hi ei
    rcases S.oa k hk with ⟨s, s4, e⟩ | ⟨ns, j, hj, e⟩
    · exact go s s4 (fun z => by omega) (fun _ => by omega) (fun i hi ei => by have := od9 i (by omega); omega)
    · have dj := od9 j (by omega)
      have hv' := hv
      rw [e] at hv'
      obtain ⟨x1, x2, _⟩ := (rows j hj).1 (od k) (G.sy _ _ hv')
      refine go ((b (od j) (od k) + 2) % 4) (Nat.mod_lt _ (by decide)) (fun _ => ?_) (fun z => by omega) (fun i hi ei => ?_)
      · rw [e, x1, f69_m x2]
      · have : i = j := by
          rcases Nat.lt_trichotomy i j with z | z | z
          · exact absurd (ei.symm.trans e) (S.oj i j z (by omega))
          · exact z
          · exact absurd (e.symm.trans ei) (S.oj j i z (by omega))
        rw [this]
end CL2
end
section
/-! class: shiftOpen, canBeMet, choose -/
section CL3
variable {τ0 : mm_S} {rm : Nat → Prop} {nr : Nat → Nat → Prop} {Bp lb : Nat → Nat → Nat} {f : Nat} {bd : Nat → Nat → Nat} {R : Nat} {od an : Nat → Nat} {n : Nat} {ja jb : Nat → Nat}
def inF (bd : Nat → Nat → Nat) (g r : Nat) : Prop := r = bd g 0 ∨ r = bd g 1 ∨ r = bd g 2
theorem c_65t {d g : Nat} {Q : mm_Q} {τ : mm_S} {x : Int32} {b0 b1 b2 : Nat} (hg : g < 42) (h0 : b0 < 9 ∧ τ 46 (3 * g) = nI b0) (h1 : b1 < 9 ∧ τ 46 (3 * g + 1) = nI b1) (h2 : b2 < 9 ∧ τ 46 (3 * g + 2) = nI b2) (n1 : b0 ≠ b1) (n2 : b0 ≠ b2) (n3 : b1 ≠ b2) (q : ∀ τ' : mm_S, (∀ c, c ≠ 49 → τ' c = τ c) → (∀ r, r = b0 ∨ r = b1 ∨ r = b2 → τ' 49 r = τ 49 r + x) → (∀ r, ¬ (r = b0 ∨ r = b1 ∨ r = b2) → τ' 49 r = τ 49 r) → Q none τ') : mD (d + 1) 65 [.ref 7, .int (nI g), .int x] τ Q := by
  refine ks_65_0 ?_
  rw [nI_3]
  have c0 : (nI (3 * g)).toNatClampNeg = 3 * g := nI_clamp (by omega)
  have c1 : (nI (3 * g + 1)).toNatClampNeg = 3 * g + 1 := nI_clamp (by omega)
  have c2 : (nI (3 * g + 2)).toNatClampNeg = 3 * g + 2 := nI_clamp (by omega)
  have k0 : (nI b0).toNatClampNeg = b0 := nI_clamp (by omega)
  have k1 : (nI b1).toNatClampNeg = b1 := nI_clamp (by omega)
  have k2 : (nI b2).toNatClampNeg = b2 := nI_clamp (by omega)
  have g0 : ¬ ((3 : Int32) * nI g + 3 ≤ nI (3 * g)) := by rw [nI_3, nI_a3]; exact hI_nle (by omega) (by omega)
  have g1 : ¬ ((3 : Int32) * nI g + 3 ≤ nI (3 * g + 1)) := by rw [nI_3, nI_a3]; exact hI_nle (by omega) (by omega)
  have g2 : ¬ ((3 : Int32) * nI g + 3 ≤ nI (3 * g + 2)) := by rw [nI_3, nI_a3]; exact hI_nle (by omega) (by omega)
  have g3 : (3 : Int32) * nI g + 3 ≤ nI (3 * g + 3) := by rw [nI_3, nI_a3]; exact hI_le (by omega) (Nat.le_refl _)
  refine ks_65_4 (fun _ => pk_in (3 * g) 126 (by omega)) (fun _ => by rw [c0, h0.2]; exact pk_in b0 9 h0.1) (fun z => absurd z g0) (fun _ => ?_)
  rw [c0, h0.2, k0, nI_1]
  refine ks_65_4 (fun _ => pk_in (3 * g + 1) 126 (by omega)) (fun _ => by rw [c1, mm_up_n (by decide), h1.2]; exact pk_in b1 9 h1.1) (fun z => absurd z g1) (fun _ => ?_)
  rw [c1, mm_up_n (show 46 ≠ 49 by decide), h1.2, k1, nI_1]
  refine ks_65_4 (fun _ => pk_in (3 * g + 2) 126 (by omega)) (fun _ => by rw [c2, mm_up_n (by decide), mm_up_n (by decide), h2.2]; exact pk_in b2 9 h2.1) (fun z => absurd z g2) (fun _ => ?_)
  rw [c2, mm_up_n (show 46 ≠ 49 by decide), mm_up_n (show 46 ≠ 49 by decide), h2.2, k2, nI_1]
  refine ks_65_4 (fun z => absurd g3 z) (fun z => absurd g3 z) (fun _ => q _ (fun c hc => by rw [mm_up_n hc, mm_up_n hc, mm_up_n hc]) (fun r hr => ?_) (fun r hr => ?_)) (fun z => absurd g3 z)
  · rcases hr with e | e | e
    · subst e; rw [mm_up_o n2, mm_up_o n1, mm_up_s]
    · subst e; rw [mm_up_o n3, mm_up_s, mm_up_o (fun z => n1 z.symm)]
    · subst e; rw [mm_up_s, mm_up_o (fun z => n3 z.symm), mm_up_o (fun z => n2 z.symm)]
  · rw [mm_up_o (fun e => hr (Or.inr (Or.inr e))), mm_up_o (fun e => hr (Or.inr (Or.inl e))), mm_up_o (fun e => hr (Or.inl e))]
theorem c_66t {d g : Nat} {Q : mm_Q} {τ : mm_S} {bd : Nat → Nat → Nat} {a o : Nat → Nat} (hg : g < 42) (hb : ∀ i, i < 3 → bd g i < 9 ∧ τ 46 (3 * g + i) = nI (bd g i) ∧ τ 48 (bd g i) = nI (a (bd g i)) ∧ τ 49 (bd g i) = nI (o (bd g i)) ∧ a (bd g i) < 50 ∧ o (bd g i) < 50) (q1 : (∀ i, i < 3 → a (bd g i) ≤ o (bd g i)) → Q (some (.int 1)) τ) (q0 : (∃ i, i < 3 ∧ o (bd g i) < a (bd g i)) → Q (some (.int 0)) τ) : mD (d + 1) 66 [.ref 7, .int (nI g)] τ Q := by
  refine ks_66_0 ?_
  rw [nI_3]
  have key := lp_dn (P := fun i => (∀ j, j < i → a (bd g j) ≤ o (bd g j)) → mw d mt_66 Q 4 [some (.ref 7), some (.int (nI g)), some (.int (nI (3 * g + i)))] [] τ) 3 ?_ ?_ 0 (by omega) (fun j hj => absurd hj (Nat.not_lt_zero j))
  · exact key
  · intro h
    have g3 : (3 : Int32) * nI g + 3 ≤ nI (3 * g + 3) := by rw [nI_3, nI_a3]; exact hI_le (by omega) (Nat.le_refl _)
    exact ks_66_4 (fun z => absurd g3 z) (fun z => absurd g3 z) (fun _ => q1 h) (fun z => absurd g3 z) (fun z => absurd g3 z)
  · intro i hi ih h
    have g3 : ¬ ((3 : Int32) * nI g + 3 ≤ nI (3 * g + i)) := by rw [nI_3, nI_a3]; exact hI_nle (by omega) (by omega)
    obtain ⟨x1, x2, x3, x4, x5, x6⟩ := hb i hi
    have e46 : τ 46 (nI (3 * g + i)).toNatClampNeg = nI (bd g i) := by rw [nI_clamp (by omega)]; exact x2
    have ck : (nI (bd g i)).toNatClampNeg = bd g i := nI_clamp (by omega)
    refine ks_66_4 (fun _ => pk_in (3 * g + i) 126 (by omega)) (fun _ => by rw [e46]; exact pk_in _ 9 x1) (fun z => absurd z g3) (fun _ y => ?_) (fun _ y => q0 ⟨i, hi, ?_⟩)
    · rw [nI_1]
      rw [e46, ck, x3, x4] at y
      have y' := (nI_leI (by omega) (by omega)).mp y
      refine ih (fun j hj => ?_)
      by_cases e : j = i
      · rw [e]; exact y'
      · exact h j (by omega)
    · rw [e46, ck, x3, x4] at y
      rcases Nat.lt_or_ge (o (bd g i)) (a (bd g i)) with c | c
      · exact c
      · exact absurd (hI_le (by omega) c) y
noncomputable def cpr (s : Nat → Nat) (g r : Nat) : Nat := ct (fun h => s h = r) g
noncomputable def opn (bd : Nat → Nat → Nat) (f g r : Nat) : Nat := ct (fun h => g ≤ h ∧ inF bd h r) f
noncomputable def ned (nr : Nat → Nat → Prop) (r : Nat) : Nat := dgr nr r - 4
def NEa (rm : Nat → Prop) (nr : Nat → Nat → Prop) (s : Nat → Nat) (g : Nat) (τ : mm_S) : Prop := ∀ r, rm r → cpr s g r ≤ ned nr r ∧ τ 48 r = nI (ned nr r - cpr s g r)
def OPa (rm : Nat → Prop) (bd : Nat → Nat → Nat) (f g : Nat) (τ : mm_S) : Prop := ∀ r, rm r → τ 49 r = nI (opn bd f g r)
def CHv (rm : Nat → Prop) (nr : Nat → Nat → Prop) (bd : Nat → Nat → Nat) (f : Nat) (st : Nat → Nat) : Prop := (∀ h, h < f → inF bd h (st h)) ∧ ∀ r, rm r → ct (fun h => st h = r) f = ned nr r
/-- the vectors of the choices that go on from a beginning -/
def CMP (rm : Nat → Prop) (nr : Nat → Nat → Prop) (Bp lb : Nat → Nat → Nat) (f : Nat) (bd : Nat → Nat → Nat) (R : Nat) (od an : Nat → Nat) (n : Nat) (ja jb : Nat → Nat) (s : Nat → Nat) (g : Nat) (D : Nat → Nat) : Prop := ∃ st b, (∀ h, h < g → st h = s h) ∧ CHv rm nr bd f st ∧ ROa rm nr Bp lb st b ∧ ANa rm nr R od an b ∧ ∀ e, e < n → D e = dvec ja jb b e
theorem opn_s {g r : Nat} (hg : g < f) : opn bd f g r = opn bd f (g + 1) r + ic (inF bd g r) := by
  unfold opn
  have h1 := ct_sp (P := fun h => g ≤ h ∧ inF bd h r) (fun h => h = g) f
  have h2 : ct (fun h => (g ≤ h ∧ inF bd h r) ∧ ¬ h = g) f = ct (fun h => g + 1 ≤ h ∧ inF bd h r) f := ct_cg f (fun h _ => ⟨fun z => ⟨by have := z.2; have := z.1.1; omega, z.1.2⟩, fun z => ⟨⟨by omega, z.2⟩, by omega⟩⟩)
  have h3 : ct (fun h => (g ≤ h ∧ inF bd h r) ∧ h = g) f = ic (inF bd g r) := by
    by_cases c : inF bd g r
    · rw [ic_t c, ct_u (i := g) f hg ⟨⟨Nat.le_refl g, c⟩, rfl⟩ (fun j _ z => z.2)]
    · rw [ic_f c, ct_z (P := fun h => (g ≤ h ∧ inF bd h r) ∧ h = g) f (fun h _ z => c (z.2 ▸ z.1.2))]
  omega
theorem opn_z {r : Nat} : opn bd f f r = 0 := ct_z f (fun h hh z => by omega)
theorem cpr_s {s : Nat → Nat} {g r : Nat} : cpr s (g + 1) r = cpr s g r + ic (s g = r) := rfl
theorem cpr_cg {s s' : Nat → Nat} {g r : Nat} (h : ∀ i, i < g → s i = s' i) : cpr s g r = cpr s' g r := ct_cg g (fun i hi => by rw [h i hi])
/-- a whole choice counts no more than its beginning and what is open -/
theorem cho_le {st s : Nat → Nat} {g r : Nat} (hg : g ≤ f) (h1 : ∀ h, h < g → st h = s h) (h2 : ∀ h, h < f → inF bd h (st h)) : cpr s g r ≤ ct (fun h => st h = r) f ∧ ct (fun h => st h = r) f ≤ cpr s g r + opn bd f g r := by
  have e : ct (fun h => st h = r) f = ct (fun h => st h = r) g + ct (fun i => st (g + i) = r) (f - g) := by
    have := su_cut (f := fun h => ic (st h = r)) g (f - g)
    rw [show g + (f - g) = f by omega] at this
    exact this
  have e1 : ct (fun h => st h = r) g = cpr s g r := ct_cg g (fun i hi => by rw [h1 i hi])
  have e2 : opn bd f g r = ct (fun h => g ≤ h ∧ inF bd h r) g + ct (fun i => g ≤ g + i ∧ inF bd (g + i) r) (f - g) := by
    have := su_cut (f := fun h => ic (g ≤ h ∧ inF bd h r)) g (f - g)
    rw [show g + (f - g) = f by omega] at this
    exact this
  have e3 := ct_le (P := fun i => st (g + i) = r) (Q := fun i => g ≤ g + i ∧ inF bd (g + i) r) (f - g) (fun i hi z => ⟨by omega, by have := h2 (g + i) (by omega); rw [z] at this; exact this⟩)
  omega
theorem c_64t (S : LSd τ0 rm nr Bp lb f bd R od an n ja jb) (dis : ∀ g, g < f → bd g 0 ≠ bd g 1 ∧ bd g 0 ≠ bd g 2 ∧ bd g 1 ≠ bd g 2) (full : ∀ st, CHv rm nr bd f st → ∀ r, rm r → ct (fun u => nr r u ∧ ¬ stq rm Bp lb st r u) 13 = 4) (lone : ∀ r, rm r → (∀ h, h < f → ¬ inF bd h r) → ned nr r = 0) :
    ∀ (e d g : Nat) (Q : mm_Q) (τ : mm_S) (s : Nat → Nat) (W : (Nat → Nat) → Prop), g + e = f → LI τ0 τ → (∀ h, h < g → τ 47 h = nI (s h) ∧ inF bd h (s h)) → NEa rm nr s g τ → OPa rm bd f g τ → (∀ r, rm r → (∃ h, h < g ∧ inF bd h r) → ned nr r - cpr s g r ≤ opn bd f g r) → FB n τ W → (∀ τ', LI τ0 τ' → (∀ h, h < g → τ' 47 h = nI (s h) ∧ inF bd h (s h)) → NEa rm nr s g τ' → OPa rm bd f g τ' → FB n τ' (fun D => W D ∨ CMP rm nr Bp lb f bd R od an n ja jb s g D) → Q none τ') → mD (d + e + 5) 64 [.ref 7, .int (nI g)] τ Q := by
  have G := S.gp
  have f42 := S.fc.1
  have inb : ∀ g i, g < f → i < 3 → inF bd g (bd g i) := fun g i _ hi => by
    rcases (show i = 0 ∨ i = 1 ∨ i = 2 by omega) with e | e | e <;> subst e
    · exact Or.inl rfl
    · exact Or.inr (Or.inl rfl)
    · exact Or.inr (Or.inr rfl)
  have inr : ∀ g r, g < f → inF bd g r → rm r := fun g r hg h => by
    rcases h with h | h | h <;> rw [h]
    · exact (S.bd g 0 hg (by decide)).1
    · exact (S.bd g 1 hg (by decide)).1
    · exact (S.bd g 2 hg (by decide)).1
  have n13 : ∀ r, ned nr r ≤ 13 := fun r => by have : dgr nr r ≤ 13 := ct_n 13; unfold ned; omega
  have o42 : ∀ g r, opn bd f g r ≤ 42 := fun g r => Nat.le_trans (ct_n f) f42
  intro e
  induction e with
  | zero =>
    intro d g Q τ s W hg I pre NE OP ME F q
    have gf : g = f := by omega
    subst gf
    have e56 : τ 5 6 = nI g := by rw [LI_k I (by omega)]; exact S.fc.2
    have ch : CHv rm nr bd g s := ⟨fun h hh => (pre h hh).2, fun r hr => by
      obtain ⟨x1, _⟩ := NE r hr
      show cpr s g r = ned nr r
      by_cases c : ∃ h, h < g ∧ inF bd h r
      · have := ME r hr c
        rw [opn_z] at this
        omega
      · have := lone r hr (fun h hh z => c ⟨h, hh, z⟩)
        omega⟩
    refine ke_64 (kb_64_0 (fun z => absurd z (by rw [e56]; exact nI_nlt (by omega) (by omega))) (fun _ => kb_64_11 (c_67t S I (fun h hh => ⟨(pre h hh).1, G.r9 _ (inr h _ hh (pre h hh).2)⟩) (full s ch) F (fun τ' b I' fr RO AN F' => kb_64_15 (q τ' I' (fun h hh => by rw [fr 47 (by decide) (by decide) (by omega)]; exact pre h hh) (fun r hr => by rw [fr 48 (by decide) (by decide) (by omega)]; exact NE r hr) (fun r hr => by rw [fr 49 (by decide) (by decide) (by omega)]; exact OP r hr) (FB_cg rfl rfl (fun D => ?_) F'))))))
    constructor
    · rintro (z | z)
      · exact Or.inl z
      · exact Or.inr ⟨s, b, fun _ _ => rfl, ch, RO, AN, z⟩
    · rintro (z | ⟨st, b', h1, h2, h3, h4, h5⟩)
      · exact Or.inl z
      · right
        have RO' : ROa rm nr Bp lb s b' := fun r v hr hv => by
          obtain ⟨y1, y2⟩ := h3 r v hr hv
          refine ⟨y1, ?_⟩
          rw [y2]
          have : ic (¬ stq rm Bp lb st r v) = ic (¬ stq rm Bp lb s r v) := ic_cg (by
            unfold stq
            constructor
            · intro z y; exact z ⟨y.1, y.2.1, by rw [h1 _ (S.fo v r y.1 hr hv y.2.1).1]; exact y.2.2⟩
            · intro z y; exact z ⟨y.1, y.2.1, by rw [← h1 _ (S.fo v r y.1 hr hv y.2.1).1]; exact y.2.2⟩)
          rw [this]
        have uq := ro_uq G RO RO' AN h4
        intro e he
        obtain ⟨ra, rb, nab, _, _⟩ := S.je e he
        rw [h5 e he]
        unfold dvec
        rw [uq _ _ ra nab]
  | succ e ih =>
    intro d g Q τ s W hg I pre NE OP ME F q
    have hgf : g < f := by omega
    have e56 : τ 5 6 = nI f := by rw [LI_k I (by omega)]; exact S.fc.2
    obtain ⟨d1, d2, d3⟩ := dis g hgf
    have B := fun i hi => S.bd g i hgf hi
    have b9 : ∀ i, i < 3 → bd g i < 9 := fun i hi => G.r9 _ (B i hi).1
    have r46 : ∀ ρ, LI τ0 ρ → ∀ i, i < 3 → ρ 46 (3 * g + i) = nI (bd g i) := fun ρ I i hi => by rw [LI_k I (by omega)]; exact (B i hi).2
    have sh : ∀ {ρ : mm_S} {x : Int32} {Q' : mm_Q}, LI τ0 ρ → (∀ ρ' : mm_S, (∀ c, c ≠ 49 → ρ' c = ρ c) → (∀ r, inF bd g r → ρ' 49 r = ρ 49 r + x) → (∀ r, ¬ inF bd g r → ρ' 49 r = ρ 49 r) → Q' none ρ') → mD (d + e + 5) 65 [.ref 7, .int (nI g), .int x] ρ Q' := fun {ρ x Q'} I q => c_65t (d := d + e + 4) (by omega) ⟨b9 0 (by decide), r46 ρ I 0 (by decide)⟩ ⟨b9 1 (by decide), r46 ρ I 1 (by decide)⟩ ⟨b9 2 (by decide), r46 ρ I 2 (by decide)⟩ d1 d2 d3 q
    have LI49 : ∀ {ρ ρ' : mm_S}, LI τ0 ρ → (∀ c, c ≠ 49 → ρ' c = ρ c) → LI τ0 ρ' := fun {ρ ρ'} I fr => by
      obtain ⟨i1, i2, i3, i4⟩ := I
      exact ⟨fun c h1 h2 h3 h4 h5 h6 => by rw [fr c h5]; exact i1 c h1 h2 h3 h4 h5 h6, by rw [fr 7 (by decide)]; exact i2, fun r v hr hv => by rw [fr _ (by omega)]; exact i3 r v hr hv, fun e he => by rw [fr 45 (by decide)]; exact i4 e he⟩
    show mD (d + e + 5 + 1) 64 [.ref 7, .int (nI g)] τ Q
    refine ke_64 (kb_64_0 (fun _ => kb_64_16 (sh I (fun τ1 fr1 in1 ou1 => kb_64_22 ?_))) (fun z => absurd (by rw [e56]; exact nI_lt hgf (by omega)) z))
    have I1 := LI49 I fr1
    have OP1 : OPa rm bd f (g + 1) τ1 := fun r hr => by
      by_cases c : inF bd g r
      · rw [in1 r c, OP r hr, opn_s hgf, ic_t c]; exact nI_pm _
      · rw [ou1 r c, OP r hr, opn_s hgf, ic_f c]; rfl
    rw [nI_3]
    have key := lp_dn (P := fun i => ∀ τ, LI τ0 τ → (∀ h, h < g → τ 47 h = nI (s h) ∧ inF bd h (s h)) → NEa rm nr s g τ → OPa rm bd f (g + 1) τ → FB n τ (fun D => W D ∨ ∃ j, j < i ∧ CMP rm nr Bp lb f bd R od an n ja jb (fun h => if h = g then bd g j else s h) (g + 1) D) → ∀ o3, mw (d + e + 5) mt_64 Q 26 [some (.ref 7), some (.int (nI g)), some (.int (nI (3 * g + i))), o3] [] τ) 3 ?_ ?_ 0 (by omega) τ1 I1 (fun h hh => by rw [fr1 47 (by decide)]; exact pre h hh) (fun r hr => by rw [fr1 48 (by decide)]; exact NE r hr) OP1 (FB_cg (by rw [fr1 7 (by decide)]) (fr1 45 (by decide)) (fun D => ⟨fun z => Or.inl z, fun z => z.elim (fun y => y) (fun ⟨j, hj, _⟩ => absurd hj (Nat.not_lt_zero j))⟩) F) none
    · exact key
    · intro τ I pre NE OP F o3
      have g3 : (3 : Int32) * nI g + 3 ≤ nI (3 * g + 3) := by rw [nI_3, nI_a3]; exact hI_le (by omega) (Nat.le_refl _)
      refine kb_64_26 (fun _ => kb_64_99 (sh I (fun τ2 fr2 in2 ou2 => kb_64_105 (q τ2 (LI49 I fr2) (fun h hh => by rw [fr2 47 (by decide)]; exact pre h hh) (fun r hr => by rw [fr2 48 (by decide)]; exact NE r hr) (fun r hr => ?_) (FB_cg (by rw [fr2 7 (by decide)]) (fr2 45 (by decide)) (fun D => ?_) F))))) (fun z => absurd g3 z)
      · by_cases c : inF bd g r
        · rw [in2 r c, OP r hr, opn_s hgf, ic_t c]; exact nI_1 _
        · rw [ou2 r c, OP r hr, opn_s hgf, ic_f c]; rfl
      · constructor
        · rintro (z | ⟨j, hj, st, b, h1, h2, h3, h4, h5⟩)
          · exact Or.inl z
          · exact Or.inr ⟨st, b, fun h hh => (h1 h (by omega)).trans (if_neg (by omega)), h2, h3, h4, h5⟩
        · rintro (z | ⟨st, b, h1, h2, h3, h4, h5⟩)
          · exact Or.inl z
          · right
            have ing := h2.1 g hgf
            have pick : ∃ j, j < 3 ∧ st g = bd g j := by
              rcases ing with y | y | y
              · exact ⟨0, by decide, y⟩
              · exact ⟨1, by decide, y⟩
              · exact ⟨2, by decide, y⟩
            obtain ⟨j, hj, ej⟩ := pick
            refine ⟨j, hj, st, b, fun h hh => ?_, h2, h3, h4, h5⟩
            show st h = if h = g then bd g j else s h
            by_cases c : h = g
            · rw [if_pos c, c]; exact ej
            · rw [if_neg c]; exact h1 h (by omega)
    · intro i hi ihi τ I pre NE OP F o3
      have g3 : ¬ ((3 : Int32) * nI g + 3 ≤ nI (3 * g + i)) := by rw [nI_3, nI_a3]; exact hI_nle (by omega) (by omega)
      have hb := b9 i hi
      have rb := (B i hi).1
      have e46 : τ 46 (nI (3 * g + i)).toNatClampNeg = nI (bd g i) := by rw [nI_clamp (by omega)]; exact r46 τ I i hi
      have iv : vp_in (τ 46 (nI (3 * g + i)).toNatClampNeg) 9 := by rw [e46]; exact pk_in _ 9 hb
      have cb : (nI (bd g i)).toNatClampNeg = bd g i := nI_clamp (by omega)
      have cg : (nI g).toNatClampNeg = g := nI_clamp (by omega)
      obtain ⟨s', hs'⟩ : ∃ s' : Nat → Nat, s' = fun h => if h = g then bd g i else s h := ⟨_, rfl⟩
      have s'g : s' g = bd g i := by rw [hs']; exact if_pos rfl
      have s'h : ∀ h, h < g → s' h = s h := fun h hh => by rw [hs']; exact if_neg (by omega)
      have cp : ∀ r, cpr s' (g + 1) r = cpr s g r + ic (bd g i = r) := fun r => by rw [cpr_s, cpr_cg s'h, s'g]
      obtain ⟨ne1, ne2⟩ := NE _ rb
      -- going on with the next room
      have back : ∀ ρ, LI τ0 ρ → (∀ h, h < g → ρ 47 h = nI (s h) ∧ inF bd h (s h)) → (∀ r, rm r → r ≠ bd g i → ρ 48 r = τ 48 r) → ρ 48 (bd g i) = τ 48 (bd g i) - 1 → OPa rm bd f (g + 1) ρ → FB n ρ (fun D => W D ∨ ∃ j, j < i + 1 ∧ CMP rm nr Bp lb f bd R od an n ja jb (fun h => if h = g then bd g j else s h) (g + 1) D) → mw (d + e + 5) mt_64 Q 83 [some (.ref 7), some (.int (nI g)), some (.int (nI (3 * g + i))), some (.int (nI (bd g i)))] [] ρ := fun ρ I pre h1 h2 OP F => by
        refine kb_64_83 (pk_in _ 9 hb) (pk_in _ 9 hb) ?_
        rw [nI_1, cb, h2, Int32.sub_add_cancel]
        refine ihi _ (LI_o I (by omega)) (fun h hh => by rw [mm_up_n (by decide)]; exact pre h hh) (fun r hr => ?_) (fun r hr => by rw [mm_up_n (by decide)]; exact OP r hr) (FB_cg (by rw [mm_up_n (by decide)]) (by rw [mm_up_n (by decide)]) (fun _ => Iff.rfl) F) _
        refine ⟨(NE r hr).1, ?_⟩
        by_cases c : r = bd g i
        · subst c; rw [mm_up_s]; exact (NE _ hr).2
        · rw [mm_up_o c, h1 r hr c]; exact (NE r hr).2
      have nomore : (∀ D, ¬ CMP rm nr Bp lb f bd R od an n ja jb s' (g + 1) D) → ∀ D, (W D ∨ ∃ j, j < i ∧ CMP rm nr Bp lb f bd R od an n ja jb (fun h => if h = g then bd g j else s h) (g + 1) D) ↔ (W D ∨ ∃ j, j < i + 1 ∧ CMP rm nr Bp lb f bd R od an n ja jb (fun h => if h = g then bd g j else s h) (g + 1) D) := fun no D => by
        constructor
        · rintro (z | ⟨j, hj, z⟩)
          · exact Or.inl z
          · exact Or.inr ⟨j, by omega, z⟩
        · rintro (z | ⟨j, hj, z⟩)
          · exact Or.inl z
          · by_cases c : j = i
            · subst c; rw [hs'] at no; exact absurd z (no D)
            · exact Or.inr ⟨j, by omega, z⟩
      have up47 : ∀ h, h < g → (mm_up (mm_up τ 47 g (nI (bd g i))) 48 (bd g i) (τ 48 (bd g i) - 1)) 47 h = nI (s h) ∧ inF bd h (s h) := fun h hh => by rw [mm_up_n (by decide), mm_up_o (by omega)]; exact pre h hh
      have I2 : LI τ0 (mm_up (mm_up τ 47 g (nI (bd g i))) 48 (bd g i) (τ 48 (bd g i) - 1)) := LI_o (LI_o I (by omega)) (by omega)
      have o48 : ∀ r, rm r → r ≠ bd g i → (mm_up (mm_up τ 47 g (nI (bd g i))) 48 (bd g i) (τ 48 (bd g i) - 1)) 48 r = τ 48 r := fun r _ h => by rw [mm_up_o h, mm_up_n (by decide)]
      have s48 : (mm_up (mm_up τ 47 g (nI (bd g i))) 48 (bd g i) (τ 48 (bd g i) - 1)) 48 (bd g i) = τ 48 (bd g i) - 1 := mm_up_s
      have OP2 : OPa rm bd f (g + 1) (mm_up (mm_up τ 47 g (nI (bd g i))) 48 (bd g i) (τ 48 (bd g i) - 1)) := fun r hr => by rw [mm_up_n (by decide), mm_up_n (by decide)]; exact OP r hr
      have F7 : (mm_up (mm_up τ 47 g (nI (bd g i))) 48 (bd g i) (τ 48 (bd g i) - 1)) 7 8 = τ 7 8 := by rw [mm_up_n (by decide), mm_up_n (by decide)]
      have F45 : (mm_up (mm_up τ 47 g (nI (bd g i))) 48 (bd g i) (τ 48 (bd g i) - 1)) 45 = τ 45 := by rw [mm_up_n (by decide), mm_up_n (by decide)]
      have r48 : (mm_up τ 47 g (nI (bd g i))) 48 (bd g i) = τ 48 (bd g i) := by rw [mm_up_n (by decide)]
      refine kb_64_26 (fun z => absurd z g3) (fun _ => kb_64_35 (pk_in (3 * g + i) 126 (by omega)) (pk_in g 42 (by omega)) iv iv iv (fun z => ?_) (fun z => ?_))
      · rw [e46, cb, cg, r48] at z ⊢
        rw [s48, ne2] at z
        refine back _ I2 up47 o48 s48 OP2 (FB_cg F7 F45 (nomore (fun D ⟨st, b, h1, h2, _⟩ => ?_)) F)
        have a0 : ned nr (bd g i) - cpr s g (bd g i) = 0 := by
          rcases Nat.eq_zero_or_pos (ned nr (bd g i) - cpr s g (bd g i)) with y | y
          · exact y
          · exfalso
            obtain ⟨k, ek⟩ : ∃ k, ned nr (bd g i) - cpr s g (bd g i) = k + 1 := ⟨_, (Nat.succ_pred_eq_of_pos y).symm⟩
            have := n13 (bd g i)
            rw [ek, show nI (k + 1) - 1 = nI k from nI_pred k] at z
            exact absurd z (nI_pos (by omega))
        have := (cho_le (bd := bd) (r := bd g i) (show g + 1 ≤ f by omega) h1 h2.1).1
        rw [cp, ic_t rfl, h2.2 _ rb] at this
        omega
      · rw [e46, cb, cg, r48] at z ⊢
        rw [s48, ne2] at z
        have a1 : 1 ≤ ned nr (bd g i) - cpr s g (bd g i) := by
          rcases Nat.eq_zero_or_pos (ned nr (bd g i) - cpr s g (bd g i)) with y | y
          · exfalso; rw [y] at z; exact z (by decide)
          · exact y
        obtain ⟨k, ek⟩ : ∃ k, ned nr (bd g i) - cpr s g (bd g i) = k + 1 := ⟨_, (Nat.succ_pred_eq_of_pos a1).symm⟩
        have NE2 : NEa rm nr s' (g + 1) (mm_up (mm_up τ 47 g (nI (bd g i))) 48 (bd g i) (τ 48 (bd g i) - 1)) := fun r hr => by
          rw [cp]
          by_cases c : r = bd g i
          · subst c
            rw [ic_t rfl, s48, ne2, ek, show nI (k + 1) - 1 = nI k from nI_pred k]
            exact ⟨by omega, by congr 1; omega⟩
          · rw [ic_f (fun y => c y.symm), o48 r hr c]
            exact NE r hr
        refine kb_64_68 (c_66t (d := d + e + 4) (bd := bd) (a := fun r => ned nr r - cpr s' (g + 1) r) (o := opn bd f (g + 1)) (by omega) (fun j hj => ⟨b9 j hj, r46 _ I2 j hj, (NE2 _ (B j hj).1).2, OP2 _ (B j hj).1, by have := n13 (bd g j); omega, by have := o42 (g + 1) (bd g j); omega⟩) (fun ok => kb_64_73 (fun y => absurd y (by decide)) (fun _ => kb_64_76 ?_)) (fun ⟨j, hj, lt⟩ => kb_64_73 (fun _ => back _ I2 up47 o48 s48 OP2 (FB_cg F7 F45 (nomore (fun D ⟨st, b, h1, h2, _⟩ => ?_)) F)) (fun y => absurd rfl y)))
        · rw [nI_1]
          refine ih d (g + 1) _ _ s' (fun D => W D ∨ ∃ j, j < i ∧ CMP rm nr Bp lb f bd R od an n ja jb (fun h => if h = g then bd g j else s h) (g + 1) D) (by omega) I2 (fun h hh => ?_) NE2 OP2 (fun r hr hh => ?_) (FB_cg F7 F45 (fun _ => Iff.rfl) F) (fun ρ Iρ pρ Nρ Oρ Fρ => back ρ Iρ (fun h hh => by have := pρ h (by omega); rw [s'h h hh] at this; exact this) (fun r hr c => ?_) ?_ Oρ (FB_cg rfl rfl (fun D => ?_) Fρ))
          · by_cases c : h = g
            · subst c
              rw [s'g]
              exact ⟨by rw [mm_up_n (by decide)]; exact mm_up_s, inb h i hgf hi⟩
            · rw [s'h h (by omega)]; exact up47 h (by omega)
          · by_cases c : inF bd g r
            · have : ∃ j, j < 3 ∧ r = bd g j := by
                rcases c with y | y | y
                · exact ⟨0, by decide, y⟩
                · exact ⟨1, by decide, y⟩
                · exact ⟨2, by decide, y⟩
              obtain ⟨j, hj, ej⟩ := this
              rw [ej]; exact ok j hj
            · have nb : bd g i ≠ r := fun y => c (y ▸ inb g i hgf hi)
              rw [cp, ic_f nb, Nat.add_zero]
              have : ∃ h, h < g ∧ inF bd h r := by
                obtain ⟨h, h1, h2⟩ := hh
                by_cases y : h = g
                · rw [y] at h2; exact absurd h2 c
                · exact ⟨h, by omega, h2⟩
              have := ME r hr this
              rw [opn_s hgf, ic_f c] at this
              exact this
          · rw [(Nρ r hr).2, (NE r hr).2, cp, ic_f (fun y => c y.symm)]; rfl
          · rw [(Nρ _ rb).2, ne2, ek, show nI (k + 1) - 1 = nI k from nI_pred k, cp, ic_t rfl]
            congr 1; omega
          · constructor
            · rintro ((y | ⟨j, hj, y⟩) | y)
              · exact Or.inl y
              · exact Or.inr ⟨j, by omega, y⟩
              · rw [hs'] at y; exact Or.inr ⟨i, by omega, y⟩
            · rintro (y | ⟨j, hj, y⟩)
              · exact Or.inl (Or.inl y)
              · by_cases c : j = i
                · subst c; rw [hs']; exact Or.inr y
                · exact Or.inl (Or.inr ⟨j, by omega, y⟩)
        · have := (cho_le (bd := bd) (r := bd g j) (show g + 1 ≤ f by omega) h1 h2.1).2
          rw [h2.2 _ (B j hj).1] at this
          have lt' : opn bd f (g + 1) (bd g j) < ned nr (bd g j) - cpr s' (g + 1) (bd g j) := lt
          omega
end CL3
end
