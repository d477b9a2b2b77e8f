/-! class: the layout, what it finds -/
def LSd (τ0 : mm_S) (rm : Nat → Prop) (nr : Nat → Nat → Prop) (Bp lb : Nat → Nat → Nat) (f : Nat) (bd : Nat → Nat → Nat) (R : Nat) (od an : Nat → Nat) (n : Nat) (ja jb : Nat → Nat) : Prop := (GP rm nr Bp) ∧ (∀ r v, rm r → nr r v → τ0 (21 + 1 + r) v = nI (Bp r v)) ∧ (∀ v r, rm v → rm r → nr r v → rm (Bp r v) → lb v r < f ∧ τ0 (33 + 1 + v) r = nI (lb v r)) ∧ (f ≤ 42 ∧ τ0 5 6 = nI f) ∧ (∀ r, rm r → F153 (τ0 44 r) = nI (dgr nr r)) ∧ (n ≤ 21 ∧ τ0 1 12 = nI n) ∧ (∀ e, e < n → rm (ja e) ∧ rm (jb e) ∧ nr (ja e) (jb e) ∧ τ0 16 e = nI (ja e) ∧ τ0 17 e = nI (jb e)) ∧ (R ≤ 9 ∧ τ0 1 11 = nI R) ∧ (∀ g i, g < f → i < 3 → rm (bd g i) ∧ τ0 46 (3 * g + i) = nI (bd g i)) ∧ (∀ k, k < R → rm (od k) ∧ nr (od k) (an k) ∧ τ0 60 k = nI (od k) ∧ τ0 61 k = nI (an k)) ∧ (∀ i j, i < j → j < R → od i ≠ od j) ∧ (∀ r, rm r → ∃ k, k < R ∧ od k = r) ∧ (∀ k, k < R → (∃ s, s < 4 ∧ an k = 9 + s) ∨ ((∀ s, s < 4 → ¬ nr (od k) (9 + s)) ∧ ∃ j, j < k ∧ an k = od j))
theorem LSd.gp {τ0 : mm_S} {rm : Nat → Prop} {nr : Nat → Nat → Prop} {Bp lb : Nat → Nat → Nat} {f : Nat} {bd : Nat → Nat → Nat} {R : Nat} {od an : Nat → Nat} {n : Nat} {ja jb : Nat → Nat} (h : LSd τ0 rm nr Bp lb f bd R od an n ja jb) : GP rm nr Bp := h.1
theorem LSd.bh {τ0 : mm_S} {rm : Nat → Prop} {nr : Nat → Nat → Prop} {Bp lb : Nat → Nat → Nat} {f : Nat} {bd : Nat → Nat → Nat} {R : Nat} {od an : Nat → Nat} {n : Nat} {ja jb : Nat → Nat} (h : LSd τ0 rm nr Bp lb f bd R od an n ja jb) : ∀ r v, rm r → nr r v → τ0 (21 + 1 + r) v = nI (Bp r v) := h.2.1
theorem LSd.fo {τ0 : mm_S} {rm : Nat → Prop} {nr : Nat → Nat → Prop} {Bp lb : Nat → Nat → Nat} {f : Nat} {bd : Nat → Nat → Nat} {R : Nat} {od an : Nat → Nat} {n : Nat} {ja jb : Nat → Nat} (h : LSd τ0 rm nr Bp lb f bd R od an n ja jb) : ∀ v r, rm v → rm r → nr r v → rm (Bp r v) → lb v r < f ∧ τ0 (33 + 1 + v) r = nI (lb v r) := h.2.2.1
theorem LSd.fc {τ0 : mm_S} {rm : Nat → Prop} {nr : Nat → Nat → Prop} {Bp lb : Nat → Nat → Nat} {f : Nat} {bd : Nat → Nat → Nat} {R : Nat} {od an : Nat → Nat} {n : Nat} {ja jb : Nat → Nat} (h : LSd τ0 rm nr Bp lb f bd R od an n ja jb) : f ≤ 42 ∧ τ0 5 6 = nI f := h.2.2.2.1
theorem LSd.dg {τ0 : mm_S} {rm : Nat → Prop} {nr : Nat → Nat → Prop} {Bp lb : Nat → Nat → Nat} {f : Nat} {bd : Nat → Nat → Nat} {R : Nat} {od an : Nat → Nat} {n : Nat} {ja jb : Nat → Nat} (h : LSd τ0 rm nr Bp lb f bd R od an n ja jb) : ∀ r, rm r → F153 (τ0 44 r) = nI (dgr nr r) := h.2.2.2.2.1
theorem LSd.jn {τ0 : mm_S} {rm : Nat → Prop} {nr : Nat → Nat → Prop} {Bp lb : Nat → Nat → Nat} {f : Nat} {bd : Nat → Nat → Nat} {R : Nat} {od an : Nat → Nat} {n : Nat} {ja jb : Nat → Nat} (h : LSd τ0 rm nr Bp lb f bd R od an n ja jb) : n ≤ 21 ∧ τ0 1 12 = nI n := h.2.2.2.2.2.1
theorem LSd.je {τ0 : mm_S} {rm : Nat → Prop} {nr : Nat → Nat → Prop} {Bp lb : Nat → Nat → Nat} {f : Nat} {bd : Nat → Nat → Nat} {R : Nat} {od an : Nat → Nat} {n : Nat} {ja jb : Nat → Nat} (h : LSd τ0 rm nr Bp lb f bd R od an n ja jb) : ∀ e, e < n → rm (ja e) ∧ rm (jb e) ∧ nr (ja e) (jb e) ∧ τ0 16 e = nI (ja e) ∧ τ0 17 e = nI (jb e) := h.2.2.2.2.2.2.1
theorem LSd.rr {τ0 : mm_S} {rm : Nat → Prop} {nr : Nat → Nat → Prop} {Bp lb : Nat → Nat → Nat} {f : Nat} {bd : Nat → Nat → Nat} {R : Nat} {od an : Nat → Nat} {n : Nat} {ja jb : Nat → Nat} (h : LSd τ0 rm nr Bp lb f bd R od an n ja jb) : R ≤ 9 ∧ τ0 1 11 = nI R := h.2.2.2.2.2.2.2.1
theorem LSd.bd {τ0 : mm_S} {rm : Nat → Prop} {nr : Nat → Nat → Prop} {Bp lb : Nat → Nat → Nat} {f : Nat} {bd : Nat → Nat → Nat} {R : Nat} {od an : Nat → Nat} {n : Nat} {ja jb : Nat → Nat} (h : LSd τ0 rm nr Bp lb f bd R od an n ja jb) : ∀ g i, g < f → i < 3 → rm (bd g i) ∧ τ0 46 (3 * g + i) = nI (bd g i) := h.2.2.2.2.2.2.2.2.1
theorem LSd.od {τ0 : mm_S} {rm : Nat → Prop} {nr : Nat → Nat → Prop} {Bp lb : Nat → Nat → Nat} {f : Nat} {bd : Nat → Nat → Nat} {R : Nat} {od an : Nat → Nat} {n : Nat} {ja jb : Nat → Nat} (h : LSd τ0 rm nr Bp lb f bd R od an n ja jb) : ∀ k, k < R → rm (od k) ∧ nr (od k) (an k) ∧ τ0 60 k = nI (od k) ∧ τ0 61 k = nI (an k) := h.2.2.2.2.2.2.2.2.2.1
theorem LSd.oj {τ0 : mm_S} {rm : Nat → Prop} {nr : Nat → Nat → Prop} {Bp lb : Nat → Nat → Nat} {f : Nat} {bd : Nat → Nat → Nat} {R : Nat} {od an : Nat → Nat} {n : Nat} {ja jb : Nat → Nat} (h : LSd τ0 rm nr Bp lb f bd R od an n ja jb) : ∀ i j, i < j → j < R → od i ≠ od j := h.2.2.2.2.2.2.2.2.2.2.1
theorem LSd.oc {τ0 : mm_S} {rm : Nat → Prop} {nr : Nat → Nat → Prop} {Bp lb : Nat → Nat → Nat} {f : Nat} {bd : Nat → Nat → Nat} {R : Nat} {od an : Nat → Nat} {n : Nat} {ja jb : Nat → Nat} (h : LSd τ0 rm nr Bp lb f bd R od an n ja jb) : ∀ r, rm r → ∃ k, k < R ∧ od k = r := h.2.2.2.2.2.2.2.2.2.2.2.1
theorem LSd.oa {τ0 : mm_S} {rm : Nat → Prop} {nr : Nat → Nat → Prop} {Bp lb : Nat → Nat → Nat} {f : Nat} {bd : Nat → Nat → Nat} {R : Nat} {od an : Nat → Nat} {n : Nat} {ja jb : Nat → Nat} (h : LSd τ0 rm nr Bp lb f bd R od an n ja jb) : ∀ k, k < R → (∃ s, s < 4 ∧ an k = 9 + s) ∨ ((∀ s, s < 4 → ¬ nr (od k) (9 + s)) ∧ ∃ j, j < k ∧ an k = od j) := h.2.2.2.2.2.2.2.2.2.2.2.2
section CL1
variable {τ0 : mm_S} {rm : Nat → Prop} {nr : Nat → Nat → Prop} {Bp lb : Nat → Nat → Nat} {f : Nat} {bd : Nat → Nat → Nat} {R : Nat} {od an : Nat → Nat} {n : Nat} {ja jb : Nat → Nat}
/-- the row of one room -/
def RWb (rm : Nat → Prop) (nr : Nat → Nat → Prop) (Bp lb : Nat → Nat → Nat) (st : Nat → Nat) (τ : mm_S) (r : Nat) (b : Nat → Nat) : Prop := ∀ u, nr r u → τ (50 + 1 + r) u = nI (b u) ∧ b u < 4 ∧ b (Bp r u) = (b u + ic (¬ stq rm Bp lb st r u)) % 4
theorem f50_m {w : Nat} (hw : w < 4) : f_50 (nI w) = nI ((w + 1) % 4) := by
  rw [(f_50_n w hw).1, nx4_mod w hw]
theorem c_68s {d r v w0 : Nat} {Q : mm_Q} {τ : mm_S} {st : Nat → Nat} (S : LSd τ0 rm nr Bp lb f bd R od an n ja jb) (I : LI τ0 τ) (hst : ∀ g, g < f → τ 47 g = nI (st g) ∧ st g < 9) (four : ct (fun u => nr r u ∧ ¬ stq rm Bp lb st r u) 13 = 4) (hr : rm r) (hv : nr r v) (w4 : w0 < 4) (s1 : v < 9 → f_69 (τ (50 + 1 + v) r) = nI w0) (s2 : 9 ≤ v → w0 = v - 9) (q : ∀ τ' b, LI τ0 τ' → (∀ c, c ≠ 50 + 1 + r → τ' c = τ c) → RWb rm nr Bp lb st τ' r b → b v = w0 → Q none τ') : mD (d + 3) 68 [.ref 7, .int (nI r), .int (nI v)] τ Q := by
  have G := S.gp
  have r9 := G.r9 r hr
  have f42 := S.fc.1
  have v13 := (G.lt hv).2
  have cr : (nI r).toNatClampNeg = r := nI_clamp (by omega)
  have cv0 : (nI v).toNatClampNeg = v := nI_clamp (by omega)
  obtain ⟨w, dg, ew0, E⟩ := enu G hv
  obtain ⟨e1, e2, e3, e4, e5⟩ := id E
  rw [enu_ct G E] at four
  have edg : dgr nr r = dg := by
    have h1 : dgr nr r = ct (fun u => nr r u ∧ True) 13 := ct_cg 13 (fun u _ => ⟨fun z => ⟨z, trivial⟩, fun z => z.1⟩)
    rw [h1, enu_ct G E]
    have : ∀ N, ct (fun _ => True) N = N := fun N => by
      induction N with
      | zero => rfl
      | succ N ih => show ct (fun _ => True) N + ic True = N + 1; rw [ih, ic_t trivial]
    exact this dg
  have dg13 : dg ≤ 13 := by rw [← edg]; exact ct_n 13
  obtain ⟨vl, hvl⟩ : ∃ vl : Nat → Nat, vl = fun i => (w0 + ct (fun k => ¬ stq rm Bp lb st r (w k)) i) % 4 := ⟨_, rfl⟩
  have vl4 : ∀ i, vl i < 4 := fun i => by rw [hvl]; exact Nat.mod_lt _ (by decide)
  have vls : ∀ i, vl (i + 1) = (vl i + ic (¬ stq rm Bp lb st r (w i))) % 4 := fun i => by
    rw [hvl]
    show (w0 + (ct (fun k => ¬ stq rm Bp lb st r (w k)) i + ic (¬ stq rm Bp lb st r (w i)))) % 4 = ((w0 + ct (fun k => ¬ stq rm Bp lb st r (w k)) i) % 4 + ic (¬ stq rm Bp lb st r (w i))) % 4
    omega
  have vl0 : vl 0 = w0 := by rw [hvl]; show (w0 + 0) % 4 = w0; omega
  have vld : vl dg = w0 := by rw [hvl]; show (w0 + ct (fun k => ¬ stq rm Bp lb st r (w k)) dg) % 4 = w0; rw [four]; omega
  have loop : ∀ (ρ : mm_S) (x2 : Int32) (o6 : Option Value), LI τ0 ρ → (∀ c, c ≠ 50 + 1 + r → ρ c = τ c) → mw (d + 2) mt_68 Q 42 [some (.ref 7), some (.int (nI r)), some (.int x2), some (.int (nI (vl 0))), some (.int (nI (w 0))), some (.int (nI dg)), o6] [] ρ := by
    intro ρ x2 o6 I fr
    have := lp_dn (P := fun i => ∀ (ρ : mm_S) (o6 : Option Value), LI τ0 ρ → (∀ c, c ≠ 50 + 1 + r → ρ c = τ c) → (∀ j, j < i → ρ (50 + 1 + r) (w j) = nI (vl j)) → mw (d + 2) mt_68 Q 42 [some (.ref 7), some (.int (nI r)), some (.int x2), some (.int (nI (vl i))), some (.int (nI (w i))), some (.int (nI (dg - i))), o6] [] ρ) dg ?_ ?_ 0 (Nat.zero_le dg) ρ o6 I fr (fun j hj => absurd hj (Nat.not_lt_zero j))
    · rw [Nat.sub_zero] at this; exact this
    · intro ρ o6 I fr ro
      rw [Nat.sub_self]
      refine ks_68_42 (fun g => absurd (by decide) g) (fun g => absurd (by decide) g) (fun g => absurd (by decide) g) (fun g => absurd (by decide) g) (fun g => absurd (by decide) g) (fun _ => ?_) (fun g => absurd (by decide) g) (fun g => absurd (by decide) g)
      -- the row as a function of the node
      have ex : ∀ u, ∃ k, nr r u → k < dg ∧ w k = u := fun u => by
        by_cases h : nr r u
        · obtain ⟨k, h1, h2⟩ := e5 u h; exact ⟨k, fun _ => ⟨h1, h2⟩⟩
        · exact ⟨0, fun z => absurd z h⟩
      obtain ⟨ix, hix⟩ : ∃ ix : Nat → Nat, ∀ u, nr r u → ix u < dg ∧ w (ix u) = u := ⟨fun u => (ex u).choose, fun u => (ex u).choose_spec⟩
      have uq : ∀ i j, i < dg → j < dg → w i = w j → i = j := fun i j hi hj e => by
        rcases Nat.lt_trichotomy i j with z | z | z
        · exact absurd e (e4 i j z hj)
        · exact z
        · exact absurd e.symm (e4 j i z hi)
      refine q ρ (fun u => vl (ix u)) I fr (fun u hu => ?_) ?_
      · obtain ⟨h1, h2⟩ := hix u hu
        refine ⟨by have := ro (ix u) h1; rw [h2] at this; exact this, vl4 _, ?_⟩
        obtain ⟨h3, h4⟩ := hix _ (G.nx r u hu)
        show vl (ix (Bp r u)) = (vl (ix u) + ic (¬ stq rm Bp lb st r u)) % 4
        have e : w (ix u + 1) = Bp r u := by rw [(e1 _).2, h2]
        have s := vls (ix u)
        rw [h2] at s
        rw [← s]
        by_cases c : ix u + 1 < dg
        · rw [uq _ _ h3 c (h4.trans e.symm)]
        · have ed : ix u + 1 = dg := by omega
          rw [ed, vld]
          have : ix (Bp r u) = 0 := uq _ _ h3 (by omega) (by rw [h4, ← e, ed]; exact e3)
          rw [this, vl0]
      · obtain ⟨h1, h2⟩ := hix v hv
        show vl (ix v) = w0
        rw [uq (ix v) 0 h1 (by omega) (h2.trans ew0.symm), vl0]
    · intro i hi ih ρ o6 I fr ro
      have ni := (e1 i).1
      have wi13 := (G.lt ni).2
      have cv : (nI (w i)).toNatClampNeg = w i := nI_clamp (by omega)
      have I' := LI_b (v := w i) I r9 (vl4 i)
      have nw := G.nx r _ ni
      have g13 := (G.lt nw).2
      have rd : (mm_up ρ (50 + 1 + r) (w i) (nI (vl i))) (21 + 1 + r) (w i) = nI (w (i + 1)) := by
        rw [I'.1 _ (by omega) (by omega) (by omega) (by omega) (by omega) (by omega), (e1 i).2]; exact S.bh r _ hr ni
      have lt9 : ∀ a, a < 13 → ¬ ((9 : Int32) ≤ nI a) → a < 9 := fun a ha h => by
        rcases Nat.lt_or_ge a 9 with y | y
        · exact y
        · exact absurd (hI_le (a := 9) (by omega) y) h
      have w1 : w (i + 1) = Bp r (w i) := (e1 i).2
      have face : w i < 9 → w (i + 1) < 9 → rm (w i) ∧ rm (Bp r (w i)) ∧ lb (w i) r < f ∧ (mm_up ρ (50 + 1 + r) (w i) (nI (vl i))) (33 + 1 + w i) r = nI (lb (w i) r) := fun h1 h2 => by
        have ra := G.room (G.sy _ _ ni) h1
        have rb := G.room (G.sy _ _ nw) (by rw [← w1]; exact h2)
        have fo := S.fo _ _ ra hr ni rb
        exact ⟨ra, rb, fo.1, by rw [I'.1 _ (by omega) (by omega) (by omega) (by omega) (by omega) (by omega)]; exact fo.2⟩
      -- the corner
      have cor : f_70 (mm_up ρ (50 + 1 + r) (w i) (nI (vl i))) (nI r) (nI (w i)) (nI (w (i + 1))) = 0 ↔ stq rm Bp lb st r (w i) := by
        unfold f_70
        by_cases h1 : (9 : Int32) ≤ nI (w i)
        · rw [if_pos h1]
          refine ⟨fun z => absurd z (by decide), fun z => ?_⟩
          have := G.r9 _ z.1
          exact absurd h1 (hI_nle (a := 9) (by omega) this)
        · rw [if_neg h1]
          have a9 := lt9 _ wi13 h1
          by_cases h2 : (9 : Int32) ≤ nI (w (i + 1))
          · rw [if_pos h2]
            refine ⟨fun z => absurd z (by decide), fun z => ?_⟩
            have := G.r9 _ z.2.1
            rw [w1] at h2
            exact absurd h2 (hI_nle (a := 9) (by omega) this)
          · rw [if_neg h2]
            have b9 := lt9 _ (by rw [w1]; exact g13) h2
            obtain ⟨ra, rb, lf, ef⟩ := face a9 b9
            rw [cv, cr, ef, nI_clamp (by omega), mm_up_n (by omega), fr 47 (by omega), (hst _ lf).1]
            have s9 := (hst _ lf).2
            by_cases h3 : st (lb (w i) r) = r
            · rw [h3, if_pos rfl]; exact ⟨fun _ => ⟨ra, rb, h3⟩, fun _ => rfl⟩
            · rw [if_neg (fun z => h3 (nI9 s9 r9 z))]
              exact ⟨fun z => absurd z (by decide), fun z => absurd z.2.2 h3⟩
      have nxt' : ∀ x : Nat, x = vl (i + 1) → mw (d + 2) mt_68 Q 42 [some (.ref 7), some (.int (nI r)), some (.int x2), some (.int (nI x)), some (.int (nI (w (i + 1)))), some (.int (nI (dg - (i + 1)))), some (.int (nI (w (i + 1))))] [] (mm_up ρ (50 + 1 + r) (w i) (nI (vl i))) := fun x ex => by
        rw [ex]
        refine ih _ _ I' (fun c hc => by rw [mm_up_n hc]; exact fr c hc) (fun j hj => ?_)
        by_cases ej : j = i
        · subst ej; exact mm_up_s
        · have ne : w j ≠ w i := e4 j i (by omega) hi
          rw [mm_up_o ne]; exact ro j (by omega)
      have ck : nI (dg - i) + (-1) = nI (dg - (i + 1)) := by
        rw [show dg - i = dg - (i + 1) + 1 by omega]; exact nI_pm _
      refine ks_68_42 (fun _ => pk_in r 9 r9) (fun _ => pk_in (w i) 13 wi13) (fun _ a _ => pk_in (w i) 9 (lt9 _ wi13 a)) (fun _ _ _ => pk_in r 9 r9) (fun _ a b => ?_) (fun z => absurd z (nI_nle (by omega) (by omega))) (fun _ z => ?_) (fun _ z => ?_)
      · rw [cr, cv, rd] at b
        have a9 := lt9 _ wi13 a
        have b9 := lt9 _ (by rw [w1]; exact g13) b
        obtain ⟨_, _, lf, ef⟩ := face a9 b9
        rw [cr, cv, ef]
        exact pk_in (lb (w i) r) 42 (by omega)
      · rw [cr, cv, rd] at z ⊢
        rw [ck]
        refine nxt' _ ?_
        rw [vls i, ic_f (fun y => y (cor.mp z))]
        have := vl4 i
        omega
      · rw [cr, cv, rd] at z ⊢
        rw [ck, f50_m (vl4 i)]
        refine nxt' _ ?_
        rw [vls i, ic_t (fun y => z (cor.mpr y))]
  have eF : F153 (τ 44 (nI r).toNatClampNeg) = nI dg := by rw [cr, I.1 44 (by decide) (by decide) (by decide) (by decide) (by decide) (by omega), S.dg r hr, edg]
  refine ks_68_0 (fun z => pk_in v 9 ?_) (fun _ => pk_in r 13 (by omega)) (fun _ => pk_in r 13 (by omega)) (fun z => ?_) (fun z => ?_)
  · exact (nI_ltI (b := 9) (by omega) (by omega)).mp z
  · have v9 : v < 9 := (nI_ltI (b := 9) (by omega) (by omega)).mp z
    rw [eF, cr, cv0, s1 v9]
    have := loop τ (nI v) none I (fun _ _ => rfl)
    rw [vl0, ew0] at this
    exact this
  · have v9 : 9 ≤ v := by
      rcases Nat.lt_or_ge v 9 with y | y
      · exact absurd ((nI_ltI (b := 9) (by omega) (by omega)).mpr y) z
      · exact y
    rw [eF, show nI v - (9 : Int32) = nI w0 by rw [s2 v9]; exact nI_sub (b := 9) v9]
    have := loop τ (nI v) none I (fun _ _ => rfl)
    rw [vl0, ew0] at this
    exact this
end CL1
