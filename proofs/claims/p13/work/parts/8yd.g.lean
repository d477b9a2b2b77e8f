section
/-! the vectors that agree with cuts are the layouts' vectors -/
variable {rm : Nat → Prop} {nr : Nat → Nat → Prop} {Bp : Nat → Nat → Nat} {n : Nat} {ja jb zz : Nat → Nat} {en : Nat → Nat → Nat}
theorem blk_c (a b u i : Nat) : (blk a b u i = 0 ∧ i < a) ∨ (blk a b u i = 1 ∧ a ≤ i ∧ i < a + b) ∨ (blk a b u i = 2 ∧ a + b ≤ i ∧ i < a + b + u) ∨ (blk a b u i = 3 ∧ a + b + u ≤ i) := by
  unfold blk
  by_cases h1 : i < a
  · rw [if_pos h1]; omega
  · rw [if_neg h1]
    by_cases h2 : i < a + b
    · rw [if_pos h2]; omega
    · rw [if_neg h2]
      by_cases h3 : i < a + b + u
      · rw [if_pos h3]; omega
      · rw [if_neg h3]; omega
theorem mono_blk {f : Nat → Nat} {z s : Nat} (hs : s < z) (f0 : f 0 = 0) (mo : ∀ k, k + 1 < z → f k ≤ f (k + 1)) (f4 : ∀ k, k < z → f k < 4) (hit : ∀ q, q < 4 → ∃ k, k < z ∧ f k = q) : ∃ a b u, cok z s a b u ∧ ∀ k, k < z → f k = blk a b u k := by
  have mono : ∀ d k, k + d < z → f k ≤ f (k + d) := by
    intro d
    induction d with
    | zero => intro k _; exact Nat.le_refl _
    | succ d ih => intro k h; exact Nat.le_trans (ih k (by omega)) (mo (k + d) (by omega))
  have mn : ∀ k l, k ≤ l → l < z → f k ≤ f l := fun k l h1 h2 => by have := mono (l - k) k (by omega); rw [show k + (l - k) = l by omega] at this; exact this
  have fst : ∀ q, q < 4 → ∃ x, x < z ∧ (∀ k, k < z → (q ≤ f k ↔ x ≤ k)) := fun q hq => by
    obtain ⟨k0, k1, k2⟩ := hit q hq
    obtain ⟨x, hx, lx⟩ := ex_min (P := fun k => k < z ∧ q ≤ f k) ⟨k0, k1, by omega⟩
    refine ⟨x, hx.1, fun k hk => ⟨fun h => ?_, fun h => Nat.le_trans hx.2 (mn x k h hk)⟩⟩
    rcases Nat.lt_or_ge k x with c | c
    · exact absurd ⟨hk, h⟩ (lx k c)
    · exact c
  obtain ⟨x1, z1, p1⟩ := fst 1 (by decide)
  obtain ⟨x2, z2, p2⟩ := fst 2 (by decide)
  obtain ⟨x3, z3, p3⟩ := fst 3 (by decide)
  obtain ⟨k1, l1, e1⟩ := hit 1 (by decide)
  obtain ⟨k2, l2, e2⟩ := hit 2 (by decide)
  have a0 := p1 0 (by omega)
  have a1 := p1 k1 l1
  have a2 := p2 k1 l1
  have a3 := p2 k2 l2
  have a4 := p3 k2 l2
  refine ⟨x1, x2 - x1, x3 - x2, ⟨hs, by omega, by omega, by omega, by omega⟩, fun k hk => ?_⟩
  have b1 := p1 k hk
  have b2 := p2 k hk
  have b3 := p3 k hk
  have b4 := f4 k hk
  have := blk_c x1 (x2 - x1) (x3 - x2) k
  omega
/-- the node that an entry of room r's ring stands for -/
def ndo (n : Nat) (ja jb : Nat → Nat) (r w : Nat) : Nat := if w < n then (if ja w = r then jb w else ja w) else w - 32
def RX (rm : Nat → Prop) (nr : Nat → Nat → Prop) (Bp : Nat → Nat → Nat) (n : Nat) (ja jb zz : Nat → Nat) (en : Nat → Nat → Nat) : Prop := (GP rm nr Bp) ∧ (n ≤ 21) ∧ (∀ r i, rm r → i < zz r → (en r i < n ∧ (ja (en r i) = r ∨ jb (en r i) = r)) ∨ ∃ s', s' < 4 ∧ en r i = 41 + s') ∧ (∀ r, rm r → ENU nr Bp r (fun i => ndo n ja jb r (en r (i % zz r))) (zz r)) ∧ (∀ k, k < n → rm (ja k) ∧ rm (jb k) ∧ ja k ≠ jb k) ∧ (∀ k l, k < n → l < n → ((ja k = ja l ∧ jb k = jb l) ∨ (ja k = jb l ∧ jb k = ja l)) → k = l) ∧ (∀ k, k < n → inR zz en (ja k) k ∧ inR zz en (jb k) k)
theorem RX.gp {rm : Nat → Prop} {nr : Nat → Nat → Prop} {Bp : Nat → Nat → Nat} {n : Nat} {ja jb zz : Nat → Nat} {en : Nat → Nat → Nat} (h : RX rm nr Bp n ja jb zz en) : GP rm nr Bp := h.1
theorem RX.n21 {rm : Nat → Prop} {nr : Nat → Nat → Prop} {Bp : Nat → Nat → Nat} {n : Nat} {ja jb zz : Nat → Nat} {en : Nat → Nat → Nat} (h : RX rm nr Bp n ja jb zz en) : n ≤ 21 := h.2.1
theorem RX.kd {rm : Nat → Prop} {nr : Nat → Nat → Prop} {Bp : Nat → Nat → Nat} {n : Nat} {ja jb zz : Nat → Nat} {en : Nat → Nat → Nat} (h : RX rm nr Bp n ja jb zz en) : ∀ r i, rm r → i < zz r → (en r i < n ∧ (ja (en r i) = r ∨ jb (en r i) = r)) ∨ ∃ s', s' < 4 ∧ en r i = 41 + s' := h.2.2.1
theorem RX.eu {rm : Nat → Prop} {nr : Nat → Nat → Prop} {Bp : Nat → Nat → Nat} {n : Nat} {ja jb zz : Nat → Nat} {en : Nat → Nat → Nat} (h : RX rm nr Bp n ja jb zz en) : ∀ r, rm r → ENU nr Bp r (fun i => ndo n ja jb r (en r (i % zz r))) (zz r) := h.2.2.2.1
theorem RX.je {rm : Nat → Prop} {nr : Nat → Nat → Prop} {Bp : Nat → Nat → Nat} {n : Nat} {ja jb zz : Nat → Nat} {en : Nat → Nat → Nat} (h : RX rm nr Bp n ja jb zz en) : ∀ k, k < n → rm (ja k) ∧ rm (jb k) ∧ ja k ≠ jb k := h.2.2.2.2.1
theorem RX.ju {rm : Nat → Prop} {nr : Nat → Nat → Prop} {Bp : Nat → Nat → Nat} {n : Nat} {ja jb zz : Nat → Nat} {en : Nat → Nat → Nat} (h : RX rm nr Bp n ja jb zz en) : ∀ k l, k < n → l < n → ((ja k = ja l ∧ jb k = jb l) ∨ (ja k = jb l ∧ jb k = ja l)) → k = l := h.2.2.2.2.2.1
theorem RX.al {rm : Nat → Prop} {nr : Nat → Nat → Prop} {Bp : Nat → Nat → Nat} {n : Nat} {ja jb zz : Nat → Nat} {en : Nat → Nat → Nat} (h : RX rm nr Bp n ja jb zz en) : ∀ k, k < n → inR zz en (ja k) k ∧ inR zz en (jb k) k := h.2.2.2.2.2.2
theorem rx_a (X : RX rm nr Bp n ja jb zz en) {sd : Nat → Nat → Nat} (Y : LYa rm nr Bp sd) {r : Nat} (hr : rm r) : ∃ s a b u, cok (zz r) s a b u ∧ FTS zz en ja n r s a b u (dvec ja jb sd) := by
  obtain ⟨w, dg, E, w0, mo⟩ := lay_enu X.gp Y hr (show 0 < 4 by decide)
  have E' := X.eu r hr
  obtain ⟨z, hz⟩ : ∃ z, z = zz r := ⟨_, rfl⟩
  rw [← hz] at E'
  have ed : dg = z := by
    have h1 := enu_ct X.gp E (fun _ => True)
    have h2 := enu_ct X.gp E' (fun _ => True)
    rw [ct_T] at h1 h2
    exact h1.symm.trans h2
  subst ed
  obtain ⟨s, hs, es⟩ := E'.2.2.2.2 (w 0) (E.1 0).1
  have same : ∀ k, w k = ndo n ja jb r (en r ((s + k) % dg)) := by
    intro k
    induction k with
    | zero => exact es.symm
    | succ k ih =>
      rw [(E.1 k).2, ih]
      exact ((E'.1 (s + k)).2).symm
  have q4 : ∀ k, sd r (w k) < 4 := fun k => Y.lt r (w k) hr (E.1 k).1
  have m4 : ∀ k, (sd r (w k) + 4 - 0) % 4 = sd r (w k) := fun k => by have := q4 k; omega
  obtain ⟨a, b, u, hc, hf⟩ := mono_blk (f := fun k => sd r (w k)) hs (by have := m4 0; omega) (fun k hk => by have := mo k hk; rw [m4, m4] at this; exact this) (fun k _ => q4 k) (fun q hq => by
    obtain ⟨v, hv, ev, _⟩ := Y.on r q hr hq
    obtain ⟨k, hk, e⟩ := E.2.2.2.2 v hv
    exact ⟨k, hk, by show sd r (w k) = q; rw [e]; exact ev⟩)
  refine ⟨s, a, b, u, by rw [← hz]; exact hc, fun i hi => ?_⟩
  rw [← hz] at hi ⊢
  have ml : (s + i) % dg < dg := Nat.mod_lt _ (by omega)
  have hfi : sd r (w i) = blk a b u i := hf i hi
  have nri := (E.1 i).1
  rw [same i] at hfi nri
  have key := X.kd r ((s + i) % dg) hr (by rw [← hz]; exact ml)
  clear same
  generalize en r ((s + i) % dg) = x at hfi nri key ⊢
  have n21 := X.n21
  refine ⟨fun hx => ?_, fun s' h4 e => ?_⟩
  · obtain ⟨_, ends⟩ := key.resolve_right (fun ⟨s', _, e⟩ => by omega)
    obtain ⟨ra, rb, ne⟩ := X.je x hx
    unfold ndo at hfi nri
    rw [if_pos hx] at hfi nri
    unfold dvec dro
    by_cases c : ja x = r
    · rw [if_pos c] at hfi nri
      rw [if_pos c, ← hfi, c]
    · have c' := ends.resolve_left c
      rw [if_neg c] at hfi nri
      rw [if_neg c, ← hfi, c']
      rw [Y.op r (ja x) hr ra nri]
  · unfold ndo at hfi nri
    rw [if_neg (by omega), show x - 32 = 9 + s' by omega] at hfi nri
    rw [Y.sd r s' hr h4 nri] at hfi
    exact hfi
theorem dv_ij {x y : Nat} (hx : x < 4) (hy : y < 4) (h : dv x = dv y) : x = y := by
  rcases (show x = 0 ∨ x = 1 ∨ x = 2 ∨ x = 3 by omega) with e | e | e | e <;> rcases (show y = 0 ∨ y = 1 ∨ y = 2 ∨ y = 3 by omega) with e' | e' | e' | e' <;> subst e <;> subst e' <;> first | rfl | exact absurd h (by decide)
/-- a cut gives the sides of a room's nodes -/
theorem cut_sd {r z s a b u : Nat} {w : Nat → Nat} (E : ENU nr Bp r w z) (per : ∀ x, w x = w (x % z)) (hc : cok z s a b u) : ∃ g : Nat → Nat, (∀ i, i < z → g (w (s + i)) = blk a b u i) ∧ (∀ v, nr r v → ∃ i, i < z ∧ v = w (s + i)) ∧ (∀ v, nr r v → g v < 4) ∧ (∀ v, nr r v → g (Bp r v) = g v ∨ g (Bp r v) = (g v + 1) % 4) ∧ ∀ q, q < 4 → ∃ v, nr r v ∧ g v = q ∧ g (Bp r v) = (q + 1) % 4 ∧ ∀ v', nr r v' → g v' = q → g (Bp r v') = (q + 1) % 4 → v' = v := by
  obtain ⟨h1, z1, hz, inj, sur⟩ := E
  obtain ⟨hs, ha, hb, hu, hsum⟩ := hc
  have ij : ∀ i j, i < z → j < z → w (s + i) = w (s + j) → i = j := fun i j hi hj e => by
    rw [per (s + i), per (s + j)] at e
    have m1 : (s + i) % z < z := Nat.mod_lt _ (by omega)
    have m2 : (s + j) % z < z := Nat.mod_lt _ (by omega)
    have em : (s + i) % z = (s + j) % z := by
      rcases Nat.lt_trichotomy ((s + i) % z) ((s + j) % z) with c | c | c
      · exact absurd e (inj _ _ c m2)
      · exact c
      · exact absurd e.symm (inj _ _ c m1)
    rcases Nat.lt_or_ge (s + i) z with c | c <;> rcases Nat.lt_or_ge (s + j) z with c' | c'
    · rw [Nat.mod_eq_of_lt c, Nat.mod_eq_of_lt c'] at em; omega
    · rw [Nat.mod_eq_of_lt c, Nat.mod_eq_sub_mod c', Nat.mod_eq_of_lt (by omega)] at em; omega
    · rw [Nat.mod_eq_sub_mod c, Nat.mod_eq_of_lt (show s + i - z < z by omega), Nat.mod_eq_of_lt c'] at em; omega
    · rw [Nat.mod_eq_sub_mod c, Nat.mod_eq_of_lt (show s + i - z < z by omega), Nat.mod_eq_sub_mod c', Nat.mod_eq_of_lt (by omega)] at em; omega
  have all : ∀ v, nr r v → ∃ i, i < z ∧ v = w (s + i) := fun v hv => by
    obtain ⟨k, hk, e⟩ := sur v hv
    refine ⟨(k + z - s) % z, Nat.mod_lt _ (by omega), ?_⟩
    rw [per (s + (k + z - s) % z), Nat.add_mod_mod, show s + (k + z - s) = k + z by omega, Nat.add_mod_right, Nat.mod_eq_of_lt hk]
    exact e.symm
  obtain ⟨g, hg⟩ : ∃ g : Nat → Nat, ∀ i, i < z → g (w (s + i)) = blk a b u i := by
    refine ⟨fun v => blk a b u (if h : ∃ i, i < z ∧ w (s + i) = v then Classical.choose h else 0), fun i hi => ?_⟩
    have h : ∃ j, j < z ∧ w (s + j) = w (s + i) := ⟨i, hi, rfl⟩
    show blk a b u (if h : ∃ j, j < z ∧ w (s + j) = w (s + i) then Classical.choose h else 0) = blk a b u i
    rw [dif_pos h]
    obtain ⟨c1, c2⟩ := Classical.choose_spec h
    rw [ij _ i c1 hi c2]
  have w0 : w (s + z) = w (s + 0) := by rw [per (s + z), per (s + 0), Nat.add_mod_right]; rfl
  have nx : ∀ i, i < z → g (Bp r (w (s + i))) = blk a b u (if i + 1 < z then i + 1 else 0) := fun i hi => by
    rw [← (h1 (s + i)).2]
    by_cases c : i + 1 < z
    · rw [if_pos c]; exact hg (i + 1) c
    · rw [if_neg c, show s + i + 1 = s + z by omega, w0]; exact hg 0 (by omega)
  have nx' : ∀ i, i < z → (i + 1 < z ∧ g (Bp r (w (s + i))) = blk a b u (i + 1)) ∨ (i + 1 = z ∧ g (Bp r (w (s + i))) = blk a b u 0) := fun i hi => by
    rw [nx i hi]
    by_cases c : i + 1 < z
    · rw [if_pos c]; exact Or.inl ⟨c, rfl⟩
    · rw [if_neg c]; exact Or.inr ⟨by omega, rfl⟩
  refine ⟨g, hg, all, fun v hv => ?_, fun v hv => ?_, fun q hq => ?_⟩
  · obtain ⟨i, hi, e⟩ := all v hv
    rw [e, hg i hi]; exact blk_4 a b u i
  · obtain ⟨i, hi, e⟩ := all v hv
    rw [e, hg i hi]
    have c1 := blk_c a b u i
    have c2 := blk_c a b u (i + 1)
    have c3 := blk_c a b u 0
    rcases nx' i hi with ⟨y, e'⟩ | ⟨y, e'⟩ <;> rw [e'] <;> omega
  · obtain ⟨i, hi, hx⟩ : ∃ i, i < z ∧ ((q = 0 ∧ i + 1 = a) ∨ (q = 1 ∧ i + 1 = a + b) ∨ (q = 2 ∧ i + 1 = a + b + u) ∨ (q = 3 ∧ i + 1 = z)) := by
      rcases (show q = 0 ∨ q = 1 ∨ q = 2 ∨ q = 3 by omega) with e | e | e | e
      · exact ⟨a - 1, by omega, by omega⟩
      · exact ⟨a + b - 1, by omega, by omega⟩
      · exact ⟨a + b + u - 1, by omega, by omega⟩
      · exact ⟨z - 1, by omega, by omega⟩
    have c1 := blk_c a b u i
    have c2 := blk_c a b u (i + 1)
    have c3 := blk_c a b u 0
    refine ⟨w (s + i), (h1 (s + i)).1, by rw [hg i hi]; omega, ?_, fun v' hv' e1 e2 => ?_⟩
    · rcases nx' i hi with ⟨y, e'⟩ | ⟨y, e'⟩ <;> rw [e'] <;> omega
    · obtain ⟨j, hj, e⟩ := all v' hv'
      rw [e] at e1 e2 ⊢
      rw [hg j hj] at e1
      have d1 := blk_c a b u j
      have d2 := blk_c a b u (j + 1)
      have : j = i := by
        rcases nx' j hj with ⟨y, e'⟩ | ⟨y, e'⟩ <;> rw [e'] at e2 <;> omega
      rw [this]
theorem rx_b (X : RX rm nr Bp n ja jb zz en) {D : Nat → Nat} (H : ∀ r, rm r → ∃ s a b u, cok (zz r) s a b u ∧ FTS zz en ja n r s a b u D) : ∃ sd, LYa rm nr Bp sd ∧ ∀ k, k < n → D k = dvec ja jb sd k := by
  have n21 := X.n21
  have H' : ∀ r, ∃ g : Nat → Nat, rm r → (∀ j, j < zz r → (en r j < n → D (en r j) = dro ja (en r j) r (g (ndo n ja jb r (en r j)))) ∧ ∀ s', s' < 4 → en r j = 41 + s' → g (ndo n ja jb r (en r j)) = s') ∧ (∀ v, nr r v → ∃ j, j < zz r ∧ v = ndo n ja jb r (en r j)) ∧ (∀ v, nr r v → g v < 4) ∧ (∀ v, nr r v → g (Bp r v) = g v ∨ g (Bp r v) = (g v + 1) % 4) ∧ ∀ q, q < 4 → ∃ v, nr r v ∧ g v = q ∧ g (Bp r v) = (q + 1) % 4 ∧ ∀ v', nr r v' → g v' = q → g (Bp r v') = (q + 1) % 4 → v' = v := fun r => by
    by_cases hr : rm r
    · obtain ⟨s, a, b, u, hc, F⟩ := H r hr
      have zp : 0 < zz r := by have := hc.1; omega
      obtain ⟨g, g1, g2, g3, g4, g5⟩ := cut_sd (X.eu r hr) (fun x => by show ndo n ja jb r (en r (x % zz r)) = ndo n ja jb r (en r (x % zz r % zz r)); rw [Nat.mod_mod]) hc
      refine ⟨g, fun _ => ⟨fun j hj => ?_, fun v hv => ?_, g3, g4, g5⟩⟩
      · have hs := hc.1
        have ei : (s + (j + zz r - s) % zz r) % zz r = j := by
          rw [Nat.add_mod_mod, show s + (j + zz r - s) = j + zz r by omega, Nat.add_mod_right, Nat.mod_eq_of_lt hj]
        have a1 := F ((j + zz r - s) % zz r) (Nat.mod_lt _ zp)
        have a2 := g1 ((j + zz r - s) % zz r) (Nat.mod_lt _ zp)
        rw [ei] at a1 a2
        rw [a2]
        exact ⟨a1.1, fun s' h4 e => (a1.2 s' h4 e).symm⟩
      · obtain ⟨i, hi, e⟩ := g2 v hv
        exact ⟨(s + i) % zz r, Nat.mod_lt _ zp, e⟩
    · exact ⟨fun _ => 0, fun h => absurd h hr⟩
  obtain ⟨sd, hsd⟩ : ∃ sd : Nat → Nat → Nat, ∀ r, rm r → (∀ j, j < zz r → (en r j < n → D (en r j) = dro ja (en r j) r (sd r (ndo n ja jb r (en r j)))) ∧ ∀ s', s' < 4 → en r j = 41 + s' → sd r (ndo n ja jb r (en r j)) = s') ∧ (∀ v, nr r v → ∃ j, j < zz r ∧ v = ndo n ja jb r (en r j)) ∧ (∀ v, nr r v → sd r v < 4) ∧ (∀ v, nr r v → sd r (Bp r v) = sd r v ∨ sd r (Bp r v) = (sd r v + 1) % 4) ∧ ∀ q, q < 4 → ∃ v, nr r v ∧ sd r v = q ∧ sd r (Bp r v) = (q + 1) % 4 ∧ ∀ v', nr r v' → sd r v' = q → sd r (Bp r v') = (q + 1) % 4 → v' = v := ⟨fun r => Classical.choose (H' r), fun r hr => Classical.choose_spec (H' r) hr⟩
  have e9 : ∀ a b, rm a → rm b → nr a b → ∃ k, k < n ∧ ((ja k = a ∧ jb k = b) ∨ (ja k = b ∧ jb k = a)) ∧ D k = dro ja k a (sd a b) := fun a b ha hb h => by
    obtain ⟨j, hj, e⟩ := (hsd a ha).2.1 b h
    have b9 := X.gp.r9 b hb
    have a1 := (hsd a ha).1 j hj
    rw [← e] at a1
    rcases X.kd a j ha hj with ⟨k1, k2⟩ | ⟨s', _, k2⟩
    · refine ⟨en a j, k1, ?_, a1.1 k1⟩
      unfold ndo at e
      rw [if_pos k1] at e
      by_cases c : ja (en a j) = a
      · rw [if_pos c] at e; exact Or.inl ⟨c, e.symm⟩
      · rw [if_neg c] at e; exact Or.inr ⟨e.symm, k2.resolve_left c⟩
    · unfold ndo at e
      rw [if_neg (by omega)] at e; omega
  refine ⟨sd, ⟨fun a b ha hb h => ?_, fun r v hr hv => (hsd r hr).2.2.1 v hv, fun r s hr hs h => ?_, fun r v hr hv => (hsd r hr).2.2.2.1 v hv, fun r q hr hq => (hsd r hr).2.2.2.2 q hq⟩, fun k hk => ?_⟩
  · obtain ⟨k, hk, ends, eD⟩ := e9 a b ha hb h
    obtain ⟨l, hl, ends', eD'⟩ := e9 b a hb ha (X.gp.sy a b h)
    have q1 := (hsd a ha).2.2.1 b h
    have q2 := (hsd b hb).2.2.1 a (X.gp.sy a b h)
    have kl : k = l := X.ju k l hk hl (by rcases ends with ⟨p1, p2⟩ | ⟨p1, p2⟩ <;> rcases ends' with ⟨p3, p4⟩ | ⟨p3, p4⟩ <;> rw [p1, p2, p3, p4] <;> simp)
    subst kl
    have := eD.symm.trans eD'
    obtain ⟨_, _, ne⟩ := X.je k hk
    unfold dro at this
    rcases ends with ⟨p1, p2⟩ | ⟨p1, p2⟩
    · rw [if_pos p1, if_neg (fun z => ne (z.trans p2.symm))] at this
      have := dv_ij q1 (Nat.mod_lt _ (by decide)) this
      omega
    · rw [if_neg (fun z => ne (z.trans p2.symm)), if_pos p1] at this
      have := dv_ij (Nat.mod_lt _ (by decide)) q2 this
      omega
  · obtain ⟨j, hj, e⟩ := (hsd r hr).2.1 _ h
    have a1 := (hsd r hr).1 j hj
    rw [← e] at a1
    rcases X.kd r j hr hj with ⟨k1, k2⟩ | ⟨s', h4, k2⟩
    · unfold ndo at e
      rw [if_pos k1] at e
      obtain ⟨ra, rb, _⟩ := X.je _ k1
      have := X.gp.r9 _ ra
      have := X.gp.r9 _ rb
      by_cases c : ja (en r j) = r
      · rw [if_pos c] at e; omega
      · rw [if_neg c] at e; omega
    · have := a1.2 s' h4 k2
      unfold ndo at e
      rw [if_neg (by omega)] at e
      rw [this]; omega
  · obtain ⟨j, hj, e⟩ := (X.al k hk).1
    obtain ⟨ra, rb, ne⟩ := X.je k hk
    have a1 := ((hsd (ja k) ra).1 j hj).1
    rw [e] at a1
    rw [a1 hk]
    unfold dro dvec ndo
    rw [if_pos rfl, if_pos hk, if_pos rfl]
end
section
/-! the reference: layRings, what it writes -/
def OX (τ : mm_S) (n L p0 : Nat) (o b : Nat → Nat) : Prop := (n ≤ 21) ∧ (τ 10 6 = nI n) ∧ (1 ≤ L) ∧ (L ≤ 9) ∧ (τ 10 15 = nI L) ∧ (∀ k, k < L → o k < 9 ∧ τ 85 k = nI (o k)) ∧ (∀ i j, i < j → j < L → o i ≠ o j) ∧ (p0 < L) ∧ (τ 83 0 = nI (o p0)) ∧ (∀ s, s < 4 → τ 92 s = nI (b s) ∧ τ 93 s = nI (b (s + 1))) ∧ (b 0 = 0 ∧ b 0 ≤ b 1 ∧ b 1 ≤ b 2 ∧ b 2 ≤ b 3 ∧ b 3 ≤ b 4 ∧ b 4 = L)
theorem OX.n21 {τ : mm_S} {n L p0 : Nat} {o b : Nat → Nat} (h : OX τ n L p0 o b) : n ≤ 21 := h.1
theorem OX.e6 {τ : mm_S} {n L p0 : Nat} {o b : Nat → Nat} (h : OX τ n L p0 o b) : τ 10 6 = nI n := h.2.1
theorem OX.l1 {τ : mm_S} {n L p0 : Nat} {o b : Nat → Nat} (h : OX τ n L p0 o b) : 1 ≤ L := h.2.2.1
theorem OX.l9 {τ : mm_S} {n L p0 : Nat} {o b : Nat → Nat} (h : OX τ n L p0 o b) : L ≤ 9 := h.2.2.2.1
theorem OX.e15 {τ : mm_S} {n L p0 : Nat} {o b : Nat → Nat} (h : OX τ n L p0 o b) : τ 10 15 = nI L := h.2.2.2.2.1
theorem OX.ol {τ : mm_S} {n L p0 : Nat} {o b : Nat → Nat} (h : OX τ n L p0 o b) : ∀ k, k < L → o k < 9 ∧ τ 85 k = nI (o k) := h.2.2.2.2.2.1
theorem OX.dis {τ : mm_S} {n L p0 : Nat} {o b : Nat → Nat} (h : OX τ n L p0 o b) : ∀ i j, i < j → j < L → o i ≠ o j := h.2.2.2.2.2.2.1
theorem OX.p0L {τ : mm_S} {n L p0 : Nat} {o b : Nat → Nat} (h : OX τ n L p0 o b) : p0 < L := h.2.2.2.2.2.2.2.1
theorem OX.e83 {τ : mm_S} {n L p0 : Nat} {o b : Nat → Nat} (h : OX τ n L p0 o b) : τ 83 0 = nI (o p0) := h.2.2.2.2.2.2.2.2.1
theorem OX.h92 {τ : mm_S} {n L p0 : Nat} {o b : Nat → Nat} (h : OX τ n L p0 o b) : ∀ s, s < 4 → τ 92 s = nI (b s) ∧ τ 93 s = nI (b (s + 1)) := h.2.2.2.2.2.2.2.2.2.1
theorem OX.bm {τ : mm_S} {n L p0 : Nat} {o b : Nat → Nat} (h : OX τ n L p0 o b) : b 0 = 0 ∧ b 0 ≤ b 1 ∧ b 1 ≤ b 2 ∧ b 2 ≤ b 3 ∧ b 3 ≤ b 4 ∧ b 4 = L := h.2.2.2.2.2.2.2.2.2.2
theorem OX_cg {τ τ' : mm_S} {n L p0 : Nat} {o b : Nat → Nat} (h : ∀ c, c ≠ 89 → c ≠ 90 → τ' c = τ c) (X : OX τ n L p0 o b) : OX τ' n L p0 o b := by
  refine ⟨X.n21, ?_, X.l1, X.l9, ?_, ?_, X.dis, X.p0L, ?_, ?_, X.bm⟩
  · rw [h 10 (by decide) (by decide)]; exact X.e6
  · rw [h 10 (by decide) (by decide)]; exact X.e15
  · rw [h 85 (by decide) (by decide)]; exact X.ol
  · rw [h 83 (by decide) (by decide)]; exact X.e83
  · rw [h 92 (by decide) (by decide), h 93 (by decide) (by decide)]; exact X.h92
theorem OX.uq {τ : mm_S} {n L p0 : Nat} {o b : Nat → Nat} (X : OX τ n L p0 o b) {i j : Nat} (hi : i < L) (hj : j < L) (e : o i = o j) : i = j := by
  rcases Nat.lt_trichotomy i j with c | c | c
  · exact absurd e (X.dis i j c hj)
  · exact c
  · exact absurd e.symm (X.dis j i c hi)
def RZe (τ : mm_S) (r z : Nat) (e : Nat → Nat) : Prop := τ 89 r = nI z ∧ ∀ i, i < z → τ 90 (16 * r + i) = nI (e i)
theorem c_124t {d r z w : Nat} {Q : mm_Q} {τ : mm_S} {e : Nat → Nat} (hr : r < 9) (hz : z < 16) (R : RZe τ r z e) (q : ∀ τ' e', rfr τ τ' r → (∀ i, i < z → e' i = e i) → e' z = w → RZe τ' r (z + 1) e' → Q none τ') : mD (d + 1) 124 [.ref 10, .int (nI r), .int (nI w)] τ Q := by
  have cr : (nI r).toNatClampNeg = r := nI_clamp (by omega)
  have ex : (16 : Int32) * nI r + τ 89 (nI r).toNatClampNeg = nI (16 * r + z) := by rw [cr, R.1]; exact nI_16
  refine ke_124 (kb_124_0 (pk_in r 9 hr) (by rw [ex]; exact pk_in (16 * r + z) 144 (by omega)) (pk_in r 9 hr) (pk_in r 9 hr) ?_)
  rw [ex, nI_clamp (show 16 * r + z < 2 ^ 31 by omega), cr]
  have e89 : (mm_up τ 90 (16 * r + z) (nI w)) 89 r = nI z := by rw [mm_up_n (by decide)]; exact R.1
  rw [e89, nI_1]
  refine q _ (fun i => if i = z then w else e i) ⟨fun c h1 h2 => by rw [mm_up_n h1, mm_up_n h2], fun x hx => by rw [mm_up_o hx, mm_up_n (by decide)], fun x hx => by rw [mm_up_n (by decide), mm_up_o (by omega)]⟩ (fun i hi => if_neg (by omega)) (if_pos rfl) ⟨mm_up_s, fun i hi => ?_⟩
  rw [mm_up_n (by decide)]
  by_cases ei : i = z
  · subst ei
    show _ = nI (if i = i then w else e i)
    rw [mm_up_s, if_pos rfl]
  · show _ = nI (if i = z then w else e i)
    rw [mm_up_o (by omega), if_neg ei]; exact R.2 i (by omega)
theorem c_125t {d n L p0 r : Nat} {Q : mm_Q} {τ : mm_S} {o b : Nat → Nat} (X : OX τ n L p0 o b) (r9 : r < 9) (q0 : (∀ k, k < L → o k ≠ r) → Q (some (.int (-1))) τ) (q1 : ∀ j, j < L → o j = r → ∀ kk, kk < n → mjn τ (nI (o ((j + L - 1) % L))) (nI r) kk → Q (some (.int (nI kk))) τ) (q2 : ∀ j, j < L → o j = r → (∀ kk, kk < n → ¬ mjn τ (nI (o ((j + L - 1) % L))) (nI r) kk) → Q (some (.int (-1))) τ) : mD (d + 2) 125 [.ref 10, .int (nI r)] τ Q := by
  have l1 := X.l1
  have l9 := X.l9
  refine ke_125 (kb_125_0 ?_)
  refine lp_dn (P := fun k => (∀ i, i < k → o i ≠ r) → mw (d + 1) mt_125 Q 2 [some (.ref 10), some (.int (nI r)), some (.int (nI k))] [] τ) L ?_ ?_ 0 (Nat.zero_le _) (fun i hi => absurd hi (Nat.not_lt_zero i))
  · intro h
    exact kb_125_2 (fun _ => kb_125_50 (q0 h)) (fun g => absurd (by rw [X.e15]; exact hI_le (by omega) (Nat.le_refl L)) g)
  · intro k hk ih h
    have ck : (nI k).toNatClampNeg = k := nI_clamp (by omega)
    have ex : nI k + nI L - 1 - (nI k + nI L - 1) / nI L * nI L = nI ((k + L - 1) % L) := by
      rw [nI_add, show nI (k + L) - 1 = nI (k + L - 1) by rw [show (1 : Int32) = nI 1 from rfl]; exact nI_sub (by omega)]
      exact rem_n0 L (by omega) (by omega) _ (by omega)
    have ml : (k + L - 1) % L < L := Nat.mod_lt _ (by omega)
    refine kb_125_2 (fun g => absurd g (by rw [X.e15]; exact hI_nle (by omega) hk)) (fun _ => kb_125_10 (pk_in k 48 (by omega)) (fun g => ?_) (fun g => kb_125_44 ?_))
    · rw [ck, (X.ol k hk).2] at g
      have ek := nI9 (X.ol k hk).1 r9 g
      refine kb_125_20 (by rw [X.e15]; exact nI_ne0 (by omega) (by omega)) (by rw [X.e15, ex]; exact pk_in ((k + L - 1) % L) 48 (by omega)) ?_
      rw [X.e15, ex, nI_clamp (by omega), (X.ol _ ml).2]
      exact c_90 X.n21 X.e6 (fun kk h1 h2 _ => kb_125_43 (q1 k hk ek kk h1 h2)) (fun no => kb_125_43 (q2 k hk ek no))
    · rw [nI_1]
      refine ih (fun i hi => ?_)
      by_cases e : i = k
      · subst e
        intro y
        rw [ck, (X.ol i hk).2, y] at g
        exact g rfl
      · exact h i (by omega)
def ypl (L p0 j : Nat) : Nat := if (j + L - p0) % L = 0 then L else (j + L - p0) % L
theorem lo_le {b : Nat → Nat} {L : Nat} (bm : b 0 = 0 ∧ b 0 ≤ b 1 ∧ b 1 ≤ b 2 ∧ b 2 ≤ b 3 ∧ b 3 ≤ b 4 ∧ b 4 = L) {y s : Nat} (hs : s < 4) (hy : y ≤ L) : lo4 b y ≤ s ↔ y ≤ b (s + 1) := by
  have c := lo4_c b y
  rcases (show s = 0 ∨ s = 1 ∨ s = 2 ∨ s = 3 by omega) with e | e | e | e <;> subst e
  · show _ ↔ y ≤ b 1; omega
  · show _ ↔ y ≤ b 2; omega
  · show _ ↔ y ≤ b 3; omega
  · show _ ↔ y ≤ b 4; omega
theorem le_lo {b : Nat → Nat} {L : Nat} (bm : b 0 = 0 ∧ b 0 ≤ b 1 ∧ b 1 ≤ b 2 ∧ b 2 ≤ b 3 ∧ b 3 ≤ b 4 ∧ b 4 = L) {y s : Nat} (hs : s < 4) (hy : y + 1 ≤ L) : s ≤ lo4 b (y + 1) ↔ b s ≤ y := by
  have c := lo4_c b (y + 1)
  rcases (show s = 0 ∨ s = 1 ∨ s = 2 ∨ s = 3 by omega) with e | e | e | e <;> subst e <;> omega
theorem c_126t {d n L p0 r z j : Nat} {Q : mm_Q} {τ : mm_S} {o b e : Nat → Nat} (X : OX τ n L p0 o b) (hr : r < 9) (hj : j < L) (ej : o j = r) (hz : z + 8 ≤ 16) (R : RZe τ r z e) (q : ∀ τ' e', rfr τ τ' r → (∀ i, i < z → e' i = e i) → (∀ i, i < nlo b L (ypl L p0 j) - lo4 b (ypl L p0 j) + 1 → e' (z + i) = 41 + (lo4 b (ypl L p0 j) + i) % 4) → RZe τ' r (z + (nlo b L (ypl L p0 j) - lo4 b (ypl L p0 j) + 1)) e' → Q none τ') : mD (d + 2) 126 [.ref 10, .int (nI r)] τ Q := by
  have e41 : ∀ s, (41 : Int32) + nI s = nI (41 + s) := fun s => nI_add 41 s
  have l1 := X.l1
  have l9 := X.l9
  have bm := X.bm
  have bl : ∀ s, s < 5 → b s ≤ L := fun s hs => by
    rcases (show s = 0 ∨ s = 1 ∨ s = 2 ∨ s = 3 ∨ s = 4 by omega) with e | e | e | e | e <;> subst e <;> omega
  obtain ⟨y, hy⟩ : ∃ y, y = (j + L - p0) % L := ⟨_, rfl⟩
  have yL : y < L := by rw [hy]; exact Nat.mod_lt _ (by omega)
  obtain ⟨lo, hlo⟩ : ∃ lo, lo = lo4 b (ypl L p0 j) := ⟨_, rfl⟩
  obtain ⟨ns, hns⟩ : ∃ ns, ns = nlo b L (ypl L p0 j) - lo4 b (ypl L p0 j) + 1 := ⟨_, rfl⟩
  rw [← hns, ← hlo] at q
  have lo3 : lo < 4 := by rw [hlo]; exact lo4_4 b _
  have go : mw (d + 1) mt_126 Q 5 [some (.ref 10), some (.int (nI r)), none, none] [.int (nI y)] τ := by
    obtain ⟨h, l2, base, h3, l2h, nse, lb, cs, P2⟩ : ∃ h l2 base, h < 4 ∧ l2 ≤ h ∧ ns = base + (h + 1 - l2) ∧ (lo + base = l2 ∨ lo + base = l2 + 4) ∧ ((y = 0 ∧ base = 4 - lo ∧ ∀ s, s < 4 → (b (s + 1) = L ↔ lo ≤ s)) ∨ (y ≠ 0 ∧ base = 0)) ∧ ∀ s, s < 4 → ((¬ y < b s ∧ ¬ b (s + 1) < y ∧ ¬ L ≤ b s) ↔ l2 ≤ s ∧ s ≤ h) := by
      by_cases y0 : y = 0
      · have ey : ypl L p0 j = L := by unfold ypl; rw [← hy, if_pos y0]
        rw [ey] at hlo hns
        refine ⟨lo4 b 1, 0, 4 - lo, lo4_4 b 1, by omega, ?_, by omega, Or.inl ⟨y0, rfl, fun s hs => ?_⟩, fun s hs => ?_⟩
        · rw [hns]; unfold nlo; rw [if_neg (by omega), ← hlo]; omega
        · have := lo_le bm hs (Nat.le_refl L)
          rw [← hlo] at this
          have := bl (s + 1) (by omega)
          omega
        · have this : s ≤ lo4 b 1 ↔ b s ≤ 0 := le_lo bm (y := 0) hs (by omega)
          have := bl s (by omega)
          omega
      · have ey : ypl L p0 j = y := by unfold ypl; rw [← hy, if_neg y0]
        rw [ey] at hlo hns
        have k1 : lo ≤ lo4 b (y + 1) := by
          have := (lo_le bm (lo4_4 b (y + 1)) (show y ≤ L by omega)).mpr (by
            have := (lo_le bm (lo4_4 b (y + 1)) (show y + 1 ≤ L by omega)).mp (Nat.le_refl _)
            omega)
          rw [← hlo] at this; exact this
        refine ⟨lo4 b (y + 1), lo, 0, lo4_4 b _, k1, ?_, by omega, Or.inr ⟨y0, rfl⟩, fun s hs => ?_⟩
        · rw [hns]; unfold nlo; rw [if_pos yL, ← hlo]; omega
        · have a1 := lo_le bm hs (show y ≤ L by omega)
          have a2 := le_lo bm hs (show y + 1 ≤ L by omega)
          rw [← hlo] at a1
          omega
    have sec : ∀ (ρ : mm_S) (e1 : Nat → Nat) x3, rfr τ ρ r → RZe ρ r (z + base) e1 → (∀ i, i < z → e1 i = e i) → (∀ i, i < base → e1 (z + i) = 41 + (lo + i) % 4) → mw (d + 1) mt_126 Q 45 [some (.ref 10), some (.int (nI r)), some (.int (nI y)), some (.int x3)] [] ρ := fun ρ e1 x3 f1 R1 k1 k2 => by
      refine kb_126_45 ?_
      refine lp_dn (P := fun s => ∀ (ρ : mm_S) (e' : Nat → Nat) (c : Nat), ((s ≤ l2 ∧ c = base) ∨ (l2 < s ∧ s ≤ h + 1 ∧ c = base + (s - l2)) ∨ (h + 1 < s ∧ c = base + (h + 1 - l2))) → rfr τ ρ r → RZe ρ r (z + c) e' → (∀ i, i < z → e' i = e i) → (∀ i, i < c → e' (z + i) = 41 + (lo + i) % 4) → mw (d + 1) mt_126 Q 47 [some (.ref 10), some (.int (nI r)), some (.int (nI y)), some (.int (nI s))] [] ρ) 4 ?_ ?_ 0 (by omega) ρ e1 base (Or.inl ⟨by omega, rfl⟩) f1 R1 k1 k2
      · intro ρ e' c hc f R k1 k2
        have ec : c = ns := by omega
        rw [ec] at R k2
        exact kb_126_47 (fun _ => kb_126_100 (q ρ e' f k1 k2 R)) (fun g => absurd (by decide) g)
      · intro s hs ih ρ e' c hc f R k1 k2
        have X' := OX_cg f.1 X
        obtain ⟨t1, t2⟩ := X'.h92 s hs
        have cs' : (nI s).toNatClampNeg = s := nI_clamp (by omega)
        have b1 := bl s (by omega)
        have b2 := bl (s + 1) (by omega)
        have sk : ¬ (l2 ≤ s ∧ s ≤ h) → mw (d + 1) mt_126 Q 94 [some (.ref 10), some (.int (nI r)), some (.int (nI y)), some (.int (nI s))] [] ρ := fun no => kb_126_94 (by rw [nI_1]; exact ih ρ e' c (by omega) f R k1 k2)
        have i1 : nI y < nI (b s) ↔ y < b s := nI_ltI (by omega) (by omega)
        have i2 : nI (b (s + 1)) < nI y ↔ b (s + 1) < y := nI_ltI (by omega) (by omega)
        have i3 : nI L ≤ nI (b s) ↔ L ≤ b s := nI_leI (by omega) (by omega)
        refine kb_126_47 (fun g => absurd g (hI_nle (a := 4) (by omega) hs)) (fun _ => kb_126_52 (pk_in s 4 hs) (fun g => sk ?_) (fun g1 => kb_126_62 (pk_in s 4 hs) (fun g => sk ?_) (fun g2 => kb_126_72 (pk_in s 4 hs) (fun g => sk ?_) (fun g3 => kb_126_85 ?_))))
        · rw [cs', t1, i1] at g; exact fun w => ((P2 s hs).mpr w).1 g
        · rw [cs', t2, i2] at g; exact fun w => ((P2 s hs).mpr w).2.1 g
        · rw [cs', t1, X'.e15, i3] at g; exact fun w => ((P2 s hs).mpr w).2.2 g
        · rw [cs', t1, i1] at g1
          rw [cs', t2, i2] at g2
          rw [cs', t1, X'.e15, i3] at g3
          have yes := (P2 s hs).mp ⟨g1, g2, g3⟩
          rw [e41]
          refine c_124t hr (by omega) R (fun ρ' e2 f' m1 m2 R' => kb_126_94 ?_)
          rw [nI_1]
          refine ih ρ' e2 (c + 1) (by omega) (rfr_t f f') R' (fun i hi => by rw [m1 i (by omega)]; exact k1 i hi) (fun i hi => ?_)
          by_cases ei : i = c
          · rw [ei, m2]; omega
          · rw [m1 (z + i) (by omega)]; exact k2 i (by omega)
    refine kb_126_5 ?_
    rcases cs with ⟨y0, eb, P1⟩ | ⟨y0, eb⟩
    · refine lp_dn (P := fun s => ∀ (ρ : mm_S) (e' : Nat → Nat), rfr τ ρ r → RZe ρ r (z + (s - lo)) e' → (∀ i, i < z → e' i = e i) → (∀ i, i < s - lo → e' (z + i) = 41 + (lo + i) % 4) → mw (d + 1) mt_126 Q 8 [some (.ref 10), some (.int (nI r)), some (.int (nI y)), some (.int (nI s))] [] ρ) 4 ?_ ?_ 0 (by omega) τ e ⟨fun _ _ _ => rfl, fun _ _ => rfl, fun _ _ => rfl⟩ (by rw [show z + (0 - lo) = z by omega]; exact R) (fun _ _ => rfl) (fun i hi => by omega)
      · intro ρ e' f R k1 k2
        rw [← eb] at R k2
        exact kb_126_8 (fun _ => sec ρ e' _ f R k1 k2) (fun g => absurd (by decide) g)
      · intro s hs ih ρ e' f R k1 k2
        have X' := OX_cg f.1 X
        obtain ⟨t1, t2⟩ := X'.h92 s hs
        have cs' : (nI s).toNatClampNeg = s := nI_clamp (by omega)
        have b2 := bl (s + 1) (by omega)
        have i1 : nI (b (s + 1)) = nI L ↔ b (s + 1) = L := nI_eq (by omega) (by omega)
        refine kb_126_8 (fun g => absurd g (hI_nle (a := 4) (by omega) hs)) (fun _ => kb_126_13 (fun _ => kb_126_17 (pk_in s 4 hs) (fun g => kb_126_30 ?_) (fun g => kb_126_39 ?_)) (fun g => absurd (by rw [y0]; rfl) g))
        · rw [cs', t2, X'.e15, i1] at g
          have yes := (P1 s hs).mp g
          rw [e41]
          refine c_124t hr (by omega) R (fun ρ' e2 f' m1 m2 R' => kb_126_39 ?_)
          rw [nI_1]
          refine ih ρ' e2 (rfr_t f f') (by rw [show z + (s + 1 - lo) = z + (s - lo) + 1 by omega]; exact R') (fun i hi => by rw [m1 i (by omega)]; exact k1 i hi) (fun i hi => ?_)
          by_cases ei : i = s - lo
          · rw [ei, m2]; omega
          · rw [m1 (z + i) (by omega)]; exact k2 i (by omega)
        · rw [cs', t2, X'.e15, i1] at g
          have no : ¬ lo ≤ s := fun w => g ((P1 s hs).mpr w)
          rw [nI_1]
          exact ih ρ e' f (by rw [show z + (s + 1 - lo) = z + (s - lo) by omega]; exact R) k1 (fun i hi => by omega)
    · exact kb_126_8 (fun g => absurd g (by decide)) (fun _ => kb_126_13 (fun g => absurd ((nI_eq (a := y) (b := 0) (by omega) (by omega)).mp g) y0) (fun _ => sec τ e _ ⟨fun _ _ _ => rfl, fun _ _ => rfl, fun _ _ => rfl⟩ (by rw [eb]; exact R) (fun _ _ => rfl) (fun i hi => by omega)))
  refine ke_126 (kb_126_0 (c_116s l1 l9 X.e15 X.ol (X.ol p0 X.p0L).1 X.e83 hr (fun h => ?_) (fun i j' hi hj' e1 e2 => ?_)))
  · rcases h with h | h
    · exact absurd rfl (h p0 X.p0L)
    · exact absurd ej (h j hj)
  · have := X.uq hi X.p0L e1
    have := X.uq hj' hj (e2.trans ej.symm)
    subst_vars
    exact go
/-- room r's ring, as layRings leaves it -/
def RNr (σ τ : mm_S) (n L p0 : Nat) (o b : Nat → Nat) (r z : Nat) (e : Nat → Nat) : Prop := ∃ (dg : Nat) (al : Nat → Nat), dg ≤ 8 ∧ τ 87 r = nI dg ∧ (∀ i, i < dg → al i < n ∧ em σ r (al i) ∧ τ 88 (16 * r + i) = nI (al i)) ∧ ((z = dg ∧ (∀ i, i < dg → e i = al i) ∧ ((∀ k, k < L → o k ≠ r) ∨ ∃ j, j < L ∧ o j = r ∧ ∀ i, i < dg → ¬ mjn τ (nI (o ((j + L - 1) % L))) (nI r) (al i))) ∨ ∃ j pp ns, j < L ∧ o j = r ∧ pp < dg ∧ mjn τ (nI (o ((j + L - 1) % L))) (nI r) (al pp) ∧ ns = nlo b L (ypl L p0 j) - lo4 b (ypl L p0 j) + 1 ∧ ns ≤ 8 ∧ z = dg + ns ∧ (∀ i, i ≤ pp → e i = al i) ∧ (∀ i, i < ns → e (pp + 1 + i) = 41 + (lo4 b (ypl L p0 j) + i) % 4) ∧ ∀ i, pp < i → i < dg → e (i + ns) = al i)
theorem nlo_8 (b : Nat → Nat) (L y : Nat) : nlo b L y - lo4 b y + 1 ≤ 8 := by
  unfold nlo
  have := lo4_4 b (y + 1)
  have := lo4_4 b 1
  split <;> omega
theorem c_123t {d n L p0 : Nat} {Q : mm_Q} {σ τ : mm_S} {o b : Nat → Nat} (X : OX τ n L p0 o b) (A : AR σ τ n) (U : ∀ j, j < L → ∀ k l, k < n → l < n → mjn τ (nI (o ((j + L - 1) % L))) (nI (o j)) k → mjn τ (nI (o ((j + L - 1) % L))) (nI (o j)) l → k = l) (q : ∀ τ', (∀ c, c ≠ 89 → c ≠ 90 → τ' c = τ c) → (∀ r, r < 9 → ∃ z e, z ≤ 16 ∧ RZe τ' r z e ∧ RNr σ τ n L p0 o b r z e) → Q none τ') : mD (d + 3) 123 [.ref 10] τ Q := by
  refine ke_123 (kb_123_0 ?_)
  refine lp_dn (P := fun r => ∀ ρ : mm_S, (∀ c, c ≠ 89 → c ≠ 90 → ρ c = τ c) → (∀ r', r' < r → ∃ z e, z ≤ 16 ∧ RZe ρ r' z e ∧ RNr σ τ n L p0 o b r' z e) → ∀ o2 o3, mw (d + 2) mt_123 Q 2 [some (.ref 10), some (.int (nI r)), o2, o3] [] ρ) 9 ?_ ?_ 0 (by omega) τ (fun _ _ _ => rfl) (fun r' h => absurd h (Nat.not_lt_zero r')) none none
  · intro ρ fr hR o2 o3
    exact kb_123_2 (fun _ => kb_123_71 (q ρ fr hR)) (fun g => absurd (by decide) g)
  · intro r hr ih ρ fr hR o2 o3
    obtain ⟨dg, d8, e87, a1, a2, a4⟩ := A r hr
    have n21 := X.n21
    obtain ⟨al, hal⟩ : ∃ al : Nat → Nat, ∀ i, i < dg → al i < n ∧ em σ r (al i) ∧ τ 88 (16 * r + i) = nI (al i) := by
      have : ∀ i, ∃ k, i < dg → k < n ∧ em σ r k ∧ τ 88 (16 * r + i) = nI k := fun i => by
        by_cases hi : i < dg
        · obtain ⟨k, hk⟩ := a1 i hi; exact ⟨k, fun _ => hk⟩
        · exact ⟨0, fun h => absurd h hi⟩
      exact ⟨fun i => Classical.choose (this i), fun i hi => Classical.choose_spec (this i) hi⟩
    have alj : ∀ i j, i < j → j < dg → al i ≠ al j := fun i j h1 h2 e => a4 i j h1 h2 (by rw [(hal i (by omega)).2.2, (hal j h2).2.2, e])
    have cr : (nI r).toNatClampNeg = r := nI_clamp (by omega)
    have keep : ∀ (π π' : mm_S), rfr π π' r → (∀ r', r' < r → ∃ z e, z ≤ 16 ∧ RZe π r' z e ∧ RNr σ τ n L p0 o b r' z e) → ∀ r', r' < r → ∃ z e, z ≤ 16 ∧ RZe π' r' z e ∧ RNr σ τ n L p0 o b r' z e := fun π π' f h r' hr' => by
      obtain ⟨z, e, z1, ⟨z2, z3⟩, z4⟩ := h r' hr'
      refine ⟨z, e, z1, ⟨by rw [f.2.1 r' (by omega)]; exact z2, fun i hi => ?_⟩, z4⟩
      rw [f.2.2 _ (by omega)]; exact z3 i hi
    refine kb_123_2 (fun g => absurd g (hI_nle (a := 9) (by omega) hr)) (fun _ => kb_123_8 (pk_in r 9 hr) ?_)
    rw [cr]
    have f0 : rfr ρ (mm_up ρ 89 r 0) r := ⟨fun c h1 _ => mm_up_n h1, fun x hx => mm_up_o hx, fun x _ => by rw [mm_up_n (by decide)]⟩
    -- up to i: no side yet, or the sides behind pp
    refine lp_dn (P := fun i => ∀ (π : mm_S) (z : Nat) (e : Nat → Nat), (∀ c, c ≠ 89 → c ≠ 90 → π c = τ c) → (∀ r', r' < r → ∃ z e, z ≤ 16 ∧ RZe π r' z e ∧ RNr σ τ n L p0 o b r' z e) → RZe π r z e → ((z = i ∧ (∀ x, x < i → e x = al x) ∧ ((∀ k, k < L → o k ≠ r) ∨ ∃ j, j < L ∧ o j = r ∧ ∀ x, x < i → ¬ mjn τ (nI (o ((j + L - 1) % L))) (nI r) (al x))) ∨ ∃ j pp ns, j < L ∧ o j = r ∧ pp < i ∧ mjn τ (nI (o ((j + L - 1) % L))) (nI r) (al pp) ∧ ns = nlo b L (ypl L p0 j) - lo4 b (ypl L p0 j) + 1 ∧ ns ≤ 8 ∧ z = i + ns ∧ (∀ x, x ≤ pp → e x = al x) ∧ (∀ x, x < ns → e (pp + 1 + x) = 41 + (lo4 b (ypl L p0 j) + x) % 4) ∧ ∀ x, pp < x → x < i → e (x + ns) = al x) → ∀ o3, mw (d + 2) mt_123 Q 17 [some (.ref 10), some (.int (nI r)), some (.int (nI i)), o3] [] π) dg ?_ ?_ 0 (Nat.zero_le _) _ 0 al (fun c h1 h2 => by rw [mm_up_n h1]; exact fr c h1 h2) (keep _ _ f0 hR) ⟨mm_up_s, fun i hi => absurd hi (Nat.not_lt_zero i)⟩ (Or.inl ⟨rfl, fun _ _ => rfl, ?_⟩) o3
    · intro π z e f1 hR R hz o3
      have e7 : π 87 (nI r).toNatClampNeg = nI dg := by rw [cr, f1 87 (by decide) (by decide)]; exact e87
      refine kb_123_17 (pk_in r 9 hr) (fun _ => kb_123_65 ?_) (fun g => absurd (by rw [e7]; exact hI_le (by omega) (Nat.le_refl dg)) g)
      rw [nI_1]
      refine ih π f1 (fun r' hr' => ?_) _ _
      by_cases er : r' = r
      · subst er
        exact ⟨z, e, by rcases hz with h | ⟨_, _, _, _, _, _, _, _, h1, h2, _⟩ <;> omega, R, dg, al, d8, e87, hal, hz⟩
      · exact hR r' (by omega)
    · intro i hi ihi π z e f1 hR R hz o3
      have e7 : π 87 (nI r).toNatClampNeg = nI dg := by rw [cr, f1 87 (by decide) (by decide)]; exact e87
      obtain ⟨k1, k2, k3⟩ := hal i hi
      have e88 : π 88 ((16 : Int32) * nI r + nI i).toNatClampNeg = nI (al i) := by rw [nI_16, nI_clamp (by omega), f1 88 (by decide) (by decide)]; exact k3
      have z16 : z < 16 := by rcases hz with h | ⟨_, _, _, _, _, _, _, _, h1, h2, _⟩ <;> omega
      refine kb_123_17 (pk_in r 9 hr) (fun g => absurd g (by rw [e7]; exact hI_nle (by omega) hi)) (fun _ => kb_123_27 (by rw [nI_16]; exact pk_in (16 * r + i) 144 (by omega)) ?_)
      rw [e88]
      refine c_124t hr z16 R (fun π1 e1 f2 m1 m2 R1 => kb_123_45 ?_)
      have f3 : ∀ c, c ≠ 89 → c ≠ 90 → π1 c = τ c := fun c h1 h2 => by rw [f2.1 c h1 h2]; exact f1 c h1 h2
      have X1 := OX_cg f3 X
      have mj : ∀ a b k, mjn π1 a b k ↔ mjn τ a b k := fun a b k => by unfold mjn; rw [f3 80 (by decide) (by decide), f3 81 (by decide) (by decide)]
      -- no sides here
      have plain : ((∀ k, k < L → o k ≠ r) ∨ ∃ j, j < L ∧ o j = r ∧ ¬ mjn τ (nI (o ((j + L - 1) % L))) (nI r) (al i)) → mw (d + 2) mt_123 Q 59 [some (.ref 10), some (.int (nI r)), some (.int (nI i)), some (.int (nI (al i)))] [] π1 := fun hno => by
        refine kb_123_59 ?_
        rw [nI_1]
        refine ihi π1 (z + 1) e1 f3 (keep _ _ f2 hR) R1 ?_ _
        rcases hz with ⟨h1, h2, h3⟩ | ⟨j, pp, ns, h1, h2, h3, h4, h5, h6, h7, h8, h9, h10⟩
        · refine Or.inl ⟨by omega, fun x hx => ?_, ?_⟩
          · by_cases ex : x = i
            · rw [ex, ← h1, m2, h1]
            · rw [m1 x (by omega)]; exact h2 x (by omega)
          · rcases hno with h | ⟨j, hj, ej, h⟩
            · exact Or.inl h
            · rcases h3 with h3 | ⟨j', hj', ej', h3⟩
              · exact Or.inl h3
              · refine Or.inr ⟨j, hj, ej, fun x hx => ?_⟩
                have := X.uq hj hj' (ej.trans ej'.symm)
                subst this
                by_cases ex : x = i
                · rw [ex]; exact h
                · exact h3 x (by omega)
        · refine Or.inr ⟨j, pp, ns, h1, h2, by omega, h4, h5, h6, by omega, fun x hx => by rw [m1 x (by omega)]; exact h8 x hx, fun x hx => by rw [m1 _ (by omega)]; exact h9 x hx, fun x g1 g2 => ?_⟩
          by_cases ex : x = i
          · rw [ex, ← h7, m2]
          · rw [m1 _ (by omega)]; exact h10 x g1 (by omega)
      refine c_125t X1 hr (fun h => kb_123_50 (fun ev => absurd ev.symm (nI_m1 (by omega))) (fun _ => plain (Or.inl h))) (fun j hj ej kk hk hm => ?_) (fun j hj ej no => kb_123_50 (fun ev => absurd ev.symm (nI_m1 (by omega))) (fun _ => plain (Or.inr ⟨j, hj, ej, fun w => no (al i) k1 ((mj _ _ _).mpr w)⟩)))
      rw [mj] at hm
      refine kb_123_50 (fun ev => kb_123_54 ?_) (fun ev => plain (Or.inr ⟨j, hj, ej, fun w => ev ?_⟩))
      · have ek : kk = al i := (nI_eq (by omega) (by omega)).mp ev
        rw [ek] at hm
        have first : z = i ∧ ∀ x, x < i → e x = al x := by
          rcases hz with ⟨h1, h2, _⟩ | ⟨j', pp, ns, h1, h2, h3, h4, _⟩
          · exact ⟨h1, h2⟩
          · exfalso
            have := X.uq hj h1 (ej.trans h2.symm)
            subst this
            have u := U j hj (al i) (al pp) k1 (hal pp (by omega)).1 (by rw [ej]; exact hm) (by rw [ej]; exact h4)
            exact alj pp i h3 hi u.symm
        obtain ⟨zi, ez⟩ := first
        subst zi
        refine c_126t X1 hr hj ej (by omega) R1 (fun π2 e2 f4 n1 n2 R2 => kb_123_59 ?_)
        rw [nI_1]
        refine ihi π2 _ e2 (fun c h1 h2 => by rw [f4.1 c h1 h2]; exact f3 c h1 h2) (keep _ _ (rfr_t f2 f4) hR) R2 (Or.inr ⟨j, z, _, hj, ej, by omega, hm, rfl, nlo_8 _ _ _, rfl, fun x hx => ?_, n2, fun x g1 g2 => by omega⟩) _
        rw [n1 x (by omega)]
        by_cases ex : x = z
        · rw [ex]; exact m2
        · rw [m1 x (by omega)]; exact ez x (by omega)
      · rw [U j hj kk (al i) hk k1 (by rw [ej]; exact hm) (by rw [ej]; exact w)]
    · by_cases h : ∃ j, j < L ∧ o j = r
      · obtain ⟨j, hj, ej⟩ := h
        exact Or.inr ⟨j, hj, ej, fun x hx => absurd hx (Nat.not_lt_zero x)⟩
      · exact Or.inl (fun k hk e => h ⟨k, hk, e⟩)
end
section
/-! the rings that layRings leaves go around the rooms as Bx says -/
theorem enu_mk {nr : Nat → Nat → Prop} {Bp : Nat → Nat → Nat} {r z : Nat} {W : Nat → Nat} (z1 : 1 ≤ z) (st : ∀ i, i < z → nr r (W i) ∧ W ((i + 1) % z) = Bp r (W i)) (inj : ∀ i j, i < j → j < z → W i ≠ W j) (sur : ∀ v, nr r v → ∃ i, i < z ∧ W i = v) : ENU nr Bp r (fun k => W (k % z)) z := by
  refine ⟨fun k => ?_, z1, ?_, fun k l hk hl => ?_, fun v hv => ?_⟩
  · have := st (k % z) (Nat.mod_lt _ (by omega))
    rw [Nat.mod_add_mod] at this
    exact this
  · show W (z % z) = W (0 % z)
    rw [Nat.mod_self, Nat.mod_eq_of_lt (by omega)]
  · show W (k % z) ≠ W (l % z)
    rw [Nat.mod_eq_of_lt (by omega), Nat.mod_eq_of_lt hl]; exact inj k l hk hl
  · obtain ⟨i, hi, e⟩ := sur v hv
    exact ⟨i, hi, by show W (i % z) = v; rw [Nat.mod_eq_of_lt hi]; exact e⟩
variable {rm : Nat → Prop} {aj' : Nat → Nat → Prop} {B : Nat → Nat → Nat} {q b : Nat → Nat} {L : Nat}
theorem DSK.nrq (D : DSK rm aj' B q b L) {r v : Nat} (hr : rm r) : nrx rm aj' q b r v ↔ aj' r v ∨ ∃ s, s < 4 ∧ v = 9 + s ∧ nrs q b r s := by
  have r9 := D.r9 r hr
  constructor
  · rintro (h | h | ⟨s, _, e, _⟩ | ⟨s, s', _, _, e, _⟩)
    · exact Or.inl h.2
    · exact Or.inr h
    · omega
    · omega
  · rintro (h | h)
    · exact Or.inl ⟨hr, h⟩
    · exact Or.inr (Or.inl h)
/-- the joins of a room, clockwise -/
def UJ (rm : Nat → Prop) (aj' : Nat → Nat → Prop) (B : Nat → Nat → Nat) (r dg : Nat) (u : Nat → Nat) : Prop := (∀ i, i < dg → aj' r (u i)) ∧ (∀ i, i < dg → u ((i + 1) % dg) = B r (u i)) ∧ (∀ i j, i < j → j < dg → u i ≠ u j) ∧ (∀ v, aj' r v → ∃ i, i < dg ∧ u i = v)
theorem UJ.a {rm : Nat → Prop} {aj' : Nat → Nat → Prop} {B : Nat → Nat → Nat} {r dg : Nat} {u : Nat → Nat} (h : UJ rm aj' B r dg u) : ∀ i, i < dg → aj' r (u i) := h.1
theorem UJ.n {rm : Nat → Prop} {aj' : Nat → Nat → Prop} {B : Nat → Nat → Nat} {r dg : Nat} {u : Nat → Nat} (h : UJ rm aj' B r dg u) : ∀ i, i < dg → u ((i + 1) % dg) = B r (u i) := h.2.1
theorem UJ.i {rm : Nat → Prop} {aj' : Nat → Nat → Prop} {B : Nat → Nat → Nat} {r dg : Nat} {u : Nat → Nat} (h : UJ rm aj' B r dg u) : ∀ i j, i < j → j < dg → u i ≠ u j := h.2.2.1
theorem UJ.s {rm : Nat → Prop} {aj' : Nat → Nat → Prop} {B : Nat → Nat → Nat} {r dg : Nat} {u : Nat → Nat} (h : UJ rm aj' B r dg u) : ∀ v, aj' r v → ∃ i, i < dg ∧ u i = v := h.2.2.2
theorem enu_in (D : DSK rm aj' B q b L) {r dg : Nat} {u : Nat → Nat} (hr : rm r) (U : UJ rm aj' B r dg u) (no : ∀ y, q y ≠ r) : ENU (nrx rm aj' q b) (Bx B q b L) r (fun k => u (k % dg)) dg := by
  have r9 := D.r9 r hr
  have nos : ∀ s, ¬ nrs q b r s := fun s ⟨y, _, _, e⟩ => no y e
  have d1 : 1 ≤ dg := by
    by_cases h : ∃ v, aj' r v
    · obtain ⟨v, hv⟩ := h
      obtain ⟨i, hi, _⟩ := U.s v hv
      omega
    · exfalso
      exact no 0 (D.rc (fun x => x = r) ⟨r, hr, rfl⟩ (fun x w _ e hw => by rw [e] at hw; exact absurd ⟨w, hw⟩ h) (q 0) (D.qr 0).1)
  refine enu_mk d1 (fun i hi => ⟨(D.nrq hr).mpr (Or.inl (U.a i hi)), ?_⟩) U.i (fun v hv => ?_)
  · have u9 := D.r9 _ (D.ed r _ hr (U.a i hi)).1
    rw [U.n i hi]
    unfold Bx
    rw [if_pos r9, if_neg (by omega), if_neg (fun h => ?_)]
    obtain ⟨y, _, e⟩ := bo_t.mp h
    exact no _ e.symm
  · rcases (D.nrq hr).mp hv with h | ⟨s, _, _, h⟩
    · exact U.s v h
    · exact absurd h (nos s)
def Wx (u : Nat → Nat) (pp ns lo i : Nat) : Nat := if i ≤ pp then u i else if i ≤ pp + ns then 9 + (lo + (i - pp - 1)) % 4 else u (i - ns)
theorem Wx_c (u : Nat → Nat) (pp ns lo i : Nat) : (i ≤ pp ∧ Wx u pp ns lo i = u i) ∨ (pp < i ∧ i ≤ pp + ns ∧ Wx u pp ns lo i = 9 + (lo + (i - pp - 1)) % 4) ∨ (pp + ns < i ∧ Wx u pp ns lo i = u (i - ns)) := by
  unfold Wx
  by_cases h : i ≤ pp
  · rw [if_pos h]; exact Or.inl ⟨h, rfl⟩
  · rw [if_neg h]
    by_cases h' : i ≤ pp + ns
    · rw [if_pos h']; exact Or.inr (Or.inl ⟨by omega, h', rfl⟩)
    · rw [if_neg h']; exact Or.inr (Or.inr ⟨by omega, rfl⟩)
theorem enu_out (D : DSK rm aj' B q b L) {r dg y pp : Nat} {u : Nat → Nat} (hr : rm r) (U : UJ rm aj' B r dg u) (y1 : 1 ≤ y) (yL : y ≤ L) (ey : q y = r) (hpp : pp < dg) (epp : u pp = q (y - 1)) : ENU (nrx rm aj' q b) (Bx B q b L) r (fun k => Wx u pp (nlo b L y - lo4 b y + 1) (lo4 b y) (k % (dg + (nlo b L y - lo4 b y + 1)))) (dg + (nlo b L y - lo4 b y + 1)) := by
  have r9 := D.r9 r hr
  obtain ⟨g1, g2, g3, _⟩ := D.fs y1 yL
  have lo3 := lo4_4 b y
  have ps : psn q L r = y := by rw [← ey]; exact D.ps y1 yL
  rw [ey] at g3
  obtain ⟨lo, hlo⟩ : ∃ lo, lo = lo4 b y := ⟨_, rfl⟩
  obtain ⟨ns, hns⟩ : ∃ ns, ns = nlo b L y - lo4 b y + 1 := ⟨_, rfl⟩
  rw [← hns]
  rw [← hlo] at hns g1 g2 g3 lo3 ⊢
  have ns3 : 1 ≤ ns ∧ ns ≤ 3 := by omega
  have sides : ∀ s, s < 4 → (nrs q b r s ↔ ∃ j, j < ns ∧ s = (lo + j) % 4) := fun s hs => by
    rw [g3 s hs]
    exact ⟨fun ⟨j, h1, h2⟩ => ⟨j, by omega, h2⟩, fun ⟨j, h1, h2⟩ => ⟨j, by omega, h2⟩⟩
  have u9 : ∀ i, i < dg → u i < 9 := fun i hi => D.r9 _ (D.ed r _ hr (U.a i hi)).1
  -- the steps
  have bJ : ∀ i, i < dg → i ≠ pp → Bx B q b L r (u i) = u ((i + 1) % dg) := fun i hi ne => by
    rw [U.n i hi]
    unfold Bx
    have := u9 i hi
    rw [if_pos r9, if_neg (by omega), if_neg (fun h => ?_)]
    obtain ⟨x, e1, e2⟩ := bo_t.mp h
    obtain ⟨x', h1, h2, h3, _⟩ := D.nm (x + 1)
    have ex : x' = y := by
      rcases Nat.lt_trichotomy x' y with c | c | c
      · exact absurd (h3.trans (e2.symm.trans ey.symm)) (D.qd x' y h1 c yL)
      · exact c
      · exact absurd (ey.trans (e2.trans h3.symm)) (D.qd y x' y1 c h2)
    -- the room before is the same, as B is one to one
    have k1 := (D.qr x).2.2
    have k2 := (D.qr (y - 1)).2.2
    have k3 : q (x + 2) = q (y + 1) := by
      obtain ⟨x'', m1, m2, m3, m4⟩ := D.nm (x + 1)
      have : x'' = y := by
        rcases Nat.lt_trichotomy x'' y with c | c | c
        · exact absurd (m3.trans (e2.symm.trans ey.symm)) (D.qd x'' y m1 c yL)
        · exact c
        · exact absurd (ey.trans (e2.trans m3.symm)) (D.qd y x'' y1 c m2)
      rw [this] at m4; exact m4.symm
    rw [← e2] at k1
    rw [show y - 1 + 1 = y by omega, ey, show y - 1 + 2 = y + 1 by omega] at k2
    have a1 : aj' r (q x) := by rw [e2]; exact (D.ed _ _ (D.qr x).1 (D.qr x).2.1).2.2
    have a2 : aj' r (q (y - 1)) := by rw [← epp]; exact U.a pp hpp
    have := D.ij r (q x) (q (y - 1)) hr a1 a2 (by rw [k1, k2, k3])
    rw [← e1, ← epp] at this
    rcases Nat.lt_trichotomy i pp with c | c | c
    · exact U.i i pp c hpp this
    · exact ne c
    · exact U.i pp i c hi this.symm
  have bP : Bx B q b L r (u pp) = 9 + lo := by
    unfold Bx
    have := u9 pp hpp
    rw [if_pos r9, if_neg (by omega), if_pos (bo_t.mpr ⟨y - 1, epp, by rw [show y - 1 + 1 = y by omega]; exact ey.symm⟩), ps, ← hlo]
  have bS : ∀ x, x + 1 < ns → Bx B q b L r (9 + (lo + x) % 4) = 9 + (lo + (x + 1)) % 4 := fun x hx => by
    unfold Bx
    have e : (9 + (lo + x) % 4 - 9 + 1) % 4 = (lo + (x + 1)) % 4 := by omega
    rw [if_pos r9, if_pos (by omega), e, if_pos (bo_t.mpr ((sides _ (Nat.mod_lt _ (by decide))).mpr ⟨x + 1, hx, rfl⟩))]
  have bE : Bx B q b L r (9 + (lo + (ns - 1)) % 4) = u ((pp + 1) % dg) := by
    rw [U.n pp hpp, epp]
    unfold Bx
    have e : (9 + (lo + (ns - 1)) % 4 - 9 + 1) % 4 = (lo + ns) % 4 := by omega
    rw [if_pos r9, if_pos (by omega), e, if_neg (fun h => ?_), ps]
    · have := (D.qr (y - 1)).2.2
      rw [show y - 1 + 1 = y by omega, ey, show y - 1 + 2 = y + 1 by omega] at this
      exact this.symm
    · obtain ⟨j, h1, h2⟩ := (sides _ (Nat.mod_lt _ (by decide))).mp (bo_t.mp h)
      omega
  refine enu_mk (W := Wx u pp ns lo) (by omega) (fun i hi => ⟨(D.nrq hr).mpr ?_, ?_⟩) (fun i j hij hj => ?_) (fun v hv => ?_)
  · rcases Wx_c u pp ns lo i with ⟨h, e⟩ | ⟨h1, h2, e⟩ | ⟨h, e⟩ <;> rw [e]
    · exact Or.inl (U.a i (by omega))
    · exact Or.inr ⟨_, Nat.mod_lt _ (by decide), rfl, (sides _ (Nat.mod_lt _ (by decide))).mpr ⟨i - pp - 1, by omega, rfl⟩⟩
    · exact Or.inl (U.a (i - ns) (by omega))
  · have w0 : Wx u pp ns lo 0 = u 0 := by unfold Wx; rw [if_pos (by omega)]
    have nxt' : ∀ x, x < dg → pp ≤ x → Wx u pp ns lo ((x + ns + 1) % (dg + ns)) = u ((x + 1) % dg) := fun x h1 h2 => by
      by_cases c : x + 1 < dg
      · rw [Nat.mod_eq_of_lt (show x + ns + 1 < dg + ns by omega), Nat.mod_eq_of_lt c]
        unfold Wx
        rw [if_neg (by omega), if_neg (by omega), show x + ns + 1 - ns = x + 1 by omega]
      · rw [show x + ns + 1 = dg + ns by omega, show x + 1 = dg by omega, Nat.mod_self, Nat.mod_self, w0]
    rcases Wx_c u pp ns lo i with ⟨h, e⟩ | ⟨h1, h2, e⟩ | ⟨h, e⟩ <;> rw [e]
    · by_cases c : i = pp
      · subst c
        rw [bP, Nat.mod_eq_of_lt (by omega)]
        unfold Wx
        rw [if_neg (by omega), if_pos (by omega), show i + 1 - i - 1 = 0 by omega]
        omega
      · rw [bJ i (by omega) c, Nat.mod_eq_of_lt (by omega), Nat.mod_eq_of_lt (show i + 1 < dg by omega)]
        unfold Wx
        rw [if_pos (by omega)]
    · by_cases c : i = pp + ns
      · subst c
        rw [show pp + ns - pp - 1 = ns - 1 by omega, bE]
        exact nxt' pp hpp (Nat.le_refl pp)
      · rw [bS (i - pp - 1) (by omega), Nat.mod_eq_of_lt (by omega)]
        unfold Wx
        rw [if_neg (by omega), if_pos (by omega), show i + 1 - pp - 1 = i - pp - 1 + 1 by omega]
    · rw [bJ (i - ns) (by omega) (by omega)]
      have := nxt' (i - ns) (by omega) (by omega)
      rw [show i - ns + ns + 1 = i + 1 by omega] at this
      exact this
  · rcases Wx_c u pp ns lo i with ⟨h, e⟩ | ⟨h1, h2, e⟩ | ⟨h, e⟩ <;> rcases Wx_c u pp ns lo j with ⟨k, e'⟩ | ⟨k1, k2, e'⟩ | ⟨k, e'⟩ <;> rw [e, e']
    · exact U.i i j hij (by omega)
    · have := u9 i (by omega); omega
    · exact U.i i (j - ns) (by omega) (by omega)
    · omega
    · omega
    · have := u9 (j - ns) (by omega); omega
    · omega
    · omega
    · exact U.i (i - ns) (j - ns) (by omega) (by omega)
  · rcases (D.nrq hr).mp hv with h | ⟨s, hs, e, h⟩
    · obtain ⟨i, hi, e⟩ := U.s v h
      by_cases c : i ≤ pp
      · exact ⟨i, by omega, by unfold Wx; rw [if_pos c]; exact e⟩
      · exact ⟨i + ns, by omega, by unfold Wx; rw [if_neg (by omega), if_neg (by omega), show i + ns - ns = i by omega]; exact e⟩
    · obtain ⟨j, hj, ej⟩ := (sides s hs).mp h
      refine ⟨pp + 1 + j, by omega, ?_⟩
      unfold Wx
      rw [if_neg (by omega), if_pos (by omega), show pp + 1 + j - pp - 1 = j by omega, e, ej]
end
section
/-! a plan's rings: RX -/
theorem jA_80 {σ : mm_S} {n m k : Nat} (Z : ZI σ n m) (hk : k < n) : ∃ a b, a < 9 ∧ b < 9 ∧ a ≠ b ∧ rmx m a ∧ rmx m b ∧ jA σ k = a ∧ jB σ k = b ∧ σ 80 k = nI a ∧ σ 81 k = nI b := by
  obtain ⟨a, b, ha, hb, ne, ma, mb, e1, e2⟩ := Z.ck.je k hk
  obtain ⟨j1, j2⟩ := Z.jj k hk
  refine ⟨a, b, ha, hb, ne, ⟨ha, ma⟩, ⟨hb, mb⟩, ?_, ?_, j1.trans e1, j2.trans e2⟩
  · unfold jA; rw [e1]; exact nI_clamp (by omega)
  · unfold jB; rw [e2]; exact nI_clamp (by omega)
theorem nd_ot {σ : mm_S} {n m k r : Nat} (Z : ZI σ n m) (hk : k < n) (hr : r < 9) (ek : em σ r k) : ∃ o, ndo n (jA σ) (jB σ) r k = o ∧ o < 9 ∧ rmx m o ∧ f_101 σ (nI k) (nI r) = nI o ∧ aj σ r o ∧ ((jA σ k = r ∧ jB σ k = o ∧ σ 80 k = nI r ∧ σ 81 k = nI o) ∨ (jA σ k = o ∧ jB σ k = r ∧ σ 80 k = nI o ∧ σ 81 k = nI r)) := by
  obtain ⟨o, o9, onr, mr, mo, eo, _, ao, ends⟩ := Z.ot hk hr ek
  obtain ⟨a, b, ha, hb, ne, _, _, e1, e2, e3, e4⟩ := jA_80 Z hk
  rcases ends with ⟨h1, h2⟩ | ⟨h1, h2⟩
  · have x1 := nI9 ha hr (e3.symm.trans h1)
    have x2 := nI9 hb o9 (e4.symm.trans h2)
    subst x1; subst x2
    exact ⟨b, by unfold ndo; rw [if_pos hk, if_pos e1]; exact e2, o9, ⟨o9, mo⟩, eo, ao, Or.inl ⟨e1, e2, h1, h2⟩⟩
  · have x1 := nI9 ha o9 (e3.symm.trans h1)
    have x2 := nI9 hb hr (e4.symm.trans h2)
    subst x1; subst x2
    exact ⟨a, by unfold ndo; rw [if_pos hk, if_neg (by rw [e1]; exact onr)]; exact e1, o9, ⟨o9, mo⟩, eo, ao, Or.inr ⟨e1, e2, h1, h2⟩⟩
theorem PLD.yp {σ : mm_S} {n m : Nat} {B : Nat → Nat → Nat} {s t L f : Nat} {Mk : Nat → Nat} {lab : Nat × Nat → Int32} {p K : Nat → Nat} (P : PLD σ n m B s t L f Mk lab p K) {j : Nat} (hj : j < L) : 1 ≤ ypl L (p 0) j ∧ ypl L (p 0) j ≤ L ∧ qo B s t p (ypl L (p 0) j) = wo B s t j ∧ qo B s t p (ypl L (p 0) j - 1) = wo B s t ((j + L - 1) % L) := by
  have p0 := P.pl 0 (by decide)
  obtain ⟨y, hy⟩ : ∃ y, y = ypl L (p 0) j := ⟨_, rfl⟩
  have key : 1 ≤ y ∧ y ≤ L ∧ (p 0 + y = j ∨ p 0 + y = j + L) := by
    rw [hy]
    unfold ypl
    rcases Nat.lt_trichotomy j (p 0) with c | c | c
    · rw [Nat.mod_eq_of_lt (by omega), if_neg (by omega)]; omega
    · rw [c, show p 0 + L - p 0 = L by omega, Nat.mod_self, if_pos rfl]; omega
    · rw [show j + L - p 0 = (j - p 0) + L by omega, Nat.add_mod_right, Nat.mod_eq_of_lt (by omega), if_neg (by omega)]; omega
  rw [← hy]
  obtain ⟨k1, k2, k3⟩ := key
  refine ⟨k1, k2, ?_, ?_⟩
  · show wo B s t (p 0 + y) = _
    rcases k3 with e | e
    · rw [e]
    · rw [e]; exact P.wp j
  · show wo B s t (p 0 + (y - 1)) = _
    rcases k3 with e | e
    · rw [show p 0 + (y - 1) = j - 1 by omega, show j + L - 1 = j - 1 + L by omega, Nat.add_mod_right, Nat.mod_eq_of_lt (by omega)]
    · rw [show p 0 + (y - 1) = j + L - 1 by omega]; exact (P.wm _).symm
theorem PLD.rx1 {σ τ : mm_S} {n m : Nat} {B : Nat → Nat → Nat} {s t L f : Nat} {Mk : Nat → Nat} {lab : Nat × Nat → Int32} {p K : Nat → Nat} (P : PLD σ n m B s t L f Mk lab p K) (Z : ZI σ n m) (A : AO σ τ n) (t80 : τ 80 = σ 80) (t81 : τ 81 = σ 81) {r z : Nat} {e : Nat → Nat} (hr : rmx m r) (R : RNr σ τ n L (p 0) (wo B s t) (bo4 L p) r z e) : (∀ i, i < z → (e i < n ∧ (jA σ (e i) = r ∨ jB σ (e i) = r)) ∨ ∃ s', s' < 4 ∧ e i = 41 + s') ∧ ENU (nrP σ m B s t L p) (BpP B s t L p) r (fun i => ndo n (jA σ) (jB σ) r (e (i % z))) z ∧ ∀ k, k < n → em σ r k → ∃ i, i < z ∧ e i = k := by
  have n21 := Z.ck.jn.1
  have N := P.w.2.1
  have D := P.dsk
  obtain ⟨r9, mr⟩ := id hr
  obtain ⟨dg', _, e87', a1, a2, a3⟩ := A r r9
  obtain ⟨dg, al, d8, e87, hal, R⟩ := R
  have ed : dg' = dg := (nI_eq (by omega) (by omega)).mp (e87'.symm.trans e87)
  subst ed
  have a4 : ∀ i j, i < j → j < dg' → al i ≠ al j := fun i j h1 h2 e' => by
    obtain ⟨o, eo, o9, ro, fo, ao, _⟩ := nd_ot Z (hal i (by omega)).1 r9 (hal i (by omega)).2.1
    have := a3 i j h1 h2
    rw [(hal i (by omega)).2.2, (hal j h2).2.2, ← e'] at this
    have := (Z.f3 N r9 mr ao ao fo fo).mp this
    exact gah_asym this this
  have alk : ∀ k, k < n → em σ r k → ∃ i, i < dg' ∧ al i = k := fun k hk ek => by
    obtain ⟨i, hi, e1⟩ := a2 k hk ek
    have := (hal i hi).1
    exact ⟨i, hi, (nI_eq (by omega) (by omega)).mp ((hal i hi).2.2.symm.trans e1)⟩
  have U : UJ (rmx m) (aj σ) B r dg' (fun i => ndo n (jA σ) (jB σ) r (al i)) := by
    refine ⟨fun i hi => ?_, fun i hi => ?_, fun i j hij hj e' => ?_, fun v hv => ?_⟩
    · obtain ⟨o, eo, _, _, _, ao, _⟩ := nd_ot Z (hal i hi).1 r9 (hal i hi).2.1
      rw [← eo] at ao; exact ao
    · have ml : (i + 1) % dg' < dg' := Nat.mod_lt _ (by omega)
      obtain ⟨o, eo, o9, _, fo, ao, _⟩ := nd_ot Z (hal i hi).1 r9 (hal i hi).2.1
      obtain ⟨o', eo', o9', _, fo', ao', _⟩ := nd_ot Z (hal _ ml).1 r9 (hal _ ml).2.1
      obtain ⟨x, x', h1, h2, h3⟩ := AO_nx Z N r9 hi a1 a2 a3 (hal i hi).1 (hal i hi).2.1 (hal i hi).2.2 (hal _ ml).1 (hal _ ml).2.1 (hal _ ml).2.2
      have y1 : x = o := nI9 h3.1.1 o9 (h1.symm.trans fo)
      have y2 : x' = o' := nI9 h3.2.1.1 o9' (h2.symm.trans fo')
      subst y1; subst y2
      show ndo n (jA σ) (jB σ) r (al ((i + 1) % dg')) = B r (ndo n (jA σ) (jB σ) r (al i))
      rw [eo, eo']
      exact nxt_uniq h3 (P.bn r x r9 mr ao)
    · have e'' : ndo n (jA σ) (jB σ) r (al i) = ndo n (jA σ) (jB σ) r (al j) := e'
      obtain ⟨o, eo, o9, _, fo, _⟩ := nd_ot Z (hal i (by omega)).1 r9 (hal i (by omega)).2.1
      obtain ⟨o', eo', o9', _, fo', _⟩ := nd_ot Z (hal j hj).1 r9 (hal j hj).2.1
      rw [eo, eo'] at e''
      subst e''
      exact a4 i j hij hj (Z.oi (hal i (by omega)).1 (hal j hj).1 r9 (hal i (by omega)).2.1 (hal j hj).2.1 fo fo' o9)
    · obtain ⟨k, hk, ek, fk⟩ := Z.oj r9 mr hv
      obtain ⟨i, hi, ei⟩ := alk k hk ek
      obtain ⟨o, eo, o9, _, fo, _⟩ := nd_ot Z hk r9 ek
      exact ⟨i, hi, by show ndo n (jA σ) (jB σ) r (al i) = v; rw [ei, eo]; exact nI9 o9 hv.1 (fo.symm.trans fk)⟩
  have kda : ∀ i, i < dg' → al i < n ∧ (jA σ (al i) = r ∨ jB σ (al i) = r) := fun i hi => by
    obtain ⟨o, _, _, _, _, _, ends⟩ := nd_ot Z (hal i hi).1 r9 (hal i hi).2.1
    exact ⟨(hal i hi).1, ends.imp (fun h => h.1) (fun h => h.2.1)⟩
  have n41 : ∀ x, ndo n (jA σ) (jB σ) r (41 + x) = 9 + x := fun x => by unfold ndo; rw [if_neg (by omega)]; omega
  rcases R with ⟨ez, ee, out⟩ | ⟨j, pp, ns, hj, ej, hpp, hm, hns, _, ez, k1, k2, k3⟩
  · subst ez
    have no : ∀ y, qo B s t p y ≠ r := fun y e' => by
      have e2 : wo B s t ((p 0 + y) % L) = r := (P.wm (p 0 + y)).trans e'
      have ml : (p 0 + y) % L < L := Nat.mod_lt _ (by have := P.l3; omega)
      rcases out with out | ⟨j, hj, ej, nm⟩
      · exact out _ ml e2
      · obtain ⟨y1, yL, q1, q2⟩ := P.yp hj
        obtain ⟨w1, w2, _⟩ := D.qr (ypl L (p 0) j - 1)
        rw [show ypl L (p 0) j - 1 + 1 = ypl L (p 0) j by omega, q1, q2, ej] at w2
        rw [q2] at w1
        obtain ⟨_, _, w3⟩ := D.ed _ _ w1 w2
        obtain ⟨k, hk, ek, fk⟩ := Z.oj r9 mr w3
        obtain ⟨i, hi, ei⟩ := alk k hk ek
        obtain ⟨o, eo, o9, _, fo, _, ends⟩ := nd_ot Z hk r9 ek
        have : o = wo B s t ((j + L - 1) % L) := nI9 o9 w1.1 (fo.symm.trans fk)
        subst this
        refine nm i hi ?_
        unfold mjn
        rw [t80, t81, ei]
        exact ends.symm.imp (fun h => ⟨h.2.2.1, h.2.2.2⟩) (fun h => ⟨h.2.2.1, h.2.2.2⟩)
    have E := enu_in D hr U no
    have d1 : 1 ≤ z := E.2.1
    refine ⟨fun i hi => Or.inl (by rw [ee i hi]; exact kda i hi), ?_, fun k hk ek => ?_⟩
    · have ef : (fun i => ndo n (jA σ) (jB σ) r (e (i % z))) = fun k => (fun i => ndo n (jA σ) (jB σ) r (al i)) (k % z) := funext (fun i => by
        show ndo n (jA σ) (jB σ) r (e (i % z)) = ndo n (jA σ) (jB σ) r (al (i % z))
        rw [ee _ (Nat.mod_lt _ (by omega))])
      rw [ef]; exact E
    · obtain ⟨i, hi, ei⟩ := alk k hk ek
      exact ⟨i, hi, by rw [ee i hi]; exact ei⟩
  · obtain ⟨y1, yL, q1, q2⟩ := P.yp hj
    have epp : ndo n (jA σ) (jB σ) r (al pp) = qo B s t p (ypl L (p 0) j - 1) := by
      obtain ⟨o, eo, o9, _, _, ao, ends⟩ := nd_ot Z (hal pp hpp).1 r9 (hal pp hpp).2.1
      have q9 : wo B s t ((j + L - 1) % L) < 9 := (P.wa _).1.1
      rw [eo, q2]
      unfold mjn at hm
      rw [t80, t81] at hm
      have onr : o ≠ r := fun h => (D.ed r o hr ao).2.1 h.symm
      rcases hm with ⟨m1, m2⟩ | ⟨m1, m2⟩ <;> rcases ends with ⟨_, _, u1, u2⟩ | ⟨_, _, u1, u2⟩
      · exact absurd (nI9 o9 r9 (u2.symm.trans m2)) onr
      · exact nI9 o9 q9 (u1.symm.trans m1)
      · exact nI9 o9 q9 (u2.symm.trans m2)
      · exact absurd (nI9 o9 r9 (u1.symm.trans m1)) onr
    have E := enu_out D hr U y1 yL (q1.trans ej) hpp epp
    rw [← hns, ← ez] at E
    generalize lo4 (bo4 L p) (ypl L (p 0) j) = lo at E k2
    have zp : 1 ≤ z := E.2.1
    have eW : ∀ i, i < z → ndo n (jA σ) (jB σ) r (e i) = Wx (fun i => ndo n (jA σ) (jB σ) r (al i)) pp ns lo i := fun i hi => by
      rcases Wx_c (fun i => ndo n (jA σ) (jB σ) r (al i)) pp ns lo i with ⟨h, w⟩ | ⟨h1, h2, w⟩ | ⟨h, w⟩ <;> rw [w]
      · rw [k1 i h]
      · have := k2 (i - pp - 1) (by omega)
        rw [show pp + 1 + (i - pp - 1) = i by omega] at this
        rw [this]; exact n41 _
      · have := k3 (i - ns) (by omega) (by omega)
        rw [show i - ns + ns = i by omega] at this
        rw [this]
    refine ⟨fun i hi => ?_, ?_, fun k hk ek => ?_⟩
    · rcases Wx_c (fun i => ndo n (jA σ) (jB σ) r (al i)) pp ns lo i with ⟨h, _⟩ | ⟨h1, h2, _⟩ | ⟨h, _⟩
      · rw [k1 i h]; exact Or.inl (kda i (by omega))
      · have := k2 (i - pp - 1) (by omega)
        rw [show pp + 1 + (i - pp - 1) = i by omega] at this
        rw [this]; exact Or.inr ⟨_, Nat.mod_lt _ (by decide), rfl⟩
      · have := k3 (i - ns) (by omega) (by omega)
        rw [show i - ns + ns = i by omega] at this
        rw [this]; exact Or.inl (kda _ (by omega))
    · have ef : (fun i => ndo n (jA σ) (jB σ) r (e (i % z))) = fun k => Wx (fun i => ndo n (jA σ) (jB σ) r (al i)) pp ns lo (k % z) := funext (fun i => eW _ (Nat.mod_lt _ (by omega)))
      rw [ef]; exact E
    · obtain ⟨i, hi, ei⟩ := alk k hk ek
      by_cases c : i ≤ pp
      · exact ⟨i, by omega, by rw [k1 i c]; exact ei⟩
      · exact ⟨i + ns, by omega, by rw [k3 i (by omega) hi]; exact ei⟩
theorem PLD.rx {σ τ : mm_S} {n m : Nat} {B : Nat → Nat → Nat} {s t L f : Nat} {Mk : Nat → Nat} {lab : Nat × Nat → Int32} {p K : Nat → Nat} (P : PLD σ n m B s t L f Mk lab p K) (Z : ZI σ n m) (A : AO σ τ n) (t80 : τ 80 = σ 80) (t81 : τ 81 = σ 81) {zz : Nat → Nat} {en : Nat → Nat → Nat} (R : ∀ r, r < 9 → RNr σ τ n L (p 0) (wo B s t) (bo4 L p) r (zz r) (en r)) : RX (rmx m) (nrP σ m B s t L p) (BpP B s t L p) n (jA σ) (jB σ) zz en := by
  have n21 := Z.ck.jn.1
  refine ⟨P.gp, n21, fun r i hr hi => (P.rx1 Z A t80 t81 hr (R r hr.1)).1 i hi, fun r hr => (P.rx1 Z A t80 t81 hr (R r hr.1)).2.1, fun k hk => ?_, fun k l hk hl h => ?_, fun k hk => ?_⟩
  · obtain ⟨a, b, _, _, ne, ra, rb, e1, e2, _⟩ := jA_80 Z hk
    rw [e1, e2]; exact ⟨ra, rb, ne⟩
  · obtain ⟨a, b, _, _, ne, ra, rb, e1, e2, e3, e4⟩ := jA_80 Z hk
    obtain ⟨a', b', _, _, ne', ra', rb', e1', e2', e3', e4'⟩ := jA_80 Z hl
    rw [e1, e2, e1', e2'] at h
    refine Z.mk.jd k l hk hl a b e3 e4 ?_
    rcases h with ⟨h1, h2⟩ | ⟨h1, h2⟩
    · exact Or.inl ⟨by rw [e3', h1], by rw [e4', h2]⟩
    · exact Or.inr ⟨by rw [e3', h2], by rw [e4', h1]⟩
  · obtain ⟨a, b, a9, b9, ne, ra, rb, e1, e2, e3, e4⟩ := jA_80 Z hk
    rw [e1, e2]
    exact ⟨(P.rx1 Z A t80 t81 ra (R a a9)).2.2 k hk (Or.inl e3), (P.rx1 Z A t80 t81 rb (R b b9)).2.2 k hk (Or.inr e4)⟩
end
