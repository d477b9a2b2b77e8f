/-! the vectors that agree with cuts are the layouts' vectors -/
variable {rm : Nat → Prop} {nr : Nat → Nat → Prop} {Bp : Nat → Nat → Nat} {n : Nat} {ja jb zz : Nat → Nat} {en : Nat → Nat → Nat}
theorem blk_c (a b u i : Nat) : (blk a b u i = 0 ∧ i < a) ∨ (blk a b u i = 1 ∧ a ≤ i ∧ i < a + b) ∨ (blk a b u i = 2 ∧ a + b ≤ i ∧ i < a + b + u) ∨ (blk a b u i = 3 ∧ a + b + u ≤ i) := by
  unfold blk
  by_cases h1 : i < a
  · rw [if_pos h1]; omega
  · rw [if_neg h1]
    by_cases h2 : i < a + b
    · rw [if_pos h2]; omega
    · rw [if_neg h2]
      by_cases h3 : i < a + b + u
      · rw [if_pos h3]; omega
      · rw [if_neg h3]; omega
theorem mono_blk {f : Nat → Nat} {z s : Nat} (hs : s < z) (f0 : f 0 = 0) (mo : ∀ k, k + 1 < z → f k ≤ f (k + 1)) (f4 : ∀ k, k < z → f k < 4) (hit : ∀ q, q < 4 → ∃ k, k < z ∧ f k = q) : ∃ a b u, cok z s a b u ∧ ∀ k, k < z → f k = blk a b u k := by
  have mono : ∀ d k, k + d < z → f k ≤ f (k + d) := by
    intro d
    induction d with
    | zero => intro k _; exact Nat.le_refl _
    | succ d ih => intro k h; exact Nat.le_trans (ih k (by omega)) (mo (k + d) (by omega))
  have mn : ∀ k l, k ≤ l → l < z → f k ≤ f l := fun k l h1 h2 => by have := mono (l - k) k (by omega); rw [show k + (l - k) = l by omega] at this; exact this
  have fst : ∀ q, q < 4 → ∃ x, x < z ∧ (∀ k, k < z → (q ≤ f k ↔ x ≤ k)) := fun q hq => by
    obtain ⟨k0, k1, k2⟩ := hit q hq
    obtain ⟨x, hx, lx⟩ := ex_min (P := fun k => k < z ∧ q ≤ f k) ⟨k0, k1, by omega⟩
    refine ⟨x, hx.1, fun k hk => ⟨fun h => ?_, fun h => Nat.le_trans hx.2 (mn x k h hk)⟩⟩
    rcases Nat.lt_or_ge k x with c | c
    · exact absurd ⟨hk, h⟩ (lx k c)
    · exact c
  obtain ⟨x1, z1, p1⟩ := fst 1 (by decide)
  obtain ⟨x2, z2, p2⟩ := fst 2 (by decide)
  obtain ⟨x3, z3, p3⟩ := fst 3 (by decide)
  obtain ⟨k1, l1, e1⟩ := hit 1 (by decide)
  obtain ⟨k2, l2, e2⟩ := hit 2 (by decide)
  have a0 := p1 0 (by omega)
  have a1 := p1 k1 l1
  have a2 := p2 k1 l1
  have a3 := p2 k2 l2
  have a4 := p3 k2 l2
  refine ⟨x1, x2 - x1, x3 - x2, ⟨hs, by omega, by omega, by omega, by omega⟩, fun k hk => ?_⟩
  have b1 := p1 k hk
  have b2 := p2 k hk
  have b3 := p3 k hk
  have b4 := f4 k hk
  have := blk_c x1 (x2 - x1) (x3 - x2) k
  omega
/-- the node that an entry of room r's ring stands for -/
def ndo (n : Nat) (ja jb : Nat → Nat) (r w : Nat) : Nat := if w < n then (if ja w = r then jb w else ja w) else w - 32
def RX (rm : Nat → Prop) (nr : Nat → Nat → Prop) (Bp : Nat → Nat → Nat) (n : Nat) (ja jb zz : Nat → Nat) (en : Nat → Nat → Nat) : Prop := (GP rm nr Bp) ∧ (n ≤ 21) ∧ (∀ r i, rm r → i < zz r → (en r i < n ∧ (ja (en r i) = r ∨ jb (en r i) = r)) ∨ ∃ s', s' < 4 ∧ en r i = 41 + s') ∧ (∀ r, rm r → ENU nr Bp r (fun i => ndo n ja jb r (en r (i % zz r))) (zz r)) ∧ (∀ k, k < n → rm (ja k) ∧ rm (jb k) ∧ ja k ≠ jb k) ∧ (∀ k l, k < n → l < n → ((ja k = ja l ∧ jb k = jb l) ∨ (ja k = jb l ∧ jb k = ja l)) → k = l) ∧ (∀ k, k < n → inR zz en (ja k) k ∧ inR zz en (jb k) k)
theorem RX.gp {rm : Nat → Prop} {nr : Nat → Nat → Prop} {Bp : Nat → Nat → Nat} {n : Nat} {ja jb zz : Nat → Nat} {en : Nat → Nat → Nat} (h : RX rm nr Bp n ja jb zz en) : GP rm nr Bp := h.1
theorem RX.n21 {rm : Nat → Prop} {nr : Nat → Nat → Prop} {Bp : Nat → Nat → Nat} {n : Nat} {ja jb zz : Nat → Nat} {en : Nat → Nat → Nat} (h : RX rm nr Bp n ja jb zz en) : n ≤ 21 := h.2.1
theorem RX.kd {rm : Nat → Prop} {nr : Nat → Nat → Prop} {Bp : Nat → Nat → Nat} {n : Nat} {ja jb zz : Nat → Nat} {en : Nat → Nat → Nat} (h : RX rm nr Bp n ja jb zz en) : ∀ r i, rm r → i < zz r → (en r i < n ∧ (ja (en r i) = r ∨ jb (en r i) = r)) ∨ ∃ s', s' < 4 ∧ en r i = 41 + s' := h.2.2.1
theorem RX.eu {rm : Nat → Prop} {nr : Nat → Nat → Prop} {Bp : Nat → Nat → Nat} {n : Nat} {ja jb zz : Nat → Nat} {en : Nat → Nat → Nat} (h : RX rm nr Bp n ja jb zz en) : ∀ r, rm r → ENU nr Bp r (fun i => ndo n ja jb r (en r (i % zz r))) (zz r) := h.2.2.2.1
theorem RX.je {rm : Nat → Prop} {nr : Nat → Nat → Prop} {Bp : Nat → Nat → Nat} {n : Nat} {ja jb zz : Nat → Nat} {en : Nat → Nat → Nat} (h : RX rm nr Bp n ja jb zz en) : ∀ k, k < n → rm (ja k) ∧ rm (jb k) ∧ ja k ≠ jb k := h.2.2.2.2.1
theorem RX.ju {rm : Nat → Prop} {nr : Nat → Nat → Prop} {Bp : Nat → Nat → Nat} {n : Nat} {ja jb zz : Nat → Nat} {en : Nat → Nat → Nat} (h : RX rm nr Bp n ja jb zz en) : ∀ k l, k < n → l < n → ((ja k = ja l ∧ jb k = jb l) ∨ (ja k = jb l ∧ jb k = ja l)) → k = l := h.2.2.2.2.2.1
theorem RX.al {rm : Nat → Prop} {nr : Nat → Nat → Prop} {Bp : Nat → Nat → Nat} {n : Nat} {ja jb zz : Nat → Nat} {en : Nat → Nat → Nat} (h : RX rm nr Bp n ja jb zz en) : ∀ k, k < n → inR zz en (ja k) k ∧ inR zz en (jb k) k := h.2.2.2.2.2.2
theorem rx_a (X : RX rm nr Bp n ja jb zz en) {sd : Nat → Nat → Nat} (Y : LYa rm nr Bp sd) {r : Nat} (hr : rm r) : ∃ s a b u, cok (zz r) s a b u ∧ FTS zz en ja n r s a b u (dvec ja jb sd) := by
  obtain ⟨w, dg, E, w0, mo⟩ := lay_enu X.gp Y hr (show 0 < 4 by decide)
  have E' := X.eu r hr
  obtain ⟨z, hz⟩ : ∃ z, z = zz r := ⟨_, rfl⟩
  rw [← hz] at E'
  have ed : dg = z := by
    have h1 := enu_ct X.gp E (fun _ => True)
    have h2 := enu_ct X.gp E' (fun _ => True)
    rw [ct_T] at h1 h2
    exact h1.symm.trans h2
  subst ed
  obtain ⟨s, hs, es⟩ := E'.2.2.2.2 (w 0) (E.1 0).1
  have same : ∀ k, w k = ndo n ja jb r (en r ((s + k) % dg)) := by
    intro k
    induction k with
    | zero => exact es.symm
    | succ k ih =>
      rw [(E.1 k).2, ih]
      exact ((E'.1 (s + k)).2).symm
  have q4 : ∀ k, sd r (w k) < 4 := fun k => Y.lt r (w k) hr (E.1 k).1
  have m4 : ∀ k, (sd r (w k) + 4 - 0) % 4 = sd r (w k) := fun k => by have := q4 k; omega
  obtain ⟨a, b, u, hc, hf⟩ := mono_blk (f := fun k => sd r (w k)) hs (by have := m4 0; omega) (fun k hk => by have := mo k hk; rw [m4, m4] at this; exact this) (fun k _ => q4 k) (fun q hq => by
    obtain ⟨v, hv, ev, _⟩ := Y.on r q hr hq
    obtain ⟨k, hk, e⟩ := E.2.2.2.2 v hv
    exact ⟨k, hk, by show sd r (w k) = q; rw [e]; exact ev⟩)
  refine ⟨s, a, b, u, by rw [← hz]; exact hc, fun i hi => ?_⟩
  rw [← hz] at hi ⊢
  have ml : (s + i) % dg < dg := Nat.mod_lt _ (by omega)
  have hfi : sd r (w i) = blk a b u i := hf i hi
  have nri := (E.1 i).1
  rw [same i] at hfi nri
  have key := X.kd r ((s + i) % dg) hr (by rw [← hz]; exact ml)
  clear same
  generalize en r ((s + i) % dg) = x at hfi nri key ⊢
  have n21 := X.n21
  refine ⟨fun hx => ?_, fun s' h4 e => ?_⟩
  · obtain ⟨_, ends⟩ := key.resolve_right (fun ⟨s', _, e⟩ => by omega)
    obtain ⟨ra, rb, ne⟩ := X.je x hx
    unfold ndo at hfi nri
    rw [if_pos hx] at hfi nri
    unfold dvec dro
    by_cases c : ja x = r
    · rw [if_pos c] at hfi nri
      rw [if_pos c, ← hfi, c]
    · have c' := ends.resolve_left c
      rw [if_neg c] at hfi nri
      rw [if_neg c, ← hfi, c']
      rw [Y.op r (ja x) hr ra nri]
  · unfold ndo at hfi nri
    rw [if_neg (by omega), show x - 32 = 9 + s' by omega] at hfi nri
    rw [Y.sd r s' hr h4 nri] at hfi
    exact hfi
theorem dv_ij {x y : Nat} (hx : x < 4) (hy : y < 4) (h : dv x = dv y) : x = y := by
  rcases (show x = 0 ∨ x = 1 ∨ x = 2 ∨ x = 3 by omega) with e | e | e | e <;> rcases (show y = 0 ∨ y = 1 ∨ y = 2 ∨ y = 3 by omega) with e' | e' | e' | e' <;> subst e <;> subst e' <;> first | rfl | exact absurd h (by decide)
/-- a cut gives the sides of a room's nodes -/
theorem cut_sd {r z s a b u : Nat} {w : Nat → Nat} (E : ENU nr Bp r w z) (per : ∀ x, w x = w (x % z)) (hc : cok z s a b u) : ∃ g : Nat → Nat, (∀ i, i < z → g (w (s + i)) = blk a b u i) ∧ (∀ v, nr r v → ∃ i, i < z ∧ v = w (s + i)) ∧ (∀ v, nr r v → g v < 4) ∧ (∀ v, nr r v → g (Bp r v) = g v ∨ g (Bp r v) = (g v + 1) % 4) ∧ ∀ q, q < 4 → ∃ v, nr r v ∧ g v = q ∧ g (Bp r v) = (q + 1) % 4 ∧ ∀ v', nr r v' → g v' = q → g (Bp r v') = (q + 1) % 4 → v' = v := by
  obtain ⟨h1, z1, hz, inj, sur⟩ := E
  obtain ⟨hs, ha, hb, hu, hsum⟩ := hc
  have ij : ∀ i j, i < z → j < z → w (s + i) = w (s + j) → i = j := fun i j hi hj e => by
    rw [per (s + i), per (s + j)] at e
    have m1 : (s + i) % z < z := Nat.mod_lt _ (by omega)
    have m2 : (s + j) % z < z := Nat.mod_lt _ (by omega)
    have em : (s + i) % z = (s + j) % z := by
      rcases Nat.lt_trichotomy ((s + i) % z) ((s + j) % z) with c | c | c
      · exact absurd e (inj _ _ c m2)
      · exact c
      · exact absurd e.symm (inj _ _ c m1)
    rcases Nat.lt_or_ge (s + i) z with c | c <;> rcases Nat.lt_or_ge (s + j) z with c' | c'
    · rw [Nat.mod_eq_of_lt c, Nat.mod_eq_of_lt c'] at em; omega
    · rw [Nat.mod_eq_of_lt c, Nat.mod_eq_sub_mod c', Nat.mod_eq_of_lt (by omega)] at em; omega
    · rw [Nat.mod_eq_sub_mod c, Nat.mod_eq_of_lt (show s + i - z < z by omega), Nat.mod_eq_of_lt c'] at em; omega
    · rw [Nat.mod_eq_sub_mod c, Nat.mod_eq_of_lt (show s + i - z < z by omega), Nat.mod_eq_sub_mod c', Nat.mod_eq_of_lt (by omega)] at em; omega
  have all : ∀ v, nr r v → ∃ i, i < z ∧ v = w (s + i) := fun v hv => by
    obtain ⟨k, hk, e⟩ := sur v hv
    refine ⟨(k + z - s) % z, Nat.mod_lt _ (by omega), ?_⟩
    rw [per (s + (k + z - s) % z), Nat.add_mod_mod, show s + (k + z - s) = k + z by omega, Nat.add_mod_right, Nat.mod_eq_of_lt hk]
    exact e.symm
  obtain ⟨g, hg⟩ : ∃ g : Nat → Nat, ∀ i, i < z → g (w (s + i)) = blk a b u i := by
    refine ⟨fun v => blk a b u (if h : ∃ i, i < z ∧ w (s + i) = v then Classical.choose h else 0), fun i hi => ?_⟩
    have h : ∃ j, j < z ∧ w (s + j) = w (s + i) := ⟨i, hi, rfl⟩
    show blk a b u (if h : ∃ j, j < z ∧ w (s + j) = w (s + i) then Classical.choose h else 0) = blk a b u i
    rw [dif_pos h]
    obtain ⟨c1, c2⟩ := Classical.choose_spec h
    rw [ij _ i c1 hi c2]
  have w0 : w (s + z) = w (s + 0) := by rw [per (s + z), per (s + 0), Nat.add_mod_right]; rfl
  have nx : ∀ i, i < z → g (Bp r (w (s + i))) = blk a b u (if i + 1 < z then i + 1 else 0) := fun i hi => by
    rw [← (h1 (s + i)).2]
    by_cases c : i + 1 < z
    · rw [if_pos c]; exact hg (i + 1) c
    · rw [if_neg c, show s + i + 1 = s + z by omega, w0]; exact hg 0 (by omega)
  have nx' : ∀ i, i < z → (i + 1 < z ∧ g (Bp r (w (s + i))) = blk a b u (i + 1)) ∨ (i + 1 = z ∧ g (Bp r (w (s + i))) = blk a b u 0) := fun i hi => by
    rw [nx i hi]
    by_cases c : i + 1 < z
    · rw [if_pos c]; exact Or.inl ⟨c, rfl⟩
    · rw [if_neg c]; exact Or.inr ⟨by omega, rfl⟩
  refine ⟨g, hg, all, fun v hv => ?_, fun v hv => ?_, fun q hq => ?_⟩
  · obtain ⟨i, hi, e⟩ := all v hv
    rw [e, hg i hi]; exact blk_4 a b u i
  · obtain ⟨i, hi, e⟩ := all v hv
    rw [e, hg i hi]
    have c1 := blk_c a b u i
    have c2 := blk_c a b u (i + 1)
    have c3 := blk_c a b u 0
    rcases nx' i hi with ⟨y, e'⟩ | ⟨y, e'⟩ <;> rw [e'] <;> omega
  · obtain ⟨i, hi, hx⟩ : ∃ i, i < z ∧ ((q = 0 ∧ i + 1 = a) ∨ (q = 1 ∧ i + 1 = a + b) ∨ (q = 2 ∧ i + 1 = a + b + u) ∨ (q = 3 ∧ i + 1 = z)) := by
      rcases (show q = 0 ∨ q = 1 ∨ q = 2 ∨ q = 3 by omega) with e | e | e | e
      · exact ⟨a - 1, by omega, by omega⟩
      · exact ⟨a + b - 1, by omega, by omega⟩
      · exact ⟨a + b + u - 1, by omega, by omega⟩
      · exact ⟨z - 1, by omega, by omega⟩
    have c1 := blk_c a b u i
    have c2 := blk_c a b u (i + 1)
    have c3 := blk_c a b u 0
    refine ⟨w (s + i), (h1 (s + i)).1, by rw [hg i hi]; omega, ?_, fun v' hv' e1 e2 => ?_⟩
    · rcases nx' i hi with ⟨y, e'⟩ | ⟨y, e'⟩ <;> rw [e'] <;> omega
    · obtain ⟨j, hj, e⟩ := all v' hv'
      rw [e] at e1 e2 ⊢
      rw [hg j hj] at e1
      have d1 := blk_c a b u j
      have d2 := blk_c a b u (j + 1)
      have : j = i := by
        rcases nx' j hj with ⟨y, e'⟩ | ⟨y, e'⟩ <;> rw [e'] at e2 <;> omega
      rw [this]
theorem rx_b (X : RX rm nr Bp n ja jb zz en) {D : Nat → Nat} (H : ∀ r, rm r → ∃ s a b u, cok (zz r) s a b u ∧ FTS zz en ja n r s a b u D) : ∃ sd, LYa rm nr Bp sd ∧ ∀ k, k < n → D k = dvec ja jb sd k := by
  have n21 := X.n21
  have H' : ∀ r, ∃ g : Nat → Nat, rm r → (∀ j, j < zz r → (en r j < n → D (en r j) = dro ja (en r j) r (g (ndo n ja jb r (en r j)))) ∧ ∀ s', s' < 4 → en r j = 41 + s' → g (ndo n ja jb r (en r j)) = s') ∧ (∀ v, nr r v → ∃ j, j < zz r ∧ v = ndo n ja jb r (en r j)) ∧ (∀ v, nr r v → g v < 4) ∧ (∀ v, nr r v → g (Bp r v) = g v ∨ g (Bp r v) = (g v + 1) % 4) ∧ ∀ q, q < 4 → ∃ v, nr r v ∧ g v = q ∧ g (Bp r v) = (q + 1) % 4 ∧ ∀ v', nr r v' → g v' = q → g (Bp r v') = (q + 1) % 4 → v' = v := fun r => by
    by_cases hr : rm r
    · obtain ⟨s, a, b, u, hc, F⟩ := H r hr
      have zp : 0 < zz r := by have := hc.1; omega
      obtain ⟨g, g1, g2, g3, g4, g5⟩ := cut_sd (X.eu r hr) (fun x => by show ndo n ja jb r (en r (x % zz r)) = ndo n ja jb r (en r (x % zz r % zz r)); rw [Nat.mod_mod]) hc
      refine ⟨g, fun _ => ⟨fun j hj => ?_, fun v hv => ?_, g3, g4, g5⟩⟩
      · have hs := hc.1
        have ei : (s + (j + zz r - s) % zz r) % zz r = j := by
          rw [Nat.add_mod_mod, show s + (j + zz r - s) = j + zz r by omega, Nat.add_mod_right, Nat.mod_eq_of_lt hj]
        have a1 := F ((j + zz r - s) % zz r) (Nat.mod_lt _ zp)
        have a2 := g1 ((j + zz r - s) % zz r) (Nat.mod_lt _ zp)
        rw [ei] at a1 a2
        rw [a2]
        exact ⟨a1.1, fun s' h4 e => (a1.2 s' h4 e).symm⟩
      · obtain ⟨i, hi, e⟩ := g2 v hv
        exact ⟨(s + i) % zz r, Nat.mod_lt _ zp, e⟩
    · exact ⟨fun _ => 0, fun h => absurd h hr⟩
  obtain ⟨sd, hsd⟩ : ∃ sd : Nat → Nat → Nat, ∀ r, rm r → (∀ j, j < zz r → (en r j < n → D (en r j) = dro ja (en r j) r (sd r (ndo n ja jb r (en r j)))) ∧ ∀ s', s' < 4 → en r j = 41 + s' → sd r (ndo n ja jb r (en r j)) = s') ∧ (∀ v, nr r v → ∃ j, j < zz r ∧ v = ndo n ja jb r (en r j)) ∧ (∀ v, nr r v → sd r v < 4) ∧ (∀ v, nr r v → sd r (Bp r v) = sd r v ∨ sd r (Bp r v) = (sd r v + 1) % 4) ∧ ∀ q, q < 4 → ∃ v, nr r v ∧ sd r v = q ∧ sd r (Bp r v) = (q + 1) % 4 ∧ ∀ v', nr r v' → sd r v' = q → sd r (Bp r v') = (q + 1) % 4 → v' = v := ⟨fun r => Classical.choose (H' r), fun r hr => Classical.choose_spec (H' r) hr⟩
  have e9 : ∀ a b, rm a → rm b → nr a b → ∃ k, k < n ∧ ((ja k = a ∧ jb k = b) ∨ (ja k = b ∧ jb k = a)) ∧ D k = dro ja k a (sd a b) := fun a b ha hb h => by
    obtain ⟨j, hj, e⟩ := (hsd a ha).2.1 b h
    have b9 := X.gp.r9 b hb
    have a1 := (hsd a ha).1 j hj
    rw [← e] at a1
    rcases X.kd a j ha hj with ⟨k1, k2⟩ | ⟨s', _, k2⟩
    · refine ⟨en a j, k1, ?_, a1.1 k1⟩
      unfold ndo at e
      rw [if_pos k1] at e
      by_cases c : ja (en a j) = a
      · rw [if_pos c] at e; exact Or.inl ⟨c, e.symm⟩
      · rw [if_neg c] at e; exact Or.inr ⟨e.symm, k2.resolve_left c⟩
    · unfold ndo at e
      rw [if_neg (by omega)] at e; omega
  refine ⟨sd, ⟨fun a b ha hb h => ?_, fun r v hr hv => (hsd r hr).2.2.1 v hv, fun r s hr hs h => ?_, fun r v hr hv => (hsd r hr).2.2.2.1 v hv, fun r q hr hq => (hsd r hr).2.2.2.2 q hq⟩, fun k hk => ?_⟩
  · obtain ⟨k, hk, ends, eD⟩ := e9 a b ha hb h
    obtain ⟨l, hl, ends', eD'⟩ := e9 b a hb ha (X.gp.sy a b h)
    have q1 := (hsd a ha).2.2.1 b h
    have q2 := (hsd b hb).2.2.1 a (X.gp.sy a b h)
    have kl : k = l := X.ju k l hk hl (by rcases ends with ⟨p1, p2⟩ | ⟨p1, p2⟩ <;> rcases ends' with ⟨p3, p4⟩ | ⟨p3, p4⟩ <;> rw [p1, p2, p3, p4] <;> simp)
    subst kl
    have := eD.symm.trans eD'
    obtain ⟨_, _, ne⟩ := X.je k hk
    unfold dro at this
    rcases ends with ⟨p1, p2⟩ | ⟨p1, p2⟩
    · rw [if_pos p1, if_neg (fun z => ne (z.trans p2.symm))] at this
      have := dv_ij q1 (Nat.mod_lt _ (by decide)) this
      omega
    · rw [if_neg (fun z => ne (z.trans p2.symm)), if_pos p1] at this
      have := dv_ij (Nat.mod_lt _ (by decide)) q2 this
      omega
  · obtain ⟨j, hj, e⟩ := (hsd r hr).2.1 _ h
    have a1 := (hsd r hr).1 j hj
    rw [← e] at a1
    rcases X.kd r j hr hj with ⟨k1, k2⟩ | ⟨s', h4, k2⟩
    · unfold ndo at e
      rw [if_pos k1] at e
      obtain ⟨ra, rb, _⟩ := X.je _ k1
      have := X.gp.r9 _ ra
      have := X.gp.r9 _ rb
      by_cases c : ja (en r j) = r
      · rw [if_pos c] at e; omega
      · rw [if_neg c] at e; omega
    · have := a1.2 s' h4 k2
      unfold ndo at e
      rw [if_neg (by omega)] at e
      rw [this]; omega
  · obtain ⟨j, hj, e⟩ := (X.al k hk).1
    obtain ⟨ra, rb, ne⟩ := X.je k hk
    have a1 := ((hsd (ja k) ra).1 j hj).1
    rw [e] at a1
    rw [a1 hk]
    unfold dro dvec ndo
    rw [if_pos rfl, if_pos hk, if_pos rfl]
