-- the reference's behind is what comes next clockwise
theorem ZI.ot {σ : mm_S} {n m k r : Nat} (Z : ZI σ n m) (hk : k < n) (hr : r < 9) (h : em σ r k) : ∃ o, o < 9 ∧ o ≠ r ∧ m.testBit r = true ∧ m.testBit o = true ∧ f_101 σ (nI k) (nI r) = nI o ∧ em σ o k ∧ aj σ r o ∧ ((σ 80 k = nI r ∧ σ 81 k = nI o) ∨ (σ 80 k = nI o ∧ σ 81 k = nI r)) := by
  obtain ⟨o, o9, onr, eo, emo, _, _, ends⟩ := MK_ot Z.mk hk hr h
  obtain ⟨a, b, ha, hb, _, ma, mb, e1, e2⟩ := Z.ck.je k hk
  obtain ⟨j1, j2⟩ := Z.jj k hk
  have mm : m.testBit r = true ∧ m.testBit o = true := by
    rcases ends with ⟨p, q⟩ | ⟨p, q⟩
    · have x1 := nI9 ha hr (e1.symm.trans (j1.symm.trans p))
      have x2 := nI9 hb o9 (e2.symm.trans (j2.symm.trans q))
      subst x1; subst x2; exact ⟨ma, mb⟩
    · have x1 := nI9 ha o9 (e1.symm.trans (j1.symm.trans p))
      have x2 := nI9 hb hr (e2.symm.trans (j2.symm.trans q))
      subst x1; subst x2; exact ⟨mb, ma⟩
  refine ⟨o, o9, onr, mm.1, mm.2, eo, emo, (Z.ck.ja r o hr mm.1).mpr ⟨k, hk, ?_, o9⟩, ends⟩
  rw [← j1, ← j2]; exact ends
theorem ZI.oj {σ : mm_S} {n m r o : Nat} (Z : ZI σ n m) (hr : r < 9) (mr : m.testBit r = true) (h : aj σ r o) : ∃ k, k < n ∧ em σ r k ∧ f_101 σ (nI k) (nI r) = nI o := by
  obtain ⟨k, hk, ends, o9⟩ := (Z.ck.ja r o hr mr).mp h
  obtain ⟨_, _, onr⟩ := Z.ck.aj_dr hr mr h
  obtain ⟨j1, j2⟩ := Z.jj k hk
  rw [← j1, ← j2] at ends
  have n21 := Z.ck.jn.1
  refine ⟨k, hk, ?_, ?_⟩
  · rcases ends with ⟨p, q⟩ | ⟨p, q⟩
    · exact Or.inl p
    · exact Or.inr q
  · unfold f_101
    rw [nI_clamp (show k < 2 ^ 31 by omega)]
    rcases ends with ⟨p, q⟩ | ⟨p, q⟩
    · rw [p, if_pos rfl, q]
    · rw [p, if_neg (fun z => onr (nI9 o9 hr z))]
theorem ZI.oi {σ : mm_S} {n m k l r o : Nat} (Z : ZI σ n m) (hk : k < n) (hl : l < n) (hr : r < 9) (h : em σ r k) (h' : em σ r l) (e : f_101 σ (nI k) (nI r) = nI o) (e' : f_101 σ (nI l) (nI r) = nI o) (o9 : o < 9) : k = l := by
  obtain ⟨p, p9, _, _, _, ep, _, _, ends⟩ := Z.ot hk hr h
  obtain ⟨p', p9', _, _, _, ep', _, _, ends'⟩ := Z.ot hl hr h'
  have x1 := nI9 p9 o9 (ep.symm.trans e)
  have x2 := nI9 p9' o9 (ep'.symm.trans e')
  subst x1; subst x2
  rcases ends with ⟨p, q⟩ | ⟨p, q⟩
  · exact Z.mk.jd k l hk hl _ _ p q ends'
  · exact Z.mk.jd k l hk hl _ _ p q ends'.symm
theorem gdt_nz {u : V2} (h : 0 < gdt u u) : ¬ (u.1 = 0 ∧ u.2 = 0) := fun ⟨a, b⟩ => by
  unfold gdt at h
  rw [a, b] at h
  exact absurd h (by decide)
theorem ZI.f3 {σ : mm_S} {n m r k l o p : Nat} (Z : ZI σ n m) (N : NC σ n) (hr : r < 9) (mr : m.testBit r = true) (ao : aj σ r o) (ap : aj σ r p) (eo : f_101 σ (nI k) (nI r) = nI o) (ep : f_101 σ (nI l) (nI r) = nI p) : f_103 σ (nI k) (nI l) (nI r) = 1 ↔ gah wst (vc σ r o) (vc σ r p) := by
  have G := Z.ck.gdd N hr mr
  obtain ⟨o9, mo, _⟩ := Z.ck.aj_dr hr mr ao
  obtain ⟨p9, mp, _⟩ := Z.ck.aj_dr hr mr ap
  exact f_103_ah (Z.pr hr mr) (Z.pr o9 mo) (Z.pr p9 mp) eo ep (gdt_nz (G.1 o ao)) (gdt_nz (G.1 p ap))
theorem ZI.otr {σ : mm_S} {n m r : Nat} (Z : ZI σ n m) (N : NC σ n) (hr : r < 9) : OTr σ n r := by
  constructor
  · intro k l hk hl ek el hne
    obtain ⟨o, o9, _, mr, _, eo, _, ao, _⟩ := Z.ot hk hr ek
    obtain ⟨p, p9, _, _, _, ep, _, ap, _⟩ := Z.ot hl hr el
    have G := Z.ck.gdd N hr mr
    have op : o ≠ p := fun z => by subst z; exact hne (Z.oi hk hl hr ek el eo ep o9)
    rw [Z.f3 N hr mr ao ap eo ep, Z.f3 N hr mr ap ao ep eo]
    exact gah_tot wst_pos (G.1 o ao) (G.1 p ap) (G.2 o p ao ap op)
  · intro j k l hj hk hl ej ek el h1 h2
    obtain ⟨u, u9, _, mr, _, eu, _, au, _⟩ := Z.ot hj hr ej
    obtain ⟨o, o9, _, _, _, eo, _, ao, _⟩ := Z.ot hk hr ek
    obtain ⟨p, p9, _, _, _, ep, _, ap, _⟩ := Z.ot hl hr el
    have G := Z.ck.gdd N hr mr
    rw [Z.f3 N hr mr au ao eu eo] at h1
    rw [Z.f3 N hr mr ao ap eo ep] at h2
    rw [Z.f3 N hr mr au ap eu ep]
    have up : u ≠ p := fun z => by subst z; exact gah_asym h1 h2
    exact gah_trans wst_pos (G.1 u au) (G.1 p ap) (G.2 u p au ap up) h1 h2
theorem AO_nx {σ τ : mm_S} {n m r i dg k k' : Nat} (Z : ZI σ n m) (N : NC σ n) (hr : r < 9) (hi : i < dg)
    (a1 : ∀ i, i < dg → ∃ k, k < n ∧ em σ r k ∧ τ 88 (16 * r + i) = nI k) (a2 : ∀ k, k < n → em σ r k → ∃ i, i < dg ∧ τ 88 (16 * r + i) = nI k) (a3 : ∀ i j, i < j → j < dg → f_103 σ (τ 88 (16 * r + i)) (τ 88 (16 * r + j)) (nI r) = 1)
    (hk : k < n) (ek : em σ r k) (e1 : τ 88 (16 * r + i) = nI k) (hk' : k' < n) (ek' : em σ r k') (e2 : τ 88 (16 * r + (i + 1) % dg) = nI k') : ∃ o o', f_101 σ (nI k) (nI r) = nI o ∧ f_101 σ (nI k') (nI r) = nI o' ∧ nxt (aj σ r) (vc σ r) o o' := by
  have n21 := Z.ck.jn.1
  obtain ⟨o, o9, _, mr, _, eo, _, ao, _⟩ := Z.ot hk hr ek
  obtain ⟨p, p9, _, _, _, ep, _, ap, _⟩ := Z.ot hk' hr ek'
  have G := Z.ck.gdd N hr mr
  have ml : (i + 1) % dg < dg := Nat.mod_lt _ (by omega)
  -- the order of two places
  have lt : ∀ x y kx ky ox oy, x < y → y < dg → kx < n → ky < n → em σ r kx → em σ r ky → τ 88 (16 * r + x) = nI kx → τ 88 (16 * r + y) = nI ky → f_101 σ (nI kx) (nI r) = nI ox → f_101 σ (nI ky) (nI r) = nI oy → aj σ r ox → aj σ r oy → gah wst (vc σ r ox) (vc σ r oy) := fun x y kx ky ox oy h1 h2 _ _ _ _ h7 h8 h9 h10 h11 h12 => by
    have := a3 x y h1 h2
    rw [h7, h8] at this
    exact (Z.f3 N hr mr h11 h12 h9 h10).mp this
  have ne : ∀ x y kx ky ox oy, x < y → y < dg → kx < n → ky < n → em σ r kx → em σ r ky → τ 88 (16 * r + x) = nI kx → τ 88 (16 * r + y) = nI ky → f_101 σ (nI kx) (nI r) = nI ox → f_101 σ (nI ky) (nI r) = nI oy → aj σ r ox → aj σ r oy → ox ≠ oy := fun x y kx ky ox oy h1 h2 h3 h4 h5 h6 h7 h8 h9 h10 h11 h12 z => by
    have := lt x y kx ky ox oy h1 h2 h3 h4 h5 h6 h7 h8 h9 h10 h11 h12
    subst z
    exact gah_asym this this
  refine ⟨o, p, eo, ep, ao, ap, ?_⟩
  by_cases d1 : dg = 1
  · have all : ∀ j, aj σ r j → j = o := fun j aj' => by
      obtain ⟨l, hl, el, ej⟩ := Z.oj hr mr aj'
      obtain ⟨x, hx, ex⟩ := a2 l hl el
      have x0 : x = i := by omega
      subst x0
      have := (nI_eq (by omega) (by omega)).mp (ex.symm.trans e1)
      subst this
      exact nI9 aj'.1 o9 (ej.symm.trans eo)
    exact Or.inl ⟨all p ap, all⟩
  · have G3 : ∀ {a b c : Nat}, aj σ r a → aj σ r b → aj σ r c → gah wst (vc σ r a) (vc σ r b) → gah wst (vc σ r b) (vc σ r c) → a ≠ b → a ≠ c → b ≠ c → gso (vc σ r a) (vc σ r b) (vc σ r c) ∧ gso (vc σ r b) (vc σ r c) (vc σ r a) ∧ gso (vc σ r c) (vc σ r a) (vc σ r b) := fun {a b c} ha hb hc h1 h2 n1 n2 n3 =>
      gah_3 wst_pos (G.1 a ha) (G.1 b hb) (G.1 c hc) (G.2 a b ha hb n1) (G.2 a c ha hc n2) (G.2 b c hb hc n3) h1 h2
    by_cases il : i + 1 = dg
    · have e0 : (i + 1) % dg = 0 := by rw [il, Nat.mod_self]
      rw [e0] at e2
      have po : p ≠ o := ne 0 i k' k p o (by omega) hi hk' hk ek' ek e2 e1 ep eo ap ao
      refine Or.inr ⟨po, fun j aj' jo jp => ?_⟩
      obtain ⟨l, hl, el, ej⟩ := Z.oj hr mr aj'
      obtain ⟨x, hx, ex⟩ := a2 l hl el
      have x0 : x ≠ 0 := fun z => by
        subst z
        have := (nI_eq (by omega) (by omega)).mp (ex.symm.trans e2)
        subst this
        exact jp (nI9 aj'.1 p9 (ej.symm.trans ep))
      have xi : x ≠ i := fun z => by
        subst z
        have := (nI_eq (by omega) (by omega)).mp (ex.symm.trans e1)
        subst this
        exact jo (nI9 aj'.1 o9 (ej.symm.trans eo))
      exact (G3 ap aj' ao (lt 0 x k' l p j (by omega) hx hk' hl ek' el e2 ex ep ej ap aj') (lt x i l k j o (by omega) hi hl hk el ek ex e1 ej eo aj' ao) (fun z => jp z.symm) po jo).2.2
    · have e0 : (i + 1) % dg = i + 1 := Nat.mod_eq_of_lt (by omega)
      rw [e0] at e2 ml
      have po : o ≠ p := ne i (i + 1) k k' o p (by omega) ml hk hk' ek ek' e1 e2 eo ep ao ap
      refine Or.inr ⟨fun z => po z.symm, fun j aj' jo jp => ?_⟩
      obtain ⟨l, hl, el, ej⟩ := Z.oj hr mr aj'
      obtain ⟨x, hx, ex⟩ := a2 l hl el
      have x0 : x ≠ i + 1 := fun z => by
        subst z
        have := (nI_eq (by omega) (by omega)).mp (ex.symm.trans e2)
        subst this
        exact jp (nI9 aj'.1 p9 (ej.symm.trans ep))
      have xi : x ≠ i := fun z => by
        subst z
        have := (nI_eq (by omega) (by omega)).mp (ex.symm.trans e1)
        subst this
        exact jo (nI9 aj'.1 o9 (ej.symm.trans eo))
      have l1 := lt i (i + 1) k k' o p (by omega) ml hk hk' ek ek' e1 e2 eo ep ao ap
      by_cases xl : x < i
      · exact (G3 aj' ao ap (lt x i l k j o xl hi hl hk el ek ex e1 ej eo aj' ao) l1 jo jp po).2.1
      · exact (G3 ao ap aj' l1 (lt (i + 1) x k' l p j (by omega) hx hk' hl ek' el e2 ex ep ej ap aj') po (fun z => jo z.symm) (fun z => jp z.symm)).1
theorem AO_first {σ τ : mm_S} {n m r k : Nat} (Z : ZI σ n m) (N : NC σ n) (A : AO σ τ n) (hr : r < 9) (hk : k < n) (ek : em σ r k) (e : τ 88 (16 * r) = nI k) : ∃ o, f_101 σ (nI k) (nI r) = nI o ∧ aj σ r o ∧ ∀ j, aj σ r j → j ≠ o → gah wst (vc σ r o) (vc σ r j) := by
  have n21 := Z.ck.jn.1
  obtain ⟨dg, d8, e87, a1, a2, a3⟩ := A r hr
  obtain ⟨o, o9, _, mr, _, eo, _, ao, _⟩ := Z.ot hk hr ek
  refine ⟨o, eo, ao, fun j aj' jo => ?_⟩
  obtain ⟨l, hl, el, ej⟩ := Z.oj hr mr aj'
  obtain ⟨x, hx, ex⟩ := a2 l hl el
  have x0 : x ≠ 0 := fun z => by
    subst z
    have := (nI_eq (by omega) (by omega)).mp (ex.symm.trans e)
    subst this
    exact jo (nI9 aj'.1 o9 (ej.symm.trans eo))
  have := a3 0 x (by omega) hx
  rw [show 16 * r + 0 = 16 * r from rfl, e, ex] at this
  exact (Z.f3 N hr mr ao aj' eo ej).mp this
theorem c_105s {d n m r k : Nat} {Q : mm_Q} {σ τ : mm_S} (Z : ZI σ n m) (N : NC σ n) (A : AO σ τ n) (hr : r < 9) (hk : k < n) (he : em σ r k) (q : ∀ k' o o', k' < n → em σ r k' → f_101 σ (nI k) (nI r) = nI o → f_101 σ (nI k') (nI r) = nI o' → nxt (aj σ r) (vc σ r) o o' → Q (some (.int (nI k'))) τ) : mD (d + 1) 105 [.ref 10, .int (nI k), .int (nI r)] τ Q := by
  have n21 := Z.ck.jn.1
  obtain ⟨dg, d8, e87, a1, a2, a3⟩ := A r hr
  obtain ⟨i0, hi0, ei0⟩ := a2 k hk he
  have cr : (nI r).toNatClampNeg = r := nI_clamp (by omega)
  have fin : ∀ i, i < dg → τ 88 (16 * r + i) = nI k → mw d mt_105 Q 23 [some (.ref 10), some (.int (nI k)), some (.int (nI r)), some (.int (nI i))] [] τ := fun i hi ei => by
    have em' : nI i + (1 : Int32) - (nI i + (1 : Int32)) / (τ 87 (nI r).toNatClampNeg) * (τ 87 (nI r).toNatClampNeg) = nI ((i + 1) % dg) := by
      rw [cr, e87, nI_1]; exact rem_n0 dg (by omega) (by omega) (i + 1) (by omega)
    have ml : (i + 1) % dg < dg := Nat.mod_lt _ (by omega)
    obtain ⟨k', b1, b2, b3⟩ := a1 _ ml
    refine kb_105_23 (pk_in r 9 hr) (by rw [cr, e87]; exact nI_ne0 (by omega) (by omega)) (by rw [em', nI_16]; exact pk_in (16 * r + (i + 1) % dg) 144 (by omega)) ?_
    rw [em', nI_16, nI_clamp (show 16 * r + (i + 1) % dg < 2 ^ 31 by omega), b3]
    obtain ⟨o, o', h1, h2, h3⟩ := AO_nx Z N hr hi a1 a2 a3 hk he ei b1 b2 b3
    exact q k' o o' b1 b2 h1 h2 h3
  refine ke_105 (kb_105_0 ?_)
  refine lp_dn (P := fun i => mw d mt_105 Q 2 [some (.ref 10), some (.int (nI k)), some (.int (nI r)), some (.int (nI i))] [] τ) i0 ?_ ?_ 0 (Nat.zero_le _)
  · refine kb_105_2 (by rw [nI_16]; exact pk_in (16 * r + i0) 144 (by omega)) (fun _ => fin i0 hi0 ei0) (fun z => absurd ?_ z)
    rw [nI_16, nI_clamp (by omega)]; exact ei0
  · intro i hi ih
    refine kb_105_2 (by rw [nI_16]; exact pk_in (16 * r + i) 144 (by omega)) (fun z => fin i (by omega) ?_) (fun _ => kb_105_17 ?_)
    · rw [nI_16, nI_clamp (by omega)] at z; exact z
    · rw [nI_1]; exact ih
theorem AO_AR {σ τ : mm_S} {n m : Nat} (Z : ZI σ n m) (N : NC σ n) (A : AO σ τ n) : AR σ τ n := fun r hr => by
  have n21 := Z.ck.jn.1
  obtain ⟨dg, d8, e87, a1, a2, a3⟩ := A r hr
  refine ⟨dg, d8, e87, a1, a2, fun i j hij hj e => ?_⟩
  obtain ⟨k, hk, ek, e1⟩ := a1 i (by omega)
  obtain ⟨o, o9, _, mr, _, eo, _, ao, _⟩ := Z.ot hk hr ek
  have := a3 i j hij hj
  rw [← e, e1] at this
  have := (Z.f3 N hr mr ao ao eo eo).mp this
  exact gah_asym this this

