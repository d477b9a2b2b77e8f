-- the reference's way
def Em (σ : mm_S) (k v u : Nat) : Prop := (σ 80 k = nI v ∧ σ 81 k = nI u) ∨ (σ 80 k = nI u ∧ σ 81 k = nI v)
def Gm (σ : mm_S) (n v u : Nat) : Prop := ∃ k, k < n ∧ Em σ k v u
def VD (G : Nat → Nat → Prop) (b : Nat) (dv : Nat → Nat) : Prop := ∀ v, v < 9 → dv v ≤ 99 ∧ (dv v < 99 → Rk G b (dv v) v)
def UB (G : Nat → Nat → Prop) (b r : Nat) (dv : Nat → Nat) : Prop := ∀ v j, v < 9 → j ≤ r → Rk G b j v → dv v ≤ j
def SD (ρ : mm_S) (dv : Nat → Nat) : Prop := ∀ v, v < 9 → ρ 106 v = nI (dv v)
theorem VD_up {G : Nat → Nat → Prop} {b x y : Nat} {dv : Nat → Nat} (V : VD G b dv) (hy : y < 9) (g : G x y) (h : dv y + 1 < dv x) (hx : x < 9) : VD G b (fun v => if v = x then dv y + 1 else dv v) := fun v hv => by
  show (if v = x then dv y + 1 else dv v) ≤ 99 ∧ ((if v = x then dv y + 1 else dv v) < 99 → Rk G b (if v = x then dv y + 1 else dv v) v)
  by_cases e : v = x
  · subst e
    rw [if_pos rfl]
    have := (V v hv).1
    exact ⟨by omega, fun _ => Or.inr ⟨y, hy, g, (V y hy).2 (by omega)⟩⟩
  · rw [if_neg e]; exact V v hv
theorem SD_up {ρ : mm_S} {x z : Nat} {dv : Nat → Nat} (S : SD ρ dv) : SD (mm_up ρ 106 x (nI z)) (fun v => if v = x then z else dv v) := fun v hv => by
  show mm_up ρ 106 x (nI z) 106 v = nI (if v = x then z else dv v)
  rw [up_v]
  split
  · rfl
  · exact S v hv
section WR
variable {d n : Nat} {Q : mm_Q} {σ : mm_S}
theorem c_148j {a b k x y : Nat} {o5 : Option Value} {x3 : Int32} {ρ : mm_S} {dv : Nat → Nat} (hk : k < n) (n21 : n ≤ 21) (fr : ∀ c, c ≠ 10 → c ≠ 106 → ρ c = σ c) (hx : x < 9) (hy : y < 9) (e80 : σ 80 k = nI x) (e81 : σ 81 k = nI y) (S : SD ρ dv) (V : VD (Gm σ n) b dv)
    (K : ∀ ρ' dv', (∀ c, c ≠ 106 → ρ' c = ρ c) → SD ρ' dv' → VD (Gm σ n) b dv' → (∀ v, v < 9 → dv' v ≤ dv v) → dv' x ≤ dv y + 1 → dv' y ≤ dv x + 1 → mw d mt_148 Q 76 [some (.ref 10), some (.int (nI a)), some (.int (nI b)), some (.int x3), some (.int (nI (k + 1))), o5] [] ρ') :
    mw d mt_148 Q 85 [some (.ref 10), some (.int (nI a)), some (.int (nI b)), some (.int x3), some (.int (nI k)), o5] [] ρ := by
  have ck : (nI k).toNatClampNeg = k := nI_clamp (by omega)
  have cx : (nI x).toNatClampNeg = x := nI_clamp (by omega)
  have cy : (nI y).toNatClampNeg = y := nI_clamp (by omega)
  have vk : vp_in (nI k) 21 := pk_in k 21 (by omega)
  have f80 : ρ 80 k = nI x := by rw [fr 80 (by decide) (by decide)]; exact e80
  have f81 : ρ 81 k = nI y := by rw [fr 81 (by decide) (by decide)]; exact e81
  have v80 : vp_in (ρ 80 (nI k).toNatClampNeg) 9 := by rw [ck, f80]; exact pk_in x 9 hx
  have v81 : vp_in (ρ 81 (nI k).toNatClampNeg) 9 := by rw [ck, f81]; exact pk_in y 9 hy
  have gxy : Gm σ n x y := ⟨k, hk, Or.inl ⟨e80, e81⟩⟩
  have gyx : Gm σ n y x := ⟨k, hk, Or.inr ⟨e80, e81⟩⟩
  have bx := (V x hx).1
  have by' := (V y hy).1
  have lex : ∀ {p q : Nat}, p ≤ 200 → q ≤ 200 → (nI p ≤ nI q ↔ p ≤ q) := fun hp hq => nI_leI (by omega) (by omega)
  refine kb_148_85 vk v81 vk v80 (fun g => ?_) (fun g => ?_)
  · rw [ck, f80, f81, cx, cy, S x hx, S y hy, nI_1, lex (by omega) (by omega)] at g
    refine kb_148_140 vk v80 vk v81 (fun h => kb_148_195 ?_) (fun h => kb_148_169 vk vk v80 v81 ?_)
    · rw [ck, f80, f81, cx, cy, S x hx, S y hy, nI_1, lex (by omega) (by omega)] at h
      rw [nI_1]
      exact K ρ dv (fun _ _ => rfl) S V (fun _ _ => Nat.le_refl _) g h
    · rw [ck, f80, f81, cx, cy, S x hx, S y hy, nI_1, lex (by omega) (by omega)] at h
      rw [nI_1, ck, f80, f81, cx, cy, S x hx, nI_1]
      refine K _ _ (fun c hc => mm_up_n hc) (SD_up S) (VD_up V hx gyx (by omega) hy) (fun v hv => ?_) ?_ ?_
      · show (if v = y then dv x + 1 else dv v) ≤ dv v
        split
        · subst v; omega
        · exact Nat.le_refl _
      · show (if x = y then dv x + 1 else dv x) ≤ dv y + 1
        split
        · subst x; omega
        · exact g
      · show (if y = y then dv x + 1 else dv y) ≤ dv x + 1
        rw [if_pos rfl]; exact Nat.le_refl _
  · have g' := g
    rw [ck, f80, f81, cx, cy, S x hx, S y hy, nI_1, lex (by omega) (by omega)] at g'
    have es : mm_up ρ 106 (ρ 80 (nI k).toNatClampNeg).toNatClampNeg ((ρ 106 (ρ 81 (nI k).toNatClampNeg).toNatClampNeg) + 1) = mm_up ρ 106 x (nI (dv y + 1)) := by
      rw [ck, f80, f81, cx, cy, S y hy, nI_1]
    have u80 : (mm_up ρ 106 x (nI (dv y + 1))) 80 k = nI x := by rw [mm_up_n (by decide)]; exact f80
    have u81 : (mm_up ρ 106 x (nI (dv y + 1))) 81 k = nI y := by rw [mm_up_n (by decide)]; exact f81
    have xy : x ≠ y := fun e => by subst e; omega
    refine kb_148_114 vk vk v81 v80 vk (by rw [es, ck, u80]; exact pk_in x 9 hx) vk (by rw [es, ck, u81]; exact pk_in y 9 hy) (fun h => ?_) (fun h => ?_)
    · rw [es]
      refine kb_148_195 ?_
      rw [nI_1]
      refine K _ _ (fun c hc => mm_up_n hc) (SD_up S) (VD_up V hy gxy (by omega) hx) (fun v hv => ?_) ?_ ?_
      · show (if v = x then dv y + 1 else dv v) ≤ dv v
        split
        · subst v; omega
        · exact Nat.le_refl _
      · show (if x = x then dv y + 1 else dv x) ≤ dv y + 1
        rw [if_pos rfl]; exact Nat.le_refl _
      · show (if y = x then dv y + 1 else dv y) ≤ dv x + 1
        rw [if_neg (fun e => xy e.symm)]; omega
    · exfalso
      rw [es, ck, u80, u81, cx, cy, up_v, up_v, if_pos rfl, if_neg (fun e => xy e.symm), S y hy, nI_1] at h
      exact h ((lex (by omega) (by omega)).mpr (by omega))
end WR
theorem FDd {G : Nat → Nat → Prop} {b : Nat} {dv : Nat → Nat} (V : VD G b dv) (U : UB G b 9 dv) {v : Nat} (hv : v < 9) : (∃ k, k ≤ 8 ∧ Ds G b v k ∧ dv v = k) ∨ ((∀ k, ¬ Rk G b k v) ∧ dv v = 99) := by
  obtain ⟨v1, v2⟩ := V v hv
  by_cases ex : ∃ k, Rk G b k v
  · obtain ⟨k, hk⟩ := ex
    obtain ⟨l, _, dl⟩ := Ds_ex hk
    have l8 := Ds_8 hv dl
    refine Or.inl ⟨l, l8, dl, ?_⟩
    have u := U v l hv (by omega) dl.1
    rcases Nat.lt_or_ge (dv v) l with c | c
    · exact absurd (v2 (by omega)) (dl.2 _ c)
    · omega
  · refine Or.inr ⟨fun k hk => ex ⟨k, hk⟩, ?_⟩
    rcases Nat.lt_or_ge (dv v) 99 with c | c
    · exact absurd ⟨_, v2 c⟩ ex
    · omega
def WF (σ τ : mm_S) : Prop := (∀ c, c ≠ 10 → c ≠ 98 → c ≠ 106 → τ c = σ c) ∧ (∀ j, j ≠ 0 → j ≠ 34 → τ 10 j = σ 10 j) ∧ τ 10 0 = 0
theorem c_148 {d n : Nat} {Q : mm_Q} {σ : mm_S} {x1 x2 : Int32} (M : MK σ n) (q1 : (mdr σ x1 = 0 ∨ mdr σ x2 = 0) → Q (some (.int 0)) (mm_up σ 10 0 1))
    (q0 : ∀ a b, a < 9 → b < 9 → x1 = nI a → x2 = nI b → ¬ mdr σ x1 = 0 → ¬ mdr σ x2 = 0 → ∀ τ w, WF σ τ → w ≤ 9 → τ 10 34 = nI w → WP (Gm σ n) b a w (τ 98) → Q (some (.int (nI w))) τ) : mD (d + 3) 148 [.ref 10, .int x1, .int x2] σ Q := by
  have n21 := M.jn.1
  have no : (mdr σ x1 = 0 ∨ mdr σ x2 = 0) → mw (d + 2) mt_148 Q 21 [some (.ref 10), some (.int x1), some (.int x2), none, none, none] [.ref 10] σ := fun h =>
    kb_148_21 (fun g => absurd (by rw [mm_up_s] at g; exact g) (by decide)) (fun _ => kb_148_32 (q1 h))
  refine ke_148 (kb_148_0 (c_88 (kb_148_6 (fun g => no (Or.inl g)) (fun gx => kb_148_9 (c_88 (kb_148_14 (fun g => no (Or.inr g)) (fun gy => kb_148_17 (fun _ => kb_148_34 ?_) (fun g => absurd (by rw [mm_up_s]; decide) g))))))))
  have mdx : ∀ {x}, ¬ mdr σ x = 0 → ∃ i, i < 9 ∧ x = nI i := fun {x} h => by
    have : mi x 0 8 = 1 := by
      rcases mi_01 x 0 8 with z | z
      · exact absurd (by unfold mdr; rw [if_pos z]) h
      · exact z
    exact mi8 this
  obtain ⟨a, ha, rfl⟩ := mdx gx
  obtain ⟨b, hb, rfl⟩ := mdx gy
  have ca : (nI a).toNatClampNeg = a := nI_clamp (by omega)
  have F0 : (∀ c, c ≠ 10 → c ≠ 106 → (mm_up σ 10 0 0) c = σ c) ∧ (mm_up σ 10 0 0) 10 = (mm_up σ 10 0 0) 10 := ⟨fun c h _ => mm_up_n h, rfl⟩
  -- the state: only 106 has changed
  have m6 : (mm_up σ 10 0 0) 10 6 = nI n := by rw [mm_up_o (by decide)]; exact M.jn.2
  have m0 : (mm_up σ 10 0 0) 10 0 = 0 := mm_up_s
  have mo : ∀ j, j ≠ 0 → (mm_up σ 10 0 0) 10 j = σ 10 j := fun j hj => mm_up_o hj
  have mf : ∀ c, c ≠ 10 → (mm_up σ 10 0 0) c = σ c := fun c hc => mm_up_n hc
  generalize mm_up σ 10 0 0 = σ1 at *
  refine lp_dn (P := fun i => ∀ ρ : mm_S, (∀ c, c ≠ 106 → ρ c = σ1 c) → (∀ v, v < i → ρ 106 v = nI (if v = b then 0 else 99)) → mw (d + 2) mt_148 Q 36 [some (.ref 10), some (.int (nI a)), some (.int (nI b)), some (.int (nI i)), none, none] [] ρ) 9 ?_ ?_ 0 (by omega) σ1 (fun _ _ => rfl) (fun v hv => absurd hv (Nat.not_lt_zero v))
  · intro ρ r1 r2
    refine kb_148_36 (fun _ => kb_148_65 ?_) (fun g => absurd (by decide) g)
    have V0 : VD (Gm σ n) b (fun v => if v = b then 0 else 99) := fun v hv => by
      show (if v = b then 0 else 99) ≤ 99 ∧ ((if v = b then 0 else 99) < 99 → Rk (Gm σ n) b (if v = b then 0 else 99) v)
      by_cases e : v = b
      · rw [if_pos e]; exact ⟨by omega, fun _ => e⟩
      · rw [if_neg e]; exact ⟨by omega, fun h => absurd h (by omega)⟩
    have U0 : UB (Gm σ n) b 0 (fun v => if v = b then 0 else 99) := fun v j hv hj h => by
      have : j = 0 := by omega
      subst this
      show (if v = b then 0 else 99) ≤ 0
      rw [if_pos (show v = b from h)]; exact Nat.le_refl 0
    refine lp_dn (P := fun r => ∀ (ρ : mm_S) o4 dv, (∀ c, c ≠ 106 → ρ c = σ1 c) → SD ρ dv → VD (Gm σ n) b dv → UB (Gm σ n) b r dv → mw (d + 2) mt_148 Q 67 [some (.ref 10), some (.int (nI a)), some (.int (nI b)), some (.int (nI r)), o4, none] [] ρ) 9 ?_ ?_ 0 (by omega) ρ none _ r1 (fun v hv => r2 v hv) V0 U0
    · intro ρ o4 dv r1 S V U
      refine kb_148_67 (fun _ => kb_148_207 (pk_in a 9 ha) (fun g => kb_148_223 ?_) (fun g => kb_148_225 (pk_in 0 9 (by omega)) ?_)) (fun g => absurd (by decide) g)
      · rw [mm_up_n (by decide), ca, S a ha] at g
        have g99 : dv a = 99 := (nI_eq (by have := (V a ha).1; omega) (by omega)).mp g
        refine q0 a b ha hb rfl rfl gx gy _ 0 ⟨fun c h1 _ h3 => by rw [mm_up_n h1, r1 c h3]; exact mf c h1, fun j h1 h2 => by rw [mm_up_o h2, r1 10 (by decide)]; exact mo j h1, by rw [mm_up_o (by decide), r1 10 (by decide)]; exact m0⟩ (by omega) mm_up_s (Or.inl ⟨rfl, ?_⟩)
        rcases FDd V U ha with ⟨k, k8, _, e⟩ | ⟨h, _⟩
        · omega
        · exact h
      · rw [mm_up_n (by decide), ca, S a ha] at g
        have ng : ¬ dv a = 99 := fun e => g (by rw [e]; rfl)
        obtain ⟨D, D8, dD, eD⟩ : ∃ k, k ≤ 8 ∧ Ds (Gm σ n) b a k ∧ dv a = k := by
          rcases FDd V U ha with h | ⟨_, h⟩
          · exact h
          · exact absurd h ng
        have dvk : ∀ v k, v < 9 → Ds (Gm σ n) b v k → dv v = k := fun v k hv h => by
          rcases FDd V U hv with ⟨l, _, dl, e⟩ | ⟨h', _⟩
          · rw [e]; exact Ds_u dl h
          · exact absurd h.1 (h' k)
        have kdv : ∀ v k, v < 9 → k ≤ 8 → dv v = k → Ds (Gm σ n) b v k := fun v k hv hk h => by
          rcases FDd V U hv with ⟨l, _, dl, e⟩ | ⟨_, e⟩
          · rw [← h, e]; exact dl
          · omega
        obtain ⟨p, p0, p1, p2⟩ := Ds_pth D a ha dD
        have main : ∀ i, i ≤ D → ∀ (τ : mm_S) o4 o5, (∀ c, c ≠ 10 → c ≠ 98 → τ c = ρ c) → (∀ j, j ≠ 34 → τ 10 j = ρ 10 j) → τ 10 34 = nI (i + 1) → (∀ k, k ≤ i → τ 98 k = nI (p k)) → mw (d + 2) mt_148 Q 239 [some (.ref 10), some (.int (nI a)), some (.int (nI b)), some (.int (nI (p i))), o4, o5] [] τ := by
          refine lp_dn (P := fun i => ∀ (τ : mm_S) o4 o5, (∀ c, c ≠ 10 → c ≠ 98 → τ c = ρ c) → (∀ j, j ≠ 34 → τ 10 j = ρ 10 j) → τ 10 34 = nI (i + 1) → (∀ k, k ≤ i → τ 98 k = nI (p k)) → mw (d + 2) mt_148 Q 239 [some (.ref 10), some (.int (nI a)), some (.int (nI b)), some (.int (nI (p i))), o4, o5] [] τ) D ?_ ?_
          · intro τ o4 o5 t1 t2 t3 t4
            have pb : p D = b := by
              have := (p2 D (Nat.le_refl D)).2.1
              rw [Nat.sub_self] at this
              exact this
            refine kb_148_239 (fun _ => kb_148_321 ?_) (fun g => absurd (by rw [pb]) g)
            rw [t3]
            exact q0 a b ha hb rfl rfl gx gy τ (D + 1) ⟨fun c h1 h2 h3 => by rw [t1 c h1 h2, r1 c h3]; exact mf c h1, fun j h1 h2 => by rw [t2 j h2, r1 10 (by decide)]; exact mo j h1, by rw [t2 0 (by decide), r1 10 (by decide)]; exact m0⟩ (by omega) t3 (Or.inr ⟨D, rfl, D8, dD, p, fun i hi => t4 i (by omega), p0, p1⟩)
          · intro i hi ih τ o4 o5 t1 t2 t3 t4
            obtain ⟨pi9, dpi⟩ := p2 i (by omega)
            have pnb : ¬ nI (p i) = nI b := fun e => dpi.2 0 (by omega) (nI9 pi9 hb e)
            have cp : (nI (p i)).toNatClampNeg = p i := nI_clamp (by omega)
            refine kb_148_239 (fun g => absurd g pnb) (fun _ => kb_148_244 ?_)
            have S' : ∀ v, v < 9 → τ 106 v = nI (dv v) := fun v hv => by rw [t1 106 (by decide) (by decide)]; exact S v hv
            have t80 : τ 80 = σ 80 := by rw [t1 80 (by decide) (by decide), r1 80 (by decide)]; exact mf 80 (by decide)
            have t81 : τ 81 = σ 81 := by rw [t1 81 (by decide) (by decide), r1 81 (by decide)]; exact mf 81 (by decide)
            have t6 : τ 10 6 = nI n := by rw [t2 6 (by decide), r1 10 (by decide)]; exact m6
            have dcur : dv (p i) = D - i := dvk _ _ pi9 dpi
            have seek : ∀ t, t ≤ 9 → ∀ x4 : Int32, ((x4 = -1 ∧ ∀ u, t ≤ u → u < 9 → ¬ stp (Gm σ n) b (p i) (D - 1 - i) u) ∨ ∃ u, t ≤ u ∧ x4 = nI u ∧ stp (Gm σ n) b (p i) (D - 1 - i) u ∧ ∀ k, t ≤ k → k < u → ¬ stp (Gm σ n) b (p i) (D - 1 - i) k) → mw (d + 2) mt_148 Q 251 [some (.ref 10), some (.int (nI a)), some (.int (nI b)), some (.int (nI (p i))), some (.int x4), some (.int (nI t + (-1)))] [] τ := by
              intro t
              induction t with
              | zero =>
                intro _ x4 hx
                refine kb_148_251 (fun _ => kb_148_295 (by rw [t3]; exact pk_in (i + 1) 9 (by omega)) ?_) (fun g => absurd (by decide) g)
                obtain ⟨u, _, eu, hu, um⟩ : ∃ u, 0 ≤ u ∧ x4 = nI u ∧ stp (Gm σ n) b (p i) (D - 1 - i) u ∧ ∀ k, 0 ≤ k → k < u → ¬ stp (Gm σ n) b (p i) (D - 1 - i) k := by
                  rcases hx with ⟨_, h⟩ | h
                  · have hs := (p1 i hi).1
                    exact absurd hs (h _ (Nat.zero_le _) hs.1)
                  · exact h
                have pe : u = p (i + 1) := Lst_u ⟨hu, fun k hk => um k (Nat.zero_le k) hk⟩ (p1 i hi)
                subst eu
                subst pe
                have e34 : (mm_up τ 98 (τ 10 34).toNatClampNeg (nI (p (i + 1)))) 10 34 = nI (i + 1) := by rw [mm_up_n (by decide)]; exact t3
                rw [e34, nI_1, t3, nI_clamp (by omega)]
                refine ih _ _ _ (fun c h1 h2 => by rw [mm_up_n h1, mm_up_n h2]; exact t1 c h1 h2) (fun j hj => by rw [mm_up_o hj, mm_up_n (by decide)]; exact t2 j hj) mm_up_s (fun k hk => ?_)
                rw [mm_up_n (by decide), up_v]
                by_cases e : k = i + 1
                · rw [if_pos e, e]
                · rw [if_neg e]; exact t4 k (by omega)
              | succ t iht =>
                intro ht x4 hx
                have ct : (nI t).toNatClampNeg = t := nI_clamp (by omega)
                rw [nI_pm]
                have skip : ¬ stp (Gm σ n) b (p i) (D - 1 - i) t → mw (d + 2) mt_148 Q 289 [some (.ref 10), some (.int (nI a)), some (.int (nI b)), some (.int (nI (p i))), some (.int x4), some (.int (nI t))] [] τ := fun ns => by
                  refine kb_148_289 (iht (by omega) x4 ?_)
                  rcases hx with ⟨e, h⟩ | ⟨u, hu, e, hs, hm⟩
                  · refine Or.inl ⟨e, fun u h1 h2 => ?_⟩
                    rcases Nat.lt_or_ge t u with c | c
                    · exact h u (by omega) h2
                    · have : u = t := by omega
                      subst this; exact ns
                  · refine Or.inr ⟨u, by omega, e, hs, fun k h1 h2 => ?_⟩
                    rcases Nat.lt_or_ge t k with c | c
                    · exact hm k (by omega) h2
                    · have : k = t := by omega
                      subst this; exact ns
                have sub1 : nI (D - i) - 1 = nI (D - 1 - i) := by rw [show D - 1 - i = D - i - 1 by omega]; exact nI_sub (b := 1) (by omega)
                refine kb_148_251 (fun g => absurd g (nI_nlt (b := 0) (Nat.zero_le t) (by omega))) (fun _ => kb_148_256 (pk_in t 9 (by omega)) (pk_in (p i) 9 pi9) (fun g => kb_148_274 ?_) (fun g => skip (fun hs => g ?_)))
                · rw [ct, cp, S' t (by omega), S' _ pi9, dcur, sub1] at g
                  have gd : dv t = D - 1 - i := (nI_eq (by have := (V t (by omega)).1; omega) (by omega)).mp g
                  have dt := kdv t _ (by omega) (by omega) gd
                  refine c_90 n21 t6 (fun j hj hjn _ => kb_148_281 (fun z => absurd z (nI_m1 (by omega))) (fun _ => kb_148_285 (iht (by omega) (nI t) (Or.inr ⟨t, Nat.le_refl t, rfl, ⟨by omega, ⟨j, hj, ?_⟩, dt⟩, fun k h1 h2 => absurd h2 (by omega)⟩)))) (fun hno => kb_148_281 (fun _ => skip (fun hs => ?_)) (fun z => absurd rfl z))
                  · unfold mjn at hjn
                    rw [t80, t81] at hjn
                    exact hjn
                  · obtain ⟨_, ⟨k, hk, he⟩, _⟩ := hs
                    refine hno k hk ?_
                    unfold mjn
                    rw [t80, t81]
                    exact he
                · rw [ct, cp, S' t (by omega), S' _ pi9, dcur, sub1, dvk t _ (by omega) hs.2.2]
            exact seek 9 (by omega) (-1) (Or.inl ⟨rfl, fun u h1 h2 => absurd h2 (by omega)⟩)
        rw [show nI a = nI (p 0) from by rw [p0]]
        have r34 : ∀ j, j ≠ 34 → (mm_up (mm_up (mm_up ρ 10 34 0) 98 (0 : Int32).toNatClampNeg (nI (p 0))) 10 34 1) 10 j = ρ 10 j := fun j hj => by rw [mm_up_o hj, mm_up_n (by decide), mm_up_o hj]
        have := main 0 (Nat.zero_le D) (mm_up (mm_up (mm_up ρ 10 34 0) 98 (0 : Int32).toNatClampNeg (nI (p 0))) 10 34 1) o4 none (fun c h1 h2 => by rw [mm_up_n h1, mm_up_n h2, mm_up_n h1]) r34 mm_up_s (fun k hk => by
          have : k = 0 := by omega
          subst this
          rw [mm_up_n (by decide)]; exact mm_up_s)
        rw [p0] at this ⊢
        exact this
    · intro r hr ih ρ o4 dv r1 S V U
      refine kb_148_67 (fun g => absurd g (hI_nle (a := 9) (by omega) hr)) (fun _ => kb_148_73 ?_)
      refine lp_dn (P := fun k => ∀ (ρ : mm_S) dv, (∀ c, c ≠ 106 → ρ c = σ1 c) → SD ρ dv → VD (Gm σ n) b dv → UB (Gm σ n) b r dv → (∀ k' v u, k' < k → v < 9 → u < 9 → Em σ k' v u → Rk (Gm σ n) b r u → dv v ≤ r + 1) → mw (d + 2) mt_148 Q 76 [some (.ref 10), some (.int (nI a)), some (.int (nI b)), some (.int (nI r)), some (.int (nI k)), none] [] ρ) n ?_ ?_ 0 (by omega) ρ dv r1 S V U (fun k' v u h => absurd h (Nat.not_lt_zero k'))
      · intro ρ dv r1 S V U N
        refine kb_148_76 (fun _ => kb_148_201 ?_) (fun g => absurd (by rw [r1 10 (by decide), m6]; exact hI_le (by omega) (Nat.le_refl n)) g)
        rw [nI_1]
        refine ih ρ _ dv r1 S V (fun v j hv hj h => ?_)
        rcases Nat.lt_or_ge j (r + 1) with c | c
        · exact U v j hv (by omega) h
        · have : j = r + 1 := by omega
          subst this
          rcases h with h | ⟨u, u9, ⟨k, hk, he⟩, hr'⟩
          · have := U v r hv (Nat.le_refl r) h; omega
          · exact N k v u hk hv u9 he hr'
      · intro k hk ihk ρ dv r1 S V U N
        obtain ⟨x, y, hx, hy, xy, _, _, ex, ey⟩ := M.je k hk
        refine kb_148_76 (fun g => absurd g (by rw [r1 10 (by decide), m6]; exact hI_nle (by omega) hk)) (fun _ => c_148j hk n21 (fun c h1 h2 => by rw [r1 c h2]; exact mf c h1) hx hy ex ey S V (fun ρ' dv' s1 S' V' le h1 h2 => ihk ρ' dv' (fun c hc => by rw [s1 c hc]; exact r1 c hc) S' V' (fun v j hv hj h => Nat.le_trans (le v hv) (U v j hv hj h)) (fun k' v u hk' hv hu he hr' => ?_)))
        rcases Nat.lt_or_ge k' k with c | c
        · exact Nat.le_trans (le v hv) (N k' v u c hv hu he hr')
        · have : k' = k := by omega
          subst this
          have ux := U u r hu (Nat.le_refl r) hr'
          rcases he with ⟨e1, e2⟩ | ⟨e1, e2⟩
          · have a1 := nI9 hx hv (ex.symm.trans e1)
            have a2 := nI9 hy hu (ey.symm.trans e2)
            subst a1; subst a2
            omega
          · have a1 := nI9 hx hu (ex.symm.trans e1)
            have a2 := nI9 hy hv (ey.symm.trans e2)
            subst a1; subst a2
            omega
  · intro i hi ih ρ r1 r2
    have ci : (nI i).toNatClampNeg = i := nI_clamp (by omega)
    refine kb_148_36 (fun g => absurd g (hI_nle (a := 9) (by omega) hi)) (fun _ => kb_148_42 (fun g => kb_148_52 (pk_in i 9 hi) ?_) (fun g => kb_148_56 (pk_in i 9 hi) ?_))
    · rw [nI_1, ci]
      refine ih _ (fun c hc => by rw [mm_up_n hc]; exact r1 c hc) (fun v hv => ?_)
      rw [up_v]
      by_cases e : v = i
      · rw [if_pos e, if_pos (by rw [e]; exact nI9 hi hb g)]; rfl
      · rw [if_neg e]; exact r2 v (by omega)
    · rw [nI_1, ci]
      refine ih _ (fun c hc => by rw [mm_up_n hc]; exact r1 c hc) (fun v hv => ?_)
      rw [up_v]
      by_cases e : v = i
      · rw [if_pos e, if_neg (fun z => g (by rw [← e, z]))]; rfl
      · rw [if_neg e]; exact r2 v (by omega)
