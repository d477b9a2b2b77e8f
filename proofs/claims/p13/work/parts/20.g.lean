section
/-! contracts: the small ones -/
def hs (x n : Int32) : Int32 := if ((x >>> (n &&& 31)) &&& 1) = 1 then 1 else 0
theorem hs_01 (x n : Int32) : hs x n = 0 ∨ hs x n = 1 := by unfold hs; split <;> simp
theorem c_4 {d : Nat} {Q : mm_Q} {x n : Int32} {σ : mm_S} (q : Q (some (.int (hs x n))) σ) : mD (d + 1) 4 [.int x, .int n] σ Q := by
  refine ke_4 ?_
  repeat' (first
    | refine kb_4_0 (fun _ => ?_) (fun _ => ?_)
    | refine kb_4_9 ?_
    | refine kb_4_13 ?_)
  · rename_i h; rw [hs, if_pos h] at q; exact q
  · rename_i h; rw [hs, if_neg h] at q; exact q
/-- whether room i is drawn, by the class -/
def xd (σ : mm_S) (i : Int32) : Int32 := if i < 0 then 0 else if 9 ≤ i then 0 else hs (σ 1 10) i
theorem xd_01 (σ : mm_S) (i : Int32) : xd σ i = 0 ∨ xd σ i = 1 := by
  unfold xd; split
  · exact Or.inl rfl
  · split
    · exact Or.inl rfl
    · exact hs_01 _ _
theorem c_7 {d : Nat} {Q : mm_Q} {i : Int32} {σ : mm_S} (q : Q (some (.int (xd σ i))) σ) : mD (d + 2) 7 [.ref 1, .int i] σ Q := by
  refine ke_7 ?_
  repeat' (first
    | refine kb_7_0 (fun _ => ?_) (fun _ => ?_)
    | refine kb_7_4 (fun _ => ?_) (fun _ => ?_)
    | refine kb_7_10 ?_
    | refine kb_7_18 (fun _ => ?_) (fun _ => ?_)
    | refine kb_7_21 ?_
    | refine kb_7_25 ?_)
  · rename_i h; rw [xd, if_pos h] at q; exact q
  · rename_i h0 h; rw [xd, if_neg h0, if_pos h] at q; exact q
  · rename_i h0 h1
    rw [xd, if_neg h0, if_neg h1] at q
    refine c_4 ?_
    show mw (d + 1) mt_7 Q 18 [some (.ref 1), some (.int i)] [.int (hs (σ 1 10) i)] σ
    rcases hs_01 (σ 1 10) i with e | e
    · rw [e] at q ⊢
      repeat' (first
        | refine kb_7_0 (fun _ => ?_) (fun _ => ?_)
        | refine kb_7_4 (fun _ => ?_) (fun _ => ?_)
        | refine kb_7_10 ?_
        | refine kb_7_18 (fun _ => ?_) (fun _ => ?_)
        | refine kb_7_21 ?_
        | refine kb_7_25 ?_)
      · exact q
      · rename_i h; exact absurd rfl h
    · rw [e] at q ⊢
      repeat' (first
        | refine kb_7_0 (fun _ => ?_) (fun _ => ?_)
        | refine kb_7_4 (fun _ => ?_) (fun _ => ?_)
        | refine kb_7_10 ?_
        | refine kb_7_18 (fun _ => ?_) (fun _ => ?_)
        | refine kb_7_21 ?_
        | refine kb_7_25 ?_)
      · rename_i h; exact absurd h (by decide)
      · exact q
end
section
/-! the law's loop and its switch, in the pure setting -/
abbrev lL (x4 : Int32) (o5 o6 : Option Value) : List (Option Value) := [some (.ref 200), some (.ref 0), some (.ref 10), some (.ref 201), some (.int x4), o5, o6]
theorem law_sw {K : Nat → Prop} {x : Int32} (h : ∀ q ∈ [112, 161, 201, 262, 311, 348, 359, 372, 397, 437, 465, 505, 573, 613, 638, 663], K q) : mm_sw 39 (624) (0) (14) #[73, 122, 162, 223, 272, 309, 320, 333, 358, 398, 426, 466, 534, 574, 599] (x &&& 15) K := by
  obtain ⟨j, hj, e⟩ := pk_andE x (m := 15) 4 (by decide)
  rw [e]
  have key : ∀ j, j < 16 → (((nI j).toInt < 0 ∨ 14 < (nI j).toInt) ∧ ((39 : Nat) : Int) + 624 = ((663 : Nat) : Int)) ∨ (¬ ((nI j).toInt < 0 ∨ 14 < (nI j).toInt) ∧ ∃ off, (#[73, 122, 162, 223, 272, 309, 320, 333, 358, 398, 426, 466, 534, 574, 599] : Array Int)[((nI j).toInt - 0).toNat]? = some off ∧ (((39 : Nat) : Int) + off).toNat ∈ [112, 161, 201, 262, 311, 348, 359, 372, 397, 437, 465, 505, 573, 613, 638, 663]) := by
    intro j hj
    match j with
    | 0 => exact Or.inr ⟨by decide, 73, by decide, by decide⟩
    | 1 => exact Or.inr ⟨by decide, 122, by decide, by decide⟩
    | 2 => exact Or.inr ⟨by decide, 162, by decide, by decide⟩
    | 3 => exact Or.inr ⟨by decide, 223, by decide, by decide⟩
    | 4 => exact Or.inr ⟨by decide, 272, by decide, by decide⟩
    | 5 => exact Or.inr ⟨by decide, 309, by decide, by decide⟩
    | 6 => exact Or.inr ⟨by decide, 320, by decide, by decide⟩
    | 7 => exact Or.inr ⟨by decide, 333, by decide, by decide⟩
    | 8 => exact Or.inr ⟨by decide, 358, by decide, by decide⟩
    | 9 => exact Or.inr ⟨by decide, 398, by decide, by decide⟩
    | 10 => exact Or.inr ⟨by decide, 426, by decide, by decide⟩
    | 11 => exact Or.inr ⟨by decide, 466, by decide, by decide⟩
    | 12 => exact Or.inr ⟨by decide, 534, by decide, by decide⟩
    | 13 => exact Or.inr ⟨by decide, 574, by decide, by decide⟩
    | 14 => exact Or.inr ⟨by decide, 599, by decide, by decide⟩
    | 15 => exact Or.inl ⟨by decide, by decide⟩
    | j + 16 => omega
  unfold mm_sw
  rcases key j hj with ⟨h1, -⟩ | ⟨h1, off, h2, h3⟩
  · rw [if_pos h1]
    exact h _ (by decide)
  · rw [if_neg h1, h2]
    exact h _ h3
section LL
variable {d : Nat} {xs : Nat → Int32} {len : Nat}
theorem law_cond {i : Nat} (hlen : len ≤ 2560) (hi : 5 * i ≤ 2600) : ((Int32.ofNat len) - (5 : Int32)) < nI (5 * i) ↔ len < 5 * i + 5 := by
  rw [Int32.lt_iff_toInt_lt]
  have h1 : ((Int32.ofNat len) - (5 : Int32)).toInt = (len : Int) - 5 := pk_sub_toInt (a := len) (b := 5) (by omega) (by omega)
  rw [h1, nI_toInt (by omega)]
  omega
/-- the loop: an invariant that each call keeps -/
theorem law_loop (I : mm_S → Prop) (hlen : len ≤ 2560)
    (harm : ∀ (i t : Nat) (o5 o6 : Option Value) (σ : mm_S) (f : Nat → Int64), I σ → 5 * i + 5 ≤ len → t ≤ i → (∀ o5' o6' σ' f' t', I σ' → t' ≤ t + 1 → lw d xs len 512 663 (lL (nI (5 * i)) o5' o6') [] σ' f' t') → ∀ q ∈ [112, 161, 201, 262, 311, 348, 359, 372, 397, 437, 465, 505, 573, 613, 638, 663], lw d xs len 512 q (lL (nI (5 * i)) o5 o6) [] σ f t) :
    ∀ (n i t : Nat) (o5 o6 : Option Value) (σ : mm_S) (f : Nat → Int64), len ≤ 5 * i + 5 * n + 4 → 5 * i ≤ len + 5 → t ≤ i → I σ → lw d xs len 512 23 (lL (nI (5 * i)) o5 o6) [] σ f t := by
  intro n
  induction n with
  | zero =>
    intro i t o5 o6 σ f h1 h2 ht hI
    exact lb_23 (fun _ => lb_669) (fun z => absurd ((law_cond hlen (by omega)).mpr (by omega)) z)
  | succ n ih =>
    intro i t o5 o6 σ f h1 h2 ht hI
    refine lb_23 (fun _ => lb_669) (fun z => ?_)
    have hle : 5 * i + 5 ≤ len := Nat.not_lt.mp (fun q => z ((law_cond hlen (by omega)).mpr q))
    refine lb_32 (pk_in (5 * i) len (by omega)) (law_sw (harm i t o5 o6 σ f hI hle ht (fun o5' o6' σ' f' t' hI' ht' => ?_)))
    refine lb_663 ?_
    rw [show nI (5 * i) + (5 : Int32) = nI (5 * (i + 1)) from nI_add (5 * i) 5]
    exact ih (i + 1) t' o5' o6' σ' f' (by omega) (by omega) (by omega) hI'
/-- the whole walk out of an invariant and the arms -/
theorem law_all (I : mm_S → Prop) (h0 : I ms_0) (hlen : len ≤ 2560)
    (harm : ∀ (i t : Nat) (o5 o6 : Option Value) (σ : mm_S) (f : Nat → Int64), I σ → 5 * i + 5 ≤ len → t ≤ i → (∀ o5' o6' σ' f' t', I σ' → t' ≤ t + 1 → lw d xs len 512 663 (lL (nI (5 * i)) o5' o6') [] σ' f' t') → ∀ q ∈ [112, 161, 201, 262, 311, 348, 359, 372, 397, 437, 465, 505, 573, 613, 638, 663], lw d xs len 512 q (lL (nI (5 * i)) o5 o6) [] σ f t) :
    lw d xs len 512 20 [some (.ref 200), some (.ref 0), some (.ref 10), some (.ref 201), none, none, none] [] ms_0 (fun _ => 0) 0 :=
  lb_20 (law_loop I hlen harm 512 0 0 none none ms_0 (fun _ => 0) (by omega) (by omega) (Nat.le_refl 0) h0)
end LL
end
section
/-! contracts: isTaken -/
def xtk (σ : mm_S) (x y : Int32) (j : Nat) : Prop := xd σ (nI j) = 1 ∧ σ 11 j = x ∧ σ 12 j = y
theorem c_8 {d : Nat} {Q : mm_Q} {x y : Int32} {σ : mm_S} (q1 : (∃ j, j < 9 ∧ xtk σ x y j) → Q (some (.int 1)) σ) (q0 : (∀ j, j < 9 → ¬ xtk σ x y j) → Q (some (.int 0)) σ) : mD (d + 3) 8 [.ref 1, .int x, .int y] σ Q := by
  refine ke_8 (kb_8_0 ?_)
  have main : ∀ n i, i + n = 9 → (∀ j, j < i → ¬ xtk σ x y j) → mw (d + 2) mt_8 Q 2 [some (.ref 1), some (.int x), some (.int y), some (.int (nI i))] [] σ := by
    intro n
    induction n with
    | zero =>
      intro i hi hall
      have hi9 : i = 9 := by omega
      subst hi9
      exact kb_8_2 (fun _ => kb_8_44 (q0 hall)) (fun h => absurd (by decide) h)
    | succ n ih =>
      intro i hi hall
      have hcl : (nI i).toNatClampNeg = i := pk_cl i
      have hin : vp_in (nI i) 9 := pk_in i 9 (by omega)
      have next : ¬ xtk σ x y i → mw (d + 2) mt_8 Q 38 [some (.ref 1), some (.int x), some (.int y), some (.int (nI i))] [] σ := fun hn => by
        refine kb_8_38 ?_
        rw [nI_1]
        exact ih (i + 1) (by omega) (fun j hj => by
          by_cases e : j = i
          · subst e; exact hn
          · exact hall j (by omega))
      refine kb_8_2 (fun h => absurd ((nI_leI (a := 9) (b := i) (by omega) (by omega)).mp h) (by omega)) (fun _ => kb_8_8 (c_7 ?_))
      show mw (d + 2) mt_8 Q 13 [some (.ref 1), some (.int x), some (.int y), some (.int (nI i))] [.int (xd σ (nI i))] σ
      rcases xd_01 σ (nI i) with e | e
      · refine kb_8_13 (fun _ => next (fun h => ?_)) (fun h => absurd e h)
        rw [h.1] at e
        exact absurd e (by decide)
      · refine kb_8_13 (fun h => ?_) (fun _ => kb_8_16 hin (fun h1 => kb_8_26 hin (fun h2 => kb_8_36 (q1 ⟨i, by omega, e, ?_, ?_⟩)) (fun h2 => next (fun h => h2 ?_))) (fun h1 => next (fun h => h1 ?_)))
        · rw [e] at h
          exact absurd h (by decide)
        · rw [hcl] at h1; exact h1
        · rw [hcl] at h2; exact h2
        · rw [hcl]; exact h.2.2
        · rw [hcl]; exact h.2.1
  exact main 9 0 rfl (fun j hj => absurd hj (Nat.not_lt_zero j))
end
section
/-! contracts: hasJoin, areJoined; the model's thrown, in, isRoom -/
def xj (σ : mm_S) (j : Int32) : Int32 := if j < 0 then 0 else if (σ 1 12) ≤ j then 0 else 1
theorem c_9 {d : Nat} {Q : mm_Q} {j : Int32} {σ : mm_S} (q : Q (some (.int (xj σ j))) σ) : mD (d + 1) 9 [.ref 1, .int j] σ Q := by
  refine ke_9 (kb_9_0 (fun h => kb_9_16 ?_) (fun h => kb_9_4 (fun h2 => kb_9_16 ?_) (fun h2 => kb_9_12 ?_)))
  · rw [xj, if_pos h] at q; exact q
  · rw [xj, if_neg h, if_pos h2] at q; exact q
  · rw [xj, if_neg h, if_neg h2] at q; exact q
theorem c_10 {d : Nat} {Q : mm_Q} {a b : Int32} {σ : mm_S} (ha : vp_in a 9) (q : Q (some (.int (hs (σ 15 a.toNatClampNeg) b))) σ) : mD (d + 2) 10 [.ref 1, .int a, .int b] σ Q :=
  ke_10 (kb_10_0 ha (c_4 (kb_10_10 (hs_01 _ _) q)))
theorem c_86 {d : Nat} {Q : mm_Q} {σ : mm_S} (q : Q (some (.int (σ 10 0))) σ) : mD (d + 1) 86 [.ref 10] σ Q := ke_86 (kb_86_0 q)
def mi (x a b : Int32) : Int32 := if x < a then 0 else if b < x then 0 else 1
theorem mi_01 (x a b : Int32) : mi x a b = 0 ∨ mi x a b = 1 := by
  unfold mi; split
  · exact Or.inl rfl
  · split
    · exact Or.inl rfl
    · exact Or.inr rfl
theorem mi_in {x : Int32} (h : mi x 0 8 = 1) : vp_in x 9 := by
  unfold mi at h
  split at h
  · exact absurd h (by decide)
  · split at h
    · exact absurd h (by decide)
    · rename_i h1 h2
      rw [vp_in_iff]
      rw [Int32.lt_iff_toInt_lt] at h1 h2
      have e0 : (0 : Int32).toInt = 0 := rfl
      have e8 : (8 : Int32).toInt = 8 := rfl
      rw [e0] at h1
      rw [e8] at h2
      omega
theorem c_87 {d : Nat} {Q : mm_Q} {x a b : Int32} {σ : mm_S} (q : Q (some (.int (mi x a b))) σ) : mD (d + 1) 87 [.int x, .int a, .int b] σ Q := by
  refine ke_87 (kb_87_0 (fun h => kb_87_14 ?_) (fun h => kb_87_5 (fun h2 => kb_87_14 ?_) (fun h2 => kb_87_10 ?_)))
  · rw [mi, if_pos h] at q; exact q
  · rw [mi, if_neg h, if_pos h2] at q; exact q
  · rw [mi, if_neg h, if_neg h2] at q; exact q
/-- whether room i is drawn, by the reference -/
def mdr (σ : mm_S) (i : Int32) : Int32 := if mi i 0 8 = 0 then 0 else if (σ 75 i.toNatClampNeg) = 0 then 0 else 1
theorem c_88 {d : Nat} {Q : mm_Q} {i : Int32} {σ : mm_S} (q : Q (some (.int (mdr σ i))) σ) : mD (d + 2) 88 [.ref 10, .int i] σ Q := by
  refine ke_88 (kb_88_0 (c_87 ?_))
  show mw (d + 1) mt_88 Q 7 [some (.ref 10), some (.int i)] [.int (mi i 0 8)] σ
  refine kb_88_7 (fun h => kb_88_37 ?_) (fun h => kb_88_10 (c_87 ?_))
  · rw [mdr, if_pos h] at q; exact q
  · show mw (d + 1) mt_88 Q 21 [some (.ref 10), some (.int i)] [.int (mi i 0 8), .ref 75] σ
    have h1 : mi i 0 8 = 1 := (mi_01 i 0 8).resolve_left h
    refine kb_88_21 (fun z => absurd z h) (fun _ => kb_88_24 (mi_in h1) (fun h2 => kb_88_37 ?_) (fun h2 => kb_88_33 ?_))
    · rw [mdr, if_neg h, if_pos h2] at q; exact q
    · rw [mdr, if_neg h, if_neg h2] at q; exact q
end
section
/-! contracts: the model's room -/
theorem mm_up_s {σ : mm_S} {k j : Nat} {x : Int32} : mm_up σ k j x k j = x := by
  rw [mm_up_eq]
  exact pk_us
def mtk (σ : mm_S) (r x y : Int32) (j : Nat) : Prop := ¬ σ 75 j = 0 ∧ (nI j = r ∨ (σ 76 j = x ∧ σ 77 j = y))
def mok (r x y : Int32) : Prop := mi r 0 8 = 1 ∧ mi x 0 31 = 1 ∧ mi y 0 31 = 1
theorem c_89 {d : Nat} {Q : mm_Q} {r x y : Int32} {σ : mm_S} (q1 : ¬ mok r x y → Q none (mm_up σ 10 0 1)) (q2 : mok r x y → (∃ j, j < 9 ∧ mtk σ r x y j) → Q none (mm_up σ 10 0 2))
    (q0 : mok r x y → (∀ j, j < 9 → ¬ mtk σ r x y j) → Q none (mm_up (mm_up (mm_up (mm_up (mm_up σ 10 0 0) 75 r.toNatClampNeg (vp_nar .boolean (1 : Int32))) 76 r.toNatClampNeg x) 77 r.toNatClampNeg y) 10 12 0)) : mD (d + 2) 89 [.ref 10, .int r, .int x, .int y] σ Q := by
  refine ke_89 ?_
  have loop : ∀ (x4 : Int32), (∀ x5 x6 : Int32, ((x5 = 0 ∧ ∀ j, j < 9 → ¬ mtk σ r x y j) ∨ (x5 = 1 ∧ ∃ j, j < 9 ∧ mtk σ r x y j)) → mw (d + 1) mt_89 Q 106 [some (.ref 10), some (.int r), some (.int x), some (.int y), some (.int x4), some (.int x5), some (.int x6)] [] σ) →
      ∀ n i (x5 : Int32), i + n = 9 → ((x5 = 0 ∧ ∀ j, j < i → ¬ mtk σ r x y j) ∨ (x5 = 1 ∧ ∃ j, j < 9 ∧ mtk σ r x y j)) → mw (d + 1) mt_89 Q 43 [some (.ref 10), some (.int r), some (.int x), some (.int y), some (.int x4), some (.int x5), some (.int (nI i))] [] σ := by
    intro x4 hk n
    induction n with
    | zero =>
      intro i x5 hi hinv
      have hi9 : i = 9 := by omega
      subst hi9
      exact kb_89_43 (fun _ => hk x5 _ hinv) (fun h => absurd (by decide) h)
    | succ n ih =>
      intro i x5 hi hinv
      have hcl : (nI i).toNatClampNeg = i := pk_cl i
      have hin : vp_in (nI i) 9 := pk_in i 9 (by omega)
      refine kb_89_43 (fun h => absurd ((nI_leI (a := 9) (b := i) (by omega) (by omega)).mp h) (by omega)) (fun _ => ?_)
      have yes : (∃ j, j < 9 ∧ mtk σ r x y j) → mw (d + 1) mt_89 Q 93 [some (.ref 10), some (.int r), some (.int x), some (.int y), some (.int x4), some (.int x5), some (.int (nI i))] [] σ := fun he => by
        refine kb_89_93 ?_
        rw [nI_1]
        exact ih (i + 1) 1 (by omega) (Or.inr ⟨rfl, he⟩)
      have no : (x5 = 0 ∧ ∀ j, j < i → ¬ mtk σ r x y j) → ¬ mtk σ r x y i → mw (d + 1) mt_89 Q 97 [some (.ref 10), some (.int r), some (.int x), some (.int y), some (.int x4), some (.int x5), some (.int (nI i))] [] σ := fun he hn => by
        refine kb_89_97 ?_
        rw [nI_1]
        exact ih (i + 1) 0 (by omega) (Or.inl ⟨rfl, fun j hj => by
          by_cases e : j = i
          · subst e; exact hn
          · exact he.2 j (by omega)⟩)
      rcases hinv with he | ⟨he, hex⟩
      · refine kb_89_50 (fun _ => kb_89_55 hin (fun h1 => no he (fun h => h.1 (by rw [hcl] at h1; exact h1))) (fun h1 => ?_)) (fun h => absurd he.1 h)
        rw [hcl] at h1
        refine kb_89_65 (fun h2 => yes ⟨i, by omega, h1, Or.inl h2⟩) (fun h2 => kb_89_71 hin (fun h3 => kb_89_82 hin (fun h4 => yes ⟨i, by omega, h1, Or.inr ⟨?_, ?_⟩⟩) (fun h4 => no he (fun h => h.2.elim h2 (fun z => h4 ?_)))) (fun h3 => no he (fun h => h.2.elim h2 (fun z => h3 ?_))))
        · rw [hcl] at h3; exact h3
        · rw [hcl] at h4; exact h4
        · rw [hcl]; exact z.2
        · rw [hcl]; exact z.1
      · exact kb_89_50 (fun h => absurd (he.symm.trans h) (by decide)) (fun _ => yes hex)
  have bad : ¬ mok r x y → ∀ {o4 o5 o6 : Option Value}, mw (d + 1) mt_89 Q 34 [some (.ref 10), some (.int r), some (.int x), some (.int y), o4, o5, o6] [] σ := fun hn o4 o5 o6 => by
    refine kb_89_34 (loop 0 (fun x5 x6 _ => ?_) 9 0 0 rfl (Or.inl ⟨rfl, fun j hj => absurd hj (Nat.not_lt_zero j)⟩))
    exact kb_89_106 (fun _ => kb_89_112 (fun h => absurd h (by rw [show (mm_up σ 10 0 (1 : Int32)) 10 0 = 1 from mm_up_s]; decide)) (fun _ => kb_89_136 (q1 hn))) (fun h => absurd rfl h)
  refine kb_89_0 (c_87 ?_)
  show mw (d + 1) mt_89 Q 7 [some (.ref 10), some (.int r), some (.int x), some (.int y), none, none, none] [.int (mi r 0 8)] σ
  refine kb_89_7 (fun h => bad (fun z => absurd (h.symm.trans z.1) (by decide))) (fun h => kb_89_10 (c_87 ?_))
  have m1 := (mi_01 r 0 8).resolve_left h
  show mw (d + 1) mt_89 Q 17 [some (.ref 10), some (.int r), some (.int x), some (.int y), none, none, none] [.int (mi x 0 31)] σ
  refine kb_89_17 (fun h => bad (fun z => absurd (h.symm.trans z.2.1) (by decide))) (fun h => kb_89_20 (c_87 ?_))
  have m2 := (mi_01 x 0 31).resolve_left h
  show mw (d + 1) mt_89 Q 27 [some (.ref 10), some (.int r), some (.int x), some (.int y), none, none, none] [.int (mi y 0 31)] σ
  refine kb_89_27 (fun h => bad (fun z => absurd (h.symm.trans z.2.2) (by decide))) (fun h => kb_89_30 ?_)
  have m3 := (mi_01 y 0 31).resolve_left h
  have hmok : mok r x y := ⟨m1, m2, m3⟩
  refine loop 1 (fun x5 x6 hinv => ?_) 9 0 0 rfl (Or.inl ⟨rfl, fun j hj => absurd hj (Nat.not_lt_zero j)⟩)
  refine kb_89_106 (fun h => absurd h (by decide)) (fun _ => ?_)
  rcases hinv with ⟨he, hall⟩ | ⟨he, hex⟩
  · exact kb_89_116 (fun _ => kb_89_125 (fun _ => kb_89_137 (mi_in m1) (mi_in m1) (mi_in m1) (q0 hmok hall)) (fun h => absurd (by rw [show (mm_up σ 10 0 (0 : Int32)) 10 0 = 0 from mm_up_s]; decide) h)) (fun h => absurd he h)
  · exact kb_89_116 (fun h => absurd (he.symm.trans h) (by decide)) (fun _ => kb_89_121 (fun h => absurd h (by rw [show (mm_up σ 10 0 (2 : Int32)) 10 0 = 2 from mm_up_s]; decide)) (fun _ => kb_89_136 (q2 hmok hex)))
end
section
/-! contracts: the class's room -/
def xdr (σ : mm_S) (x1 x2 x3 : Int32) : mm_S := (mm_up (mm_up (mm_up (mm_up (mm_up (mm_up (mm_up σ 11 x1.toNatClampNeg x2) 12 x1.toNatClampNeg x3) 13 x1.toNatClampNeg (1 : Int32)) 14 x1.toNatClampNeg (1 : Int32)) 15 x1.toNatClampNeg (0 : Int32)) 1 10 (((mm_up (mm_up (mm_up (mm_up (mm_up σ 11 x1.toNatClampNeg x2) 12 x1.toNatClampNeg x3) 13 x1.toNatClampNeg (1 : Int32)) 14 x1.toNatClampNeg (1 : Int32)) 15 x1.toNatClampNeg (0 : Int32)) 1 10) ||| ((1 : Int32) <<< (x1 &&& 31)))) 1 11 (((mm_up (mm_up (mm_up (mm_up (mm_up (mm_up σ 11 x1.toNatClampNeg x2) 12 x1.toNatClampNeg x3) 13 x1.toNatClampNeg (1 : Int32)) 14 x1.toNatClampNeg (1 : Int32)) 15 x1.toNatClampNeg (0 : Int32)) 1 10 (((mm_up (mm_up (mm_up (mm_up (mm_up σ 11 x1.toNatClampNeg x2) 12 x1.toNatClampNeg x3) 13 x1.toNatClampNeg (1 : Int32)) 14 x1.toNatClampNeg (1 : Int32)) 15 x1.toNatClampNeg (0 : Int32)) 1 10) ||| ((1 : Int32) <<< (x1 &&& 31)))) 1 11) + (1 : Int32)))
theorem c_12 {d : Nat} {Q : mm_Q} {r x y : Int32} {σ : mm_S} (h : vp_in r 9) (q : Q none (xdr σ r x y)) : mD (d + 1) 12 [.ref 1, .int r, .int x, .int y] σ Q := ke_12 (kb_12_0 h h h h h q)
theorem mi_8 {x : Int32} : mi x 0 8 = 1 ↔ ¬ x < 0 ∧ ¬ (9 : Int32) ≤ x := by
  have e0 : (0 : Int32).toInt = 0 := rfl
  have e8 : (8 : Int32).toInt = 8 := rfl
  have e9 : (9 : Int32).toInt = 9 := rfl
  unfold mi
  by_cases h1 : x < 0
  · rw [if_pos h1]
    exact ⟨fun h => absurd h (by decide), fun h => absurd h1 h.1⟩
  · rw [if_neg h1]
    by_cases h2 : 8 < x
    · rw [if_pos h2]
      refine ⟨fun h => absurd h (by decide), fun h => absurd ?_ h.2⟩
      rw [Int32.lt_iff_toInt_lt, e8] at h2
      rw [Int32.le_iff_toInt_le, e9]
      omega
    · rw [if_neg h2]
      refine ⟨fun _ => ⟨h1, fun h => h2 ?_⟩, fun _ => rfl⟩
      rw [Int32.le_iff_toInt_le, e9] at h
      rw [Int32.lt_iff_toInt_lt, e8]
      omega
theorem mi_31 {x : Int32} : mi x 0 31 = 1 ↔ ¬ x < 0 ∧ x < (32 : Int32) := by
  have e8 : (31 : Int32).toInt = 31 := rfl
  have e9 : (32 : Int32).toInt = 32 := rfl
  unfold mi
  by_cases h1 : x < 0
  · rw [if_pos h1]
    exact ⟨fun h => absurd h (by decide), fun h => absurd h1 h.1⟩
  · rw [if_neg h1]
    by_cases h2 : 31 < x
    · rw [if_pos h2]
      refine ⟨fun h => absurd h (by decide), fun h => absurd h.2 ?_⟩
      rw [Int32.lt_iff_toInt_lt, e8] at h2
      rw [Int32.lt_iff_toInt_lt, e9]
      omega
    · rw [if_neg h2]
      refine ⟨fun _ => ⟨h1, ?_⟩, fun _ => rfl⟩
      rw [Int32.lt_iff_toInt_lt, e8] at h2
      rw [Int32.lt_iff_toInt_lt, e9]
      omega
theorem x_room {d : Nat} {Q : mm_Q} {XQ : Nat → mm_S → Prop} {r x y : Int32} {σ : mm_S} (e0 : ¬ mok r x y → XQ 0 σ) (e1 : mok r x y → (xd σ r = 1 ∨ ∃ j, j < 9 ∧ xtk σ x y j) → XQ 1 σ)
    (q : mok r x y → xd σ r = 0 → (∀ j, j < 9 → ¬ xtk σ x y j) → Q none (mm_up (xdr σ r x y) 0 3 0)) : xD (d + 3) 0 [.ref 0, .int r, .int x, .int y] σ Q XQ := by
  refine ⟨rfl, ?_⟩
  show xw (d + 3) 0 Q XQ 0 [some (.ref 0), some (.int r), some (.int x), some (.int y)] [] σ
  refine xr_0_0 (fun h => xr_0_30 (e0 (fun z => (mi_8.mp z.1).1 h))) (fun h1 => xr_0_4 (fun h => xr_0_30 (e0 (fun z => (mi_8.mp z.1).2 h))) (fun h2 => xr_0_10 (fun h => xr_0_30 (e0 (fun z => (mi_31.mp z.2.1).1 h))) (fun h3 => xr_0_14 (fun h => xr_0_30 (e0 (fun z => ?_))) (fun h4 => xr_0_20 (fun h => xr_0_30 (e0 (fun z => (mi_31.mp z.2.2).1 h))) (fun h5 => xr_0_24 (fun h6 => ?_) (fun h => xr_0_30 (e0 (fun z => h (mi_31.mp z.2.2).2))))))))
  · have h9 := (mi_31.mp z.2.1).2
    rw [Int32.lt_iff_toInt_lt] at h9
    rw [Int32.le_iff_toInt_le] at h
    omega
  have hmok : mok r x y := by
    refine ⟨mi_8.mpr ⟨h1, h2⟩, mi_31.mpr ⟨h3, ?_⟩, mi_31.mpr ⟨h5, h6⟩⟩
    rw [Int32.le_iff_toInt_le] at h4
    rw [Int32.lt_iff_toInt_lt]
    omega
  refine xr_0_40 (c_7 ?_)
  show xw (d + 3) 0 Q XQ 48 [some (.ref 0), some (.int r), some (.int x), some (.int y)] [.int (xd σ r)] σ
  refine xr_0_48 (fun h => xr_0_51 (c_8 (fun hex => ?_) (fun hall => ?_))) (fun h => xr_0_63 (e1 hmok (Or.inl ((xd_01 σ r).resolve_left h))))
  · exact xr_0_60 (fun z => absurd z (by decide)) (fun _ => xr_0_63 (e1 hmok (Or.inr hex)))
  · exact xr_0_60 (fun _ => xr_0_73 (c_12 (mi_in hmok.1) (xr_0_83 (q hmok h hall)))) (fun z => absurd rfl z)
end
section
/-! the law's arm 0: room -/
theorem mm_up_n {σ : mm_S} {k k' j : Nat} {x : Int32} (h : k' ≠ k) : mm_up σ k j x k' = σ k' := by
  unfold mm_up
  first | exact if_neg h | simp [h] | (funext i; simp [h])
theorem xdr_o {σ : mm_S} {r x y : Int32} {k : Nat} (h : k ≠ 1 ∧ k ≠ 11 ∧ k ≠ 12 ∧ k ≠ 13 ∧ k ≠ 14 ∧ k ≠ 15) : xdr σ r x y k = σ k := by
  obtain ⟨h1, h2, h3, h4, h5, h6⟩ := h
  unfold xdr
  rw [mm_up_n h1, mm_up_n h1, mm_up_n h6, mm_up_n h5, mm_up_n h4, mm_up_n h3, mm_up_n h2]
/-- rooms: class and reference hold the same -/
def Rm (σ : mm_S) : Prop := ∀ j, j < 9 → (xd σ (nI j) = 1 ↔ ¬ σ 75 j = 0) ∧ (xd σ (nI j) = 1 → σ 11 j = σ 76 j ∧ σ 12 j = σ 77 j)
theorem Rm_tk {σ : mm_S} {r x y : Int32} (hR : Rm σ) (hr : mi r 0 8 = 1) : (∃ j, j < 9 ∧ mtk σ r x y j) ↔ (xd σ r = 1 ∨ ∃ j, j < 9 ∧ xtk σ x y j) := by
  constructor
  · rintro ⟨j, hj, h1, h2⟩
    have h3 := ((hR j hj).1).mpr h1
    rcases h2 with h2 | h2
    · rw [← h2]; exact Or.inl h3
    · obtain ⟨a1, a2⟩ := (hR j hj).2 h3
      exact Or.inr ⟨j, hj, h3, a1.trans h2.1, a2.trans h2.2⟩
  · rintro (h | ⟨j, hj, h1, h2, h3⟩)
    · obtain ⟨j, hj, e⟩ := vp_in_of (mi_in hr) (by decide)
      rw [e] at h
      exact ⟨j, hj, ((hR j hj).1).mp h, Or.inl e.symm⟩
    · obtain ⟨a1, a2⟩ := (hR j hj).2 h1
      exact ⟨j, hj, ((hR j hj).1).mp h1, Or.inr ⟨a1.symm.trans h2, a2.symm.trans h3⟩⟩
theorem mtk_cg {σ σ' : mm_S} {r x y : Int32} {j : Nat} (h75 : σ' 75 = σ 75) (h76 : σ' 76 = σ 76) (h77 : σ' 77 = σ 77) : mtk σ' r x y j ↔ mtk σ r x y j := by
  unfold mtk
  rw [h75, h76, h77]
/-- both sides' state behind a room that is drawn -/
def rdr (σ : mm_S) (r x y : Int32) : mm_S := mm_up (mm_up (mm_up (mm_up (mm_up (mm_up (xdr σ r x y) 0 3 0) 10 0 0) 75 r.toNatClampNeg (vp_nar .boolean (1 : Int32))) 76 r.toNatClampNeg x) 77 r.toNatClampNeg y) 10 12 0
end
section
/-! the law's arm 3: least -/
theorem mdr_01 (σ : mm_S) (i : Int32) : mdr σ i = 0 ∨ mdr σ i = 1 := by
  unfold mdr; split
  · exact Or.inl rfl
  · split
    · exact Or.inl rfl
    · exact Or.inr rfl
theorem Rm_dr {σ : mm_S} {r : Int32} (hR : Rm σ) : xd σ r = 1 ↔ mdr σ r = 1 := by
  rcases mi_01 r 0 8 with e | e
  · have h1 : ¬ (¬ r < 0 ∧ ¬ (9 : Int32) ≤ r) := fun h => by
      rw [mi_8.mpr h] at e; exact absurd e (by decide)
    have h2 : xd σ r = 0 := by
      unfold xd
      by_cases a : r < 0
      · rw [if_pos a]
      · rw [if_neg a]
        by_cases b : (9 : Int32) ≤ r
        · rw [if_pos b]
        · exact absurd ⟨a, b⟩ h1
    have h3 : mdr σ r = 0 := by unfold mdr; rw [if_pos e]
    rw [h2, h3]
  · obtain ⟨j, hj, ej⟩ := vp_in_of (mi_in e) (by decide)
    have hc : r.toNatClampNeg = j := by rw [ej]; exact pk_cl j
    unfold mdr
    rw [if_neg (by rw [e]; decide), hc, ej, (hR j hj).1]
    by_cases z : σ 75 j = 0
    · rw [if_pos z]
      exact ⟨fun h => absurd z h, fun h => absurd h (by decide)⟩
    · rw [if_neg z]
      exact ⟨fun _ => rfl, fun _ => z⟩
theorem xd_in {σ : mm_S} {r : Int32} (h : xd σ r = 1) : vp_in r 9 := by
  refine mi_in (mi_8.mpr ⟨fun a => ?_, fun b => ?_⟩)
  · unfold xd at h; rw [if_pos a] at h; exact absurd h (by decide)
  · unfold xd at h
    by_cases a : r < 0
    · rw [if_pos a] at h; exact absurd h (by decide)
    · rw [if_neg a, if_pos b] at h; exact absurd h (by decide)
theorem mi_50 {x : Int32} : mi x 1 50 = 1 ↔ ¬ x < (1 : Int32) ∧ ¬ (50 : Int32) < x := by
  unfold mi
  by_cases a : x < 1
  · rw [if_pos a]; exact ⟨fun h => absurd h (by decide), fun h => absurd a h.1⟩
  · rw [if_neg a]
    by_cases b : 50 < x
    · rw [if_pos b]; exact ⟨fun h => absurd h (by decide), fun h => absurd b h.2⟩
    · rw [if_neg b]; exact ⟨fun _ => ⟨a, b⟩, fun _ => rfl⟩
theorem x_least {d : Nat} {Q : mm_Q} {XQ : Nat → mm_S → Prop} {r w h : Int32} {σ : mm_S} (e0 : ¬ (xd σ r = 1 ∧ mi w 1 50 = 1 ∧ mi h 1 50 = 1) → XQ 0 σ)
    (q : (xd σ r = 1 ∧ mi w 1 50 = 1 ∧ mi h 1 50 = 1) → Q none (mm_up (mm_up (mm_up σ 13 r.toNatClampNeg w) 14 r.toNatClampNeg h) 0 3 0)) : xD (d + 2) 3 [.ref 0, .int r, .int w, .int h] σ Q XQ := by
  refine ⟨rfl, ?_⟩
  show xw (d + 2) 3 Q XQ 0 [some (.ref 0), some (.int r), some (.int w), some (.int h)] [] σ
  refine xr_3_0 (c_7 ?_)
  show xw (d + 2) 3 Q XQ 8 [some (.ref 0), some (.int r), some (.int w), some (.int h)] [.int (xd σ r)] σ
  refine xr_3_8 (fun a => xr_3_33 (e0 (fun z => absurd (a.symm.trans z.1) (by decide)))) (fun a => xr_3_11 (fun b => xr_3_33 (e0 (fun z => (mi_50.mp z.2.1).1 b))) (fun b => xr_3_16 (fun c => xr_3_33 (e0 (fun z => (mi_50.mp z.2.1).2 c))) (fun c => xr_3_22 (fun g => xr_3_33 (e0 (fun z => (mi_50.mp z.2.2).1 g))) (fun g => xr_3_27 (fun k => ?_) (fun k => xr_3_33 (e0 (fun z => (mi_50.mp z.2.2).2 (Int32.not_le.mp k))))))))
  have ok := (xd_01 σ r).resolve_left a
  exact xr_3_43 (xd_in ok) (xd_in ok) (q ⟨ok, mi_50.mpr ⟨b, c⟩, mi_50.mpr ⟨g, fun z => absurd k (Int32.not_le.mpr z)⟩⟩)
theorem c_93 {d : Nat} {Q : mm_Q} {r w h : Int32} {σ : mm_S} (q1 : ¬ (mdr σ r = 1 ∧ mi w 1 50 = 1 ∧ mi h 1 50 = 1) → Q none (mm_up σ 10 0 1))
    (q0 : (mdr σ r = 1 ∧ mi w 1 50 = 1 ∧ mi h 1 50 = 1) → Q none (mm_up (mm_up (mm_up (mm_up σ 10 0 0) 78 r.toNatClampNeg w) 79 r.toNatClampNeg h) 10 12 0)) : mD (d + 3) 93 [.ref 10, .int r, .int w, .int h] σ Q := by
  have bad : ¬ (mdr σ r = 1 ∧ mi w 1 50 = 1 ∧ mi h 1 50 = 1) → mw (d + 2) mt_93 Q 33 [some (.ref 10), some (.int r), some (.int w), some (.int h)] [.ref 10] σ := fun hn =>
    kb_93_33 (fun z => absurd z (by rw [show (mm_up σ 10 0 (1 : Int32)) 10 0 = 1 from mm_up_s]; decide)) (fun _ => kb_93_44 (q1 hn))
  refine ke_93 (kb_93_0 (c_88 ?_))
  show mw (d + 2) mt_93 Q 6 [some (.ref 10), some (.int r), some (.int w), some (.int h)] [.int (mdr σ r), .ref 10] σ
  refine kb_93_6 (fun a => bad (fun z => absurd (a.symm.trans z.1) (by decide))) (fun a => kb_93_9 (c_87 ?_))
  show mw (d + 2) mt_93 Q 16 [some (.ref 10), some (.int r), some (.int w), some (.int h)] [.int (mi w 1 50), .ref 10] σ
  refine kb_93_16 (fun b => bad (fun z => absurd (b.symm.trans z.2.1) (by decide))) (fun b => kb_93_19 (c_87 ?_))
  show mw (d + 2) mt_93 Q 26 [some (.ref 10), some (.int r), some (.int w), some (.int h)] [.int (mi h 1 50), .ref 10] σ
  refine kb_93_26 (fun c => bad (fun z => absurd (c.symm.trans z.2.2) (by decide))) (fun c => ?_)
  have m0 := (mdr_01 σ r).resolve_left a
  have hin : vp_in r 9 := mi_in (by
    unfold mdr at m0
    rcases mi_01 r 0 8 with e | e
    · rw [if_pos e] at m0; exact absurd m0 (by decide)
    · exact e)
  exact kb_93_29 (fun _ => kb_93_45 hin hin (q0 ⟨m0, (mi_01 w 1 50).resolve_left b, (mi_01 h 1 50).resolve_left c⟩)) (fun z => absurd (by rw [show (mm_up σ 10 0 (0 : Int32)) 10 0 = 0 from mm_up_s]; decide) z)
end
section
/-- both sides' state behind a least that is taken -/
def ldr (σ : mm_S) (r w h : Int32) : mm_S := mm_up (mm_up (mm_up (mm_up (mm_up (mm_up (mm_up σ 13 r.toNatClampNeg w) 14 r.toNatClampNeg h) 0 3 0) 10 0 0) 78 r.toNatClampNeg w) 79 r.toNatClampNeg h) 10 12 0
end
section
/-! the law's arm 4: wall -/
/-- joins: class and reference hold as many -/
def Jm (σ : mm_S) : Prop := σ 10 6 = σ 1 12 ∧ ¬ σ 1 12 < 0 ∧ σ 1 12 ≤ 21
theorem xj_01 (σ : mm_S) (j : Int32) : xj σ j = 0 ∨ xj σ j = 1 := by
  unfold xj; split
  · exact Or.inl rfl
  · split
    · exact Or.inl rfl
    · exact Or.inr rfl
theorem xj_1 {σ : mm_S} {j : Int32} : xj σ j = 1 ↔ ¬ j < 0 ∧ ¬ σ 1 12 ≤ j := by
  unfold xj
  by_cases a : j < 0
  · rw [if_pos a]; exact ⟨fun h => absurd h (by decide), fun h => absurd a h.1⟩
  · rw [if_neg a]
    by_cases b : σ 1 12 ≤ j
    · rw [if_pos b]; exact ⟨fun h => absurd h (by decide), fun h => absurd b h.2⟩
    · rw [if_neg b]; exact ⟨fun _ => ⟨a, b⟩, fun _ => rfl⟩
theorem xj_in {σ : mm_S} {j : Int32} (hJ : Jm σ) (h : xj σ j = 1) : vp_in j 21 := by
  obtain ⟨a, b⟩ := xj_1.mp h
  rw [vp_in_iff]
  have e0 : (0 : Int32).toInt = 0 := rfl
  have e21 : (21 : Int32).toInt = 21 := rfl
  have h2 := hJ.2.2
  rw [Int32.lt_iff_toInt_lt, e0] at a
  rw [Int32.le_iff_toInt_le] at b
  rw [Int32.le_iff_toInt_le, e21] at h2
  omega
theorem Jm_j {σ : mm_S} {j : Int32} (hJ : Jm σ) : mi j 0 ((σ 10 6) - 1) = 1 ↔ xj σ j = 1 := by
  obtain ⟨n, hn, e⟩ := nI_of2 (x := σ 1 12) (M := 21) (n := 21) rfl hJ.2.1 hJ.2.2
  rw [xj_1, hJ.1, e]
  have e0 : (0 : Int32).toInt = 0 := rfl
  have e1 : (nI n - (1 : Int32)).toInt = (n : Int) - 1 := pk_sub_toInt (a := n) (b := 1) (by omega) (by omega)
  have e2 : (nI n).toInt = (n : Int) := nI_toInt (by omega)
  unfold mi
  by_cases a : j < 0
  · rw [if_pos a]; exact ⟨fun h => absurd h (by decide), fun h => absurd a h.1⟩
  · rw [if_neg a]
    by_cases b : nI n - 1 < j
    · rw [if_pos b]
      refine ⟨fun h => absurd h (by decide), fun h => absurd ?_ h.2⟩
      rw [Int32.lt_iff_toInt_lt, e1] at b
      rw [Int32.le_iff_toInt_le, e2]
      omega
    · rw [if_neg b]
      refine ⟨fun _ => ⟨a, fun z => b ?_⟩, fun _ => rfl⟩
      rw [Int32.le_iff_toInt_le, e2] at z
      rw [Int32.lt_iff_toInt_lt, e1]
      omega
theorem mi_20 {x : Int32} : mi x 1 20 = 1 ↔ ¬ x < (1 : Int32) ∧ x ≤ (20 : Int32) := by
  unfold mi
  by_cases a : x < 1
  · rw [if_pos a]; exact ⟨fun h => absurd h (by decide), fun h => absurd a h.1⟩
  · rw [if_neg a]
    by_cases b : 20 < x
    · rw [if_pos b]; exact ⟨fun h => absurd h (by decide), fun h => absurd h.2 (Int32.not_le.mpr b)⟩
    · rw [if_neg b]; exact ⟨fun _ => ⟨a, Int32.not_lt.mp b⟩, fun _ => rfl⟩
theorem x_wall {d : Nat} {Q : mm_Q} {XQ : Nat → mm_S → Prop} {j w : Int32} {σ : mm_S} (hJ : Jm σ) (e0 : ¬ (xj σ j = 1 ∧ mi w 1 20 = 1) → XQ 0 σ)
    (q : (xj σ j = 1 ∧ mi w 1 20 = 1) → Q none (mm_up (mm_up σ 18 j.toNatClampNeg w) 0 3 0)) : xD (d + 1) 4 [.ref 0, .int j, .int w] σ Q XQ := by
  refine ⟨rfl, ?_⟩
  show xw (d + 1) 4 Q XQ 0 [some (.ref 0), some (.int j), some (.int w)] [] σ
  refine xr_4_0 (c_9 ?_)
  show xw (d + 1) 4 Q XQ 8 [some (.ref 0), some (.int j), some (.int w)] [.int (xj σ j)] σ
  refine xr_4_8 (fun a => xr_4_22 (e0 (fun z => absurd (a.symm.trans z.1) (by decide)))) (fun a => xr_4_11 (fun b => xr_4_22 (e0 (fun z => (mi_20.mp z.2).1 b))) (fun b => xr_4_16 (fun c => ?_) (fun c => xr_4_22 (e0 (fun z => c (mi_20.mp z.2).2)))))
  have ok := (xj_01 σ j).resolve_left a
  exact xr_4_32 (xj_in hJ ok) (q ⟨ok, mi_20.mpr ⟨b, c⟩⟩)
theorem c_94 {d : Nat} {Q : mm_Q} {j w : Int32} {σ : mm_S} (hin : mi j 0 ((σ 10 6) - 1) = 1 → vp_in j 21) (q1 : ¬ (mi j 0 ((σ 10 6) - 1) = 1 ∧ mi w 1 20 = 1) → Q none (mm_up σ 10 0 1))
    (q0 : (mi j 0 ((σ 10 6) - 1) = 1 ∧ mi w 1 20 = 1) → Q none (mm_up (mm_up (mm_up σ 10 0 0) 82 j.toNatClampNeg w) 10 12 0)) : mD (d + 2) 94 [.ref 10, .int j, .int w] σ Q := by
  have bad : ¬ (mi j 0 ((σ 10 6) - 1) = 1 ∧ mi w 1 20 = 1) → mw (d + 1) mt_94 Q 29 [some (.ref 10), some (.int j), some (.int w)] [.ref 10] σ := fun hn =>
    kb_94_29 (fun z => absurd z (by rw [show (mm_up σ 10 0 (1 : Int32)) 10 0 = 1 from mm_up_s]; decide)) (fun _ => kb_94_40 (q1 hn))
  refine ke_94 (kb_94_0 (c_87 ?_))
  show mw (d + 1) mt_94 Q 12 [some (.ref 10), some (.int j), some (.int w)] [.int (mi j 0 ((σ 10 6) - 1)), .ref 10] σ
  refine kb_94_12 (fun a => bad (fun z => absurd (a.symm.trans z.1) (by decide))) (fun a => kb_94_15 (c_87 ?_))
  show mw (d + 1) mt_94 Q 22 [some (.ref 10), some (.int j), some (.int w)] [.int (mi w 1 20), .ref 10] σ
  refine kb_94_22 (fun b => bad (fun z => absurd (b.symm.trans z.2) (by decide))) (fun b => ?_)
  have m0 := (mi_01 j 0 ((σ 10 6) - 1)).resolve_left a
  exact kb_94_25 (fun _ => kb_94_41 (hin m0) (q0 ⟨m0, (mi_01 w 1 20).resolve_left b⟩)) (fun z => absurd (by rw [show (mm_up σ 10 0 (0 : Int32)) 10 0 = 0 from mm_up_s]; decide) z)
end
section
/-- both sides' state behind a wall that is taken -/
def wdr (σ : mm_S) (j w : Int32) : mm_S := mm_up (mm_up (mm_up (mm_up (mm_up σ 18 j.toNatClampNeg w) 0 3 0) 10 0 0) 82 j.toNatClampNeg w) 10 12 0
end
section
/-! corners: both contracts -/
def xall (σ : mm_S) (a b c e : Int32) : Prop := xd σ a = 1 ∧ xd σ b = 1 ∧ xd σ c = 1 ∧ xd σ e = 1
def mall (σ : mm_S) (a b c e : Int32) : Prop := mdr σ a = 1 ∧ mdr σ b = 1 ∧ mdr σ c = 1 ∧ mdr σ e = 1
theorem Rm_all {σ : mm_S} {a b c e : Int32} (hR : Rm σ) : xall σ a b c e ↔ mall σ a b c e := by
  unfold xall mall
  rw [Rm_dr hR, Rm_dr hR, Rm_dr hR, Rm_dr hR]
theorem x_corners {d : Nat} {Q : mm_Q} {XQ : Nat → mm_S → Prop} {a b c e : Int32} {σ : mm_S} (e0 : ¬ xall σ a b c e → XQ 0 σ)
    (q : xall σ a b c e → Q none (mm_up (mm_up (mm_up (mm_up (mm_up (mm_up σ 19 0 a) 19 1 b) 19 2 c) 19 3 e) 1 9 1) 0 3 0)) : xD (d + 2) 2 [.ref 0, .int a, .int b, .int c, .int e] σ Q XQ := by
  refine ⟨rfl, ?_⟩
  show xw (d + 2) 2 Q XQ 0 [some (.ref 0), some (.int a), some (.int b), some (.int c), some (.int e)] [] σ
  refine xr_2_0 (c_7 ?_)
  show xw (d + 2) 2 Q XQ 8 [some (.ref 0), some (.int a), some (.int b), some (.int c), some (.int e)] [.int (xd σ a)] σ
  refine xr_2_8 (fun h => xr_2_45 (e0 (fun z => absurd (h.symm.trans z.1) (by decide)))) (fun h1 => xr_2_11 (c_7 ?_))
  show xw (d + 2) 2 Q XQ 19 [some (.ref 0), some (.int a), some (.int b), some (.int c), some (.int e)] [.int (xd σ b)] σ
  refine xr_2_19 (fun h => xr_2_45 (e0 (fun z => absurd (h.symm.trans z.2.1) (by decide)))) (fun h2 => xr_2_22 (c_7 ?_))
  show xw (d + 2) 2 Q XQ 30 [some (.ref 0), some (.int a), some (.int b), some (.int c), some (.int e)] [.int (xd σ c)] σ
  refine xr_2_30 (fun h => xr_2_45 (e0 (fun z => absurd (h.symm.trans z.2.2.1) (by decide)))) (fun h3 => xr_2_33 (c_7 ?_))
  show xw (d + 2) 2 Q XQ 42 [some (.ref 0), some (.int a), some (.int b), some (.int c), some (.int e)] [.int (xd σ e)] σ
  refine xr_2_42 (fun h => xr_2_45 (e0 (fun z => absurd (h.symm.trans z.2.2.2) (by decide)))) (fun h4 => xr_2_55 (ke_14 (kb_14_0 (by unfold vp_in; decide) (by unfold vp_in; decide) (by unfold vp_in; decide) (by unfold vp_in; decide) ?_)))
  exact xr_2_67 (q ⟨(xd_01 σ a).resolve_left h1, (xd_01 σ b).resolve_left h2, (xd_01 σ c).resolve_left h3, (xd_01 σ e).resolve_left h4⟩)
theorem c_92 {d : Nat} {Q : mm_Q} {a b c e : Int32} {σ : mm_S} (q1 : ¬ mall σ a b c e → Q none (mm_up σ 10 0 1))
    (q0 : mall σ a b c e → Q none (mm_up (mm_up (mm_up (mm_up (mm_up (mm_up (mm_up σ 10 0 0) 83 0 a) 83 1 b) 83 2 c) 83 3 e) 10 10 1) 10 12 0)) : mD (d + 3) 92 [.ref 10, .int a, .int b, .int c, .int e] σ Q := by
  have bad : ¬ mall σ a b c e → mw (d + 2) mt_92 Q 38 [some (.ref 10), some (.int a), some (.int b), some (.int c), some (.int e)] [.ref 10] σ := fun hn =>
    kb_92_38 (fun z => absurd z (by rw [show (mm_up σ 10 0 (1 : Int32)) 10 0 = 1 from mm_up_s]; decide)) (fun _ => kb_92_49 (q1 hn))
  refine ke_92 (kb_92_0 (c_88 ?_))
  show mw (d + 2) mt_92 Q 6 [some (.ref 10), some (.int a), some (.int b), some (.int c), some (.int e)] [.int (mdr σ a), .ref 10] σ
  refine kb_92_6 (fun h => bad (fun z => absurd (h.symm.trans z.1) (by decide))) (fun h1 => kb_92_9 (c_88 ?_))
  show mw (d + 2) mt_92 Q 14 [some (.ref 10), some (.int a), some (.int b), some (.int c), some (.int e)] [.int (mdr σ b), .ref 10] σ
  refine kb_92_14 (fun h => bad (fun z => absurd (h.symm.trans z.2.1) (by decide))) (fun h2 => kb_92_17 (c_88 ?_))
  show mw (d + 2) mt_92 Q 22 [some (.ref 10), some (.int a), some (.int b), some (.int c), some (.int e)] [.int (mdr σ c), .ref 10] σ
  refine kb_92_22 (fun h => bad (fun z => absurd (h.symm.trans z.2.2.1) (by decide))) (fun h3 => kb_92_25 (c_88 ?_))
  show mw (d + 2) mt_92 Q 31 [some (.ref 10), some (.int a), some (.int b), some (.int c), some (.int e)] [.int (mdr σ e), .ref 10] σ
  refine kb_92_31 (fun h => bad (fun z => absurd (h.symm.trans z.2.2.2) (by decide))) (fun h4 => ?_)
  exact kb_92_34 (fun _ => kb_92_50 (by unfold vp_in; decide) (by unfold vp_in; decide) (by unfold vp_in; decide) (by unfold vp_in; decide) (q0 ⟨(mdr_01 σ a).resolve_left h1, (mdr_01 σ b).resolve_left h2, (mdr_01 σ c).resolve_left h3, (mdr_01 σ e).resolve_left h4⟩)) (fun z => absurd (by rw [show (mm_up σ 10 0 (0 : Int32)) 10 0 = 0 from mm_up_s]; decide) z)
end
section
/-- both sides' state behind corners that are taken -/
def cdr (σ : mm_S) (a b c e : Int32) : mm_S := mm_up (mm_up (mm_up (mm_up (mm_up (mm_up (mm_up (mm_up (mm_up (mm_up (mm_up (mm_up (mm_up σ 19 0 a) 19 1 b) 19 2 c) 19 3 e) 1 9 1) 0 3 0) 10 0 0) 83 0 a) 83 1 b) 83 2 c) 83 3 e) 10 10 1) 10 12 0
theorem mdr_cg {σ σ' : mm_S} {r : Int32} (h75 : σ' 75 = σ 75) : mdr σ' r = mdr σ r := by
  unfold mdr
  rw [h75]
end
section
/-! the model's joinOf -/
def mjn (σ : mm_S) (a b : Int32) (j : Nat) : Prop := (σ 80 j = a ∧ σ 81 j = b) ∨ (σ 80 j = b ∧ σ 81 j = a)
theorem c_90 {d : Nat} {Q : mm_Q} {a b : Int32} {σ : mm_S} {n : Nat} (hn : n ≤ 21) (e6 : σ 10 6 = nI n) (q1 : ∀ j, j < n → mjn σ a b j → (∀ i, i < j → ¬ mjn σ a b i) → Q (some (.int (nI j))) σ) (q0 : (∀ j, j < n → ¬ mjn σ a b j) → Q (some (.int (-1))) σ) : mD (d + 1) 90 [.ref 10, .int a, .int b] σ Q := by
  refine ke_90 (kb_90_0 ?_)
  have main : ∀ m i, i + m = n → (∀ j, j < i → ¬ mjn σ a b j) → mw d mt_90 Q 2 [some (.ref 10), some (.int a), some (.int b), some (.int (nI i))] [] σ := by
    intro m
    induction m with
    | zero =>
      intro i hi hall
      have hin : i = n := by omega
      subst hin
      refine kb_90_2 (fun _ => kb_90_58 (q0 hall)) (fun h => absurd ?_ h)
      rw [e6]
      exact (nI_leI (by omega) (by omega)).mpr (Nat.le_refl _)
    | succ m ih =>
      intro i hi hall
      have hcl : (nI i).toNatClampNeg = i := pk_cl i
      have hin : vp_in (nI i) 21 := pk_in i 21 (by omega)
      have next : ¬ mjn σ a b i → mw d mt_90 Q 52 [some (.ref 10), some (.int a), some (.int b), some (.int (nI i))] [] σ := fun hnn => by
        refine kb_90_52 ?_
        rw [nI_1]
        exact ih (i + 1) (by omega) (fun j hj => by
          by_cases e : j = i
          · subst e; exact hnn
          · exact hall j (by omega))
      have yes : mjn σ a b i → mw d mt_90 Q 50 [some (.ref 10), some (.int a), some (.int b), some (.int (nI i))] [] σ := fun hy => kb_90_50 (q1 i (by omega) hy hall)
      have two : ¬ (σ 80 i = a ∧ σ 81 i = b) → mw d mt_90 Q 30 [some (.ref 10), some (.int a), some (.int b), some (.int (nI i))] [] σ := fun h0 => by
        refine kb_90_30 hin (fun h1 => kb_90_40 hin (fun h2 => yes (Or.inr ⟨?_, ?_⟩)) (fun h2 => next (fun z => z.elim h0 (fun z => h2 ?_)))) (fun h1 => next (fun z => z.elim h0 (fun z => h1 ?_)))
        · rw [hcl] at h1; exact h1
        · rw [hcl] at h2; exact h2
        · rw [hcl]; exact z.2
        · rw [hcl]; exact z.1
      refine kb_90_2 (fun h => ?_) (fun _ => kb_90_10 hin (fun h1 => kb_90_20 hin (fun h2 => yes (Or.inl ⟨?_, ?_⟩)) (fun h2 => two (fun z => h2 ?_))) (fun h1 => two (fun z => h1 ?_)))
      · rw [e6] at h
        have := (nI_leI (a := n) (b := i) (by omega) (by omega)).mp h
        omega
      · rw [hcl] at h1; exact h1
      · rw [hcl] at h2; exact h2
      · rw [hcl]; exact z.2
      · rw [hcl]; exact z.1
  exact main n 0 (by omega) (fun j hj => absurd hj (Nat.not_lt_zero j))
end
