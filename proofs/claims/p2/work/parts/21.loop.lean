/-! the law's loop and its switch, in the pure setting -/
abbrev lL (x4 : Int32) (o5 o6 : Option Value) : List (Option Value) := [some (.ref 200), some (.ref 0), some (.ref 10), some (.ref 201), some (.int x4), o5, o6]
theorem law_sw {K : Nat → Prop} {x : Int32} (h : ∀ q ∈ [112, 172, 212, 273, 322, 359, 370, 383, 408, 448, 476, 516, 556, 596, 621, 646], K q) : mm_sw 39 (607) (0) (14) #[73, 133, 173, 234, 283, 320, 331, 344, 369, 409, 437, 477, 517, 557, 582] (x &&& 15) K := by
  obtain ⟨j, hj, e⟩ := pk_andE x (m := 15) 4 (by decide)
  rw [e]
  have key : ∀ j, j < 16 → (((nI j).toInt < 0 ∨ 14 < (nI j).toInt) ∧ ((39 : Nat) : Int) + 607 = ((646 : Nat) : Int)) ∨ (¬ ((nI j).toInt < 0 ∨ 14 < (nI j).toInt) ∧ ∃ off, (#[73, 133, 173, 234, 283, 320, 331, 344, 369, 409, 437, 477, 517, 557, 582] : Array Int)[((nI j).toInt - 0).toNat]? = some off ∧ (((39 : Nat) : Int) + off).toNat ∈ [112, 172, 212, 273, 322, 359, 370, 383, 408, 448, 476, 516, 556, 596, 621, 646]) := by
    intro j hj
    match j with
    | 0 => exact Or.inr ⟨by decide, 73, by decide, by decide⟩
    | 1 => exact Or.inr ⟨by decide, 133, by decide, by decide⟩
    | 2 => exact Or.inr ⟨by decide, 173, by decide, by decide⟩
    | 3 => exact Or.inr ⟨by decide, 234, by decide, by decide⟩
    | 4 => exact Or.inr ⟨by decide, 283, by decide, by decide⟩
    | 5 => exact Or.inr ⟨by decide, 320, by decide, by decide⟩
    | 6 => exact Or.inr ⟨by decide, 331, by decide, by decide⟩
    | 7 => exact Or.inr ⟨by decide, 344, by decide, by decide⟩
    | 8 => exact Or.inr ⟨by decide, 369, by decide, by decide⟩
    | 9 => exact Or.inr ⟨by decide, 409, by decide, by decide⟩
    | 10 => exact Or.inr ⟨by decide, 437, by decide, by decide⟩
    | 11 => exact Or.inr ⟨by decide, 477, by decide, by decide⟩
    | 12 => exact Or.inr ⟨by decide, 517, by decide, by decide⟩
    | 13 => exact Or.inr ⟨by decide, 557, by decide, by decide⟩
    | 14 => exact Or.inr ⟨by decide, 582, by decide, by decide⟩
    | 15 => exact Or.inl ⟨by decide, by decide⟩
    | j + 16 => omega
  unfold mm_sw
  rcases key j hj with ⟨h1, -⟩ | ⟨h1, off, h2, h3⟩
  · rw [if_pos h1]
    exact h _ (by decide)
  · rw [if_neg h1, h2]
    exact h _ h3
section LL
variable {d : Nat} {xs : Nat → Int32} {len : Nat}
theorem law_cond {i : Nat} (hlen : len ≤ 2560) (hi : 5 * i ≤ 2600) : ((Int32.ofNat len) - (5 : Int32)) < nI (5 * i) ↔ len < 5 * i + 5 := by
  rw [Int32.lt_iff_toInt_lt]
  have h1 : ((Int32.ofNat len) - (5 : Int32)).toInt = (len : Int) - 5 := pk_sub_toInt (a := len) (b := 5) (by omega) (by omega)
  rw [h1, nI_toInt (by omega)]
  omega
/-- the loop: an invariant that each call keeps -/
theorem law_loop (I : mm_S → Prop) (hlen : len ≤ 2560)
    (harm : ∀ (i t : Nat) (o5 o6 : Option Value) (σ : mm_S) (f : Nat → Int64), I σ → 5 * i + 5 ≤ len → t ≤ i → (∀ o5' o6' σ' f' t', I σ' → t' ≤ t + 1 → lw d xs len 512 646 (lL (nI (5 * i)) o5' o6') [] σ' f' t') → ∀ q ∈ [112, 172, 212, 273, 322, 359, 370, 383, 408, 448, 476, 516, 556, 596, 621, 646], lw d xs len 512 q (lL (nI (5 * i)) o5 o6) [] σ f t) :
    ∀ (n i t : Nat) (o5 o6 : Option Value) (σ : mm_S) (f : Nat → Int64), len ≤ 5 * i + 5 * n + 4 → 5 * i ≤ len + 5 → t ≤ i → I σ → lw d xs len 512 23 (lL (nI (5 * i)) o5 o6) [] σ f t := by
  intro n
  induction n with
  | zero =>
    intro i t o5 o6 σ f h1 h2 ht hI
    exact lb_23 (fun _ => lb_652) (fun z => absurd ((law_cond hlen (by omega)).mpr (by omega)) z)
  | succ n ih =>
    intro i t o5 o6 σ f h1 h2 ht hI
    refine lb_23 (fun _ => lb_652) (fun z => ?_)
    have hle : 5 * i + 5 ≤ len := Nat.not_lt.mp (fun q => z ((law_cond hlen (by omega)).mpr q))
    refine lb_32 (pk_in (5 * i) len (by omega)) (law_sw (harm i t o5 o6 σ f hI hle ht (fun o5' o6' σ' f' t' hI' ht' => ?_)))
    refine lb_646 ?_
    rw [show nI (5 * i) + (5 : Int32) = nI (5 * (i + 1)) from nI_add (5 * i) 5]
    exact ih (i + 1) t' o5' o6' σ' f' (by omega) (by omega) (by omega) hI'
/-- the whole walk out of an invariant and the arms -/
theorem law_all (I : mm_S → Prop) (h0 : I ms_0) (hlen : len ≤ 2560)
    (harm : ∀ (i t : Nat) (o5 o6 : Option Value) (σ : mm_S) (f : Nat → Int64), I σ → 5 * i + 5 ≤ len → t ≤ i → (∀ o5' o6' σ' f' t', I σ' → t' ≤ t + 1 → lw d xs len 512 646 (lL (nI (5 * i)) o5' o6') [] σ' f' t') → ∀ q ∈ [112, 172, 212, 273, 322, 359, 370, 383, 408, 448, 476, 516, 556, 596, 621, 646], lw d xs len 512 q (lL (nI (5 * i)) o5 o6) [] σ f t) :
    lw d xs len 512 20 [some (.ref 200), some (.ref 0), some (.ref 10), some (.ref 201), none, none, none] [] ms_0 (fun _ => 0) 0 :=
  lb_20 (law_loop I hlen harm 512 0 0 none none ms_0 (fun _ => 0) (by omega) (by omega) (Nat.le_refl 0) h0)
end LL
