/-! contracts: the small ones -/
def hs (x n : Int32) : Int32 := if ((x >>> (n &&& 31)) &&& 1) = 1 then 1 else 0
theorem hs_01 (x n : Int32) : hs x n = 0 ∨ hs x n = 1 := by unfold hs; split <;> simp
theorem c_4 {d : Nat} {Q : mm_Q} {x n : Int32} {σ : mm_S} (q : Q (some (.int (hs x n))) σ) : mD (d + 1) 4 [.int x, .int n] σ Q := by
  refine ke_4 ?_
  repeat' (first
    | refine kb_4_0 (fun _ => ?_) (fun _ => ?_)
    | refine kb_4_9 ?_
    | refine kb_4_13 ?_)
  · rename_i h; rw [hs, if_pos h] at q; exact q
  · rename_i h; rw [hs, if_neg h] at q; exact q
/-- whether room i is drawn, by the class -/
def xd (σ : mm_S) (i : Int32) : Int32 := if i < 0 then 0 else if 9 ≤ i then 0 else hs (σ 1 10) i
theorem xd_01 (σ : mm_S) (i : Int32) : xd σ i = 0 ∨ xd σ i = 1 := by
  unfold xd; split
  · exact Or.inl rfl
  · split
    · exact Or.inl rfl
    · exact hs_01 _ _
theorem c_7 {d : Nat} {Q : mm_Q} {i : Int32} {σ : mm_S} (q : Q (some (.int (xd σ i))) σ) : mD (d + 2) 7 [.ref 1, .int i] σ Q := by
  refine ke_7 ?_
  repeat' (first
    | refine kb_7_0 (fun _ => ?_) (fun _ => ?_)
    | refine kb_7_4 (fun _ => ?_) (fun _ => ?_)
    | refine kb_7_10 ?_
    | refine kb_7_18 (fun _ => ?_) (fun _ => ?_)
    | refine kb_7_21 ?_
    | refine kb_7_25 ?_)
  · rename_i h; rw [xd, if_pos h] at q; exact q
  · rename_i h0 h; rw [xd, if_neg h0, if_pos h] at q; exact q
  · rename_i h0 h1
    rw [xd, if_neg h0, if_neg h1] at q
    refine c_4 ?_
    show mw (d + 1) mt_7 Q 18 [some (.ref 1), some (.int i)] [.int (hs (σ 1 10) i)] σ
    rcases hs_01 (σ 1 10) i with e | e
    · rw [e] at q ⊢
      repeat' (first
        | refine kb_7_0 (fun _ => ?_) (fun _ => ?_)
        | refine kb_7_4 (fun _ => ?_) (fun _ => ?_)
        | refine kb_7_10 ?_
        | refine kb_7_18 (fun _ => ?_) (fun _ => ?_)
        | refine kb_7_21 ?_
        | refine kb_7_25 ?_)
      · exact q
      · rename_i h; exact absurd rfl h
    · rw [e] at q ⊢
      repeat' (first
        | refine kb_7_0 (fun _ => ?_) (fun _ => ?_)
        | refine kb_7_4 (fun _ => ?_) (fun _ => ?_)
        | refine kb_7_10 ?_
        | refine kb_7_18 (fun _ => ?_) (fun _ => ?_)
        | refine kb_7_21 ?_
        | refine kb_7_25 ?_)
      · rename_i h; exact absurd h (by decide)
      · exact q
