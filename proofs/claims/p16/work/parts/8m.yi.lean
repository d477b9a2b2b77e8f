-- what plan() leaves to be shown is the same on both sides
def SW (σ : mm_S) : Prop := (σ 3 1 = 0 ∧ σ 10 13 = -1) ∨ (σ 3 1 = 2 ∧ σ 10 13 = 0 ∧ σ 84 0 = σ 20 0 ∧ σ 84 1 = σ 20 1) ∨ (σ 3 1 = 3 ∧ ¬ σ 10 13 = -1 ∧ ¬ σ 10 13 = 0 ∧ σ 84 0 = σ 20 0 ∧ σ 84 1 = σ 20 1 ∧ σ 84 2 = σ 20 2)
def SC (σ : mm_S) : Prop := σ 2 4 = σ 10 15 ∧ σ 2 5 = σ 10 16
def SP (σ : mm_S) : Prop := (σ 0 3 = 0 ∨ σ 0 3 = 1) ∧ σ 10 12 = σ 0 3
def YI (σ : mm_S) (n m : Nat) : Prop := ZI σ n m ∧ SW σ ∧ SC σ ∧ SP σ
theorem SW_cg {σ τ : mm_S} (h2 : τ 2 = σ 2) (h3 : τ 3 = σ 3) (h20 : τ 20 = σ 20) (h84 : τ 84 = σ 84) (h13 : τ 10 13 = σ 10 13) (h15 : τ 10 15 = σ 10 15) (h16 : τ 10 16 = σ 10 16) (W : SW σ ∧ SC σ) : SW τ ∧ SC τ := by
  unfold SW SC
  rw [h2, h3, h20, h84, h13, h15, h16]
  exact W
theorem YI_cg {σ τ : mm_S} {n m n' m' : Nat} (Z : ZI τ n' m') (Y : YI σ n m) (h2 : τ 2 = σ 2) (h3 : τ 3 = σ 3) (h20 : τ 20 = σ 20) (h84 : τ 84 = σ 84) (h13 : τ 10 13 = σ 10 13) (h15 : τ 10 15 = σ 10 15) (h16 : τ 10 16 = σ 10 16) (P : SP τ) : YI τ n' m' :=
  ⟨Z, (SW_cg h2 h3 h20 h84 h13 h15 h16 ⟨Y.2.1, Y.2.2.1⟩).1, (SW_cg h2 h3 h20 h84 h13 h15 h16 ⟨Y.2.1, Y.2.2.1⟩).2, P⟩
theorem SP_0 {τ : mm_S} (h : τ 0 3 = 0) (k : τ 10 12 = 0) : SP τ := ⟨Or.inl h, by rw [h, k]⟩
theorem YI_10 {σ : mm_S} {n m j : Nat} {x : Int32} (hj : j = 0) (Y : YI σ n m) : YI (mm_up σ 10 j x) n m := by
  subst hj
  refine YI_cg (ZI_10 (by decide) Y.1) Y (mm_up_n (by decide)) (mm_up_n (by decide)) (mm_up_n (by decide)) (mm_up_n (by decide)) (mm_up_o (by decide)) (mm_up_o (by decide)) (mm_up_o (by decide)) ?_
  unfold SP
  rw [mm_up_n (by decide), mm_up_o (by decide)]
  exact Y.2.2.2
theorem YI_rdr {σ : mm_S} {n m : Nat} {r x y : Int32} (Y : YI σ n m) (ok : mok r x y) (h0 : xd σ r = 0) (nt : ∀ j, j < 9 → ¬ xtk σ x y j) : ∃ m', YI (rdr σ r x y) n m' := by
  obtain ⟨m', Z⟩ := ZI_rdr Y.1 ok h0 nt
  have up : ∀ c, c ≠ 0 → c ≠ 1 → c ≠ 10 → c ≠ 11 → c ≠ 12 → c ≠ 13 → c ≠ 14 → c ≠ 15 → c ≠ 75 → c ≠ 76 → c ≠ 77 → (rdr σ r x y) c = σ c := fun c _ _ _ _ _ _ _ _ _ _ _ => by
    unfold rdr xdr
    rw [mm_up_n (by omega), mm_up_n (by omega), mm_up_n (by omega), mm_up_n (by omega), mm_up_n (by omega), mm_up_n (by omega), mm_up_n (by omega), mm_up_n (by omega), mm_up_n (by omega), mm_up_n (by omega), mm_up_n (by omega), mm_up_n (by omega), mm_up_n (by omega)]
  have ten : ∀ j, j ≠ 0 → j ≠ 12 → (rdr σ r x y) 10 j = σ 10 j := fun j _ _ => by
    unfold rdr xdr
    rw [mm_up_o (by omega), mm_up_n (by omega), mm_up_n (by omega), mm_up_n (by omega), mm_up_o (by omega), mm_up_n (by omega), mm_up_n (by omega), mm_up_n (by omega), mm_up_n (by omega), mm_up_n (by omega), mm_up_n (by omega), mm_up_n (by omega), mm_up_n (by omega)]
  refine ⟨m', YI_cg Z Y (up 2 (by decide) (by decide) (by decide) (by decide) (by decide) (by decide) (by decide) (by decide) (by decide) (by decide) (by decide)) (up 3 (by decide) (by decide) (by decide) (by decide) (by decide) (by decide) (by decide) (by decide) (by decide) (by decide) (by decide)) (up 20 (by decide) (by decide) (by decide) (by decide) (by decide) (by decide) (by decide) (by decide) (by decide) (by decide) (by decide)) (up 84 (by decide) (by decide) (by decide) (by decide) (by decide) (by decide) (by decide) (by decide) (by decide) (by decide) (by decide)) (ten 13 (by decide) (by decide)) (ten 15 (by decide) (by decide)) (ten 16 (by decide) (by decide)) (SP_0 ?_ mm_up_s)⟩
  unfold rdr
  rw [mm_up_n (by decide), mm_up_n (by decide), mm_up_n (by decide), mm_up_n (by decide), mm_up_n (by decide)]
  exact mm_up_s
theorem YI_ldr {σ : mm_S} {n m : Nat} {r w h : Int32} (Y : YI σ n m) (hd : xd σ r = 1) : YI (ldr σ r w h) n m := by
  have up : ∀ c, c ≠ 0 → c ≠ 10 → c ≠ 13 → c ≠ 14 → c ≠ 78 → c ≠ 79 → (ldr σ r w h) c = σ c := fun c _ _ _ _ _ _ => by
    unfold ldr
    rw [mm_up_n (by omega), mm_up_n (by omega), mm_up_n (by omega), mm_up_n (by omega), mm_up_n (by omega), mm_up_n (by omega), mm_up_n (by omega)]
  have ten : ∀ j, j ≠ 0 → j ≠ 12 → (ldr σ r w h) 10 j = σ 10 j := fun j _ _ => by
    unfold ldr
    rw [mm_up_o (by omega), mm_up_n (by omega), mm_up_n (by omega), mm_up_o (by omega), mm_up_n (by omega), mm_up_n (by omega), mm_up_n (by omega)]
  refine YI_cg (ZI_ldr Y.1 hd) Y (up 2 (by decide) (by decide) (by decide) (by decide) (by decide) (by decide)) (up 3 (by decide) (by decide) (by decide) (by decide) (by decide) (by decide)) (up 20 (by decide) (by decide) (by decide) (by decide) (by decide) (by decide)) (up 84 (by decide) (by decide) (by decide) (by decide) (by decide) (by decide)) (ten 13 (by decide) (by decide)) (ten 15 (by decide) (by decide)) (ten 16 (by decide) (by decide)) (SP_0 ?_ mm_up_s)
  unfold ldr
  rw [mm_up_n (by decide), mm_up_n (by decide), mm_up_n (by decide), mm_up_n (by decide)]
  exact mm_up_s
theorem YI_wdr {σ : mm_S} {n m : Nat} {j w : Int32} (Y : YI σ n m) : YI (wdr σ j w) n m := by
  have up : ∀ c, c ≠ 0 → c ≠ 10 → c ≠ 18 → c ≠ 82 → (wdr σ j w) c = σ c := fun c _ _ _ _ => by
    unfold wdr
    rw [mm_up_n (by omega), mm_up_n (by omega), mm_up_n (by omega), mm_up_n (by omega), mm_up_n (by omega)]
  have ten : ∀ i, i ≠ 0 → i ≠ 12 → (wdr σ j w) 10 i = σ 10 i := fun i _ _ => by
    unfold wdr
    rw [mm_up_o (by omega), mm_up_n (by omega), mm_up_o (by omega), mm_up_n (by omega), mm_up_n (by omega)]
  refine YI_cg (ZI_wdr Y.1) Y (up 2 (by decide) (by decide) (by decide) (by decide)) (up 3 (by decide) (by decide) (by decide) (by decide)) (up 20 (by decide) (by decide) (by decide) (by decide)) (up 84 (by decide) (by decide) (by decide) (by decide)) (ten 13 (by decide) (by decide)) (ten 15 (by decide) (by decide)) (ten 16 (by decide) (by decide)) (SP_0 ?_ mm_up_s)
  unfold wdr
  rw [mm_up_n (by decide), mm_up_n (by decide), mm_up_n (by decide)]
  exact mm_up_s
theorem YI_cdr {σ : mm_S} {n m : Nat} {a b c e : Int32} (Y : YI σ n m) (hx : xall σ a b c e) : YI (cdr σ a b c e) n m := by
  have up : ∀ k, k ≠ 0 → k ≠ 1 → k ≠ 10 → k ≠ 19 → k ≠ 83 → (cdr σ a b c e) k = σ k := fun k _ _ _ _ _ => by
    unfold cdr
    rw [mm_up_n (by omega), mm_up_n (by omega), mm_up_n (by omega), mm_up_n (by omega), mm_up_n (by omega), mm_up_n (by omega), mm_up_n (by omega), mm_up_n (by omega), mm_up_n (by omega), mm_up_n (by omega), mm_up_n (by omega), mm_up_n (by omega), mm_up_n (by omega)]
  have ten : ∀ i, i ≠ 0 → i ≠ 10 → i ≠ 12 → (cdr σ a b c e) 10 i = σ 10 i := fun i _ _ _ => by
    unfold cdr
    rw [mm_up_o (by omega), mm_up_o (by omega), mm_up_n (by omega), mm_up_n (by omega), mm_up_n (by omega), mm_up_n (by omega), mm_up_o (by omega), mm_up_n (by omega), mm_up_n (by omega), mm_up_n (by omega), mm_up_n (by omega), mm_up_n (by omega), mm_up_n (by omega)]
  refine YI_cg (ZI_cdr Y.1 hx) Y (up 2 (by decide) (by decide) (by decide) (by decide) (by decide)) (up 3 (by decide) (by decide) (by decide) (by decide) (by decide)) (up 20 (by decide) (by decide) (by decide) (by decide) (by decide)) (up 84 (by decide) (by decide) (by decide) (by decide) (by decide)) (ten 13 (by decide) (by decide) (by decide)) (ten 15 (by decide) (by decide) (by decide)) (ten 16 (by decide) (by decide) (by decide)) (SP_0 ?_ mm_up_s)
  unfold cdr
  rw [mm_up_n (by decide), mm_up_n (by decide), mm_up_n (by decide), mm_up_n (by decide), mm_up_n (by decide), mm_up_n (by decide), mm_up_n (by decide)]
  exact mm_up_s
theorem YI_join {σ : mm_S} {n m : Nat} {a b : Int32} (Y : YI σ n m) (hab : ¬ a = b) (da : xd σ a = 1) (db : xd σ b = 1) (h0 : hs (σ 15 a.toNatClampNeg) b = 0) (hn : n < 21) : YI (mjd (cjd σ a b n) a b n) (n + 1) m := by
  have up : ∀ c, c ≠ 0 → c ≠ 1 → c ≠ 10 → c ≠ 15 → c ≠ 16 → c ≠ 17 → c ≠ 18 → c ≠ 80 → c ≠ 81 → c ≠ 82 → (mjd (cjd σ a b n) a b n) c = σ c := fun c _ _ _ _ _ _ _ _ _ _ => by
    unfold mjd cjd
    rw [mm_up_n (by omega), mm_up_n (by omega), mm_up_n (by omega), mm_up_n (by omega), mm_up_n (by omega), mm_up_n (by omega), mm_up_n (by omega), mm_up_n (by omega), mm_up_n (by omega), mm_up_n (by omega), mm_up_n (by omega), mm_up_n (by omega), mm_up_n (by omega)]
  have ten : ∀ j, j ≠ 0 → j ≠ 6 → j ≠ 12 → (mjd (cjd σ a b n) a b n) 10 j = σ 10 j := fun j _ _ _ => by
    unfold mjd cjd
    rw [mm_up_o (by omega), mm_up_o (by omega), mm_up_n (by omega), mm_up_n (by omega), mm_up_n (by omega), mm_up_o (by omega), mm_up_n (by omega), mm_up_n (by omega), mm_up_n (by omega), mm_up_n (by omega), mm_up_n (by omega), mm_up_n (by omega), mm_up_n (by omega)]
  refine YI_cg (ZI_join Y.1 hab da db h0 hn) Y (up 2 (by decide) (by decide) (by decide) (by decide) (by decide) (by decide) (by decide) (by decide) (by decide) (by decide)) (up 3 (by decide) (by decide) (by decide) (by decide) (by decide) (by decide) (by decide) (by decide) (by decide) (by decide)) (up 20 (by decide) (by decide) (by decide) (by decide) (by decide) (by decide) (by decide) (by decide) (by decide) (by decide)) (up 84 (by decide) (by decide) (by decide) (by decide) (by decide) (by decide) (by decide) (by decide) (by decide) (by decide)) (ten 13 (by decide) (by decide) (by decide)) (ten 15 (by decide) (by decide) (by decide)) (ten 16 (by decide) (by decide) (by decide)) (SP_0 ?_ mm_up_s)
  unfold mjd cjd
  rw [mm_up_n (by decide), mm_up_n (by decide), mm_up_n (by decide), mm_up_n (by decide), mm_up_n (by decide), mm_up_n (by decide)]
  exact mm_up_s
theorem YI_clr {σ τ : mm_S} {n m : Nat} (Y : YI σ n m) (K : clr (mm_up (mm_up (mm_up (mm_up (mm_up σ 1 10 (0 : Int32)) 1 11 (0 : Int32)) 1 12 (0 : Int32)) 1 9 (0 : Int32)) 0 3 (0 : Int32)) τ) : YI τ 0 0 := by
  have up : ∀ c, c ≠ 0 → c ≠ 1 → c ≠ 10 → c ≠ 75 → c ≠ 78 → c ≠ 79 → τ c = σ c := fun c _ _ _ _ _ _ => by
    rw [K.1 c (by omega) (by omega) (by omega) (by omega), mm_up_n (by omega), mm_up_n (by omega), mm_up_n (by omega), mm_up_n (by omega), mm_up_n (by omega)]
  have ten : ∀ j, j ≠ 0 → j ≠ 6 → j ≠ 10 → j ≠ 12 → τ 10 j = σ 10 j := fun j _ _ _ _ => by
    rw [K.2.2.1 j (by omega) (by omega) (by omega) (by omega), mm_up_n (by omega), mm_up_n (by omega), mm_up_n (by omega), mm_up_n (by omega), mm_up_n (by omega)]
  refine YI_cg (ZI_clr Y.1 K) Y (up 2 (by decide) (by decide) (by decide) (by decide) (by decide) (by decide)) (up 3 (by decide) (by decide) (by decide) (by decide) (by decide) (by decide)) (up 20 (by decide) (by decide) (by decide) (by decide) (by decide) (by decide)) (up 84 (by decide) (by decide) (by decide) (by decide) (by decide) (by decide)) (ten 13 (by decide) (by decide) (by decide) (by decide)) (ten 15 (by decide) (by decide) (by decide) (by decide)) (ten 16 (by decide) (by decide) (by decide) (by decide)) (SP_0 ?_ K.2.2.2.2.2.2)
  rw [K.1 0 (by decide) (by decide) (by decide) (by decide)]
  exact mm_up_s
theorem YI_plan {σ τ ρ : mm_S} {n m : Nat} {a k x y z oc fc : Int32} (Z : ZI σ n m) (F : jfr σ τ) (B : BG τ) (D : DG τ) (W : WN τ) (V : WV τ k x y z oc fc) (F' : MF (mm_up τ 0 3 (if a = 1 then 1 else 0)) ρ) (V' : MWV ρ a k x y z oc fc) : YI ρ n m := by
  obtain ⟨v1, v2, v3, v4, v5⟩ := V
  obtain ⟨u1, u2, u3, u4, u5, u6⟩ := V'
  have e3 : ρ 3 = τ 3 := by rw [F'.1 3 (by decide) (by decide), mm_up_n (by decide)]
  have e2 : ρ 2 = τ 2 := by rw [F'.1 2 (by decide) (by decide), mm_up_n (by decide)]
  have e20 : ρ 20 = τ 20 := by rw [F'.1 20 (by decide) (by decide), mm_up_n (by decide)]
  have e0 : ρ 0 3 = if a = 1 then 1 else 0 := by rw [F'.1 0 (by decide) (by decide)]; exact mm_up_s
  refine ⟨ZI_MF F' (ZI_0 (ZI_jfr F B D W Z)), ?_, ⟨by rw [e2, v4, u4], by rw [e2, v5, u5]⟩, ?_, by rw [e0, u6]⟩
  · unfold SW
    rw [e3, e20, v1]
    rcases W with h | h | h
    · rw [v1] at h
      exact Or.inl ⟨h, u1 h⟩
    · rw [v1] at h
      obtain ⟨a1, a2, a3⟩ := u2 h
      obtain ⟨b1, b2⟩ := v2 h
      exact Or.inr (Or.inl ⟨h, a1, by rw [a2, b1], by rw [a3, b2]⟩)
    · rw [v1] at h
      obtain ⟨a1, a2, a3, a4, a5⟩ := u3 h
      obtain ⟨b1, b2, b3⟩ := v3 h
      exact Or.inr (Or.inr ⟨h, a1, a2, by rw [a3, b1], by rw [a4, b2], by rw [a5, b3]⟩)
  · rw [e0]
    split
    · exact Or.inr rfl
    · exact Or.inl rfl
theorem y_148 {d n m a b w : Nat} {Q : mm_Q} {σ τ : mm_S} (Y : YI σ n m) (d1 : xd σ (nI a) = 1) (d2 : xd σ (nI b) = 1) (ha : a < 9) (hb : b < 9) (f1 : ∀ c, c ≠ 9 → c ≠ 73 → c ≠ 74 → τ c = σ c) (w9 : w ≤ 9) (e1 : τ 9 1 = nI w) (W : WP (Gj σ n) b a w (τ 73))
    (q : ∀ ρ, YI ρ n m → ρ 10 0 = 0 → Q (some (.int (nI w))) ρ) : mD (d + 3) 148 [.ref 10, .int (nI a), .int (nI b)] τ Q := by
  have Z := Y.1
  have k1 : ¬ mdr τ (nI a) = 0 := by rw [mdr_75 (f1 75 (by decide) (by decide) (by decide)), (Rm_dr Z.rm).mp d1]; decide
  have k2 : ¬ mdr τ (nI b) = 0 := by rw [mdr_75 (f1 75 (by decide) (by decide) (by decide)), (Rm_dr Z.rm).mp d2]; decide
  have e10 : τ 10 = σ 10 := f1 10 (by decide) (by decide) (by decide)
  refine c_148 (n := n) (MK_cg (by rw [e10]) (by rw [e10]) (f1 75 (by decide) (by decide) (by decide)) (f1 80 (by decide) (by decide) (by decide)) (f1 81 (by decide) (by decide) (by decide)) (f1 83 (by decide) (by decide) (by decide)) Z.mk) (fun h => absurd h (fun z => z.elim k1 k2)) (fun a' b' ha' hb' ea eb _ _ ρ w' F w9' e2 W' => ?_)
  have := nI9 ha ha' ea
  subst this
  have := nI9 hb hb' eb
  subst this
  rw [Gm_eq Z (f1 80 (by decide) (by decide) (by decide)) (f1 81 (by decide) (by decide) (by decide))] at W'
  obtain ⟨ew, ef⟩ := WP_u W W'
  subst ew
  have up : ∀ c, c ≠ 10 → c ≠ 9 → c ≠ 73 → c ≠ 74 → c ≠ 98 → c ≠ 106 → ρ c = σ c := fun c _ _ _ _ _ _ => by
    rw [F.1 c (by omega) (by omega) (by omega)]; exact f1 c (by omega) (by omega) (by omega)
  have ten : ∀ j, j ≠ 0 → j ≠ 34 → ρ 10 j = σ 10 j := fun j a b => by rw [F.2.1 j a b, e10]
  refine q ρ (YI_cg (ZI_way Z f1 F w9 e1 e2 (fun i hi => (ef i hi).symm)) Y (up 2 (by decide) (by decide) (by decide) (by decide) (by decide) (by decide)) (up 3 (by decide) (by decide) (by decide) (by decide) (by decide) (by decide)) (up 20 (by decide) (by decide) (by decide) (by decide) (by decide) (by decide)) (up 84 (by decide) (by decide) (by decide) (by decide) (by decide) (by decide)) (ten 13 (by decide) (by decide)) (ten 15 (by decide) (by decide)) (ten 16 (by decide) (by decide)) ?_) F.2.2
  unfold SP
  rw [up 0 (by decide) (by decide) (by decide) (by decide) (by decide) (by decide), ten 12 (by decide) (by decide)]
  exact Y.2.2.2
theorem mi_0 {x b : Int32} (h : mi x 0 b = 0) : x < 0 ∨ b < x := by
  unfold mi at h
  by_cases h1 : x < 0
  · exact Or.inl h1
  · rw [if_neg h1] at h
    by_cases h2 : b < x
    · exact Or.inr h2
    · rw [if_neg h2] at h; exact absurd h (by decide)
theorem w_143 {d : Nat} {Q : mm_Q} {σ : mm_S} {x1 : Int32} (W : SW σ) (q : Q (some (.int (f_2 σ x1))) (mm_up σ 10 0 0)) : mD (d + 2) 143 [.ref 10, .int x1] σ Q := by
  have off : ∀ {b : Int32}, (x1 < 0 ∨ σ 3 1 ≤ x1) → Q (some (.int (-1))) (mm_up σ 10 0 0) := fun h => by
    have : f_2 σ x1 = -1 := by
      unfold f_2 f_22
      by_cases h1 : x1 < 0
      · rw [if_pos h1]
      · rw [if_neg h1, if_pos (h.resolve_left h1)]
    rw [this] at q; exact q
  have on : ∀ j, j < 3 → x1 = nI j → ¬ σ 3 1 ≤ nI j → σ 84 j = σ 20 j → Q (some (.int (σ 84 x1.toNatClampNeg))) (mm_up σ 10 0 0) := fun j hj e h1 h2 => by
    subst e
    have : f_2 σ (nI j) = σ 84 (nI j).toNatClampNeg := by
      unfold f_2 f_22
      rw [if_neg (nI_pos (by omega)), if_neg h1, nI_clamp (by omega), h2]
    rw [this] at q; exact q
  have ge : ∀ {b x : Int32}, b < x → b + 1 ≤ x ∨ True := fun _ => Or.inr trivial
  refine c_143 (fun _ _ h => by obtain ⟨j, hj, rfl⟩ := in_mi (b := 1) (by omega) h; exact pk_in j 3 (by omega)) (fun _ _ h => by obtain ⟨j, hj, rfl⟩ := in_mi (b := 2) (by omega) h; exact pk_in j 3 (by omega)) (fun e => ?_) (fun e1 e2 h => ?_) (fun e1 e2 h => ?_) (fun e1 e2 h => ?_) (fun e1 e2 h => ?_)
  · rcases W with ⟨w, _⟩ | ⟨_, w, _⟩ | ⟨_, w, _⟩
    · refine off (b := 0) ?_
      rw [w]
      rcases Int32.lt_or_le x1 0 with u | u
      · exact Or.inl u
      · exact Or.inr u
    · rw [w] at e; exact absurd e (by decide)
    · exact absurd e w
  · rcases W with ⟨_, w⟩ | ⟨w, _⟩ | ⟨_, _, w, _⟩
    · exact absurd w e1
    · refine off (b := 0) ?_
      rw [w]
      rcases mi_0 h with u | u
      · exact Or.inl u
      · refine Or.inr ?_
        have := Int32.lt_iff_toInt_lt.mp u
        rw [Int32.le_iff_toInt_le]
        have a : (1 : Int32).toInt = 1 := by decide
        have b : (2 : Int32).toInt = 2 := by decide
        omega
    · exact absurd e2 w
  · obtain ⟨j, hj, e⟩ := in_mi (b := 1) (by omega) h
    rcases W with ⟨_, w⟩ | ⟨w, _, w0, w1⟩ | ⟨_, _, w, _⟩
    · exact absurd w e1
    · refine on j (by omega) e (by rw [w]; exact hI_nle (a := 2) (by omega) (by omega)) ?_
      rcases (show j = 0 ∨ j = 1 by omega) with u | u
      · subst u; exact w0
      · subst u; exact w1
    · exact absurd e2 w
  · rcases W with ⟨_, w⟩ | ⟨_, w, _⟩ | ⟨w, _⟩
    · exact absurd w e1
    · exact absurd w e2
    · refine off (b := 0) ?_
      rw [w]
      rcases mi_0 h with u | u
      · exact Or.inl u
      · refine Or.inr ?_
        have := Int32.lt_iff_toInt_lt.mp u
        rw [Int32.le_iff_toInt_le]
        have a : (2 : Int32).toInt = 2 := by decide
        have b : (3 : Int32).toInt = 3 := by decide
        omega
  · obtain ⟨j, hj, e⟩ := in_mi (b := 2) (by omega) h
    rcases W with ⟨_, w⟩ | ⟨_, w, _⟩ | ⟨w, _, _, w0, w1, w2⟩
    · exact absurd w e1
    · exact absurd w e2
    · refine on j (by omega) e (by rw [w]; exact hI_nle (a := 3) (by omega) (by omega)) ?_
      rcases (show j = 0 ∨ j = 1 ∨ j = 2 by omega) with u | u | u
      · subst u; exact w0
      · subst u; exact w1
      · subst u; exact w2
def f_155 (σ : mm_S) (x : Int32) : Int32 := if x = 0 then σ 1 11 else if x = 1 then σ 1 12 else if x = 2 then σ 2 4 else if x = 3 then σ 2 5 else if x = 4 then (if σ 0 3 = 0 then 0 else 1) else -1
theorem w_155 {d : Nat} {Q : mm_Q} {x : Int32} {σ : mm_S} (q : Q (some (.int (f_155 σ x))) σ) : mD (d + 1) 155 [.ref 0, .int x] σ Q := by
  have go : ∀ v, f_155 σ x = v → Q (some (.int v)) σ := fun v e => by rw [← e]; exact q
  refine c_155 (fun e => go _ ?_) (fun e => go _ ?_) (fun e => go _ ?_) (fun e => go _ ?_) (fun e => go _ ?_) (fun a b c d e => go _ ?_)
  · subst e; rfl
  · subst e; rfl
  · subst e; rfl
  · subst e; rfl
  · subst e; rfl
  · unfold f_155; rw [if_neg a, if_neg b, if_neg c, if_neg d, if_neg e]
theorem w_150 {d n m : Nat} {Q : mm_Q} {x1 : Int32} {σ : mm_S} (Y : YI σ n m) (q : Q (some (.int (f_155 σ x1))) (mm_up σ 10 0 0)) : mD (d + 2) 150 [.ref 10, .int x1] σ Q := by
  have go : ∀ v, f_155 σ x1 = v → Q (some (.int v)) (mm_up σ 10 0 0) := fun v e => by rw [← e]; exact q
  obtain ⟨Z, _, ⟨s1, s2⟩, p1, p2⟩ := Y
  refine c_150 (fun e => go _ ?_) (fun a e => go _ ?_) (fun a b e => go _ ?_) (fun a b c e => go _ ?_) (fun a b c d e z => go _ ?_) (fun a b c d e z => go _ ?_) (fun a b c d e => go _ ?_)
  · subst e
    show σ 1 11 = _
    rw [rc_cg (σ := σ) (mm_up_n (by decide)) 9, Z.rcb 9 (Nat.le_refl 9)]
    exact Z.ck.cr
  · subst e
    show σ 1 12 = _
    rw [Z.ck.jn.2, Z.mk.jn.2]
  · subst e; exact s1
  · subst e; exact s2
  · subst e
    show (if σ 0 3 = 0 then (0 : Int32) else 1) = 0
    rw [p2] at z
    rw [if_pos z]
  · subst e
    show (if σ 0 3 = 0 then (0 : Int32) else 1) = 1
    rw [p2] at z
    rw [if_neg z]
  · unfold f_155; rw [if_neg a, if_neg b, if_neg c, if_neg d, if_neg e]

