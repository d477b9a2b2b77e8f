/-! loops that count upward -/
theorem lp_dn {P : Nat → Prop} (N : Nat) (h0 : P N) (h1 : ∀ i, i < N → P (i + 1) → P i) : ∀ i, i ≤ N → P i := by
  have key : ∀ m i, i + m = N → P i := by
    intro m
    induction m with
    | zero => intro i hi; rw [show i = N by omega]; exact h0
    | succ m ih => intro i hi; exact h1 i (by omega) (ih (i + 1) (by omega))
  intro i hi
  exact key (N - i) i (by omega)
theorem hI_le {a b : Nat} (hb : b < 100000) (h : a ≤ b) : nI a ≤ nI b := (nI_leI (by omega) (by omega)).mpr h
theorem hI_nle {a b : Nat} (ha : a < 100000) (h : b < a) : ¬ (nI a ≤ nI b) := fun z => by
  have := (nI_leI (a := a) (b := b) (by omega) (by omega)).mp z
  omega
/-- the joins of the class: how many, and that their ends are rooms -/
def Jr (σ : mm_S) (n : Nat) : Prop := n ≤ 21 ∧ σ 1 12 = nI n ∧ ∀ k, k < n → vp_in (σ 16 k) 9 ∧ vp_in (σ 17 k) 9
def cxx (σ : mm_S) (e f : Nat) : Prop := ¬ (f_26 σ (nI e) (nI f) = 0 ∧ f_26 σ (nI f) (nI e) = 0 ∧ f_29 σ (nI e) (nI f) = 0)
def clx (σ : mm_S) (e i : Nat) : Prop := ¬ (xd σ (nI i) = 0) ∧ ¬ (f_27 σ (nI i) (nI e) = 0)
def tw2 (σ : mm_S) (a b : Nat) : mm_S := mm_up (mm_up (mm_up σ 20 0 (nI a)) 20 1 (nI b)) 3 1 2
theorem c_24 {d n : Nat} {Q : mm_Q} {σ : mm_S} (J : Jr σ n)
    (q1 : ∀ e f, e < f → f < n → cxx σ e f → (∀ e' f', e' < f' → f' < n → (e' < e ∨ (e' = e ∧ f' < f)) → ¬ cxx σ e' f') → Q (some (.int 1)) (tw2 σ e f))
    (q0 : (∀ e f, e < f → f < n → ¬ cxx σ e f) → Q (some (.int 0)) σ) : mD (d + 5) 24 [.ref 4, .ref 3] σ Q := by
  obtain ⟨hn, e12, hr⟩ := J
  refine ks_24_0 ?_
  refine lp_dn (P := fun e => (∀ e' f', e' < f' → f' < n → e' < e → ¬ cxx σ e' f') → ∀ o3, mw (d + 4) mt_24 Q 2 [some (.ref 4), some (.ref 3), some (.int (nI e)), o3] [] σ) n ?_ ?_ 0 (Nat.zero_le n) (fun e' f' _ _ h => absurd h (Nat.not_lt_zero _)) none
  · intro hall o3
    refine ks_24_2 (fun _ => q0 (fun e f h1 h2 => hall e f h1 h2 (by omega))) (fun g => absurd ?_ g)
    rw [e12]; exact hI_le (by omega) (Nat.le_refl n)
  · intro e he ih hall o3
    have g0 : ∀ f, f < n → ¬ (σ 1 12 ≤ nI f) := fun f hf => by rw [e12]; exact hI_nle (by omega) hf
    refine ks_24_2 (fun g => absurd g (g0 e he)) (fun _ => ?_)
    rw [nI_1]
    refine lp_dn (P := fun f => e < f → (∀ f', e < f' → f' < f → ¬ cxx σ e f') → mw (d + 4) mt_24 Q 17 [some (.ref 4), some (.ref 3), some (.int (nI e)), some (.int (nI f))] [] σ) n ?_ ?_ (e + 1) (by omega) (by omega) (fun f' h1 h2 => absurd h2 (by omega))
    · intro hef hal
      have gt : σ 1 12 ≤ nI n := by rw [e12]; exact hI_le (by omega) (Nat.le_refl n)
      refine ks_24_17 (fun g => absurd gt g) (fun g => absurd gt g) (fun g => absurd gt g) (fun g => absurd gt g) (fun g => absurd gt g) (fun g => absurd gt g) (fun _ => ?_) (fun g => absurd gt g) (fun g => absurd gt g) (fun g => absurd gt g) (fun g => absurd gt g)
      rw [nI_1]
      refine ih (fun e' f' h1 h2 h3 => ?_) _
      by_cases eq : e' = e
      · subst eq; exact hal f' h1 h2
      · exact hall e' f' h1 h2 (by omega)
    · intro f hf ihf hef hal
      have ce : (nI e).toNatClampNeg = e := pk_cl e
      have cf : (nI f).toNatClampNeg = f := pk_cl f
      have bf : ∀ e' f', e' < f' → f' < n → (e' < e ∨ (e' = e ∧ f' < f)) → ¬ cxx σ e' f' := fun e' f' h1 h2 h3 => by
        rcases h3 with h3 | ⟨h3, h4⟩
        · exact hall e' f' h1 h2 h3
        · subst h3; exact hal f' h1 h4
      refine ks_24_17 (fun _ => pk_in e 21 (by omega)) (fun _ => pk_in f 21 (by omega)) (fun _ => ?_) (fun _ => ?_) (fun _ => ?_) (fun _ => ?_) (fun g => absurd g (g0 f hf)) (fun _ a b c => ?_) (fun _ a b c => ?_) (fun _ a b => ?_) (fun _ a => ?_)
      · rw [cf]; exact (hr f hf).2
      · rw [cf]; exact (hr f hf).1
      · rw [ce]; exact (hr e he).1
      · rw [ce]; exact (hr e he).2
      · rw [nI_1]
        refine ihf (by omega) (fun f' h1 h2 => ?_)
        by_cases eq : f' = f
        · subst eq; exact fun z => z ⟨a, b, c⟩
        · exact hal f' h1 (by omega)
      · exact q1 e f hef hf (fun z => c z.2.2) bf
      · exact q1 e f hef hf (fun z => b z.2.1) bf
      · exact q1 e f hef hf (fun z => a z.1) bf
theorem c_25 {d n : Nat} {Q : mm_Q} {σ : mm_S} (J : Jr σ n)
    (q1 : ∀ e i, e < n → i < 9 → clx σ e i → (∀ e' i', e' < n → i' < 9 → (e' < e ∨ (e' = e ∧ i' < i)) → ¬ clx σ e' i') → Q (some (.int 1)) (tw2 σ e i))
    (q0 : (∀ e i, e < n → i < 9 → ¬ clx σ e i) → Q (some (.int 0)) σ) : mD (d + 4) 25 [.ref 4, .ref 3] σ Q := by
  obtain ⟨hn, e12, hr⟩ := J
  refine ks_25_0 ?_
  refine lp_dn (P := fun e => (∀ e' i', e' < n → i' < 9 → e' < e → ¬ clx σ e' i') → ∀ o3, mw (d + 3) mt_25 Q 2 [some (.ref 4), some (.ref 3), some (.int (nI e)), o3] [] σ) n ?_ ?_ 0 (Nat.zero_le n) (fun e' f' _ _ h => absurd h (Nat.not_lt_zero _)) none
  · intro hall o3
    refine ks_25_2 (fun _ => q0 (fun e f h1 h2 => hall e f h1 h2 (by omega))) (fun g => absurd ?_ g)
    rw [e12]; exact hI_le (by omega) (Nat.le_refl n)
  · intro e he ih hall o3
    refine ks_25_2 (fun g => absurd g (by rw [e12]; exact hI_nle (by omega) he)) (fun _ => ?_)
    refine lp_dn (P := fun i => (∀ i', i' < i → ¬ clx σ e i') → mw (d + 3) mt_25 Q 15 [some (.ref 4), some (.ref 3), some (.int (nI e)), some (.int (nI i))] [] σ) 9 ?_ ?_ 0 (by omega) (fun f' h2 => absurd h2 (by omega))
    · intro hal
      have gt : (9 : Int32) ≤ nI 9 := by decide
      refine ks_25_15 (fun g => absurd gt g) (fun g => absurd gt g) (fun g => absurd gt g) (fun g => absurd gt g) (fun _ => ?_) (fun g => absurd gt g) (fun g => absurd gt g) (fun g => absurd gt g)
      rw [nI_1]
      refine ih (fun e' f' h1 h2 h3 => ?_) _
      by_cases eq : e' = e
      · subst eq; exact hal f' h2
      · exact hall e' f' h1 h2 (by omega)
    · intro i hi ihi hal
      have ce : (nI e).toNatClampNeg = e := pk_cl e
      have bf : ∀ e' f', e' < n → f' < 9 → (e' < e ∨ (e' = e ∧ f' < i)) → ¬ clx σ e' f' := fun e' f' h1 h2 h3 => by
        rcases h3 with h3 | ⟨h3, h4⟩
        · exact hall e' f' h1 h2 h3
        · subst h3; exact hal f' h4
      have nx : ¬ clx σ e i → mw (d + 3) mt_25 Q 15 [some (.ref 4), some (.ref 3), some (.int (nI e)), some (.int (nI i + 1))] [] σ := fun hne => by
        rw [nI_1]
        refine ihi (fun f' h2 => ?_)
        by_cases eq : f' = i
        · subst eq; exact hne
        · exact hal f' (by omega)
      refine ks_25_15 (fun _ => pk_in e 21 (by omega)) (fun _ => ?_) (fun _ => ?_) (fun _ => pk_in i 9 hi) (fun g => absurd g (hI_nle (a := 9) (by omega) hi)) (fun _ a => nx (fun z => z.1 a)) (fun _ a b => nx (fun z => z.2 b)) (fun _ a b => q1 e i he hi ⟨a, b⟩ bf)
      · rw [ce]; exact (hr e he).2
      · rw [ce]; exact (hr e he).1
/-- what the class finds: two joins that meet, or a room on a join; the first such pair -/
def cfa (σ : mm_S) (n a b : Nat) : Prop :=
  (a < b ∧ b < n ∧ cxx σ a b ∧ ∀ e f, e < f → f < n → (e < a ∨ (e = a ∧ f < b)) → ¬ cxx σ e f) ∨
  ((∀ e f, e < f → f < n → ¬ cxx σ e f) ∧ a < n ∧ b < 9 ∧ clx σ a b ∧ ∀ e i, e < n → i < 9 → (e < a ∨ (e = a ∧ i < b)) → ¬ clx σ e i)
theorem c_23 {d n : Nat} {Q : mm_Q} {σ : mm_S} (J : Jr σ n)
    (q1 : ∀ a b, cfa σ n a b → Q (some (.int 1)) (tw2 σ a b))
    (q0 : (∀ e f, e < f → f < n → ¬ cxx σ e f) → (∀ e i, e < n → i < 9 → ¬ clx σ e i) → Q (some (.int 0)) σ) : mD (d + 6) 23 [.ref 4, .ref 3] σ Q := by
  refine ke_23 (kb_23_0 (c_24 J (fun e f h1 h2 h3 h4 => ?_) (fun h => ?_)))
  · exact kb_23_5 (fun z => absurd z (by decide)) (fun _ => kb_23_16 (q1 e f (Or.inl ⟨h1, h2, h3, h4⟩)))
  · refine kb_23_5 (fun _ => kb_23_8 (c_25 J (fun e i h1 h2 h3 h4 => ?_) (fun h' => ?_))) (fun z => absurd rfl z)
    · exact kb_23_13 (fun z => absurd z (by decide)) (fun _ => kb_23_16 (q1 e i (Or.inr ⟨h, h1, h2, h3, h4⟩)))
    · exact kb_23_13 (fun _ => kb_23_20 (q0 h h')) (fun z => absurd rfl z)
/-- the same of the reference -/
def Mr (σ : mm_S) (n : Nat) : Prop := n ≤ 21 ∧ σ 10 6 = nI n ∧ ∀ k, k < n → vp_in (σ 80 k) 9 ∧ vp_in (σ 81 k) 9
def mxx (σ : mm_S) (e f : Nat) : Prop := ¬ (f_98 σ (nI e) (nI f) = 0)
def mlx (σ : mm_S) (e i : Nat) : Prop := ¬ (σ 75 i = 0) ∧ ¬ (f_97 σ (nI i) (nI e) = 0)
def mt3 (σ : mm_S) (k a b c : Int32) : mm_S := mm_up (mm_up (mm_up (mm_up σ 10 13 k) 84 0 a) 84 1 b) 84 2 c
def mfa (σ : mm_S) (n a b : Nat) : Prop :=
  (a < b ∧ b < n ∧ mxx σ a b ∧ ∀ e f, e < f → f < n → (e < a ∨ (e = a ∧ f < b)) → ¬ mxx σ e f) ∨
  ((∀ e f, e < f → f < n → ¬ mxx σ e f) ∧ a < n ∧ b < 9 ∧ mlx σ a b ∧ ∀ e i, e < n → i < 9 → (e < a ∨ (e = a ∧ i < b)) → ¬ mlx σ e i)
theorem c_99 {d n : Nat} {Q : mm_Q} {σ : mm_S} (J : Mr σ n)
    (q1 : ∀ a b, mfa σ n a b → Q (some (.int 1)) (mt3 σ 0 (nI a) (nI b) (-1)))
    (q0 : (∀ e f, e < f → f < n → ¬ mxx σ e f) → (∀ e i, e < n → i < 9 → ¬ mlx σ e i) → Q (some (.int 0)) σ) : mD (d + 4) 99 [.ref 10] σ Q := by
  obtain ⟨hn, e12, hr⟩ := J
  have gt : σ 10 6 ≤ nI n := by rw [e12]; exact hI_le (by omega) (Nat.le_refl n)
  have g0 : ∀ f, f < n → ¬ (σ 10 6 ≤ nI f) := fun f hf => by rw [e12]; exact hI_nle (by omega) hf
  have part2 : (∀ e f, e < f → f < n → ¬ mxx σ e f) → ∀ o2, mw (d + 3) mt_99 Q 58 [some (.ref 10), some (.int (nI 0)), o2] [] σ := by
    intro hno
    refine lp_dn (P := fun e => (∀ e' i', e' < n → i' < 9 → e' < e → ¬ mlx σ e' i') → ∀ o2, mw (d + 3) mt_99 Q 58 [some (.ref 10), some (.int (nI e)), o2] [] σ) n ?_ ?_ 0 (Nat.zero_le n) (fun e' f' _ _ h => absurd h (Nat.not_lt_zero _))
    · intro hall o2
      exact ks_99_58 (fun _ => q0 hno (fun e f h1 h2 => hall e f h1 h2 (by omega))) (fun g => absurd gt g)
    · intro e he ih hall o2
      refine ks_99_58 (fun g => absurd g (g0 e he)) (fun _ => ?_)
      refine lp_dn (P := fun i => (∀ i', i' < i → ¬ mlx σ e i') → mw (d + 3) mt_99 Q 68 [some (.ref 10), some (.int (nI e)), some (.int (nI i))] [] σ) 9 ?_ ?_ 0 (by omega) (fun f' h2 => absurd h2 (by omega))
      · intro hal
        have g9 : (9 : Int32) ≤ nI 9 := by decide
        refine ks_99_68 (fun g => absurd g9 g) (fun g => absurd g9 g) (fun g => absurd g9 g) (fun g => absurd g9 g) (fun _ => ?_) (fun g => absurd g9 g) (fun g => absurd g9 g) (fun g => absurd g9 g)
        rw [nI_1]
        refine ih (fun e' f' h1 h2 h3 => ?_) _
        by_cases eq : e' = e
        · subst eq; exact hal f' h2
        · exact hall e' f' h1 h2 (by omega)
      · intro i hi ihi hal
        have ce : (nI e).toNatClampNeg = e := pk_cl e
        have ci : (nI i).toNatClampNeg = i := pk_cl i
        have bf : ∀ e' f', e' < n → f' < 9 → (e' < e ∨ (e' = e ∧ f' < i)) → ¬ mlx σ e' f' := fun e' f' h1 h2 h3 => by
          rcases h3 with h3 | ⟨h3, h4⟩
          · exact hall e' f' h1 h2 h3
          · subst h3; exact hal f' h4
        have nx : ¬ mlx σ e i → mw (d + 3) mt_99 Q 68 [some (.ref 10), some (.int (nI e)), some (.int (nI i + 1))] [] σ := fun hne => by
          rw [nI_1]
          refine ihi (fun f' h2 => ?_)
          by_cases eq : f' = i
          · subst eq; exact hne
          · exact hal f' (by omega)
        refine ks_99_68 (fun _ => pk_in i 9 hi) (fun _ => pk_in e 21 (by omega)) (fun _ => ?_) (fun _ => ?_) (fun g => absurd g (hI_nle (a := 9) (by omega) hi)) (fun _ a => nx (fun z => z.1 ?_)) (fun _ a b => nx (fun z => z.2 b)) (fun _ a b => q1 e i (Or.inr ⟨hno, he, hi, ⟨?_, b⟩, bf⟩))
        · rw [ce]; exact (hr e he).1
        · rw [ce]; exact (hr e he).2
        · rw [ci] at a; exact a
        · rw [ci] at a; exact a
  refine ks_99_0 ?_
  refine lp_dn (P := fun e => (∀ e' f', e' < f' → f' < n → e' < e → ¬ mxx σ e' f') → ∀ o2, mw (d + 3) mt_99 Q 2 [some (.ref 10), some (.int (nI e)), o2] [] σ) n ?_ ?_ 0 (Nat.zero_le n) (fun e' f' _ _ h => absurd h (Nat.not_lt_zero _)) none
  · intro hall o2
    exact ks_99_2 (fun _ => part2 (fun e f h1 h2 => hall e f h1 h2 (by omega)) _) (fun g => absurd gt g)
  · intro e he ih hall o2
    refine ks_99_2 (fun g => absurd g (g0 e he)) (fun _ => ?_)
    rw [nI_1]
    refine lp_dn (P := fun f => e < f → (∀ f', e < f' → f' < f → ¬ mxx σ e f') → mw (d + 3) mt_99 Q 14 [some (.ref 10), some (.int (nI e)), some (.int (nI f))] [] σ) n ?_ ?_ (e + 1) (by omega) (by omega) (fun f' h1 h2 => absurd h2 (by omega))
    · intro hef hal
      refine ks_99_14 (fun g => absurd gt g) (fun g => absurd gt g) (fun g => absurd gt g) (fun g => absurd gt g) (fun g => absurd gt g) (fun g => absurd gt g) (fun _ => ?_) (fun g => absurd gt g) (fun g => absurd gt g)
      rw [nI_1]
      refine ih (fun e' f' h1 h2 h3 => ?_) _
      by_cases eq : e' = e
      · subst eq; exact hal f' h1 h2
      · exact hall e' f' h1 h2 (by omega)
    · intro f hf ihf hef hal
      have ce : (nI e).toNatClampNeg = e := pk_cl e
      have cf : (nI f).toNatClampNeg = f := pk_cl f
      refine ks_99_14 (fun _ => pk_in f 21 (by omega)) (fun _ => pk_in e 21 (by omega)) (fun _ => ?_) (fun _ => ?_) (fun _ => ?_) (fun _ => ?_) (fun g => absurd g (g0 f hf)) (fun _ a => ?_) (fun _ a => q1 e f (Or.inl ⟨hef, hf, a, fun e' f' h1 h2 h3 => ?_⟩))
      · rw [ce]; exact (hr e he).1
      · rw [ce]; exact (hr e he).2
      · rw [cf]; exact (hr f hf).1
      · rw [cf]; exact (hr f hf).2
      · rw [nI_1]
        refine ihf (by omega) (fun f' h1 h2 => ?_)
        by_cases eq : f' = f
        · subst eq; exact fun z => z a
        · exact hal f' h1 (by omega)
      · rcases h3 with h3 | ⟨h3, h4⟩
        · exact hall e' f' h1 h2 h3
        · subst h3; exact hal f' h1 h4
