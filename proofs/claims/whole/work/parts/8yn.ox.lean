/-! what layRings wants, from a plan -/
theorem mjn_u {σ τ : mm_S} {n m a b k l : Nat} (Z : ZI σ n m) (t80 : τ 80 = σ 80) (t81 : τ 81 = σ 81) (hk : k < n) (hl : l < n) (h : mjn τ (nI a) (nI b) k) (h' : mjn τ (nI a) (nI b) l) : k = l := by
  unfold mjn at h h'
  rw [t80, t81] at h h'
  rcases h with ⟨p, q⟩ | ⟨p, q⟩
  · exact Z.mk.jd k l hk hl a b p q h'
  · exact Z.mk.jd k l hk hl b a p q h'.symm
theorem PLD.ox {σ τ : mm_S} {n m : Nat} {B : Nat → Nat → Nat} {s t L f : Nat} {Mk : Nat → Nat} {lab : Nat × Nat → Int32} {p K : Nat → Nat} (P : PLD σ n m B s t L f Mk lab p K) (hn : n ≤ 21) (e6 : τ 10 6 = nI n) (l9 : L ≤ 9) (e15 : τ 10 15 = nI L) (ol : ∀ k, k < L → τ 85 k = nI (wo B s t k)) (e83 : τ 83 0 = nI (wo B s t (p 0))) (h92 : ∀ i, i < 4 → τ 92 i = nI (frm L p i) ∧ τ 93 i = nI (tom L p i)) : OX τ n L (p 0) (wo B s t) (bo4 L p) := by
  have l3 := P.l3
  obtain ⟨b0, b1, b2, b3, b4, b5, _⟩ := P.dsk.bm
  exact ⟨hn, e6, by omega, l9, e15, fun k hk => ⟨(P.wa k).1.1, ol k hk⟩, fun i j h1 h2 => P.wd h1 (by omega), P.pl 0 (by decide), e83, fun i hi => by rw [← P.fb hi, ← P.tb hi]; exact h92 i hi, b0, b1, b2, b3, b4, b5⟩
