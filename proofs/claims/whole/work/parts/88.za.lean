-- the arms of whole that need no plan
def ZE (σ : mm_S) : Prop := ∃ n m, ZI σ n m
section ZA
variable {d : Nat} {xs : Nat → Int32} {len t : Nat} {x4 : Int32} {o5 o6 : Option Value} {σ : mm_S} {f : Nat → Int64}
theorem za_0 (Z : ZE σ) (h1 : vp_in (x4 + (1 : Int32)) len) (h2 : vp_in (x4 + (2 : Int32)) len) (h3 : vp_in (x4 + (3 : Int32)) len) (ht : t < 512) (K : ∀ (o5 o6 : Option Value) (σ : mm_S) (f : Nat → Int64) (t' : Nat), ZE σ → t' ≤ t + 1 → lw (d + 70) xs len 512 847 (lL x4 o5 o6) [] σ f t') : lw (d + 70) xs len 512 112 (lL x4 o5 o6) [] σ f t := by
  obtain ⟨n, m, Z⟩ := Z
  exact arm_0 (d := d + 67) Z.rm h1 h2 h3 ht (K _ _ _ _ _ ⟨n, _, ZI_10 (by decide) Z⟩ (Nat.le_refl _)) (K _ _ _ _ _ ⟨n, _, ZI_10 (by decide) Z⟩ (Nat.le_refl _)) (fun a b c => K _ _ _ _ _ (let ⟨m', h⟩ := ZI_rdr Z a b c; ⟨n, m', h⟩) (Nat.le_refl _))
theorem za_1 (Z : ZE σ) (h1 : vp_in (x4 + (1 : Int32)) len) (h2 : vp_in (x4 + (2 : Int32)) len) (ht : t < 512) (K : ∀ (o5 o6 : Option Value) (σ : mm_S) (f : Nat → Int64) (t' : Nat), ZE σ → t' ≤ t + 1 → lw (d + 70) xs len 512 847 (lL x4 o5 o6) [] σ f t') : lw (d + 70) xs len 512 172 (lL x4 o5 o6) [] σ f t := by
  obtain ⟨n, m, Z⟩ := Z
  exact arm_1 (d := d + 67) Z.rm Z.jnn h1 h2 ht (fun _ => (K _ _ _ _ _ ⟨n, _, ZI_10 (by decide) Z⟩ (Nat.le_refl _))) (fun _ => (K _ _ _ _ _ ⟨n, _, ZI_10 (by decide) Z⟩ (Nat.le_refl _))) (fun _ _ a b c e g => K _ _ _ _ _ ⟨n + 1, m, ZI_join Z a b c e g⟩ (Nat.le_refl _))
theorem za_2 (Z : ZE σ) (h1 : vp_in (x4 + (1 : Int32)) len) (h2 : vp_in (x4 + (2 : Int32)) len) (h3 : vp_in (x4 + (3 : Int32)) len) (h4 : vp_in (x4 + (4 : Int32)) len) (ht : t < 512) (K : ∀ (o5 o6 : Option Value) (σ : mm_S) (f : Nat → Int64) (t' : Nat), ZE σ → t' ≤ t + 1 → lw (d + 70) xs len 512 847 (lL x4 o5 o6) [] σ f t') : lw (d + 70) xs len 512 240 (lL x4 o5 o6) [] σ f t := by
  obtain ⟨n, m, Z⟩ := Z
  exact arm_2 (d := d + 67) Z.rm h1 h2 h3 h4 ht (K _ _ _ _ _ ⟨n, _, ZI_10 (by decide) Z⟩ (Nat.le_refl _)) (fun a => (K _ _ _ _ _ ⟨n, _, ZI_cdr Z a⟩ (Nat.le_refl _)))
theorem za_3 (Z : ZE σ) (h1 : vp_in (x4 + (1 : Int32)) len) (h2 : vp_in (x4 + (2 : Int32)) len) (h3 : vp_in (x4 + (3 : Int32)) len) (ht : t < 512) (K : ∀ (o5 o6 : Option Value) (σ : mm_S) (f : Nat → Int64) (t' : Nat), ZE σ → t' ≤ t + 1 → lw (d + 70) xs len 512 847 (lL x4 o5 o6) [] σ f t') : lw (d + 70) xs len 512 312 (lL x4 o5 o6) [] σ f t := by
  obtain ⟨n, m, Z⟩ := Z
  exact arm_3 (d := d + 67) Z.rm h1 h2 h3 ht (K _ _ _ _ _ ⟨n, _, ZI_10 (by decide) Z⟩ (Nat.le_refl _)) (fun a => (K _ _ _ _ _ ⟨n, _, ZI_ldr Z a⟩ (Nat.le_refl _)))
theorem za_4 (Z : ZE σ) (h1 : vp_in (x4 + (1 : Int32)) len) (h2 : vp_in (x4 + (2 : Int32)) len) (ht : t < 512) (K : ∀ (o5 o6 : Option Value) (σ : mm_S) (f : Nat → Int64) (t' : Nat), ZE σ → t' ≤ t + 1 → lw (d + 70) xs len 512 847 (lL x4 o5 o6) [] σ f t') : lw (d + 70) xs len 512 372 (lL x4 o5 o6) [] σ f t := by
  obtain ⟨n, m, Z⟩ := Z
  exact arm_4 (d := d + 67) Z.jm h1 h2 ht (K _ _ _ _ _ ⟨n, _, ZI_10 (by decide) Z⟩ (Nat.le_refl _)) (fun _ => (K _ _ _ _ _ ⟨n, _, ZI_wdr Z⟩ (Nat.le_refl _)))
theorem za_5 (Z : ZE σ)  (K : ∀ (o5 o6 : Option Value) (σ : mm_S) (f : Nat → Int64) (t' : Nat), ZE σ → t' ≤ t + 1 → lw (d + 70) xs len 512 847 (lL x4 o5 o6) [] σ f t') : lw (d + 70) xs len 512 420 (lL x4 o5 o6) [] σ f t := by
  obtain ⟨n, m, Z⟩ := Z
  exact lb_420 (c_0 (lb_424 (c_95 (fun τ h => lb_428 (K _ _ _ _ _ ⟨0, 0, ZI_clr Z h⟩ (Nat.le_succ t))))))
theorem za_12 (Z : ZE σ) (h1 : vp_in (x4 + (1 : Int32)) len) (h2 : vp_in (x4 + (2 : Int32)) len) (ht : t < 512) (K : ∀ (o5 o6 : Option Value) (σ : mm_S) (f : Nat → Int64) (t' : Nat), ZE σ → t' ≤ t + 1 → lw (d + 70) xs len 512 847 (lL x4 o5 o6) [] σ f t') : lw (d + 70) xs len 512 729 (lL x4 o5 o6) [] σ f t := by
  obtain ⟨n, m, Z⟩ := Z
  refine lb_729 h1 h2 ht ⟨⟨rfl, rfl⟩, x_way (d := d + 66) Z.ck (fun h => ⟨rfl, ?_⟩) (fun a b ha hb ea eb d1 d2 τ w f1 w9 e1 W => ⟨nI w, rfl, ?_⟩)⟩
  · exact lb_746 h1 h2 (s_148n Z h (arml_12 mm_up_s (fun q => absurd q (by decide)) (K _ _ _ _ _ ⟨n, _, ZI_10 (by decide) Z⟩ (Nat.le_refl _))))
  · refine lb_746 h1 h2 ?_
    rw [ea] at d1
    rw [eb] at d2
    rw [ea, eb]
    exact s_148 Z d1 d2 ha hb f1 w9 e1 W (fun ρ Z' h0 => arml_12 h0 (fun _ => by unfold vp_updL; simp) (K _ _ _ _ _ ⟨n, _, Z'⟩ (Nat.le_refl _)))
theorem za_13 (Z : ZE σ) (h1 : vp_in (x4 + (1 : Int32)) len) (K : ∀ (o5 o6 : Option Value) (σ : mm_S) (f : Nat → Int64) (t' : Nat), ZE σ → t' ≤ t + 1 → lw (d + 70) xs len 512 847 (lL x4 o5 o6) [] σ f t') : lw (d + 70) xs len 512 797 (lL x4 o5 o6) [] σ f t := by
  obtain ⟨n, m, Z⟩ := Z
  refine lb_797 h1 (s_3 Z (lb_807 h1 (c_149 (s_149i Z) (fun g => ?_) (fun g => ?_))))
  · exact lb_817 (fun _ => (K _ _ _ _ _ ⟨n, _, ZI_10 (by decide) Z⟩ (Nat.le_succ t))) (fun h => absurd ((wr_eq Z).1 g) h)
  · exact lb_817 (fun _ => (K _ _ _ _ _ ⟨n, _, ZI_10 (by decide) Z⟩ (Nat.le_succ t))) (fun h => absurd ((wr_eq Z).2 g) h)
end ZA
