/-! the reference: raiseJoin, whole -/
def CVj (V : Nat → Nat) (r o t wsh : Nat) : Prop := V (4 * r + 2 + (1 - t)) = V (4 * o + (1 - t)) ∧ V (4 * r + t) + wsh ≤ V (4 * r + 2 + t) ∧ V (4 * o + t) + wsh ≤ V (4 * r + 2 + t) ∧ V (4 * r + t) + wsh ≤ V (4 * o + 2 + t) ∧ V (4 * o + t) + wsh ≤ V (4 * o + 2 + t)
theorem c_140t {d k a b Dk wsh : Nat} {Q : mm_Q} {τ : mm_S} {V : Nat → Nat} {WD HT : Nat} (hk : k < 21) (ha : a < 9) (hb : b < 9) (ab : a ≠ b) (hD : Dk < 4) (e95 : τ 95 k = nI Dk) (e80 : τ 80 k = nI a) (e81 : τ 81 k = nI b) (I : INp V WD HT τ) (V40 : ∀ x, V x ≤ 4050) (e82 : τ 82 k = nI wsh)
    (C : CVj V (if Dk % 2 = 0 then a else b) (if Dk % 2 = 0 then b else a) (1 - Dk / 2) wsh)
    (q : ∀ τ', Sfp V WD HT τ τ' → (τ' = τ → Cjn τ (if Dk % 2 = 0 then a else b) (if Dk % 2 = 0 then b else a) (1 - Dk / 2) wsh) → Q none τ') : mD (d + 3) 140 [.ref 10, .int (nI k)] τ Q := by
  have vk : vp_in (nI k) 21 := pk_in k 21 hk
  have ck : (nI k).toNatClampNeg = k := nI_clamp (by omega)
  have n44 : ∀ t, t < 2 → CVj V a b t wsh → (∀ τ', Sfp V WD HT τ τ' → (τ' = τ → Cjn τ a b t wsh) → Q none τ') → ∀ o3 o4 o5 o6, mw (d + 2) mt_140 Q 44 [some (.ref 10), some (.int (nI k)), some (.int (nI t)), o3, o4, o5, o6] [] τ := fun t ht c q' o3 o4 o5 o6 => by
    have eo : f_101 τ (nI k) (τ 80 k) = nI b := by unfold f_101; rw [ck, if_pos rfl]; exact e81
    refine kb_140_44 vk (c_101 vk ?_)
    rw [ck, eo, e80]
    exact c_140m hk ha hb ht I V40 e82 c.1 c.2.1 c.2.2.1 c.2.2.2.1 c.2.2.2.2 q' _ _ _
  have n53 : ∀ t, t < 2 → CVj V b a t wsh → (∀ τ', Sfp V WD HT τ τ' → (τ' = τ → Cjn τ b a t wsh) → Q none τ') → ∀ o3 o4 o5 o6, mw (d + 2) mt_140 Q 53 [some (.ref 10), some (.int (nI k)), some (.int (nI t)), o3, o4, o5, o6] [] τ := fun t ht c q' o3 o4 o5 o6 => by
    have eo : f_101 τ (nI k) (τ 81 k) = nI a := by unfold f_101; rw [ck, if_neg (by rw [e80, e81]; exact fun z => ab (nI9 ha hb z))]; exact e80
    refine kb_140_53 vk (c_101 vk ?_)
    rw [ck, eo, e81]
    exact c_140m hk hb ha ht I V40 e82 c.1 c.2.1 c.2.2.1 c.2.2.2.1 c.2.2.2.2 q' _ _ _
  have x95 : τ 95 (nI k).toNatClampNeg = nI Dk := by rw [ck]; exact e95
  rcases (show Dk = 0 ∨ Dk = 1 ∨ Dk = 2 ∨ Dk = 3 by omega) with e | e | e | e <;> subst e
  · exact ke_140 (kb_140_0 vk (fun _ => kb_140_19 vk (fun _ => n44 1 (by decide) C q _ _ _ _) (fun g => absurd x95 g)) (fun g => absurd x95 g))
  · exact ke_140 (kb_140_0 vk (fun g => absurd (x95.symm.trans g) (by decide)) (fun _ => kb_140_9 vk (fun _ => kb_140_19 vk (fun g => absurd (x95.symm.trans g) (by decide)) (fun _ => kb_140_34 vk (fun g => absurd (x95.symm.trans g) (by decide)) (fun _ => n53 1 (by decide) C q _ _ _ _))) (fun g => absurd x95 g)))
  · exact ke_140 (kb_140_0 vk (fun g => absurd (x95.symm.trans g) (by decide)) (fun _ => kb_140_9 vk (fun g => absurd (x95.symm.trans g) (by decide)) (fun _ => kb_140_23 vk (fun g => absurd (x95.symm.trans g) (by decide)) (fun _ => kb_140_34 vk (fun _ => n44 0 (by decide) C q _ _ _ _) (fun g => absurd x95 g)))))
  · exact ke_140 (kb_140_0 vk (fun g => absurd (x95.symm.trans g) (by decide)) (fun _ => kb_140_9 vk (fun g => absurd (x95.symm.trans g) (by decide)) (fun _ => kb_140_23 vk (fun g => absurd (x95.symm.trans g) (by decide)) (fun _ => kb_140_34 vk (fun g => absurd (x95.symm.trans g) (by decide)) (fun _ => n53 0 (by decide) C q _ _ _ _)))))
