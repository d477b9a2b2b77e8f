section DGQ
variable {rm : Nat → Prop} {aj : Nat → Nat → Prop} {B : Nat → Nat → Nat} {q b : Nat → Nat} {L : Nat}
theorem DSK.xsy (D : DSK rm aj B q b L) : ∀ u v, nrx rm aj q b u v → nrx rm aj q b v u := fun u v h => by
  rcases h with ⟨h1, h2⟩ | ⟨s, s4, e, k⟩ | ⟨s, s4, e, k⟩ | ⟨s, s', h1, h2, e1, e2, k⟩
  · have := D.ed u v h1 h2
    exact Or.inl ⟨this.1, this.2.2⟩
  · exact Or.inr (Or.inr (Or.inl ⟨s, s4, e, k⟩))
  · exact Or.inr (Or.inl ⟨s, s4, e, k⟩)
  · exact Or.inr (Or.inr (Or.inr ⟨s', s, h2, h1, e2, e1, k.symm⟩))
theorem DSK.xtr (D : DSK rm aj B q b L) : ∀ r u, rm r → nrx rm aj q b r u → Bx B q b L (Bx B q b L r u) r = u ∧ Bx B q b L u (Bx B q b L r u) = r := fun r u hr h => by
  have inner : ∀ r u, rm r → aj r u → ¬ outd q u r → Bx B q b L (Bx B q b L r u) r = u ∧ Bx B q b L u (Bx B q b L r u) = r := fun r u hr hu no => by
    obtain ⟨ru, ne, hur⟩ := D.ed r u hr hu
    obtain ⟨t1, t2, t3, t4⟩ := D.ti u r ru hur no
    have k := D.nx r u hr hu
    obtain ⟨rk, _, hk⟩ := D.ed r _ hr k
    rw [D.x4 hr hu no]
    have h2 : aj (B r u) u := by have := D.nx (B r u) r rk hk; rw [t1] at this; exact this
    rw [D.x4 rk hk t3, D.x4 ru (D.ed _ _ rk h2).2.2 t4]
    exact ⟨t1, t2⟩
  by_cases on : ∃ y, 1 ≤ y ∧ y ≤ L ∧ r = q y
  · obtain ⟨y, h1, h2, e⟩ := on
    subst e
    obtain ⟨f1, f2, f3, f4⟩ := D.fs h1 h2
    have p0 := D.qp 0
    rw [Nat.zero_add] at p0
    rcases D.cs h1 h2 h with c | ⟨c1, c2, c3⟩ | ⟨j, hj, c⟩ | c
    · subst c
      rw [D.x1 h1 h2]
      have l4 := lo4_4 b y
      refine ⟨D.x8 l4 f4.1 f4.2, ?_⟩
      -- the place before
      by_cases c : y = 1
      · subst c
        have l3 := D.bm.2.2.2.2.2.2
        have x := D.x3 (y := L) (by omega) (Nat.le_refl L)
        have p1 := D.qp 1
        rw [Nat.add_comm 1 L] at p1
        rw [p0, show nlo b L L % 4 = lo4 b 1 by unfold nlo; rw [if_neg (Nat.lt_irrefl L)]; omega, p1] at x
        exact x
      · have x := D.x3 (y := y - 1) (by omega) (by omega)
        rw [show nlo b L (y - 1) % 4 = lo4 b y by unfold nlo; rw [if_pos (by omega), show y - 1 + 1 = y by omega]; omega, show y - 1 + 1 = y by omega] at x
        exact x
    · exact inner _ _ hr c1 c2
    · subst c
      rw [D.x2 h1 h2 hj]
      -- the corner between two sides
      have s4 : (lo4 b y + j) % 4 < 4 := Nat.mod_lt _ (by decide)
      have n1 := (f3 _ s4).mpr ⟨j, by omega, rfl⟩
      have n2 := (f3 _ (Nat.mod_lt (lo4 b y + (j + 1)) (by decide))).mpr ⟨j + 1, by omega, rfl⟩
      have e := D.n1 (q y) _ s4 n1 (by rw [show ((lo4 b y + j) % 4 + 1) % 4 = (lo4 b y + (j + 1)) % 4 by omega]; exact n2)
      constructor
      · have x := D.x7 (s := (lo4 b y + (j + 1)) % 4) (Nat.mod_lt _ (by decide))
        have e2 : q (b ((lo4 b y + (j + 1)) % 4)) = q y := by
          rw [e]
          by_cases z : (lo4 b y + j) % 4 = 3
          · rw [show (lo4 b y + (j + 1)) % 4 = 0 by omega, z, D.bm.1, show b (3 + 1) = L from D.bm.2.2.2.2.2.1, p0]
          · rw [show (lo4 b y + (j + 1)) % 4 = (lo4 b y + j) % 4 + 1 by omega]
        rw [e2] at x
        rw [x]; omega
      · have x := D.x5 (s := (lo4 b y + j) % 4) s4
        rw [show ((lo4 b y + j) % 4 + 1) % 4 = (lo4 b y + (j + 1)) % 4 by omega] at x
        rw [x, ← e]
    · subst c
      rw [D.x3 h1 h2]
      obtain ⟨z, z1, z2, z3, z4, z5⟩ := D.nxy h1 h2
      have x := D.x1 z1 z2
      rw [z3, z4, z5] at x
      refine ⟨x, ?_⟩
      have fz := (D.fs z1 z2).2.2.2
      have w := D.x8 (lo4_4 b z) fz.1 fz.2
      rw [z3, z4, z5] at w
      exact w
  · rcases D.nrr hr h with k | ⟨s, s4, e, k⟩
    · exact inner r u hr k (fun o => by obtain ⟨y, y1, y2, y3, _⟩ := D.out1 o; exact on ⟨y, y1, y2, y3⟩)
    · exact absurd (D.at1 s4 k) on
theorem DSK.xnl (D : DSK rm aj B q b L) : ∀ r u w, rm r → nrx rm aj q b r u → nrx rm aj q b r w → nrx rm aj q b u w → Bx B q b L r u = w ∨ Bx B q b L r w = u := fun r u w hr hu hw huw => by
  have T := D.xtr
  -- a side and a room
  have one : ∀ v s, s < 4 → aj r v → nrs q b r s → nrs q b v s → Bx B q b L r v = 9 + s ∨ Bx B q b L r (9 + s) = v := fun v s s4 h1 h2 h3 => by
    obtain ⟨y, y1, y2, k⟩ := D.n2 r v s s4 h2 h3 h1
    have hs : nrx rm aj q b (9 + s) (q (y + 1)) := D.nrt s4 (by omega) y2
    have x := D.x8 (s := s) (y := y + 1) s4 (by omega) y2
    rw [show y + 1 - 1 = y by omega] at x
    -- the triangle of the side and two rooms that follow one another
    have ry := (D.qr (y + 1)).1
    have rz := (D.qr y).1
    have back := D.xsy _ _ hs
    obtain ⟨p, hp, ep⟩ : ∃ p, nrx rm aj q b (q (y + 1)) p ∧ Bx B q b L (q (y + 1)) p = 9 + s := D.xtv (q (y + 1)) (fun w => ∃ v, nrx rm aj q b (q (y + 1)) v ∧ Bx B q b L (q (y + 1)) v = w) ⟨_, D.xnx _ _ back, _, back, rfl⟩ (fun v hv _ => ⟨v, hv, rfl⟩) _ back
    have t := T _ _ ry hp
    rw [ep, x] at t
    rcases k with ⟨k1, k2⟩ | ⟨k1, k2⟩
    · right
      rw [k1, k2, t.1]; exact t.2
    · left
      rw [k1, k2, t.1]; exact ep
  have two : ∀ s s', s < 4 → s' = (s + 1) % 4 → nrs q b r s → nrs q b r s' → Bx B q b L r (9 + s) = 9 + s' := fun s s' s4 es h1 h2 => by
    obtain ⟨y, y1, y2, e⟩ := D.at1 s4 h1
    obtain ⟨f1, f2, f3, f4⟩ := D.fs y1 y2
    rw [e] at h1 h2 ⊢
    obtain ⟨j, hj, ej⟩ := (f3 s s4).mp h1
    obtain ⟨i, hi, ei⟩ := (f3 s' (by omega)).mp h2
    have : i = j + 1 := by omega
    rw [ej, D.x2 y1 y2 (by omega), ei, this]
  rcases D.nrr hr hu with ku | ⟨s, s4, e, ku⟩ <;> rcases D.nrr hr hw with kw | ⟨s', s4', e', kw⟩
  · have hc : aj u w := by
      rcases D.nrr (D.ed _ _ hr ku).1 huw with k | ⟨s, _, e, _⟩
      · exact k
      · have := D.r9 _ (D.ed _ _ hr kw).1; omega
    rcases D.n3 r u w hr ku kw hc with ⟨k1, k2⟩ | ⟨k1, k2⟩
    · left; rw [D.x4 hr ku k2]; exact k1
    · right; rw [D.x4 hr kw k2]; exact k1
  · subst e'
    have h3 : nrs q b u s' := by
      rcases D.nrr (D.ed _ _ hr ku).1 huw with k | ⟨s, _, e, k⟩
      · have := D.r9 _ (D.ed _ _ (D.ed _ _ hr ku).1 k).1; omega
      · rw [show s' = s by omega]; exact k
    exact one u s' s4' ku kw h3
  · subst e
    have h3 : nrs q b w s := by
      rcases D.nrr (D.ed _ _ hr kw).1 (D.xsy _ _ huw) with k | ⟨s', _, e, k⟩
      · have := D.r9 _ (D.ed _ _ (D.ed _ _ hr kw).1 k).1; omega
      · rw [show s = s' by omega]; exact k
    exact (one w s s4 kw ku h3).symm
  · subst e; subst e'
    rcases huw with ⟨h, _⟩ | ⟨_, _, _, k⟩ | ⟨_, _, _, k⟩ | ⟨a, c, a4, c4, e1, e2, k⟩
    · have := D.r9 _ h; omega
    · have := D.r9 _ (D.nrm k); omega
    · have := D.r9 _ (D.nrm k); omega
    · have ea : s = a := by omega
      have ec : s' = c := by omega
      subst ea; subst ec
      rcases k with k | k
      · exact Or.inl (two s s' s4 k ku kw)
      · exact Or.inr (two s' s s4' k kw ku)
theorem DSK.gp (D : DSK rm aj B q b L) : GP rm (nrx rm aj q b) (Bx B q b L) := by
  have l3 := D.bm.2.2.2.2.2.2
  refine ⟨D.r9, D.xsy, fun u v h => ?_, fun s s' h1 h2 => ⟨fun h => ?_, fun h => Or.inr (Or.inr (Or.inr ⟨s, s', h1, h2, rfl, rfl, h⟩))⟩, D.xnx, D.xij, D.xtv, D.xtr, D.xnl, fun S s9 cl => ?_, fun S hS cl => D.rc S hS (fun r w hr sr hrw => cl r w hr sr (D.ed _ _ hr hrw).1 (Or.inl ⟨hr, hrw⟩)), fun r s s' hr s4 s4' h e => ?_⟩
  · rcases h with ⟨h1, h2⟩ | ⟨s, s4, e, k⟩ | ⟨s, s4, e, k⟩ | ⟨s, s', h1, h2, e1, e2, k⟩
    · exact ⟨(D.ed u v h1 h2).2.1, Or.inl h1⟩
    · exact ⟨by have := D.r9 _ (D.nrm k); omega, Or.inl (D.nrm k)⟩
    · exact ⟨by have := D.r9 _ (D.nrm k); omega, Or.inr (by omega)⟩
    · exact ⟨by omega, Or.inr (by omega)⟩
  · rcases h with ⟨h, _⟩ | ⟨_, _, _, k⟩ | ⟨_, _, _, k⟩ | ⟨a, c, a4, c4, e1, e2, k⟩
    · have := D.r9 _ h; omega
    · have := D.r9 _ (D.nrm k); omega
    · have := D.r9 _ (D.nrm k); omega
    · have ea : s = a := by omega
      have ec : s' = c := by omega
      subst ea; subst ec; exact k
  · have h0 : nrx rm aj q b (9 + 0) (q (b 0)) := D.nrt (by decide) (Nat.le_refl _) (D.bb (s := 0) (by decide))
    exact D.rc S ⟨q (b 0), (D.qr _).1, cl _ _ s9 h0⟩ (fun r w hr sr hrw => cl r w sr (Or.inl ⟨hr, hrw⟩))
  · rcases D.nrr hr h with k | ⟨s1, s14, e1, k⟩
    · have := D.r9 _ (D.ed _ _ hr k).1; omega
    · have es : s = s1 := by omega
      subst es
      obtain ⟨y, y1, y2, ey⟩ := D.at1 s4 k
      subst ey
      rcases D.cs y1 y2 h with c | ⟨c1, _⟩ | ⟨j, hj, c⟩ | c
      · have := D.q9 (y - 1); omega
      · have := D.r9 _ (D.ed _ _ hr c1).1; omega
      · rw [c, D.x2 y1 y2 hj] at e; omega
      · rw [c, D.x3 y1 y2] at e; have := D.q9 (y + 1); omega
theorem DSK.ot (D : DSK rm aj B q b L) : OTa rm (nrx rm aj q b) (Bx B q b L) L q := by
  have l3 := D.bm.2.2.2.2.2.2
  refine ⟨by omega, fun k => (D.qr k).1, D.qp, fun r s hr s4 h => ?_, fun k => ?_⟩
  · rcases D.nrr hr h with k | ⟨s1, s14, e1, k⟩
    · have := D.r9 _ (D.ed _ _ hr k).1; omega
    · obtain ⟨y, y1, y2, e⟩ := D.at1 s14 k
      by_cases c : y = L
      · refine ⟨0, by omega, ?_⟩
        have := D.qp 0
        rw [Nat.zero_add] at this
        rw [e, c, this]
      · exact ⟨y, by omega, e.symm⟩
  · obtain ⟨y, y1, y2, e1, e2⟩ := D.nm k
    obtain ⟨f1, f2, f3, f4⟩ := D.fs y1 y2
    refine ⟨lo4 b y, nlo b L y - lo4 b y + 1, lo4_4 b y, by omega, by omega, fun s s4 => ?_, fun j hj => ?_, ?_⟩
    · rw [← e1]
      constructor
      · intro h
        rcases D.nrr (D.qr y).1 h with k | ⟨s1, s14, e, k⟩
        · have := D.r9 _ (D.ed _ _ (D.qr y).1 k).1; omega
        · obtain ⟨j, hj, ej⟩ := (f3 s1 s14).mp k
          exact ⟨j, by omega, by omega⟩
      · rintro ⟨j, hj, ej⟩
        rw [ej]; exact D.nrj y1 y2 (by omega)
    · rw [← e1]; exact D.x2 y1 y2 (by omega)
    · rw [← e1, ← e2, show lo4 b y + (nlo b L y - lo4 b y + 1 - 1) = nlo b L y by omega]
      exact D.x3 y1 y2
end DGQ
