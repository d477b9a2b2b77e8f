/-! calls that return or throw -/
section MXa
variable {p : Program} {l : Launch} {e : Env} {R : Room} {s : State} {m : MethodId} {args : Array Value} {below : List Frame} {meth : Method} {c : Code} {U : State} {locs : List Loc} {cells slots : Nat}
/-- where the caller stands behind a call: the callee's heap and tables, its own frame -/
abbrev mx_U (U t : State) : State := ({ U with heap := t.heap, slotsUsed := t.slotsUsed } : State).setVm t.vm
theorem mx_stand (X : Stand p l e R s m args below meth c U locs cells slots) {g : JFrame} {mk : MethodId} {a : Array Value} {t : State} {L : List Loc} {k n : Nat} (hW : (U.calling g mk a).WarmedH t.vm) (hsm : (U.calling g mk a).sameButNew ({ t with vm := (U.calling g mk a).vm } : State) L k n) :
    Stand p l e R s m args below meth c (mx_U U t) (locs ++ L) (cells + k) (slots + n) := by
  obtain ⟨g0, hg0⟩ := Option.isSome_iff_exists.mp X.here.top
  obtain ⟨r, hr⟩ := State.topJava?_eq_some.mp hg0
  obtain ⟨th, hth, -⟩ := State.frames_cons hr
  have hW' : U.WarmedH t.vm := hW
  obtain ⟨-, q2, q3, q4, q5, q6⟩ := hsm
  have hsame : U.sameButNew ({ U with heap := t.heap, slotsUsed := t.slotsUsed } : State) L k n := by
    refine ⟨?_, q2, q3, q4, q5, q6⟩
    show ({ U with heap := t.heap, slotsUsed := t.slotsUsed } : State) = { U.setFrames U.frames with heap := t.heap, slotsUsed := t.slotsUsed }
    rw [State.setFrames_self hth]
  exact ⟨X.admits, X.cas, X.clock, X.frames, X.room, X.hears, X.method, X.code, (X.here.setHeapUsed t.heap t.slotsUsed).setVm hW'.alike, X.tail, State.WarmedH.trans X.warmed hW', X.limits, X.bytes, X.same.trans (hsame.setVm s.vm)⟩
theorem mx_state {g : JFrame} {mk : MethodId} {a : Array Value} {t : State} {L : List Loc} {k n : Nat} (hsm : (U.calling g mk a).sameButNew ({ t with vm := (U.calling g mk a).vm } : State) L k n) :
    t = ({ (U.calling g mk a).setFrames t.frames with heap := t.heap, slotsUsed := t.slotsUsed } : State).setVm t.vm := by
  have h1 : t = ({ t with vm := (U.calling g mk a).vm } : State).setVm t.vm := rfl
  have h2 := hsm.1
  rw [h2] at h1
  exact h1
theorem mx_ret (X : Stand p l e R s m args below meth c U locs cells slots) {g : JFrame} (hg : g.method = m) {mk : MethodId} {a : Array Value} {t : State} {L : List Loc} {k n : Nat} {v : Option Value} {ig : Instr} {len : Nat} (hdg : decode c.code g.pc = .ok (ig, len)) (hend : Ended t (U.setTop g).frames (.returned v))
    (hW : (U.calling g mk a).WarmedH t.vm) (hsm : (U.calling g mk a).sameButNew ({ t with vm := (U.calling g mk a).vm } : State) L k n) : t = (mx_U U t).setTop { g with pc := g.pc + len, stack := v.toList ++ g.stack } := by
  have h : At U g.method c below := by rw [hg]; exact X.here
  obtain ⟨g0, hg0⟩ := Option.isSome_iff_exists.mp h.top
  obtain ⟨r, hr⟩ := State.topJava?_eq_some.mp hg0
  have hr' : (mx_U U t).frames = .java g0 :: r := hr
  rw [State.frames_setTop' g h.top] at hend
  obtain ⟨c₂, i₂, len₂, hc₂, hd₂, hf₂⟩ := hend
  have hW' : U.WarmedH t.vm := hW
  have hcc : c₂ = c := by
    have h1 : t.code? g.method = U.code? g.method := by rw [State.code?_eq, State.code?_eq, hW'.alike.method?]
    exact Option.some.inj (hc₂.symm.trans (h1.trans h.code))
  subst hcc
  have hlen : len₂ = len := by rw [hdg] at hd₂; cases hd₂; rfl
  subst hlen
  refine (mx_state hsm).trans ?_
  rw [hf₂, State.calling_eq h.top, State.setFrames_setFrames, State.setTop_of_frames _ hr', hr]
  rfl
theorem mx_thr (X : Stand p l e R s m args below meth c U locs cells slots) {g : JFrame} (hg : g.method = m) {mk : MethodId} {a : Array Value} {t : State} {L : List Loc} {k n : Nat} {q : Addr} (hend : Ended t (U.setTop g).frames (.threw q))
    (hsm : (U.calling g mk a).sameButNew ({ t with vm := (U.calling g mk a).vm } : State) L k n) : t = ((mx_U U t).setTop g).pushFrame (.throwing q) := by
  have h : At U g.method c below := by rw [hg]; exact X.here
  obtain ⟨g0, hg0⟩ := Option.isSome_iff_exists.mp h.top
  obtain ⟨r, hr⟩ := State.topJava?_eq_some.mp hg0
  have hr' : (mx_U U t).frames = .java g0 :: r := hr
  rw [State.frames_setTop' g h.top] at hend
  have hf₂ : t.frames = .throwing q :: .java g :: U.frames.tail := hend
  refine (mx_state hsm).trans ?_
  rw [hf₂, State.calling_eq h.top, State.setFrames_setFrames, State.pushFrame, State.frames_setTop _ hr', State.setTop_of_frames _ hr', State.setFrames_setFrames, hr]
  rfl
end MXa
