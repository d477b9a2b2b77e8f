/-! The small machine: one step of a method over numbered cells; what it says is tied to W further down. -/
/-- what the cells hold: cell, place -/
abbrev mm_S : Type := Nat → Nat → Int32
def mm_up (σ : mm_S) (k j : Nat) (v : Int32) : mm_S := fun k' => if k' = k then upd (σ k) j v else σ k'
def mm_nth {α : Type} : List α → Nat → Option α
  | [], _ => none
  | a :: _, 0 => some a
  | _ :: r, i + 1 => mm_nth r i
def mm_set {α : Type} : List α → Nat → α → List α
  | [], _, _ => []
  | _ :: r, 0, b => b :: r
  | a :: r, i + 1, b => a :: mm_set r i b
def mm_look {α : Type} : List (Nat × α) → Nat → Option α
  | [], _ => none
  | (k, a) :: r, q => match Nat.beq k q with
    | true => some a
    | false => mm_look r q
/-- an instruction's row: itself, its length, where it goes, its number -/
abbrev mm_E : Type := ClassFile.Instr × Nat × Nat × Int32
/-- a cell's kind: (0, class, fields: none an int, some t the cell t), (1, n, []) ints, (2, n, []) booleans, (3, n, []) rows of ints at the n cells behind it -/
abbrev mm_K : Type := Nat × Nat × List (Option Nat)
/-- a method's row: its instructions, the fields that it reads (pool number, class, place), those that it writes, its calls (pool number, method, how many arguments, the class whose object it is called on, 99: none), what it returns (0, 1: an int, 2: a boolean) -/
abbrev mm_M : Type := List (Nat × mm_E) × List (Nat × Nat × Nat) × List (Nat × Nat × Nat) × List (Nat × Nat × Nat × Nat) × Nat
/-- a system: cells, booleans among the fields (class, place), methods -/
abbrev mm_Y : Type := List mm_K × List (Nat × Nat) × List mm_M
def mm_kd (Y : mm_Y) (k : Nat) : mm_K := (mm_nth Y.1 k).getD (9, 0, [])
def mm_ia (Y : mm_Y) (k : Nat) (i : Int32) : Prop := match mm_kd Y k with
  | (1, n, _) => vp_in i n
  | _ => False
def mm_za (Y : mm_Y) (k : Nat) (i : Int32) : Prop := match mm_kd Y k with
  | (2, n, _) => vp_in i n
  | _ => False
def mm_ga (Y : mm_Y) (k : Nat) (i : Int32) : Prop := match mm_kd Y k with
  | (3, n, _) => vp_in i n
  | _ => False
def mm_gf (Y : mm_Y) (k ci j : Nat) : Option (Option Nat) := match mm_kd Y k with
  | (0, ci', fs) => match Nat.beq ci' ci with
    | true => mm_nth fs j
    | false => none
  | _ => none
def mm_isZ (Y : mm_Y) (ci j : Nat) : Bool := Y.2.1.any (fun q => Nat.beq q.1 ci && Nat.beq q.2 j)
def mm_me (Y : mm_Y) (M : Nat) : mm_M := (mm_nth Y.2.2 M).getD ([], [], [], [], 0)
def mm_br (c A B : Prop) : Prop := (c → A) ∧ (¬ c → B)
def mm_pop : Nat → List Value → List Value → Option (List Value × List Value)
  | 0, acc, S => some (acc, S)
  | n + 1, acc, v :: S => mm_pop n (v :: acc) S
  | _ + 1, _, [] => none
abbrev mm_Q : Type := Option Value → mm_S → Prop
abbrev mm_C : Type := Nat → List Value → mm_S → mm_Q → Prop
abbrev mm_X : Type := Nat → List (Option Value) → List Value → mm_S → Prop
def mm_ldi (L : List (Option Value)) (i : Nat) (K : Int32 → Prop) : Prop := match mm_nth L i with
  | some (some (.int x)) => K x
  | _ => False
def mm_lda (L : List (Option Value)) (i : Nat) (K : Nat → Prop) : Prop := match mm_nth L i with
  | some (some (.ref x)) => K x
  | _ => False
def mm_sto (L : List (Option Value)) (i : Nat) (v : Value) (K : List (Option Value) → Prop) : Prop := match mm_nth L i with
  | some _ => K (mm_set L i (some v))
  | none => False
def mm_1 (S : List Value) (K : Int32 → List Value → Prop) : Prop := match S with
  | .int x :: r => K x r
  | _ => False
def mm_2 (S : List Value) (K : Int32 → Int32 → List Value → Prop) : Prop := match S with
  | .int y :: .int x :: r => K x y r
  | _ => False
def mm_r (S : List Value) (K : Nat → List Value → Prop) : Prop := match S with
  | .ref k :: r => K k r
  | _ => False
def mm_ir (S : List Value) (K : Int32 → Nat → List Value → Prop) : Prop := match S with
  | .int x :: .ref k :: r => K x k r
  | _ => False
def mm_iir (S : List Value) (K : Int32 → Int32 → Nat → List Value → Prop) : Prop := match S with
  | .int x :: .int i :: .ref k :: r => K x i k r
  | _ => False
def mm_icmp (c : ClassFile.Cond) (x y : Int32) (A B : Prop) : Prop := match c with
  | .eq => mm_br (x = y) A B
  | .ne => mm_br (x = y) B A
  | .lt => mm_br (x < y) A B
  | .ge => mm_br (y ≤ x) A B
  | .gt => mm_br (y < x) A B
  | .le => mm_br (x ≤ y) A B
def mm_if (c : ClassFile.Cond) (x : Int32) (A B : Prop) : Prop := match c with
  | .eq => mm_br (x = 0) A B
  | .ne => mm_br (x = 0) B A
  | .lt => mm_br (x < 0) A B
  | .ge => mm_br (0 ≤ x) A B
  | .gt => mm_br (0 < x) A B
  | .le => mm_br (x ≤ 0) A B
def mm_c1 (n : Nat) (as : List Value) : Bool := Nat.ble as.length n && as.all (fun v => match v with | .int _ => true | .ref _ => true | _ => false)
def mm_rcv (Y : mm_Y) (self ci : Nat) (as : List Value) : Bool := match self with
  | 0 => Nat.beq ci 99
  | _ + 1 => match as with
    | .ref k :: _ => match mm_kd Y k with
      | (0, c, _) => Nat.beq c ci && !(Nat.beq ci 99)
      | _ => false
    | _ => false
def mm_call (Y : mm_Y) (C : mm_C) (M : mm_M) (idx self : Nat) (S : List Value) (σ : mm_S) (K : List Value → mm_S → Prop) : Prop := match mm_look M.2.2.2.1 idx with
  | some (y, n, ci) => match mm_pop (n + self) [] S with
    | some (as, r) => match mm_c1 8 r && mm_rcv Y self ci as with
      | true => C y as σ (fun v σ' => K (v.toList ++ r) σ')
      | false => False
    | none => False
  | none => False
def mm_gv (Y : mm_Y) (M : mm_M) (idx k : Nat) (σ : mm_S) (K : Value → Prop) : Prop := match mm_look M.2.1 idx with
  | some (ci, j) => match mm_gf Y k ci j with
    | some (some q) => K (.ref q)
    | some none => K (.int (σ k j))
    | none => False
  | none => False
def mm_pv (Y : mm_Y) (M : mm_M) (idx k : Nat) (x : Int32) (σ : mm_S) (K : mm_S → Prop) : Prop := match mm_look M.2.2.1 idx with
  | some (ci, j) => match mm_gf Y k ci j with
    | some none => match mm_isZ Y ci j with
      | true => (x = 0 ∨ x = 1) ∧ K (mm_up σ k j x)
      | false => K (mm_up σ k j x)
    | _ => False
  | none => False
def mm_d1 (S : List Value) (K : Value → List Value → Prop) : Prop := match S with
  | .int x :: r => K (.int x) r
  | .ref x :: r => K (.ref x) r
  | _ => False
def mm_d2 (S : List Value) (K : Value → Value → List Value → Prop) : Prop := match S with
  | .int x :: .ref y :: r => K (.int x) (.ref y) r
  | _ => False
def mm_rt (M : mm_M) (Q : mm_Q) (S : List Value) (σ : mm_S) : Prop := match S with
  | [.int v] => match M.2.2.2.2 with
    | 1 => Q (some (.int v)) σ
    | 2 => (v = 0 ∨ v = 1) ∧ Q (some (.int v)) σ
    | _ => False
  | _ => False
def mm_rv (M : mm_M) (Q : mm_Q) (S : List Value) (σ : mm_S) : Prop := match S with
  | [] => match M.2.2.2.2 with
    | 0 => Q none σ
    | _ => False
  | _ => False
/-- a switch -/
def mm_sw (pc : Nat) (dflt lo hi : Int) (offs : Array Int) (x : Int32) (K : Nat → Prop) : Prop := if x.toInt < lo ∨ hi < x.toInt then K ((pc : Int) + dflt).toNat else match offs[(x.toInt - lo).toNat]? with
  | some off => K ((pc : Int) + off).toNat
  | none => False
/-- one instruction: what must hold for X to hold behind it -/
def mm_one (Y : mm_Y) (C : mm_C) (M : mm_M) (Q : mm_Q) (X : mm_X) : mm_X := fun pc L S σ => match mm_look M.1 pc with
  | none => False
  | some (i, len, t, c) => match i with
    | .iload_n k => mm_ldi L k.val (fun x => X (pc + 1) L (.int x :: S) σ)
    | .iload k => mm_ldi L k (fun x => X (pc + 2) L (.int x :: S) σ)
    | .aload_n k => mm_lda L k.val (fun x => X (pc + 1) L (.ref x :: S) σ)
    | .aload k => mm_lda L k (fun x => X (pc + 2) L (.ref x :: S) σ)
    | .istore_n k => mm_1 S (fun x r => mm_sto L k.val (.int x) (fun L' => X (pc + 1) L' r σ))
    | .istore k => mm_1 S (fun x r => mm_sto L k (.int x) (fun L' => X (pc + 2) L' r σ))
    | .astore_n k => mm_r S (fun x r => mm_sto L k.val (.ref x) (fun L' => X (pc + 1) L' r σ))
    | .astore k => mm_r S (fun x r => mm_sto L k (.ref x) (fun L' => X (pc + 2) L' r σ))
    | .iinc k _ => mm_ldi L k (fun x => mm_sto L k (.int (x + c)) (fun L' => X (pc + 3) L' S σ))
    | .iconst _ => X (pc + 1) L (.int c :: S) σ
    | .bipush _ => X (pc + 2) L (.int c :: S) σ
    | .sipush _ => X (pc + 3) L (.int c :: S) σ
    | .ldc_w _ => X (pc + 3) L (.int c :: S) σ
    | .iadd => mm_2 S (fun x y r => X (pc + 1) L (.int (x + y) :: r) σ)
    | .isub => mm_2 S (fun x y r => X (pc + 1) L (.int (x - y) :: r) σ)
    | .imul => mm_2 S (fun x y r => X (pc + 1) L (.int (x * y) :: r) σ)
    | .idiv => mm_2 S (fun x y r => ¬ y = 0 ∧ X (pc + 1) L (.int (x / y) :: r) σ)
    | .irem => mm_2 S (fun x y r => ¬ y = 0 ∧ X (pc + 1) L (.int (x - x / y * y) :: r) σ)
    | .iand => mm_2 S (fun x y r => X (pc + 1) L (.int (x &&& y) :: r) σ)
    | .ior => mm_2 S (fun x y r => X (pc + 1) L (.int (x ||| y) :: r) σ)
    | .ixor => mm_2 S (fun x y r => X (pc + 1) L (.int (x ^^^ y) :: r) σ)
    | .ishl => mm_2 S (fun x y r => X (pc + 1) L (.int (x <<< (y &&& 31)) :: r) σ)
    | .ishr => mm_2 S (fun x y r => X (pc + 1) L (.int (x >>> (y &&& 31)) :: r) σ)
    | .iushr => mm_2 S (fun x y r => X (pc + 1) L (.int (x.toUInt32 >>> (y.toUInt32 &&& Int32.toUInt32 31)).toInt32 :: r) σ)
    | .dup => mm_d1 S (fun v r => X (pc + 1) L (v :: v :: r) σ)
    | .dup2 => mm_d2 S (fun v w r => X (pc + 1) L (v :: w :: v :: w :: r) σ)
    | .pop => mm_d1 S (fun _ r => X (pc + 1) L r σ)
    | .iaload => mm_ir S (fun j k r => mm_ia Y k j ∧ X (pc + 1) L (.int (σ k j.toNatClampNeg) :: r) σ)
    | .baload => mm_ir S (fun j k r => mm_za Y k j ∧ X (pc + 1) L (.int (σ k j.toNatClampNeg) :: r) σ)
    | .aaload => mm_ir S (fun j k r => mm_ga Y k j ∧ X (pc + 1) L (.ref (k + 1 + j.toNatClampNeg) :: r) σ)
    | .iastore => mm_iir S (fun x j k r => mm_ia Y k j ∧ X (pc + 1) L r (mm_up σ k j.toNatClampNeg x))
    | .bastore => mm_iir S (fun x j k r => mm_za Y k j ∧ X (pc + 1) L r (mm_up σ k j.toNatClampNeg (vp_nar .boolean x)))
    | .getfield idx => mm_r S (fun k r => mm_gv Y M idx k σ (fun v => X (pc + 3) L (v :: r) σ))
    | .putfield idx => mm_ir S (fun x k r => mm_pv Y M idx k x σ (fun σ' => X (pc + 3) L r σ'))
    | .goto _ => X t L S σ
    | .ifCond cd _ => mm_1 S (fun x r => mm_if cd x (X t L r σ) (X (pc + 3) L r σ))
    | .if_icmp cd _ => mm_2 S (fun x y r => mm_icmp cd x y (X t L r σ) (X (pc + 3) L r σ))
    | .invokevirtual idx => mm_call Y C M idx 1 S σ (fun S' σ' => X (pc + 3) L S' σ')
    | .invokestatic idx => mm_call Y C M idx 0 S σ (fun S' σ' => X (pc + 3) L S' σ')
    | .tableswitch dflt lo hi offs => mm_1 S (fun x r => mm_sw pc dflt lo hi offs x (fun t => X t L r σ))
    | .ireturn => mm_rt M Q S σ
    | .return_ => mm_rv M Q S σ
    | _ => False
/-- several -/
def mm_run (Y : mm_Y) (C : mm_C) (M : mm_M) (Q : mm_Q) (X : mm_X) : Nat → mm_X
  | 0 => X
  | n + 1 => mm_one Y C M Q (mm_run Y C M Q X n)
/-- a walk to the end: the least X that one instruction leads back from -/
def mm_W (Y : mm_Y) (C : mm_C) (M : mm_M) (Q : mm_Q) : mm_X := fun pc L S σ => ∀ X : mm_X, (∀ pc L S σ, mm_one Y C M Q X pc L S σ → X pc L S σ) → X pc L S σ
def mm_ent (n : Nat) (as : List Value) : List (Option Value) := as.map some ++ List.replicate (n - as.length) none
/-- a call: nested at most d deep; B: the calls that are known already, mx: how many locals a method has -/
def mm_D (Y : mm_Y) (B : mm_C) (mx : Nat → Nat) : Nat → mm_C
  | 0 => B
  | d + 1 => fun y as σ Q => B y as σ Q ∨ (mm_c1 (mx y) as = true ∧ mm_W Y (mm_D Y B mx d) (mm_me Y y) Q 0 (mm_ent (mx y) as) [] σ)
def mm_mono (C : mm_C) : Prop := ∀ y as σ (Q Q' : mm_Q), (∀ v σ', Q v σ' → Q' v σ') → C y as σ Q → C y as σ Q'
section MMmono
theorem mm_ldi_mono {L : List (Option Value)} {i : Nat} {K K' : Int32 → Prop} (h : ∀ x, K x → K' x) : mm_ldi L i K → mm_ldi L i K' := by
  unfold mm_ldi; split
  · exact h _
  · exact id
theorem mm_lda_mono {L : List (Option Value)} {i : Nat} {K K' : Nat → Prop} (h : ∀ x, K x → K' x) : mm_lda L i K → mm_lda L i K' := by
  unfold mm_lda; split
  · exact h _
  · exact id
theorem mm_sto_mono {L : List (Option Value)} {i : Nat} {v : Value} {K K' : List (Option Value) → Prop} (h : ∀ x, K x → K' x) : mm_sto L i v K → mm_sto L i v K' := by
  unfold mm_sto; split
  · exact h _
  · exact id
theorem mm_1_mono {S : List Value} {K K' : Int32 → List Value → Prop} (h : ∀ x r, K x r → K' x r) : mm_1 S K → mm_1 S K' := by
  unfold mm_1; split
  · exact h _ _
  · exact id
theorem mm_2_mono {S : List Value} {K K' : Int32 → Int32 → List Value → Prop} (h : ∀ x y r, K x y r → K' x y r) : mm_2 S K → mm_2 S K' := by
  unfold mm_2; split
  · exact h _ _ _
  · exact id
theorem mm_r_mono {S : List Value} {K K' : Nat → List Value → Prop} (h : ∀ x r, K x r → K' x r) : mm_r S K → mm_r S K' := by
  unfold mm_r; split
  · exact h _ _
  · exact id
theorem mm_ir_mono {S : List Value} {K K' : Int32 → Nat → List Value → Prop} (h : ∀ x k r, K x k r → K' x k r) : mm_ir S K → mm_ir S K' := by
  unfold mm_ir; split
  · exact h _ _ _
  · exact id
theorem mm_iir_mono {S : List Value} {K K' : Int32 → Int32 → Nat → List Value → Prop} (h : ∀ x i k r, K x i k r → K' x i k r) : mm_iir S K → mm_iir S K' := by
  unfold mm_iir; split
  · exact h _ _ _ _
  · exact id
theorem mm_br_mono {c A B A' B' : Prop} (h1 : A → A') (h2 : B → B') : mm_br c A B → mm_br c A' B' := fun h => ⟨fun q => h1 (h.1 q), fun q => h2 (h.2 q)⟩
theorem mm_icmp_mono {c : ClassFile.Cond} {x y : Int32} {A B A' B' : Prop} (h1 : A → A') (h2 : B → B') : mm_icmp c x y A B → mm_icmp c x y A' B' := by
  cases c
  · exact mm_br_mono h1 h2
  · exact mm_br_mono h2 h1
  · exact mm_br_mono h1 h2
  · exact mm_br_mono h1 h2
  · exact mm_br_mono h1 h2
  · exact mm_br_mono h1 h2
theorem mm_if_mono {c : ClassFile.Cond} {x : Int32} {A B A' B' : Prop} (h1 : A → A') (h2 : B → B') : mm_if c x A B → mm_if c x A' B' := by
  cases c
  · exact mm_br_mono h1 h2
  · exact mm_br_mono h2 h1
  · exact mm_br_mono h1 h2
  · exact mm_br_mono h1 h2
  · exact mm_br_mono h1 h2
  · exact mm_br_mono h1 h2
theorem mm_call_mono {Y : mm_Y} {C : mm_C} {M : mm_M} {idx self : Nat} {S : List Value} {σ : mm_S} {K K' : List Value → mm_S → Prop} (hC : mm_mono C) (h : ∀ S σ, K S σ → K' S σ) : mm_call Y C M idx self S σ K → mm_call Y C M idx self S σ K' := by
  unfold mm_call
  split
  · split
    · split
      · exact hC _ _ _ _ _ (fun v σ' => h _ _)
      · exact id
    · exact id
  · exact id
theorem mm_gv_mono {Y : mm_Y} {M : mm_M} {idx k : Nat} {σ : mm_S} {K K' : Value → Prop} (h : ∀ v, K v → K' v) : mm_gv Y M idx k σ K → mm_gv Y M idx k σ K' := by
  unfold mm_gv
  split
  · split
    · exact h _
    · exact h _
    · exact id
  · exact id
theorem mm_pv_mono {Y : mm_Y} {M : mm_M} {idx k : Nat} {x : Int32} {σ : mm_S} {K K' : mm_S → Prop} (h : ∀ v, K v → K' v) : mm_pv Y M idx k x σ K → mm_pv Y M idx k x σ K' := by
  unfold mm_pv
  split
  · split
    · split
      · exact fun q => ⟨q.1, h _ q.2⟩
      · exact h _
    · exact id
  · exact id
theorem mm_d1_mono {S : List Value} {K K' : Value → List Value → Prop} (h : ∀ x r, K x r → K' x r) : mm_d1 S K → mm_d1 S K' := by
  unfold mm_d1; split
  · exact h _ _
  · exact h _ _
  · exact id
theorem mm_d2_mono {S : List Value} {K K' : Value → Value → List Value → Prop} (h : ∀ x y r, K x y r → K' x y r) : mm_d2 S K → mm_d2 S K' := by
  unfold mm_d2; split
  · exact h _ _ _
  · exact id
theorem mm_rt_mono {M : mm_M} {Q Q' : mm_Q} {S : List Value} {σ : mm_S} (h : ∀ v σ, Q v σ → Q' v σ) : mm_rt M Q S σ → mm_rt M Q' S σ := by
  unfold mm_rt; split
  · split
    · exact h _ _
    · exact fun q => ⟨q.1, h _ _ q.2⟩
    · exact id
  · exact id
theorem mm_rv_mono {M : mm_M} {Q Q' : mm_Q} {S : List Value} {σ : mm_S} (h : ∀ v σ, Q v σ → Q' v σ) : mm_rv M Q S σ → mm_rv M Q' S σ := by
  unfold mm_rv; split
  · split
    · exact h _ _
    · exact id
  · exact id
theorem mm_sw_mono {pc : Nat} {dflt lo hi : Int} {offs : Array Int} {x : Int32} {K K' : Nat → Prop} (h : ∀ t, K t → K' t) : mm_sw pc dflt lo hi offs x K → mm_sw pc dflt lo hi offs x K' := by
  unfold mm_sw; split
  · exact h _
  · split
    · exact h _
    · exact id
theorem mm_one_mono {Y : mm_Y} {C : mm_C} {M : mm_M} {Q Q' : mm_Q} {X X' : mm_X} (hC : mm_mono C) (hQ : ∀ v σ, Q v σ → Q' v σ) (hX : ∀ pc L S σ, X pc L S σ → X' pc L S σ) : ∀ pc L S σ, mm_one Y C M Q X pc L S σ → mm_one Y C M Q' X' pc L S σ := by
  intro pc L S σ h
  unfold mm_one at h ⊢
  cases hI : mm_look M.1 pc with
  | none => simp only [hI] at h
  | some q =>
    obtain ⟨i, len, t, c⟩ := q
    simp only [hI] at h ⊢
    cases i
    all_goals first
      | exact h.elim
      | exact hX _ _ _ _ h
      | exact mm_ldi_mono (fun x h => hX _ _ _ _ h) h
      | exact mm_ldi_mono (fun x h => mm_sto_mono (fun _ h => hX _ _ _ _ h) h) h
      | exact mm_lda_mono (fun x h => hX _ _ _ _ h) h
      | exact mm_1_mono (fun x r h => mm_sto_mono (fun _ h => hX _ _ _ _ h) h) h
      | exact mm_r_mono (fun x r h => mm_sto_mono (fun _ h => hX _ _ _ _ h) h) h
      | exact mm_2_mono (fun x y r h => hX _ _ _ _ h) h
      | exact mm_2_mono (fun x y r h => ⟨h.1, hX _ _ _ _ h.2⟩) h
      | exact mm_d1_mono (fun x r h => hX _ _ _ _ h) h
      | exact mm_d2_mono (fun x y r h => hX _ _ _ _ h) h
      | exact mm_ir_mono (fun j k r h => ⟨h.1, hX _ _ _ _ h.2⟩) h
      | exact mm_iir_mono (fun x j k r h => ⟨h.1, hX _ _ _ _ h.2⟩) h
      | exact mm_r_mono (fun k r h => mm_gv_mono (fun v h => hX _ _ _ _ h) h) h
      | exact mm_ir_mono (fun x k r h => mm_pv_mono (fun v h => hX _ _ _ _ h) h) h
      | exact mm_1_mono (fun x r h => mm_if_mono (hX _ _ _ _) (hX _ _ _ _) h) h
      | exact mm_2_mono (fun x y r h => mm_icmp_mono (hX _ _ _ _) (hX _ _ _ _) h) h
      | exact mm_1_mono (fun x r h => mm_sw_mono (fun t h => hX _ _ _ _ h) h) h
      | exact mm_call_mono hC (fun S σ h => hX _ _ _ _ h) h
      | exact mm_rt_mono hQ h
      | exact mm_rv_mono hQ h
theorem mm_W_mono {Y : mm_Y} {C : mm_C} {M : mm_M} {Q Q' : mm_Q} (hC : mm_mono C) (hQ : ∀ v σ, Q v σ → Q' v σ) {pc : Nat} {L : List (Option Value)} {S : List Value} {σ : mm_S} (h : mm_W Y C M Q pc L S σ) : mm_W Y C M Q' pc L S σ :=
  fun X hX => h X (fun pc L S σ q => hX pc L S σ (mm_one_mono hC hQ (fun _ _ _ _ z => z) pc L S σ q))
/-- the first instruction, then the rest of the walk -/
theorem mm_in {Y : mm_Y} {C : mm_C} {M : mm_M} {Q : mm_Q} (hC : mm_mono C) {pc : Nat} {L : List (Option Value)} {S : List Value} {σ : mm_S} (h : mm_one Y C M Q (mm_W Y C M Q) pc L S σ) : mm_W Y C M Q pc L S σ :=
  fun X hX => hX pc L S σ (mm_one_mono hC (fun _ _ z => z) (fun _ _ _ _ z => z X hX) pc L S σ h)
theorem mm_ink {Y : mm_Y} {C : mm_C} {M : mm_M} {Q : mm_Q} (hC : mm_mono C) : ∀ (n pc : Nat) (L : List (Option Value)) (S : List Value) (σ : mm_S), mm_run Y C M Q (mm_W Y C M Q) n pc L S σ → mm_W Y C M Q pc L S σ
  | 0, _, _, _, _, h => h
  | n + 1, pc, L, S, σ, h => mm_in hC (mm_one_mono hC (fun _ _ z => z) (mm_ink hC n) pc L S σ h)
theorem mm_D_mono {Y : mm_Y} {B : mm_C} {mx : Nat → Nat} (hB : mm_mono B) : ∀ d, mm_mono (mm_D Y B mx d)
  | 0 => hB
  | d + 1 => fun y as σ Q Q' hq h => h.elim (fun h => Or.inl (hB y as σ Q Q' hq h)) (fun h => Or.inr ⟨h.1, mm_W_mono (mm_D_mono hB d) hq h.2⟩)
theorem mm_call_C {Y : mm_Y} {C C' : mm_C} {M : mm_M} {idx self : Nat} {S : List Value} {σ : mm_S} {K : List Value → mm_S → Prop} (hC : ∀ y as σ Q, C y as σ Q → C' y as σ Q) : mm_call Y C M idx self S σ K → mm_call Y C' M idx self S σ K := by
  unfold mm_call
  split
  · split
    · split
      · exact hC _ _ _ _
      · exact id
    · exact id
  · exact id
theorem mm_one_C {Y : mm_Y} {C C' : mm_C} {M : mm_M} {Q : mm_Q} {X : mm_X} (hC : ∀ y as σ Q, C y as σ Q → C' y as σ Q) : ∀ pc L S σ, mm_one Y C M Q X pc L S σ → mm_one Y C' M Q X pc L S σ := by
  intro pc L S σ h
  unfold mm_one at h ⊢
  cases hI : mm_look M.1 pc with
  | none => simp only [hI] at h
  | some q =>
    obtain ⟨i, len, t, c⟩ := q
    simp only [hI] at h ⊢
    cases i
    all_goals first
      | exact h
      | exact mm_call_C hC h
theorem mm_W_C {Y : mm_Y} {C C' : mm_C} {M : mm_M} {Q : mm_Q} (hC : ∀ y as σ Q, C y as σ Q → C' y as σ Q) {pc : Nat} {L : List (Option Value)} {S : List Value} {σ : mm_S} (h : mm_W Y C M Q pc L S σ) : mm_W Y C' M Q pc L S σ :=
  fun X hX => h X (fun pc L S σ q => hX pc L S σ (mm_one_C hC pc L S σ q))
theorem mm_D_1 {Y : mm_Y} {B : mm_C} {mx : Nat → Nat} : ∀ d y as σ Q, mm_D Y B mx d y as σ Q → mm_D Y B mx (d + 1) y as σ Q
  | 0, _, _, _, _, h => Or.inl h
  | d + 1, _, _, _, _, h => h.elim Or.inl (fun h => Or.inr ⟨h.1, mm_W_C (mm_D_1 d) h.2⟩)
theorem mm_D_le {Y : mm_Y} {B : mm_C} {mx : Nat → Nat} {d e : Nat} (h : d ≤ e) : ∀ y as σ Q, mm_D Y B mx d y as σ Q → mm_D Y B mx e y as σ Q := by
  induction h with
  | refl => exact fun _ _ _ _ z => z
  | step _ ih => exact fun y as σ Q z => mm_D_1 _ y as σ Q (ih y as σ Q z)
end MMmono
