-- A METHOD'S BODY AGAINST A FUNCTION: SW says that from here the machine comes to the method's end with the state and the answer E
def zQ {σ : Type} (A : Nat → Prop) (Rep : σ → Heap → Prop) (E : σ × Option Value) : Array Value → State → Outcome → State → Prop := fun _ st o t => o = .returned E.2 ∧ Rep E.1 t.heap ∧ va_F A st t
def zFp {σ : Type} (S : σ) (e : Int32) : σ × Option Value := (S, some (.int e))
def zFi {σ : Type} (r : σ × Int32) : σ × Option Value := (r.1, some (.int r.2))
def zFpl {σ : Type} (S : σ) (e : Int64) : σ × Option Value := (S, some (.long e))
def zFil {σ : Type} (r : σ × Int64) : σ × Option Value := (r.1, some (.long r.2))
def zFv {σ : Type} (S : σ) : σ × Option Value := (S, none)
def zPre {σ : Type} (argsL : List Value) (D : va_G) (cl : List vw_C) (tys : List (ClassId × FieldType)) (A : Nat → Prop) (Rep : σ → Heap → Prop) (S : σ) : Array Value → State → Prop := va_Pc argsL (fun U => Rep S U.heap ∧ va_K D cl tys U ∧ ∀ q, U.heap.size ≤ q → A q)
/-- a contract: the method brings the state S to E.1 and answers E.2; what it makes is what the cost has grown by -/
def zMet {σ : Type} (l : Launch) (y : MethodName) (ws : List Cond) (fr lo : Nat) (argsL : List Value) (D : va_G) (cl : List vw_C) (tys : List (ClassId × FieldType)) (A : Nat → Prop) (Rep : σ → Heap → Prop) (fc fs : σ → Nat) (S : σ) (E : σ × Option Value) : Prop :=
  fc S ≤ fc E.1 ∧ fs S ≤ fs E.1 ∧ Met l y ws { frames := fr, cells := fc E.1 - fc S, slots := fs E.1 - fs S, locals := lo } (zPre argsL D cl tys A Rep S) (zQ A Rep E) (fc E.1 - fc S) (fs E.1 - fs S) A
theorem zPre_blind {σ : Type} {argsL : List Value} {D : va_G} {cl : List vw_C} {tys : List (ClassId × FieldType)} {A : Nat → Prop} {Rep : σ → Heap → Prop} {S : σ} : FrameBlind (zPre argsL D cl tys A Rep S) := fun a U g mk q => by
  obtain ⟨q0, qR, qK, qA⟩ := q
  exact ⟨q0, qR, va_K.moved (u := U) (U := U.calling g mk a) (Vm.Alike.refl U.vm) qK, qA⟩
section ZSW
variable {p : Program} {l : Launch} {e : Env} {R : Room} {s : State} {m : MethodId} {args : Array Value} {below : List Frame} {meth : Method} {c : Code} {nL : Nat} {A : Nat → Prop} {σ : Type} {Rep : σ → Heap → Prop} {fc fs : σ → Nat} {cc : ByteArray} {T : List zTr}
def SW (p : Program) (l : Launch) (e : Env) (R : Room) (s : State) (m : MethodId) (args : Array Value) (below : List Frame) (meth : Method) (c : Code) (nL : Nat) (A : Nat → Prop) {σ : Type} (Rep : σ → Heap → Prop) (fc fs : σ → Nat) (S : σ) (pc : Nat) (lv : zLv) (st : List Value) (E : σ × Option Value) : Prop :=
  fc S ≤ fc E.1 ∧ fs S ≤ fs E.1 ∧ ∀ (H : Heap) (locs : List Loc) (cells slots : Nat) (ls : Array Slot), Rep S H → va_S A s.heap H locs → cells + fc E.1 ≤ R.cells + fc S → slots + fs E.1 ≤ R.slots + fs S → lv_has ls nL lv →
    W p l e R s m args below meth c H locs cells slots (MQ below (zQ A Rep E) args s R.cells R.slots A) (F0 m pc ls st)
variable {S : σ} {pc : Nat} {lv : zLv} {st rest : List Value} {E : σ × Option Value}
/-- what every rule needs of the method -/
def zC (p : Program) (s : State) (m : MethodId) (args : Array Value) (meth : Method) (c : Code) (cc : ByteArray) (nL : Nat) (own : String) (Ts : List Cond) (T : List zTr) (ret : Option FieldType) : Prop :=
  p.tables.exec = Jvm.exec ∧ c.code = cc ∧ c.maxLocals = nL ∧ s.vm.findClass own = some m.cls ∧ (∀ w ∈ Ts, w.before args s = true) ∧ zTok cc nL T ∧ meth.sig.returnType = ret ∧ meth.locks = false
variable {own : String} {Ts : List Cond} {ret : Option FieldType}
theorem sw_go (C0 : zC p s m args meth c cc nL own Ts T ret) (n : Nat) {pc' : Nat} {lv' : zLv} {st' : List Value} (h : zrun T n pc lv st = some (pc', lv', st')) (k : SW p l e R s m args below meth c nL A Rep fc fs S pc' lv' st' E) : SW p l e R s m args below meth c nL A Rep fc fs S pc lv st E := by
  obtain ⟨hx, hb, hml, hown, hts, hT, hr, hlocks⟩ := C0
  exact ⟨k.1, k.2.1, fun H locs cells slots ls h1 h2 h3 h4 h5 => zrun_ok hx hb hT n pc lv st h h5 (fun ls' hl' => k.2.2 H locs cells slots ls' h1 h2 h3 h4 hl')⟩
theorem sw_sub {lv' : zLv} (h : ∀ q ∈ lv', q ∈ lv) (k : SW p l e R s m args below meth c nL A Rep fc fs S pc lv' st E) : SW p l e R s m args below meth c nL A Rep fc fs S pc lv st E :=
  ⟨k.1, k.2.1, fun H locs cells slots ls h1 h2 h3 h4 h5 => k.2.2 H locs cells slots ls h1 h2 h3 h4 (zh_sub h5 h)⟩
theorem sw_nm {ρ α : Type} (F : ρ → σ × Option Value) {x : α} {V : α → Value} {K : α → ρ} (k : ∀ v : α, v = x → SW p l e R s m args below meth c nL A Rep fc fs S pc lv (V v :: rest) (F (K v))) : SW p l e R s m args below meth c nL A Rep fc fs S pc lv (V x :: rest) (F (zbind x K)) := k x rfl
/-- either way -/
theorem sw_if {ρ : Type} (F : ρ → σ × Option Value) {b : Prop} [Decidable b] {r1 r2 : ρ} (kt : b → SW p l e R s m args below meth c nL A Rep fc fs S pc lv st (F r1)) (kf : ¬ b → SW p l e R s m args below meth c nL A Rep fc fs S pc lv st (F r2)) : SW p l e R s m args below meth c nL A Rep fc fs S pc lv st (F (if b then r1 else r2)) := by
  by_cases h : b
  · rw [if_pos h]; exact kt h
  · rw [if_neg h]; exact kf h
theorem sw_W (k : SW p l e R s m args below meth c nL A Rep fc fs S pc lv st E) {pc2 : Nat} {lv2 : zLv} {st2 : List Value} (h : ∀ (H : Heap) (locs : List Loc) (cells slots : Nat) (ls : Array Slot), lv_has ls nL lv2 → (lv_has ls nL lv → W p l e R s m args below meth c H locs cells slots (MQ below (zQ A Rep E) args s R.cells R.slots A) (F0 m pc ls st)) → W p l e R s m args below meth c H locs cells slots (MQ below (zQ A Rep E) args s R.cells R.slots A) (F0 m pc2 ls st2)) : SW p l e R s m args below meth c nL A Rep fc fs S pc2 lv2 st2 E :=
  ⟨k.1, k.2.1, fun H locs cells slots ls h1 h2 h3 h4 h5 => h H locs cells slots ls h5 (fun h6 => k.2.2 H locs cells slots ls h1 h2 h3 h4 h6)⟩
theorem zok_jmp {i : Jvm.ClassFile.Instr} {len tgt nL pc : Nat} {v : Int32} {o : Int} (h : zokb cc nL (pc, i, len, tgt, v) = true) (hi : (∃ q, i = .ifCond q o) ∨ (∃ q, i = .if_icmp q o)) : decode cc pc = .ok (i, 3) ∧ (pc : Int) + o = (tgt : Int) := by
  unfold zokb at h
  rw [Bool.and_eq_true] at h
  obtain ⟨hd, ho⟩ := h
  have hd := of_decide_eq_true hd
  dsimp only at hd ho
  rcases hi with ⟨q, rfl⟩ | ⟨q, rfl⟩
  · dsimp only at ho
    rw [Bool.and_eq_true] at ho
    have := eq_of_beq ho.1; subst this
    exact ⟨hd, of_decide_eq_true ho.2⟩
  · dsimp only at ho
    rw [Bool.and_eq_true] at ho
    have := eq_of_beq ho.1; subst this
    exact ⟨hd, of_decide_eq_true ho.2⟩
/-- the same, where the function may answer nothing: then nothing is said -/
def SO (p : Program) (l : Launch) (e : Env) (R : Room) (s : State) (m : MethodId) (args : Array Value) (below : List Frame) (meth : Method) (c : Code) (nL : Nat) (A : Nat → Prop) {σ : Type} (Rep : σ → Heap → Prop) (fc fs : σ → Nat) (S : σ) (pc : Nat) (lv : zLv) (st : List Value) {ρ : Type} (F : ρ → σ × Option Value) (x : Option ρ) : Prop :=
  ∀ r : ρ, x = some r → SW p l e R s m args below meth c nL A Rep fc fs S pc lv st (F r)
def zob {α β : Type} (x : Option α) (k : α → Option β) : Option β := match x with
  | none => none
  | some a => k a
def zob2 {α β γ : Type} (x : Option (α × β)) (k : α → β → Option γ) : Option γ := match x with
  | none => none
  | some a => k a.1 a.2
theorem so_go {ρ : Type} {F : ρ → σ × Option Value} {x : Option ρ} (C0 : zC p s m args meth c cc nL own Ts T ret) (n : Nat) {pc' : Nat} {lv' : zLv} {st' : List Value} (h : zrun T n pc lv st = some (pc', lv', st')) (k : SO p l e R s m args below meth c nL A Rep fc fs S pc' lv' st' F x) : SO p l e R s m args below meth c nL A Rep fc fs S pc lv st F x := fun r hr => sw_go C0 n h (k r hr)
theorem so_sub {ρ : Type} {F : ρ → σ × Option Value} {x : Option ρ} {lv' : zLv} (h : ∀ q ∈ lv', q ∈ lv) (k : SO p l e R s m args below meth c nL A Rep fc fs S pc lv' st F x) : SO p l e R s m args below meth c nL A Rep fc fs S pc lv st F x := fun r hr => sw_sub h (k r hr)
theorem so_nm {ρ α : Type} {F : ρ → σ × Option Value} {x : α} {V : α → Value} {K : α → Option ρ} (k : ∀ v : α, v = x → SO p l e R s m args below meth c nL A Rep fc fs S pc lv (V v :: rest) F (K v)) : SO p l e R s m args below meth c nL A Rep fc fs S pc lv (V x :: rest) F (zbind x K) := k x rfl
theorem so_none {ρ : Type} {F : ρ → σ × Option Value} : SO p l e R s m args below meth c nL A Rep fc fs S pc lv st F none := fun r hr => by cases hr
theorem sw_icmp_eqT (C0 : zC p s m args meth c cc nL own Ts T ret) {x y : Int32} {o : Int} {tgt : Nat} {v : Int32} (hq : T.lookup pc = some (.if_icmp .eq o, 3, tgt, v)) (h : x = y) (kt : SW p l e R s m args below meth c nL A Rep fc fs S tgt lv rest E) : SW p l e R s m args below meth c nL A Rep fc fs S pc lv (.int y :: .int x :: rest) E := by
  obtain ⟨hx, hb, hml, hown, hts, hT, hr, hlocks⟩ := C0
  obtain ⟨hd, ht⟩ := zok_jmp (hT.at hq) (Or.inr ⟨_, rfl⟩)
  exact sw_W kt (fun H locs cells slots ls h5 k => lv_icmp_eq hx hb hd ht (fun _ => k h5) (fun h' => absurd h h'))
theorem sw_icmp_eqF (C0 : zC p s m args meth c cc nL own Ts T ret) {x y : Int32} {o : Int} {tgt : Nat} {v : Int32} (hq : T.lookup pc = some (.if_icmp .eq o, 3, tgt, v)) (h : ¬ (x = y)) (kf : SW p l e R s m args below meth c nL A Rep fc fs S (pc + 3) lv rest E) : SW p l e R s m args below meth c nL A Rep fc fs S pc lv (.int y :: .int x :: rest) E := by
  obtain ⟨hx, hb, hml, hown, hts, hT, hr, hlocks⟩ := C0
  obtain ⟨hd, ht⟩ := zok_jmp (hT.at hq) (Or.inr ⟨_, rfl⟩)
  exact sw_W kf (fun H locs cells slots ls h5 k => lv_icmp_eq hx hb hd ht (fun h' => absurd h' h) (fun _ => k h5))
theorem sw_icmp_eq {ρ : Type} (F : ρ → σ × Option Value) {r1 r2 : ρ} (C0 : zC p s m args meth c cc nL own Ts T ret) {x y : Int32} {o : Int} {tgt : Nat} {v : Int32} (hq : T.lookup pc = some (.if_icmp .eq o, 3, tgt, v)) (kt : x = y → SW p l e R s m args below meth c nL A Rep fc fs S tgt lv rest (F r1)) (kf : ¬ (x = y) → SW p l e R s m args below meth c nL A Rep fc fs S (pc + 3) lv rest (F r2)) : SW p l e R s m args below meth c nL A Rep fc fs S pc lv (.int y :: .int x :: rest) (F (if x = y then r1 else r2)) :=
  sw_if F (fun h => sw_icmp_eqT C0 hq h (kt h)) (fun h => sw_icmp_eqF C0 hq h (kf h))
theorem so_icmp_eq {ρ : Type} {F : ρ → σ × Option Value} {r1 r2 : Option ρ} (C0 : zC p s m args meth c cc nL own Ts T ret) {x y : Int32} {o : Int} {tgt : Nat} {v : Int32} (hq : T.lookup pc = some (.if_icmp .eq o, 3, tgt, v)) (kt : x = y → SO p l e R s m args below meth c nL A Rep fc fs S tgt lv rest F r1) (kf : ¬ (x = y) → SO p l e R s m args below meth c nL A Rep fc fs S (pc + 3) lv rest F r2) : SO p l e R s m args below meth c nL A Rep fc fs S pc lv (.int y :: .int x :: rest) F (if x = y then r1 else r2) := by
  intro r hr
  by_cases h : x = y
  · rw [if_pos h] at hr
    exact sw_icmp_eqT C0 hq h (kt h r hr)
  · rw [if_neg h] at hr
    exact sw_icmp_eqF C0 hq h (kf h r hr)
theorem so_icmp_eqT {ρ : Type} {F : ρ → σ × Option Value} {w : Option ρ} (C0 : zC p s m args meth c cc nL own Ts T ret) {x y : Int32} {o : Int} {tgt : Nat} {v : Int32} (hq : T.lookup pc = some (.if_icmp .eq o, 3, tgt, v)) (h : x = y) (kt : SO p l e R s m args below meth c nL A Rep fc fs S tgt lv rest F w) : SO p l e R s m args below meth c nL A Rep fc fs S pc lv (.int y :: .int x :: rest) F w := fun r hr => sw_icmp_eqT C0 hq h (kt r hr)
theorem so_icmp_eqF {ρ : Type} {F : ρ → σ × Option Value} {w : Option ρ} (C0 : zC p s m args meth c cc nL own Ts T ret) {x y : Int32} {o : Int} {tgt : Nat} {v : Int32} (hq : T.lookup pc = some (.if_icmp .eq o, 3, tgt, v)) (h : ¬ (x = y)) (kf : SO p l e R s m args below meth c nL A Rep fc fs S (pc + 3) lv rest F w) : SO p l e R s m args below meth c nL A Rep fc fs S pc lv (.int y :: .int x :: rest) F w := fun r hr => sw_icmp_eqF C0 hq h (kf r hr)
theorem sw_icmp_neT (C0 : zC p s m args meth c cc nL own Ts T ret) {x y : Int32} {o : Int} {tgt : Nat} {v : Int32} (hq : T.lookup pc = some (.if_icmp .ne o, 3, tgt, v)) (h : ¬ x = y) (kt : SW p l e R s m args below meth c nL A Rep fc fs S tgt lv rest E) : SW p l e R s m args below meth c nL A Rep fc fs S pc lv (.int y :: .int x :: rest) E := by
  obtain ⟨hx, hb, hml, hown, hts, hT, hr, hlocks⟩ := C0
  obtain ⟨hd, ht⟩ := zok_jmp (hT.at hq) (Or.inr ⟨_, rfl⟩)
  exact sw_W kt (fun H locs cells slots ls h5 k => lv_icmp_ne hx hb hd ht (fun _ => k h5) (fun h' => absurd h' h))
theorem sw_icmp_neF (C0 : zC p s m args meth c cc nL own Ts T ret) {x y : Int32} {o : Int} {tgt : Nat} {v : Int32} (hq : T.lookup pc = some (.if_icmp .ne o, 3, tgt, v)) (h : ¬ (¬ x = y)) (kf : SW p l e R s m args below meth c nL A Rep fc fs S (pc + 3) lv rest E) : SW p l e R s m args below meth c nL A Rep fc fs S pc lv (.int y :: .int x :: rest) E := by
  obtain ⟨hx, hb, hml, hown, hts, hT, hr, hlocks⟩ := C0
  obtain ⟨hd, ht⟩ := zok_jmp (hT.at hq) (Or.inr ⟨_, rfl⟩)
  exact sw_W kf (fun H locs cells slots ls h5 k => lv_icmp_ne hx hb hd ht (fun h' => absurd h' h) (fun _ => k h5))
theorem sw_icmp_ne {ρ : Type} (F : ρ → σ × Option Value) {r1 r2 : ρ} (C0 : zC p s m args meth c cc nL own Ts T ret) {x y : Int32} {o : Int} {tgt : Nat} {v : Int32} (hq : T.lookup pc = some (.if_icmp .ne o, 3, tgt, v)) (kt : ¬ x = y → SW p l e R s m args below meth c nL A Rep fc fs S tgt lv rest (F r1)) (kf : ¬ (¬ x = y) → SW p l e R s m args below meth c nL A Rep fc fs S (pc + 3) lv rest (F r2)) : SW p l e R s m args below meth c nL A Rep fc fs S pc lv (.int y :: .int x :: rest) (F (if ¬ x = y then r1 else r2)) :=
  sw_if F (fun h => sw_icmp_neT C0 hq h (kt h)) (fun h => sw_icmp_neF C0 hq h (kf h))
theorem so_icmp_ne {ρ : Type} {F : ρ → σ × Option Value} {r1 r2 : Option ρ} (C0 : zC p s m args meth c cc nL own Ts T ret) {x y : Int32} {o : Int} {tgt : Nat} {v : Int32} (hq : T.lookup pc = some (.if_icmp .ne o, 3, tgt, v)) (kt : ¬ x = y → SO p l e R s m args below meth c nL A Rep fc fs S tgt lv rest F r1) (kf : ¬ (¬ x = y) → SO p l e R s m args below meth c nL A Rep fc fs S (pc + 3) lv rest F r2) : SO p l e R s m args below meth c nL A Rep fc fs S pc lv (.int y :: .int x :: rest) F (if ¬ x = y then r1 else r2) := by
  intro r hr
  by_cases h : ¬ x = y
  · rw [if_pos h] at hr
    exact sw_icmp_neT C0 hq h (kt h r hr)
  · rw [if_neg h] at hr
    exact sw_icmp_neF C0 hq h (kf h r hr)
theorem so_icmp_neT {ρ : Type} {F : ρ → σ × Option Value} {w : Option ρ} (C0 : zC p s m args meth c cc nL own Ts T ret) {x y : Int32} {o : Int} {tgt : Nat} {v : Int32} (hq : T.lookup pc = some (.if_icmp .ne o, 3, tgt, v)) (h : ¬ x = y) (kt : SO p l e R s m args below meth c nL A Rep fc fs S tgt lv rest F w) : SO p l e R s m args below meth c nL A Rep fc fs S pc lv (.int y :: .int x :: rest) F w := fun r hr => sw_icmp_neT C0 hq h (kt r hr)
theorem so_icmp_neF {ρ : Type} {F : ρ → σ × Option Value} {w : Option ρ} (C0 : zC p s m args meth c cc nL own Ts T ret) {x y : Int32} {o : Int} {tgt : Nat} {v : Int32} (hq : T.lookup pc = some (.if_icmp .ne o, 3, tgt, v)) (h : ¬ (¬ x = y)) (kf : SO p l e R s m args below meth c nL A Rep fc fs S (pc + 3) lv rest F w) : SO p l e R s m args below meth c nL A Rep fc fs S pc lv (.int y :: .int x :: rest) F w := fun r hr => sw_icmp_neF C0 hq h (kf r hr)
theorem sw_icmp_ltT (C0 : zC p s m args meth c cc nL own Ts T ret) {x y : Int32} {o : Int} {tgt : Nat} {v : Int32} (hq : T.lookup pc = some (.if_icmp .lt o, 3, tgt, v)) (h : x < y) (kt : SW p l e R s m args below meth c nL A Rep fc fs S tgt lv rest E) : SW p l e R s m args below meth c nL A Rep fc fs S pc lv (.int y :: .int x :: rest) E := by
  obtain ⟨hx, hb, hml, hown, hts, hT, hr, hlocks⟩ := C0
  obtain ⟨hd, ht⟩ := zok_jmp (hT.at hq) (Or.inr ⟨_, rfl⟩)
  exact sw_W kt (fun H locs cells slots ls h5 k => lv_icmp_lt hx hb hd ht (fun _ => k h5) (fun h' => absurd h h'))
theorem sw_icmp_ltF (C0 : zC p s m args meth c cc nL own Ts T ret) {x y : Int32} {o : Int} {tgt : Nat} {v : Int32} (hq : T.lookup pc = some (.if_icmp .lt o, 3, tgt, v)) (h : ¬ (x < y)) (kf : SW p l e R s m args below meth c nL A Rep fc fs S (pc + 3) lv rest E) : SW p l e R s m args below meth c nL A Rep fc fs S pc lv (.int y :: .int x :: rest) E := by
  obtain ⟨hx, hb, hml, hown, hts, hT, hr, hlocks⟩ := C0
  obtain ⟨hd, ht⟩ := zok_jmp (hT.at hq) (Or.inr ⟨_, rfl⟩)
  exact sw_W kf (fun H locs cells slots ls h5 k => lv_icmp_lt hx hb hd ht (fun h' => absurd h' h) (fun _ => k h5))
theorem sw_icmp_lt {ρ : Type} (F : ρ → σ × Option Value) {r1 r2 : ρ} (C0 : zC p s m args meth c cc nL own Ts T ret) {x y : Int32} {o : Int} {tgt : Nat} {v : Int32} (hq : T.lookup pc = some (.if_icmp .lt o, 3, tgt, v)) (kt : x < y → SW p l e R s m args below meth c nL A Rep fc fs S tgt lv rest (F r1)) (kf : ¬ (x < y) → SW p l e R s m args below meth c nL A Rep fc fs S (pc + 3) lv rest (F r2)) : SW p l e R s m args below meth c nL A Rep fc fs S pc lv (.int y :: .int x :: rest) (F (if x < y then r1 else r2)) :=
  sw_if F (fun h => sw_icmp_ltT C0 hq h (kt h)) (fun h => sw_icmp_ltF C0 hq h (kf h))
theorem so_icmp_lt {ρ : Type} {F : ρ → σ × Option Value} {r1 r2 : Option ρ} (C0 : zC p s m args meth c cc nL own Ts T ret) {x y : Int32} {o : Int} {tgt : Nat} {v : Int32} (hq : T.lookup pc = some (.if_icmp .lt o, 3, tgt, v)) (kt : x < y → SO p l e R s m args below meth c nL A Rep fc fs S tgt lv rest F r1) (kf : ¬ (x < y) → SO p l e R s m args below meth c nL A Rep fc fs S (pc + 3) lv rest F r2) : SO p l e R s m args below meth c nL A Rep fc fs S pc lv (.int y :: .int x :: rest) F (if x < y then r1 else r2) := by
  intro r hr
  by_cases h : x < y
  · rw [if_pos h] at hr
    exact sw_icmp_ltT C0 hq h (kt h r hr)
  · rw [if_neg h] at hr
    exact sw_icmp_ltF C0 hq h (kf h r hr)
theorem so_icmp_ltT {ρ : Type} {F : ρ → σ × Option Value} {w : Option ρ} (C0 : zC p s m args meth c cc nL own Ts T ret) {x y : Int32} {o : Int} {tgt : Nat} {v : Int32} (hq : T.lookup pc = some (.if_icmp .lt o, 3, tgt, v)) (h : x < y) (kt : SO p l e R s m args below meth c nL A Rep fc fs S tgt lv rest F w) : SO p l e R s m args below meth c nL A Rep fc fs S pc lv (.int y :: .int x :: rest) F w := fun r hr => sw_icmp_ltT C0 hq h (kt r hr)
theorem so_icmp_ltF {ρ : Type} {F : ρ → σ × Option Value} {w : Option ρ} (C0 : zC p s m args meth c cc nL own Ts T ret) {x y : Int32} {o : Int} {tgt : Nat} {v : Int32} (hq : T.lookup pc = some (.if_icmp .lt o, 3, tgt, v)) (h : ¬ (x < y)) (kf : SO p l e R s m args below meth c nL A Rep fc fs S (pc + 3) lv rest F w) : SO p l e R s m args below meth c nL A Rep fc fs S pc lv (.int y :: .int x :: rest) F w := fun r hr => sw_icmp_ltF C0 hq h (kf r hr)
theorem sw_icmp_geT (C0 : zC p s m args meth c cc nL own Ts T ret) {x y : Int32} {o : Int} {tgt : Nat} {v : Int32} (hq : T.lookup pc = some (.if_icmp .ge o, 3, tgt, v)) (h : y ≤ x) (kt : SW p l e R s m args below meth c nL A Rep fc fs S tgt lv rest E) : SW p l e R s m args below meth c nL A Rep fc fs S pc lv (.int y :: .int x :: rest) E := by
  obtain ⟨hx, hb, hml, hown, hts, hT, hr, hlocks⟩ := C0
  obtain ⟨hd, ht⟩ := zok_jmp (hT.at hq) (Or.inr ⟨_, rfl⟩)
  exact sw_W kt (fun H locs cells slots ls h5 k => lv_icmp_ge hx hb hd ht (fun _ => k h5) (fun h' => absurd h h'))
theorem sw_icmp_geF (C0 : zC p s m args meth c cc nL own Ts T ret) {x y : Int32} {o : Int} {tgt : Nat} {v : Int32} (hq : T.lookup pc = some (.if_icmp .ge o, 3, tgt, v)) (h : ¬ (y ≤ x)) (kf : SW p l e R s m args below meth c nL A Rep fc fs S (pc + 3) lv rest E) : SW p l e R s m args below meth c nL A Rep fc fs S pc lv (.int y :: .int x :: rest) E := by
  obtain ⟨hx, hb, hml, hown, hts, hT, hr, hlocks⟩ := C0
  obtain ⟨hd, ht⟩ := zok_jmp (hT.at hq) (Or.inr ⟨_, rfl⟩)
  exact sw_W kf (fun H locs cells slots ls h5 k => lv_icmp_ge hx hb hd ht (fun h' => absurd h' h) (fun _ => k h5))
theorem sw_icmp_ge {ρ : Type} (F : ρ → σ × Option Value) {r1 r2 : ρ} (C0 : zC p s m args meth c cc nL own Ts T ret) {x y : Int32} {o : Int} {tgt : Nat} {v : Int32} (hq : T.lookup pc = some (.if_icmp .ge o, 3, tgt, v)) (kt : y ≤ x → SW p l e R s m args below meth c nL A Rep fc fs S tgt lv rest (F r1)) (kf : ¬ (y ≤ x) → SW p l e R s m args below meth c nL A Rep fc fs S (pc + 3) lv rest (F r2)) : SW p l e R s m args below meth c nL A Rep fc fs S pc lv (.int y :: .int x :: rest) (F (if y ≤ x then r1 else r2)) :=
  sw_if F (fun h => sw_icmp_geT C0 hq h (kt h)) (fun h => sw_icmp_geF C0 hq h (kf h))
theorem so_icmp_ge {ρ : Type} {F : ρ → σ × Option Value} {r1 r2 : Option ρ} (C0 : zC p s m args meth c cc nL own Ts T ret) {x y : Int32} {o : Int} {tgt : Nat} {v : Int32} (hq : T.lookup pc = some (.if_icmp .ge o, 3, tgt, v)) (kt : y ≤ x → SO p l e R s m args below meth c nL A Rep fc fs S tgt lv rest F r1) (kf : ¬ (y ≤ x) → SO p l e R s m args below meth c nL A Rep fc fs S (pc + 3) lv rest F r2) : SO p l e R s m args below meth c nL A Rep fc fs S pc lv (.int y :: .int x :: rest) F (if y ≤ x then r1 else r2) := by
  intro r hr
  by_cases h : y ≤ x
  · rw [if_pos h] at hr
    exact sw_icmp_geT C0 hq h (kt h r hr)
  · rw [if_neg h] at hr
    exact sw_icmp_geF C0 hq h (kf h r hr)
theorem so_icmp_geT {ρ : Type} {F : ρ → σ × Option Value} {w : Option ρ} (C0 : zC p s m args meth c cc nL own Ts T ret) {x y : Int32} {o : Int} {tgt : Nat} {v : Int32} (hq : T.lookup pc = some (.if_icmp .ge o, 3, tgt, v)) (h : y ≤ x) (kt : SO p l e R s m args below meth c nL A Rep fc fs S tgt lv rest F w) : SO p l e R s m args below meth c nL A Rep fc fs S pc lv (.int y :: .int x :: rest) F w := fun r hr => sw_icmp_geT C0 hq h (kt r hr)
theorem so_icmp_geF {ρ : Type} {F : ρ → σ × Option Value} {w : Option ρ} (C0 : zC p s m args meth c cc nL own Ts T ret) {x y : Int32} {o : Int} {tgt : Nat} {v : Int32} (hq : T.lookup pc = some (.if_icmp .ge o, 3, tgt, v)) (h : ¬ (y ≤ x)) (kf : SO p l e R s m args below meth c nL A Rep fc fs S (pc + 3) lv rest F w) : SO p l e R s m args below meth c nL A Rep fc fs S pc lv (.int y :: .int x :: rest) F w := fun r hr => sw_icmp_geF C0 hq h (kf r hr)
theorem sw_icmp_gtT (C0 : zC p s m args meth c cc nL own Ts T ret) {x y : Int32} {o : Int} {tgt : Nat} {v : Int32} (hq : T.lookup pc = some (.if_icmp .gt o, 3, tgt, v)) (h : y < x) (kt : SW p l e R s m args below meth c nL A Rep fc fs S tgt lv rest E) : SW p l e R s m args below meth c nL A Rep fc fs S pc lv (.int y :: .int x :: rest) E := by
  obtain ⟨hx, hb, hml, hown, hts, hT, hr, hlocks⟩ := C0
  obtain ⟨hd, ht⟩ := zok_jmp (hT.at hq) (Or.inr ⟨_, rfl⟩)
  exact sw_W kt (fun H locs cells slots ls h5 k => lv_icmp_gt hx hb hd ht (fun _ => k h5) (fun h' => absurd h h'))
theorem sw_icmp_gtF (C0 : zC p s m args meth c cc nL own Ts T ret) {x y : Int32} {o : Int} {tgt : Nat} {v : Int32} (hq : T.lookup pc = some (.if_icmp .gt o, 3, tgt, v)) (h : ¬ (y < x)) (kf : SW p l e R s m args below meth c nL A Rep fc fs S (pc + 3) lv rest E) : SW p l e R s m args below meth c nL A Rep fc fs S pc lv (.int y :: .int x :: rest) E := by
  obtain ⟨hx, hb, hml, hown, hts, hT, hr, hlocks⟩ := C0
  obtain ⟨hd, ht⟩ := zok_jmp (hT.at hq) (Or.inr ⟨_, rfl⟩)
  exact sw_W kf (fun H locs cells slots ls h5 k => lv_icmp_gt hx hb hd ht (fun h' => absurd h' h) (fun _ => k h5))
theorem sw_icmp_gt {ρ : Type} (F : ρ → σ × Option Value) {r1 r2 : ρ} (C0 : zC p s m args meth c cc nL own Ts T ret) {x y : Int32} {o : Int} {tgt : Nat} {v : Int32} (hq : T.lookup pc = some (.if_icmp .gt o, 3, tgt, v)) (kt : y < x → SW p l e R s m args below meth c nL A Rep fc fs S tgt lv rest (F r1)) (kf : ¬ (y < x) → SW p l e R s m args below meth c nL A Rep fc fs S (pc + 3) lv rest (F r2)) : SW p l e R s m args below meth c nL A Rep fc fs S pc lv (.int y :: .int x :: rest) (F (if y < x then r1 else r2)) :=
  sw_if F (fun h => sw_icmp_gtT C0 hq h (kt h)) (fun h => sw_icmp_gtF C0 hq h (kf h))
theorem so_icmp_gt {ρ : Type} {F : ρ → σ × Option Value} {r1 r2 : Option ρ} (C0 : zC p s m args meth c cc nL own Ts T ret) {x y : Int32} {o : Int} {tgt : Nat} {v : Int32} (hq : T.lookup pc = some (.if_icmp .gt o, 3, tgt, v)) (kt : y < x → SO p l e R s m args below meth c nL A Rep fc fs S tgt lv rest F r1) (kf : ¬ (y < x) → SO p l e R s m args below meth c nL A Rep fc fs S (pc + 3) lv rest F r2) : SO p l e R s m args below meth c nL A Rep fc fs S pc lv (.int y :: .int x :: rest) F (if y < x then r1 else r2) := by
  intro r hr
  by_cases h : y < x
  · rw [if_pos h] at hr
    exact sw_icmp_gtT C0 hq h (kt h r hr)
  · rw [if_neg h] at hr
    exact sw_icmp_gtF C0 hq h (kf h r hr)
theorem so_icmp_gtT {ρ : Type} {F : ρ → σ × Option Value} {w : Option ρ} (C0 : zC p s m args meth c cc nL own Ts T ret) {x y : Int32} {o : Int} {tgt : Nat} {v : Int32} (hq : T.lookup pc = some (.if_icmp .gt o, 3, tgt, v)) (h : y < x) (kt : SO p l e R s m args below meth c nL A Rep fc fs S tgt lv rest F w) : SO p l e R s m args below meth c nL A Rep fc fs S pc lv (.int y :: .int x :: rest) F w := fun r hr => sw_icmp_gtT C0 hq h (kt r hr)
theorem so_icmp_gtF {ρ : Type} {F : ρ → σ × Option Value} {w : Option ρ} (C0 : zC p s m args meth c cc nL own Ts T ret) {x y : Int32} {o : Int} {tgt : Nat} {v : Int32} (hq : T.lookup pc = some (.if_icmp .gt o, 3, tgt, v)) (h : ¬ (y < x)) (kf : SO p l e R s m args below meth c nL A Rep fc fs S (pc + 3) lv rest F w) : SO p l e R s m args below meth c nL A Rep fc fs S pc lv (.int y :: .int x :: rest) F w := fun r hr => sw_icmp_gtF C0 hq h (kf r hr)
theorem sw_icmp_leT (C0 : zC p s m args meth c cc nL own Ts T ret) {x y : Int32} {o : Int} {tgt : Nat} {v : Int32} (hq : T.lookup pc = some (.if_icmp .le o, 3, tgt, v)) (h : x ≤ y) (kt : SW p l e R s m args below meth c nL A Rep fc fs S tgt lv rest E) : SW p l e R s m args below meth c nL A Rep fc fs S pc lv (.int y :: .int x :: rest) E := by
  obtain ⟨hx, hb, hml, hown, hts, hT, hr, hlocks⟩ := C0
  obtain ⟨hd, ht⟩ := zok_jmp (hT.at hq) (Or.inr ⟨_, rfl⟩)
  exact sw_W kt (fun H locs cells slots ls h5 k => lv_icmp_le hx hb hd ht (fun _ => k h5) (fun h' => absurd h h'))
theorem sw_icmp_leF (C0 : zC p s m args meth c cc nL own Ts T ret) {x y : Int32} {o : Int} {tgt : Nat} {v : Int32} (hq : T.lookup pc = some (.if_icmp .le o, 3, tgt, v)) (h : ¬ (x ≤ y)) (kf : SW p l e R s m args below meth c nL A Rep fc fs S (pc + 3) lv rest E) : SW p l e R s m args below meth c nL A Rep fc fs S pc lv (.int y :: .int x :: rest) E := by
  obtain ⟨hx, hb, hml, hown, hts, hT, hr, hlocks⟩ := C0
  obtain ⟨hd, ht⟩ := zok_jmp (hT.at hq) (Or.inr ⟨_, rfl⟩)
  exact sw_W kf (fun H locs cells slots ls h5 k => lv_icmp_le hx hb hd ht (fun h' => absurd h' h) (fun _ => k h5))
theorem sw_icmp_le {ρ : Type} (F : ρ → σ × Option Value) {r1 r2 : ρ} (C0 : zC p s m args meth c cc nL own Ts T ret) {x y : Int32} {o : Int} {tgt : Nat} {v : Int32} (hq : T.lookup pc = some (.if_icmp .le o, 3, tgt, v)) (kt : x ≤ y → SW p l e R s m args below meth c nL A Rep fc fs S tgt lv rest (F r1)) (kf : ¬ (x ≤ y) → SW p l e R s m args below meth c nL A Rep fc fs S (pc + 3) lv rest (F r2)) : SW p l e R s m args below meth c nL A Rep fc fs S pc lv (.int y :: .int x :: rest) (F (if x ≤ y then r1 else r2)) :=
  sw_if F (fun h => sw_icmp_leT C0 hq h (kt h)) (fun h => sw_icmp_leF C0 hq h (kf h))
theorem so_icmp_le {ρ : Type} {F : ρ → σ × Option Value} {r1 r2 : Option ρ} (C0 : zC p s m args meth c cc nL own Ts T ret) {x y : Int32} {o : Int} {tgt : Nat} {v : Int32} (hq : T.lookup pc = some (.if_icmp .le o, 3, tgt, v)) (kt : x ≤ y → SO p l e R s m args below meth c nL A Rep fc fs S tgt lv rest F r1) (kf : ¬ (x ≤ y) → SO p l e R s m args below meth c nL A Rep fc fs S (pc + 3) lv rest F r2) : SO p l e R s m args below meth c nL A Rep fc fs S pc lv (.int y :: .int x :: rest) F (if x ≤ y then r1 else r2) := by
  intro r hr
  by_cases h : x ≤ y
  · rw [if_pos h] at hr
    exact sw_icmp_leT C0 hq h (kt h r hr)
  · rw [if_neg h] at hr
    exact sw_icmp_leF C0 hq h (kf h r hr)
theorem so_icmp_leT {ρ : Type} {F : ρ → σ × Option Value} {w : Option ρ} (C0 : zC p s m args meth c cc nL own Ts T ret) {x y : Int32} {o : Int} {tgt : Nat} {v : Int32} (hq : T.lookup pc = some (.if_icmp .le o, 3, tgt, v)) (h : x ≤ y) (kt : SO p l e R s m args below meth c nL A Rep fc fs S tgt lv rest F w) : SO p l e R s m args below meth c nL A Rep fc fs S pc lv (.int y :: .int x :: rest) F w := fun r hr => sw_icmp_leT C0 hq h (kt r hr)
theorem so_icmp_leF {ρ : Type} {F : ρ → σ × Option Value} {w : Option ρ} (C0 : zC p s m args meth c cc nL own Ts T ret) {x y : Int32} {o : Int} {tgt : Nat} {v : Int32} (hq : T.lookup pc = some (.if_icmp .le o, 3, tgt, v)) (h : ¬ (x ≤ y)) (kf : SO p l e R s m args below meth c nL A Rep fc fs S (pc + 3) lv rest F w) : SO p l e R s m args below meth c nL A Rep fc fs S pc lv (.int y :: .int x :: rest) F w := fun r hr => sw_icmp_leF C0 hq h (kf r hr)
theorem sw_if_eqT (C0 : zC p s m args meth c cc nL own Ts T ret) {x : Int32} {o : Int} {tgt : Nat} {v : Int32} (hq : T.lookup pc = some (.ifCond .eq o, 3, tgt, v)) (h : x = 0) (kt : SW p l e R s m args below meth c nL A Rep fc fs S tgt lv rest E) : SW p l e R s m args below meth c nL A Rep fc fs S pc lv (.int x :: rest) E := by
  obtain ⟨hx, hb, hml, hown, hts, hT, hr, hlocks⟩ := C0
  obtain ⟨hd, ht⟩ := zok_jmp (hT.at hq) (Or.inl ⟨_, rfl⟩)
  exact sw_W kt (fun H locs cells slots ls h5 k => lv_if_eq hx hb hd ht (fun _ => k h5) (fun h' => absurd h h'))
theorem sw_if_eqF (C0 : zC p s m args meth c cc nL own Ts T ret) {x : Int32} {o : Int} {tgt : Nat} {v : Int32} (hq : T.lookup pc = some (.ifCond .eq o, 3, tgt, v)) (h : ¬ (x = 0)) (kf : SW p l e R s m args below meth c nL A Rep fc fs S (pc + 3) lv rest E) : SW p l e R s m args below meth c nL A Rep fc fs S pc lv (.int x :: rest) E := by
  obtain ⟨hx, hb, hml, hown, hts, hT, hr, hlocks⟩ := C0
  obtain ⟨hd, ht⟩ := zok_jmp (hT.at hq) (Or.inl ⟨_, rfl⟩)
  exact sw_W kf (fun H locs cells slots ls h5 k => lv_if_eq hx hb hd ht (fun h' => absurd h' h) (fun _ => k h5))
theorem sw_if_eq {ρ : Type} (F : ρ → σ × Option Value) {r1 r2 : ρ} (C0 : zC p s m args meth c cc nL own Ts T ret) {x : Int32} {o : Int} {tgt : Nat} {v : Int32} (hq : T.lookup pc = some (.ifCond .eq o, 3, tgt, v)) (kt : x = 0 → SW p l e R s m args below meth c nL A Rep fc fs S tgt lv rest (F r1)) (kf : ¬ (x = 0) → SW p l e R s m args below meth c nL A Rep fc fs S (pc + 3) lv rest (F r2)) : SW p l e R s m args below meth c nL A Rep fc fs S pc lv (.int x :: rest) (F (if x = 0 then r1 else r2)) :=
  sw_if F (fun h => sw_if_eqT C0 hq h (kt h)) (fun h => sw_if_eqF C0 hq h (kf h))
theorem so_if_eq {ρ : Type} {F : ρ → σ × Option Value} {r1 r2 : Option ρ} (C0 : zC p s m args meth c cc nL own Ts T ret) {x : Int32} {o : Int} {tgt : Nat} {v : Int32} (hq : T.lookup pc = some (.ifCond .eq o, 3, tgt, v)) (kt : x = 0 → SO p l e R s m args below meth c nL A Rep fc fs S tgt lv rest F r1) (kf : ¬ (x = 0) → SO p l e R s m args below meth c nL A Rep fc fs S (pc + 3) lv rest F r2) : SO p l e R s m args below meth c nL A Rep fc fs S pc lv (.int x :: rest) F (if x = 0 then r1 else r2) := by
  intro r hr
  by_cases h : x = 0
  · rw [if_pos h] at hr
    exact sw_if_eqT C0 hq h (kt h r hr)
  · rw [if_neg h] at hr
    exact sw_if_eqF C0 hq h (kf h r hr)
theorem so_if_eqT {ρ : Type} {F : ρ → σ × Option Value} {w : Option ρ} (C0 : zC p s m args meth c cc nL own Ts T ret) {x : Int32} {o : Int} {tgt : Nat} {v : Int32} (hq : T.lookup pc = some (.ifCond .eq o, 3, tgt, v)) (h : x = 0) (kt : SO p l e R s m args below meth c nL A Rep fc fs S tgt lv rest F w) : SO p l e R s m args below meth c nL A Rep fc fs S pc lv (.int x :: rest) F w := fun r hr => sw_if_eqT C0 hq h (kt r hr)
theorem so_if_eqF {ρ : Type} {F : ρ → σ × Option Value} {w : Option ρ} (C0 : zC p s m args meth c cc nL own Ts T ret) {x : Int32} {o : Int} {tgt : Nat} {v : Int32} (hq : T.lookup pc = some (.ifCond .eq o, 3, tgt, v)) (h : ¬ (x = 0)) (kf : SO p l e R s m args below meth c nL A Rep fc fs S (pc + 3) lv rest F w) : SO p l e R s m args below meth c nL A Rep fc fs S pc lv (.int x :: rest) F w := fun r hr => sw_if_eqF C0 hq h (kf r hr)
theorem sw_if_neT (C0 : zC p s m args meth c cc nL own Ts T ret) {x : Int32} {o : Int} {tgt : Nat} {v : Int32} (hq : T.lookup pc = some (.ifCond .ne o, 3, tgt, v)) (h : ¬ x = 0) (kt : SW p l e R s m args below meth c nL A Rep fc fs S tgt lv rest E) : SW p l e R s m args below meth c nL A Rep fc fs S pc lv (.int x :: rest) E := by
  obtain ⟨hx, hb, hml, hown, hts, hT, hr, hlocks⟩ := C0
  obtain ⟨hd, ht⟩ := zok_jmp (hT.at hq) (Or.inl ⟨_, rfl⟩)
  exact sw_W kt (fun H locs cells slots ls h5 k => lv_if_ne hx hb hd ht (fun _ => k h5) (fun h' => absurd h' h))
theorem sw_if_neF (C0 : zC p s m args meth c cc nL own Ts T ret) {x : Int32} {o : Int} {tgt : Nat} {v : Int32} (hq : T.lookup pc = some (.ifCond .ne o, 3, tgt, v)) (h : ¬ (¬ x = 0)) (kf : SW p l e R s m args below meth c nL A Rep fc fs S (pc + 3) lv rest E) : SW p l e R s m args below meth c nL A Rep fc fs S pc lv (.int x :: rest) E := by
  obtain ⟨hx, hb, hml, hown, hts, hT, hr, hlocks⟩ := C0
  obtain ⟨hd, ht⟩ := zok_jmp (hT.at hq) (Or.inl ⟨_, rfl⟩)
  exact sw_W kf (fun H locs cells slots ls h5 k => lv_if_ne hx hb hd ht (fun h' => absurd h' h) (fun _ => k h5))
theorem sw_if_ne {ρ : Type} (F : ρ → σ × Option Value) {r1 r2 : ρ} (C0 : zC p s m args meth c cc nL own Ts T ret) {x : Int32} {o : Int} {tgt : Nat} {v : Int32} (hq : T.lookup pc = some (.ifCond .ne o, 3, tgt, v)) (kt : ¬ x = 0 → SW p l e R s m args below meth c nL A Rep fc fs S tgt lv rest (F r1)) (kf : ¬ (¬ x = 0) → SW p l e R s m args below meth c nL A Rep fc fs S (pc + 3) lv rest (F r2)) : SW p l e R s m args below meth c nL A Rep fc fs S pc lv (.int x :: rest) (F (if ¬ x = 0 then r1 else r2)) :=
  sw_if F (fun h => sw_if_neT C0 hq h (kt h)) (fun h => sw_if_neF C0 hq h (kf h))
theorem so_if_ne {ρ : Type} {F : ρ → σ × Option Value} {r1 r2 : Option ρ} (C0 : zC p s m args meth c cc nL own Ts T ret) {x : Int32} {o : Int} {tgt : Nat} {v : Int32} (hq : T.lookup pc = some (.ifCond .ne o, 3, tgt, v)) (kt : ¬ x = 0 → SO p l e R s m args below meth c nL A Rep fc fs S tgt lv rest F r1) (kf : ¬ (¬ x = 0) → SO p l e R s m args below meth c nL A Rep fc fs S (pc + 3) lv rest F r2) : SO p l e R s m args below meth c nL A Rep fc fs S pc lv (.int x :: rest) F (if ¬ x = 0 then r1 else r2) := by
  intro r hr
  by_cases h : ¬ x = 0
  · rw [if_pos h] at hr
    exact sw_if_neT C0 hq h (kt h r hr)
  · rw [if_neg h] at hr
    exact sw_if_neF C0 hq h (kf h r hr)
theorem so_if_neT {ρ : Type} {F : ρ → σ × Option Value} {w : Option ρ} (C0 : zC p s m args meth c cc nL own Ts T ret) {x : Int32} {o : Int} {tgt : Nat} {v : Int32} (hq : T.lookup pc = some (.ifCond .ne o, 3, tgt, v)) (h : ¬ x = 0) (kt : SO p l e R s m args below meth c nL A Rep fc fs S tgt lv rest F w) : SO p l e R s m args below meth c nL A Rep fc fs S pc lv (.int x :: rest) F w := fun r hr => sw_if_neT C0 hq h (kt r hr)
theorem so_if_neF {ρ : Type} {F : ρ → σ × Option Value} {w : Option ρ} (C0 : zC p s m args meth c cc nL own Ts T ret) {x : Int32} {o : Int} {tgt : Nat} {v : Int32} (hq : T.lookup pc = some (.ifCond .ne o, 3, tgt, v)) (h : ¬ (¬ x = 0)) (kf : SO p l e R s m args below meth c nL A Rep fc fs S (pc + 3) lv rest F w) : SO p l e R s m args below meth c nL A Rep fc fs S pc lv (.int x :: rest) F w := fun r hr => sw_if_neF C0 hq h (kf r hr)
theorem sw_if_ltT (C0 : zC p s m args meth c cc nL own Ts T ret) {x : Int32} {o : Int} {tgt : Nat} {v : Int32} (hq : T.lookup pc = some (.ifCond .lt o, 3, tgt, v)) (h : x < 0) (kt : SW p l e R s m args below meth c nL A Rep fc fs S tgt lv rest E) : SW p l e R s m args below meth c nL A Rep fc fs S pc lv (.int x :: rest) E := by
  obtain ⟨hx, hb, hml, hown, hts, hT, hr, hlocks⟩ := C0
  obtain ⟨hd, ht⟩ := zok_jmp (hT.at hq) (Or.inl ⟨_, rfl⟩)
  exact sw_W kt (fun H locs cells slots ls h5 k => lv_if_lt hx hb hd ht (fun _ => k h5) (fun h' => absurd h h'))
theorem sw_if_ltF (C0 : zC p s m args meth c cc nL own Ts T ret) {x : Int32} {o : Int} {tgt : Nat} {v : Int32} (hq : T.lookup pc = some (.ifCond .lt o, 3, tgt, v)) (h : ¬ (x < 0)) (kf : SW p l e R s m args below meth c nL A Rep fc fs S (pc + 3) lv rest E) : SW p l e R s m args below meth c nL A Rep fc fs S pc lv (.int x :: rest) E := by
  obtain ⟨hx, hb, hml, hown, hts, hT, hr, hlocks⟩ := C0
  obtain ⟨hd, ht⟩ := zok_jmp (hT.at hq) (Or.inl ⟨_, rfl⟩)
  exact sw_W kf (fun H locs cells slots ls h5 k => lv_if_lt hx hb hd ht (fun h' => absurd h' h) (fun _ => k h5))
theorem sw_if_lt {ρ : Type} (F : ρ → σ × Option Value) {r1 r2 : ρ} (C0 : zC p s m args meth c cc nL own Ts T ret) {x : Int32} {o : Int} {tgt : Nat} {v : Int32} (hq : T.lookup pc = some (.ifCond .lt o, 3, tgt, v)) (kt : x < 0 → SW p l e R s m args below meth c nL A Rep fc fs S tgt lv rest (F r1)) (kf : ¬ (x < 0) → SW p l e R s m args below meth c nL A Rep fc fs S (pc + 3) lv rest (F r2)) : SW p l e R s m args below meth c nL A Rep fc fs S pc lv (.int x :: rest) (F (if x < 0 then r1 else r2)) :=
  sw_if F (fun h => sw_if_ltT C0 hq h (kt h)) (fun h => sw_if_ltF C0 hq h (kf h))
theorem so_if_lt {ρ : Type} {F : ρ → σ × Option Value} {r1 r2 : Option ρ} (C0 : zC p s m args meth c cc nL own Ts T ret) {x : Int32} {o : Int} {tgt : Nat} {v : Int32} (hq : T.lookup pc = some (.ifCond .lt o, 3, tgt, v)) (kt : x < 0 → SO p l e R s m args below meth c nL A Rep fc fs S tgt lv rest F r1) (kf : ¬ (x < 0) → SO p l e R s m args below meth c nL A Rep fc fs S (pc + 3) lv rest F r2) : SO p l e R s m args below meth c nL A Rep fc fs S pc lv (.int x :: rest) F (if x < 0 then r1 else r2) := by
  intro r hr
  by_cases h : x < 0
  · rw [if_pos h] at hr
    exact sw_if_ltT C0 hq h (kt h r hr)
  · rw [if_neg h] at hr
    exact sw_if_ltF C0 hq h (kf h r hr)
theorem so_if_ltT {ρ : Type} {F : ρ → σ × Option Value} {w : Option ρ} (C0 : zC p s m args meth c cc nL own Ts T ret) {x : Int32} {o : Int} {tgt : Nat} {v : Int32} (hq : T.lookup pc = some (.ifCond .lt o, 3, tgt, v)) (h : x < 0) (kt : SO p l e R s m args below meth c nL A Rep fc fs S tgt lv rest F w) : SO p l e R s m args below meth c nL A Rep fc fs S pc lv (.int x :: rest) F w := fun r hr => sw_if_ltT C0 hq h (kt r hr)
theorem so_if_ltF {ρ : Type} {F : ρ → σ × Option Value} {w : Option ρ} (C0 : zC p s m args meth c cc nL own Ts T ret) {x : Int32} {o : Int} {tgt : Nat} {v : Int32} (hq : T.lookup pc = some (.ifCond .lt o, 3, tgt, v)) (h : ¬ (x < 0)) (kf : SO p l e R s m args below meth c nL A Rep fc fs S (pc + 3) lv rest F w) : SO p l e R s m args below meth c nL A Rep fc fs S pc lv (.int x :: rest) F w := fun r hr => sw_if_ltF C0 hq h (kf r hr)
theorem sw_if_geT (C0 : zC p s m args meth c cc nL own Ts T ret) {x : Int32} {o : Int} {tgt : Nat} {v : Int32} (hq : T.lookup pc = some (.ifCond .ge o, 3, tgt, v)) (h : 0 ≤ x) (kt : SW p l e R s m args below meth c nL A Rep fc fs S tgt lv rest E) : SW p l e R s m args below meth c nL A Rep fc fs S pc lv (.int x :: rest) E := by
  obtain ⟨hx, hb, hml, hown, hts, hT, hr, hlocks⟩ := C0
  obtain ⟨hd, ht⟩ := zok_jmp (hT.at hq) (Or.inl ⟨_, rfl⟩)
  exact sw_W kt (fun H locs cells slots ls h5 k => lv_if_ge hx hb hd ht (fun _ => k h5) (fun h' => absurd h h'))
theorem sw_if_geF (C0 : zC p s m args meth c cc nL own Ts T ret) {x : Int32} {o : Int} {tgt : Nat} {v : Int32} (hq : T.lookup pc = some (.ifCond .ge o, 3, tgt, v)) (h : ¬ (0 ≤ x)) (kf : SW p l e R s m args below meth c nL A Rep fc fs S (pc + 3) lv rest E) : SW p l e R s m args below meth c nL A Rep fc fs S pc lv (.int x :: rest) E := by
  obtain ⟨hx, hb, hml, hown, hts, hT, hr, hlocks⟩ := C0
  obtain ⟨hd, ht⟩ := zok_jmp (hT.at hq) (Or.inl ⟨_, rfl⟩)
  exact sw_W kf (fun H locs cells slots ls h5 k => lv_if_ge hx hb hd ht (fun h' => absurd h' h) (fun _ => k h5))
theorem sw_if_ge {ρ : Type} (F : ρ → σ × Option Value) {r1 r2 : ρ} (C0 : zC p s m args meth c cc nL own Ts T ret) {x : Int32} {o : Int} {tgt : Nat} {v : Int32} (hq : T.lookup pc = some (.ifCond .ge o, 3, tgt, v)) (kt : 0 ≤ x → SW p l e R s m args below meth c nL A Rep fc fs S tgt lv rest (F r1)) (kf : ¬ (0 ≤ x) → SW p l e R s m args below meth c nL A Rep fc fs S (pc + 3) lv rest (F r2)) : SW p l e R s m args below meth c nL A Rep fc fs S pc lv (.int x :: rest) (F (if 0 ≤ x then r1 else r2)) :=
  sw_if F (fun h => sw_if_geT C0 hq h (kt h)) (fun h => sw_if_geF C0 hq h (kf h))
theorem so_if_ge {ρ : Type} {F : ρ → σ × Option Value} {r1 r2 : Option ρ} (C0 : zC p s m args meth c cc nL own Ts T ret) {x : Int32} {o : Int} {tgt : Nat} {v : Int32} (hq : T.lookup pc = some (.ifCond .ge o, 3, tgt, v)) (kt : 0 ≤ x → SO p l e R s m args below meth c nL A Rep fc fs S tgt lv rest F r1) (kf : ¬ (0 ≤ x) → SO p l e R s m args below meth c nL A Rep fc fs S (pc + 3) lv rest F r2) : SO p l e R s m args below meth c nL A Rep fc fs S pc lv (.int x :: rest) F (if 0 ≤ x then r1 else r2) := by
  intro r hr
  by_cases h : 0 ≤ x
  · rw [if_pos h] at hr
    exact sw_if_geT C0 hq h (kt h r hr)
  · rw [if_neg h] at hr
    exact sw_if_geF C0 hq h (kf h r hr)
theorem so_if_geT {ρ : Type} {F : ρ → σ × Option Value} {w : Option ρ} (C0 : zC p s m args meth c cc nL own Ts T ret) {x : Int32} {o : Int} {tgt : Nat} {v : Int32} (hq : T.lookup pc = some (.ifCond .ge o, 3, tgt, v)) (h : 0 ≤ x) (kt : SO p l e R s m args below meth c nL A Rep fc fs S tgt lv rest F w) : SO p l e R s m args below meth c nL A Rep fc fs S pc lv (.int x :: rest) F w := fun r hr => sw_if_geT C0 hq h (kt r hr)
theorem so_if_geF {ρ : Type} {F : ρ → σ × Option Value} {w : Option ρ} (C0 : zC p s m args meth c cc nL own Ts T ret) {x : Int32} {o : Int} {tgt : Nat} {v : Int32} (hq : T.lookup pc = some (.ifCond .ge o, 3, tgt, v)) (h : ¬ (0 ≤ x)) (kf : SO p l e R s m args below meth c nL A Rep fc fs S (pc + 3) lv rest F w) : SO p l e R s m args below meth c nL A Rep fc fs S pc lv (.int x :: rest) F w := fun r hr => sw_if_geF C0 hq h (kf r hr)
theorem sw_if_gtT (C0 : zC p s m args meth c cc nL own Ts T ret) {x : Int32} {o : Int} {tgt : Nat} {v : Int32} (hq : T.lookup pc = some (.ifCond .gt o, 3, tgt, v)) (h : 0 < x) (kt : SW p l e R s m args below meth c nL A Rep fc fs S tgt lv rest E) : SW p l e R s m args below meth c nL A Rep fc fs S pc lv (.int x :: rest) E := by
  obtain ⟨hx, hb, hml, hown, hts, hT, hr, hlocks⟩ := C0
  obtain ⟨hd, ht⟩ := zok_jmp (hT.at hq) (Or.inl ⟨_, rfl⟩)
  exact sw_W kt (fun H locs cells slots ls h5 k => lv_if_gt hx hb hd ht (fun _ => k h5) (fun h' => absurd h h'))
theorem sw_if_gtF (C0 : zC p s m args meth c cc nL own Ts T ret) {x : Int32} {o : Int} {tgt : Nat} {v : Int32} (hq : T.lookup pc = some (.ifCond .gt o, 3, tgt, v)) (h : ¬ (0 < x)) (kf : SW p l e R s m args below meth c nL A Rep fc fs S (pc + 3) lv rest E) : SW p l e R s m args below meth c nL A Rep fc fs S pc lv (.int x :: rest) E := by
  obtain ⟨hx, hb, hml, hown, hts, hT, hr, hlocks⟩ := C0
  obtain ⟨hd, ht⟩ := zok_jmp (hT.at hq) (Or.inl ⟨_, rfl⟩)
  exact sw_W kf (fun H locs cells slots ls h5 k => lv_if_gt hx hb hd ht (fun h' => absurd h' h) (fun _ => k h5))
theorem sw_if_gt {ρ : Type} (F : ρ → σ × Option Value) {r1 r2 : ρ} (C0 : zC p s m args meth c cc nL own Ts T ret) {x : Int32} {o : Int} {tgt : Nat} {v : Int32} (hq : T.lookup pc = some (.ifCond .gt o, 3, tgt, v)) (kt : 0 < x → SW p l e R s m args below meth c nL A Rep fc fs S tgt lv rest (F r1)) (kf : ¬ (0 < x) → SW p l e R s m args below meth c nL A Rep fc fs S (pc + 3) lv rest (F r2)) : SW p l e R s m args below meth c nL A Rep fc fs S pc lv (.int x :: rest) (F (if 0 < x then r1 else r2)) :=
  sw_if F (fun h => sw_if_gtT C0 hq h (kt h)) (fun h => sw_if_gtF C0 hq h (kf h))
theorem so_if_gt {ρ : Type} {F : ρ → σ × Option Value} {r1 r2 : Option ρ} (C0 : zC p s m args meth c cc nL own Ts T ret) {x : Int32} {o : Int} {tgt : Nat} {v : Int32} (hq : T.lookup pc = some (.ifCond .gt o, 3, tgt, v)) (kt : 0 < x → SO p l e R s m args below meth c nL A Rep fc fs S tgt lv rest F r1) (kf : ¬ (0 < x) → SO p l e R s m args below meth c nL A Rep fc fs S (pc + 3) lv rest F r2) : SO p l e R s m args below meth c nL A Rep fc fs S pc lv (.int x :: rest) F (if 0 < x then r1 else r2) := by
  intro r hr
  by_cases h : 0 < x
  · rw [if_pos h] at hr
    exact sw_if_gtT C0 hq h (kt h r hr)
  · rw [if_neg h] at hr
    exact sw_if_gtF C0 hq h (kf h r hr)
theorem so_if_gtT {ρ : Type} {F : ρ → σ × Option Value} {w : Option ρ} (C0 : zC p s m args meth c cc nL own Ts T ret) {x : Int32} {o : Int} {tgt : Nat} {v : Int32} (hq : T.lookup pc = some (.ifCond .gt o, 3, tgt, v)) (h : 0 < x) (kt : SO p l e R s m args below meth c nL A Rep fc fs S tgt lv rest F w) : SO p l e R s m args below meth c nL A Rep fc fs S pc lv (.int x :: rest) F w := fun r hr => sw_if_gtT C0 hq h (kt r hr)
theorem so_if_gtF {ρ : Type} {F : ρ → σ × Option Value} {w : Option ρ} (C0 : zC p s m args meth c cc nL own Ts T ret) {x : Int32} {o : Int} {tgt : Nat} {v : Int32} (hq : T.lookup pc = some (.ifCond .gt o, 3, tgt, v)) (h : ¬ (0 < x)) (kf : SO p l e R s m args below meth c nL A Rep fc fs S (pc + 3) lv rest F w) : SO p l e R s m args below meth c nL A Rep fc fs S pc lv (.int x :: rest) F w := fun r hr => sw_if_gtF C0 hq h (kf r hr)
theorem sw_if_leT (C0 : zC p s m args meth c cc nL own Ts T ret) {x : Int32} {o : Int} {tgt : Nat} {v : Int32} (hq : T.lookup pc = some (.ifCond .le o, 3, tgt, v)) (h : x ≤ 0) (kt : SW p l e R s m args below meth c nL A Rep fc fs S tgt lv rest E) : SW p l e R s m args below meth c nL A Rep fc fs S pc lv (.int x :: rest) E := by
  obtain ⟨hx, hb, hml, hown, hts, hT, hr, hlocks⟩ := C0
  obtain ⟨hd, ht⟩ := zok_jmp (hT.at hq) (Or.inl ⟨_, rfl⟩)
  exact sw_W kt (fun H locs cells slots ls h5 k => lv_if_le hx hb hd ht (fun _ => k h5) (fun h' => absurd h h'))
theorem sw_if_leF (C0 : zC p s m args meth c cc nL own Ts T ret) {x : Int32} {o : Int} {tgt : Nat} {v : Int32} (hq : T.lookup pc = some (.ifCond .le o, 3, tgt, v)) (h : ¬ (x ≤ 0)) (kf : SW p l e R s m args below meth c nL A Rep fc fs S (pc + 3) lv rest E) : SW p l e R s m args below meth c nL A Rep fc fs S pc lv (.int x :: rest) E := by
  obtain ⟨hx, hb, hml, hown, hts, hT, hr, hlocks⟩ := C0
  obtain ⟨hd, ht⟩ := zok_jmp (hT.at hq) (Or.inl ⟨_, rfl⟩)
  exact sw_W kf (fun H locs cells slots ls h5 k => lv_if_le hx hb hd ht (fun h' => absurd h' h) (fun _ => k h5))
theorem sw_if_le {ρ : Type} (F : ρ → σ × Option Value) {r1 r2 : ρ} (C0 : zC p s m args meth c cc nL own Ts T ret) {x : Int32} {o : Int} {tgt : Nat} {v : Int32} (hq : T.lookup pc = some (.ifCond .le o, 3, tgt, v)) (kt : x ≤ 0 → SW p l e R s m args below meth c nL A Rep fc fs S tgt lv rest (F r1)) (kf : ¬ (x ≤ 0) → SW p l e R s m args below meth c nL A Rep fc fs S (pc + 3) lv rest (F r2)) : SW p l e R s m args below meth c nL A Rep fc fs S pc lv (.int x :: rest) (F (if x ≤ 0 then r1 else r2)) :=
  sw_if F (fun h => sw_if_leT C0 hq h (kt h)) (fun h => sw_if_leF C0 hq h (kf h))
theorem so_if_le {ρ : Type} {F : ρ → σ × Option Value} {r1 r2 : Option ρ} (C0 : zC p s m args meth c cc nL own Ts T ret) {x : Int32} {o : Int} {tgt : Nat} {v : Int32} (hq : T.lookup pc = some (.ifCond .le o, 3, tgt, v)) (kt : x ≤ 0 → SO p l e R s m args below meth c nL A Rep fc fs S tgt lv rest F r1) (kf : ¬ (x ≤ 0) → SO p l e R s m args below meth c nL A Rep fc fs S (pc + 3) lv rest F r2) : SO p l e R s m args below meth c nL A Rep fc fs S pc lv (.int x :: rest) F (if x ≤ 0 then r1 else r2) := by
  intro r hr
  by_cases h : x ≤ 0
  · rw [if_pos h] at hr
    exact sw_if_leT C0 hq h (kt h r hr)
  · rw [if_neg h] at hr
    exact sw_if_leF C0 hq h (kf h r hr)
theorem so_if_leT {ρ : Type} {F : ρ → σ × Option Value} {w : Option ρ} (C0 : zC p s m args meth c cc nL own Ts T ret) {x : Int32} {o : Int} {tgt : Nat} {v : Int32} (hq : T.lookup pc = some (.ifCond .le o, 3, tgt, v)) (h : x ≤ 0) (kt : SO p l e R s m args below meth c nL A Rep fc fs S tgt lv rest F w) : SO p l e R s m args below meth c nL A Rep fc fs S pc lv (.int x :: rest) F w := fun r hr => sw_if_leT C0 hq h (kt r hr)
theorem so_if_leF {ρ : Type} {F : ρ → σ × Option Value} {w : Option ρ} (C0 : zC p s m args meth c cc nL own Ts T ret) {x : Int32} {o : Int} {tgt : Nat} {v : Int32} (hq : T.lookup pc = some (.ifCond .le o, 3, tgt, v)) (h : ¬ (x ≤ 0)) (kf : SO p l e R s m args below meth c nL A Rep fc fs S (pc + 3) lv rest F w) : SO p l e R s m args below meth c nL A Rep fc fs S pc lv (.int x :: rest) F w := fun r hr => sw_if_leF C0 hq h (kf r hr)
/-- a call -/
theorem sw_call {E' : σ × Option Value} {a : Array Value} (hm1 : fc S ≤ fc E'.1) (hm2 : fs S ≤ fs E'.1)
    (run : ∀ (H : Heap) (locs : List Loc) (cells slots : Nat) (ls : Array Slot), Rep S H → va_S A s.heap H locs → lv_has ls nL lv → cells + (fc E'.1 - fc S) ≤ R.cells → slots + (fs E'.1 - fs S) ≤ R.slots → va_Run p l e R s m args below meth c H locs cells slots (fc E'.1 - fc S) (fs E'.1 - fs S) (F0 m pc ls st) rest (zQ A Rep E' a) A)
    (k : SW p l e R s m args below meth c nL A Rep fc fs E'.1 (pc + 3) lv (E'.2.toList ++ rest) E) : SW p l e R s m args below meth c nL A Rep fc fs S pc lv st E := by
  obtain ⟨k1, k2, k3⟩ := k
  refine ⟨Nat.le_trans hm1 k1, Nat.le_trans hm2 k2, fun H locs cells slots ls h1 h2 h3 h4 h5 => ?_⟩
  intro T hT X
  obtain ⟨v, st₀, t, T', L, h0, X', hL, e1, e2, ⟨hv, hRep, hz, hk⟩, stp⟩ := run H locs cells slots ls h1 h2 h5 (by omega) (by omega) T hT X
  cases hv
  rw [h0] at hz hk
  obtain ⟨t2, a1, b1⟩ := k3 T'.heap (locs ++ L) (cells + (fc E'.1 - fc S)) (slots + (fs E'.1 - fs S)) ls (by rw [e1]; exact hRep)
    ⟨Nat.le_trans h2.1 (by rw [e1]; exact hz), fun q g1 g2 => by rw [e1, hk q (Nat.lt_of_lt_of_le g1 h2.1) g2]; exact h2.2.1 q g1 g2, fun q hq => by
      rcases List.mem_append.mp hq with h | h
      · exact h2.2.2 q h
      · exact hL q h⟩ (by omega) (by omega) h5 T' rfl X'
  exact ⟨t2, stp t2 a1, b1⟩
/-- the method's end -/
theorem sw_reti (C0 : zC p s m args meth c cc nL own Ts T (some .int)) {x : Int32} {tgt : Nat} {v : Int32} (hq : T.lookup pc = some (.ireturn, 1, tgt, v)) (hE : E = (S, some (.int x))) : SW p l e R s m args below meth c nL A Rep fc fs S pc lv [.int x] E := by
  obtain ⟨hx, hb, hml, hown, hts, hT, hr, hlocks⟩ := C0
  subst hE
  refine ⟨Nat.le_refl _, Nat.le_refl _, fun H locs cells slots ls h1 h2 h3 h4 h5 => ?_⟩
  refine W.widen (k := R.cells) (n := R.slots) (by dsimp only at h3; omega) (by dsimp only at h4; omega) ?_
  exact W.iret hx hb hr (fun t ht hW => ⟨rfl, by rw [ht]; exact h1, h2.F ht⟩) h2.2.2 (hT.dec hq) hlocks
theorem sw_retz (C0 : zC p s m args meth c cc nL own Ts T (some .boolean)) {x : Int32} {tgt : Nat} {v : Int32} (hq : T.lookup pc = some (.ireturn, 1, tgt, v)) (hn : narrow .boolean (.int x) = .int x) (hE : E = (S, some (.int x))) : SW p l e R s m args below meth c nL A Rep fc fs S pc lv [.int x] E := by
  obtain ⟨hx, hb, hml, hown, hts, hT, hr, hlocks⟩ := C0
  subst hE
  refine ⟨Nat.le_refl _, Nat.le_refl _, fun H locs cells slots ls h1 h2 h3 h4 h5 => ?_⟩
  refine W.widen (k := R.cells) (n := R.slots) (by dsimp only at h3; omega) (by dsimp only at h4; omega) ?_
  exact W.zret hx hb hr hn (fun t ht hW => ⟨rfl, by rw [ht]; exact h1, h2.F ht⟩) h2.2.2 (hT.dec hq) hlocks
theorem sw_retl (C0 : zC p s m args meth c cc nL own Ts T (some .long)) {x : Int64} {tgt : Nat} {v : Int32} (hq : T.lookup pc = some (.lreturn, 1, tgt, v)) (hE : E = (S, some (.long x))) : SW p l e R s m args below meth c nL A Rep fc fs S pc lv [.long x] E := by
  obtain ⟨hx, hb, hml, hown, hts, hT, hr, hlocks⟩ := C0
  subst hE
  refine ⟨Nat.le_refl _, Nat.le_refl _, fun H locs cells slots ls h1 h2 h3 h4 h5 => ?_⟩
  refine W.widen (k := R.cells) (n := R.slots) (by dsimp only at h3; omega) (by dsimp only at h4; omega) ?_
  exact W.lret hx hb hr (fun t ht hW => ⟨rfl, by rw [ht]; exact h1, h2.F ht⟩) h2.2.2 (hT.dec hq) hlocks
theorem sw_retv (C0 : zC p s m args meth c cc nL own Ts T none) {tgt : Nat} {v : Int32} (hq : T.lookup pc = some (.return_, 1, tgt, v)) (hE : E = (S, none)) : SW p l e R s m args below meth c nL A Rep fc fs S pc lv [] E := by
  obtain ⟨hx, hb, hml, hown, hts, hT, hr, hlocks⟩ := C0
  subst hE
  refine ⟨Nat.le_refl _, Nat.le_refl _, fun H locs cells slots ls h1 h2 h3 h4 h5 => ?_⟩
  refine W.widen (k := R.cells) (n := R.slots) (by dsimp only at h3; omega) (by dsimp only at h4; omega) ?_
  exact W.vret hx hb hr (fun t ht hW => ⟨rfl, by rw [ht]; exact h1, h2.F ht⟩) h2.2.2 (hT.dec hq) hlocks
/-- the tables' words that any state keeps -/
def zwl : List Cond := lw_tbl.filter goodWord
theorem zwl_in {w : Cond} (h : w ∈ lw_tbl) (g : goodWord w = true) : w ∈ zwl := List.mem_filter.mpr ⟨h, g⟩
/-- what is the same of every call of a method: its words stand in the tables -/
def zY (C : String) (y : MethodName) (bytes : ByteArray) (maxL : Nat) (rt : Option FieldType) (n : Nat) : Prop :=
  Cond.code y bytes maxL rt ∈ zwl ∧ Cond.instanceMethod y ∈ zwl ∧ Cond.selects C y y ∈ zwl ∧ Cond.initialized C ∈ zwl ∧ (y.cls = C ∧ y.cls ≠ "java/lang/invoke/MethodHandle" ∧ y.cls ≠ "java/lang/invoke/VarHandle" ∧ (parseMethodDescriptor y.desc).map (fun d => d.parameters.length) = some n)
abbrev zw (y : MethodName) (bytes : ByteArray) (maxL : Nat) (rt : Option FieldType) : List Cond := Cond.code y bytes maxL rt :: zwl
set_option maxRecDepth 100000 in
theorem zgood : GoodIn zwl zwl := fun w hw => ⟨hw, good_of_word (List.mem_filter.mp hw).2⟩
variable {D : va_G} {cl : List vw_C} {tys : List (ClassId × FieldType)}
/-- the receiver is an object of its class -/
def zRc (s : State) (C : String) (b : Nat) (H : Heap) : Prop := ∃ cellB : Cell, H[b]? = some cellB ∧ cellB.vm.isStatics = false ∧ s.vm.findClass C = some cellB.cls
theorem sw_callV {E' : σ × Option Value} {C : String} {y : MethodName} {bytes : ByteArray} {maxL n fr lo idx tgt b : Nat} {v : Int32} {rt : Option FieldType} {As : List Value} (C0 : zC p s m args meth c cc nL own zwl T ret) (hK : va_K D cl tys s) (hA : ∀ q, s.heap.size ≤ q → A q) (Y : zY C y bytes maxL rt n) (hM : zMet l y (zw y bytes maxL rt) fr lo (.ref b :: As) D cl tys A Rep fc fs S E')
    (hl : Cond.methodLink own idx y ∈ zwl) (hq : T.lookup pc = some (.invokevirtual idx, 3, tgt, v)) (hn : As.length = n) (hR : fr + 1 ≤ R.frames ∧ 8 + (maxL + 11) + lo ≤ R.locals) (hW : (rest.map fun v => v.category).sum ≤ 8) (hrc : ∀ H, Rep S H → zRc s C b H)
    (k : SW p l e R s m args below meth c nL A Rep fc fs E'.1 (pc + 3) lv (E'.2.toList ++ rest) E) : SW p l e R s m args below meth c nL A Rep fc fs S pc lv (As.reverse ++ .ref b :: rest) E := by
  obtain ⟨hm1, hm2, hM⟩ := hM
  obtain ⟨y1, y2, y3, y4, y5⟩ := Y
  obtain ⟨hx, hb, hml, hown, hts, hT, hr, hlocks⟩ := C0
  refine sw_call (a := (Value.ref b :: As).toArray) hm1 hm2 (fun H locs cells slots ls h1 h2 h5 h6 h7 => ?_) k
  have hG : GoodIn zwl (wsV own idx C y (zw y bytes maxL rt)) := by
    intro w hw
    rcases List.mem_append.mp hw with h | h
    · have : w = .methodLink own idx y ∨ w = .instanceMethod y ∨ w = .selects C y y ∨ w = .initialized C := by simpa using h
      rcases this with rfl | rfl | rfl | rfl
      · exact ⟨hl, (zgood _ hl).2⟩
      · exact ⟨y2, (zgood _ y2).2⟩
      · exact ⟨y3, (zgood _ y3).2⟩
      · exact ⟨y4, (zgood _ y4).2⟩
    · rcases List.mem_cons.mp h with rfl | h
      · exact ⟨y1, (zgood _ y1).2⟩
      · exact zgood _ h
  exact va_runV (As := As) (rest := rest) ⟨hx, hb, hml, hown, hts⟩ hM (cwV n hts hG rfl rfl rfl y5 hR) ⟨zPre_blind, hrc H h1, fun U hU hW2 => ⟨rfl, by rw [hU]; exact h1, va_K.moved hW2.alike hK, fun q hq => hA q (Nat.le_trans h2.1 (by rw [← hU]; exact hq))⟩⟩ rfl hn h5.1 rfl (lv_room hW) (hT.dec hq) ⟨h6, h7⟩
theorem sw_cp {x : Int32} {C : String} {y : MethodName} {bytes : ByteArray} {maxL n fr lo idx tgt b : Nat} {v0 : Int32} {rt : Option FieldType} {As : List Value} (C0 : zC p s m args meth c cc nL own zwl T ret) (hK : va_K D cl tys s) (hA : ∀ q, s.heap.size ≤ q → A q) (Y : zY C y bytes maxL rt n) (hM : zMet l y (zw y bytes maxL rt) fr lo (.ref b :: As) D cl tys A Rep fc fs S (zFp S x)) (hl : Cond.methodLink own idx y ∈ zwl) (hq : T.lookup pc = some (.invokevirtual idx, 3, tgt, v0)) (hn : As.length = n) (hR : fr + 1 ≤ R.frames ∧ 8 + (maxL + 11) + lo ≤ R.locals) (hW : (rest.map fun v => v.category).sum ≤ 8) (hrc : ∀ H, Rep S H → zRc s C b H) (k : SW p l e R s m args below meth c nL A Rep fc fs S (pc + 3) lv (.int x :: rest) E) : SW p l e R s m args below meth c nL A Rep fc fs S pc lv (As.reverse ++ .ref b :: rest) E := sw_callV C0 hK hA Y hM hl hq hn hR hW hrc k
theorem so_cp {ρ : Type} {F : ρ → σ × Option Value} {w : Option ρ} {x : Int32} {C : String} {y : MethodName} {bytes : ByteArray} {maxL n fr lo idx tgt b : Nat} {v0 : Int32} {rt : Option FieldType} {As : List Value} (C0 : zC p s m args meth c cc nL own zwl T ret) (hK : va_K D cl tys s) (hA : ∀ q, s.heap.size ≤ q → A q) (Y : zY C y bytes maxL rt n) (hM : zMet l y (zw y bytes maxL rt) fr lo (.ref b :: As) D cl tys A Rep fc fs S (zFp S x)) (hl : Cond.methodLink own idx y ∈ zwl) (hq : T.lookup pc = some (.invokevirtual idx, 3, tgt, v0)) (hn : As.length = n) (hR : fr + 1 ≤ R.frames ∧ 8 + (maxL + 11) + lo ≤ R.locals) (hW : (rest.map fun v => v.category).sum ≤ 8) (hrc : ∀ H, Rep S H → zRc s C b H) (k : SO p l e R s m args below meth c nL A Rep fc fs S (pc + 3) lv (.int x :: rest) F w) : SO p l e R s m args below meth c nL A Rep fc fs S pc lv (As.reverse ++ .ref b :: rest) F w := fun r hr => sw_callV C0 hK hA Y hM hl hq hn hR hW hrc (k r hr)
theorem sw_ci {ρ : Type} (F : ρ → σ × Option Value) {x : σ × Int32} {K : σ → Int32 → ρ} {C : String} {y : MethodName} {bytes : ByteArray} {maxL n fr lo idx tgt b : Nat} {v0 : Int32} {rt : Option FieldType} {As : List Value} (C0 : zC p s m args meth c cc nL own zwl T ret) (hK : va_K D cl tys s) (hA : ∀ q, s.heap.size ≤ q → A q) (Y : zY C y bytes maxL rt n) (hM : zMet l y (zw y bytes maxL rt) fr lo (.ref b :: As) D cl tys A Rep fc fs S (zFi x)) (hl : Cond.methodLink own idx y ∈ zwl) (hq : T.lookup pc = some (.invokevirtual idx, 3, tgt, v0)) (hn : As.length = n) (hR : fr + 1 ≤ R.frames ∧ 8 + (maxL + 11) + lo ≤ R.locals) (hW : (rest.map fun v => v.category).sum ≤ 8) (hrc : ∀ H, Rep S H → zRc s C b H) (k : ∀ (S1 : σ) (v1 : Int32), x = (S1, v1) → SW p l e R s m args below meth c nL A Rep fc fs S1 (pc + 3) lv (.int v1 :: rest) (F (K S1 v1))) : SW p l e R s m args below meth c nL A Rep fc fs S pc lv (As.reverse ++ .ref b :: rest) (F (zbind2 x K)) := sw_callV C0 hK hA Y hM hl hq hn hR hW hrc (k x.1 x.2 rfl)
theorem so_ci {ρ : Type} {F : ρ → σ × Option Value} {x : σ × Int32} {K : σ → Int32 → Option ρ} {C : String} {y : MethodName} {bytes : ByteArray} {maxL n fr lo idx tgt b : Nat} {v0 : Int32} {rt : Option FieldType} {As : List Value} (C0 : zC p s m args meth c cc nL own zwl T ret) (hK : va_K D cl tys s) (hA : ∀ q, s.heap.size ≤ q → A q) (Y : zY C y bytes maxL rt n) (hM : zMet l y (zw y bytes maxL rt) fr lo (.ref b :: As) D cl tys A Rep fc fs S (zFi x)) (hl : Cond.methodLink own idx y ∈ zwl) (hq : T.lookup pc = some (.invokevirtual idx, 3, tgt, v0)) (hn : As.length = n) (hR : fr + 1 ≤ R.frames ∧ 8 + (maxL + 11) + lo ≤ R.locals) (hW : (rest.map fun v => v.category).sum ≤ 8) (hrc : ∀ H, Rep S H → zRc s C b H) (k : ∀ (S1 : σ) (v1 : Int32), x = (S1, v1) → SO p l e R s m args below meth c nL A Rep fc fs S1 (pc + 3) lv (.int v1 :: rest) F (K S1 v1)) : SO p l e R s m args below meth c nL A Rep fc fs S pc lv (As.reverse ++ .ref b :: rest) F (zbind2 x K) := fun r hr => sw_callV C0 hK hA Y hM hl hq hn hR hW hrc (k x.1 x.2 rfl r hr)
theorem so_op {ρ : Type} {F : ρ → σ × Option Value} {x : Option Int32} {K : Int32 → Option ρ} {C : String} {y : MethodName} {bytes : ByteArray} {maxL n fr lo idx tgt b : Nat} {v0 : Int32} {rt : Option FieldType} {As : List Value} (C0 : zC p s m args meth c cc nL own zwl T ret) (hK : va_K D cl tys s) (hA : ∀ q, s.heap.size ≤ q → A q) (Y : zY C y bytes maxL rt n) (hM : ∀ r, x = some r → zMet l y (zw y bytes maxL rt) fr lo (.ref b :: As) D cl tys A Rep fc fs S (zFp S r)) (hl : Cond.methodLink own idx y ∈ zwl) (hq : T.lookup pc = some (.invokevirtual idx, 3, tgt, v0)) (hn : As.length = n) (hR : fr + 1 ≤ R.frames ∧ 8 + (maxL + 11) + lo ≤ R.locals) (hW : (rest.map fun v => v.category).sum ≤ 8) (hrc : ∀ H, Rep S H → zRc s C b H) (k : ∀ (v1 : Int32), x = some v1 → SO p l e R s m args below meth c nL A Rep fc fs S (pc + 3) lv (.int v1 :: rest) F (K v1)) : SO p l e R s m args below meth c nL A Rep fc fs S pc lv (As.reverse ++ .ref b :: rest) F (zob x K) := by
  intro r hr
  cases x with
  | none => cases hr
  | some a => exact sw_callV C0 hK hA Y (hM a rfl) hl hq hn hR hW hrc (k a rfl r hr)
theorem so_oi {ρ : Type} {F : ρ → σ × Option Value} {x : Option (σ × Int32)} {K : σ → Int32 → Option ρ} {C : String} {y : MethodName} {bytes : ByteArray} {maxL n fr lo idx tgt b : Nat} {v0 : Int32} {rt : Option FieldType} {As : List Value} (C0 : zC p s m args meth c cc nL own zwl T ret) (hK : va_K D cl tys s) (hA : ∀ q, s.heap.size ≤ q → A q) (Y : zY C y bytes maxL rt n) (hM : ∀ r, x = some r → zMet l y (zw y bytes maxL rt) fr lo (.ref b :: As) D cl tys A Rep fc fs S (zFi r)) (hl : Cond.methodLink own idx y ∈ zwl) (hq : T.lookup pc = some (.invokevirtual idx, 3, tgt, v0)) (hn : As.length = n) (hR : fr + 1 ≤ R.frames ∧ 8 + (maxL + 11) + lo ≤ R.locals) (hW : (rest.map fun v => v.category).sum ≤ 8) (hrc : ∀ H, Rep S H → zRc s C b H) (k : ∀ (S1 : σ) (v1 : Int32), x = some (S1, v1) → SO p l e R s m args below meth c nL A Rep fc fs S1 (pc + 3) lv (.int v1 :: rest) F (K S1 v1)) : SO p l e R s m args below meth c nL A Rep fc fs S pc lv (As.reverse ++ .ref b :: rest) F (zob2 x K) := by
  intro r hr
  cases x with
  | none => cases hr
  | some a => exact sw_callV C0 hK hA Y (hM a rfl) hl hq hn hR hW hrc (k a.1 a.2 rfl r hr)
theorem sw_cpl {x : Int64} {C : String} {y : MethodName} {bytes : ByteArray} {maxL n fr lo idx tgt b : Nat} {v0 : Int32} {rt : Option FieldType} {As : List Value} (C0 : zC p s m args meth c cc nL own zwl T ret) (hK : va_K D cl tys s) (hA : ∀ q, s.heap.size ≤ q → A q) (Y : zY C y bytes maxL rt n) (hM : zMet l y (zw y bytes maxL rt) fr lo (.ref b :: As) D cl tys A Rep fc fs S (zFpl S x)) (hl : Cond.methodLink own idx y ∈ zwl) (hq : T.lookup pc = some (.invokevirtual idx, 3, tgt, v0)) (hn : As.length = n) (hR : fr + 1 ≤ R.frames ∧ 8 + (maxL + 11) + lo ≤ R.locals) (hW : (rest.map fun v => v.category).sum ≤ 8) (hrc : ∀ H, Rep S H → zRc s C b H) (k : SW p l e R s m args below meth c nL A Rep fc fs S (pc + 3) lv (.long x :: rest) E) : SW p l e R s m args below meth c nL A Rep fc fs S pc lv (As.reverse ++ .ref b :: rest) E := sw_callV C0 hK hA Y hM hl hq hn hR hW hrc k
theorem so_cpl {ρ : Type} {F : ρ → σ × Option Value} {w : Option ρ} {x : Int64} {C : String} {y : MethodName} {bytes : ByteArray} {maxL n fr lo idx tgt b : Nat} {v0 : Int32} {rt : Option FieldType} {As : List Value} (C0 : zC p s m args meth c cc nL own zwl T ret) (hK : va_K D cl tys s) (hA : ∀ q, s.heap.size ≤ q → A q) (Y : zY C y bytes maxL rt n) (hM : zMet l y (zw y bytes maxL rt) fr lo (.ref b :: As) D cl tys A Rep fc fs S (zFpl S x)) (hl : Cond.methodLink own idx y ∈ zwl) (hq : T.lookup pc = some (.invokevirtual idx, 3, tgt, v0)) (hn : As.length = n) (hR : fr + 1 ≤ R.frames ∧ 8 + (maxL + 11) + lo ≤ R.locals) (hW : (rest.map fun v => v.category).sum ≤ 8) (hrc : ∀ H, Rep S H → zRc s C b H) (k : SO p l e R s m args below meth c nL A Rep fc fs S (pc + 3) lv (.long x :: rest) F w) : SO p l e R s m args below meth c nL A Rep fc fs S pc lv (As.reverse ++ .ref b :: rest) F w := fun r hr => sw_callV C0 hK hA Y hM hl hq hn hR hW hrc (k r hr)
theorem sw_cil {ρ : Type} (F : ρ → σ × Option Value) {x : σ × Int64} {K : σ → Int64 → ρ} {C : String} {y : MethodName} {bytes : ByteArray} {maxL n fr lo idx tgt b : Nat} {v0 : Int32} {rt : Option FieldType} {As : List Value} (C0 : zC p s m args meth c cc nL own zwl T ret) (hK : va_K D cl tys s) (hA : ∀ q, s.heap.size ≤ q → A q) (Y : zY C y bytes maxL rt n) (hM : zMet l y (zw y bytes maxL rt) fr lo (.ref b :: As) D cl tys A Rep fc fs S (zFil x)) (hl : Cond.methodLink own idx y ∈ zwl) (hq : T.lookup pc = some (.invokevirtual idx, 3, tgt, v0)) (hn : As.length = n) (hR : fr + 1 ≤ R.frames ∧ 8 + (maxL + 11) + lo ≤ R.locals) (hW : (rest.map fun v => v.category).sum ≤ 8) (hrc : ∀ H, Rep S H → zRc s C b H) (k : ∀ (S1 : σ) (v1 : Int64), x = (S1, v1) → SW p l e R s m args below meth c nL A Rep fc fs S1 (pc + 3) lv (.long v1 :: rest) (F (K S1 v1))) : SW p l e R s m args below meth c nL A Rep fc fs S pc lv (As.reverse ++ .ref b :: rest) (F (zbind2 x K)) := sw_callV C0 hK hA Y hM hl hq hn hR hW hrc (k x.1 x.2 rfl)
theorem so_cil {ρ : Type} {F : ρ → σ × Option Value} {x : σ × Int64} {K : σ → Int64 → Option ρ} {C : String} {y : MethodName} {bytes : ByteArray} {maxL n fr lo idx tgt b : Nat} {v0 : Int32} {rt : Option FieldType} {As : List Value} (C0 : zC p s m args meth c cc nL own zwl T ret) (hK : va_K D cl tys s) (hA : ∀ q, s.heap.size ≤ q → A q) (Y : zY C y bytes maxL rt n) (hM : zMet l y (zw y bytes maxL rt) fr lo (.ref b :: As) D cl tys A Rep fc fs S (zFil x)) (hl : Cond.methodLink own idx y ∈ zwl) (hq : T.lookup pc = some (.invokevirtual idx, 3, tgt, v0)) (hn : As.length = n) (hR : fr + 1 ≤ R.frames ∧ 8 + (maxL + 11) + lo ≤ R.locals) (hW : (rest.map fun v => v.category).sum ≤ 8) (hrc : ∀ H, Rep S H → zRc s C b H) (k : ∀ (S1 : σ) (v1 : Int64), x = (S1, v1) → SO p l e R s m args below meth c nL A Rep fc fs S1 (pc + 3) lv (.long v1 :: rest) F (K S1 v1)) : SO p l e R s m args below meth c nL A Rep fc fs S pc lv (As.reverse ++ .ref b :: rest) F (zbind2 x K) := fun r hr => sw_callV C0 hK hA Y hM hl hq hn hR hW hrc (k x.1 x.2 rfl r hr)
theorem so_opl {ρ : Type} {F : ρ → σ × Option Value} {x : Option Int64} {K : Int64 → Option ρ} {C : String} {y : MethodName} {bytes : ByteArray} {maxL n fr lo idx tgt b : Nat} {v0 : Int32} {rt : Option FieldType} {As : List Value} (C0 : zC p s m args meth c cc nL own zwl T ret) (hK : va_K D cl tys s) (hA : ∀ q, s.heap.size ≤ q → A q) (Y : zY C y bytes maxL rt n) (hM : ∀ r, x = some r → zMet l y (zw y bytes maxL rt) fr lo (.ref b :: As) D cl tys A Rep fc fs S (zFpl S r)) (hl : Cond.methodLink own idx y ∈ zwl) (hq : T.lookup pc = some (.invokevirtual idx, 3, tgt, v0)) (hn : As.length = n) (hR : fr + 1 ≤ R.frames ∧ 8 + (maxL + 11) + lo ≤ R.locals) (hW : (rest.map fun v => v.category).sum ≤ 8) (hrc : ∀ H, Rep S H → zRc s C b H) (k : ∀ (v1 : Int64), x = some v1 → SO p l e R s m args below meth c nL A Rep fc fs S (pc + 3) lv (.long v1 :: rest) F (K v1)) : SO p l e R s m args below meth c nL A Rep fc fs S pc lv (As.reverse ++ .ref b :: rest) F (zob x K) := by
  intro r hr
  cases x with
  | none => cases hr
  | some a => exact sw_callV C0 hK hA Y (hM a rfl) hl hq hn hR hW hrc (k a rfl r hr)
theorem so_oil {ρ : Type} {F : ρ → σ × Option Value} {x : Option (σ × Int64)} {K : σ → Int64 → Option ρ} {C : String} {y : MethodName} {bytes : ByteArray} {maxL n fr lo idx tgt b : Nat} {v0 : Int32} {rt : Option FieldType} {As : List Value} (C0 : zC p s m args meth c cc nL own zwl T ret) (hK : va_K D cl tys s) (hA : ∀ q, s.heap.size ≤ q → A q) (Y : zY C y bytes maxL rt n) (hM : ∀ r, x = some r → zMet l y (zw y bytes maxL rt) fr lo (.ref b :: As) D cl tys A Rep fc fs S (zFil r)) (hl : Cond.methodLink own idx y ∈ zwl) (hq : T.lookup pc = some (.invokevirtual idx, 3, tgt, v0)) (hn : As.length = n) (hR : fr + 1 ≤ R.frames ∧ 8 + (maxL + 11) + lo ≤ R.locals) (hW : (rest.map fun v => v.category).sum ≤ 8) (hrc : ∀ H, Rep S H → zRc s C b H) (k : ∀ (S1 : σ) (v1 : Int64), x = some (S1, v1) → SO p l e R s m args below meth c nL A Rep fc fs S1 (pc + 3) lv (.long v1 :: rest) F (K S1 v1)) : SO p l e R s m args below meth c nL A Rep fc fs S pc lv (As.reverse ++ .ref b :: rest) F (zob2 x K) := by
  intro r hr
  cases x with
  | none => cases hr
  | some a => exact sw_callV C0 hK hA Y (hM a rfl) hl hq hn hR hW hrc (k a.1 a.2 rfl r hr)
theorem sw_cV {ρ : Type} (F : ρ → σ × Option Value) {x : σ} {K : σ → ρ} {C : String} {y : MethodName} {bytes : ByteArray} {maxL n fr lo idx tgt b : Nat} {v0 : Int32} {rt : Option FieldType} {As : List Value} (C0 : zC p s m args meth c cc nL own zwl T ret) (hK : va_K D cl tys s) (hA : ∀ q, s.heap.size ≤ q → A q) (Y : zY C y bytes maxL rt n) (hM : zMet l y (zw y bytes maxL rt) fr lo (.ref b :: As) D cl tys A Rep fc fs S (zFv x)) (hl : Cond.methodLink own idx y ∈ zwl) (hq : T.lookup pc = some (.invokevirtual idx, 3, tgt, v0)) (hn : As.length = n) (hR : fr + 1 ≤ R.frames ∧ 8 + (maxL + 11) + lo ≤ R.locals) (hW : (rest.map fun v => v.category).sum ≤ 8) (hrc : ∀ H, Rep S H → zRc s C b H) (k : ∀ S1 : σ, S1 = x → SW p l e R s m args below meth c nL A Rep fc fs S1 (pc + 3) lv rest (F (K S1))) : SW p l e R s m args below meth c nL A Rep fc fs S pc lv (As.reverse ++ .ref b :: rest) (F (zbind x K)) := sw_callV C0 hK hA Y hM hl hq hn hR hW hrc (k x rfl)
theorem so_cV {ρ : Type} {F : ρ → σ × Option Value} {x : σ} {K : σ → Option ρ} {C : String} {y : MethodName} {bytes : ByteArray} {maxL n fr lo idx tgt b : Nat} {v0 : Int32} {rt : Option FieldType} {As : List Value} (C0 : zC p s m args meth c cc nL own zwl T ret) (hK : va_K D cl tys s) (hA : ∀ q, s.heap.size ≤ q → A q) (Y : zY C y bytes maxL rt n) (hM : zMet l y (zw y bytes maxL rt) fr lo (.ref b :: As) D cl tys A Rep fc fs S (zFv x)) (hl : Cond.methodLink own idx y ∈ zwl) (hq : T.lookup pc = some (.invokevirtual idx, 3, tgt, v0)) (hn : As.length = n) (hR : fr + 1 ≤ R.frames ∧ 8 + (maxL + 11) + lo ≤ R.locals) (hW : (rest.map fun v => v.category).sum ≤ 8) (hrc : ∀ H, Rep S H → zRc s C b H) (k : ∀ S1 : σ, S1 = x → SO p l e R s m args below meth c nL A Rep fc fs S1 (pc + 3) lv rest F (K S1)) : SO p l e R s m args below meth c nL A Rep fc fs S pc lv (As.reverse ++ .ref b :: rest) F (zbind x K) := fun r hr => sw_callV C0 hK hA Y hM hl hq hn hR hW hrc (k x rfl r hr)
theorem so_oV {ρ : Type} {F : ρ → σ × Option Value} {x : Option σ} {K : σ → Option ρ} {C : String} {y : MethodName} {bytes : ByteArray} {maxL n fr lo idx tgt b : Nat} {v0 : Int32} {rt : Option FieldType} {As : List Value} (C0 : zC p s m args meth c cc nL own zwl T ret) (hK : va_K D cl tys s) (hA : ∀ q, s.heap.size ≤ q → A q) (Y : zY C y bytes maxL rt n) (hM : ∀ r, x = some r → zMet l y (zw y bytes maxL rt) fr lo (.ref b :: As) D cl tys A Rep fc fs S (zFv r)) (hl : Cond.methodLink own idx y ∈ zwl) (hq : T.lookup pc = some (.invokevirtual idx, 3, tgt, v0)) (hn : As.length = n) (hR : fr + 1 ≤ R.frames ∧ 8 + (maxL + 11) + lo ≤ R.locals) (hW : (rest.map fun v => v.category).sum ≤ 8) (hrc : ∀ H, Rep S H → zRc s C b H) (k : ∀ S1 : σ, x = some S1 → SO p l e R s m args below meth c nL A Rep fc fs S1 (pc + 3) lv rest F (K S1)) : SO p l e R s m args below meth c nL A Rep fc fs S pc lv (As.reverse ++ .ref b :: rest) F (zob x K) := by
  intro r hr
  cases x with
  | none => cases hr
  | some a => exact sw_callV C0 hK hA Y (hM a rfl) hl hq hn hR hW hrc (k a rfl r hr)
/-- from the body to the contract -/
theorem zMet_of {y : MethodName} {bytes : ByteArray} {maxL fr lo : Nat} {rt : Option FieldType} {argsL : List Value} (hm : fc S ≤ fc E.1 ∧ fs S ≤ fs E.1) (hy : plainName y.cls = true) (hT : zTok bytes maxL T) (hlen : (lg_sl argsL).length ≤ maxL)
    (body : ∀ (p : Program) (e : Env) (R : Room) (s : State) (m : MethodId) (args : Array Value) (below : List Frame) (meth : Method) (c : Code), R.frames = fr → R.locals = lo → zC p s m args meth c bytes maxL y.cls zwl T rt → va_K D cl tys s → (∀ q, s.heap.size ≤ q → A q) → SW p l e R s m args below meth c maxL A Rep fc fs S 0 (lv_args 0 argsL) [] E) :
    zMet l y (zw y bytes maxL rt) fr lo argsL D cl tys A Rep fc fs S E := by
  refine ⟨hm.1, hm.2, Met.ofW (cc := bytes) (maxL := maxL) (ret := rt) hy rfl ?_⟩
  intro p e s m args below meth c s₁ B hml hv
  obtain ⟨rfl, hRep, hK, hA⟩ := hv
  have hts := atoms_spec (ws := zw y bytes maxL rt) B.pre
  have hown : s.vm.findClass y.cls = some m.cls := findClass_of_methodNamed B.named
  have C0 : zC p s m argsL.toArray meth c bytes maxL y.cls zwl T rt := ⟨B.exec, B.bytes, hml, hown, fun w hw => hts w (List.mem_cons_of_mem _ hw), hT, B.returns, B.notSynchronized⟩
  have K := (body p e (headSpec (zw y bytes maxL rt) { frames := fr, cells := fc E.1 - fc S, slots := fs E.1 - fs S, locals := lo }).room s m argsL.toArray below meth c rfl rfl C0 hK hA).2.2
  have hl := lv_entry argsL (n := maxL) hlen
  rw [lg_entry_eq]
  exact K s.heap [] 0 0 _ hRep va_S.rf (by show 0 + fc E.1 ≤ (fc E.1 - fc S) + fc S; omega) (by show 0 + fs E.1 ≤ (fs E.1 - fs S) + fs S; omega) hl
end ZSW
