-- CONSTRUCTORS: the object under work first, then what has been made
def kQ {ι : Type} (D : va_G) (w : (ι → va_W) × Option Value) (A : Nat → Prop) : Array Value → State → Outcome → State → Prop := fun _ st oc t => oc = .returned w.2 ∧ (∃ x, va_P D zcl (w.1 x) t.heap ∧ va_D A (w.1 x)) ∧ va_F A st t
def kPre (argsL : List Value) (D : va_G) (cA : Nat → ClassId) (h0 : Nat) (e0 : va_E) (sz : Nat) : Array Value → State → Prop := va_Pc argsL (fun U => U.heap.size = sz ∧ va_P D zcl [(h0, e0)] U.heap ∧ va_K D zcl (ztys cA) U ∧ va_D (fun _ => True) [(h0, e0)])
def kMet (l : Launch) (y : MethodName) (ws : List Cond) (fr lo : Nat) (argsL : List Value) (D : va_G) (cA : Nat → ClassId) (h0 : Nat) (e0 : va_E) {ι : Type} (w : ι → va_W) (mc ms : Nat) : Prop :=
  ∀ sz, Met l y ws { frames := fr, cells := mc, slots := ms, locals := lo } (kPre argsL D cA h0 e0 sz) (kQ D (w, none) (va_A [(h0, e0)] sz)) mc ms (va_A [(h0, e0)] sz)
theorem kPre_blind {argsL : List Value} {D : va_G} {cA : Nat → ClassId} {h0 : Nat} {e0 : va_E} {sz : Nat} : FrameBlind (kPre argsL D cA h0 e0 sz) := fun a U g mk q => by
  obtain ⟨q0, q1, qP, qK, qD⟩ := q
  exact ⟨q0, q1, qP, va_K.moved (u := U) (U := U.calling g mk a) (Vm.Alike.refl U.vm) qK, qD⟩
theorem zD1 {A : Nat → Prop} {q : Nat × va_E} (h : A q.1) : va_D A [q] := by
  refine ⟨fun i j x y hx hy _ => ?_, fun k x hx => ?_⟩
  · have h1 := (List.getElem?_eq_some_iff.mp hx).1
    have h2 := (List.getElem?_eq_some_iff.mp hy).1
    simp at h1 h2
    omega
  · have h1 := (List.getElem?_eq_some_iff.mp hx).1
    simp at h1
    subst h1
    cases hx
    exact h
theorem va_nd_range : ∀ n, va_nd (List.range n) = true := by
  intro n
  have key : ∀ l : List Nat, l.Nodup → va_nd l = true := by
    intro l
    induction l with
    | nil => intro _; rfl
    | cons a r ih =>
      intro h
      have h := List.nodup_cons.mp h
      unfold va_nd
      simp [h.1, ih h.2]
  exact key _ List.nodup_range
/-- the last cell of a world is worked at: the others stay -/
theorem join_last {A : Nat → Prop} {D : va_G} {W w1 : va_W} {q : Nat × va_E} {H H1 : Heap} (hP : va_P D zcl (W ++ [q]) H) (hD : va_D A (W ++ [q])) (hA : ∀ x, H.size ≤ x → A x) (hk : ∀ x : Nat, x < H.size → ¬ va_A [q] H.size x → H1[x]? = H[x]?) (hP1 : va_P D zcl w1 H1) (hD1 : va_D (va_A [q] H.size) w1) : va_P D zcl (W ++ w1) H1 ∧ va_D A (W ++ w1) := by
  refine va_join (ws := W ++ [q]) (wc := [q]) (wr := W) hP hD [W.length] (List.range W.length) (by simp) ?_ (va_nd_range _) (fun i hi => ?_) hk (fun x hx => ?_) hP1 hD1
  · apply List.ext_getElem?
    intro i
    by_cases hi : i < W.length
    · simp [hi, List.getElem?_append_left hi]
    · rw [List.getElem?_eq_none (by simp; omega), List.getElem?_eq_none (by simp; omega)]
  · have := List.mem_range.mp hi
    simp; omega
  · rcases hx with ⟨j, e, h⟩ | h
    · have h1 := (List.getElem?_eq_some_iff.mp h).1
      simp at h1
      subst h1
      cases h
      exact hD.2 W.length (x, e) (by simp)
    · exact hA x h
section KW
variable {p : Program} {l : Launch} {e : Env} {R : Room} {s : State} {m : MethodId} {args : Array Value} {below : List Frame} {meth : Method} {c : Code} {nL : Nat} {A : Nat → Prop} {cc : ByteArray} {T : List zTr} {own : String} {ret : Option FieldType} {D : va_G} {cA : Nat → ClassId} {pc : Nat} {lv : zLv} {st rest : List Value} {ci h0 cells slots : Nat} {fs : List Value} {Wd : va_W} {ι : Type} {w : (ι → va_W) × Option Value}
def KW (p : Program) (l : Launch) (e : Env) (R : Room) (s : State) (m : MethodId) (args : Array Value) (below : List Frame) (meth : Method) (c : Code) (nL : Nat) (A : Nat → Prop) (D : va_G) (h0 ci : Nat) (fs : List Value) (Wd : va_W) (cells slots pc : Nat) (lv : zLv) (st : List Value) {ι : Type} (w : (ι → va_W) × Option Value) : Prop :=
  ∀ (H : Heap) (locs : List Loc) (ls : Array Slot), va_P D zcl ((h0, .inr (ci, fs)) :: Wd) H → va_D A ((h0, .inr (ci, fs)) :: Wd) → va_S A s.heap H locs → lv_has ls nL lv → W p l e R s m args below meth c H locs cells slots (MQ below (kQ D w A) args s R.cells R.slots A) (F0 m pc ls st)
theorem kw_go (C0 : zC p s m args meth c cc nL own zwl T ret) (n : Nat) {pc' : Nat} {lv' : zLv} {st' : List Value} (h : zrun T n pc lv st = some (pc', lv', st')) (k : KW p l e R s m args below meth c nL A D h0 ci fs Wd cells slots pc' lv' st' w) : KW p l e R s m args below meth c nL A D h0 ci fs Wd cells slots pc lv st w := by
  obtain ⟨hx, hb, hml, hown, hts, hT, hr, hlocks⟩ := C0
  exact fun H locs ls h1 h2 h3 h5 => zrun_ok hx hb hT n pc lv st h h5 (fun ls' hl' => k H locs ls' h1 h2 h3 hl')
theorem kw_oi (C0 : zC p s m args meth c cc nL own zwl T ret) {idx tgt a : Nat} {v0 : Int32} (hl : Cond.methodLink own idx Lib.objectInit ∈ zwl) (hf : 1 ≤ R.frames) (hlo : 20 ≤ R.locals) (hW : (rest.map fun v => v.category).sum ≤ 8) (hq : T.lookup pc = some (.invokespecial idx, 3, tgt, v0)) (k : KW p l e R s m args below meth c nL A D h0 ci fs Wd cells slots (pc + 3) lv rest w) : KW p l e R s m args below meth c nL A D h0 ci fs Wd cells slots pc lv (.ref a :: rest) w := by
  obtain ⟨hx, hb, hml, hown, hts, hT, hr, hlocks⟩ := C0
  exact fun H locs ls h1 h2 h3 h5 => W.objInit hx hb hown (hts _ hl) (hts _ wd_1_22) (hts _ wd_1_23) rfl (by rw [hml]; exact h5.1) rfl (hT.dec hq) hf (by show 2 * 0 + (rest.map fun v => v.category).sum + 12 ≤ R.locals; omega) (k H locs ls h1 h2 h3 h5)
/-- a field of the object under work is put: one that is final, one that isn't -/
theorem kw_putF (C0 : zC p s m args meth c cc nL own zwl T ret) (hK : va_K D zcl (ztys cA) s) (hin2 : meth.name = "<init>") {j idx tgt N : Nat} {v0 : Int32} {v : Value} {Cn : String} {Tf : u_T} {ty0 : Nat → FieldType} {ty : FieldType} (hc : zcl[ci]? = some (Cn, Tf, N)) (hin : ∀ w ∈ u_ws Cn Tf N, w ∈ zwl) (hty : ∀ k, k < N → parseFieldDescriptor (Tf k).2.2.1 = some (ty0 k)) (hnm : ∀ a, a < N → ∀ b, b < N → a ≠ b → (Tf a).2.1 ≠ (Tf b).2.1) (hj : j < N) (hjl : j < fs.length) (hfin : (Tf j).2.2.2 = true) (hdecl : (Tf j).1 = own) (hd : parseFieldDescriptor (Tf j).2.2.1 = some ty) (hn : narrow ty v = v) (hfit : fits ty v = true) (hl : Cond.fieldLink own idx (Tf j).1 (Tf j).2.1 (Tf j).2.2.1 ∈ zwl) (hq : T.lookup pc = some (.putfield idx, 3, tgt, v0))
    (k : KW p l e R s m args below meth c nL A D h0 ci (fs.set j v) Wd cells slots (pc + 3) lv rest w) : KW p l e R s m args below meth c nL A D h0 ci fs Wd cells slots pc lv (v :: .ref h0 :: rest) w := by
  obtain ⟨hx, hb, hml, hown, hts, hT, hr, hlocks⟩ := C0
  exact fun H locs ls h1 h2 h3 h5 => va_putF (D := D) (cl := zcl) (tys := ztys cA) (ci := ci) (ty := ty) hx hb hts hin ty0 hty hnm hown hK h1 h2 h3 0 rfl hc j hj (hts _ hl) (fun _ h9 => h9) hfin hin2 hdecl hd hn hfit hjl (hT.dec hq) (fun H1 locs1 hP1 hD1 hS1 => k H1 locs1 ls hP1 hD1 hS1 h5)
theorem kw_put (C0 : zC p s m args meth c cc nL own zwl T ret) (hK : va_K D zcl (ztys cA) s) {j idx tgt N : Nat} {v0 : Int32} {v : Value} {Cn : String} {Tf : u_T} {ty0 : Nat → FieldType} {ty : FieldType} (hc : zcl[ci]? = some (Cn, Tf, N)) (hin : ∀ w ∈ u_ws Cn Tf N, w ∈ zwl) (hty : ∀ k, k < N → parseFieldDescriptor (Tf k).2.2.1 = some (ty0 k)) (hnm : ∀ a, a < N → ∀ b, b < N → a ≠ b → (Tf a).2.1 ≠ (Tf b).2.1) (hj : j < N) (hjl : j < fs.length) (hfin : (Tf j).2.2.2 = false) (hd : parseFieldDescriptor (Tf j).2.2.1 = some ty) (hn : narrow ty v = v) (hfit : fits ty v = true) (hl : Cond.fieldLink own idx (Tf j).1 (Tf j).2.1 (Tf j).2.2.1 ∈ zwl) (hq : T.lookup pc = some (.putfield idx, 3, tgt, v0))
    (k : KW p l e R s m args below meth c nL A D h0 ci (fs.set j v) Wd cells slots (pc + 3) lv rest w) : KW p l e R s m args below meth c nL A D h0 ci fs Wd cells slots pc lv (v :: .ref h0 :: rest) w := by
  obtain ⟨hx, hb, hml, hown, hts, hT, hr, hlocks⟩ := C0
  exact fun H locs ls h1 h2 h3 h5 => va_put (D := D) (cl := zcl) (tys := ztys cA) (ci := ci) (ty := ty) hx hb hts hin ty0 hty hnm hown hK h1 h2 h3 0 rfl hc j hj (hts _ hl) (fun _ h9 => h9) hfin hd hn hfit hjl (hT.dec hq) (fun H1 locs1 hP1 hD1 hS1 => k H1 locs1 ls hP1 hD1 hS1 h5)
theorem kw_get (C0 : zC p s m args meth c cc nL own zwl T ret) (hK : va_K D zcl (ztys cA) s) {j idx tgt N : Nat} {v0 : Int32} {v : Value} {Cn : String} {Tf : u_T} (hc : zcl[ci]? = some (Cn, Tf, N)) (hin : ∀ w ∈ u_ws Cn Tf N, w ∈ zwl) (hj : j < N) (hv : fs[j]? = some v) (hl : Cond.fieldLink own idx (Tf j).1 (Tf j).2.1 (Tf j).2.2.1 ∈ zwl) (hq : T.lookup pc = some (.getfield idx, 3, tgt, v0))
    (k : KW p l e R s m args below meth c nL A D h0 ci fs Wd cells slots (pc + 3) lv (v :: rest) w) : KW p l e R s m args below meth c nL A D h0 ci fs Wd cells slots pc lv (.ref h0 :: rest) w := by
  obtain ⟨hx, hb, hml, hown, hts, hT, hr, hlocks⟩ := C0
  exact fun H locs ls h1 h2 h3 h5 => va_get (D := D) (cl := zcl) (tys := ztys cA) (ci := ci) hx hb hts hin hown hK h1 0 rfl hc j hj (hts _ hl) (fun _ h => h) hv (hT.dec hq) (k H locs ls h1 h2 h3 h5)
/-- a new object, a new array -/
theorem kw_new (C0 : zC p s m args meth c cc nL own zwl T ret) (hK : va_K D zcl (ztys cA) s) (hA : ∀ q, s.heap.size ≤ q → A q) {cj idx tgt N : Nat} {v0 : Int32} {Cn : String} {Tf : u_T} {ty0 : Nat → FieldType} {gs : List Value} (hc : zcl[cj]? = some (Cn, Tf, N)) (hin : ∀ w ∈ u_ws Cn Tf N, w ∈ zwl) (hty : ∀ k, k < N → parseFieldDescriptor (Tf k).2.2.1 = some (ty0 k)) (hgs : ∀ j, j < N → defaultValue (ty0 j) = vp_V gs j) (h1 : Cond.classLink own idx Cn ∈ zwl) (h2 : Cond.instantiable Cn N ∈ zwl) (h3 : Cond.initialized Cn ∈ zwl) (hcells : cells + 1 ≤ R.cells) (hslots : slots + N ≤ R.slots) (hq : T.lookup pc = some (.new idx, 3, tgt, v0))
    (k : ∀ q, KW p l e R s m args below meth c nL A D h0 ci fs (Wd ++ [(q, .inr (cj, gs))]) (cells + 1) (slots + N) (pc + 3) lv (.ref q :: st) w) : KW p l e R s m args below meth c nL A D h0 ci fs Wd cells slots pc lv st w := by
  obtain ⟨hx, hb, hml, hown, hts, hT, hr, hlocks⟩ := C0
  exact fun H locs ls g1 g2 g3 g5 => va_new (D := D) (cl := zcl) (tys := ztys cA) (ci := cj) (fs := gs) hx hb hts hin ty0 hty hown (hts _ h1) (hts _ h2) (hts _ h3) hK g1 g2 g3 hA hc hgs hcells hslots (hT.dec hq) (fun q H1 hP1 hD1 hS1 => k q H1 locs ls hP1 hD1 hS1 g5)
theorem kw_newa (C0 : zC p s m args meth c cc nL own zwl T ret) (hK : va_K D zcl (ztys cA) s) (hA : ∀ q, s.heap.size ≤ q → A q) {t N tgt : Nat} {atype : ArrayType} {ty : FieldType} {v0 n : Int32} {a0 : vp_A} (ht : (ztys cA)[t]? = some (cA t, ty)) (hty : newarray.typeOf atype = ty) (hw : Cond.arrayClass ty ∈ zwl) (ha : ∀ cB : ClassId, vp_cell cB a0 = arrV cB N (fun _ => defaultValue ty)) (hn : n = nI N) (hN : N * componentBytes ty ≤ 536870912) (hN2 : N < 2147483648) (hid : ∀ a b : ClassId, va_RA s a ty → va_RA s b ty → a = b) (hcells : cells + 1 ≤ R.cells) (hslots : slots + N ≤ R.slots) (hq : T.lookup pc = some (.newarray atype, 2, tgt, v0))
    (k : ∀ q, KW p l e R s m args below meth c nL A D h0 ci fs (Wd ++ [(q, .inl (cA t, a0))]) (cells + 1) (slots + N) (pc + 2) lv (.ref q :: rest) w) : KW p l e R s m args below meth c nL A D h0 ci fs Wd cells slots pc lv (.int n :: rest) w := by
  obtain ⟨hx, hb, hml, hown, hts, hT, hr, hlocks⟩ := C0
  intro H locs ls g1 g2 g3 g5
  refine va_newa (D := D) (cl := zcl) (tys := ztys cA) (ty := ty) (a0 := a0) (N' := N) hx hb (by rw [hty]; exact hts _ hw) hty hK g1 g2 g3 hA ha (by rw [hn]; exact nI_pos (by omega)) (by rw [hn]; exact nI_clamp (by omega)) hN hcells hslots (hT.dec hq) (fun q cB H1 hK1 hP1 hD1 hS1 => ?_)
  have e : cB = cA t := hid _ _ (hK1.2 5 (cB, ty) rfl).2 (hK.2 t (cA t, ty) ht).2
  subst e
  exact k q H1 locs ls hP1 hD1 hS1 g5
/-- the last object is handed to its constructor -/
theorem kw_call (C0 : zC p s m args meth c cc nL own zwl T ret) (hK : va_K D zcl (ztys cA) s) (hA : ∀ q, s.heap.size ≤ q → A q) {y : MethodName} {bytes : ByteArray} {maxL n fr lo idx tgt q mc ms : Nat} {v0 : Int32} {As : List Value} {e1 : va_E} {κ : Type} {w1 : κ → va_W} (hM : kMet l y (zw y bytes maxL none) fr lo (.ref q :: As) D cA q e1 w1 mc ms)
    (hcode : Cond.code y bytes maxL none ∈ zwl) (hini : Cond.initialized y.cls ∈ zwl) (hl : Cond.methodLink own idx y ∈ zwl) (him : Cond.instanceMethod y ∈ zwl) (hy : y.name = "<init>") (hd : y.cls ≠ "java/lang/invoke/MethodHandle" ∧ y.cls ≠ "java/lang/invoke/VarHandle" ∧ (parseMethodDescriptor y.desc).map (fun d => d.parameters.length) = some n) (hn : As.length = n) (hR : fr + 1 ≤ R.frames ∧ 8 + (maxL + 11) + lo ≤ R.locals) (hW : (rest.map fun v => v.category).sum ≤ 8) (hcells : cells + mc ≤ R.cells) (hslots : slots + ms ≤ R.slots) (hq : T.lookup pc = some (.invokespecial idx, 3, tgt, v0))
    (k : ∀ x, KW p l e R s m args below meth c nL A D h0 ci fs (Wd ++ w1 x) (cells + mc) (slots + ms) (pc + 3) lv rest w) : KW p l e R s m args below meth c nL A D h0 ci fs (Wd ++ [(q, e1)]) cells slots pc lv (As.reverse ++ .ref q :: rest) w := by
  obtain ⟨hx, hb, hml, hown, hts, hT, hr, hlocks⟩ := C0
  intro H locs ls g1 g2 g3 g5
  have hG : GoodIn zwl (zw y bytes maxL none) := by
    intro x hx
    rcases List.mem_cons.mp hx with rfl | h
    · exact zgood _ hcode
    · exact zgood _ h
  have hwq : va_at D zcl (q, e1) H := g1 (Wd.length + 1) _ (by simp)
  have run := va_runI (p := p) (l := l) (e := e) (below := below) (meth := meth) (c := c) (H := H) (locs := locs) (cells := cells) (slots := slots) (g := F0 m pc ls (As.reverse ++ .ref q :: rest)) (As := As) (rest := rest) ⟨hx, hb, hml, hown, hts⟩ (hM H.size) (cwI n hts hG rfl rfl rfl (hts _ hini) (hts _ hl) (hts _ him) hy hd hR) ⟨kPre_blind, fun U hU hW2 => ⟨rfl, by rw [hU], by rw [hU]; exact zP1 hwq, va_K.moved hW2.alike hK, zD1 trivial⟩⟩ rfl hn g5.1 rfl (lv_room hW) (hT.dec hq) ⟨hcells, hslots⟩
  intro T0 hT0 X
  obtain ⟨v, st₀, t, T', L, h0', X', hL, e1', e2, ⟨hv, ⟨x, hP1, hD1⟩, hz, hk⟩, stp⟩ := run T0 hT0 X
  cases hv
  rw [h0'] at hz hk
  have hAq : ∀ z, va_A [(q, e1)] H.size z → A z := by
    intro z hz
    rcases hz with ⟨j, e, h⟩ | h
    · have h1 := (List.getElem?_eq_some_iff.mp h).1
      simp at h1
      subst h1
      cases h
      exact g2.2 (Wd.length + 1) (q, e1) (by simp)
    · exact hA z (Nat.le_trans g3.1 h)
  have J := join_last (W := (h0, .inr (ci, fs)) :: Wd) (q := (q, e1)) (w1 := w1 x) (H := H) (H1 := t.heap) g1 g2 (fun z hz => hA z (Nat.le_trans g3.1 hz)) (fun z a b => hk z a b) hP1 hD1
  obtain ⟨t2, a1, b1⟩ := k x T'.heap (locs ++ L) ls (by rw [e1']; exact J.1) J.2
    ⟨Nat.le_trans g3.1 (by rw [e1']; exact hz), fun z f1 f2 => by rw [e1', hk z (Nat.lt_of_lt_of_le f1 g3.1) (fun zz => f2 (hAq z zz))]; exact g3.2.1 z f1 f2, fun z hz => by
      rcases List.mem_append.mp hz with h | h
      · exact g3.2.2 z h
      · exact hAq _ (hL z h)⟩ g5 T' rfl X'
  exact ⟨t2, stp t2 a1, b1⟩
theorem kw_ret (C0 : zC p s m args meth c cc nL own zwl T none) {tgt : Nat} {v0 : Int32} (x : ι) (hx0 : w.1 x = (h0, .inr (ci, fs)) :: Wd) (hv0 : w.2 = none) (hcells : cells ≤ R.cells) (hslots : slots ≤ R.slots) (hq : T.lookup pc = some (.return_, 1, tgt, v0)) : KW p l e R s m args below meth c nL A D h0 ci fs Wd cells slots pc lv [] w := by
  obtain ⟨hx, hb, hml, hown, hts, hT, hr, hlocks⟩ := C0
  intro H locs ls g1 g2 g3 g5
  refine W.widen (k := R.cells) (n := R.slots) hcells hslots ?_
  exact W.vret hx hb hr (fun t ht hW => ⟨by rw [hv0], ⟨x, by rw [ht, hx0]; exact g1, by rw [hx0]; exact g2⟩, g3.F ht⟩) g3.2.2 (hT.dec hq) hlocks
theorem kw_reti (C0 : zC p s m args meth c cc nL own zwl T (some .int)) {tgt : Nat} {v0 r : Int32} (x : ι) (hx0 : w.1 x = (h0, .inr (ci, fs)) :: Wd) (hv0 : w.2 = some (.int r)) (hcells : cells ≤ R.cells) (hslots : slots ≤ R.slots) (hq : T.lookup pc = some (.ireturn, 1, tgt, v0)) : KW p l e R s m args below meth c nL A D h0 ci fs Wd cells slots pc lv [.int r] w := by
  obtain ⟨hx, hb, hml, hown, hts, hT, hr, hlocks⟩ := C0
  intro H locs ls g1 g2 g3 g5
  refine W.widen (k := R.cells) (n := R.slots) hcells hslots ?_
  exact W.iret hx hb hr (fun t ht hW => ⟨by rw [hv0], ⟨x, by rw [ht, hx0]; exact g1, by rw [hx0]; exact g2⟩, g3.F ht⟩) g3.2.2 (hT.dec hq) hlocks
theorem kMet_of {w : ι → va_W} {y : MethodName} {bytes : ByteArray} {maxL fr lo mc ms : Nat} {argsL : List Value} (hy : plainName y.cls = true) (hn : y.name = "<init>") (hT : zTok bytes maxL T) (hlen : (lg_sl argsL).length ≤ maxL)
    (body : ∀ (p : Program) (e : Env) (R : Room) (s : State) (m : MethodId) (args : Array Value) (below : List Frame) (meth : Method) (c : Code) (A : Nat → Prop), R.frames = fr → R.locals = lo → R.cells = mc → R.slots = ms → zC p s m args meth c bytes maxL y.cls zwl T none → va_K D zcl (ztys cA) s → (∀ q, s.heap.size ≤ q → A q) → meth.name = "<init>" → KW p l e R s m args below meth c maxL A D h0 ci fs [] 0 0 0 (lv_args 0 argsL) [] (w, none)) :
    kMet l y (zw y bytes maxL none) fr lo argsL D cA h0 (.inr (ci, fs)) w mc ms := by
  intro sz
  refine Met.ofW (cc := bytes) (maxL := maxL) (ret := none) hy rfl ?_
  intro p e s m args below meth c s₁ B hml hv
  obtain ⟨rfl, hsz, hP, hK, hD0⟩ := hv
  have hts := atoms_spec (ws := zw y bytes maxL none) B.pre
  have hown : s.vm.findClass y.cls = some m.cls := findClass_of_methodNamed B.named
  have hin : meth.name = "<init>" := (name_of_methodNamed B.named B.method).1.trans hn
  subst hsz
  have hD := hD0.self (sz := s.heap.size)
  have C0 : zC p s m argsL.toArray meth c bytes maxL y.cls zwl T none := ⟨B.exec, B.bytes, hml, hown, fun w hw => hts w (List.mem_cons_of_mem _ hw), hT, B.returns, B.notSynchronized⟩
  have hl := lv_entry argsL (n := maxL) hlen
  rw [lg_entry_eq]
  exact body p e (headSpec (zw y bytes maxL none) { frames := fr, cells := mc, slots := ms, locals := lo }).room s m argsL.toArray below meth c (va_A [(h0, .inr (ci, fs))] s.heap.size) rfl rfl rfl rfl C0 hK (fun q h => Or.inr h) hin s.heap [] _ hP hD va_S.rf hl
theorem vaP_mem {cl : List vw_C} {ws : va_W} {H : Heap} : va_P D cl ws H ↔ ∀ q ∈ ws, va_at D cl q H := by
  refine ⟨fun h q hq => ?_, fun h k q hk => h q (List.mem_of_getElem? hk)⟩
  obtain ⟨k, hk⟩ := List.getElem?_of_mem hq
  exact h k q hk
theorem vaD_mem {ws : va_W} : va_D A ws ↔ (ws.map Prod.fst).Nodup ∧ ∀ q ∈ ws, A q.1 := by
  constructor
  · intro h
    refine ⟨?_, fun q hq => ?_⟩
    · rw [List.nodup_iff_pairwise_ne, List.pairwise_iff_getElem]
      intro i j hi hj hij e
      simp only [List.length_map] at hi hj
      simp only [List.getElem_map] at e
      have := h.1 i j _ _ (List.getElem?_eq_getElem hi) (List.getElem?_eq_getElem hj) e
      omega
    · obtain ⟨k, hk⟩ := List.getElem?_of_mem hq
      exact h.2 k q hk
  · rintro ⟨h1, h2⟩
    refine ⟨fun i j x y hx hy e => ?_, fun k q hk => h2 q (List.mem_of_getElem? hk)⟩
    obtain ⟨hi, rfl⟩ := List.getElem?_eq_some_iff.mp hx
    obtain ⟨hj, rfl⟩ := List.getElem?_eq_some_iff.mp hy
    rw [List.nodup_iff_pairwise_ne, List.pairwise_iff_getElem] at h1
    rcases Nat.lt_trichotomy i j with h | h | h
    · have h9 := h1 i j (by simpa using hi) (by simpa using hj) h
      rw [List.getElem_map, List.getElem_map] at h9
      exact absurd e h9
    · exact h
    · have h9 := h1 j i (by simpa using hj) (by simpa using hi) h
      rw [List.getElem_map, List.getElem_map] at h9
      exact absurd e.symm h9
/-- some cells in the middle of a world are worked at: the others stay -/
theorem join_mid {W1 wc w1 W2 : va_W} {H H1 : Heap} (hP : va_P D zcl (W1 ++ (wc ++ W2)) H) (hD : va_D A (W1 ++ (wc ++ W2))) (hA : ∀ x, H.size ≤ x → A x) (hk : ∀ x : Nat, x < H.size → ¬ va_A wc H.size x → H1[x]? = H[x]?) (hP1 : va_P D zcl w1 H1) (hD1 : va_D (va_A wc H.size) w1) : va_P D zcl (W1 ++ (w1 ++ W2)) H1 ∧ va_D A (W1 ++ (w1 ++ W2)) := by
  rw [vaP_mem] at hP hP1
  rw [vaD_mem] at hD hD1
  obtain ⟨d1, d2⟩ := hD
  obtain ⟨e1, e2⟩ := hD1
  simp only [List.map_append, List.nodup_append, List.mem_append] at d1
  obtain ⟨n1, ⟨n2, n3, n4⟩, n5⟩ := d1
  have inA : ∀ x, va_A wc H.size x → (∃ q ∈ wc, q.1 = x) ∨ H.size ≤ x := by
    rintro x (⟨k, e, h⟩ | h)
    · exact Or.inl ⟨_, List.mem_of_getElem? h, rfl⟩
    · exact Or.inr h
  have out1 : ∀ q ∈ W1, q.1 < H.size ∧ ¬ va_A wc H.size q.1 := by
    intro q hq
    have hl := (hP q (by simp [hq])).lt
    refine ⟨hl, fun h => ?_⟩
    rcases inA _ h with ⟨r, hr, he⟩ | h
    · exact n5 q.1 (List.mem_map.mpr ⟨q, hq, rfl⟩) q.1 (Or.inl (List.mem_map.mpr ⟨r, hr, he⟩)) rfl
    · omega
  have out2 : ∀ q ∈ W2, q.1 < H.size ∧ ¬ va_A wc H.size q.1 := by
    intro q hq
    have hl := (hP q (by simp [hq])).lt
    refine ⟨hl, fun h => ?_⟩
    rcases inA _ h with ⟨r, hr, he⟩ | h
    · exact n4 q.1 (List.mem_map.mpr ⟨r, hr, he⟩) q.1 (List.mem_map.mpr ⟨q, hq, rfl⟩) rfl
    · omega
  refine ⟨vaP_mem.mpr (fun q hq => ?_), vaD_mem.mpr ⟨?_, fun q hq => ?_⟩⟩
  · rcases List.mem_append.mp hq with h | h
    · exact (hP q (by simp [h])).kept (hk _ (out1 q h).1 (out1 q h).2)
    · rcases List.mem_append.mp h with h | h
      · exact hP1 q h
      · exact (hP q (by simp [h])).kept (hk _ (out2 q h).1 (out2 q h).2)
  · simp only [List.map_append, List.nodup_append, List.mem_append]
    refine ⟨n1, ⟨e1, n3, fun a ha b hb he => ?_⟩, fun a ha b hb he => ?_⟩
    · obtain ⟨q, hq, rfl⟩ := List.mem_map.mp ha
      obtain ⟨r, hr, rfl⟩ := List.mem_map.mp hb
      exact (out2 r hr).2 (he ▸ e2 q hq)
    · obtain ⟨q, hq, rfl⟩ := List.mem_map.mp ha
      rcases hb with hb | hb
      · obtain ⟨r, hr, rfl⟩ := List.mem_map.mp hb
        exact (out1 q hq).2 (he ▸ e2 r hr)
      · exact n5 q.1 ha b (Or.inr hb) he
  · rcases List.mem_append.mp hq with h | h
    · exact d2 q (by simp [h])
    · rcases List.mem_append.mp h with h | h
      · rcases inA _ (e2 q h) with ⟨r, hr, he⟩ | h
        · rw [← he]; exact d2 r (by simp [hr])
        · exact hA _ h
      · exact d2 q (by simp [h])
end KW
