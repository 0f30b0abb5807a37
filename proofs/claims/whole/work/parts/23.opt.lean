-- returns, named states, cost that never falls
section ZOP
variable {p : Program} {l : Launch} {e : Env} {R : Room} {s : State} {m : MethodId} {args : Array Value} {below : List Frame} {meth : Method} {c : Code} {nL : Nat} {A : Nat → Prop} {σ : Type} {Rep : σ → Heap → Prop} {fc fs : σ → Nat} {cc : ByteArray} {T : List zTr} {own : String} {Ts : List Cond} {ret : Option FieldType} {S : σ} {pc tgt : Nat} {v0 : Int32} {lv : zLv} {st rest : List Value} {E : σ × Option Value}
/-- a boolean method's answer is its lowest bit -/
def z_b (x : Int32) : Int32 := x &&& 1
theorem W_zretN {H : Heap} {locs : List Loc} {cells slots : Nat} {Qc : Array Value → State → Outcome → State → Prop} {free : Addr → Prop} {v w : Int32} {ty : FieldType} (hexec : p.tables.exec = Jvm.exec) (hb : c.code = cc) (hr : meth.sig.returnType = some ty) (hn : narrow ty (.int v) = .int w)
    (hq : ∀ t : State, t.heap = H → s.WarmedH t.vm → Qc args s (.returned (some (.int w))) t) (hf : ∀ q ∈ locs, free q.base)
    {pc : Nat} {ls : Array Slot} (hdg : decode cc pc = .ok (.ireturn, 1)) (hlocks : meth.locks = false) : W p l e R s m args below meth c H locs cells slots (MQ below Qc args s cells slots free) (F0 m pc ls [.int v]) := by
  intro T hT X
  obtain ⟨fs, hret, hrun, hended, hW, hframe⟩ := X.leave (v := some (.int w)) (fun h => by rw [hr] at h; cases h)
  have hmeth' : T.vm.method? m = some meth := X.method'
  refine ⟨T.setFrames fs, ?_, .returned (some (.int w)), hrun, hended, hq _ hT hW, locs, ⟨⟨_, rfl⟩, hW, hframe⟩, hf⟩
  jvm_step X.here [X.here.top, hexec, hb, hdg, hmeth', hr, hn]
  (try refine ⟨rfl, ?_⟩); (try refine ⟨rfl, ?_⟩)
  first | (intro acts; rw [hret _ acts rfl rfl rfl]) | rw [hret _ _ rfl rfl rfl]
  exact Steps.refl _
theorem z_b_ok (x : Int32) : narrow .boolean (.int x) = .int (z_b x) := rfl
theorem sw_retb (C0 : zC p s m args meth c cc nL own Ts T (some .boolean)) {x : Int32} (hq : T.lookup pc = some (.ireturn, 1, tgt, v0)) (hE : E = (S, some (.int (z_b x)))) : SW p l e R s m args below meth c nL A Rep fc fs S pc lv [.int x] E := by
  obtain ⟨hx, hb, hml, hown, hts, hT, hr, hlocks⟩ := C0
  subst hE
  refine ⟨Nat.le_refl _, Nat.le_refl _, fun H locs cells slots ls h1 h2 h3 h4 h5 => ?_⟩
  refine W.widen (k := R.cells) (n := R.slots) (by dsimp only at h3; omega) (by dsimp only at h4; omega) ?_
  exact W_zretN hx hb hr (z_b_ok x) (fun t ht hW => ⟨rfl, by rw [ht]; exact h1, h2.F ht⟩) h2.2.2 (hT.dec hq) hlocks
theorem so_reti {ρ : Type} {F : ρ → σ × Option Value} {w : ρ} (C0 : zC p s m args meth c cc nL own Ts T (some .int)) {x : Int32} (hq : T.lookup pc = some (.ireturn, 1, tgt, v0)) (hE : F w = (S, some (.int x))) : SO p l e R s m args below meth c nL A Rep fc fs S pc lv [.int x] F (some w) := fun r hr => by cases hr; exact sw_reti C0 hq hE
theorem so_retz {ρ : Type} {F : ρ → σ × Option Value} {w : ρ} (C0 : zC p s m args meth c cc nL own Ts T (some .boolean)) {x : Int32} (hq : T.lookup pc = some (.ireturn, 1, tgt, v0)) (hn : narrow .boolean (.int x) = .int x) (hE : F w = (S, some (.int x))) : SO p l e R s m args below meth c nL A Rep fc fs S pc lv [.int x] F (some w) := fun r hr => by cases hr; exact sw_retz C0 hq hn hE
theorem so_retb {ρ : Type} {F : ρ → σ × Option Value} {w : ρ} (C0 : zC p s m args meth c cc nL own Ts T (some .boolean)) {x : Int32} (hq : T.lookup pc = some (.ireturn, 1, tgt, v0)) (hE : F w = (S, some (.int (z_b x)))) : SO p l e R s m args below meth c nL A Rep fc fs S pc lv [.int x] F (some w) := fun r hr => by cases hr; exact sw_retb C0 hq hE
theorem so_retl {ρ : Type} {F : ρ → σ × Option Value} {w : ρ} (C0 : zC p s m args meth c cc nL own Ts T (some .long)) {x : Int64} (hq : T.lookup pc = some (.lreturn, 1, tgt, v0)) (hE : F w = (S, some (.long x))) : SO p l e R s m args below meth c nL A Rep fc fs S pc lv [.long x] F (some w) := fun r hr => by cases hr; exact sw_retl C0 hq hE
theorem so_retv {ρ : Type} {F : ρ → σ × Option Value} {w : ρ} (C0 : zC p s m args meth c cc nL own Ts T none) (hq : T.lookup pc = some (.return_, 1, tgt, v0)) (hE : F w = (S, none)) : SO p l e R s m args below meth c nL A Rep fc fs S pc lv [] F (some w) := fun r hr => by cases hr; exact sw_retv C0 hq hE
theorem sw_st {ρ : Type} (F : ρ → σ × Option Value) {x : σ} {K : σ → ρ} (k : ∀ S1 : σ, S1 = x → SW p l e R s m args below meth c nL A Rep fc fs S1 pc lv st (F (K S1))) : SW p l e R s m args below meth c nL A Rep fc fs x pc lv st (F (zbind x K)) := k x rfl
theorem so_st {ρ : Type} {F : ρ → σ × Option Value} {x : σ} {K : σ → Option ρ} (k : ∀ S1 : σ, S1 = x → SO p l e R s m args below meth c nL A Rep fc fs S1 pc lv st F (K S1)) : SO p l e R s m args below meth c nL A Rep fc fs x pc lv st F (zbind x K) := k x rfl
theorem so_of_sw {ρ : Type} {F : ρ → σ × Option Value} {x : Option ρ} {S2 : σ} {pc2 : Nat} {lv2 : zLv} {st2 : List Value} (h : ∀ E, SW p l e R s m args below meth c nL A Rep fc fs S2 pc2 lv2 st2 E → SW p l e R s m args below meth c nL A Rep fc fs S pc lv st E) (k : SO p l e R s m args below meth c nL A Rep fc fs S2 pc2 lv2 st2 F x) : SO p l e R s m args below meth c nL A Rep fc fs S pc lv st F x := fun r hr => h _ (k r hr)
theorem zpk {lv' : zLv} (ks : List Nat) (h : lv_pick lv ks = lv') : ∀ q ∈ lv', q ∈ lv := fun q hq => by
  rw [← h] at hq
  obtain ⟨k, -, hk⟩ := List.mem_filterMap.mp hq
  exact List.mem_of_getElem? hk
end ZOP
/-- the cost doesn't fall -/
def zmo (S S' : zS) : Prop := zfc S ≤ zfc S' ∧ zfs S ≤ zfs S'
theorem zmo_rf {S : zS} : zmo S S := ⟨Nat.le_refl _, Nat.le_refl _⟩
theorem zmo_tr {S S1 S2 : zS} (h : zmo S S1) (k : zmo S1 S2) : zmo S S2 := ⟨Nat.le_trans h.1 k.1, Nat.le_trans h.2 k.2⟩
theorem mo_if {ρ : Type} {g : ρ → zS} {S : zS} {b : Prop} [Decidable b] {r1 r2 : ρ} (h1 : zmo S (g r1)) (h2 : zmo S (g r2)) : zmo S (g (if b then r1 else r2)) := by
  by_cases h : b
  · rw [if_pos h]; exact h1
  · rw [if_neg h]; exact h2
theorem mo_n {ρ α : Type} {g : ρ → zS} {S : zS} {x : α} {K : α → ρ} (h : ∀ v, zmo S (g (K v))) : zmo S (g (zbind x K)) := h x
theorem mo_b {ρ : Type} {g : ρ → zS} {S x : zS} {K : zS → ρ} (h : zmo S x) (k : ∀ S1, zmo S1 (g (K S1))) : zmo S (g (zbind x K)) := zmo_tr h (k x)
theorem mo_b2 {ρ α : Type} {g : ρ → zS} {S : zS} {x : zS × α} {K : zS → α → ρ} (h : zmo S x.1) (k : ∀ S1 v, zmo S1 (g (K S1 v))) : zmo S (g (zbind2 x K)) := zmo_tr h (k x.1 x.2)
def zmO {ρ : Type} (g : ρ → zS) (S : zS) (x : Option ρ) : Prop := ∀ r, x = some r → zmo S (g r)
theorem mO_s {ρ : Type} {g : ρ → zS} {S : zS} {r : ρ} (h : zmo S (g r)) : zmO g S (some r) := fun q e => by cases e; exact h
theorem mO_0 {ρ : Type} {g : ρ → zS} {S : zS} : zmO g S none := fun q e => by cases e
theorem mO_if {ρ : Type} {g : ρ → zS} {S : zS} {b : Prop} [Decidable b] {r1 r2 : Option ρ} (h1 : zmO g S r1) (h2 : zmO g S r2) : zmO g S (if b then r1 else r2) := by
  by_cases h : b
  · rw [if_pos h]; exact h1
  · rw [if_neg h]; exact h2
theorem mO_n {ρ α : Type} {g : ρ → zS} {S : zS} {x : α} {K : α → Option ρ} (h : ∀ v, zmO g S (K v)) : zmO g S (zbind x K) := h x
theorem mO_b {ρ : Type} {g : ρ → zS} {S x : zS} {K : zS → Option ρ} (h : zmo S x) (k : ∀ S1, zmO g S1 (K S1)) : zmO g S (zbind x K) := fun r hr => zmo_tr h (k x r hr)
theorem mO_b2 {ρ α : Type} {g : ρ → zS} {S : zS} {x : zS × α} {K : zS → α → Option ρ} (h : zmo S x.1) (k : ∀ S1 v, zmO g S1 (K S1 v)) : zmO g S (zbind2 x K) := fun r hr => zmo_tr h (k x.1 x.2 r hr)
theorem mO_on {ρ α : Type} {g : ρ → zS} {S : zS} {x : Option α} {K : α → Option ρ} (k : ∀ v, zmO g S (K v)) : zmO g S (zob x K) := fun r hr => by
  cases x with
  | none => cases hr
  | some a => exact k a r hr
theorem mO_ob {ρ : Type} {g : ρ → zS} {S : zS} {x : Option zS} {K : zS → Option ρ} (h : zmO id S x) (k : ∀ S1, zmO g S1 (K S1)) : zmO g S (zob x K) := fun r hr => by
  cases x with
  | none => cases hr
  | some a => exact zmo_tr (h a rfl) (k a r hr)
theorem mO_ob2 {ρ α : Type} {g : ρ → zS} {S : zS} {x : Option (zS × α)} {K : zS → α → Option ρ} (h : zmO Prod.fst S x) (k : ∀ S1 v, zmO g S1 (K S1 v)) : zmO g S (zob2 x K) := fun r hr => by
  cases x with
  | none => cases hr
  | some a => exact zmo_tr (h a rfl) (k a.1 a.2 r hr)
theorem mo_r_set {S : zS} {k : Nat} {i v : Int32} : zmo S (r_set S k i v) := by
  unfold r_set
  split
  · exact zmo_rf
  · split <;> exact zmo_rf
theorem mo_r_take {S : zS} {k : Nat} : zmo S (r_take S k).1 := by
  unfold r_take
  split <;> exact zmo_rf
theorem mo_r_emp {S : zS} {k : Nat} : zmo S (r_emp S k) := ⟨Nat.le_refl _, Nat.le_refl _⟩
theorem mo_z_sc {S : zS} {k : Nat} {x : Int32} : zmo S (z_sc S k x) := ⟨Nat.le_refl _, Nat.le_refl _⟩
theorem mo_z_lg {S : zS} {k : Nat} {x : Int64} : zmo S (z_lg S k x) := ⟨Nat.le_refl _, Nat.le_refl _⟩
theorem mo_Fv {S x : zS} (h : zmo S x) : zfc S ≤ zfc (zFv x).1 ∧ zfs S ≤ zfs (zFv x).1 := h
theorem mo_Fi {S : zS} {x : zS × Int32} (h : zmo S x.1) : zfc S ≤ zfc (zFi x).1 ∧ zfs S ≤ zfs (zFi x).1 := h
/-- far above what any loop of ints needs -/
def zbig : Nat := 4294967300
