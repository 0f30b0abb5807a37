-- single instructions that need a word or a test
section ZMI
variable {p : Program} {l : Launch} {e : Env} {R : Room} {s : State} {m : MethodId} {args : Array Value} {below : List Frame} {meth : Method} {c : Code} {nL : Nat} {A : Nat → Prop} {σ : Type} {Rep : σ → Heap → Prop} {fc fs : σ → Nat} {cc : ByteArray} {T : List zTr} {own : String} {ret : Option FieldType} {S : σ} {pc tgt idx : Nat} {v0 : Int32} {lv : zLv} {rest : List Value} {E : σ × Option Value}
theorem sw_ldc (C0 : zC p s m args meth c cc nL own zwl T ret) {v : Int32} (hc : Cond.constant own idx v ∈ zwl) (hq : T.lookup pc = some (.ldc idx, 2, tgt, v0)) (k : SW p l e R s m args below meth c nL A Rep fc fs S (pc + 2) lv (.int v :: rest) E) : SW p l e R s m args below meth c nL A Rep fc fs S pc lv (rest) E := by
  obtain ⟨hx, hb, hml, hown, hts, hT, hr, hlocks⟩ := C0
  exact sw_W k (fun H locs cells slots ls h5 k => lv_ldc hx hb hown (hts _ hc) (hT.dec hq) (k h5))
theorem so_ldc {ρ : Type} {F : ρ → σ × Option Value} {w : Option ρ} (C0 : zC p s m args meth c cc nL own zwl T ret) {v : Int32} (hc : Cond.constant own idx v ∈ zwl) (hq : T.lookup pc = some (.ldc idx, 2, tgt, v0)) (k : SO p l e R s m args below meth c nL A Rep fc fs S (pc + 2) lv (.int v :: rest) F w) : SO p l e R s m args below meth c nL A Rep fc fs S pc lv (rest) F w := fun r hr => sw_ldc C0 hc hq (k r hr)
theorem sw_ldc2 (C0 : zC p s m args meth c cc nL own zwl T ret) {v : Int64} (hc : Cond.constantLong own idx v ∈ zwl) (hq : T.lookup pc = some (.ldc2_w idx, 3, tgt, v0)) (k : SW p l e R s m args below meth c nL A Rep fc fs S (pc + 3) lv (.long v :: rest) E) : SW p l e R s m args below meth c nL A Rep fc fs S pc lv (rest) E := by
  obtain ⟨hx, hb, hml, hown, hts, hT, hr, hlocks⟩ := C0
  exact sw_W k (fun H locs cells slots ls h5 k => lv_ldc2 hx hb hown (hts _ hc) (hT.dec hq) (k h5))
theorem so_ldc2 {ρ : Type} {F : ρ → σ × Option Value} {w : Option ρ} (C0 : zC p s m args meth c cc nL own zwl T ret) {v : Int64} (hc : Cond.constantLong own idx v ∈ zwl) (hq : T.lookup pc = some (.ldc2_w idx, 3, tgt, v0)) (k : SO p l e R s m args below meth c nL A Rep fc fs S (pc + 3) lv (.long v :: rest) F w) : SO p l e R s m args below meth c nL A Rep fc fs S pc lv (rest) F w := fun r hr => sw_ldc2 C0 hc hq (k r hr)
theorem sw_idiv (C0 : zC p s m args meth c cc nL own zwl T ret) {x y : Int32} (hc : ¬ y = 0) (hq : T.lookup pc = some (.idiv, 1, tgt, v0)) (k : SW p l e R s m args below meth c nL A Rep fc fs S (pc + 1) lv (.int (x / y) :: rest) E) : SW p l e R s m args below meth c nL A Rep fc fs S pc lv (.int y :: .int x :: rest) E := by
  obtain ⟨hx, hb, hml, hown, hts, hT, hr, hlocks⟩ := C0
  exact sw_W k (fun H locs cells slots ls h5 k => lv_idiv hx hb (hT.dec hq) hc (k h5))
theorem so_idiv {ρ : Type} {F : ρ → σ × Option Value} {w : Option ρ} (C0 : zC p s m args meth c cc nL own zwl T ret) {x y : Int32} (hc : ¬ y = 0) (hq : T.lookup pc = some (.idiv, 1, tgt, v0)) (k : SO p l e R s m args below meth c nL A Rep fc fs S (pc + 1) lv (.int (x / y) :: rest) F w) : SO p l e R s m args below meth c nL A Rep fc fs S pc lv (.int y :: .int x :: rest) F w := fun r hr => sw_idiv C0 hc hq (k r hr)
theorem sw_irem (C0 : zC p s m args meth c cc nL own zwl T ret) {x y : Int32} (hc : ¬ y = 0) (hq : T.lookup pc = some (.irem, 1, tgt, v0)) (k : SW p l e R s m args below meth c nL A Rep fc fs S (pc + 1) lv (.int (z_rem x y) :: rest) E) : SW p l e R s m args below meth c nL A Rep fc fs S pc lv (.int y :: .int x :: rest) E := by
  obtain ⟨hx, hb, hml, hown, hts, hT, hr, hlocks⟩ := C0
  exact sw_W k (fun H locs cells slots ls h5 k => lv_irem hx hb (hT.dec hq) hc (k h5))
theorem so_irem {ρ : Type} {F : ρ → σ × Option Value} {w : Option ρ} (C0 : zC p s m args meth c cc nL own zwl T ret) {x y : Int32} (hc : ¬ y = 0) (hq : T.lookup pc = some (.irem, 1, tgt, v0)) (k : SO p l e R s m args below meth c nL A Rep fc fs S (pc + 1) lv (.int (z_rem x y) :: rest) F w) : SO p l e R s m args below meth c nL A Rep fc fs S pc lv (.int y :: .int x :: rest) F w := fun r hr => sw_irem C0 hc hq (k r hr)
theorem sw_mmax (C0 : zC p s m args meth c cc nL own zwl T ret) {x y : Int32} (hl : Cond.methodLink own idx Lib.Math.max.name ∈ zwl) (hf : 1 ≤ R.frames) (hlo : 21 ≤ R.locals) (hW : (rest.map fun v => v.category).sum ≤ 8) (hq : T.lookup pc = some (.invokestatic idx, 3, tgt, v0)) (k : SW p l e R s m args below meth c nL A Rep fc fs S (pc + 3) lv (.int (if x < y then y else x) :: rest) E) : SW p l e R s m args below meth c nL A Rep fc fs S pc lv (.int y :: .int x :: rest) E := by
  obtain ⟨hx, hb, hml, hown, hts, hT, hr, hlocks⟩ := C0
  refine ⟨k.1, k.2.1, fun H locs cells slots ls h1 h2 h3 h4 h5 => ?_⟩
  have k1 := k.1
  have k2 := k.2.1
  exact va_mmax hx hb (by rw [hml]; exact h5.1.symm) hown (hts _ hl) (hts _ wd_3_224) (hts _ wd_1_7) (hts _ wd_3_225) hf (by omega) (by omega) (by omega) (hT.dec hq) (k.2.2 H locs cells slots ls h1 h2 h3 h4 h5)
end ZMI
