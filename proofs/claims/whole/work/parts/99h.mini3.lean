-- RuleTreeModel.<init>: step by step
def mFs (B : Nat → Nat) (n : Nat) : List Value := [.int 0, (if 0 < n then .ref (B 1) else .null), (if 1 < n then .ref (B 2) else .null), .int 0, (if 2 < n then .ref (B 3) else .null), (if 3 < n then .ref (B 4) else .null), (if 4 < n then .ref (B 5) else .null), (if 5 < n then .ref (B 6) else .null), (if 6 < n then .ref (B 7) else .null), (if 7 < n then .ref (B 8) else .null), (if 8 < n then .ref (B 9) else .null), .int 0, (if 9 < n then .ref (B 10) else .null), (if 10 < n then .ref (B 11) else .null), .int 0, (if 11 < n then .ref (B 12) else .null), (if 12 < n then .ref (B 13) else .null), .int 0, (if 13 < n then .ref (B 14) else .null), (if 14 < n then .ref (B 15) else .null), .int 0, (if 15 < n then .ref (B 16) else .null), (if 16 < n then .ref (B 17) else .null), (if 17 < n then .int 1 else .int 0), (if 18 < n then .ref (B 18) else .null), (if 19 < n then .ref (B 19) else .null), (if 20 < n then .ref (B 20) else .null), (if 21 < n then .ref (B 21) else .null), (if 22 < n then .ref (B 22) else .null), (if 23 < n then .ref (B 23) else .null), (if 24 < n then .ref (B 24) else .null), (if 25 < n then .ref (B 25) else .null), (if 26 < n then .ref (B 26) else .null), (if 27 < n then .ref (B 27) else .null), (if 28 < n then .ref (B 28) else .null), .int 0, .int 0, .int 0, (if 29 < n then .ref (B 29) else .null), .int 0, (if 30 < n then .ref (B 30) else .null), (if 31 < n then .ref (B 31) else .null), .int 0, (if 32 < n then .ref (B 32) else .null), (if 33 < n then .ref (B 33) else .null), .int 0]
def mAl (cA : Nat → ClassId) (B : Nat → Nat) : va_W := [(B 1, .inl (cA 0, (1024, .inl (fun _ => 0)))), (B 2, .inl (cA 1, (1024, .inr (.inl (fun _ => 0))))), (B 3, .inl (cA 2, (16384, .inl (fun _ => 0)))), (B 4, .inl (cA 0, (16384, .inl (fun _ => 0)))), (B 5, .inl (cA 0, (16384, .inl (fun _ => 0)))), (B 6, .inl (cA 0, (16384, .inl (fun _ => 0)))), (B 7, .inl (cA 3, (16384, .inl (fun _ => 0)))), (B 8, .inl (cA 3, (16384, .inl (fun _ => 0)))), (B 9, .inl (cA 4, (16384, .inl (fun _ => 0)))), (B 10, .inl (cA 3, (16384, .inl (fun _ => 0)))), (B 11, .inl (cA 3, (16384, .inl (fun _ => 0)))), (B 12, .inl (cA 0, (128, .inl (fun _ => 0)))), (B 13, .inl (cA 0, (128, .inl (fun _ => 0)))), (B 14, .inl (cA 0, (1024, .inl (fun _ => 0)))), (B 15, .inl (cA 0, (1025, .inl (fun _ => 0)))), (B 16, .inl (cA 0, (16385, .inl (fun _ => 0)))), (B 17, .inl (cA 0, (16385, .inl (fun _ => 0)))), (B 18, .inl (cA 0, (16386, .inl (fun _ => 0)))), (B 19, .inl (cA 0, (16386, .inl (fun _ => 0)))), (B 20, .inl (cA 1, (16386, .inr (.inl (fun _ => 0))))), (B 21, .inl (cA 0, (16386, .inl (fun _ => 0)))), (B 22, .inl (cA 0, (16386, .inl (fun _ => 0)))), (B 23, .inl (cA 0, (16386, .inl (fun _ => 0)))), (B 24, .inl (cA 1, (65568, .inr (.inl (fun _ => 0))))), (B 25, .inl (cA 0, (4097, .inl (fun _ => 0)))), (B 26, .inl (cA 1, (4097, .inr (.inl (fun _ => 0))))), (B 27, .inl (cA 4, (4097, .inl (fun _ => 0)))), (B 28, .inl (cA 4, (16386, .inl (fun _ => 0)))), (B 29, .inl (cA 0, (1025, .inl (fun _ => 0)))), (B 30, .inl (cA 0, (4097, .inl (fun _ => 0)))), (B 31, .inl (cA 0, (4097, .inl (fun _ => 0)))), (B 32, .inl (cA 0, (20480, .inl (fun _ => 0)))), (B 33, .inl (cA 0, (20480, .inl (fun _ => 0))))]
def mWd (cA : Nat → ClassId) (B : Nat → Nat) (k : Nat) : va_W := (mAl cA B).take k
section KX
variable {p : Program} {l : Launch} {e : Env} {R : Room} {s : State} {m : MethodId} {args : Array Value} {below : List Frame} {meth : Method} {c : Code} {A : Nat → Prop} {D : va_G} {cA : Nat → ClassId} {h0 cells slots : Nat} {fs : List Value} {Wd : va_W} {ι : Type} {w : (ι → va_W) × Option Value}
theorem mz_0 (C0 : zC p s m args meth c prog_13_method_1_code 2 "RuleTreeModel" zwl T_Mod_init none) (hK : va_K D zcl (ztys cA) s) (hA : ∀ q, s.heap.size ≤ q → A q) (hin2 : meth.name = "<init>") (hcs : R.cells = 33) (hss : R.slots = 427319) (K : ∀ B : Nat → Nat, KW p l e R s m args below meth c 2 A D h0 11 (mFs B 1) (mWd cA B 1) 1 1024 13 [(0, .ref h0)] [] w) : ∀ B : Nat → Nat, KW p l e R s m args below meth c 2 A D h0 11 (mFs B 0) (mWd cA B 0) 0 0 4 [(0, .ref h0)] [] w := by
  intro B
  refine mi_0 C0 hK hA hin2 rfl (by rw [hcs]; decide) (by rw [hss]; decide) (fun q => ?_)
  have e1 : (mFs B 0).set 1 (.ref q) = mFs (va_up B 1 q) 1 := rfl
  have e2 : mWd cA B 0 ++ [(q, .inl (cA 0, (1024, .inl (fun _ => 0))))] = mWd cA (va_up B 1 q) 1 := rfl
  rw [e1, e2]
  exact K _
theorem mz_1 (C0 : zC p s m args meth c prog_13_method_1_code 2 "RuleTreeModel" zwl T_Mod_init none) (hK : va_K D zcl (ztys cA) s) (hA : ∀ q, s.heap.size ≤ q → A q) (hin2 : meth.name = "<init>") (hcs : R.cells = 33) (hss : R.slots = 427319) (K : ∀ B : Nat → Nat, KW p l e R s m args below meth c 2 A D h0 11 (mFs B 2) (mWd cA B 2) 2 2048 22 [(0, .ref h0)] [] w) : ∀ B : Nat → Nat, KW p l e R s m args below meth c 2 A D h0 11 (mFs B 1) (mWd cA B 1) 1 1024 13 [(0, .ref h0)] [] w := by
  intro B
  refine mi_1 C0 hK hA hin2 rfl (by rw [hcs]; decide) (by rw [hss]; decide) (fun q => ?_)
  have e1 : (mFs B 1).set 2 (.ref q) = mFs (va_up B 2 q) 2 := rfl
  have e2 : mWd cA B 1 ++ [(q, .inl (cA 1, (1024, .inr (.inl (fun _ => 0)))))] = mWd cA (va_up B 2 q) 2 := rfl
  rw [e1, e2]
  exact K _
theorem mz_2 (C0 : zC p s m args meth c prog_13_method_1_code 2 "RuleTreeModel" zwl T_Mod_init none) (hK : va_K D zcl (ztys cA) s) (hA : ∀ q, s.heap.size ≤ q → A q) (hin2 : meth.name = "<init>") (hcs : R.cells = 33) (hss : R.slots = 427319) (K : ∀ B : Nat → Nat, KW p l e R s m args below meth c 2 A D h0 11 (mFs B 3) (mWd cA B 3) 3 18432 31 [(0, .ref h0)] [] w) : ∀ B : Nat → Nat, KW p l e R s m args below meth c 2 A D h0 11 (mFs B 2) (mWd cA B 2) 2 2048 22 [(0, .ref h0)] [] w := by
  intro B
  refine mi_2 C0 hK hA hin2 rfl (by rw [hcs]; decide) (by rw [hss]; decide) (fun q => ?_)
  have e1 : (mFs B 2).set 4 (.ref q) = mFs (va_up B 3 q) 3 := rfl
  have e2 : mWd cA B 2 ++ [(q, .inl (cA 2, (16384, .inl (fun _ => 0))))] = mWd cA (va_up B 3 q) 3 := rfl
  rw [e1, e2]
  exact K _
theorem mz_3 (C0 : zC p s m args meth c prog_13_method_1_code 2 "RuleTreeModel" zwl T_Mod_init none) (hK : va_K D zcl (ztys cA) s) (hA : ∀ q, s.heap.size ≤ q → A q) (hin2 : meth.name = "<init>") (hcs : R.cells = 33) (hss : R.slots = 427319) (K : ∀ B : Nat → Nat, KW p l e R s m args below meth c 2 A D h0 11 (mFs B 4) (mWd cA B 4) 4 34816 40 [(0, .ref h0)] [] w) : ∀ B : Nat → Nat, KW p l e R s m args below meth c 2 A D h0 11 (mFs B 3) (mWd cA B 3) 3 18432 31 [(0, .ref h0)] [] w := by
  intro B
  refine mi_3 C0 hK hA hin2 rfl (by rw [hcs]; decide) (by rw [hss]; decide) (fun q => ?_)
  have e1 : (mFs B 3).set 5 (.ref q) = mFs (va_up B 4 q) 4 := rfl
  have e2 : mWd cA B 3 ++ [(q, .inl (cA 0, (16384, .inl (fun _ => 0))))] = mWd cA (va_up B 4 q) 4 := rfl
  rw [e1, e2]
  exact K _
theorem mz_4 (C0 : zC p s m args meth c prog_13_method_1_code 2 "RuleTreeModel" zwl T_Mod_init none) (hK : va_K D zcl (ztys cA) s) (hA : ∀ q, s.heap.size ≤ q → A q) (hin2 : meth.name = "<init>") (hcs : R.cells = 33) (hss : R.slots = 427319) (K : ∀ B : Nat → Nat, KW p l e R s m args below meth c 2 A D h0 11 (mFs B 5) (mWd cA B 5) 5 51200 49 [(0, .ref h0)] [] w) : ∀ B : Nat → Nat, KW p l e R s m args below meth c 2 A D h0 11 (mFs B 4) (mWd cA B 4) 4 34816 40 [(0, .ref h0)] [] w := by
  intro B
  refine mi_4 C0 hK hA hin2 rfl (by rw [hcs]; decide) (by rw [hss]; decide) (fun q => ?_)
  have e1 : (mFs B 4).set 6 (.ref q) = mFs (va_up B 5 q) 5 := rfl
  have e2 : mWd cA B 4 ++ [(q, .inl (cA 0, (16384, .inl (fun _ => 0))))] = mWd cA (va_up B 5 q) 5 := rfl
  rw [e1, e2]
  exact K _
theorem mz_5 (C0 : zC p s m args meth c prog_13_method_1_code 2 "RuleTreeModel" zwl T_Mod_init none) (hK : va_K D zcl (ztys cA) s) (hA : ∀ q, s.heap.size ≤ q → A q) (hin2 : meth.name = "<init>") (hcs : R.cells = 33) (hss : R.slots = 427319) (K : ∀ B : Nat → Nat, KW p l e R s m args below meth c 2 A D h0 11 (mFs B 6) (mWd cA B 6) 6 67584 58 [(0, .ref h0)] [] w) : ∀ B : Nat → Nat, KW p l e R s m args below meth c 2 A D h0 11 (mFs B 5) (mWd cA B 5) 5 51200 49 [(0, .ref h0)] [] w := by
  intro B
  refine mi_5 C0 hK hA hin2 rfl (by rw [hcs]; decide) (by rw [hss]; decide) (fun q => ?_)
  have e1 : (mFs B 5).set 7 (.ref q) = mFs (va_up B 6 q) 6 := rfl
  have e2 : mWd cA B 5 ++ [(q, .inl (cA 0, (16384, .inl (fun _ => 0))))] = mWd cA (va_up B 6 q) 6 := rfl
  rw [e1, e2]
  exact K _
theorem mz_6 (C0 : zC p s m args meth c prog_13_method_1_code 2 "RuleTreeModel" zwl T_Mod_init none) (hK : va_K D zcl (ztys cA) s) (hA : ∀ q, s.heap.size ≤ q → A q) (hin2 : meth.name = "<init>") (hcs : R.cells = 33) (hss : R.slots = 427319) (K : ∀ B : Nat → Nat, KW p l e R s m args below meth c 2 A D h0 11 (mFs B 7) (mWd cA B 7) 7 83968 67 [(0, .ref h0)] [] w) : ∀ B : Nat → Nat, KW p l e R s m args below meth c 2 A D h0 11 (mFs B 6) (mWd cA B 6) 6 67584 58 [(0, .ref h0)] [] w := by
  intro B
  refine mi_6 C0 hK hA hin2 rfl (by rw [hcs]; decide) (by rw [hss]; decide) (fun q => ?_)
  have e1 : (mFs B 6).set 8 (.ref q) = mFs (va_up B 7 q) 7 := rfl
  have e2 : mWd cA B 6 ++ [(q, .inl (cA 3, (16384, .inl (fun _ => 0))))] = mWd cA (va_up B 7 q) 7 := rfl
  rw [e1, e2]
  exact K _
theorem mz_7 (C0 : zC p s m args meth c prog_13_method_1_code 2 "RuleTreeModel" zwl T_Mod_init none) (hK : va_K D zcl (ztys cA) s) (hA : ∀ q, s.heap.size ≤ q → A q) (hin2 : meth.name = "<init>") (hcs : R.cells = 33) (hss : R.slots = 427319) (K : ∀ B : Nat → Nat, KW p l e R s m args below meth c 2 A D h0 11 (mFs B 8) (mWd cA B 8) 8 100352 76 [(0, .ref h0)] [] w) : ∀ B : Nat → Nat, KW p l e R s m args below meth c 2 A D h0 11 (mFs B 7) (mWd cA B 7) 7 83968 67 [(0, .ref h0)] [] w := by
  intro B
  refine mi_7 C0 hK hA hin2 rfl (by rw [hcs]; decide) (by rw [hss]; decide) (fun q => ?_)
  have e1 : (mFs B 7).set 9 (.ref q) = mFs (va_up B 8 q) 8 := rfl
  have e2 : mWd cA B 7 ++ [(q, .inl (cA 3, (16384, .inl (fun _ => 0))))] = mWd cA (va_up B 8 q) 8 := rfl
  rw [e1, e2]
  exact K _
theorem mz_8 (C0 : zC p s m args meth c prog_13_method_1_code 2 "RuleTreeModel" zwl T_Mod_init none) (hK : va_K D zcl (ztys cA) s) (hA : ∀ q, s.heap.size ≤ q → A q) (hin2 : meth.name = "<init>") (hcs : R.cells = 33) (hss : R.slots = 427319) (K : ∀ B : Nat → Nat, KW p l e R s m args below meth c 2 A D h0 11 (mFs B 9) (mWd cA B 9) 9 116736 85 [(0, .ref h0)] [] w) : ∀ B : Nat → Nat, KW p l e R s m args below meth c 2 A D h0 11 (mFs B 8) (mWd cA B 8) 8 100352 76 [(0, .ref h0)] [] w := by
  intro B
  refine mi_8 C0 hK hA hin2 rfl (by rw [hcs]; decide) (by rw [hss]; decide) (fun q => ?_)
  have e1 : (mFs B 8).set 10 (.ref q) = mFs (va_up B 9 q) 9 := rfl
  have e2 : mWd cA B 8 ++ [(q, .inl (cA 4, (16384, .inl (fun _ => 0))))] = mWd cA (va_up B 9 q) 9 := rfl
  rw [e1, e2]
  exact K _
theorem mz_9 (C0 : zC p s m args meth c prog_13_method_1_code 2 "RuleTreeModel" zwl T_Mod_init none) (hK : va_K D zcl (ztys cA) s) (hA : ∀ q, s.heap.size ≤ q → A q) (hin2 : meth.name = "<init>") (hcs : R.cells = 33) (hss : R.slots = 427319) (K : ∀ B : Nat → Nat, KW p l e R s m args below meth c 2 A D h0 11 (mFs B 10) (mWd cA B 10) 10 133120 94 [(0, .ref h0)] [] w) : ∀ B : Nat → Nat, KW p l e R s m args below meth c 2 A D h0 11 (mFs B 9) (mWd cA B 9) 9 116736 85 [(0, .ref h0)] [] w := by
  intro B
  refine mi_9 C0 hK hA hin2 rfl (by rw [hcs]; decide) (by rw [hss]; decide) (fun q => ?_)
  have e1 : (mFs B 9).set 12 (.ref q) = mFs (va_up B 10 q) 10 := rfl
  have e2 : mWd cA B 9 ++ [(q, .inl (cA 3, (16384, .inl (fun _ => 0))))] = mWd cA (va_up B 10 q) 10 := rfl
  rw [e1, e2]
  exact K _
theorem mz_10 (C0 : zC p s m args meth c prog_13_method_1_code 2 "RuleTreeModel" zwl T_Mod_init none) (hK : va_K D zcl (ztys cA) s) (hA : ∀ q, s.heap.size ≤ q → A q) (hin2 : meth.name = "<init>") (hcs : R.cells = 33) (hss : R.slots = 427319) (K : ∀ B : Nat → Nat, KW p l e R s m args below meth c 2 A D h0 11 (mFs B 11) (mWd cA B 11) 11 149504 103 [(0, .ref h0)] [] w) : ∀ B : Nat → Nat, KW p l e R s m args below meth c 2 A D h0 11 (mFs B 10) (mWd cA B 10) 10 133120 94 [(0, .ref h0)] [] w := by
  intro B
  refine mi_10 C0 hK hA hin2 rfl (by rw [hcs]; decide) (by rw [hss]; decide) (fun q => ?_)
  have e1 : (mFs B 10).set 13 (.ref q) = mFs (va_up B 11 q) 11 := rfl
  have e2 : mWd cA B 10 ++ [(q, .inl (cA 3, (16384, .inl (fun _ => 0))))] = mWd cA (va_up B 11 q) 11 := rfl
  rw [e1, e2]
  exact K _
theorem mz_11 (C0 : zC p s m args meth c prog_13_method_1_code 2 "RuleTreeModel" zwl T_Mod_init none) (hK : va_K D zcl (ztys cA) s) (hA : ∀ q, s.heap.size ≤ q → A q) (hin2 : meth.name = "<init>") (hcs : R.cells = 33) (hss : R.slots = 427319) (K : ∀ B : Nat → Nat, KW p l e R s m args below meth c 2 A D h0 11 (mFs B 12) (mWd cA B 12) 12 149632 112 [(0, .ref h0)] [] w) : ∀ B : Nat → Nat, KW p l e R s m args below meth c 2 A D h0 11 (mFs B 11) (mWd cA B 11) 11 149504 103 [(0, .ref h0)] [] w := by
  intro B
  refine mi_11 C0 hK hA hin2 rfl (by rw [hcs]; decide) (by rw [hss]; decide) (fun q => ?_)
  have e1 : (mFs B 11).set 15 (.ref q) = mFs (va_up B 12 q) 12 := rfl
  have e2 : mWd cA B 11 ++ [(q, .inl (cA 0, (128, .inl (fun _ => 0))))] = mWd cA (va_up B 12 q) 12 := rfl
  rw [e1, e2]
  exact K _
theorem mz_12 (C0 : zC p s m args meth c prog_13_method_1_code 2 "RuleTreeModel" zwl T_Mod_init none) (hK : va_K D zcl (ztys cA) s) (hA : ∀ q, s.heap.size ≤ q → A q) (hin2 : meth.name = "<init>") (hcs : R.cells = 33) (hss : R.slots = 427319) (K : ∀ B : Nat → Nat, KW p l e R s m args below meth c 2 A D h0 11 (mFs B 13) (mWd cA B 13) 13 149760 121 [(0, .ref h0)] [] w) : ∀ B : Nat → Nat, KW p l e R s m args below meth c 2 A D h0 11 (mFs B 12) (mWd cA B 12) 12 149632 112 [(0, .ref h0)] [] w := by
  intro B
  refine mi_12 C0 hK hA hin2 rfl (by rw [hcs]; decide) (by rw [hss]; decide) (fun q => ?_)
  have e1 : (mFs B 12).set 16 (.ref q) = mFs (va_up B 13 q) 13 := rfl
  have e2 : mWd cA B 12 ++ [(q, .inl (cA 0, (128, .inl (fun _ => 0))))] = mWd cA (va_up B 13 q) 13 := rfl
  rw [e1, e2]
  exact K _
theorem mz_13 (C0 : zC p s m args meth c prog_13_method_1_code 2 "RuleTreeModel" zwl T_Mod_init none) (hK : va_K D zcl (ztys cA) s) (hA : ∀ q, s.heap.size ≤ q → A q) (hin2 : meth.name = "<init>") (hcs : R.cells = 33) (hss : R.slots = 427319) (K : ∀ B : Nat → Nat, KW p l e R s m args below meth c 2 A D h0 11 (mFs B 14) (mWd cA B 14) 14 150784 130 [(0, .ref h0)] [] w) : ∀ B : Nat → Nat, KW p l e R s m args below meth c 2 A D h0 11 (mFs B 13) (mWd cA B 13) 13 149760 121 [(0, .ref h0)] [] w := by
  intro B
  refine mi_13 C0 hK hA hin2 rfl (by rw [hcs]; decide) (by rw [hss]; decide) (fun q => ?_)
  have e1 : (mFs B 13).set 18 (.ref q) = mFs (va_up B 14 q) 14 := rfl
  have e2 : mWd cA B 13 ++ [(q, .inl (cA 0, (1024, .inl (fun _ => 0))))] = mWd cA (va_up B 14 q) 14 := rfl
  rw [e1, e2]
  exact K _
theorem mz_14 (C0 : zC p s m args meth c prog_13_method_1_code 2 "RuleTreeModel" zwl T_Mod_init none) (hK : va_K D zcl (ztys cA) s) (hA : ∀ q, s.heap.size ≤ q → A q) (hin2 : meth.name = "<init>") (hcs : R.cells = 33) (hss : R.slots = 427319) (K : ∀ B : Nat → Nat, KW p l e R s m args below meth c 2 A D h0 11 (mFs B 15) (mWd cA B 15) 15 151809 139 [(0, .ref h0)] [] w) : ∀ B : Nat → Nat, KW p l e R s m args below meth c 2 A D h0 11 (mFs B 14) (mWd cA B 14) 14 150784 130 [(0, .ref h0)] [] w := by
  intro B
  refine mi_14 C0 hK hA hin2 rfl (by rw [hcs]; decide) (by rw [hss]; decide) (fun q => ?_)
  have e1 : (mFs B 14).set 19 (.ref q) = mFs (va_up B 15 q) 15 := rfl
  have e2 : mWd cA B 14 ++ [(q, .inl (cA 0, (1025, .inl (fun _ => 0))))] = mWd cA (va_up B 15 q) 15 := rfl
  rw [e1, e2]
  exact K _
theorem mz_15 (C0 : zC p s m args meth c prog_13_method_1_code 2 "RuleTreeModel" zwl T_Mod_init none) (hK : va_K D zcl (ztys cA) s) (hA : ∀ q, s.heap.size ≤ q → A q) (hin2 : meth.name = "<init>") (hcs : R.cells = 33) (hss : R.slots = 427319) (K : ∀ B : Nat → Nat, KW p l e R s m args below meth c 2 A D h0 11 (mFs B 16) (mWd cA B 16) 16 168194 148 [(0, .ref h0)] [] w) : ∀ B : Nat → Nat, KW p l e R s m args below meth c 2 A D h0 11 (mFs B 15) (mWd cA B 15) 15 151809 139 [(0, .ref h0)] [] w := by
  intro B
  refine mi_15 C0 hK hA hin2 rfl (by rw [hcs]; decide) (by rw [hss]; decide) (fun q => ?_)
  have e1 : (mFs B 15).set 21 (.ref q) = mFs (va_up B 16 q) 16 := rfl
  have e2 : mWd cA B 15 ++ [(q, .inl (cA 0, (16385, .inl (fun _ => 0))))] = mWd cA (va_up B 16 q) 16 := rfl
  rw [e1, e2]
  exact K _
theorem mz_16 (C0 : zC p s m args meth c prog_13_method_1_code 2 "RuleTreeModel" zwl T_Mod_init none) (hK : va_K D zcl (ztys cA) s) (hA : ∀ q, s.heap.size ≤ q → A q) (hin2 : meth.name = "<init>") (hcs : R.cells = 33) (hss : R.slots = 427319) (K : ∀ B : Nat → Nat, KW p l e R s m args below meth c 2 A D h0 11 (mFs B 17) (mWd cA B 17) 17 184579 157 [(0, .ref h0)] [] w) : ∀ B : Nat → Nat, KW p l e R s m args below meth c 2 A D h0 11 (mFs B 16) (mWd cA B 16) 16 168194 148 [(0, .ref h0)] [] w := by
  intro B
  refine mi_16 C0 hK hA hin2 rfl (by rw [hcs]; decide) (by rw [hss]; decide) (fun q => ?_)
  have e1 : (mFs B 16).set 22 (.ref q) = mFs (va_up B 17 q) 17 := rfl
  have e2 : mWd cA B 16 ++ [(q, .inl (cA 0, (16385, .inl (fun _ => 0))))] = mWd cA (va_up B 17 q) 17 := rfl
  rw [e1, e2]
  exact K _
theorem mz_17 (C0 : zC p s m args meth c prog_13_method_1_code 2 "RuleTreeModel" zwl T_Mod_init none) (hK : va_K D zcl (ztys cA) s) (hA : ∀ q, s.heap.size ≤ q → A q) (hin2 : meth.name = "<init>") (hcs : R.cells = 33) (hss : R.slots = 427319) (K : ∀ B : Nat → Nat, KW p l e R s m args below meth c 2 A D h0 11 (mFs B 18) (mWd cA B 17) 17 184579 162 [(0, .ref h0)] [] w) : ∀ B : Nat → Nat, KW p l e R s m args below meth c 2 A D h0 11 (mFs B 17) (mWd cA B 17) 17 184579 157 [(0, .ref h0)] [] w := by
  intro B
  refine mi_17 C0 hK hA hin2 rfl ?_
  have e1 : (mFs B 17).set 23 (.int 1) = mFs B 18 := rfl
  rw [e1]
  exact K B
theorem mz_18 (C0 : zC p s m args meth c prog_13_method_1_code 2 "RuleTreeModel" zwl T_Mod_init none) (hK : va_K D zcl (ztys cA) s) (hA : ∀ q, s.heap.size ≤ q → A q) (hin2 : meth.name = "<init>") (hcs : R.cells = 33) (hss : R.slots = 427319) (K : ∀ B : Nat → Nat, KW p l e R s m args below meth c 2 A D h0 11 (mFs B 19) (mWd cA B 18) 18 200965 171 [(0, .ref h0)] [] w) : ∀ B : Nat → Nat, KW p l e R s m args below meth c 2 A D h0 11 (mFs B 18) (mWd cA B 17) 17 184579 162 [(0, .ref h0)] [] w := by
  intro B
  refine mi_18 C0 hK hA hin2 rfl (by rw [hcs]; decide) (by rw [hss]; decide) (fun q => ?_)
  have e1 : (mFs B 18).set 24 (.ref q) = mFs (va_up B 18 q) 19 := rfl
  have e2 : mWd cA B 17 ++ [(q, .inl (cA 0, (16386, .inl (fun _ => 0))))] = mWd cA (va_up B 18 q) 18 := rfl
  rw [e1, e2]
  exact K _
theorem mz_19 (C0 : zC p s m args meth c prog_13_method_1_code 2 "RuleTreeModel" zwl T_Mod_init none) (hK : va_K D zcl (ztys cA) s) (hA : ∀ q, s.heap.size ≤ q → A q) (hin2 : meth.name = "<init>") (hcs : R.cells = 33) (hss : R.slots = 427319) (K : ∀ B : Nat → Nat, KW p l e R s m args below meth c 2 A D h0 11 (mFs B 20) (mWd cA B 19) 19 217351 180 [(0, .ref h0)] [] w) : ∀ B : Nat → Nat, KW p l e R s m args below meth c 2 A D h0 11 (mFs B 19) (mWd cA B 18) 18 200965 171 [(0, .ref h0)] [] w := by
  intro B
  refine mi_19 C0 hK hA hin2 rfl (by rw [hcs]; decide) (by rw [hss]; decide) (fun q => ?_)
  have e1 : (mFs B 19).set 25 (.ref q) = mFs (va_up B 19 q) 20 := rfl
  have e2 : mWd cA B 18 ++ [(q, .inl (cA 0, (16386, .inl (fun _ => 0))))] = mWd cA (va_up B 19 q) 19 := rfl
  rw [e1, e2]
  exact K _
theorem mz_20 (C0 : zC p s m args meth c prog_13_method_1_code 2 "RuleTreeModel" zwl T_Mod_init none) (hK : va_K D zcl (ztys cA) s) (hA : ∀ q, s.heap.size ≤ q → A q) (hin2 : meth.name = "<init>") (hcs : R.cells = 33) (hss : R.slots = 427319) (K : ∀ B : Nat → Nat, KW p l e R s m args below meth c 2 A D h0 11 (mFs B 21) (mWd cA B 20) 20 233737 189 [(0, .ref h0)] [] w) : ∀ B : Nat → Nat, KW p l e R s m args below meth c 2 A D h0 11 (mFs B 20) (mWd cA B 19) 19 217351 180 [(0, .ref h0)] [] w := by
  intro B
  refine mi_20 C0 hK hA hin2 rfl (by rw [hcs]; decide) (by rw [hss]; decide) (fun q => ?_)
  have e1 : (mFs B 20).set 26 (.ref q) = mFs (va_up B 20 q) 21 := rfl
  have e2 : mWd cA B 19 ++ [(q, .inl (cA 1, (16386, .inr (.inl (fun _ => 0)))))] = mWd cA (va_up B 20 q) 20 := rfl
  rw [e1, e2]
  exact K _
theorem mz_21 (C0 : zC p s m args meth c prog_13_method_1_code 2 "RuleTreeModel" zwl T_Mod_init none) (hK : va_K D zcl (ztys cA) s) (hA : ∀ q, s.heap.size ≤ q → A q) (hin2 : meth.name = "<init>") (hcs : R.cells = 33) (hss : R.slots = 427319) (K : ∀ B : Nat → Nat, KW p l e R s m args below meth c 2 A D h0 11 (mFs B 22) (mWd cA B 21) 21 250123 198 [(0, .ref h0)] [] w) : ∀ B : Nat → Nat, KW p l e R s m args below meth c 2 A D h0 11 (mFs B 21) (mWd cA B 20) 20 233737 189 [(0, .ref h0)] [] w := by
  intro B
  refine mi_21 C0 hK hA hin2 rfl (by rw [hcs]; decide) (by rw [hss]; decide) (fun q => ?_)
  have e1 : (mFs B 21).set 27 (.ref q) = mFs (va_up B 21 q) 22 := rfl
  have e2 : mWd cA B 20 ++ [(q, .inl (cA 0, (16386, .inl (fun _ => 0))))] = mWd cA (va_up B 21 q) 21 := rfl
  rw [e1, e2]
  exact K _
theorem mz_22 (C0 : zC p s m args meth c prog_13_method_1_code 2 "RuleTreeModel" zwl T_Mod_init none) (hK : va_K D zcl (ztys cA) s) (hA : ∀ q, s.heap.size ≤ q → A q) (hin2 : meth.name = "<init>") (hcs : R.cells = 33) (hss : R.slots = 427319) (K : ∀ B : Nat → Nat, KW p l e R s m args below meth c 2 A D h0 11 (mFs B 23) (mWd cA B 22) 22 266509 207 [(0, .ref h0)] [] w) : ∀ B : Nat → Nat, KW p l e R s m args below meth c 2 A D h0 11 (mFs B 22) (mWd cA B 21) 21 250123 198 [(0, .ref h0)] [] w := by
  intro B
  refine mi_22 C0 hK hA hin2 rfl (by rw [hcs]; decide) (by rw [hss]; decide) (fun q => ?_)
  have e1 : (mFs B 22).set 28 (.ref q) = mFs (va_up B 22 q) 23 := rfl
  have e2 : mWd cA B 21 ++ [(q, .inl (cA 0, (16386, .inl (fun _ => 0))))] = mWd cA (va_up B 22 q) 22 := rfl
  rw [e1, e2]
  exact K _
theorem mz_23 (C0 : zC p s m args meth c prog_13_method_1_code 2 "RuleTreeModel" zwl T_Mod_init none) (hK : va_K D zcl (ztys cA) s) (hA : ∀ q, s.heap.size ≤ q → A q) (hin2 : meth.name = "<init>") (hcs : R.cells = 33) (hss : R.slots = 427319) (K : ∀ B : Nat → Nat, KW p l e R s m args below meth c 2 A D h0 11 (mFs B 24) (mWd cA B 23) 23 282895 216 [(0, .ref h0)] [] w) : ∀ B : Nat → Nat, KW p l e R s m args below meth c 2 A D h0 11 (mFs B 23) (mWd cA B 22) 22 266509 207 [(0, .ref h0)] [] w := by
  intro B
  refine mi_23 C0 hK hA hin2 rfl (by rw [hcs]; decide) (by rw [hss]; decide) (fun q => ?_)
  have e1 : (mFs B 23).set 29 (.ref q) = mFs (va_up B 23 q) 24 := rfl
  have e2 : mWd cA B 22 ++ [(q, .inl (cA 0, (16386, .inl (fun _ => 0))))] = mWd cA (va_up B 23 q) 23 := rfl
  rw [e1, e2]
  exact K _
theorem mz_24 (C0 : zC p s m args meth c prog_13_method_1_code 2 "RuleTreeModel" zwl T_Mod_init none) (hK : va_K D zcl (ztys cA) s) (hA : ∀ q, s.heap.size ≤ q → A q) (hin2 : meth.name = "<init>") (hcs : R.cells = 33) (hss : R.slots = 427319) (K : ∀ B : Nat → Nat, KW p l e R s m args below meth c 2 A D h0 11 (mFs B 25) (mWd cA B 24) 24 348463 224 [(0, .ref h0)] [] w) : ∀ B : Nat → Nat, KW p l e R s m args below meth c 2 A D h0 11 (mFs B 24) (mWd cA B 23) 23 282895 216 [(0, .ref h0)] [] w := by
  intro B
  refine mi_24 C0 hK hA hin2 rfl (by rw [hcs]; decide) (by rw [hss]; decide) (fun q => ?_)
  have e1 : (mFs B 24).set 30 (.ref q) = mFs (va_up B 24 q) 25 := rfl
  have e2 : mWd cA B 23 ++ [(q, .inl (cA 1, (65568, .inr (.inl (fun _ => 0)))))] = mWd cA (va_up B 24 q) 24 := rfl
  rw [e1, e2]
  exact K _
theorem mz_25 (C0 : zC p s m args meth c prog_13_method_1_code 2 "RuleTreeModel" zwl T_Mod_init none) (hK : va_K D zcl (ztys cA) s) (hA : ∀ q, s.heap.size ≤ q → A q) (hin2 : meth.name = "<init>") (hcs : R.cells = 33) (hss : R.slots = 427319) (K : ∀ B : Nat → Nat, KW p l e R s m args below meth c 2 A D h0 11 (mFs B 26) (mWd cA B 25) 25 352560 233 [(0, .ref h0)] [] w) : ∀ B : Nat → Nat, KW p l e R s m args below meth c 2 A D h0 11 (mFs B 25) (mWd cA B 24) 24 348463 224 [(0, .ref h0)] [] w := by
  intro B
  refine mi_25 C0 hK hA hin2 rfl (by rw [hcs]; decide) (by rw [hss]; decide) (fun q => ?_)
  have e1 : (mFs B 25).set 31 (.ref q) = mFs (va_up B 25 q) 26 := rfl
  have e2 : mWd cA B 24 ++ [(q, .inl (cA 0, (4097, .inl (fun _ => 0))))] = mWd cA (va_up B 25 q) 25 := rfl
  rw [e1, e2]
  exact K _
theorem mz_26 (C0 : zC p s m args meth c prog_13_method_1_code 2 "RuleTreeModel" zwl T_Mod_init none) (hK : va_K D zcl (ztys cA) s) (hA : ∀ q, s.heap.size ≤ q → A q) (hin2 : meth.name = "<init>") (hcs : R.cells = 33) (hss : R.slots = 427319) (K : ∀ B : Nat → Nat, KW p l e R s m args below meth c 2 A D h0 11 (mFs B 27) (mWd cA B 26) 26 356657 242 [(0, .ref h0)] [] w) : ∀ B : Nat → Nat, KW p l e R s m args below meth c 2 A D h0 11 (mFs B 26) (mWd cA B 25) 25 352560 233 [(0, .ref h0)] [] w := by
  intro B
  refine mi_26 C0 hK hA hin2 rfl (by rw [hcs]; decide) (by rw [hss]; decide) (fun q => ?_)
  have e1 : (mFs B 26).set 32 (.ref q) = mFs (va_up B 26 q) 27 := rfl
  have e2 : mWd cA B 25 ++ [(q, .inl (cA 1, (4097, .inr (.inl (fun _ => 0)))))] = mWd cA (va_up B 26 q) 26 := rfl
  rw [e1, e2]
  exact K _
theorem mz_27 (C0 : zC p s m args meth c prog_13_method_1_code 2 "RuleTreeModel" zwl T_Mod_init none) (hK : va_K D zcl (ztys cA) s) (hA : ∀ q, s.heap.size ≤ q → A q) (hin2 : meth.name = "<init>") (hcs : R.cells = 33) (hss : R.slots = 427319) (K : ∀ B : Nat → Nat, KW p l e R s m args below meth c 2 A D h0 11 (mFs B 28) (mWd cA B 27) 27 360754 251 [(0, .ref h0)] [] w) : ∀ B : Nat → Nat, KW p l e R s m args below meth c 2 A D h0 11 (mFs B 27) (mWd cA B 26) 26 356657 242 [(0, .ref h0)] [] w := by
  intro B
  refine mi_27 C0 hK hA hin2 rfl (by rw [hcs]; decide) (by rw [hss]; decide) (fun q => ?_)
  have e1 : (mFs B 27).set 33 (.ref q) = mFs (va_up B 27 q) 28 := rfl
  have e2 : mWd cA B 26 ++ [(q, .inl (cA 4, (4097, .inl (fun _ => 0))))] = mWd cA (va_up B 27 q) 27 := rfl
  rw [e1, e2]
  exact K _
theorem mz_28 (C0 : zC p s m args meth c prog_13_method_1_code 2 "RuleTreeModel" zwl T_Mod_init none) (hK : va_K D zcl (ztys cA) s) (hA : ∀ q, s.heap.size ≤ q → A q) (hin2 : meth.name = "<init>") (hcs : R.cells = 33) (hss : R.slots = 427319) (K : ∀ B : Nat → Nat, KW p l e R s m args below meth c 2 A D h0 11 (mFs B 29) (mWd cA B 28) 28 377140 260 [(0, .ref h0)] [] w) : ∀ B : Nat → Nat, KW p l e R s m args below meth c 2 A D h0 11 (mFs B 28) (mWd cA B 27) 27 360754 251 [(0, .ref h0)] [] w := by
  intro B
  refine mi_28 C0 hK hA hin2 rfl (by rw [hcs]; decide) (by rw [hss]; decide) (fun q => ?_)
  have e1 : (mFs B 28).set 34 (.ref q) = mFs (va_up B 28 q) 29 := rfl
  have e2 : mWd cA B 27 ++ [(q, .inl (cA 4, (16386, .inl (fun _ => 0))))] = mWd cA (va_up B 28 q) 28 := rfl
  rw [e1, e2]
  exact K _
theorem mz_29 (C0 : zC p s m args meth c prog_13_method_1_code 2 "RuleTreeModel" zwl T_Mod_init none) (hK : va_K D zcl (ztys cA) s) (hA : ∀ q, s.heap.size ≤ q → A q) (hin2 : meth.name = "<init>") (hcs : R.cells = 33) (hss : R.slots = 427319) (K : ∀ B : Nat → Nat, KW p l e R s m args below meth c 2 A D h0 11 (mFs B 30) (mWd cA B 29) 29 378165 269 [(0, .ref h0)] [] w) : ∀ B : Nat → Nat, KW p l e R s m args below meth c 2 A D h0 11 (mFs B 29) (mWd cA B 28) 28 377140 260 [(0, .ref h0)] [] w := by
  intro B
  refine mi_29 C0 hK hA hin2 rfl (by rw [hcs]; decide) (by rw [hss]; decide) (fun q => ?_)
  have e1 : (mFs B 29).set 38 (.ref q) = mFs (va_up B 29 q) 30 := rfl
  have e2 : mWd cA B 28 ++ [(q, .inl (cA 0, (1025, .inl (fun _ => 0))))] = mWd cA (va_up B 29 q) 29 := rfl
  rw [e1, e2]
  exact K _
theorem mz_30 (C0 : zC p s m args meth c prog_13_method_1_code 2 "RuleTreeModel" zwl T_Mod_init none) (hK : va_K D zcl (ztys cA) s) (hA : ∀ q, s.heap.size ≤ q → A q) (hin2 : meth.name = "<init>") (hcs : R.cells = 33) (hss : R.slots = 427319) (K : ∀ B : Nat → Nat, KW p l e R s m args below meth c 2 A D h0 11 (mFs B 31) (mWd cA B 30) 30 382262 278 [(0, .ref h0)] [] w) : ∀ B : Nat → Nat, KW p l e R s m args below meth c 2 A D h0 11 (mFs B 30) (mWd cA B 29) 29 378165 269 [(0, .ref h0)] [] w := by
  intro B
  refine mi_30 C0 hK hA hin2 rfl (by rw [hcs]; decide) (by rw [hss]; decide) (fun q => ?_)
  have e1 : (mFs B 30).set 40 (.ref q) = mFs (va_up B 30 q) 31 := rfl
  have e2 : mWd cA B 29 ++ [(q, .inl (cA 0, (4097, .inl (fun _ => 0))))] = mWd cA (va_up B 30 q) 30 := rfl
  rw [e1, e2]
  exact K _
theorem mz_31 (C0 : zC p s m args meth c prog_13_method_1_code 2 "RuleTreeModel" zwl T_Mod_init none) (hK : va_K D zcl (ztys cA) s) (hA : ∀ q, s.heap.size ≤ q → A q) (hin2 : meth.name = "<init>") (hcs : R.cells = 33) (hss : R.slots = 427319) (K : ∀ B : Nat → Nat, KW p l e R s m args below meth c 2 A D h0 11 (mFs B 32) (mWd cA B 31) 31 386359 287 [(0, .ref h0)] [] w) : ∀ B : Nat → Nat, KW p l e R s m args below meth c 2 A D h0 11 (mFs B 31) (mWd cA B 30) 30 382262 278 [(0, .ref h0)] [] w := by
  intro B
  refine mi_31 C0 hK hA hin2 rfl (by rw [hcs]; decide) (by rw [hss]; decide) (fun q => ?_)
  have e1 : (mFs B 31).set 41 (.ref q) = mFs (va_up B 31 q) 32 := rfl
  have e2 : mWd cA B 30 ++ [(q, .inl (cA 0, (4097, .inl (fun _ => 0))))] = mWd cA (va_up B 31 q) 31 := rfl
  rw [e1, e2]
  exact K _
theorem mz_32 (C0 : zC p s m args meth c prog_13_method_1_code 2 "RuleTreeModel" zwl T_Mod_init none) (hK : va_K D zcl (ztys cA) s) (hA : ∀ q, s.heap.size ≤ q → A q) (hin2 : meth.name = "<init>") (hcs : R.cells = 33) (hss : R.slots = 427319) (K : ∀ B : Nat → Nat, KW p l e R s m args below meth c 2 A D h0 11 (mFs B 33) (mWd cA B 32) 32 406839 296 [(0, .ref h0)] [] w) : ∀ B : Nat → Nat, KW p l e R s m args below meth c 2 A D h0 11 (mFs B 32) (mWd cA B 31) 31 386359 287 [(0, .ref h0)] [] w := by
  intro B
  refine mi_32 C0 hK hA hin2 rfl (by rw [hcs]; decide) (by rw [hss]; decide) (fun q => ?_)
  have e1 : (mFs B 32).set 43 (.ref q) = mFs (va_up B 32 q) 33 := rfl
  have e2 : mWd cA B 31 ++ [(q, .inl (cA 0, (20480, .inl (fun _ => 0))))] = mWd cA (va_up B 32 q) 32 := rfl
  rw [e1, e2]
  exact K _
theorem mz_33 (C0 : zC p s m args meth c prog_13_method_1_code 2 "RuleTreeModel" zwl T_Mod_init none) (hK : va_K D zcl (ztys cA) s) (hA : ∀ q, s.heap.size ≤ q → A q) (hin2 : meth.name = "<init>") (hcs : R.cells = 33) (hss : R.slots = 427319) (K : ∀ B : Nat → Nat, KW p l e R s m args below meth c 2 A D h0 11 (mFs B 34) (mWd cA B 33) 33 427319 305 [(0, .ref h0)] [] w) : ∀ B : Nat → Nat, KW p l e R s m args below meth c 2 A D h0 11 (mFs B 33) (mWd cA B 32) 32 406839 296 [(0, .ref h0)] [] w := by
  intro B
  refine mi_33 C0 hK hA hin2 rfl (by rw [hcs]; decide) (by rw [hss]; decide) (fun q => ?_)
  have e1 : (mFs B 33).set 44 (.ref q) = mFs (va_up B 33 q) 34 := rfl
  have e2 : mWd cA B 32 ++ [(q, .inl (cA 0, (20480, .inl (fun _ => 0))))] = mWd cA (va_up B 33 q) 33 := rfl
  rw [e1, e2]
  exact K _
theorem mz_all (C0 : zC p s m args meth c prog_13_method_1_code 2 "RuleTreeModel" zwl T_Mod_init none) (hK : va_K D zcl (ztys cA) s) (hA : ∀ q, s.heap.size ≤ q → A q) (hin2 : meth.name = "<init>") (hcs : R.cells = 33) (hss : R.slots = 427319) (K : ∀ B : Nat → Nat, KW p l e R s m args below meth c 2 A D h0 11 (mFs B 34) (mWd cA B 33) 33 427319 305 [(0, .ref h0)] [] w) : ∀ B : Nat → Nat, KW p l e R s m args below meth c 2 A D h0 11 (mFs B 0) (mWd cA B 0) 0 0 4 [(0, .ref h0)] [] w := mz_0 C0 hK hA hin2 hcs hss (mz_1 C0 hK hA hin2 hcs hss (mz_2 C0 hK hA hin2 hcs hss (mz_3 C0 hK hA hin2 hcs hss (mz_4 C0 hK hA hin2 hcs hss (mz_5 C0 hK hA hin2 hcs hss (mz_6 C0 hK hA hin2 hcs hss (mz_7 C0 hK hA hin2 hcs hss (mz_8 C0 hK hA hin2 hcs hss (mz_9 C0 hK hA hin2 hcs hss (mz_10 C0 hK hA hin2 hcs hss (mz_11 C0 hK hA hin2 hcs hss (mz_12 C0 hK hA hin2 hcs hss (mz_13 C0 hK hA hin2 hcs hss (mz_14 C0 hK hA hin2 hcs hss (mz_15 C0 hK hA hin2 hcs hss (mz_16 C0 hK hA hin2 hcs hss (mz_17 C0 hK hA hin2 hcs hss (mz_18 C0 hK hA hin2 hcs hss (mz_19 C0 hK hA hin2 hcs hss (mz_20 C0 hK hA hin2 hcs hss (mz_21 C0 hK hA hin2 hcs hss (mz_22 C0 hK hA hin2 hcs hss (mz_23 C0 hK hA hin2 hcs hss (mz_24 C0 hK hA hin2 hcs hss (mz_25 C0 hK hA hin2 hcs hss (mz_26 C0 hK hA hin2 hcs hss (mz_27 C0 hK hA hin2 hcs hss (mz_28 C0 hK hA hin2 hcs hss (mz_29 C0 hK hA hin2 hcs hss (mz_30 C0 hK hA hin2 hcs hss (mz_31 C0 hK hA hin2 hcs hss (mz_32 C0 hK hA hin2 hcs hss (mz_33 C0 hK hA hin2 hcs hss K)))))))))))))))))))))))))))))))))
theorem lc_cons {α : Type} {a b : α} {l r : List α} (h1 : a = b) (h2 : l = r) : a :: l = b :: r := by rw [h1, h2]
theorem mw_list (h0 : Nat) (B : Nat → Nat) : (zws 34 (va_up B 0 h0) (mct cA (va_up B 0 h0) (zMi 0)) : va_W) = (h0, .inr (11, mFs B 34)) :: mWd cA B 33 := by
  unfold zws
  rw [show List.range 34 = [0, 1, 2, 3, 4, 5, 6, 7, 8, 9, 10, 11, 12, 13, 14, 15, 16, 17, 18, 19, 20, 21, 22, 23, 24, 25, 26, 27, 28, 29, 30, 31, 32, 33] from rfl]
  exact lc_cons rfl (lc_cons rfl (lc_cons rfl (lc_cons rfl (lc_cons rfl (lc_cons rfl (lc_cons rfl (lc_cons rfl (lc_cons rfl (lc_cons rfl (lc_cons rfl (lc_cons rfl (lc_cons rfl (lc_cons rfl (lc_cons rfl (lc_cons rfl (lc_cons rfl (lc_cons rfl (lc_cons rfl (lc_cons rfl (lc_cons rfl (lc_cons rfl (lc_cons rfl (lc_cons rfl (lc_cons rfl (lc_cons rfl (lc_cons rfl (lc_cons rfl (lc_cons rfl (lc_cons rfl (lc_cons rfl (lc_cons rfl (lc_cons rfl (lc_cons rfl (rfl))))))))))))))))))))))))))))))))))
end KX
section KI
variable {cA : Nat → ClassId} {D : va_G} {l : Launch}
set_option maxHeartbeats 4000000 in
set_option maxRecDepth 20000 in
theorem k_Mod_init (h0 : Nat) : kMet l y_Mod_init (zw y_Mod_init prog_13_method_1_code 2 none) 1 20 [.ref h0] D cA h0 (.inr (11, [.int 0, .null, .null, .int 0, .null, .null, .null, .null, .null, .null, .null, .int 0, .null, .null, .int 0, .null, .null, .int 0, .null, .null, .int 0, .null, .null, .int 0, .null, .null, .null, .null, .null, .null, .null, .null, .null, .null, .null, .int 0, .int 0, .int 0, .null, .int 0, .null, .null, .int 0, .null, .null, .int 0])) (fun B : {B : Nat → Nat // B 0 = h0} => zws 34 B.1 (mct cA B.1 zM0)) 33 427319 := by
  refine kMet_of (by decide) rfl tk_Mod_init (Nat.le_of_ble_eq_true rfl) ?_
  intro p e R s m args below meth c A hf hlo hcs hss C0 hK hA hin2
  refine kw_go C0 1 (pc' := 1) (lv' := [(0, .ref h0)]) (st' := [.ref h0]) rfl ?_
  refine kw_oi C0 wd_5_17 (by rw [hf]; decide) (by rw [hlo]; decide) (Nat.le_of_ble_eq_true rfl) rfl ?_
  refine mz_all C0 hK hA hin2 hcs hss (fun B0 => ?_) (fun _ => 0)
  refine kw_go C0 2 (pc' := 307) (lv' := [(0, .ref h0), (1, .int 0)]) (st' := []) rfl ?_
  obtain ⟨B, hB, g0, hW⟩ : ∃ B : Nat → Nat, B = va_up B0 0 h0 ∧ B 0 = h0 ∧ (zws 34 B (mct cA B (zMi 0)) : va_W) = (h0, .inr (11, mFs B0 34)) :: mWd cA B0 33 := ⟨_, rfl, rfl, mw_list h0 B0⟩
  intro H locs ls h1 h2 h3 h5
  rw [← hW] at h1 h2
  have hl : lv_has ls 2 [(0, .ref (B 0)), (1, .int (nI 0))] := by rw [g0]; exact h5
  refine kW_mono ?_ ((sw_mini (l := l) (e := e) (R := R) (A := A) (below := below) (cA := cA) (B := B) C0 hK 16386 0 rfl).2.2 H locs _ _ ls (mRep_mk h1 h2) h3 (by show _ + 0 ≤ R.cells + 0; omega) (by show _ + 0 ≤ R.slots + 0; omega) hl)
  rintro t ⟨o, a1, a2, ⟨b1, b2, b3⟩, b4⟩
  exact ⟨o, a1, a2, ⟨b1, ⟨⟨B, g0⟩, zws_P b2.1, zws_D b2.2.1 b2.2.2⟩, b3⟩, b4⟩
end KI
