-- RuleTree$Pushed.<init>, RuleTree$Parts.<init> (by program, in part)
def zSp : zS := r_fill zS1 0 128 (-1)
theorem zSp_eq : zSp = z_fl zS1 0 (-1) 128 := by
  unfold zSp r_fill
  rw [show (128 : Int32).toInt.toNat = 128 by decide]
theorem ufc_eq (S : zS) : ufc S = S.2.1 0 := by
  unfold ufc zsum zsum
  exact Nat.zero_add _
theorem ufs_eq (S : zS) : ufs S = 2 * zcap S 0 := by
  unfold ufs zsum zsum
  exact Nat.zero_add _
theorem zSp_r : zSp.1 0 = List.replicate 128 (-1) := by rw [zSp_eq]; exact (z_fl128 (-1) 128 (Nat.le_refl _)).1
theorem zSp_g : zSp.2.1 0 = 3 := by rw [zSp_eq]; exact (z_fl128 (-1) 128 (Nat.le_refl _)).2
theorem zgetD_rep {n i : Nat} {v d : Int32} (h : i < n) : (List.replicate n v).getD i d = v := by
  rw [List.getD_eq_getElem?_getD, List.getElem?_replicate, if_pos h]
  rfl
theorem zFv_1 (x : zS) : (zFv x).1 = x := rfl
theorem zSp_c : ufc (zFv (r_fill zS1 0 128 (-1))).1 - ufc zS1 = 3 := by
  rw [zFv_1, ← zSp, ufc_eq, ufc_eq, zSp_g]
  rfl
theorem zSp_s : ufs (zFv (r_fill zS1 0 128 (-1))).1 - ufs zS1 = 224 := by
  rw [zFv_1, ← zSp, ufs_eq, ufs_eq]
  unfold zcap
  rw [zSp_g]
  rfl
theorem zSp_r' : (zFv (r_fill zS1 0 128 (-1))).1.1 0 = List.replicate 128 (-1) := by rw [zFv_1, ← zSp, zSp_r]
theorem zSp_g' : (zFv (r_fill zS1 0 128 (-1))).1.2.1 0 = 3 := by rw [zFv_1, ← zSp, zSp_g]
theorem r_add1 (v : Int32) : r_add zS1 0 v = (z_row zS1 0 [v], 0) := rfl
def kMetW (l : Launch) (y : MethodName) (ws : List Cond) (fr lo : Nat) (argsL : List Value) (D : va_G) (cA : Nat → ClassId) (w0 : va_W) {ι : Type} (w : (ι → va_W) × Option Value) (mc ms : Nat) : Prop :=
  ∀ sz, Met l y ws { frames := fr, cells := mc, slots := ms, locals := lo } (va_Pc argsL (fun U => U.heap.size = sz ∧ va_P D zcl w0 U.heap ∧ va_K D zcl (ztys cA) U ∧ va_D (fun _ => True) w0)) (kQ D w (va_A w0 sz)) mc ms (va_A w0 sz)
section KWW
variable {p : Program} {l : Launch} {e : Env} {R : Room} {s : State} {m : MethodId} {args : Array Value} {below : List Frame} {meth : Method} {c : Code} {nL : Nat} {A : Nat → Prop} {cc : ByteArray} {T : List zTr} {own : String} {ret : Option FieldType} {D : va_G} {cA : Nat → ClassId} {pc : Nat} {lv : zLv} {st rest : List Value} {ci h0 cells slots : Nat} {fs : List Value} {Wd : va_W} {ι : Type} {w : (ι → va_W) × Option Value}
theorem kMetW_of {y : MethodName} {bytes : ByteArray} {maxL fr lo mc ms : Nat} {rt : Option FieldType} {argsL : List Value} (hy : plainName y.cls = true) (hT : zTok bytes maxL T) (hlen : (lg_sl argsL).length ≤ maxL)
    (body : ∀ (p : Program) (e : Env) (R : Room) (s : State) (m : MethodId) (args : Array Value) (below : List Frame) (meth : Method) (c : Code) (A : Nat → Prop), R.frames = fr → R.locals = lo → R.cells = mc → R.slots = ms → zC p s m args meth c bytes maxL y.cls zwl T rt → va_K D zcl (ztys cA) s → (∀ q, s.heap.size ≤ q → A q) → KW p l e R s m args below meth c maxL A D h0 ci fs Wd 0 0 0 (lv_args 0 argsL) [] w) :
    kMetW l y (zw y bytes maxL rt) fr lo argsL D cA ((h0, .inr (ci, fs)) :: Wd) w mc ms := by
  intro sz
  refine Met.ofW (cc := bytes) (maxL := maxL) (ret := rt) hy rfl ?_
  intro p e s m args below meth c s₁ B hml hv
  obtain ⟨rfl, hsz, hP, hK, hD0⟩ := hv
  have hts := atoms_spec (ws := zw y bytes maxL rt) B.pre
  have hown : s.vm.findClass y.cls = some m.cls := findClass_of_methodNamed B.named
  subst hsz
  have hD := hD0.self (sz := s.heap.size)
  have C0 : zC p s m argsL.toArray meth c bytes maxL y.cls zwl T rt := ⟨B.exec, B.bytes, hml, hown, fun w hw => hts w (List.mem_cons_of_mem _ hw), hT, B.returns, B.notSynchronized⟩
  have hl := lv_entry argsL (n := maxL) hlen
  rw [lg_entry_eq]
  exact body p e (headSpec (zw y bytes maxL rt) { frames := fr, cells := mc, slots := ms, locals := lo }).room s m argsL.toArray below meth c (va_A ((h0, .inr (ci, fs)) :: Wd) s.heap.size) rfl rfl rfl rfl C0 hK (fun q h => Or.inr h) s.heap [] _ hP hD va_S.rf hl
theorem kw_callW (C0 : zC p s m args meth c cc nL own zwl T ret) (hK : va_K D zcl (ztys cA) s) (hA : ∀ q, s.heap.size ≤ q → A q) {C : String} {F : u_T} {N : Nat} {y : MethodName} {bytes : ByteArray} {maxL n fr lo idx tgt mc ms : Nat} {v0 : Int32} {rt : Option FieldType} {As : List Value} {κ : Type} {w1 : (κ → va_W) × Option Value} {W' : κ → va_W} (Y : zY C y bytes maxL rt n) (hc : zcl[ci]? = some (C, F, N)) (hM : kMetW l y (zw y bytes maxL rt) fr lo (.ref h0 :: As) D cA ((h0, .inr (ci, fs)) :: Wd) w1 mc ms) (hw : ∀ x, w1.1 x = (h0, .inr (ci, fs)) :: W' x)
    (hl : Cond.methodLink own idx y ∈ zwl) (hn : As.length = n) (hR : fr + 1 ≤ R.frames ∧ 8 + (maxL + 11) + lo ≤ R.locals) (hW : (rest.map fun v => v.category).sum ≤ 8) (hcells : cells + mc ≤ R.cells) (hslots : slots + ms ≤ R.slots) (hq : T.lookup pc = some (.invokevirtual idx, 3, tgt, v0))
    (k : ∀ x, KW p l e R s m args below meth c nL A D h0 ci fs (W' x) (cells + mc) (slots + ms) (pc + 3) lv (w1.2.toList ++ rest) w) : KW p l e R s m args below meth c nL A D h0 ci fs Wd cells slots pc lv (As.reverse ++ .ref h0 :: rest) w := by
  obtain ⟨y1, y2, y3, y4, y5⟩ := Y
  obtain ⟨hx, hb, hml, hown, hts, hT, hr, hlocks⟩ := C0
  intro H locs ls g1 g2 g3 g5
  have hG : GoodIn zwl (wsV own idx C y (zw y bytes maxL rt)) := by
    intro w hw
    rcases List.mem_append.mp hw with h | h
    · have : w = .methodLink own idx y ∨ w = .instanceMethod y ∨ w = .selects C y y ∨ w = .initialized C := by simpa using h
      rcases this with rfl | rfl | rfl | rfl
      · exact zgood _ hl
      · exact zgood _ y2
      · exact zgood _ y3
      · exact zgood _ y4
    · rcases List.mem_cons.mp h with rfl | h
      · exact zgood _ y1
      · exact zgood _ h
  have run := va_runV (p := p) (l := l) (e := e) (below := below) (meth := meth) (c := c) (H := H) (locs := locs) (cells := cells) (slots := slots) (g := F0 m pc ls (As.reverse ++ .ref h0 :: rest)) (As := As) (rest := rest) ⟨hx, hb, hml, hown, hts⟩ (hM H.size) (cwV n hts hG rfl rfl rfl y5 hR) ⟨fun a U g mk q => by obtain ⟨q0, q1, qP, qK, qD⟩ := q; exact ⟨q0, q1, qP, va_K.moved (u := U) (U := U.calling g mk a) (Vm.Alike.refl U.vm) qK, qD⟩, va_recv hK g1 (ci := ci) (q0 := 0) hc rfl, fun U hU hW2 => ⟨rfl, by rw [hU], by rw [hU]; exact g1, va_K.moved hW2.alike hK, g2.weaken (fun _ _ _ _ => trivial)⟩⟩ rfl hn g5.1 rfl (lv_room hW) (hT.dec hq) ⟨hcells, hslots⟩
  intro T0 hT0 X
  obtain ⟨v, st₀, t, T', L, h0', X', hL, e1', e2, ⟨hv, ⟨x, hP1, hD1⟩, hz, hk⟩, stp⟩ := run T0 hT0 X
  cases hv
  rw [h0'] at hz hk
  have hAq : ∀ z, va_A ((h0, .inr (ci, fs)) :: Wd) H.size z → A z := by
    rintro z (⟨j, e, h⟩ | h)
    · exact g2.2 j _ h
    · exact hA z (Nat.le_trans g3.1 h)
  rw [hw x] at hP1 hD1
  obtain ⟨t2, a1, b1⟩ := k x T'.heap (locs ++ L) ls (by rw [e1']; exact hP1) (hD1.weaken (fun _ q _ h => hAq q.1 h))
    ⟨Nat.le_trans g3.1 (by rw [e1']; exact hz), fun z f1 f2 => by rw [e1', hk z (Nat.lt_of_lt_of_le f1 g3.1) (fun zz => f2 (hAq z zz))]; exact g3.2.1 z f1 f2, fun z hz => by
      rcases List.mem_append.mp hz with h | h
      · exact g3.2.2 z h
      · exact hAq _ (hL z h)⟩ g5 T' rfl X'
  exact ⟨t2, stp t2 a1, b1⟩
end KWW
section KI
variable {cA : Nat → ClassId} {D : va_G} {l : Launch}
def w_Psh (cA : Nat → ClassId) (h0 : Nat) (x : {x : Nat × Nat × (Nat → Int32) // ∀ i, i < 128 → x.2.2 i = -1}) : va_W := (h0, .inr (4, [.ref x.1.1, .int 0])) :: kRowX cA x.1.1 x.1.2.1 (List.replicate 128 (-1)) 3 x.1.2.2
set_option maxHeartbeats 4000000 in
set_option maxRecDepth 20000 in
theorem k_Psh_init (h0 : Nat) : kMet l y_Psh_init (zw y_Psh_init prog_9_method_1_code 1 none) 4 110 [.ref h0] D cA h0 (.inr (4, [.null, .int 0])) (w_Psh cA h0) 5 242 := by
  refine kMet_of (by decide) rfl tk_Psh_init (Nat.le_of_ble_eq_true rfl) ?_
  intro p e R s m args below meth c A hf hlo hcs hss C0 hK hA hin2
  refine kw_go C0 1 (pc' := 1) (lv' := [(0, .ref h0)]) (st' := [.ref h0]) rfl ?_
  refine kw_oi C0 wd_1_93 (by rw [hf]; decide) (by rw [hlo]; decide) (Nat.le_of_ble_eq_true rfl) rfl ?_
  refine kw_go C0 1 (pc' := 5) (lv' := [(0, .ref h0)]) (st' := [.ref h0]) rfl ?_
  refine kw_new C0 hK hA (cj := 0) (gs := [.null, .int 0]) rfl i_Row t_Row_ok (fun j hj => by rcases (show j = 0 ∨ j = 1 by omega) with rfl | rfl <;> rfl) wd_1_94 wd_1_31 wd_1_3 (by omega) (by omega) rfl (fun q1 => ?_)
  refine kw_go C0 1 (pc' := 9) (lv' := [(0, .ref h0)]) (st' := [.ref q1, .ref q1, .ref h0]) rfl ?_
  refine kw_call (n := 0) (As := []) (rest := [.ref q1, .ref h0]) C0 hK hA (k_Row_init q1) wd_1_34 wd_1_3 wd_1_95 wd_1_33 rfl (by decide +kernel) rfl ⟨by rw [hf]; decide, by rw [hlo]; decide⟩ (Nat.le_of_ble_eq_true rfl) (by omega) (by omega) rfl (fun a1 => ?_)
  refine kw_putF C0 hK hin2 (j := 0) (ty := .object "RuleTree$Row") rfl i_Psh t_Psh_ok n_Psh (by decide) (Nat.le_of_ble_eq_true rfl) rfl rfl (by decide +kernel) rfl rfl wd_1_121 rfl ?_
  refine kw_go C0 1 (pc' := 16) (lv' := [(0, .ref h0)]) (st' := [.ref h0]) rfl ?_
  refine kw_get C0 hK (j := 0) (v := .ref q1) rfl i_Psh (by decide) rfl wd_1_121 rfl ?_
  refine kw_go C0 2 (pc' := 23) (lv' := [(0, .ref h0)]) (st' := [.int (-1), .int 128, .ref q1]) rfl ?_
  refine kw_eq (Wd' := [] ++ (kRow cA q1 a1 ++ [])) rfl ?_
  refine kw_rc (As := [.int 128, .int (-1)]) (rest := []) C0 hK hA yk_Row_refill (fun A' => d_Row_refill (S := zS1) (G := fun _ => q1) 0 (by decide) 128 (-1)) wd_1_96 rfl ⟨by rw [hf]; decide, by rw [hlo]; decide⟩ (Nat.le_of_ble_eq_true rfl) (by rw [zSp_c]; omega) (by rw [zSp_s]; omega) rfl (fun b1 f1 hf1 => ?_)
  refine kw_go C0 2 (pc' := 28) (lv' := [(0, .ref h0)]) (st' := [.int 0, .ref h0]) rfl ?_
  refine kw_put C0 hK (j := 1) (ty := .int) rfl i_Psh t_Psh_ok n_Psh (by decide) (Nat.le_of_ble_eq_true rfl) rfl (by decide +kernel) rfl rfl wd_1_122 rfl ?_
  rw [zSp_r'] at hf1
  rw [zSp_r', zSp_g']
  exact kw_ret C0 ⟨(q1, b1, f1), fun i hi => by have := hf1 i (by simpa using hi); show f1 i = -1; rw [this]; exact zgetD_rep hi⟩ rfl rfl (by rw [zSp_c]; omega) (by rw [zSp_s]; omega) rfl
def kRr (cA : Nat → ClassId) (q a : Nat → Nat) : Nat → Nat → va_W
  | _, 0 => []
  | i, n + 1 => kRow cA (q i) (a i) ++ kRr cA q a (i + 1) n
def kParF (pt : Nat) (q : Nat → Nat) : List Value := [.ref pt, .ref (q 0), .ref (q 1), .ref (q 2), .ref (q 3), .ref (q 4), .ref (q 5), .ref (q 6), .ref (q 7), .ref (q 8), .ref (q 9), .ref (q 10), .ref (q 11), .ref (q 12), .ref (q 13)]
abbrev kParI : Type := {x : (Nat → Nat) × (Nat → Nat → Int32) // x.2 0 0 = 0 ∧ x.2 1 0 = 0 ∧ x.2 2 0 = -1 ∧ x.2 3 0 = -1 ∧ x.2 4 0 = -1}
def kParW (cA : Nat → ClassId) (q a : Nat → Nat) (x : kParI) : va_W := kRowX cA (q 0) (x.1.1 0) [0] 0 (x.1.2 0) ++ (kRowX cA (q 1) (x.1.1 1) [0] 0 (x.1.2 1) ++ (kRowX cA (q 2) (x.1.1 2) [-1] 0 (x.1.2 2) ++ (kRowX cA (q 3) (x.1.1 3) [-1] 0 (x.1.2 3) ++ (kRowX cA (q 4) (x.1.1 4) [-1] 0 (x.1.2 4) ++ kRr cA q a 5 9))))
set_option maxHeartbeats 4000000 in
set_option maxRecDepth 20000 in
theorem k_Par_addPart (h0 pt : Nat) (q a : Nat → Nat) : kMetW l y_Par_addPart (zw y_Par_addPart prog_7_method_31_code 3 (some Jvm.ClassFile.FieldType.int)) 3 83 [.ref h0, .int (-1), .int (-1)] D cA ((h0, .inr (6, kParF pt q)) :: kRr cA q a 0 14) (fun x => (h0, .inr (6, kParF pt q)) :: kParW cA q a x, some (.int 0)) 0 0 := by
  refine kMetW_of (by decide) tk_Par_addPart (Nat.le_of_ble_eq_true rfl) ?_
  intro p e R s m args below meth c A hf hlo hcs hss C0 hK hA
  refine kw_go C0 1 (pc' := 1) (lv' := [(0, .ref h0), (1, .int (-1)), (2, .int (-1))]) (st' := [.ref h0]) rfl ?_
  refine kw_get C0 hK (j := 2) (v := .ref (q 1)) rfl i_Par (by decide) rfl wd_1_160 rfl ?_
  refine kw_go C0 1 (pc' := 5) (lv' := [(0, .ref h0), (1, .int (-1)), (2, .int (-1))]) (st' := [.int 0, .ref (q 1)]) rfl ?_
  refine kw_eq (Wd' := (kRow cA (q 0) (a 0)) ++ (kRow cA (q 1) (a 1) ++ (kRow cA (q 2) (a 2) ++ (kRow cA (q 3) (a 3) ++ (kRow cA (q 4) (a 4) ++ (kRr cA q a 5 9)))))) rfl ?_
  refine kw_rc (As := [.int 0]) (rest := []) (E' := zFi (z_row zS1 0 [0], 0)) C0 hK hA yk_Row_add (fun A' => d_Row_add (S := zS1) (G := fun _ => q 1) 0 (by decide) 0) wd_1_157 rfl ⟨by rw [hf]; decide, by rw [hlo]; decide⟩ (Nat.le_of_ble_eq_true rfl) (by show 0 + 0 ≤ R.cells; omega) (by show 0 + 0 ≤ R.slots; omega) rfl (fun b1 f1 hf1 => ?_)
  refine kw_go C0 2 (pc' := 10) (lv' := [(0, .ref h0), (1, .int (-1)), (2, .int (-1))]) (st' := [.ref h0]) rfl ?_
  refine kw_get C0 hK (j := 3) (v := .ref (q 2)) rfl i_Par (by decide) rfl wd_1_161 rfl ?_
  refine kw_go C0 1 (pc' := 14) (lv' := [(0, .ref h0), (1, .int (-1)), (2, .int (-1))]) (st' := [.int (-1), .ref (q 2)]) rfl ?_
  refine kw_eq (Wd' := (kRow cA (q 0) (a 0) ++ kRowX cA (q 1) b1 [0] 0 f1) ++ (kRow cA (q 2) (a 2) ++ (kRow cA (q 3) (a 3) ++ (kRow cA (q 4) (a 4) ++ (kRr cA q a 5 9))))) rfl ?_
  refine kw_rc (As := [.int (-1)]) (rest := []) (E' := zFi (z_row zS1 0 [(-1)], 0)) C0 hK hA yk_Row_add (fun A' => d_Row_add (S := zS1) (G := fun _ => q 2) 0 (by decide) (-1)) wd_1_157 rfl ⟨by rw [hf]; decide, by rw [hlo]; decide⟩ (Nat.le_of_ble_eq_true rfl) (by show 0 + 0 ≤ R.cells; omega) (by show 0 + 0 ≤ R.slots; omega) rfl (fun b2 f2 hf2 => ?_)
  refine kw_go C0 2 (pc' := 19) (lv' := [(0, .ref h0), (1, .int (-1)), (2, .int (-1))]) (st' := [.ref h0]) rfl ?_
  refine kw_get C0 hK (j := 4) (v := .ref (q 3)) rfl i_Par (by decide) rfl wd_1_162 rfl ?_
  refine kw_go C0 1 (pc' := 23) (lv' := [(0, .ref h0), (1, .int (-1)), (2, .int (-1))]) (st' := [.int (-1), .ref (q 3)]) rfl ?_
  refine kw_eq (Wd' := (kRow cA (q 0) (a 0) ++ kRowX cA (q 1) b1 [0] 0 f1 ++ kRowX cA (q 2) b2 [-1] 0 f2) ++ (kRow cA (q 3) (a 3) ++ (kRow cA (q 4) (a 4) ++ (kRr cA q a 5 9)))) rfl ?_
  refine kw_rc (As := [.int (-1)]) (rest := []) (E' := zFi (z_row zS1 0 [(-1)], 0)) C0 hK hA yk_Row_add (fun A' => d_Row_add (S := zS1) (G := fun _ => q 3) 0 (by decide) (-1)) wd_1_157 rfl ⟨by rw [hf]; decide, by rw [hlo]; decide⟩ (Nat.le_of_ble_eq_true rfl) (by show 0 + 0 ≤ R.cells; omega) (by show 0 + 0 ≤ R.slots; omega) rfl (fun b3 f3 hf3 => ?_)
  refine kw_go C0 2 (pc' := 28) (lv' := [(0, .ref h0), (1, .int (-1)), (2, .int (-1))]) (st' := [.ref h0]) rfl ?_
  refine kw_get C0 hK (j := 5) (v := .ref (q 4)) rfl i_Par (by decide) rfl wd_1_163 rfl ?_
  refine kw_go C0 1 (pc' := 32) (lv' := [(0, .ref h0), (1, .int (-1)), (2, .int (-1))]) (st' := [.int (-1), .ref (q 4)]) rfl ?_
  refine kw_eq (Wd' := (kRow cA (q 0) (a 0) ++ kRowX cA (q 1) b1 [0] 0 f1 ++ kRowX cA (q 2) b2 [-1] 0 f2 ++ kRowX cA (q 3) b3 [-1] 0 f3) ++ (kRow cA (q 4) (a 4) ++ (kRr cA q a 5 9))) rfl ?_
  refine kw_rc (As := [.int (-1)]) (rest := []) (E' := zFi (z_row zS1 0 [(-1)], 0)) C0 hK hA yk_Row_add (fun A' => d_Row_add (S := zS1) (G := fun _ => q 4) 0 (by decide) (-1)) wd_1_157 rfl ⟨by rw [hf]; decide, by rw [hlo]; decide⟩ (Nat.le_of_ble_eq_true rfl) (by show 0 + 0 ≤ R.cells; omega) (by show 0 + 0 ≤ R.slots; omega) rfl (fun b4 f4 hf4 => ?_)
  refine kw_go C0 2 (pc' := 37) (lv' := [(0, .ref h0), (1, .int (-1)), (2, .int (-1))]) (st' := [.ref h0]) rfl ?_
  refine kw_get C0 hK (j := 1) (v := .ref (q 0)) rfl i_Par (by decide) rfl wd_1_159 rfl ?_
  refine kw_go C0 1 (pc' := 41) (lv' := [(0, .ref h0), (1, .int (-1)), (2, .int (-1))]) (st' := [.int 0, .ref (q 0)]) rfl ?_
  refine kw_eq (Wd' := ([]) ++ (kRow cA (q 0) (a 0) ++ (kRowX cA (q 1) b1 [0] 0 f1 ++ (kRowX cA (q 2) b2 [-1] 0 f2 ++ (kRowX cA (q 3) b3 [-1] 0 f3 ++ (kRowX cA (q 4) b4 [-1] 0 f4 ++ (kRr cA q a 5 9))))))) rfl ?_
  refine kw_rc (As := [.int 0]) (rest := []) (E' := zFi (z_row zS1 0 [0], 0)) C0 hK hA yk_Row_add (fun A' => d_Row_add (S := zS1) (G := fun _ => q 0) 0 (by decide) 0) wd_1_157 rfl ⟨by rw [hf]; decide, by rw [hlo]; decide⟩ (Nat.le_of_ble_eq_true rfl) (by show 0 + 0 ≤ R.cells; omega) (by show 0 + 0 ≤ R.slots; omega) rfl (fun b0 f0 hf0 => ?_)
  have e : ∀ (v : Int32) (f : Nat → Int32), (∀ i, i < ((zFi (z_row zS1 0 [v], (0 : Int32))).1.1 0).length → f i = ((zFi (z_row zS1 0 [v], (0 : Int32))).1.1 0).getD i 0) → f 0 = v := fun v f h => h 0 (Nat.zero_lt_one)
  exact kw_reti C0 ⟨(fun i => [b0, b1, b2, b3, b4].getD i 0, fun i => [f0, f1, f2, f3, f4].getD i (fun _ => 0)), e _ _ hf0, e _ _ hf1, e _ _ hf2, e _ _ hf3, e _ _ hf4⟩ rfl rfl (by show 0 + 0 + 0 + 0 + 0 + 0 ≤ R.cells; omega) (by show 0 + 0 + 0 + 0 + 0 + 0 ≤ R.slots; omega) rfl
def w_Par (cA : Nat → ClassId) (h0 p1 : Nat) (x : (List Nat × List Nat) × kParI) : va_W := (h0, .inr (6, kParF p1 (fun i => x.1.1.getD i 0))) :: kParW cA (fun i => x.1.1.getD i 0) (fun i => x.1.2.getD i 0) x.2
set_option maxHeartbeats 4000000 in
set_option maxRecDepth 20000 in
theorem k_Par_init (h0 : Nat) (p1 : Nat) : kMet l y_Par_init (zw y_Par_init prog_7_method_1_code 2 none) 4 105 [.ref h0, .ref p1] D cA h0 (.inr (6, [.null, .null, .null, .null, .null, .null, .null, .null, .null, .null, .null, .null, .null, .null, .null])) (w_Par cA h0 p1) 28 252 := by
  refine kMet_of (by decide) rfl tk_Par_init (Nat.le_of_ble_eq_true rfl) ?_
  intro p e R s m args below meth c A hf hlo hcs hss C0 hK hA hin2
  refine kw_go C0 1 (pc' := 1) (lv' := [(0, .ref h0), (1, .ref p1)]) (st' := [.ref h0]) rfl ?_
  refine kw_oi C0 wd_1_150 (by rw [hf]; decide) (by rw [hlo]; decide) (Nat.le_of_ble_eq_true rfl) rfl ?_
  refine kw_go C0 2 (pc' := 6) (lv' := [(0, .ref h0), (1, .ref p1)]) (st' := [.ref p1, .ref h0]) rfl ?_
  refine kw_putF C0 hK hin2 (j := 0) (ty := .object "RuleTree$Patterns") rfl i_Par t_Par_ok n_Par (by decide) (Nat.le_of_ble_eq_true rfl) rfl rfl (by decide +kernel) rfl rfl wd_1_158 rfl ?_
  refine kw_go C0 1 (pc' := 10) (lv' := [(0, .ref h0), (1, .ref p1)]) (st' := [.ref h0]) rfl ?_
  refine kw_new C0 hK hA (cj := 0) (gs := [.null, .int 0]) rfl i_Row t_Row_ok (fun j hj => by rcases (show j = 0 ∨ j = 1 by omega) with rfl | rfl <;> rfl) wd_1_151 wd_1_31 wd_1_3 (by omega) (by omega) rfl (fun q1 => ?_)
  refine kw_go C0 1 (pc' := 14) (lv' := [(0, .ref h0), (1, .ref p1)]) (st' := [.ref q1, .ref q1, .ref h0]) rfl ?_
  refine kw_call (n := 0) (As := []) (rest := [.ref q1, .ref h0]) C0 hK hA (k_Row_init q1) wd_1_34 wd_1_3 wd_1_152 wd_1_33 rfl (by decide +kernel) rfl ⟨by rw [hf]; decide, by rw [hlo]; decide⟩ (Nat.le_of_ble_eq_true rfl) (by omega) (by omega) rfl (fun a1 => ?_)
  refine kw_putF C0 hK hin2 (j := 1) (ty := .object "RuleTree$Row") rfl i_Par t_Par_ok n_Par (by decide) (Nat.le_of_ble_eq_true rfl) rfl rfl (by decide +kernel) rfl rfl wd_1_159 rfl ?_
  refine kw_go C0 1 (pc' := 21) (lv' := [(0, .ref h0), (1, .ref p1)]) (st' := [.ref h0]) rfl ?_
  refine kw_new C0 hK hA (cj := 0) (gs := [.null, .int 0]) rfl i_Row t_Row_ok (fun j hj => by rcases (show j = 0 ∨ j = 1 by omega) with rfl | rfl <;> rfl) wd_1_151 wd_1_31 wd_1_3 (by omega) (by omega) rfl (fun q2 => ?_)
  refine kw_go C0 1 (pc' := 25) (lv' := [(0, .ref h0), (1, .ref p1)]) (st' := [.ref q2, .ref q2, .ref h0]) rfl ?_
  refine kw_call (n := 0) (As := []) (rest := [.ref q2, .ref h0]) C0 hK hA (k_Row_init q2) wd_1_34 wd_1_3 wd_1_152 wd_1_33 rfl (by decide +kernel) rfl ⟨by rw [hf]; decide, by rw [hlo]; decide⟩ (Nat.le_of_ble_eq_true rfl) (by omega) (by omega) rfl (fun a2 => ?_)
  refine kw_putF C0 hK hin2 (j := 2) (ty := .object "RuleTree$Row") rfl i_Par t_Par_ok n_Par (by decide) (Nat.le_of_ble_eq_true rfl) rfl rfl (by decide +kernel) rfl rfl wd_1_160 rfl ?_
  refine kw_go C0 1 (pc' := 32) (lv' := [(0, .ref h0), (1, .ref p1)]) (st' := [.ref h0]) rfl ?_
  refine kw_new C0 hK hA (cj := 0) (gs := [.null, .int 0]) rfl i_Row t_Row_ok (fun j hj => by rcases (show j = 0 ∨ j = 1 by omega) with rfl | rfl <;> rfl) wd_1_151 wd_1_31 wd_1_3 (by omega) (by omega) rfl (fun q3 => ?_)
  refine kw_go C0 1 (pc' := 36) (lv' := [(0, .ref h0), (1, .ref p1)]) (st' := [.ref q3, .ref q3, .ref h0]) rfl ?_
  refine kw_call (n := 0) (As := []) (rest := [.ref q3, .ref h0]) C0 hK hA (k_Row_init q3) wd_1_34 wd_1_3 wd_1_152 wd_1_33 rfl (by decide +kernel) rfl ⟨by rw [hf]; decide, by rw [hlo]; decide⟩ (Nat.le_of_ble_eq_true rfl) (by omega) (by omega) rfl (fun a3 => ?_)
  refine kw_putF C0 hK hin2 (j := 3) (ty := .object "RuleTree$Row") rfl i_Par t_Par_ok n_Par (by decide) (Nat.le_of_ble_eq_true rfl) rfl rfl (by decide +kernel) rfl rfl wd_1_161 rfl ?_
  refine kw_go C0 1 (pc' := 43) (lv' := [(0, .ref h0), (1, .ref p1)]) (st' := [.ref h0]) rfl ?_
  refine kw_new C0 hK hA (cj := 0) (gs := [.null, .int 0]) rfl i_Row t_Row_ok (fun j hj => by rcases (show j = 0 ∨ j = 1 by omega) with rfl | rfl <;> rfl) wd_1_151 wd_1_31 wd_1_3 (by omega) (by omega) rfl (fun q4 => ?_)
  refine kw_go C0 1 (pc' := 47) (lv' := [(0, .ref h0), (1, .ref p1)]) (st' := [.ref q4, .ref q4, .ref h0]) rfl ?_
  refine kw_call (n := 0) (As := []) (rest := [.ref q4, .ref h0]) C0 hK hA (k_Row_init q4) wd_1_34 wd_1_3 wd_1_152 wd_1_33 rfl (by decide +kernel) rfl ⟨by rw [hf]; decide, by rw [hlo]; decide⟩ (Nat.le_of_ble_eq_true rfl) (by omega) (by omega) rfl (fun a4 => ?_)
  refine kw_putF C0 hK hin2 (j := 4) (ty := .object "RuleTree$Row") rfl i_Par t_Par_ok n_Par (by decide) (Nat.le_of_ble_eq_true rfl) rfl rfl (by decide +kernel) rfl rfl wd_1_162 rfl ?_
  refine kw_go C0 1 (pc' := 54) (lv' := [(0, .ref h0), (1, .ref p1)]) (st' := [.ref h0]) rfl ?_
  refine kw_new C0 hK hA (cj := 0) (gs := [.null, .int 0]) rfl i_Row t_Row_ok (fun j hj => by rcases (show j = 0 ∨ j = 1 by omega) with rfl | rfl <;> rfl) wd_1_151 wd_1_31 wd_1_3 (by omega) (by omega) rfl (fun q5 => ?_)
  refine kw_go C0 1 (pc' := 58) (lv' := [(0, .ref h0), (1, .ref p1)]) (st' := [.ref q5, .ref q5, .ref h0]) rfl ?_
  refine kw_call (n := 0) (As := []) (rest := [.ref q5, .ref h0]) C0 hK hA (k_Row_init q5) wd_1_34 wd_1_3 wd_1_152 wd_1_33 rfl (by decide +kernel) rfl ⟨by rw [hf]; decide, by rw [hlo]; decide⟩ (Nat.le_of_ble_eq_true rfl) (by omega) (by omega) rfl (fun a5 => ?_)
  refine kw_putF C0 hK hin2 (j := 5) (ty := .object "RuleTree$Row") rfl i_Par t_Par_ok n_Par (by decide) (Nat.le_of_ble_eq_true rfl) rfl rfl (by decide +kernel) rfl rfl wd_1_163 rfl ?_
  refine kw_go C0 1 (pc' := 65) (lv' := [(0, .ref h0), (1, .ref p1)]) (st' := [.ref h0]) rfl ?_
  refine kw_new C0 hK hA (cj := 0) (gs := [.null, .int 0]) rfl i_Row t_Row_ok (fun j hj => by rcases (show j = 0 ∨ j = 1 by omega) with rfl | rfl <;> rfl) wd_1_151 wd_1_31 wd_1_3 (by omega) (by omega) rfl (fun q6 => ?_)
  refine kw_go C0 1 (pc' := 69) (lv' := [(0, .ref h0), (1, .ref p1)]) (st' := [.ref q6, .ref q6, .ref h0]) rfl ?_
  refine kw_call (n := 0) (As := []) (rest := [.ref q6, .ref h0]) C0 hK hA (k_Row_init q6) wd_1_34 wd_1_3 wd_1_152 wd_1_33 rfl (by decide +kernel) rfl ⟨by rw [hf]; decide, by rw [hlo]; decide⟩ (Nat.le_of_ble_eq_true rfl) (by omega) (by omega) rfl (fun a6 => ?_)
  refine kw_putF C0 hK hin2 (j := 6) (ty := .object "RuleTree$Row") rfl i_Par t_Par_ok n_Par (by decide) (Nat.le_of_ble_eq_true rfl) rfl rfl (by decide +kernel) rfl rfl wd_1_164 rfl ?_
  refine kw_go C0 1 (pc' := 76) (lv' := [(0, .ref h0), (1, .ref p1)]) (st' := [.ref h0]) rfl ?_
  refine kw_new C0 hK hA (cj := 0) (gs := [.null, .int 0]) rfl i_Row t_Row_ok (fun j hj => by rcases (show j = 0 ∨ j = 1 by omega) with rfl | rfl <;> rfl) wd_1_151 wd_1_31 wd_1_3 (by omega) (by omega) rfl (fun q7 => ?_)
  refine kw_go C0 1 (pc' := 80) (lv' := [(0, .ref h0), (1, .ref p1)]) (st' := [.ref q7, .ref q7, .ref h0]) rfl ?_
  refine kw_call (n := 0) (As := []) (rest := [.ref q7, .ref h0]) C0 hK hA (k_Row_init q7) wd_1_34 wd_1_3 wd_1_152 wd_1_33 rfl (by decide +kernel) rfl ⟨by rw [hf]; decide, by rw [hlo]; decide⟩ (Nat.le_of_ble_eq_true rfl) (by omega) (by omega) rfl (fun a7 => ?_)
  refine kw_putF C0 hK hin2 (j := 7) (ty := .object "RuleTree$Row") rfl i_Par t_Par_ok n_Par (by decide) (Nat.le_of_ble_eq_true rfl) rfl rfl (by decide +kernel) rfl rfl wd_1_165 rfl ?_
  refine kw_go C0 1 (pc' := 87) (lv' := [(0, .ref h0), (1, .ref p1)]) (st' := [.ref h0]) rfl ?_
  refine kw_new C0 hK hA (cj := 0) (gs := [.null, .int 0]) rfl i_Row t_Row_ok (fun j hj => by rcases (show j = 0 ∨ j = 1 by omega) with rfl | rfl <;> rfl) wd_1_151 wd_1_31 wd_1_3 (by omega) (by omega) rfl (fun q8 => ?_)
  refine kw_go C0 1 (pc' := 91) (lv' := [(0, .ref h0), (1, .ref p1)]) (st' := [.ref q8, .ref q8, .ref h0]) rfl ?_
  refine kw_call (n := 0) (As := []) (rest := [.ref q8, .ref h0]) C0 hK hA (k_Row_init q8) wd_1_34 wd_1_3 wd_1_152 wd_1_33 rfl (by decide +kernel) rfl ⟨by rw [hf]; decide, by rw [hlo]; decide⟩ (Nat.le_of_ble_eq_true rfl) (by omega) (by omega) rfl (fun a8 => ?_)
  refine kw_putF C0 hK hin2 (j := 8) (ty := .object "RuleTree$Row") rfl i_Par t_Par_ok n_Par (by decide) (Nat.le_of_ble_eq_true rfl) rfl rfl (by decide +kernel) rfl rfl wd_1_166 rfl ?_
  refine kw_go C0 1 (pc' := 98) (lv' := [(0, .ref h0), (1, .ref p1)]) (st' := [.ref h0]) rfl ?_
  refine kw_new C0 hK hA (cj := 0) (gs := [.null, .int 0]) rfl i_Row t_Row_ok (fun j hj => by rcases (show j = 0 ∨ j = 1 by omega) with rfl | rfl <;> rfl) wd_1_151 wd_1_31 wd_1_3 (by omega) (by omega) rfl (fun q9 => ?_)
  refine kw_go C0 1 (pc' := 102) (lv' := [(0, .ref h0), (1, .ref p1)]) (st' := [.ref q9, .ref q9, .ref h0]) rfl ?_
  refine kw_call (n := 0) (As := []) (rest := [.ref q9, .ref h0]) C0 hK hA (k_Row_init q9) wd_1_34 wd_1_3 wd_1_152 wd_1_33 rfl (by decide +kernel) rfl ⟨by rw [hf]; decide, by rw [hlo]; decide⟩ (Nat.le_of_ble_eq_true rfl) (by omega) (by omega) rfl (fun a9 => ?_)
  refine kw_putF C0 hK hin2 (j := 9) (ty := .object "RuleTree$Row") rfl i_Par t_Par_ok n_Par (by decide) (Nat.le_of_ble_eq_true rfl) rfl rfl (by decide +kernel) rfl rfl wd_1_167 rfl ?_
  refine kw_go C0 1 (pc' := 109) (lv' := [(0, .ref h0), (1, .ref p1)]) (st' := [.ref h0]) rfl ?_
  refine kw_new C0 hK hA (cj := 0) (gs := [.null, .int 0]) rfl i_Row t_Row_ok (fun j hj => by rcases (show j = 0 ∨ j = 1 by omega) with rfl | rfl <;> rfl) wd_1_151 wd_1_31 wd_1_3 (by omega) (by omega) rfl (fun q10 => ?_)
  refine kw_go C0 1 (pc' := 113) (lv' := [(0, .ref h0), (1, .ref p1)]) (st' := [.ref q10, .ref q10, .ref h0]) rfl ?_
  refine kw_call (n := 0) (As := []) (rest := [.ref q10, .ref h0]) C0 hK hA (k_Row_init q10) wd_1_34 wd_1_3 wd_1_152 wd_1_33 rfl (by decide +kernel) rfl ⟨by rw [hf]; decide, by rw [hlo]; decide⟩ (Nat.le_of_ble_eq_true rfl) (by omega) (by omega) rfl (fun a10 => ?_)
  refine kw_putF C0 hK hin2 (j := 10) (ty := .object "RuleTree$Row") rfl i_Par t_Par_ok n_Par (by decide) (Nat.le_of_ble_eq_true rfl) rfl rfl (by decide +kernel) rfl rfl wd_1_168 rfl ?_
  refine kw_go C0 1 (pc' := 120) (lv' := [(0, .ref h0), (1, .ref p1)]) (st' := [.ref h0]) rfl ?_
  refine kw_new C0 hK hA (cj := 0) (gs := [.null, .int 0]) rfl i_Row t_Row_ok (fun j hj => by rcases (show j = 0 ∨ j = 1 by omega) with rfl | rfl <;> rfl) wd_1_151 wd_1_31 wd_1_3 (by omega) (by omega) rfl (fun q11 => ?_)
  refine kw_go C0 1 (pc' := 124) (lv' := [(0, .ref h0), (1, .ref p1)]) (st' := [.ref q11, .ref q11, .ref h0]) rfl ?_
  refine kw_call (n := 0) (As := []) (rest := [.ref q11, .ref h0]) C0 hK hA (k_Row_init q11) wd_1_34 wd_1_3 wd_1_152 wd_1_33 rfl (by decide +kernel) rfl ⟨by rw [hf]; decide, by rw [hlo]; decide⟩ (Nat.le_of_ble_eq_true rfl) (by omega) (by omega) rfl (fun a11 => ?_)
  refine kw_putF C0 hK hin2 (j := 11) (ty := .object "RuleTree$Row") rfl i_Par t_Par_ok n_Par (by decide) (Nat.le_of_ble_eq_true rfl) rfl rfl (by decide +kernel) rfl rfl wd_1_169 rfl ?_
  refine kw_go C0 1 (pc' := 131) (lv' := [(0, .ref h0), (1, .ref p1)]) (st' := [.ref h0]) rfl ?_
  refine kw_new C0 hK hA (cj := 0) (gs := [.null, .int 0]) rfl i_Row t_Row_ok (fun j hj => by rcases (show j = 0 ∨ j = 1 by omega) with rfl | rfl <;> rfl) wd_1_151 wd_1_31 wd_1_3 (by omega) (by omega) rfl (fun q12 => ?_)
  refine kw_go C0 1 (pc' := 135) (lv' := [(0, .ref h0), (1, .ref p1)]) (st' := [.ref q12, .ref q12, .ref h0]) rfl ?_
  refine kw_call (n := 0) (As := []) (rest := [.ref q12, .ref h0]) C0 hK hA (k_Row_init q12) wd_1_34 wd_1_3 wd_1_152 wd_1_33 rfl (by decide +kernel) rfl ⟨by rw [hf]; decide, by rw [hlo]; decide⟩ (Nat.le_of_ble_eq_true rfl) (by omega) (by omega) rfl (fun a12 => ?_)
  refine kw_putF C0 hK hin2 (j := 12) (ty := .object "RuleTree$Row") rfl i_Par t_Par_ok n_Par (by decide) (Nat.le_of_ble_eq_true rfl) rfl rfl (by decide +kernel) rfl rfl wd_1_170 rfl ?_
  refine kw_go C0 1 (pc' := 142) (lv' := [(0, .ref h0), (1, .ref p1)]) (st' := [.ref h0]) rfl ?_
  refine kw_new C0 hK hA (cj := 0) (gs := [.null, .int 0]) rfl i_Row t_Row_ok (fun j hj => by rcases (show j = 0 ∨ j = 1 by omega) with rfl | rfl <;> rfl) wd_1_151 wd_1_31 wd_1_3 (by omega) (by omega) rfl (fun q13 => ?_)
  refine kw_go C0 1 (pc' := 146) (lv' := [(0, .ref h0), (1, .ref p1)]) (st' := [.ref q13, .ref q13, .ref h0]) rfl ?_
  refine kw_call (n := 0) (As := []) (rest := [.ref q13, .ref h0]) C0 hK hA (k_Row_init q13) wd_1_34 wd_1_3 wd_1_152 wd_1_33 rfl (by decide +kernel) rfl ⟨by rw [hf]; decide, by rw [hlo]; decide⟩ (Nat.le_of_ble_eq_true rfl) (by omega) (by omega) rfl (fun a13 => ?_)
  refine kw_putF C0 hK hin2 (j := 13) (ty := .object "RuleTree$Row") rfl i_Par t_Par_ok n_Par (by decide) (Nat.le_of_ble_eq_true rfl) rfl rfl (by decide +kernel) rfl rfl wd_1_171 rfl ?_
  refine kw_go C0 1 (pc' := 153) (lv' := [(0, .ref h0), (1, .ref p1)]) (st' := [.ref h0]) rfl ?_
  refine kw_new C0 hK hA (cj := 0) (gs := [.null, .int 0]) rfl i_Row t_Row_ok (fun j hj => by rcases (show j = 0 ∨ j = 1 by omega) with rfl | rfl <;> rfl) wd_1_151 wd_1_31 wd_1_3 (by omega) (by omega) rfl (fun q14 => ?_)
  refine kw_go C0 1 (pc' := 157) (lv' := [(0, .ref h0), (1, .ref p1)]) (st' := [.ref q14, .ref q14, .ref h0]) rfl ?_
  refine kw_call (n := 0) (As := []) (rest := [.ref q14, .ref h0]) C0 hK hA (k_Row_init q14) wd_1_34 wd_1_3 wd_1_152 wd_1_33 rfl (by decide +kernel) rfl ⟨by rw [hf]; decide, by rw [hlo]; decide⟩ (Nat.le_of_ble_eq_true rfl) (by omega) (by omega) rfl (fun a14 => ?_)
  refine kw_putF C0 hK hin2 (j := 14) (ty := .object "RuleTree$Row") rfl i_Par t_Par_ok n_Par (by decide) (Nat.le_of_ble_eq_true rfl) rfl rfl (by decide +kernel) rfl rfl wd_1_172 rfl ?_
  refine kw_go C0 3 (pc' := 166) (lv' := [(0, .ref h0), (1, .ref p1)]) (st' := [.int (-1), .int (-1), .ref h0]) rfl ?_
  refine kw_eq (Wd' := kRr cA (fun i => [q1, q2, q3, q4, q5, q6, q7, q8, q9, q10, q11, q12, q13, q14].getD i 0) (fun i => [a1, a2, a3, a4, a5, a6, a7, a8, a9, a10, a11, a12, a13, a14].getD i 0) 0 14) rfl ?_
  refine kw_callW (As := [.int (-1), .int (-1)]) (rest := []) C0 hK hA yk_Par_addPart rfl (k_Par_addPart h0 p1 (fun i => [q1, q2, q3, q4, q5, q6, q7, q8, q9, q10, q11, q12, q13, q14].getD i 0) (fun i => [a1, a2, a3, a4, a5, a6, a7, a8, a9, a10, a11, a12, a13, a14].getD i 0)) (fun _ => rfl) wd_1_153 rfl ⟨by rw [hf]; decide, by rw [hlo]; decide⟩ (Nat.le_of_ble_eq_true rfl) (by omega) (by omega) rfl (fun x1 => ?_)
  refine kw_go C0 1 (pc' := 170) (lv' := [(0, .ref h0), (1, .ref p1)]) (st' := []) rfl ?_
  exact kw_ret C0 (([q1, q2, q3, q4, q5, q6, q7, q8, q9, q10, q11, q12, q13, q14], [a1, a2, a3, a4, a5, a6, a7, a8, a9, a10, a11, a12, a13, a14]), x1) rfl rfl (by omega) (by omega) rfl
end KI
