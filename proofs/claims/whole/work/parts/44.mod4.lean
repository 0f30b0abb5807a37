-- by program: methods of the reference, as functions, and that the code does them
section ZN
variable {cA : Nat → ClassId} {B : Nat → Nat} {A : Nat → Prop} {D : va_G} {l : Launch}
def f_Mod_hasOthers (S : zM) (a1 : Int32) : Option (Int32) :=
  zob (f_Mod_example S a1) fun v1 =>
  m_rd 16384 (S.1 2) v1 fun v2 =>
  if ¬ v2 = 2 then
    m_rd 16384 (S.1 2) v1 fun v4 =>
    if ¬ v4 = 1 then
      zob (f_Mod_branches S a1) fun v6 =>
      if 1000 ≤ v6 then
        some 0
      else
        some 1
    else
      m_rd 16384 (S.1 3) v1 fun v8 =>
      if ¬ v8 = 2 then
        zob (f_Mod_branches S a1) fun v10 =>
        if 1000 ≤ v10 then
          some 0
        else
          some 1
      else
        zob (f_Mod_branches S a1) fun v12 =>
        if 256 ≤ v12 then
          some 0
        else
          some 1
  else
    m_rd 16384 (S.1 3) v1 fun v14 =>
    m_rd 1024 (S.1 0) v14 fun v15 =>
    zob (f_Mod_branches S a1) fun v16 =>
    if v15 ≤ v16 then
      some 0
    else
      some 1
set_option maxHeartbeats 1000000 in
set_option maxRecDepth 20000 in
theorem c_Mod_hasOthers (S : zM) (a1 : Int32) : ∀ r, f_Mod_hasOthers S a1 = some r → zMet l y_Mod_hasOthers (zw y_Mod_hasOthers prog_13_method_36_code 4 (some Jvm.ClassFile.FieldType.boolean)) 3 75 [.ref (B 0), .int a1] D zcl (ztys cA) A (mRep D cA B A) (fun _ => 0) (fun _ => 0) S ((zFp S) r) := by
  intro r hr
  refine zMet_of ⟨Nat.le_refl _, Nat.le_refl _⟩ (by decide) tk_Mod_hasOthers (Nat.le_of_ble_eq_true rfl) ?_
  intro p e R s m args below meth c hf hlo C0 hK hA
  have K : mSO p l e R s m args below meth c 4 A D cA B S 0 (lv_args 0 [.ref (B 0), .int a1]) [] (zFp S) (f_Mod_hasOthers S a1) := by
    unfold f_Mod_hasOthers
    refine so_go C0 2 (pc' := 2) (lv' := [(0, .ref (B 0)), (1, .int a1)]) (st' := [.int a1, .ref (B 0)]) rfl ?_
    refine so_op (As := [.int a1]) (rest := []) C0 hK hA yk_Mod_example (c_Mod_example S a1) wd_6_87 rfl rfl ⟨by rw [hf]; decide, by rw [hlo]; decide⟩ (Nat.le_of_ble_eq_true rfl) (mrc hK) (fun v1 hv1 => ?_)
    refine so_go C0 2 (pc' := 7) (lv' := [(0, .ref (B 0)), (1, .int a1), (2, .int v1)]) (st' := [.ref (B 0)]) rfl ?_
    refine so_mget C0 hK (j := 4) (v := .ref (B 3)) (by decide) wd_5_23 rfl rfl ?_
    refine so_go C0 1 (pc' := 11) (lv' := [(0, .ref (B 0)), (1, .int a1), (2, .int v1)]) (st' := [.int v1, .ref (B 3)]) rfl ?_
    refine so_mbald C0 hK (a := 2) (by decide) rfl rfl (by decide) rfl (fun v2 hv2 => ?_)
    refine so_go C0 1 (pc' := 13) (lv' := [(0, .ref (B 0)), (1, .int a1), (2, .int v1)]) (st' := [.int 2, .int v2]) rfl ?_
    refine so_icmp_ne C0 rfl (fun h3 => ?_) (fun h3 => ?_)
    · refine so_go C0 1 (pc' := 31) (lv' := [(0, .ref (B 0)), (1, .int a1), (2, .int v1)]) (st' := [.ref (B 0)]) rfl ?_
      refine so_mget C0 hK (j := 4) (v := .ref (B 3)) (by decide) wd_5_23 rfl rfl ?_
      refine so_go C0 1 (pc' := 35) (lv' := [(0, .ref (B 0)), (1, .int a1), (2, .int v1)]) (st' := [.int v1, .ref (B 3)]) rfl ?_
      refine so_mbald C0 hK (a := 2) (by decide) rfl rfl (by decide) rfl (fun v4 hv4 => ?_)
      refine so_go C0 1 (pc' := 37) (lv' := [(0, .ref (B 0)), (1, .int a1), (2, .int v1)]) (st' := [.int 1, .int v4]) rfl ?_
      refine so_icmp_ne C0 rfl (fun h5 => ?_) (fun h5 => ?_)
      · refine so_go C0 4 (pc' := 62) (lv' := [(0, .ref (B 0)), (1, .int a1), (2, .int v1), (3, .int 1000)]) (st' := [.int a1, .ref (B 0)]) rfl ?_
        refine so_op (As := [.int a1]) (rest := []) C0 hK hA yk_Mod_branches (c_Mod_branches S a1) wd_6_91 rfl rfl ⟨by rw [hf]; decide, by rw [hlo]; decide⟩ (Nat.le_of_ble_eq_true rfl) (mrc hK) (fun v6 hv6 => ?_)
        refine so_go C0 1 (pc' := 66) (lv' := [(0, .ref (B 0)), (1, .int a1), (2, .int v1), (3, .int 1000)]) (st' := [.int 1000, .int v6]) rfl ?_
        refine so_icmp_ge C0 rfl (fun h7 => ?_) (fun h7 => ?_)
        · refine so_go C0 1 (pc' := 74) (lv' := [(0, .ref (B 0)), (1, .int a1), (2, .int v1), (3, .int 1000)]) (st' := [.int 0]) rfl ?_
          exact so_retz C0 rfl rfl rfl
        · refine so_go C0 2 (pc' := 74) (lv' := [(0, .ref (B 0)), (1, .int a1), (2, .int v1), (3, .int 1000)]) (st' := [.int 1]) rfl ?_
          exact so_retz C0 rfl rfl rfl
      · refine so_go C0 1 (pc' := 41) (lv' := [(0, .ref (B 0)), (1, .int a1), (2, .int v1)]) (st' := [.ref (B 0)]) rfl ?_
        refine so_mget C0 hK (j := 5) (v := .ref (B 4)) (by decide) wd_5_24 rfl rfl ?_
        refine so_go C0 1 (pc' := 45) (lv' := [(0, .ref (B 0)), (1, .int a1), (2, .int v1)]) (st' := [.int v1, .ref (B 4)]) rfl ?_
        refine so_miald C0 hK (a := 3) (by decide) rfl rfl (by decide) rfl (fun v8 hv8 => ?_)
        refine so_go C0 1 (pc' := 47) (lv' := [(0, .ref (B 0)), (1, .int a1), (2, .int v1)]) (st' := [.int 2, .int v8]) rfl ?_
        refine so_icmp_ne C0 rfl (fun h9 => ?_) (fun h9 => ?_)
        · refine so_go C0 4 (pc' := 62) (lv' := [(0, .ref (B 0)), (1, .int a1), (2, .int v1), (3, .int 1000)]) (st' := [.int a1, .ref (B 0)]) rfl ?_
          refine so_op (As := [.int a1]) (rest := []) C0 hK hA yk_Mod_branches (c_Mod_branches S a1) wd_6_91 rfl rfl ⟨by rw [hf]; decide, by rw [hlo]; decide⟩ (Nat.le_of_ble_eq_true rfl) (mrc hK) (fun v10 hv10 => ?_)
          refine so_go C0 1 (pc' := 66) (lv' := [(0, .ref (B 0)), (1, .int a1), (2, .int v1), (3, .int 1000)]) (st' := [.int 1000, .int v10]) rfl ?_
          refine so_icmp_ge C0 rfl (fun h11 => ?_) (fun h11 => ?_)
          · refine so_go C0 1 (pc' := 74) (lv' := [(0, .ref (B 0)), (1, .int a1), (2, .int v1), (3, .int 1000)]) (st' := [.int 0]) rfl ?_
            exact so_retz C0 rfl rfl rfl
          · refine so_go C0 2 (pc' := 74) (lv' := [(0, .ref (B 0)), (1, .int a1), (2, .int v1), (3, .int 1000)]) (st' := [.int 1]) rfl ?_
            exact so_retz C0 rfl rfl rfl
        · refine so_go C0 5 (pc' := 62) (lv' := [(0, .ref (B 0)), (1, .int a1), (2, .int v1), (3, .int 256)]) (st' := [.int a1, .ref (B 0)]) rfl ?_
          refine so_op (As := [.int a1]) (rest := []) C0 hK hA yk_Mod_branches (c_Mod_branches S a1) wd_6_91 rfl rfl ⟨by rw [hf]; decide, by rw [hlo]; decide⟩ (Nat.le_of_ble_eq_true rfl) (mrc hK) (fun v12 hv12 => ?_)
          refine so_go C0 1 (pc' := 66) (lv' := [(0, .ref (B 0)), (1, .int a1), (2, .int v1), (3, .int 256)]) (st' := [.int 256, .int v12]) rfl ?_
          refine so_icmp_ge C0 rfl (fun h13 => ?_) (fun h13 => ?_)
          · refine so_go C0 1 (pc' := 74) (lv' := [(0, .ref (B 0)), (1, .int a1), (2, .int v1), (3, .int 256)]) (st' := [.int 0]) rfl ?_
            exact so_retz C0 rfl rfl rfl
          · refine so_go C0 2 (pc' := 74) (lv' := [(0, .ref (B 0)), (1, .int a1), (2, .int v1), (3, .int 256)]) (st' := [.int 1]) rfl ?_
            exact so_retz C0 rfl rfl rfl
    · refine so_go C0 1 (pc' := 17) (lv' := [(0, .ref (B 0)), (1, .int a1), (2, .int v1)]) (st' := [.ref (B 0)]) rfl ?_
      refine so_mget C0 hK (j := 1) (v := .ref (B 1)) (by decide) wd_5_20 rfl rfl ?_
      refine so_go C0 1 (pc' := 21) (lv' := [(0, .ref (B 0)), (1, .int a1), (2, .int v1)]) (st' := [.ref (B 0), .ref (B 1)]) rfl ?_
      refine so_mget C0 hK (j := 5) (v := .ref (B 4)) (by decide) wd_5_24 rfl rfl ?_
      refine so_go C0 1 (pc' := 25) (lv' := [(0, .ref (B 0)), (1, .int a1), (2, .int v1)]) (st' := [.int v1, .ref (B 4), .ref (B 1)]) rfl ?_
      refine so_miald C0 hK (a := 3) (by decide) rfl rfl (by decide) rfl (fun v14 hv14 => ?_)
      refine so_miald C0 hK (a := 0) (by decide) rfl rfl (by decide) rfl (fun v15 hv15 => ?_)
      refine so_go C0 4 (pc' := 62) (lv' := [(0, .ref (B 0)), (1, .int a1), (2, .int v1), (3, .int v15)]) (st' := [.int a1, .ref (B 0)]) rfl ?_
      refine so_op (As := [.int a1]) (rest := []) C0 hK hA yk_Mod_branches (c_Mod_branches S a1) wd_6_91 rfl rfl ⟨by rw [hf]; decide, by rw [hlo]; decide⟩ (Nat.le_of_ble_eq_true rfl) (mrc hK) (fun v16 hv16 => ?_)
      refine so_go C0 1 (pc' := 66) (lv' := [(0, .ref (B 0)), (1, .int a1), (2, .int v1), (3, .int v15)]) (st' := [.int v15, .int v16]) rfl ?_
      refine so_icmp_ge C0 rfl (fun h17 => ?_) (fun h17 => ?_)
      · refine so_go C0 1 (pc' := 74) (lv' := [(0, .ref (B 0)), (1, .int a1), (2, .int v1), (3, .int v15)]) (st' := [.int 0]) rfl ?_
        exact so_retz C0 rfl rfl rfl
      · refine so_go C0 2 (pc' := 74) (lv' := [(0, .ref (B 0)), (1, .int a1), (2, .int v1), (3, .int v15)]) (st' := [.int 1]) rfl ?_
        exact so_retz C0 rfl rfl rfl
  exact K r hr
def f_Mod_leastOther_L4 : Nat → zM → Int32 → Int32 → Int32 → Option (Int32)
  | 0, _, _, _, _ => none
  | n + 1, S, x1, x2, x3 =>
    if x3 = 0 then
      some x2
    else
      zob (f_Mod_nextNumber S x1 (x2.toInt64 - 1)) fun v2 =>
      if ¬ (lg_cmp v2 x2.toInt64) = 0 then
        f_Mod_leastOther_L4 n S x1 x2 0
      else
        zbind (x2 + 1) fun v4 =>
        f_Mod_leastOther_L4 n S x1 v4 1
def f_Mod_leastOther (S : zM) (a1 : Int32) : Option (Int32) :=
  f_Mod_leastOther_L4 zbig S a1 0 1
set_option maxHeartbeats 1000000 in
set_option maxRecDepth 20000 in
theorem c_Mod_leastOther (S : zM) (a1 : Int32) : ∀ r, f_Mod_leastOther S a1 = some r → zMet l y_Mod_leastOther (zw y_Mod_leastOther prog_13_method_37_code 4 (some Jvm.ClassFile.FieldType.int)) 2 51 [.ref (B 0), .int a1] D zcl (ztys cA) A (mRep D cA B A) (fun _ => 0) (fun _ => 0) S ((zFp S) r) := by
  intro r hr
  refine zMet_of ⟨Nat.le_refl _, Nat.le_refl _⟩ (by decide) tk_Mod_leastOther (Nat.le_of_ble_eq_true rfl) ?_
  intro p e R s m args below meth c hf hlo C0 hK hA
  have lp4 : ∀ (n : Nat) (x1 : Int32) (x2 : Int32) (x3 : Int32), mSO p l e R s m args below meth c 4 A D cA B S 4 [(0, .ref (B 0)), (1, .int x1), (2, .int x2), (3, .int x3)] [] (zFp S) (f_Mod_leastOther_L4 n S x1 x2 x3) := by
    intro n
    induction n with
    | zero =>
      intro x1 x2 x3
      rw [f_Mod_leastOther_L4]
      exact so_none
    | succ n ih4 =>
      intro x1 x2 x3
      rw [f_Mod_leastOther_L4]
      refine so_go C0 1 (pc' := 5) (lv' := [(0, .ref (B 0)), (1, .int x1), (2, .int x2), (3, .int x3)]) (st' := [.int x3]) rfl ?_
      refine so_if_eq C0 rfl (fun h1 => ?_) (fun h1 => ?_)
      · refine so_go C0 1 (pc' := 45) (lv' := [(0, .ref (B 0)), (1, .int x1), (2, .int x2), (3, .int x3)]) (st' := [.int x2]) rfl ?_
        exact so_reti C0 rfl rfl
      · refine so_go C0 6 (pc' := 14) (lv' := [(0, .ref (B 0)), (1, .int x1), (2, .int x2), (3, .int x3)]) (st' := [.long (x2.toInt64 - 1), .int x1, .ref (B 0)]) rfl ?_
        refine so_opl (As := [.int x1, .long (x2.toInt64 - 1)]) (rest := []) C0 hK hA yk_Mod_nextNumber (c_Mod_nextNumber S x1 (x2.toInt64 - 1)) wd_6_69 rfl rfl ⟨by rw [hf]; decide, by rw [hlo]; decide⟩ (Nat.le_of_ble_eq_true rfl) (mrc hK) (fun v2 hv2 => ?_)
        refine so_go C0 3 (pc' := 20) (lv' := [(0, .ref (B 0)), (1, .int x1), (2, .int x2), (3, .int x3)]) (st' := [.int (lg_cmp v2 x2.toInt64)]) rfl ?_
        refine so_if_ne C0 rfl (fun h3 => ?_) (fun h3 => ?_)
        · refine so_go C0 3 (pc' := 30) (lv' := [(0, .ref (B 0)), (1, .int x1), (2, .int x2), (3, .int 0)]) (st' := [.int 0]) rfl ?_
          refine so_if_eqT C0 rfl (by decide) ?_
          refine so_go C0 3 (pc' := 4) (lv' := [(0, .ref (B 0)), (1, .int x1), (2, .int x2), (3, .int 0)]) (st' := []) rfl ?_
          exact so_sub (lv' := [(0, .ref (B 0)), (1, .int x1), (2, .int x2), (3, .int 0)]) (zpk [0, 1, 2, 3] rfl) (ih4 x1 x2 0)
        · refine so_go C0 4 (pc' := 30) (lv' := [(0, .ref (B 0)), (1, .int x1), (2, .int x2), (3, .int 1)]) (st' := [.int 1]) rfl ?_
          refine so_if_eqF C0 rfl (by decide) ?_
          refine so_go C0 4 (pc' := 40) (lv' := [(0, .ref (B 0)), (1, .int x1), (2, .int x2), (3, .int 1)]) (st' := [.int (x2 + 1)]) rfl ?_
          refine so_nm (V := .int) (fun v4 hv4 => ?_)
          refine so_go C0 2 (pc' := 4) (lv' := [(0, .ref (B 0)), (1, .int x1), (2, .int v4), (3, .int 1)]) (st' := []) rfl ?_
          exact so_sub (lv' := [(0, .ref (B 0)), (1, .int x1), (2, .int v4), (3, .int 1)]) (zpk [0, 1, 2, 3] rfl) (ih4 x1 v4 1)
  have K : mSO p l e R s m args below meth c 4 A D cA B S 0 (lv_args 0 [.ref (B 0), .int a1]) [] (zFp S) (f_Mod_leastOther S a1) := by
    unfold f_Mod_leastOther
    refine so_go C0 4 (pc' := 4) (lv' := [(0, .ref (B 0)), (1, .int a1), (2, .int 0), (3, .int 1)]) (st' := []) rfl ?_
    exact so_sub (lv' := [(0, .ref (B 0)), (1, .int a1), (2, .int 0), (3, .int 1)]) (zpk [0, 1, 2, 3] rfl) (lp4 zbig a1 0 1)
  exact K r hr
def f_Mod_start_L25 : Nat → zM → Int32 → Option (zM)
  | 0, _, _ => none
  | n + 1, S, x1 =>
    if 1024 ≤ x1 then
      some S
    else
      if (S.2.2 4) ≤ x1 then
        zob (f_Mod_setPossible S 0 x1 0) fun S4 =>
        f_Mod_start_L25 n S4 (x1 + 1)
      else
        zob (f_Mod_setPossible S 0 x1 1) fun S5 =>
        f_Mod_start_L25 n S5 (x1 + 1)
def f_Mod_start_L2 : Nat → zM → Int32 → Option (zM)
  | 0, _, _ => none
  | n + 1, S, x1 =>
    if (S.2.2 6) ≤ x1 then
      f_Mod_start_L25 zbig S 0
    else
      m_wr 16386 x1 (m_set S 27 (Int32.toNatClampNeg x1) (vp_nar .boolean 0)) fun S6 =>
      f_Mod_start_L2 n S6 (x1 + 1)
def f_Mod_start (S : zM) : Option (zM) :=
  f_Mod_start_L2 zbig S 0
set_option maxHeartbeats 1000000 in
set_option maxRecDepth 20000 in
theorem c_Mod_start (S : zM) : ∀ r, f_Mod_start S = some r → zMet l y_Mod_start (zw y_Mod_start prog_13_method_38_code 2 none) 1 27 [.ref (B 0)] D zcl (ztys cA) A (mRep D cA B A) (fun _ => 0) (fun _ => 0) S (zFv r) := by
  intro r hr
  refine zMet_of ⟨Nat.le_refl _, Nat.le_refl _⟩ (by decide) tk_Mod_start (Nat.le_of_ble_eq_true rfl) ?_
  intro p e R s m args below meth c hf hlo C0 hK hA
  have lp25 : ∀ (n : Nat) (S : zM) (x1 : Int32), mSO p l e R s m args below meth c 2 A D cA B S 25 [(0, .ref (B 0)), (1, .int x1)] [] zFv (f_Mod_start_L25 n S x1) := by
    intro n
    induction n with
    | zero =>
      intro S x1
      rw [f_Mod_start_L25]
      exact so_none
    | succ n ih25 =>
      intro S x1
      rw [f_Mod_start_L25]
      refine so_go C0 2 (pc' := 29) (lv' := [(0, .ref (B 0)), (1, .int x1)]) (st' := [.int 1024, .int x1]) rfl ?_
      refine so_icmp_ge C0 rfl (fun h2 => ?_) (fun h2 => ?_)
      · exact so_retv C0 rfl rfl
      · refine so_go C0 5 (pc' := 37) (lv' := [(0, .ref (B 0)), (1, .int x1)]) (st' := [.ref (B 0), .int x1, .int x1, .int 0, .ref (B 0)]) rfl ?_
        refine so_mget C0 hK (j := 17) (v := .int (S.2.2 4)) (by decide) wd_5_36 rfl rfl ?_
        refine so_icmp_ge C0 rfl (fun h3 => ?_) (fun h3 => ?_)
        · refine so_go C0 1 (pc' := 48) (lv' := [(0, .ref (B 0)), (1, .int x1)]) (st' := [.int 0, .int x1, .int 0, .ref (B 0)]) rfl ?_
          refine so_oV (As := [.int 0, .int x1, .int 0]) (rest := []) C0 hK hA yk_Mod_setPossible (c_Mod_setPossible S 0 x1 0) wd_6_41 rfl rfl ⟨by rw [hf]; decide, by rw [hlo]; decide⟩ (Nat.le_of_ble_eq_true rfl) (mrc hK) (fun S4 hS4 => ?_)
          refine so_go C0 2 (pc' := 25) (lv' := [(0, .ref (B 0)), (1, .int (x1 + 1))]) (st' := []) rfl ?_
          exact so_sub (lv' := [(0, .ref (B 0)), (1, .int (x1 + 1))]) (zpk [0, 1] rfl) (ih25 S4 (x1 + 1))
        · refine so_go C0 2 (pc' := 48) (lv' := [(0, .ref (B 0)), (1, .int x1)]) (st' := [.int 1, .int x1, .int 0, .ref (B 0)]) rfl ?_
          refine so_oV (As := [.int 0, .int x1, .int 1]) (rest := []) C0 hK hA yk_Mod_setPossible (c_Mod_setPossible S 0 x1 1) wd_6_41 rfl rfl ⟨by rw [hf]; decide, by rw [hlo]; decide⟩ (Nat.le_of_ble_eq_true rfl) (mrc hK) (fun S5 hS5 => ?_)
          refine so_go C0 2 (pc' := 25) (lv' := [(0, .ref (B 0)), (1, .int (x1 + 1))]) (st' := []) rfl ?_
          exact so_sub (lv' := [(0, .ref (B 0)), (1, .int (x1 + 1))]) (zpk [0, 1] rfl) (ih25 S5 (x1 + 1))
  have lp2 : ∀ (n : Nat) (S : zM) (x1 : Int32), mSO p l e R s m args below meth c 2 A D cA B S 2 [(0, .ref (B 0)), (1, .int x1)] [] zFv (f_Mod_start_L2 n S x1) := by
    intro n
    induction n with
    | zero =>
      intro S x1
      rw [f_Mod_start_L2]
      exact so_none
    | succ n ih2 =>
      intro S x1
      rw [f_Mod_start_L2]
      refine so_go C0 2 (pc' := 4) (lv' := [(0, .ref (B 0)), (1, .int x1)]) (st' := [.ref (B 0), .int x1]) rfl ?_
      refine so_mget C0 hK (j := 23) (v := .int (S.2.2 6)) (by decide) wd_5_42 rfl rfl ?_
      refine so_icmp_ge C0 rfl (fun h1 => ?_) (fun h1 => ?_)
      · refine so_go C0 2 (pc' := 25) (lv' := [(0, .ref (B 0)), (1, .int 0)]) (st' := []) rfl ?_
        exact so_sub (lv' := [(0, .ref (B 0)), (1, .int 0)]) (zpk [0, 1] rfl) (lp25 zbig S 0)
      · refine so_go C0 1 (pc' := 11) (lv' := [(0, .ref (B 0)), (1, .int x1)]) (st' := [.ref (B 0)]) rfl ?_
        refine so_mget C0 hK (j := 34) (v := .ref (B 28)) (by decide) wd_5_53 rfl rfl ?_
        refine so_go C0 2 (pc' := 16) (lv' := [(0, .ref (B 0)), (1, .int x1)]) (st' := [.int 0, .int x1, .ref (B 28)]) rfl ?_
        refine so_mzast C0 hK (a := 27) (by decide) rfl rfl (by decide) rfl (fun S6 hS6 => ?_)
        refine so_go C0 2 (pc' := 2) (lv' := [(0, .ref (B 0)), (1, .int (x1 + 1))]) (st' := []) rfl ?_
        exact so_sub (lv' := [(0, .ref (B 0)), (1, .int (x1 + 1))]) (zpk [0, 1] rfl) (ih2 S6 (x1 + 1))
  have K : mSO p l e R s m args below meth c 2 A D cA B S 0 (lv_args 0 [.ref (B 0)]) [] zFv (f_Mod_start S) := by
    unfold f_Mod_start
    refine so_go C0 2 (pc' := 2) (lv' := [(0, .ref (B 0)), (1, .int 0)]) (st' := []) rfl ?_
    exact so_sub (lv' := [(0, .ref (B 0)), (1, .int 0)]) (zpk [0, 1] rfl) (lp2 zbig S 0)
  exact K r hr
def f_Mod_end_L50 : Nat → zM → Int32 → Int32 → Option (zM)
  | 0, _, _, _ => none
  | n + 1, S, x2, x3 =>
    if x2 ≤ x3 then
      some S
    else
      m_rd 4097 (S.1 24) x3 fun v9 =>
      m_wr 4097 x3 (m_set S 29 (Int32.toNatClampNeg x3) v9) fun S10 =>
      m_rd 4097 (S10.1 26) x3 fun v11 =>
      if v11 = 0 then
        m_rdl 4097 (S10.2.1 25) x3 fun v13 =>
        m_wr 4097 x3 (m_set S10 30 (Int32.toNatClampNeg x3) v13.toInt32) fun S14 =>
        f_Mod_end_L50 n S14 x2 (x3 + 1)
      else
        zob (f_Mod_leastOther S10 x3) fun v15 =>
        m_wr 4097 x3 (m_set S10 30 (Int32.toNatClampNeg x3) v15) fun S16 =>
        f_Mod_end_L50 n S16 x2 (x3 + 1)
def f_Mod_end (S : zM) (a1 : Int32) (a2 : Int32) : Option (zM) :=
  m_rd 1025 (S.1 28) (a1 + 1) fun v1 =>
  m_wr 1025 (a1 + 1) (m_set S 28 (Int32.toNatClampNeg (a1 + 1)) (v1 + 1)) fun S2 =>
  if a2 ≤ (S2.2.2 9) then
    zbind (m_sc S2 9 (S2.2.2 9)) fun S4 =>
    if 0 ≤ a1 then
      some S4
    else
      if 0 ≤ (S4.2.2 10) then
        some S4
      else
        zbind (m_sc S4 10 a2) fun S7 =>
        f_Mod_end_L50 zbig S7 a2 0
  else
    zbind (m_sc S2 9 a2) fun S17 =>
    if 0 ≤ a1 then
      some S17
    else
      if 0 ≤ (S17.2.2 10) then
        some S17
      else
        zbind (m_sc S17 10 a2) fun S20 =>
        f_Mod_end_L50 zbig S20 a2 0
set_option maxHeartbeats 1000000 in
set_option maxRecDepth 20000 in
theorem c_Mod_end (S : zM) (a1 : Int32) (a2 : Int32) : ∀ r, f_Mod_end S a1 a2 = some r → zMet l y_Mod_end (zw y_Mod_end prog_13_method_39_code 4 none) 3 74 [.ref (B 0), .int a1, .int a2] D zcl (ztys cA) A (mRep D cA B A) (fun _ => 0) (fun _ => 0) S (zFv r) := by
  intro r hr
  refine zMet_of ⟨Nat.le_refl _, Nat.le_refl _⟩ (by decide) tk_Mod_end (Nat.le_of_ble_eq_true rfl) ?_
  intro p e R s m args below meth c hf hlo C0 hK hA
  have lp50 : ∀ (n : Nat) (S : zM) (x2 : Int32) (x3 : Int32), mSO p l e R s m args below meth c 4 A D cA B S 50 [(0, .ref (B 0)), (2, .int x2), (3, .int x3)] [] zFv (f_Mod_end_L50 n S x2 x3) := by
    intro n
    induction n with
    | zero =>
      intro S x2 x3
      rw [f_Mod_end_L50]
      exact so_none
    | succ n ih50 =>
      intro S x2 x3
      rw [f_Mod_end_L50]
      refine so_go C0 2 (pc' := 52) (lv' := [(0, .ref (B 0)), (2, .int x2), (3, .int x3)]) (st' := [.int x2, .int x3]) rfl ?_
      refine so_icmp_ge C0 rfl (fun h8 => ?_) (fun h8 => ?_)
      · exact so_retv C0 rfl rfl
      · refine so_go C0 1 (pc' := 56) (lv' := [(0, .ref (B 0)), (2, .int x2), (3, .int x3)]) (st' := [.ref (B 0)]) rfl ?_
        refine so_mget C0 hK (j := 40) (v := .ref (B 30)) (by decide) wd_5_59 rfl rfl ?_
        refine so_go C0 2 (pc' := 61) (lv' := [(0, .ref (B 0)), (2, .int x2), (3, .int x3)]) (st' := [.ref (B 0), .int x3, .ref (B 30)]) rfl ?_
        refine so_mget C0 hK (j := 31) (v := .ref (B 25)) (by decide) wd_5_50 rfl rfl ?_
        refine so_go C0 1 (pc' := 65) (lv' := [(0, .ref (B 0)), (2, .int x2), (3, .int x3)]) (st' := [.int x3, .ref (B 25), .int x3, .ref (B 30)]) rfl ?_
        refine so_miald C0 hK (a := 24) (by decide) rfl rfl (by decide) rfl (fun v9 hv9 => ?_)
        refine so_miast C0 hK (a := 29) (by decide) rfl rfl (by decide) rfl (fun S10 hS10 => ?_)
        refine so_go C0 1 (pc' := 68) (lv' := [(0, .ref (B 0)), (2, .int x2), (3, .int x3)]) (st' := [.ref (B 0)]) rfl ?_
        refine so_mget C0 hK (j := 41) (v := .ref (B 31)) (by decide) wd_5_60 rfl rfl ?_
        refine so_go C0 2 (pc' := 73) (lv' := [(0, .ref (B 0)), (2, .int x2), (3, .int x3)]) (st' := [.ref (B 0), .int x3, .ref (B 31)]) rfl ?_
        refine so_mget C0 hK (j := 33) (v := .ref (B 27)) (by decide) wd_5_52 rfl rfl ?_
        refine so_go C0 1 (pc' := 77) (lv' := [(0, .ref (B 0)), (2, .int x2), (3, .int x3)]) (st' := [.int x3, .ref (B 27), .int x3, .ref (B 31)]) rfl ?_
        refine so_mzald C0 hK (a := 26) (by decide) rfl rfl (by decide) rfl (fun v11 hv11 => ?_)
        refine so_if_eq C0 rfl (fun h12 => ?_) (fun h12 => ?_)
        · refine so_go C0 1 (pc' := 90) (lv' := [(0, .ref (B 0)), (2, .int x2), (3, .int x3)]) (st' := [.ref (B 0), .int x3, .ref (B 31)]) rfl ?_
          refine so_mget C0 hK (j := 32) (v := .ref (B 26)) (by decide) wd_5_51 rfl rfl ?_
          refine so_go C0 1 (pc' := 94) (lv' := [(0, .ref (B 0)), (2, .int x2), (3, .int x3)]) (st' := [.int x3, .ref (B 26), .int x3, .ref (B 31)]) rfl ?_
          refine so_mlald C0 hK (a := 25) (by decide) rfl rfl (by decide) rfl (fun v13 hv13 => ?_)
          refine so_go C0 1 (pc' := 96) (lv' := [(0, .ref (B 0)), (2, .int x2), (3, .int x3)]) (st' := [.int v13.toInt32, .int x3, .ref (B 31)]) rfl ?_
          refine so_miast C0 hK (a := 30) (by decide) rfl rfl (by decide) rfl (fun S14 hS14 => ?_)
          refine so_go C0 2 (pc' := 50) (lv' := [(0, .ref (B 0)), (2, .int x2), (3, .int (x3 + 1))]) (st' := []) rfl ?_
          exact so_sub (lv' := [(0, .ref (B 0)), (2, .int x2), (3, .int (x3 + 1))]) (zpk [0, 1, 2] rfl) (ih50 S14 x2 (x3 + 1))
        · refine so_go C0 2 (pc' := 83) (lv' := [(0, .ref (B 0)), (2, .int x2), (3, .int x3)]) (st' := [.int x3, .ref (B 0), .int x3, .ref (B 31)]) rfl ?_
          refine so_op (As := [.int x3]) (rest := [.int x3, .ref (B 31)]) C0 hK hA yk_Mod_leastOther (c_Mod_leastOther S10 x3) wd_6_65 rfl rfl ⟨by rw [hf]; decide, by rw [hlo]; decide⟩ (Nat.le_of_ble_eq_true rfl) (mrc hK) (fun v15 hv15 => ?_)
          refine so_go C0 1 (pc' := 96) (lv' := [(0, .ref (B 0)), (2, .int x2), (3, .int x3)]) (st' := [.int v15, .int x3, .ref (B 31)]) rfl ?_
          refine so_miast C0 hK (a := 30) (by decide) rfl rfl (by decide) rfl (fun S16 hS16 => ?_)
          refine so_go C0 2 (pc' := 50) (lv' := [(0, .ref (B 0)), (2, .int x2), (3, .int (x3 + 1))]) (st' := []) rfl ?_
          exact so_sub (lv' := [(0, .ref (B 0)), (2, .int x2), (3, .int (x3 + 1))]) (zpk [0, 1, 2] rfl) (ih50 S16 x2 (x3 + 1))
  have K : mSO p l e R s m args below meth c 4 A D cA B S 0 (lv_args 0 [.ref (B 0), .int a1, .int a2]) [] zFv (f_Mod_end S a1 a2) := by
    unfold f_Mod_end
    refine so_go C0 1 (pc' := 1) (lv' := [(0, .ref (B 0)), (1, .int a1), (2, .int a2)]) (st' := [.ref (B 0)]) rfl ?_
    refine so_mget C0 hK (j := 38) (v := .ref (B 29)) (by decide) wd_5_57 rfl rfl ?_
    refine so_go C0 4 (pc' := 8) (lv' := [(0, .ref (B 0)), (1, .int a1), (2, .int a2)]) (st' := [.int (a1 + 1), .ref (B 29), .int (a1 + 1), .ref (B 29)]) rfl ?_
    refine so_miald C0 hK (a := 28) (by decide) rfl rfl (by decide) rfl (fun v1 hv1 => ?_)
    refine so_go C0 2 (pc' := 11) (lv' := [(0, .ref (B 0)), (1, .int a1), (2, .int a2)]) (st' := [.int (v1 + 1), .int (a1 + 1), .ref (B 29)]) rfl ?_
    refine so_miast C0 hK (a := 28) (by decide) rfl rfl (by decide) rfl (fun S2 hS2 => ?_)
    refine so_go C0 3 (pc' := 15) (lv' := [(0, .ref (B 0)), (1, .int a1), (2, .int a2)]) (st' := [.ref (B 0), .int a2, .ref (B 0)]) rfl ?_
    refine so_mget C0 hK (j := 37) (v := .int (S2.2.2 9)) (by decide) wd_5_56 rfl rfl ?_
    refine so_icmp_le C0 rfl (fun h3 => ?_) (fun h3 => ?_)
    · refine so_go C0 1 (pc' := 26) (lv' := [(0, .ref (B 0)), (1, .int a1), (2, .int a2)]) (st' := [.ref (B 0), .ref (B 0)]) rfl ?_
      refine so_mget C0 hK (j := 37) (v := .int (S2.2.2 9)) (by decide) wd_5_56 rfl rfl ?_
      refine so_mput C0 hK (j := 37) (q := 9) (ty := .int) (by decide) (Nat.le_of_ble_eq_true rfl) rfl (by decide +kernel) rfl rfl wd_5_56 rfl rfl ?_
      refine so_st (fun S4 hS4 => ?_)
      refine so_go C0 1 (pc' := 33) (lv' := [(0, .ref (B 0)), (1, .int a1), (2, .int a2)]) (st' := [.int a1]) rfl ?_
      refine so_if_ge C0 rfl (fun h5 => ?_) (fun h5 => ?_)
      · exact so_retv C0 rfl rfl
      · refine so_go C0 1 (pc' := 37) (lv' := [(0, .ref (B 0)), (1, .int a1), (2, .int a2)]) (st' := [.ref (B 0)]) rfl ?_
        refine so_mget C0 hK (j := 39) (v := .int (S4.2.2 10)) (by decide) wd_5_58 rfl rfl ?_
        refine so_if_ge C0 rfl (fun h6 => ?_) (fun h6 => ?_)
        · exact so_retv C0 rfl rfl
        · refine so_go C0 2 (pc' := 45) (lv' := [(0, .ref (B 0)), (1, .int a1), (2, .int a2)]) (st' := [.int a2, .ref (B 0)]) rfl ?_
          refine so_mput C0 hK (j := 39) (q := 10) (ty := .int) (by decide) (Nat.le_of_ble_eq_true rfl) rfl (by decide +kernel) rfl rfl wd_5_58 rfl rfl ?_
          refine so_st (fun S7 hS7 => ?_)
          refine so_go C0 2 (pc' := 50) (lv' := [(0, .ref (B 0)), (1, .int a1), (2, .int a2), (3, .int 0)]) (st' := []) rfl ?_
          exact so_sub (lv' := [(0, .ref (B 0)), (2, .int a2), (3, .int 0)]) (zpk [0, 2, 3] rfl) (lp50 zbig S7 a2 0)
    · refine so_go C0 2 (pc' := 29) (lv' := [(0, .ref (B 0)), (1, .int a1), (2, .int a2)]) (st' := [.int a2, .ref (B 0)]) rfl ?_
      refine so_mput C0 hK (j := 37) (q := 9) (ty := .int) (by decide) (Nat.le_of_ble_eq_true rfl) rfl (by decide +kernel) rfl rfl wd_5_56 rfl rfl ?_
      refine so_st (fun S17 hS17 => ?_)
      refine so_go C0 1 (pc' := 33) (lv' := [(0, .ref (B 0)), (1, .int a1), (2, .int a2)]) (st' := [.int a1]) rfl ?_
      refine so_if_ge C0 rfl (fun h18 => ?_) (fun h18 => ?_)
      · exact so_retv C0 rfl rfl
      · refine so_go C0 1 (pc' := 37) (lv' := [(0, .ref (B 0)), (1, .int a1), (2, .int a2)]) (st' := [.ref (B 0)]) rfl ?_
        refine so_mget C0 hK (j := 39) (v := .int (S17.2.2 10)) (by decide) wd_5_58 rfl rfl ?_
        refine so_if_ge C0 rfl (fun h19 => ?_) (fun h19 => ?_)
        · exact so_retv C0 rfl rfl
        · refine so_go C0 2 (pc' := 45) (lv' := [(0, .ref (B 0)), (1, .int a1), (2, .int a2)]) (st' := [.int a2, .ref (B 0)]) rfl ?_
          refine so_mput C0 hK (j := 39) (q := 10) (ty := .int) (by decide) (Nat.le_of_ble_eq_true rfl) rfl (by decide +kernel) rfl rfl wd_5_58 rfl rfl ?_
          refine so_st (fun S20 hS20 => ?_)
          refine so_go C0 2 (pc' := 50) (lv' := [(0, .ref (B 0)), (1, .int a1), (2, .int a2), (3, .int 0)]) (st' := []) rfl ?_
          exact so_sub (lv' := [(0, .ref (B 0)), (2, .int a2), (3, .int 0)]) (zpk [0, 2, 3] rfl) (lp50 zbig S20 a2 0)
  exact K r hr
def f_Mod_enter (S : zM) (a1 : Int32) : Option (zM × Int32) :=
  zbind (m_sc S 8 ((S.2.2 8) + 1)) fun S1 =>
  zob (f_Mod_firstPossible S1 a1) fun v2 =>
  if 0 ≤ v2 then
    zob (f_Mod_nextPlace S1 v2) fun v4 =>
    if 0 ≤ v4 then
      m_wr 4097 a1 (m_set S1 24 (Int32.toNatClampNeg a1) v4) fun S6 =>
      m_wr 16386 v4 (m_set S6 27 (Int32.toNatClampNeg v4) (vp_nar .boolean 1)) fun S7 =>
      m_wr 4097 a1 (m_setl S7 25 (Int32.toNatClampNeg a1) (-4294967296)) fun S8 =>
      m_wr 4097 a1 (m_set S8 26 (Int32.toNatClampNeg a1) (vp_nar .boolean 0)) fun S9 =>
      some (S9, 1)
    else
      zob (f_Mod_end S1 v2 a1) fun S10 =>
      some (S10, 0)
  else
    zob (f_Mod_end S1 v2 a1) fun S11 =>
    some (S11, 0)
set_option maxHeartbeats 1000000 in
set_option maxRecDepth 20000 in
theorem c_Mod_enter (S : zM) (a1 : Int32) : ∀ r, f_Mod_enter S a1 = some r → zMet l y_Mod_enter (zw y_Mod_enter prog_13_method_40_code 4 (some Jvm.ClassFile.FieldType.boolean)) 4 97 [.ref (B 0), .int a1] D zcl (ztys cA) A (mRep D cA B A) (fun _ => 0) (fun _ => 0) S (zFi r) := by
  intro r hr
  refine zMet_of ⟨Nat.le_refl _, Nat.le_refl _⟩ (by decide) tk_Mod_enter (Nat.le_of_ble_eq_true rfl) ?_
  intro p e R s m args below meth c hf hlo C0 hK hA
  have K : mSO p l e R s m args below meth c 4 A D cA B S 0 (lv_args 0 [.ref (B 0), .int a1]) [] zFi (f_Mod_enter S a1) := by
    unfold f_Mod_enter
    refine so_go C0 2 (pc' := 2) (lv' := [(0, .ref (B 0)), (1, .int a1)]) (st' := [.ref (B 0), .ref (B 0)]) rfl ?_
    refine so_mget C0 hK (j := 36) (v := .int (S.2.2 8)) (by decide) wd_5_55 rfl rfl ?_
    refine so_go C0 2 (pc' := 7) (lv' := [(0, .ref (B 0)), (1, .int a1)]) (st' := [.int ((S.2.2 8) + 1), .ref (B 0)]) rfl ?_
    refine so_mput C0 hK (j := 36) (q := 8) (ty := .int) (by decide) (Nat.le_of_ble_eq_true rfl) rfl (by decide +kernel) rfl rfl wd_5_55 rfl rfl ?_
    refine so_st (fun S1 hS1 => ?_)
    refine so_go C0 2 (pc' := 12) (lv' := [(0, .ref (B 0)), (1, .int a1)]) (st' := [.int a1, .ref (B 0)]) rfl ?_
    refine so_op (As := [.int a1]) (rest := []) C0 hK hA yk_Mod_firstPossible (c_Mod_firstPossible S1 a1) wd_6_49 rfl rfl ⟨by rw [hf]; decide, by rw [hlo]; decide⟩ (Nat.le_of_ble_eq_true rfl) (mrc hK) (fun v2 hv2 => ?_)
    refine so_go C0 2 (pc' := 17) (lv' := [(0, .ref (B 0)), (1, .int a1), (2, .int v2)]) (st' := [.int v2]) rfl ?_
    refine so_if_ge C0 rfl (fun h3 => ?_) (fun h3 => ?_)
    · refine so_go C0 2 (pc' := 26) (lv' := [(0, .ref (B 0)), (1, .int a1), (2, .int v2)]) (st' := [.int v2, .ref (B 0)]) rfl ?_
      refine so_op (As := [.int v2]) (rest := []) C0 hK hA yk_Mod_nextPlace (c_Mod_nextPlace S1 v2) wd_6_57 rfl rfl ⟨by rw [hf]; decide, by rw [hlo]; decide⟩ (Nat.le_of_ble_eq_true rfl) (mrc hK) (fun v4 hv4 => ?_)
      refine so_go C0 2 (pc' := 31) (lv' := [(0, .ref (B 0)), (1, .int a1), (2, .int v2), (3, .int v4)]) (st' := [.int v4]) rfl ?_
      refine so_if_ge C0 rfl (fun h5 => ?_) (fun h5 => ?_)
      · refine so_go C0 1 (pc' := 43) (lv' := [(0, .ref (B 0)), (1, .int a1), (2, .int v2), (3, .int v4)]) (st' := [.ref (B 0)]) rfl ?_
        refine so_mget C0 hK (j := 31) (v := .ref (B 25)) (by decide) wd_5_50 rfl rfl ?_
        refine so_go C0 2 (pc' := 48) (lv' := [(0, .ref (B 0)), (1, .int a1), (2, .int v2), (3, .int v4)]) (st' := [.int v4, .int a1, .ref (B 25)]) rfl ?_
        refine so_miast C0 hK (a := 24) (by decide) rfl rfl (by decide) rfl (fun S6 hS6 => ?_)
        refine so_go C0 1 (pc' := 50) (lv' := [(0, .ref (B 0)), (1, .int a1), (2, .int v2), (3, .int v4)]) (st' := [.ref (B 0)]) rfl ?_
        refine so_mget C0 hK (j := 34) (v := .ref (B 28)) (by decide) wd_5_53 rfl rfl ?_
        refine so_go C0 2 (pc' := 55) (lv' := [(0, .ref (B 0)), (1, .int a1), (2, .int v2), (3, .int v4)]) (st' := [.int 1, .int v4, .ref (B 28)]) rfl ?_
        refine so_mzast C0 hK (a := 27) (by decide) rfl rfl (by decide) rfl (fun S7 hS7 => ?_)
        refine so_go C0 1 (pc' := 57) (lv' := [(0, .ref (B 0)), (1, .int a1), (2, .int v2), (3, .int v4)]) (st' := [.ref (B 0)]) rfl ?_
        refine so_mget C0 hK (j := 32) (v := .ref (B 26)) (by decide) wd_5_51 rfl rfl ?_
        refine so_go C0 1 (pc' := 61) (lv' := [(0, .ref (B 0)), (1, .int a1), (2, .int v2), (3, .int v4)]) (st' := [.int a1, .ref (B 26)]) rfl ?_
        refine so_ldc2 C0 wd_6_78 rfl ?_
        refine so_mlast C0 hK (a := 25) (by decide) rfl rfl (by decide) rfl (fun S8 hS8 => ?_)
        refine so_go C0 1 (pc' := 66) (lv' := [(0, .ref (B 0)), (1, .int a1), (2, .int v2), (3, .int v4)]) (st' := [.ref (B 0)]) rfl ?_
        refine so_mget C0 hK (j := 33) (v := .ref (B 27)) (by decide) wd_5_52 rfl rfl ?_
        refine so_go C0 2 (pc' := 71) (lv' := [(0, .ref (B 0)), (1, .int a1), (2, .int v2), (3, .int v4)]) (st' := [.int 0, .int a1, .ref (B 27)]) rfl ?_
        refine so_mzast C0 hK (a := 26) (by decide) rfl rfl (by decide) rfl (fun S9 hS9 => ?_)
        refine so_go C0 1 (pc' := 73) (lv' := [(0, .ref (B 0)), (1, .int a1), (2, .int v2), (3, .int v4)]) (st' := [.int 1]) rfl ?_
        exact so_retz C0 rfl rfl rfl
      · refine so_go C0 3 (pc' := 37) (lv' := [(0, .ref (B 0)), (1, .int a1), (2, .int v2), (3, .int v4)]) (st' := [.int a1, .int v2, .ref (B 0)]) rfl ?_
        refine so_oV (As := [.int v2, .int a1]) (rest := []) C0 hK hA yk_Mod_end (c_Mod_end S1 v2 a1) wd_6_61 rfl rfl ⟨by rw [hf]; decide, by rw [hlo]; decide⟩ (Nat.le_of_ble_eq_true rfl) (mrc hK) (fun S10 hS10 => ?_)
        refine so_go C0 1 (pc' := 41) (lv' := [(0, .ref (B 0)), (1, .int a1), (2, .int v2), (3, .int v4)]) (st' := [.int 0]) rfl ?_
        exact so_retz C0 rfl rfl rfl
    · refine so_go C0 4 (pc' := 31) (lv' := [(0, .ref (B 0)), (1, .int a1), (2, .int v2), (3, .int (-1))]) (st' := [.int (-1)]) rfl ?_
      refine so_if_geF C0 rfl (by decide) ?_
      refine so_go C0 3 (pc' := 37) (lv' := [(0, .ref (B 0)), (1, .int a1), (2, .int v2), (3, .int (-1))]) (st' := [.int a1, .int v2, .ref (B 0)]) rfl ?_
      refine so_oV (As := [.int v2, .int a1]) (rest := []) C0 hK hA yk_Mod_end (c_Mod_end S1 v2 a1) wd_6_61 rfl rfl ⟨by rw [hf]; decide, by rw [hlo]; decide⟩ (Nat.le_of_ble_eq_true rfl) (mrc hK) (fun S11 hS11 => ?_)
      refine so_go C0 1 (pc' := 41) (lv' := [(0, .ref (B 0)), (1, .int a1), (2, .int v2), (3, .int (-1))]) (st' := [.int 0]) rfl ?_
      exact so_retz C0 rfl rfl rfl
  exact K r hr
def f_Mod_goOn (S : zM) (a1 : Int32) : Option (zM × Int32) :=
  m_rd 4097 (S.1 26) a1 fun v1 =>
  if v1 = 0 then
    m_rdl 4097 (S.2.1 25) a1 fun v3 =>
    zob (f_Mod_nextNumber S a1 v3) fun v4 =>
    m_wr 4097 a1 (m_setl S 25 (Int32.toNatClampNeg a1) v4) fun S5 =>
    m_rdl 4097 (S5.2.1 25) a1 fun v6 =>
    if ¬ (lg_cmp v6 4294967296) = 0 then
      m_wr 4097 a1 (m_set S5 26 (Int32.toNatClampNeg a1) (vp_nar .boolean 0)) fun S8 =>
      m_rd 4097 (S8.1 26) a1 fun v9 =>
      if v9 = 0 then
        m_rdl 4097 (S8.2.1 25) a1 fun v11 =>
        m_rd 4097 (S8.1 26) a1 fun v12 =>
        zob (f_Mod_narrow S8 a1 v11 v12) fun S13 =>
        some (S13, 1)
      else
        zob (f_Mod_hasOthers S8 a1) fun v14 =>
        if ¬ v14 = 0 then
          m_rdl 4097 (S8.2.1 25) a1 fun v16 =>
          m_rd 4097 (S8.1 26) a1 fun v17 =>
          zob (f_Mod_narrow S8 a1 v16 v17) fun S18 =>
          some (S18, 1)
        else
          some (S8, 0)
    else
      m_wr 4097 a1 (m_set S5 26 (Int32.toNatClampNeg a1) (vp_nar .boolean 1)) fun S19 =>
      m_rd 4097 (S19.1 26) a1 fun v20 =>
      if v20 = 0 then
        m_rdl 4097 (S19.2.1 25) a1 fun v22 =>
        m_rd 4097 (S19.1 26) a1 fun v23 =>
        zob (f_Mod_narrow S19 a1 v22 v23) fun S24 =>
        some (S24, 1)
      else
        zob (f_Mod_hasOthers S19 a1) fun v25 =>
        if ¬ v25 = 0 then
          m_rdl 4097 (S19.2.1 25) a1 fun v27 =>
          m_rd 4097 (S19.1 26) a1 fun v28 =>
          zob (f_Mod_narrow S19 a1 v27 v28) fun S29 =>
          some (S29, 1)
        else
          some (S19, 0)
  else
    some (S, 0)
set_option maxHeartbeats 1000000 in
set_option maxRecDepth 20000 in
theorem c_Mod_goOn (S : zM) (a1 : Int32) : ∀ r, f_Mod_goOn S a1 = some r → zMet l y_Mod_goOn (zw y_Mod_goOn prog_13_method_41_code 2 (some Jvm.ClassFile.FieldType.boolean)) 4 98 [.ref (B 0), .int a1] D zcl (ztys cA) A (mRep D cA B A) (fun _ => 0) (fun _ => 0) S (zFi r) := by
  intro r hr
  refine zMet_of ⟨Nat.le_refl _, Nat.le_refl _⟩ (by decide) tk_Mod_goOn (Nat.le_of_ble_eq_true rfl) ?_
  intro p e R s m args below meth c hf hlo C0 hK hA
  have K : mSO p l e R s m args below meth c 2 A D cA B S 0 (lv_args 0 [.ref (B 0), .int a1]) [] zFi (f_Mod_goOn S a1) := by
    unfold f_Mod_goOn
    refine so_go C0 1 (pc' := 1) (lv' := [(0, .ref (B 0)), (1, .int a1)]) (st' := [.ref (B 0)]) rfl ?_
    refine so_mget C0 hK (j := 33) (v := .ref (B 27)) (by decide) wd_5_52 rfl rfl ?_
    refine so_go C0 1 (pc' := 5) (lv' := [(0, .ref (B 0)), (1, .int a1)]) (st' := [.int a1, .ref (B 27)]) rfl ?_
    refine so_mzald C0 hK (a := 26) (by decide) rfl rfl (by decide) rfl (fun v1 hv1 => ?_)
    refine so_if_eq C0 rfl (fun h2 => ?_) (fun h2 => ?_)
    · refine so_go C0 1 (pc' := 12) (lv' := [(0, .ref (B 0)), (1, .int a1)]) (st' := [.ref (B 0)]) rfl ?_
      refine so_mget C0 hK (j := 32) (v := .ref (B 26)) (by decide) wd_5_51 rfl rfl ?_
      refine so_go C0 4 (pc' := 19) (lv' := [(0, .ref (B 0)), (1, .int a1)]) (st' := [.ref (B 0), .int a1, .ref (B 0), .int a1, .ref (B 26)]) rfl ?_
      refine so_mget C0 hK (j := 32) (v := .ref (B 26)) (by decide) wd_5_51 rfl rfl ?_
      refine so_go C0 1 (pc' := 23) (lv' := [(0, .ref (B 0)), (1, .int a1)]) (st' := [.int a1, .ref (B 26), .int a1, .ref (B 0), .int a1, .ref (B 26)]) rfl ?_
      refine so_mlald C0 hK (a := 25) (by decide) rfl rfl (by decide) rfl (fun v3 hv3 => ?_)
      refine so_opl (As := [.int a1, .long v3]) (rest := [.int a1, .ref (B 26)]) C0 hK hA yk_Mod_nextNumber (c_Mod_nextNumber S a1 v3) wd_6_69 rfl rfl ⟨by rw [hf]; decide, by rw [hlo]; decide⟩ (Nat.le_of_ble_eq_true rfl) (mrc hK) (fun v4 hv4 => ?_)
      refine so_mlast C0 hK (a := 25) (by decide) rfl rfl (by decide) rfl (fun S5 hS5 => ?_)
      refine so_go C0 1 (pc' := 29) (lv' := [(0, .ref (B 0)), (1, .int a1)]) (st' := [.ref (B 0)]) rfl ?_
      refine so_mget C0 hK (j := 33) (v := .ref (B 27)) (by decide) wd_5_52 rfl rfl ?_
      refine so_go C0 2 (pc' := 34) (lv' := [(0, .ref (B 0)), (1, .int a1)]) (st' := [.ref (B 0), .int a1, .ref (B 27)]) rfl ?_
      refine so_mget C0 hK (j := 32) (v := .ref (B 26)) (by decide) wd_5_51 rfl rfl ?_
      refine so_go C0 1 (pc' := 38) (lv' := [(0, .ref (B 0)), (1, .int a1)]) (st' := [.int a1, .ref (B 26), .int a1, .ref (B 27)]) rfl ?_
      refine so_mlald C0 hK (a := 25) (by decide) rfl rfl (by decide) rfl (fun v6 hv6 => ?_)
      refine so_ldc2 C0 wd_6_73 rfl ?_
      refine so_go C0 1 (pc' := 43) (lv' := [(0, .ref (B 0)), (1, .int a1)]) (st' := [.int (lg_cmp v6 4294967296), .int a1, .ref (B 27)]) rfl ?_
      refine so_if_ne C0 rfl (fun h7 => ?_) (fun h7 => ?_)
      · refine so_go C0 1 (pc' := 51) (lv' := [(0, .ref (B 0)), (1, .int a1)]) (st' := [.int 0, .int a1, .ref (B 27)]) rfl ?_
        refine so_mzast C0 hK (a := 26) (by decide) rfl rfl (by decide) rfl (fun S8 hS8 => ?_)
        refine so_go C0 1 (pc' := 53) (lv' := [(0, .ref (B 0)), (1, .int a1)]) (st' := [.ref (B 0)]) rfl ?_
        refine so_mget C0 hK (j := 33) (v := .ref (B 27)) (by decide) wd_5_52 rfl rfl ?_
        refine so_go C0 1 (pc' := 57) (lv' := [(0, .ref (B 0)), (1, .int a1)]) (st' := [.int a1, .ref (B 27)]) rfl ?_
        refine so_mzald C0 hK (a := 26) (by decide) rfl rfl (by decide) rfl (fun v9 hv9 => ?_)
        refine so_if_eq C0 rfl (fun h10 => ?_) (fun h10 => ?_)
        · refine so_go C0 3 (pc' := 74) (lv' := [(0, .ref (B 0)), (1, .int a1)]) (st' := [.ref (B 0), .int a1, .ref (B 0)]) rfl ?_
          refine so_mget C0 hK (j := 32) (v := .ref (B 26)) (by decide) wd_5_51 rfl rfl ?_
          refine so_go C0 1 (pc' := 78) (lv' := [(0, .ref (B 0)), (1, .int a1)]) (st' := [.int a1, .ref (B 26), .int a1, .ref (B 0)]) rfl ?_
          refine so_mlald C0 hK (a := 25) (by decide) rfl rfl (by decide) rfl (fun v11 hv11 => ?_)
          refine so_go C0 1 (pc' := 80) (lv' := [(0, .ref (B 0)), (1, .int a1)]) (st' := [.ref (B 0), .long v11, .int a1, .ref (B 0)]) rfl ?_
          refine so_mget C0 hK (j := 33) (v := .ref (B 27)) (by decide) wd_5_52 rfl rfl ?_
          refine so_go C0 1 (pc' := 84) (lv' := [(0, .ref (B 0)), (1, .int a1)]) (st' := [.int a1, .ref (B 27), .long v11, .int a1, .ref (B 0)]) rfl ?_
          refine so_mzald C0 hK (a := 26) (by decide) rfl rfl (by decide) rfl (fun v12 hv12 => ?_)
          refine so_oV (As := [.int a1, .long v11, .int v12]) (rest := []) C0 hK hA yk_Mod_narrow (c_Mod_narrow S8 a1 v11 v12) wd_6_95 rfl rfl ⟨by rw [hf]; decide, by rw [hlo]; decide⟩ (Nat.le_of_ble_eq_true rfl) (mrc hK) (fun S13 hS13 => ?_)
          refine so_go C0 1 (pc' := 89) (lv' := [(0, .ref (B 0)), (1, .int a1)]) (st' := [.int 1]) rfl ?_
          exact so_retz C0 rfl rfl rfl
        · refine so_go C0 2 (pc' := 63) (lv' := [(0, .ref (B 0)), (1, .int a1)]) (st' := [.int a1, .ref (B 0)]) rfl ?_
          refine so_op (As := [.int a1]) (rest := []) C0 hK hA yk_Mod_hasOthers (c_Mod_hasOthers S8 a1) wd_6_83 rfl rfl ⟨by rw [hf]; decide, by rw [hlo]; decide⟩ (Nat.le_of_ble_eq_true rfl) (mrc hK) (fun v14 hv14 => ?_)
          refine so_if_ne C0 rfl (fun h15 => ?_) (fun h15 => ?_)
          · refine so_go C0 3 (pc' := 74) (lv' := [(0, .ref (B 0)), (1, .int a1)]) (st' := [.ref (B 0), .int a1, .ref (B 0)]) rfl ?_
            refine so_mget C0 hK (j := 32) (v := .ref (B 26)) (by decide) wd_5_51 rfl rfl ?_
            refine so_go C0 1 (pc' := 78) (lv' := [(0, .ref (B 0)), (1, .int a1)]) (st' := [.int a1, .ref (B 26), .int a1, .ref (B 0)]) rfl ?_
            refine so_mlald C0 hK (a := 25) (by decide) rfl rfl (by decide) rfl (fun v16 hv16 => ?_)
            refine so_go C0 1 (pc' := 80) (lv' := [(0, .ref (B 0)), (1, .int a1)]) (st' := [.ref (B 0), .long v16, .int a1, .ref (B 0)]) rfl ?_
            refine so_mget C0 hK (j := 33) (v := .ref (B 27)) (by decide) wd_5_52 rfl rfl ?_
            refine so_go C0 1 (pc' := 84) (lv' := [(0, .ref (B 0)), (1, .int a1)]) (st' := [.int a1, .ref (B 27), .long v16, .int a1, .ref (B 0)]) rfl ?_
            refine so_mzald C0 hK (a := 26) (by decide) rfl rfl (by decide) rfl (fun v17 hv17 => ?_)
            refine so_oV (As := [.int a1, .long v16, .int v17]) (rest := []) C0 hK hA yk_Mod_narrow (c_Mod_narrow S8 a1 v16 v17) wd_6_95 rfl rfl ⟨by rw [hf]; decide, by rw [hlo]; decide⟩ (Nat.le_of_ble_eq_true rfl) (mrc hK) (fun S18 hS18 => ?_)
            refine so_go C0 1 (pc' := 89) (lv' := [(0, .ref (B 0)), (1, .int a1)]) (st' := [.int 1]) rfl ?_
            exact so_retz C0 rfl rfl rfl
          · refine so_go C0 1 (pc' := 70) (lv' := [(0, .ref (B 0)), (1, .int a1)]) (st' := [.int 0]) rfl ?_
            exact so_retz C0 rfl rfl rfl
      · refine so_go C0 2 (pc' := 51) (lv' := [(0, .ref (B 0)), (1, .int a1)]) (st' := [.int 1, .int a1, .ref (B 27)]) rfl ?_
        refine so_mzast C0 hK (a := 26) (by decide) rfl rfl (by decide) rfl (fun S19 hS19 => ?_)
        refine so_go C0 1 (pc' := 53) (lv' := [(0, .ref (B 0)), (1, .int a1)]) (st' := [.ref (B 0)]) rfl ?_
        refine so_mget C0 hK (j := 33) (v := .ref (B 27)) (by decide) wd_5_52 rfl rfl ?_
        refine so_go C0 1 (pc' := 57) (lv' := [(0, .ref (B 0)), (1, .int a1)]) (st' := [.int a1, .ref (B 27)]) rfl ?_
        refine so_mzald C0 hK (a := 26) (by decide) rfl rfl (by decide) rfl (fun v20 hv20 => ?_)
        refine so_if_eq C0 rfl (fun h21 => ?_) (fun h21 => ?_)
        · refine so_go C0 3 (pc' := 74) (lv' := [(0, .ref (B 0)), (1, .int a1)]) (st' := [.ref (B 0), .int a1, .ref (B 0)]) rfl ?_
          refine so_mget C0 hK (j := 32) (v := .ref (B 26)) (by decide) wd_5_51 rfl rfl ?_
          refine so_go C0 1 (pc' := 78) (lv' := [(0, .ref (B 0)), (1, .int a1)]) (st' := [.int a1, .ref (B 26), .int a1, .ref (B 0)]) rfl ?_
          refine so_mlald C0 hK (a := 25) (by decide) rfl rfl (by decide) rfl (fun v22 hv22 => ?_)
          refine so_go C0 1 (pc' := 80) (lv' := [(0, .ref (B 0)), (1, .int a1)]) (st' := [.ref (B 0), .long v22, .int a1, .ref (B 0)]) rfl ?_
          refine so_mget C0 hK (j := 33) (v := .ref (B 27)) (by decide) wd_5_52 rfl rfl ?_
          refine so_go C0 1 (pc' := 84) (lv' := [(0, .ref (B 0)), (1, .int a1)]) (st' := [.int a1, .ref (B 27), .long v22, .int a1, .ref (B 0)]) rfl ?_
          refine so_mzald C0 hK (a := 26) (by decide) rfl rfl (by decide) rfl (fun v23 hv23 => ?_)
          refine so_oV (As := [.int a1, .long v22, .int v23]) (rest := []) C0 hK hA yk_Mod_narrow (c_Mod_narrow S19 a1 v22 v23) wd_6_95 rfl rfl ⟨by rw [hf]; decide, by rw [hlo]; decide⟩ (Nat.le_of_ble_eq_true rfl) (mrc hK) (fun S24 hS24 => ?_)
          refine so_go C0 1 (pc' := 89) (lv' := [(0, .ref (B 0)), (1, .int a1)]) (st' := [.int 1]) rfl ?_
          exact so_retz C0 rfl rfl rfl
        · refine so_go C0 2 (pc' := 63) (lv' := [(0, .ref (B 0)), (1, .int a1)]) (st' := [.int a1, .ref (B 0)]) rfl ?_
          refine so_op (As := [.int a1]) (rest := []) C0 hK hA yk_Mod_hasOthers (c_Mod_hasOthers S19 a1) wd_6_83 rfl rfl ⟨by rw [hf]; decide, by rw [hlo]; decide⟩ (Nat.le_of_ble_eq_true rfl) (mrc hK) (fun v25 hv25 => ?_)
          refine so_if_ne C0 rfl (fun h26 => ?_) (fun h26 => ?_)
          · refine so_go C0 3 (pc' := 74) (lv' := [(0, .ref (B 0)), (1, .int a1)]) (st' := [.ref (B 0), .int a1, .ref (B 0)]) rfl ?_
            refine so_mget C0 hK (j := 32) (v := .ref (B 26)) (by decide) wd_5_51 rfl rfl ?_
            refine so_go C0 1 (pc' := 78) (lv' := [(0, .ref (B 0)), (1, .int a1)]) (st' := [.int a1, .ref (B 26), .int a1, .ref (B 0)]) rfl ?_
            refine so_mlald C0 hK (a := 25) (by decide) rfl rfl (by decide) rfl (fun v27 hv27 => ?_)
            refine so_go C0 1 (pc' := 80) (lv' := [(0, .ref (B 0)), (1, .int a1)]) (st' := [.ref (B 0), .long v27, .int a1, .ref (B 0)]) rfl ?_
            refine so_mget C0 hK (j := 33) (v := .ref (B 27)) (by decide) wd_5_52 rfl rfl ?_
            refine so_go C0 1 (pc' := 84) (lv' := [(0, .ref (B 0)), (1, .int a1)]) (st' := [.int a1, .ref (B 27), .long v27, .int a1, .ref (B 0)]) rfl ?_
            refine so_mzald C0 hK (a := 26) (by decide) rfl rfl (by decide) rfl (fun v28 hv28 => ?_)
            refine so_oV (As := [.int a1, .long v27, .int v28]) (rest := []) C0 hK hA yk_Mod_narrow (c_Mod_narrow S19 a1 v27 v28) wd_6_95 rfl rfl ⟨by rw [hf]; decide, by rw [hlo]; decide⟩ (Nat.le_of_ble_eq_true rfl) (mrc hK) (fun S29 hS29 => ?_)
            refine so_go C0 1 (pc' := 89) (lv' := [(0, .ref (B 0)), (1, .int a1)]) (st' := [.int 1]) rfl ?_
            exact so_retz C0 rfl rfl rfl
          · refine so_go C0 1 (pc' := 70) (lv' := [(0, .ref (B 0)), (1, .int a1)]) (st' := [.int 0]) rfl ?_
            exact so_retz C0 rfl rfl rfl
    · refine so_go C0 1 (pc' := 10) (lv' := [(0, .ref (B 0)), (1, .int a1)]) (st' := [.int 0]) rfl ?_
      exact so_retz C0 rfl rfl rfl
  exact K r hr
def f_Mod_grow_L60 : Nat → zM → Int32 → Option (zM × Int32)
  | 0, _, _ => none
  | n + 1, S, x1 =>
    if x1 < 0 then
      if (S.2.2 8) ≤ 4096 then
        zbind (m_sc S 7 1) fun S12 =>
        some (S12, (S12.2.2 8))
      else
        some (S, (-2))
    else
      if 4096 < (S.2.2 8) then
        if (S.2.2 8) ≤ 4096 then
          zbind (m_sc S 7 1) fun S15 =>
          some (S15, (S15.2.2 8))
        else
          some (S, (-2))
      else
        zob2 (f_Mod_goOn S x1) fun S16 v17 =>
        if v17 = 0 then
          m_rd 4097 (S16.1 24) x1 fun v19 =>
          m_wr 16386 v19 (m_set S16 27 (Int32.toNatClampNeg v19) (vp_nar .boolean 0)) fun S20 =>
          f_Mod_grow_L60 n S20 (x1 + (-1))
        else
          zob2 (f_Mod_enter S16 (x1 + 1)) fun S21 v22 =>
          if v22 = 0 then
            f_Mod_grow_L60 n S21 x1
          else
            zbind (x1 + 1) fun v24 =>
            f_Mod_grow_L60 n S21 v24
def f_Mod_grow_L22 : Nat → zM → Int32 → Option (zM × Int32)
  | 0, _, _ => none
  | n + 1, S, x1 =>
    if 1024 < x1 then
      zob (f_Mod_start S) fun S6 =>
      zob2 (f_Mod_enter S6 0) fun S7 v8 =>
      if v8 = 0 then
        f_Mod_grow_L60 zbig S7 (-1)
      else
        f_Mod_grow_L60 zbig S7 0
    else
      m_wr 1025 x1 (m_set S 28 (Int32.toNatClampNeg x1) 0) fun S25 =>
      f_Mod_grow_L22 n S25 (x1 + 1)
def f_Mod_grow (S : zM) : Option (zM × Int32) :=
  zbind (m_sc S 7 0) fun S1 =>
  zbind (m_sc S1 8 0) fun S2 =>
  zbind (m_sc S2 9 0) fun S3 =>
  zbind (m_sc S3 10 (-1)) fun S4 =>
  f_Mod_grow_L22 zbig S4 0
set_option maxHeartbeats 1000000 in
set_option maxRecDepth 20000 in
theorem c_Mod_grow (S : zM) : ∀ r, f_Mod_grow S = some r → zMet l y_Mod_grow (zw y_Mod_grow prog_13_method_42_code 2 (some Jvm.ClassFile.FieldType.int)) 5 120 [.ref (B 0)] D zcl (ztys cA) A (mRep D cA B A) (fun _ => 0) (fun _ => 0) S (zFi r) := by
  intro r hr
  refine zMet_of ⟨Nat.le_refl _, Nat.le_refl _⟩ (by decide) tk_Mod_grow (Nat.le_of_ble_eq_true rfl) ?_
  intro p e R s m args below meth c hf hlo C0 hK hA
  have lp60 : ∀ (n : Nat) (S : zM) (x1 : Int32), mSO p l e R s m args below meth c 2 A D cA B S 60 [(0, .ref (B 0)), (1, .int x1)] [] zFi (f_Mod_grow_L60 n S x1) := by
    intro n
    induction n with
    | zero =>
      intro S x1
      rw [f_Mod_grow_L60]
      exact so_none
    | succ n ih60 =>
      intro S x1
      rw [f_Mod_grow_L60]
      refine so_go C0 1 (pc' := 61) (lv' := [(0, .ref (B 0)), (1, .int x1)]) (st' := [.int x1]) rfl ?_
      refine so_if_lt C0 rfl (fun h10 => ?_) (fun h10 => ?_)
      · refine so_go C0 1 (pc' := 122) (lv' := [(0, .ref (B 0)), (1, .int x1)]) (st' := [.ref (B 0)]) rfl ?_
        refine so_mget C0 hK (j := 36) (v := .int (S.2.2 8)) (by decide) wd_5_55 rfl rfl ?_
        refine so_go C0 1 (pc' := 128) (lv' := [(0, .ref (B 0)), (1, .int x1)]) (st' := [.int 4096, .int (S.2.2 8)]) rfl ?_
        refine so_icmp_le C0 rfl (fun h11 => ?_) (fun h11 => ?_)
        · refine so_go C0 2 (pc' := 136) (lv' := [(0, .ref (B 0)), (1, .int x1)]) (st' := [.int 1, .ref (B 0)]) rfl ?_
          refine so_mput C0 hK (j := 35) (q := 7) (ty := .boolean) (by decide) (Nat.le_of_ble_eq_true rfl) rfl (by decide +kernel) rfl rfl wd_5_54 rfl rfl ?_
          refine so_st (fun S12 hS12 => ?_)
          refine so_go C0 1 (pc' := 140) (lv' := [(0, .ref (B 0)), (1, .int x1)]) (st' := [.ref (B 0)]) rfl ?_
          refine so_mget C0 hK (j := 36) (v := .int (S12.2.2 8)) (by decide) wd_5_55 rfl rfl ?_
          exact so_reti C0 rfl rfl
        · refine so_go C0 1 (pc' := 133) (lv' := [(0, .ref (B 0)), (1, .int x1)]) (st' := [.int (-2)]) rfl ?_
          exact so_reti C0 rfl rfl
      · refine so_go C0 1 (pc' := 65) (lv' := [(0, .ref (B 0)), (1, .int x1)]) (st' := [.ref (B 0)]) rfl ?_
        refine so_mget C0 hK (j := 36) (v := .int (S.2.2 8)) (by decide) wd_5_55 rfl rfl ?_
        refine so_go C0 1 (pc' := 71) (lv' := [(0, .ref (B 0)), (1, .int x1)]) (st' := [.int 4096, .int (S.2.2 8)]) rfl ?_
        refine so_icmp_gt C0 rfl (fun h13 => ?_) (fun h13 => ?_)
        · refine so_go C0 1 (pc' := 122) (lv' := [(0, .ref (B 0)), (1, .int x1)]) (st' := [.ref (B 0)]) rfl ?_
          refine so_mget C0 hK (j := 36) (v := .int (S.2.2 8)) (by decide) wd_5_55 rfl rfl ?_
          refine so_go C0 1 (pc' := 128) (lv' := [(0, .ref (B 0)), (1, .int x1)]) (st' := [.int 4096, .int (S.2.2 8)]) rfl ?_
          refine so_icmp_le C0 rfl (fun h14 => ?_) (fun h14 => ?_)
          · refine so_go C0 2 (pc' := 136) (lv' := [(0, .ref (B 0)), (1, .int x1)]) (st' := [.int 1, .ref (B 0)]) rfl ?_
            refine so_mput C0 hK (j := 35) (q := 7) (ty := .boolean) (by decide) (Nat.le_of_ble_eq_true rfl) rfl (by decide +kernel) rfl rfl wd_5_54 rfl rfl ?_
            refine so_st (fun S15 hS15 => ?_)
            refine so_go C0 1 (pc' := 140) (lv' := [(0, .ref (B 0)), (1, .int x1)]) (st' := [.ref (B 0)]) rfl ?_
            refine so_mget C0 hK (j := 36) (v := .int (S15.2.2 8)) (by decide) wd_5_55 rfl rfl ?_
            exact so_reti C0 rfl rfl
          · refine so_go C0 1 (pc' := 133) (lv' := [(0, .ref (B 0)), (1, .int x1)]) (st' := [.int (-2)]) rfl ?_
            exact so_reti C0 rfl rfl
        · refine so_go C0 2 (pc' := 76) (lv' := [(0, .ref (B 0)), (1, .int x1)]) (st' := [.int x1, .ref (B 0)]) rfl ?_
          refine so_oi (As := [.int x1]) (rest := []) C0 hK hA yk_Mod_goOn (c_Mod_goOn S x1) wd_6_79 rfl rfl ⟨by rw [hf]; decide, by rw [hlo]; decide⟩ (Nat.le_of_ble_eq_true rfl) (mrc hK) (fun S16 v17 hv17 => ?_)
          refine so_if_eq C0 rfl (fun h18 => ?_) (fun h18 => ?_)
          · refine so_go C0 1 (pc' := 104) (lv' := [(0, .ref (B 0)), (1, .int x1)]) (st' := [.ref (B 0)]) rfl ?_
            refine so_mget C0 hK (j := 34) (v := .ref (B 28)) (by decide) wd_5_53 rfl rfl ?_
            refine so_go C0 1 (pc' := 108) (lv' := [(0, .ref (B 0)), (1, .int x1)]) (st' := [.ref (B 0), .ref (B 28)]) rfl ?_
            refine so_mget C0 hK (j := 31) (v := .ref (B 25)) (by decide) wd_5_50 rfl rfl ?_
            refine so_go C0 1 (pc' := 112) (lv' := [(0, .ref (B 0)), (1, .int x1)]) (st' := [.int x1, .ref (B 25), .ref (B 28)]) rfl ?_
            refine so_miald C0 hK (a := 24) (by decide) rfl rfl (by decide) rfl (fun v19 hv19 => ?_)
            refine so_go C0 1 (pc' := 114) (lv' := [(0, .ref (B 0)), (1, .int x1)]) (st' := [.int 0, .int v19, .ref (B 28)]) rfl ?_
            refine so_mzast C0 hK (a := 27) (by decide) rfl rfl (by decide) rfl (fun S20 hS20 => ?_)
            refine so_go C0 2 (pc' := 60) (lv' := [(0, .ref (B 0)), (1, .int (x1 + (-1)))]) (st' := []) rfl ?_
            exact so_sub (lv' := [(0, .ref (B 0)), (1, .int (x1 + (-1)))]) (zpk [0, 1] rfl) (ih60 S20 (x1 + (-1)))
          · refine so_go C0 4 (pc' := 86) (lv' := [(0, .ref (B 0)), (1, .int x1)]) (st' := [.int (x1 + 1), .ref (B 0)]) rfl ?_
            refine so_oi (As := [.int (x1 + 1)]) (rest := []) C0 hK hA yk_Mod_enter (c_Mod_enter S16 (x1 + 1)) wd_6_45 rfl rfl ⟨by rw [hf]; decide, by rw [hlo]; decide⟩ (Nat.le_of_ble_eq_true rfl) (mrc hK) (fun S21 v22 hv22 => ?_)
            refine so_if_eq C0 rfl (fun h23 => ?_) (fun h23 => ?_)
            · refine so_go C0 3 (pc' := 60) (lv' := [(0, .ref (B 0)), (1, .int x1)]) (st' := []) rfl ?_
              exact so_sub (lv' := [(0, .ref (B 0)), (1, .int x1)]) (zpk [0, 1] rfl) (ih60 S21 x1)
            · refine so_go C0 4 (pc' := 99) (lv' := [(0, .ref (B 0)), (1, .int x1)]) (st' := [.int (x1 + 1)]) rfl ?_
              refine so_nm (V := .int) (fun v24 hv24 => ?_)
              refine so_go C0 2 (pc' := 60) (lv' := [(0, .ref (B 0)), (1, .int v24)]) (st' := []) rfl ?_
              exact so_sub (lv' := [(0, .ref (B 0)), (1, .int v24)]) (zpk [0, 1] rfl) (ih60 S21 v24)
  have lp22 : ∀ (n : Nat) (S : zM) (x1 : Int32), mSO p l e R s m args below meth c 2 A D cA B S 22 [(0, .ref (B 0)), (1, .int x1)] [] zFi (f_Mod_grow_L22 n S x1) := by
    intro n
    induction n with
    | zero =>
      intro S x1
      rw [f_Mod_grow_L22]
      exact so_none
    | succ n ih22 =>
      intro S x1
      rw [f_Mod_grow_L22]
      refine so_go C0 2 (pc' := 26) (lv' := [(0, .ref (B 0)), (1, .int x1)]) (st' := [.int 1024, .int x1]) rfl ?_
      refine so_icmp_gt C0 rfl (fun h5 => ?_) (fun h5 => ?_)
      · refine so_go C0 1 (pc' := 43) (lv' := [(0, .ref (B 0)), (1, .int x1)]) (st' := [.ref (B 0)]) rfl ?_
        refine so_oV (As := []) (rest := []) C0 hK hA yk_Mod_start (c_Mod_start S) wd_6_37 rfl rfl ⟨by rw [hf]; decide, by rw [hlo]; decide⟩ (Nat.le_of_ble_eq_true rfl) (mrc hK) (fun S6 hS6 => ?_)
        refine so_go C0 2 (pc' := 48) (lv' := [(0, .ref (B 0)), (1, .int x1)]) (st' := [.int 0, .ref (B 0)]) rfl ?_
        refine so_oi (As := [.int 0]) (rest := []) C0 hK hA yk_Mod_enter (c_Mod_enter S6 0) wd_6_45 rfl rfl ⟨by rw [hf]; decide, by rw [hlo]; decide⟩ (Nat.le_of_ble_eq_true rfl) (mrc hK) (fun S7 v8 hv8 => ?_)
        refine so_if_eq C0 rfl (fun h9 => ?_) (fun h9 => ?_)
        · refine so_go C0 2 (pc' := 60) (lv' := [(0, .ref (B 0)), (1, .int (-1))]) (st' := []) rfl ?_
          exact so_sub (lv' := [(0, .ref (B 0)), (1, .int (-1))]) (zpk [0, 1] rfl) (lp60 zbig S7 (-1))
        · refine so_go C0 3 (pc' := 60) (lv' := [(0, .ref (B 0)), (1, .int 0)]) (st' := []) rfl ?_
          exact so_sub (lv' := [(0, .ref (B 0)), (1, .int 0)]) (zpk [0, 1] rfl) (lp60 zbig S7 0)
      · refine so_go C0 1 (pc' := 30) (lv' := [(0, .ref (B 0)), (1, .int x1)]) (st' := [.ref (B 0)]) rfl ?_
        refine so_mget C0 hK (j := 38) (v := .ref (B 29)) (by decide) wd_5_57 rfl rfl ?_
        refine so_go C0 2 (pc' := 35) (lv' := [(0, .ref (B 0)), (1, .int x1)]) (st' := [.int 0, .int x1, .ref (B 29)]) rfl ?_
        refine so_miast C0 hK (a := 28) (by decide) rfl rfl (by decide) rfl (fun S25 hS25 => ?_)
        refine so_go C0 2 (pc' := 22) (lv' := [(0, .ref (B 0)), (1, .int (x1 + 1))]) (st' := []) rfl ?_
        exact so_sub (lv' := [(0, .ref (B 0)), (1, .int (x1 + 1))]) (zpk [0, 1] rfl) (ih22 S25 (x1 + 1))
  have K : mSO p l e R s m args below meth c 2 A D cA B S 0 (lv_args 0 [.ref (B 0)]) [] zFi (f_Mod_grow S) := by
    unfold f_Mod_grow
    refine so_go C0 2 (pc' := 2) (lv' := [(0, .ref (B 0))]) (st' := [.int 0, .ref (B 0)]) rfl ?_
    refine so_mput C0 hK (j := 35) (q := 7) (ty := .boolean) (by decide) (Nat.le_of_ble_eq_true rfl) rfl (by decide +kernel) rfl rfl wd_5_54 rfl rfl ?_
    refine so_st (fun S1 hS1 => ?_)
    refine so_go C0 2 (pc' := 7) (lv' := [(0, .ref (B 0))]) (st' := [.int 0, .ref (B 0)]) rfl ?_
    refine so_mput C0 hK (j := 36) (q := 8) (ty := .int) (by decide) (Nat.le_of_ble_eq_true rfl) rfl (by decide +kernel) rfl rfl wd_5_55 rfl rfl ?_
    refine so_st (fun S2 hS2 => ?_)
    refine so_go C0 2 (pc' := 12) (lv' := [(0, .ref (B 0))]) (st' := [.int 0, .ref (B 0)]) rfl ?_
    refine so_mput C0 hK (j := 37) (q := 9) (ty := .int) (by decide) (Nat.le_of_ble_eq_true rfl) rfl (by decide +kernel) rfl rfl wd_5_56 rfl rfl ?_
    refine so_st (fun S3 hS3 => ?_)
    refine so_go C0 2 (pc' := 17) (lv' := [(0, .ref (B 0))]) (st' := [.int (-1), .ref (B 0)]) rfl ?_
    refine so_mput C0 hK (j := 39) (q := 10) (ty := .int) (by decide) (Nat.le_of_ble_eq_true rfl) rfl (by decide +kernel) rfl rfl wd_5_58 rfl rfl ?_
    refine so_st (fun S4 hS4 => ?_)
    refine so_go C0 2 (pc' := 22) (lv' := [(0, .ref (B 0)), (1, .int 0)]) (st' := []) rfl ?_
    exact so_sub (lv' := [(0, .ref (B 0)), (1, .int 0)]) (zpk [0, 1] rfl) (lp22 zbig S4 0)
  exact K r hr
def f_Mod_isRecordPlace (S : zM) (a1 : Int32) : Option (Int32) :=
  m_rd 16386 (S.1 22) a1 fun v1 =>
  if v1 ≤ 0 then
    some 0
  else
    some 1
set_option maxHeartbeats 1000000 in
set_option maxRecDepth 20000 in
theorem c_Mod_isRecordPlace (S : zM) (a1 : Int32) : ∀ r, f_Mod_isRecordPlace S a1 = some r → zMet l y_Mod_isRecordPlace (zw y_Mod_isRecordPlace prog_13_method_44_code 2 (some Jvm.ClassFile.FieldType.boolean)) 0 0 [.ref (B 0), .int a1] D zcl (ztys cA) A (mRep D cA B A) (fun _ => 0) (fun _ => 0) S ((zFp S) r) := by
  intro r hr
  refine zMet_of ⟨Nat.le_refl _, Nat.le_refl _⟩ (by decide) tk_Mod_isRecordPlace (Nat.le_of_ble_eq_true rfl) ?_
  intro p e R s m args below meth c hf hlo C0 hK hA
  have K : mSO p l e R s m args below meth c 2 A D cA B S 0 (lv_args 0 [.ref (B 0), .int a1]) [] (zFp S) (f_Mod_isRecordPlace S a1) := by
    unfold f_Mod_isRecordPlace
    refine so_go C0 1 (pc' := 1) (lv' := [(0, .ref (B 0)), (1, .int a1)]) (st' := [.ref (B 0)]) rfl ?_
    refine so_mget C0 hK (j := 29) (v := .ref (B 23)) (by decide) wd_5_48 rfl rfl ?_
    refine so_go C0 1 (pc' := 5) (lv' := [(0, .ref (B 0)), (1, .int a1)]) (st' := [.int a1, .ref (B 23)]) rfl ?_
    refine so_miald C0 hK (a := 22) (by decide) rfl rfl (by decide) rfl (fun v1 hv1 => ?_)
    refine so_if_le C0 rfl (fun h2 => ?_) (fun h2 => ?_)
    · refine so_go C0 1 (pc' := 14) (lv' := [(0, .ref (B 0)), (1, .int a1)]) (st' := [.int 0]) rfl ?_
      exact so_retz C0 rfl rfl rfl
    · refine so_go C0 2 (pc' := 14) (lv' := [(0, .ref (B 0)), (1, .int a1)]) (st' := [.int 1]) rfl ?_
      exact so_retz C0 rfl rfl rfl
  exact K r hr
def f_Mod_partAt_L41 : Nat → zM → Int32 → Int32 → Option (zM × Int32)
  | 0, _, _, _ => none
  | n + 1, S, x4, x5 =>
    if x5 < 0 then
      some (S, x4)
    else
      if x4 < 0 then
        some (S, x4)
      else
        m_rd 20480 (S.1 31) x5 fun v5 =>
        m_rd 16386 (S.1 17) v5 fun v6 =>
        m_rd 16384 (S.1 2) x4 fun v7 =>
        if ¬ v7 = 4 then
          m_rd 16384 (S.1 2) x4 fun v9 =>
          if v9 = 2 then
            m_rd 16386 (S.1 18) v5 fun v11 =>
            if ¬ v11 = 1 then
              f_Mod_partAt_L41 n S (-1) (x5 + (-1))
            else
              m_rd 16384 (S.1 5) x4 fun v13 =>
              if v13 < 0 then
                f_Mod_partAt_L41 n S (-1) (x5 + (-1))
              else
                zob (f_Mod_isRecordPlace S v6) fun v15 =>
                if ¬ v15 = 0 then
                  f_Mod_partAt_L41 n S (-1) (x5 + (-1))
                else
                  m_rd 16384 (S.1 5) x4 fun v17 =>
                  f_Mod_partAt_L41 n S v17 (x5 + (-1))
          else
            m_rd 16384 (S.1 2) x4 fun v18 =>
            if ¬ v18 = 3 then
              f_Mod_partAt_L41 n S (-1) (x5 + (-1))
            else
              m_rd 16386 (S.1 18) v5 fun v20 =>
              if ¬ v20 = 1 then
                f_Mod_partAt_L41 n S (-1) (x5 + (-1))
              else
                m_rd 16384 (S.1 5) x4 fun v22 =>
                if v22 < 0 then
                  f_Mod_partAt_L41 n S (-1) (x5 + (-1))
                else
                  zob (f_Mod_isRecordPlace S v6) fun v24 =>
                  if ¬ v24 = 0 then
                    f_Mod_partAt_L41 n S (-1) (x5 + (-1))
                  else
                    m_rd 16384 (S.1 5) x4 fun v26 =>
                    f_Mod_partAt_L41 n S v26 (x5 + (-1))
        else
          m_rd 16386 (S.1 22) v6 fun v27 =>
          m_rd 16384 (S.1 3) x4 fun v28 =>
          if ¬ v27 = v28 then
            m_rd 16384 (S.1 2) x4 fun v30 =>
            if v30 = 2 then
              m_rd 16386 (S.1 18) v5 fun v32 =>
              if ¬ v32 = 1 then
                f_Mod_partAt_L41 n S (-1) (x5 + (-1))
              else
                m_rd 16384 (S.1 5) x4 fun v34 =>
                if v34 < 0 then
                  f_Mod_partAt_L41 n S (-1) (x5 + (-1))
                else
                  zob (f_Mod_isRecordPlace S v6) fun v36 =>
                  if ¬ v36 = 0 then
                    f_Mod_partAt_L41 n S (-1) (x5 + (-1))
                  else
                    m_rd 16384 (S.1 5) x4 fun v38 =>
                    f_Mod_partAt_L41 n S v38 (x5 + (-1))
            else
              m_rd 16384 (S.1 2) x4 fun v39 =>
              if ¬ v39 = 3 then
                f_Mod_partAt_L41 n S (-1) (x5 + (-1))
              else
                m_rd 16386 (S.1 18) v5 fun v41 =>
                if ¬ v41 = 1 then
                  f_Mod_partAt_L41 n S (-1) (x5 + (-1))
                else
                  m_rd 16384 (S.1 5) x4 fun v43 =>
                  if v43 < 0 then
                    f_Mod_partAt_L41 n S (-1) (x5 + (-1))
                  else
                    zob (f_Mod_isRecordPlace S v6) fun v45 =>
                    if ¬ v45 = 0 then
                      f_Mod_partAt_L41 n S (-1) (x5 + (-1))
                    else
                      m_rd 16384 (S.1 5) x4 fun v47 =>
                      f_Mod_partAt_L41 n S v47 (x5 + (-1))
          else
            m_rd 16386 (S.1 18) v5 fun v48 =>
            m_rd 16384 (S.1 3) x4 fun v49 =>
            if v49 < v48 then
              m_rd 16384 (S.1 2) x4 fun v51 =>
              if v51 = 2 then
                m_rd 16386 (S.1 18) v5 fun v53 =>
                if ¬ v53 = 1 then
                  f_Mod_partAt_L41 n S (-1) (x5 + (-1))
                else
                  m_rd 16384 (S.1 5) x4 fun v55 =>
                  if v55 < 0 then
                    f_Mod_partAt_L41 n S (-1) (x5 + (-1))
                  else
                    zob (f_Mod_isRecordPlace S v6) fun v57 =>
                    if ¬ v57 = 0 then
                      f_Mod_partAt_L41 n S (-1) (x5 + (-1))
                    else
                      m_rd 16384 (S.1 5) x4 fun v59 =>
                      f_Mod_partAt_L41 n S v59 (x5 + (-1))
              else
                m_rd 16384 (S.1 2) x4 fun v60 =>
                if ¬ v60 = 3 then
                  f_Mod_partAt_L41 n S (-1) (x5 + (-1))
                else
                  m_rd 16386 (S.1 18) v5 fun v62 =>
                  if ¬ v62 = 1 then
                    f_Mod_partAt_L41 n S (-1) (x5 + (-1))
                  else
                    m_rd 16384 (S.1 5) x4 fun v64 =>
                    if v64 < 0 then
                      f_Mod_partAt_L41 n S (-1) (x5 + (-1))
                    else
                      zob (f_Mod_isRecordPlace S v6) fun v66 =>
                      if ¬ v66 = 0 then
                        f_Mod_partAt_L41 n S (-1) (x5 + (-1))
                      else
                        m_rd 16384 (S.1 5) x4 fun v68 =>
                        f_Mod_partAt_L41 n S v68 (x5 + (-1))
            else
              zob (f_Mod_isRecordPlace S v6) fun v69 =>
              if v69 = 0 then
                m_rd 16384 (S.1 2) x4 fun v71 =>
                if v71 = 2 then
                  m_rd 16386 (S.1 18) v5 fun v73 =>
                  if ¬ v73 = 1 then
                    f_Mod_partAt_L41 n S (-1) (x5 + (-1))
                  else
                    m_rd 16384 (S.1 5) x4 fun v75 =>
                    if v75 < 0 then
                      f_Mod_partAt_L41 n S (-1) (x5 + (-1))
                    else
                      zob (f_Mod_isRecordPlace S v6) fun v77 =>
                      if ¬ v77 = 0 then
                        f_Mod_partAt_L41 n S (-1) (x5 + (-1))
                      else
                        m_rd 16384 (S.1 5) x4 fun v79 =>
                        f_Mod_partAt_L41 n S v79 (x5 + (-1))
                else
                  m_rd 16384 (S.1 2) x4 fun v80 =>
                  if ¬ v80 = 3 then
                    f_Mod_partAt_L41 n S (-1) (x5 + (-1))
                  else
                    m_rd 16386 (S.1 18) v5 fun v82 =>
                    if ¬ v82 = 1 then
                      f_Mod_partAt_L41 n S (-1) (x5 + (-1))
                    else
                      m_rd 16384 (S.1 5) x4 fun v84 =>
                      if v84 < 0 then
                        f_Mod_partAt_L41 n S (-1) (x5 + (-1))
                      else
                        zob (f_Mod_isRecordPlace S v6) fun v86 =>
                        if ¬ v86 = 0 then
                          f_Mod_partAt_L41 n S (-1) (x5 + (-1))
                        else
                          m_rd 16384 (S.1 5) x4 fun v88 =>
                          f_Mod_partAt_L41 n S v88 (x5 + (-1))
              else
                m_rd 16384 (S.1 2) x4 fun v89 =>
                if v89 = 2 then
                  m_rd 16386 (S.1 18) v5 fun v91 =>
                  if ¬ v91 = 1 then
                    m_rd 16386 (S.1 18) v5 fun v93 =>
                    zob (f_Mod_fieldOf S x4 (v93 - 1)) fun v94 =>
                    f_Mod_partAt_L41 n S v94 (x5 + (-1))
                  else
                    m_rd 16384 (S.1 5) x4 fun v95 =>
                    if v95 < 0 then
                      m_rd 16386 (S.1 18) v5 fun v97 =>
                      zob (f_Mod_fieldOf S x4 (v97 - 1)) fun v98 =>
                      f_Mod_partAt_L41 n S v98 (x5 + (-1))
                    else
                      zob (f_Mod_isRecordPlace S v6) fun v99 =>
                      if ¬ v99 = 0 then
                        m_rd 16386 (S.1 18) v5 fun v101 =>
                        zob (f_Mod_fieldOf S x4 (v101 - 1)) fun v102 =>
                        f_Mod_partAt_L41 n S v102 (x5 + (-1))
                      else
                        m_rd 16386 (S.1 18) v5 fun v103 =>
                        zob (f_Mod_fieldOf S x4 (v103 - 1)) fun v104 =>
                        f_Mod_partAt_L41 n S v104 (x5 + (-1))
                else
                  m_rd 16384 (S.1 2) x4 fun v105 =>
                  if ¬ v105 = 3 then
                    m_rd 16386 (S.1 18) v5 fun v107 =>
                    zob (f_Mod_fieldOf S x4 (v107 - 1)) fun v108 =>
                    f_Mod_partAt_L41 n S v108 (x5 + (-1))
                  else
                    m_rd 16386 (S.1 18) v5 fun v109 =>
                    if ¬ v109 = 1 then
                      m_rd 16386 (S.1 18) v5 fun v111 =>
                      zob (f_Mod_fieldOf S x4 (v111 - 1)) fun v112 =>
                      f_Mod_partAt_L41 n S v112 (x5 + (-1))
                    else
                      m_rd 16384 (S.1 5) x4 fun v113 =>
                      if v113 < 0 then
                        m_rd 16386 (S.1 18) v5 fun v115 =>
                        zob (f_Mod_fieldOf S x4 (v115 - 1)) fun v116 =>
                        f_Mod_partAt_L41 n S v116 (x5 + (-1))
                      else
                        zob (f_Mod_isRecordPlace S v6) fun v117 =>
                        if ¬ v117 = 0 then
                          m_rd 16386 (S.1 18) v5 fun v119 =>
                          zob (f_Mod_fieldOf S x4 (v119 - 1)) fun v120 =>
                          f_Mod_partAt_L41 n S v120 (x5 + (-1))
                        else
                          m_rd 16386 (S.1 18) v5 fun v121 =>
                          zob (f_Mod_fieldOf S x4 (v121 - 1)) fun v122 =>
                          f_Mod_partAt_L41 n S v122 (x5 + (-1))
def f_Mod_partAt_L5 : Nat → zM → Int32 → Int32 → Int32 → Option (zM × Int32)
  | 0, _, _, _, _ => none
  | n + 1, S, x1, x3, x4 =>
    if x4 ≤ 0 then
      zbind (x3 - 1) fun v2 =>
      f_Mod_partAt_L41 zbig S x1 v2
    else
      m_wr 20480 x3 (m_set S 31 (Int32.toNatClampNeg x3) x4) fun S123 =>
      m_rd 16386 (S123.1 17) x4 fun v124 =>
      f_Mod_partAt_L5 n S123 x1 (x3 + 1) v124
def f_Mod_partAt (S : zM) (a1 : Int32) (a2 : Int32) : Option (zM × Int32) :=
  f_Mod_partAt_L5 zbig S a1 0 a2
set_option maxHeartbeats 1000000 in
set_option maxRecDepth 20000 in
theorem c_Mod_partAt (S : zM) (a1 : Int32) (a2 : Int32) : ∀ r, f_Mod_partAt S a1 a2 = some r → zMet l y_Mod_partAt (zw y_Mod_partAt prog_13_method_43_code 10 (some Jvm.ClassFile.FieldType.int)) 1 24 [.ref (B 0), .int a1, .int a2] D zcl (ztys cA) A (mRep D cA B A) (fun _ => 0) (fun _ => 0) S (zFi r) := by
  intro r hr
  refine zMet_of ⟨Nat.le_refl _, Nat.le_refl _⟩ (by decide) tk_Mod_partAt (Nat.le_of_ble_eq_true rfl) ?_
  intro p e R s m args below meth c hf hlo C0 hK hA
  have lp41 : ∀ (n : Nat) (S : zM) (x4 : Int32) (x5 : Int32), mSO p l e R s m args below meth c 10 A D cA B S 41 [(0, .ref (B 0)), (4, .int x4), (5, .int x5)] [] zFi (f_Mod_partAt_L41 n S x4 x5) := by
    intro n
    induction n with
    | zero =>
      intro S x4 x5
      rw [f_Mod_partAt_L41]
      exact so_none
    | succ n ih41 =>
      intro S x4 x5
      rw [f_Mod_partAt_L41]
      refine so_go C0 1 (pc' := 43) (lv' := [(0, .ref (B 0)), (4, .int x4), (5, .int x5)]) (st' := [.int x5]) rfl ?_
      refine so_if_lt C0 rfl (fun h3 => ?_) (fun h3 => ?_)
      · refine so_go C0 1 (pc' := 238) (lv' := [(0, .ref (B 0)), (4, .int x4), (5, .int x5)]) (st' := [.int x4]) rfl ?_
        exact so_reti C0 rfl rfl
      · refine so_go C0 1 (pc' := 48) (lv' := [(0, .ref (B 0)), (4, .int x4), (5, .int x5)]) (st' := [.int x4]) rfl ?_
        refine so_if_lt C0 rfl (fun h4 => ?_) (fun h4 => ?_)
        · refine so_go C0 1 (pc' := 238) (lv' := [(0, .ref (B 0)), (4, .int x4), (5, .int x5)]) (st' := [.int x4]) rfl ?_
          exact so_reti C0 rfl rfl
        · refine so_go C0 1 (pc' := 52) (lv' := [(0, .ref (B 0)), (4, .int x4), (5, .int x5)]) (st' := [.ref (B 0)]) rfl ?_
          refine so_mget C0 hK (j := 43) (v := .ref (B 32)) (by decide) wd_5_62 rfl rfl ?_
          refine so_go C0 1 (pc' := 57) (lv' := [(0, .ref (B 0)), (4, .int x4), (5, .int x5)]) (st' := [.int x5, .ref (B 32)]) rfl ?_
          refine so_miald C0 hK (a := 31) (by decide) rfl rfl (by decide) rfl (fun v5 hv5 => ?_)
          refine so_go C0 2 (pc' := 61) (lv' := [(0, .ref (B 0)), (4, .int x4), (5, .int x5), (6, .int v5)]) (st' := [.ref (B 0)]) rfl ?_
          refine so_mget C0 hK (j := 24) (v := .ref (B 18)) (by decide) wd_5_43 rfl rfl ?_
          refine so_go C0 1 (pc' := 66) (lv' := [(0, .ref (B 0)), (4, .int x4), (5, .int x5), (6, .int v5)]) (st' := [.int v5, .ref (B 18)]) rfl ?_
          refine so_miald C0 hK (a := 17) (by decide) rfl rfl (by decide) rfl (fun v6 hv6 => ?_)
          refine so_go C0 2 (pc' := 70) (lv' := [(0, .ref (B 0)), (4, .int x4), (5, .int x5), (6, .int v5), (7, .int v6)]) (st' := [.ref (B 0)]) rfl ?_
          refine so_mget C0 hK (j := 4) (v := .ref (B 3)) (by decide) wd_5_23 rfl rfl ?_
          refine so_go C0 1 (pc' := 75) (lv' := [(0, .ref (B 0)), (4, .int x4), (5, .int x5), (6, .int v5), (7, .int v6)]) (st' := [.int x4, .ref (B 3)]) rfl ?_
          refine so_mbald C0 hK (a := 2) (by decide) rfl rfl (by decide) rfl (fun v7 hv7 => ?_)
          refine so_go C0 1 (pc' := 77) (lv' := [(0, .ref (B 0)), (4, .int x4), (5, .int x5), (6, .int v5), (7, .int v6)]) (st' := [.int 4, .int v7]) rfl ?_
          refine so_icmp_ne C0 rfl (fun h8 => ?_) (fun h8 => ?_)
          · refine so_go C0 3 (pc' := 131) (lv' := [(0, .ref (B 0)), (4, .int x4), (5, .int x5), (6, .int v5), (7, .int v6), (8, .int 0)]) (st' := [.ref (B 0)]) rfl ?_
            refine so_mget C0 hK (j := 4) (v := .ref (B 3)) (by decide) wd_5_23 rfl rfl ?_
            refine so_go C0 1 (pc' := 136) (lv' := [(0, .ref (B 0)), (4, .int x4), (5, .int x5), (6, .int v5), (7, .int v6), (8, .int 0)]) (st' := [.int x4, .ref (B 3)]) rfl ?_
            refine so_mbald C0 hK (a := 2) (by decide) rfl rfl (by decide) rfl (fun v9 hv9 => ?_)
            refine so_go C0 1 (pc' := 138) (lv' := [(0, .ref (B 0)), (4, .int x4), (5, .int x5), (6, .int v5), (7, .int v6), (8, .int 0)]) (st' := [.int 2, .int v9]) rfl ?_
            refine so_icmp_eq C0 rfl (fun h10 => ?_) (fun h10 => ?_)
            · refine so_go C0 1 (pc' := 153) (lv' := [(0, .ref (B 0)), (4, .int x4), (5, .int x5), (6, .int v5), (7, .int v6), (8, .int 0)]) (st' := [.ref (B 0)]) rfl ?_
              refine so_mget C0 hK (j := 25) (v := .ref (B 19)) (by decide) wd_5_44 rfl rfl ?_
              refine so_go C0 1 (pc' := 158) (lv' := [(0, .ref (B 0)), (4, .int x4), (5, .int x5), (6, .int v5), (7, .int v6), (8, .int 0)]) (st' := [.int v5, .ref (B 19)]) rfl ?_
              refine so_miald C0 hK (a := 18) (by decide) rfl rfl (by decide) rfl (fun v11 hv11 => ?_)
              refine so_go C0 1 (pc' := 160) (lv' := [(0, .ref (B 0)), (4, .int x4), (5, .int x5), (6, .int v5), (7, .int v6), (8, .int 0)]) (st' := [.int 1, .int v11]) rfl ?_
              refine so_icmp_ne C0 rfl (fun h12 => ?_) (fun h12 => ?_)
              · refine so_go C0 3 (pc' := 191) (lv' := [(0, .ref (B 0)), (4, .int x4), (5, .int x5), (6, .int v5), (7, .int v6), (8, .int 0), (9, .int 0)]) (st' := [.int 0]) rfl ?_
                refine so_if_eqT C0 rfl (by decide) ?_
                refine so_go C0 1 (pc' := 214) (lv' := [(0, .ref (B 0)), (4, .int x4), (5, .int x5), (6, .int v5), (7, .int v6), (8, .int 0), (9, .int 0)]) (st' := [.int 0]) rfl ?_
                refine so_if_eqT C0 rfl (by decide) ?_
                refine so_go C0 4 (pc' := 41) (lv' := [(0, .ref (B 0)), (4, .int (-1)), (5, .int (x5 + (-1))), (6, .int v5), (7, .int v6), (8, .int 0), (9, .int 0)]) (st' := []) rfl ?_
                exact so_sub (lv' := [(0, .ref (B 0)), (4, .int (-1)), (5, .int (x5 + (-1)))]) (zpk [0, 1, 2] rfl) (ih41 S (-1) (x5 + (-1)))
              · refine so_go C0 1 (pc' := 164) (lv' := [(0, .ref (B 0)), (4, .int x4), (5, .int x5), (6, .int v5), (7, .int v6), (8, .int 0)]) (st' := [.ref (B 0)]) rfl ?_
                refine so_mget C0 hK (j := 7) (v := .ref (B 6)) (by decide) wd_5_26 rfl rfl ?_
                refine so_go C0 1 (pc' := 169) (lv' := [(0, .ref (B 0)), (4, .int x4), (5, .int x5), (6, .int v5), (7, .int v6), (8, .int 0)]) (st' := [.int x4, .ref (B 6)]) rfl ?_
                refine so_miald C0 hK (a := 5) (by decide) rfl rfl (by decide) rfl (fun v13 hv13 => ?_)
                refine so_if_lt C0 rfl (fun h14 => ?_) (fun h14 => ?_)
                · refine so_go C0 3 (pc' := 191) (lv' := [(0, .ref (B 0)), (4, .int x4), (5, .int x5), (6, .int v5), (7, .int v6), (8, .int 0), (9, .int 0)]) (st' := [.int 0]) rfl ?_
                  refine so_if_eqT C0 rfl (by decide) ?_
                  refine so_go C0 1 (pc' := 214) (lv' := [(0, .ref (B 0)), (4, .int x4), (5, .int x5), (6, .int v5), (7, .int v6), (8, .int 0), (9, .int 0)]) (st' := [.int 0]) rfl ?_
                  refine so_if_eqT C0 rfl (by decide) ?_
                  refine so_go C0 4 (pc' := 41) (lv' := [(0, .ref (B 0)), (4, .int (-1)), (5, .int (x5 + (-1))), (6, .int v5), (7, .int v6), (8, .int 0), (9, .int 0)]) (st' := []) rfl ?_
                  exact so_sub (lv' := [(0, .ref (B 0)), (4, .int (-1)), (5, .int (x5 + (-1)))]) (zpk [0, 1, 2] rfl) (ih41 S (-1) (x5 + (-1)))
                · refine so_go C0 2 (pc' := 176) (lv' := [(0, .ref (B 0)), (4, .int x4), (5, .int x5), (6, .int v5), (7, .int v6), (8, .int 0)]) (st' := [.int v6, .ref (B 0)]) rfl ?_
                  refine so_op (As := [.int v6]) (rest := []) C0 hK hA yk_Mod_isRecordPlace (c_Mod_isRecordPlace S v6) wd_6_111 rfl rfl ⟨by rw [hf]; decide, by rw [hlo]; decide⟩ (Nat.le_of_ble_eq_true rfl) (mrc hK) (fun v15 hv15 => ?_)
                  refine so_if_ne C0 rfl (fun h16 => ?_) (fun h16 => ?_)
                  · refine so_go C0 3 (pc' := 191) (lv' := [(0, .ref (B 0)), (4, .int x4), (5, .int x5), (6, .int v5), (7, .int v6), (8, .int 0), (9, .int 0)]) (st' := [.int 0]) rfl ?_
                    refine so_if_eqT C0 rfl (by decide) ?_
                    refine so_go C0 1 (pc' := 214) (lv' := [(0, .ref (B 0)), (4, .int x4), (5, .int x5), (6, .int v5), (7, .int v6), (8, .int 0), (9, .int 0)]) (st' := [.int 0]) rfl ?_
                    refine so_if_eqT C0 rfl (by decide) ?_
                    refine so_go C0 4 (pc' := 41) (lv' := [(0, .ref (B 0)), (4, .int (-1)), (5, .int (x5 + (-1))), (6, .int v5), (7, .int v6), (8, .int 0), (9, .int 0)]) (st' := []) rfl ?_
                    exact so_sub (lv' := [(0, .ref (B 0)), (4, .int (-1)), (5, .int (x5 + (-1)))]) (zpk [0, 1, 2] rfl) (ih41 S (-1) (x5 + (-1)))
                  · refine so_go C0 4 (pc' := 191) (lv' := [(0, .ref (B 0)), (4, .int x4), (5, .int x5), (6, .int v5), (7, .int v6), (8, .int 0), (9, .int 1)]) (st' := [.int 0]) rfl ?_
                    refine so_if_eqT C0 rfl (by decide) ?_
                    refine so_go C0 1 (pc' := 214) (lv' := [(0, .ref (B 0)), (4, .int x4), (5, .int x5), (6, .int v5), (7, .int v6), (8, .int 0), (9, .int 1)]) (st' := [.int 1]) rfl ?_
                    refine so_if_eqF C0 rfl (by decide) ?_
                    refine so_go C0 1 (pc' := 218) (lv' := [(0, .ref (B 0)), (4, .int x4), (5, .int x5), (6, .int v5), (7, .int v6), (8, .int 0), (9, .int 1)]) (st' := [.ref (B 0)]) rfl ?_
                    refine so_mget C0 hK (j := 7) (v := .ref (B 6)) (by decide) wd_5_26 rfl rfl ?_
                    refine so_go C0 1 (pc' := 223) (lv' := [(0, .ref (B 0)), (4, .int x4), (5, .int x5), (6, .int v5), (7, .int v6), (8, .int 0), (9, .int 1)]) (st' := [.int x4, .ref (B 6)]) rfl ?_
                    refine so_miald C0 hK (a := 5) (by decide) rfl rfl (by decide) rfl (fun v17 hv17 => ?_)
                    refine so_go C0 4 (pc' := 41) (lv' := [(0, .ref (B 0)), (4, .int v17), (5, .int (x5 + (-1))), (6, .int v5), (7, .int v6), (8, .int 0), (9, .int 1)]) (st' := []) rfl ?_
                    exact so_sub (lv' := [(0, .ref (B 0)), (4, .int v17), (5, .int (x5 + (-1)))]) (zpk [0, 1, 2] rfl) (ih41 S v17 (x5 + (-1)))
            · refine so_go C0 1 (pc' := 142) (lv' := [(0, .ref (B 0)), (4, .int x4), (5, .int x5), (6, .int v5), (7, .int v6), (8, .int 0)]) (st' := [.ref (B 0)]) rfl ?_
              refine so_mget C0 hK (j := 4) (v := .ref (B 3)) (by decide) wd_5_23 rfl rfl ?_
              refine so_go C0 1 (pc' := 147) (lv' := [(0, .ref (B 0)), (4, .int x4), (5, .int x5), (6, .int v5), (7, .int v6), (8, .int 0)]) (st' := [.int x4, .ref (B 3)]) rfl ?_
              refine so_mbald C0 hK (a := 2) (by decide) rfl rfl (by decide) rfl (fun v18 hv18 => ?_)
              refine so_go C0 1 (pc' := 149) (lv' := [(0, .ref (B 0)), (4, .int x4), (5, .int x5), (6, .int v5), (7, .int v6), (8, .int 0)]) (st' := [.int 3, .int v18]) rfl ?_
              refine so_icmp_ne C0 rfl (fun h19 => ?_) (fun h19 => ?_)
              · refine so_go C0 3 (pc' := 191) (lv' := [(0, .ref (B 0)), (4, .int x4), (5, .int x5), (6, .int v5), (7, .int v6), (8, .int 0), (9, .int 0)]) (st' := [.int 0]) rfl ?_
                refine so_if_eqT C0 rfl (by decide) ?_
                refine so_go C0 1 (pc' := 214) (lv' := [(0, .ref (B 0)), (4, .int x4), (5, .int x5), (6, .int v5), (7, .int v6), (8, .int 0), (9, .int 0)]) (st' := [.int 0]) rfl ?_
                refine so_if_eqT C0 rfl (by decide) ?_
                refine so_go C0 4 (pc' := 41) (lv' := [(0, .ref (B 0)), (4, .int (-1)), (5, .int (x5 + (-1))), (6, .int v5), (7, .int v6), (8, .int 0), (9, .int 0)]) (st' := []) rfl ?_
                exact so_sub (lv' := [(0, .ref (B 0)), (4, .int (-1)), (5, .int (x5 + (-1)))]) (zpk [0, 1, 2] rfl) (ih41 S (-1) (x5 + (-1)))
              · refine so_go C0 1 (pc' := 153) (lv' := [(0, .ref (B 0)), (4, .int x4), (5, .int x5), (6, .int v5), (7, .int v6), (8, .int 0)]) (st' := [.ref (B 0)]) rfl ?_
                refine so_mget C0 hK (j := 25) (v := .ref (B 19)) (by decide) wd_5_44 rfl rfl ?_
                refine so_go C0 1 (pc' := 158) (lv' := [(0, .ref (B 0)), (4, .int x4), (5, .int x5), (6, .int v5), (7, .int v6), (8, .int 0)]) (st' := [.int v5, .ref (B 19)]) rfl ?_
                refine so_miald C0 hK (a := 18) (by decide) rfl rfl (by decide) rfl (fun v20 hv20 => ?_)
                refine so_go C0 1 (pc' := 160) (lv' := [(0, .ref (B 0)), (4, .int x4), (5, .int x5), (6, .int v5), (7, .int v6), (8, .int 0)]) (st' := [.int 1, .int v20]) rfl ?_
                refine so_icmp_ne C0 rfl (fun h21 => ?_) (fun h21 => ?_)
                · refine so_go C0 3 (pc' := 191) (lv' := [(0, .ref (B 0)), (4, .int x4), (5, .int x5), (6, .int v5), (7, .int v6), (8, .int 0), (9, .int 0)]) (st' := [.int 0]) rfl ?_
                  refine so_if_eqT C0 rfl (by decide) ?_
                  refine so_go C0 1 (pc' := 214) (lv' := [(0, .ref (B 0)), (4, .int x4), (5, .int x5), (6, .int v5), (7, .int v6), (8, .int 0), (9, .int 0)]) (st' := [.int 0]) rfl ?_
                  refine so_if_eqT C0 rfl (by decide) ?_
                  refine so_go C0 4 (pc' := 41) (lv' := [(0, .ref (B 0)), (4, .int (-1)), (5, .int (x5 + (-1))), (6, .int v5), (7, .int v6), (8, .int 0), (9, .int 0)]) (st' := []) rfl ?_
                  exact so_sub (lv' := [(0, .ref (B 0)), (4, .int (-1)), (5, .int (x5 + (-1)))]) (zpk [0, 1, 2] rfl) (ih41 S (-1) (x5 + (-1)))
                · refine so_go C0 1 (pc' := 164) (lv' := [(0, .ref (B 0)), (4, .int x4), (5, .int x5), (6, .int v5), (7, .int v6), (8, .int 0)]) (st' := [.ref (B 0)]) rfl ?_
                  refine so_mget C0 hK (j := 7) (v := .ref (B 6)) (by decide) wd_5_26 rfl rfl ?_
                  refine so_go C0 1 (pc' := 169) (lv' := [(0, .ref (B 0)), (4, .int x4), (5, .int x5), (6, .int v5), (7, .int v6), (8, .int 0)]) (st' := [.int x4, .ref (B 6)]) rfl ?_
                  refine so_miald C0 hK (a := 5) (by decide) rfl rfl (by decide) rfl (fun v22 hv22 => ?_)
                  refine so_if_lt C0 rfl (fun h23 => ?_) (fun h23 => ?_)
                  · refine so_go C0 3 (pc' := 191) (lv' := [(0, .ref (B 0)), (4, .int x4), (5, .int x5), (6, .int v5), (7, .int v6), (8, .int 0), (9, .int 0)]) (st' := [.int 0]) rfl ?_
                    refine so_if_eqT C0 rfl (by decide) ?_
                    refine so_go C0 1 (pc' := 214) (lv' := [(0, .ref (B 0)), (4, .int x4), (5, .int x5), (6, .int v5), (7, .int v6), (8, .int 0), (9, .int 0)]) (st' := [.int 0]) rfl ?_
                    refine so_if_eqT C0 rfl (by decide) ?_
                    refine so_go C0 4 (pc' := 41) (lv' := [(0, .ref (B 0)), (4, .int (-1)), (5, .int (x5 + (-1))), (6, .int v5), (7, .int v6), (8, .int 0), (9, .int 0)]) (st' := []) rfl ?_
                    exact so_sub (lv' := [(0, .ref (B 0)), (4, .int (-1)), (5, .int (x5 + (-1)))]) (zpk [0, 1, 2] rfl) (ih41 S (-1) (x5 + (-1)))
                  · refine so_go C0 2 (pc' := 176) (lv' := [(0, .ref (B 0)), (4, .int x4), (5, .int x5), (6, .int v5), (7, .int v6), (8, .int 0)]) (st' := [.int v6, .ref (B 0)]) rfl ?_
                    refine so_op (As := [.int v6]) (rest := []) C0 hK hA yk_Mod_isRecordPlace (c_Mod_isRecordPlace S v6) wd_6_111 rfl rfl ⟨by rw [hf]; decide, by rw [hlo]; decide⟩ (Nat.le_of_ble_eq_true rfl) (mrc hK) (fun v24 hv24 => ?_)
                    refine so_if_ne C0 rfl (fun h25 => ?_) (fun h25 => ?_)
                    · refine so_go C0 3 (pc' := 191) (lv' := [(0, .ref (B 0)), (4, .int x4), (5, .int x5), (6, .int v5), (7, .int v6), (8, .int 0), (9, .int 0)]) (st' := [.int 0]) rfl ?_
                      refine so_if_eqT C0 rfl (by decide) ?_
                      refine so_go C0 1 (pc' := 214) (lv' := [(0, .ref (B 0)), (4, .int x4), (5, .int x5), (6, .int v5), (7, .int v6), (8, .int 0), (9, .int 0)]) (st' := [.int 0]) rfl ?_
                      refine so_if_eqT C0 rfl (by decide) ?_
                      refine so_go C0 4 (pc' := 41) (lv' := [(0, .ref (B 0)), (4, .int (-1)), (5, .int (x5 + (-1))), (6, .int v5), (7, .int v6), (8, .int 0), (9, .int 0)]) (st' := []) rfl ?_
                      exact so_sub (lv' := [(0, .ref (B 0)), (4, .int (-1)), (5, .int (x5 + (-1)))]) (zpk [0, 1, 2] rfl) (ih41 S (-1) (x5 + (-1)))
                    · refine so_go C0 4 (pc' := 191) (lv' := [(0, .ref (B 0)), (4, .int x4), (5, .int x5), (6, .int v5), (7, .int v6), (8, .int 0), (9, .int 1)]) (st' := [.int 0]) rfl ?_
                      refine so_if_eqT C0 rfl (by decide) ?_
                      refine so_go C0 1 (pc' := 214) (lv' := [(0, .ref (B 0)), (4, .int x4), (5, .int x5), (6, .int v5), (7, .int v6), (8, .int 0), (9, .int 1)]) (st' := [.int 1]) rfl ?_
                      refine so_if_eqF C0 rfl (by decide) ?_
                      refine so_go C0 1 (pc' := 218) (lv' := [(0, .ref (B 0)), (4, .int x4), (5, .int x5), (6, .int v5), (7, .int v6), (8, .int 0), (9, .int 1)]) (st' := [.ref (B 0)]) rfl ?_
                      refine so_mget C0 hK (j := 7) (v := .ref (B 6)) (by decide) wd_5_26 rfl rfl ?_
                      refine so_go C0 1 (pc' := 223) (lv' := [(0, .ref (B 0)), (4, .int x4), (5, .int x5), (6, .int v5), (7, .int v6), (8, .int 0), (9, .int 1)]) (st' := [.int x4, .ref (B 6)]) rfl ?_
                      refine so_miald C0 hK (a := 5) (by decide) rfl rfl (by decide) rfl (fun v26 hv26 => ?_)
                      refine so_go C0 4 (pc' := 41) (lv' := [(0, .ref (B 0)), (4, .int v26), (5, .int (x5 + (-1))), (6, .int v5), (7, .int v6), (8, .int 0), (9, .int 1)]) (st' := []) rfl ?_
                      exact so_sub (lv' := [(0, .ref (B 0)), (4, .int v26), (5, .int (x5 + (-1)))]) (zpk [0, 1, 2] rfl) (ih41 S v26 (x5 + (-1)))
          · refine so_go C0 1 (pc' := 81) (lv' := [(0, .ref (B 0)), (4, .int x4), (5, .int x5), (6, .int v5), (7, .int v6)]) (st' := [.ref (B 0)]) rfl ?_
            refine so_mget C0 hK (j := 29) (v := .ref (B 23)) (by decide) wd_5_48 rfl rfl ?_
            refine so_go C0 1 (pc' := 86) (lv' := [(0, .ref (B 0)), (4, .int x4), (5, .int x5), (6, .int v5), (7, .int v6)]) (st' := [.int v6, .ref (B 23)]) rfl ?_
            refine so_miald C0 hK (a := 22) (by decide) rfl rfl (by decide) rfl (fun v27 hv27 => ?_)
            refine so_go C0 1 (pc' := 88) (lv' := [(0, .ref (B 0)), (4, .int x4), (5, .int x5), (6, .int v5), (7, .int v6)]) (st' := [.ref (B 0), .int v27]) rfl ?_
            refine so_mget C0 hK (j := 5) (v := .ref (B 4)) (by decide) wd_5_24 rfl rfl ?_
            refine so_go C0 1 (pc' := 93) (lv' := [(0, .ref (B 0)), (4, .int x4), (5, .int x5), (6, .int v5), (7, .int v6)]) (st' := [.int x4, .ref (B 4), .int v27]) rfl ?_
            refine so_miald C0 hK (a := 3) (by decide) rfl rfl (by decide) rfl (fun v28 hv28 => ?_)
            refine so_icmp_ne C0 rfl (fun h29 => ?_) (fun h29 => ?_)
            · refine so_go C0 3 (pc' := 131) (lv' := [(0, .ref (B 0)), (4, .int x4), (5, .int x5), (6, .int v5), (7, .int v6), (8, .int 0)]) (st' := [.ref (B 0)]) rfl ?_
              refine so_mget C0 hK (j := 4) (v := .ref (B 3)) (by decide) wd_5_23 rfl rfl ?_
              refine so_go C0 1 (pc' := 136) (lv' := [(0, .ref (B 0)), (4, .int x4), (5, .int x5), (6, .int v5), (7, .int v6), (8, .int 0)]) (st' := [.int x4, .ref (B 3)]) rfl ?_
              refine so_mbald C0 hK (a := 2) (by decide) rfl rfl (by decide) rfl (fun v30 hv30 => ?_)
              refine so_go C0 1 (pc' := 138) (lv' := [(0, .ref (B 0)), (4, .int x4), (5, .int x5), (6, .int v5), (7, .int v6), (8, .int 0)]) (st' := [.int 2, .int v30]) rfl ?_
              refine so_icmp_eq C0 rfl (fun h31 => ?_) (fun h31 => ?_)
              · refine so_go C0 1 (pc' := 153) (lv' := [(0, .ref (B 0)), (4, .int x4), (5, .int x5), (6, .int v5), (7, .int v6), (8, .int 0)]) (st' := [.ref (B 0)]) rfl ?_
                refine so_mget C0 hK (j := 25) (v := .ref (B 19)) (by decide) wd_5_44 rfl rfl ?_
                refine so_go C0 1 (pc' := 158) (lv' := [(0, .ref (B 0)), (4, .int x4), (5, .int x5), (6, .int v5), (7, .int v6), (8, .int 0)]) (st' := [.int v5, .ref (B 19)]) rfl ?_
                refine so_miald C0 hK (a := 18) (by decide) rfl rfl (by decide) rfl (fun v32 hv32 => ?_)
                refine so_go C0 1 (pc' := 160) (lv' := [(0, .ref (B 0)), (4, .int x4), (5, .int x5), (6, .int v5), (7, .int v6), (8, .int 0)]) (st' := [.int 1, .int v32]) rfl ?_
                refine so_icmp_ne C0 rfl (fun h33 => ?_) (fun h33 => ?_)
                · refine so_go C0 3 (pc' := 191) (lv' := [(0, .ref (B 0)), (4, .int x4), (5, .int x5), (6, .int v5), (7, .int v6), (8, .int 0), (9, .int 0)]) (st' := [.int 0]) rfl ?_
                  refine so_if_eqT C0 rfl (by decide) ?_
                  refine so_go C0 1 (pc' := 214) (lv' := [(0, .ref (B 0)), (4, .int x4), (5, .int x5), (6, .int v5), (7, .int v6), (8, .int 0), (9, .int 0)]) (st' := [.int 0]) rfl ?_
                  refine so_if_eqT C0 rfl (by decide) ?_
                  refine so_go C0 4 (pc' := 41) (lv' := [(0, .ref (B 0)), (4, .int (-1)), (5, .int (x5 + (-1))), (6, .int v5), (7, .int v6), (8, .int 0), (9, .int 0)]) (st' := []) rfl ?_
                  exact so_sub (lv' := [(0, .ref (B 0)), (4, .int (-1)), (5, .int (x5 + (-1)))]) (zpk [0, 1, 2] rfl) (ih41 S (-1) (x5 + (-1)))
                · refine so_go C0 1 (pc' := 164) (lv' := [(0, .ref (B 0)), (4, .int x4), (5, .int x5), (6, .int v5), (7, .int v6), (8, .int 0)]) (st' := [.ref (B 0)]) rfl ?_
                  refine so_mget C0 hK (j := 7) (v := .ref (B 6)) (by decide) wd_5_26 rfl rfl ?_
                  refine so_go C0 1 (pc' := 169) (lv' := [(0, .ref (B 0)), (4, .int x4), (5, .int x5), (6, .int v5), (7, .int v6), (8, .int 0)]) (st' := [.int x4, .ref (B 6)]) rfl ?_
                  refine so_miald C0 hK (a := 5) (by decide) rfl rfl (by decide) rfl (fun v34 hv34 => ?_)
                  refine so_if_lt C0 rfl (fun h35 => ?_) (fun h35 => ?_)
                  · refine so_go C0 3 (pc' := 191) (lv' := [(0, .ref (B 0)), (4, .int x4), (5, .int x5), (6, .int v5), (7, .int v6), (8, .int 0), (9, .int 0)]) (st' := [.int 0]) rfl ?_
                    refine so_if_eqT C0 rfl (by decide) ?_
                    refine so_go C0 1 (pc' := 214) (lv' := [(0, .ref (B 0)), (4, .int x4), (5, .int x5), (6, .int v5), (7, .int v6), (8, .int 0), (9, .int 0)]) (st' := [.int 0]) rfl ?_
                    refine so_if_eqT C0 rfl (by decide) ?_
                    refine so_go C0 4 (pc' := 41) (lv' := [(0, .ref (B 0)), (4, .int (-1)), (5, .int (x5 + (-1))), (6, .int v5), (7, .int v6), (8, .int 0), (9, .int 0)]) (st' := []) rfl ?_
                    exact so_sub (lv' := [(0, .ref (B 0)), (4, .int (-1)), (5, .int (x5 + (-1)))]) (zpk [0, 1, 2] rfl) (ih41 S (-1) (x5 + (-1)))
                  · refine so_go C0 2 (pc' := 176) (lv' := [(0, .ref (B 0)), (4, .int x4), (5, .int x5), (6, .int v5), (7, .int v6), (8, .int 0)]) (st' := [.int v6, .ref (B 0)]) rfl ?_
                    refine so_op (As := [.int v6]) (rest := []) C0 hK hA yk_Mod_isRecordPlace (c_Mod_isRecordPlace S v6) wd_6_111 rfl rfl ⟨by rw [hf]; decide, by rw [hlo]; decide⟩ (Nat.le_of_ble_eq_true rfl) (mrc hK) (fun v36 hv36 => ?_)
                    refine so_if_ne C0 rfl (fun h37 => ?_) (fun h37 => ?_)
                    · refine so_go C0 3 (pc' := 191) (lv' := [(0, .ref (B 0)), (4, .int x4), (5, .int x5), (6, .int v5), (7, .int v6), (8, .int 0), (9, .int 0)]) (st' := [.int 0]) rfl ?_
                      refine so_if_eqT C0 rfl (by decide) ?_
                      refine so_go C0 1 (pc' := 214) (lv' := [(0, .ref (B 0)), (4, .int x4), (5, .int x5), (6, .int v5), (7, .int v6), (8, .int 0), (9, .int 0)]) (st' := [.int 0]) rfl ?_
                      refine so_if_eqT C0 rfl (by decide) ?_
                      refine so_go C0 4 (pc' := 41) (lv' := [(0, .ref (B 0)), (4, .int (-1)), (5, .int (x5 + (-1))), (6, .int v5), (7, .int v6), (8, .int 0), (9, .int 0)]) (st' := []) rfl ?_
                      exact so_sub (lv' := [(0, .ref (B 0)), (4, .int (-1)), (5, .int (x5 + (-1)))]) (zpk [0, 1, 2] rfl) (ih41 S (-1) (x5 + (-1)))
                    · refine so_go C0 4 (pc' := 191) (lv' := [(0, .ref (B 0)), (4, .int x4), (5, .int x5), (6, .int v5), (7, .int v6), (8, .int 0), (9, .int 1)]) (st' := [.int 0]) rfl ?_
                      refine so_if_eqT C0 rfl (by decide) ?_
                      refine so_go C0 1 (pc' := 214) (lv' := [(0, .ref (B 0)), (4, .int x4), (5, .int x5), (6, .int v5), (7, .int v6), (8, .int 0), (9, .int 1)]) (st' := [.int 1]) rfl ?_
                      refine so_if_eqF C0 rfl (by decide) ?_
                      refine so_go C0 1 (pc' := 218) (lv' := [(0, .ref (B 0)), (4, .int x4), (5, .int x5), (6, .int v5), (7, .int v6), (8, .int 0), (9, .int 1)]) (st' := [.ref (B 0)]) rfl ?_
                      refine so_mget C0 hK (j := 7) (v := .ref (B 6)) (by decide) wd_5_26 rfl rfl ?_
                      refine so_go C0 1 (pc' := 223) (lv' := [(0, .ref (B 0)), (4, .int x4), (5, .int x5), (6, .int v5), (7, .int v6), (8, .int 0), (9, .int 1)]) (st' := [.int x4, .ref (B 6)]) rfl ?_
                      refine so_miald C0 hK (a := 5) (by decide) rfl rfl (by decide) rfl (fun v38 hv38 => ?_)
                      refine so_go C0 4 (pc' := 41) (lv' := [(0, .ref (B 0)), (4, .int v38), (5, .int (x5 + (-1))), (6, .int v5), (7, .int v6), (8, .int 0), (9, .int 1)]) (st' := []) rfl ?_
                      exact so_sub (lv' := [(0, .ref (B 0)), (4, .int v38), (5, .int (x5 + (-1)))]) (zpk [0, 1, 2] rfl) (ih41 S v38 (x5 + (-1)))
              · refine so_go C0 1 (pc' := 142) (lv' := [(0, .ref (B 0)), (4, .int x4), (5, .int x5), (6, .int v5), (7, .int v6), (8, .int 0)]) (st' := [.ref (B 0)]) rfl ?_
                refine so_mget C0 hK (j := 4) (v := .ref (B 3)) (by decide) wd_5_23 rfl rfl ?_
                refine so_go C0 1 (pc' := 147) (lv' := [(0, .ref (B 0)), (4, .int x4), (5, .int x5), (6, .int v5), (7, .int v6), (8, .int 0)]) (st' := [.int x4, .ref (B 3)]) rfl ?_
                refine so_mbald C0 hK (a := 2) (by decide) rfl rfl (by decide) rfl (fun v39 hv39 => ?_)
                refine so_go C0 1 (pc' := 149) (lv' := [(0, .ref (B 0)), (4, .int x4), (5, .int x5), (6, .int v5), (7, .int v6), (8, .int 0)]) (st' := [.int 3, .int v39]) rfl ?_
                refine so_icmp_ne C0 rfl (fun h40 => ?_) (fun h40 => ?_)
                · refine so_go C0 3 (pc' := 191) (lv' := [(0, .ref (B 0)), (4, .int x4), (5, .int x5), (6, .int v5), (7, .int v6), (8, .int 0), (9, .int 0)]) (st' := [.int 0]) rfl ?_
                  refine so_if_eqT C0 rfl (by decide) ?_
                  refine so_go C0 1 (pc' := 214) (lv' := [(0, .ref (B 0)), (4, .int x4), (5, .int x5), (6, .int v5), (7, .int v6), (8, .int 0), (9, .int 0)]) (st' := [.int 0]) rfl ?_
                  refine so_if_eqT C0 rfl (by decide) ?_
                  refine so_go C0 4 (pc' := 41) (lv' := [(0, .ref (B 0)), (4, .int (-1)), (5, .int (x5 + (-1))), (6, .int v5), (7, .int v6), (8, .int 0), (9, .int 0)]) (st' := []) rfl ?_
                  exact so_sub (lv' := [(0, .ref (B 0)), (4, .int (-1)), (5, .int (x5 + (-1)))]) (zpk [0, 1, 2] rfl) (ih41 S (-1) (x5 + (-1)))
                · refine so_go C0 1 (pc' := 153) (lv' := [(0, .ref (B 0)), (4, .int x4), (5, .int x5), (6, .int v5), (7, .int v6), (8, .int 0)]) (st' := [.ref (B 0)]) rfl ?_
                  refine so_mget C0 hK (j := 25) (v := .ref (B 19)) (by decide) wd_5_44 rfl rfl ?_
                  refine so_go C0 1 (pc' := 158) (lv' := [(0, .ref (B 0)), (4, .int x4), (5, .int x5), (6, .int v5), (7, .int v6), (8, .int 0)]) (st' := [.int v5, .ref (B 19)]) rfl ?_
                  refine so_miald C0 hK (a := 18) (by decide) rfl rfl (by decide) rfl (fun v41 hv41 => ?_)
                  refine so_go C0 1 (pc' := 160) (lv' := [(0, .ref (B 0)), (4, .int x4), (5, .int x5), (6, .int v5), (7, .int v6), (8, .int 0)]) (st' := [.int 1, .int v41]) rfl ?_
                  refine so_icmp_ne C0 rfl (fun h42 => ?_) (fun h42 => ?_)
                  · refine so_go C0 3 (pc' := 191) (lv' := [(0, .ref (B 0)), (4, .int x4), (5, .int x5), (6, .int v5), (7, .int v6), (8, .int 0), (9, .int 0)]) (st' := [.int 0]) rfl ?_
                    refine so_if_eqT C0 rfl (by decide) ?_
                    refine so_go C0 1 (pc' := 214) (lv' := [(0, .ref (B 0)), (4, .int x4), (5, .int x5), (6, .int v5), (7, .int v6), (8, .int 0), (9, .int 0)]) (st' := [.int 0]) rfl ?_
                    refine so_if_eqT C0 rfl (by decide) ?_
                    refine so_go C0 4 (pc' := 41) (lv' := [(0, .ref (B 0)), (4, .int (-1)), (5, .int (x5 + (-1))), (6, .int v5), (7, .int v6), (8, .int 0), (9, .int 0)]) (st' := []) rfl ?_
                    exact so_sub (lv' := [(0, .ref (B 0)), (4, .int (-1)), (5, .int (x5 + (-1)))]) (zpk [0, 1, 2] rfl) (ih41 S (-1) (x5 + (-1)))
                  · refine so_go C0 1 (pc' := 164) (lv' := [(0, .ref (B 0)), (4, .int x4), (5, .int x5), (6, .int v5), (7, .int v6), (8, .int 0)]) (st' := [.ref (B 0)]) rfl ?_
                    refine so_mget C0 hK (j := 7) (v := .ref (B 6)) (by decide) wd_5_26 rfl rfl ?_
                    refine so_go C0 1 (pc' := 169) (lv' := [(0, .ref (B 0)), (4, .int x4), (5, .int x5), (6, .int v5), (7, .int v6), (8, .int 0)]) (st' := [.int x4, .ref (B 6)]) rfl ?_
                    refine so_miald C0 hK (a := 5) (by decide) rfl rfl (by decide) rfl (fun v43 hv43 => ?_)
                    refine so_if_lt C0 rfl (fun h44 => ?_) (fun h44 => ?_)
                    · refine so_go C0 3 (pc' := 191) (lv' := [(0, .ref (B 0)), (4, .int x4), (5, .int x5), (6, .int v5), (7, .int v6), (8, .int 0), (9, .int 0)]) (st' := [.int 0]) rfl ?_
                      refine so_if_eqT C0 rfl (by decide) ?_
                      refine so_go C0 1 (pc' := 214) (lv' := [(0, .ref (B 0)), (4, .int x4), (5, .int x5), (6, .int v5), (7, .int v6), (8, .int 0), (9, .int 0)]) (st' := [.int 0]) rfl ?_
                      refine so_if_eqT C0 rfl (by decide) ?_
                      refine so_go C0 4 (pc' := 41) (lv' := [(0, .ref (B 0)), (4, .int (-1)), (5, .int (x5 + (-1))), (6, .int v5), (7, .int v6), (8, .int 0), (9, .int 0)]) (st' := []) rfl ?_
                      exact so_sub (lv' := [(0, .ref (B 0)), (4, .int (-1)), (5, .int (x5 + (-1)))]) (zpk [0, 1, 2] rfl) (ih41 S (-1) (x5 + (-1)))
                    · refine so_go C0 2 (pc' := 176) (lv' := [(0, .ref (B 0)), (4, .int x4), (5, .int x5), (6, .int v5), (7, .int v6), (8, .int 0)]) (st' := [.int v6, .ref (B 0)]) rfl ?_
                      refine so_op (As := [.int v6]) (rest := []) C0 hK hA yk_Mod_isRecordPlace (c_Mod_isRecordPlace S v6) wd_6_111 rfl rfl ⟨by rw [hf]; decide, by rw [hlo]; decide⟩ (Nat.le_of_ble_eq_true rfl) (mrc hK) (fun v45 hv45 => ?_)
                      refine so_if_ne C0 rfl (fun h46 => ?_) (fun h46 => ?_)
                      · refine so_go C0 3 (pc' := 191) (lv' := [(0, .ref (B 0)), (4, .int x4), (5, .int x5), (6, .int v5), (7, .int v6), (8, .int 0), (9, .int 0)]) (st' := [.int 0]) rfl ?_
                        refine so_if_eqT C0 rfl (by decide) ?_
                        refine so_go C0 1 (pc' := 214) (lv' := [(0, .ref (B 0)), (4, .int x4), (5, .int x5), (6, .int v5), (7, .int v6), (8, .int 0), (9, .int 0)]) (st' := [.int 0]) rfl ?_
                        refine so_if_eqT C0 rfl (by decide) ?_
                        refine so_go C0 4 (pc' := 41) (lv' := [(0, .ref (B 0)), (4, .int (-1)), (5, .int (x5 + (-1))), (6, .int v5), (7, .int v6), (8, .int 0), (9, .int 0)]) (st' := []) rfl ?_
                        exact so_sub (lv' := [(0, .ref (B 0)), (4, .int (-1)), (5, .int (x5 + (-1)))]) (zpk [0, 1, 2] rfl) (ih41 S (-1) (x5 + (-1)))
                      · refine so_go C0 4 (pc' := 191) (lv' := [(0, .ref (B 0)), (4, .int x4), (5, .int x5), (6, .int v5), (7, .int v6), (8, .int 0), (9, .int 1)]) (st' := [.int 0]) rfl ?_
                        refine so_if_eqT C0 rfl (by decide) ?_
                        refine so_go C0 1 (pc' := 214) (lv' := [(0, .ref (B 0)), (4, .int x4), (5, .int x5), (6, .int v5), (7, .int v6), (8, .int 0), (9, .int 1)]) (st' := [.int 1]) rfl ?_
                        refine so_if_eqF C0 rfl (by decide) ?_
                        refine so_go C0 1 (pc' := 218) (lv' := [(0, .ref (B 0)), (4, .int x4), (5, .int x5), (6, .int v5), (7, .int v6), (8, .int 0), (9, .int 1)]) (st' := [.ref (B 0)]) rfl ?_
                        refine so_mget C0 hK (j := 7) (v := .ref (B 6)) (by decide) wd_5_26 rfl rfl ?_
                        refine so_go C0 1 (pc' := 223) (lv' := [(0, .ref (B 0)), (4, .int x4), (5, .int x5), (6, .int v5), (7, .int v6), (8, .int 0), (9, .int 1)]) (st' := [.int x4, .ref (B 6)]) rfl ?_
                        refine so_miald C0 hK (a := 5) (by decide) rfl rfl (by decide) rfl (fun v47 hv47 => ?_)
                        refine so_go C0 4 (pc' := 41) (lv' := [(0, .ref (B 0)), (4, .int v47), (5, .int (x5 + (-1))), (6, .int v5), (7, .int v6), (8, .int 0), (9, .int 1)]) (st' := []) rfl ?_
                        exact so_sub (lv' := [(0, .ref (B 0)), (4, .int v47), (5, .int (x5 + (-1)))]) (zpk [0, 1, 2] rfl) (ih41 S v47 (x5 + (-1)))
            · refine so_go C0 1 (pc' := 98) (lv' := [(0, .ref (B 0)), (4, .int x4), (5, .int x5), (6, .int v5), (7, .int v6)]) (st' := [.ref (B 0)]) rfl ?_
              refine so_mget C0 hK (j := 25) (v := .ref (B 19)) (by decide) wd_5_44 rfl rfl ?_
              refine so_go C0 1 (pc' := 103) (lv' := [(0, .ref (B 0)), (4, .int x4), (5, .int x5), (6, .int v5), (7, .int v6)]) (st' := [.int v5, .ref (B 19)]) rfl ?_
              refine so_miald C0 hK (a := 18) (by decide) rfl rfl (by decide) rfl (fun v48 hv48 => ?_)
              refine so_go C0 1 (pc' := 105) (lv' := [(0, .ref (B 0)), (4, .int x4), (5, .int x5), (6, .int v5), (7, .int v6)]) (st' := [.ref (B 0), .int v48]) rfl ?_
              refine so_mget C0 hK (j := 5) (v := .ref (B 4)) (by decide) wd_5_24 rfl rfl ?_
              refine so_go C0 1 (pc' := 110) (lv' := [(0, .ref (B 0)), (4, .int x4), (5, .int x5), (6, .int v5), (7, .int v6)]) (st' := [.int x4, .ref (B 4), .int v48]) rfl ?_
              refine so_miald C0 hK (a := 3) (by decide) rfl rfl (by decide) rfl (fun v49 hv49 => ?_)
              refine so_icmp_gt C0 rfl (fun h50 => ?_) (fun h50 => ?_)
              · refine so_go C0 3 (pc' := 131) (lv' := [(0, .ref (B 0)), (4, .int x4), (5, .int x5), (6, .int v5), (7, .int v6), (8, .int 0)]) (st' := [.ref (B 0)]) rfl ?_
                refine so_mget C0 hK (j := 4) (v := .ref (B 3)) (by decide) wd_5_23 rfl rfl ?_
                refine so_go C0 1 (pc' := 136) (lv' := [(0, .ref (B 0)), (4, .int x4), (5, .int x5), (6, .int v5), (7, .int v6), (8, .int 0)]) (st' := [.int x4, .ref (B 3)]) rfl ?_
                refine so_mbald C0 hK (a := 2) (by decide) rfl rfl (by decide) rfl (fun v51 hv51 => ?_)
                refine so_go C0 1 (pc' := 138) (lv' := [(0, .ref (B 0)), (4, .int x4), (5, .int x5), (6, .int v5), (7, .int v6), (8, .int 0)]) (st' := [.int 2, .int v51]) rfl ?_
                refine so_icmp_eq C0 rfl (fun h52 => ?_) (fun h52 => ?_)
                · refine so_go C0 1 (pc' := 153) (lv' := [(0, .ref (B 0)), (4, .int x4), (5, .int x5), (6, .int v5), (7, .int v6), (8, .int 0)]) (st' := [.ref (B 0)]) rfl ?_
                  refine so_mget C0 hK (j := 25) (v := .ref (B 19)) (by decide) wd_5_44 rfl rfl ?_
                  refine so_go C0 1 (pc' := 158) (lv' := [(0, .ref (B 0)), (4, .int x4), (5, .int x5), (6, .int v5), (7, .int v6), (8, .int 0)]) (st' := [.int v5, .ref (B 19)]) rfl ?_
                  refine so_miald C0 hK (a := 18) (by decide) rfl rfl (by decide) rfl (fun v53 hv53 => ?_)
                  refine so_go C0 1 (pc' := 160) (lv' := [(0, .ref (B 0)), (4, .int x4), (5, .int x5), (6, .int v5), (7, .int v6), (8, .int 0)]) (st' := [.int 1, .int v53]) rfl ?_
                  refine so_icmp_ne C0 rfl (fun h54 => ?_) (fun h54 => ?_)
                  · refine so_go C0 3 (pc' := 191) (lv' := [(0, .ref (B 0)), (4, .int x4), (5, .int x5), (6, .int v5), (7, .int v6), (8, .int 0), (9, .int 0)]) (st' := [.int 0]) rfl ?_
                    refine so_if_eqT C0 rfl (by decide) ?_
                    refine so_go C0 1 (pc' := 214) (lv' := [(0, .ref (B 0)), (4, .int x4), (5, .int x5), (6, .int v5), (7, .int v6), (8, .int 0), (9, .int 0)]) (st' := [.int 0]) rfl ?_
                    refine so_if_eqT C0 rfl (by decide) ?_
                    refine so_go C0 4 (pc' := 41) (lv' := [(0, .ref (B 0)), (4, .int (-1)), (5, .int (x5 + (-1))), (6, .int v5), (7, .int v6), (8, .int 0), (9, .int 0)]) (st' := []) rfl ?_
                    exact so_sub (lv' := [(0, .ref (B 0)), (4, .int (-1)), (5, .int (x5 + (-1)))]) (zpk [0, 1, 2] rfl) (ih41 S (-1) (x5 + (-1)))
                  · refine so_go C0 1 (pc' := 164) (lv' := [(0, .ref (B 0)), (4, .int x4), (5, .int x5), (6, .int v5), (7, .int v6), (8, .int 0)]) (st' := [.ref (B 0)]) rfl ?_
                    refine so_mget C0 hK (j := 7) (v := .ref (B 6)) (by decide) wd_5_26 rfl rfl ?_
                    refine so_go C0 1 (pc' := 169) (lv' := [(0, .ref (B 0)), (4, .int x4), (5, .int x5), (6, .int v5), (7, .int v6), (8, .int 0)]) (st' := [.int x4, .ref (B 6)]) rfl ?_
                    refine so_miald C0 hK (a := 5) (by decide) rfl rfl (by decide) rfl (fun v55 hv55 => ?_)
                    refine so_if_lt C0 rfl (fun h56 => ?_) (fun h56 => ?_)
                    · refine so_go C0 3 (pc' := 191) (lv' := [(0, .ref (B 0)), (4, .int x4), (5, .int x5), (6, .int v5), (7, .int v6), (8, .int 0), (9, .int 0)]) (st' := [.int 0]) rfl ?_
                      refine so_if_eqT C0 rfl (by decide) ?_
                      refine so_go C0 1 (pc' := 214) (lv' := [(0, .ref (B 0)), (4, .int x4), (5, .int x5), (6, .int v5), (7, .int v6), (8, .int 0), (9, .int 0)]) (st' := [.int 0]) rfl ?_
                      refine so_if_eqT C0 rfl (by decide) ?_
                      refine so_go C0 4 (pc' := 41) (lv' := [(0, .ref (B 0)), (4, .int (-1)), (5, .int (x5 + (-1))), (6, .int v5), (7, .int v6), (8, .int 0), (9, .int 0)]) (st' := []) rfl ?_
                      exact so_sub (lv' := [(0, .ref (B 0)), (4, .int (-1)), (5, .int (x5 + (-1)))]) (zpk [0, 1, 2] rfl) (ih41 S (-1) (x5 + (-1)))
                    · refine so_go C0 2 (pc' := 176) (lv' := [(0, .ref (B 0)), (4, .int x4), (5, .int x5), (6, .int v5), (7, .int v6), (8, .int 0)]) (st' := [.int v6, .ref (B 0)]) rfl ?_
                      refine so_op (As := [.int v6]) (rest := []) C0 hK hA yk_Mod_isRecordPlace (c_Mod_isRecordPlace S v6) wd_6_111 rfl rfl ⟨by rw [hf]; decide, by rw [hlo]; decide⟩ (Nat.le_of_ble_eq_true rfl) (mrc hK) (fun v57 hv57 => ?_)
                      refine so_if_ne C0 rfl (fun h58 => ?_) (fun h58 => ?_)
                      · refine so_go C0 3 (pc' := 191) (lv' := [(0, .ref (B 0)), (4, .int x4), (5, .int x5), (6, .int v5), (7, .int v6), (8, .int 0), (9, .int 0)]) (st' := [.int 0]) rfl ?_
                        refine so_if_eqT C0 rfl (by decide) ?_
                        refine so_go C0 1 (pc' := 214) (lv' := [(0, .ref (B 0)), (4, .int x4), (5, .int x5), (6, .int v5), (7, .int v6), (8, .int 0), (9, .int 0)]) (st' := [.int 0]) rfl ?_
                        refine so_if_eqT C0 rfl (by decide) ?_
                        refine so_go C0 4 (pc' := 41) (lv' := [(0, .ref (B 0)), (4, .int (-1)), (5, .int (x5 + (-1))), (6, .int v5), (7, .int v6), (8, .int 0), (9, .int 0)]) (st' := []) rfl ?_
                        exact so_sub (lv' := [(0, .ref (B 0)), (4, .int (-1)), (5, .int (x5 + (-1)))]) (zpk [0, 1, 2] rfl) (ih41 S (-1) (x5 + (-1)))
                      · refine so_go C0 4 (pc' := 191) (lv' := [(0, .ref (B 0)), (4, .int x4), (5, .int x5), (6, .int v5), (7, .int v6), (8, .int 0), (9, .int 1)]) (st' := [.int 0]) rfl ?_
                        refine so_if_eqT C0 rfl (by decide) ?_
                        refine so_go C0 1 (pc' := 214) (lv' := [(0, .ref (B 0)), (4, .int x4), (5, .int x5), (6, .int v5), (7, .int v6), (8, .int 0), (9, .int 1)]) (st' := [.int 1]) rfl ?_
                        refine so_if_eqF C0 rfl (by decide) ?_
                        refine so_go C0 1 (pc' := 218) (lv' := [(0, .ref (B 0)), (4, .int x4), (5, .int x5), (6, .int v5), (7, .int v6), (8, .int 0), (9, .int 1)]) (st' := [.ref (B 0)]) rfl ?_
                        refine so_mget C0 hK (j := 7) (v := .ref (B 6)) (by decide) wd_5_26 rfl rfl ?_
                        refine so_go C0 1 (pc' := 223) (lv' := [(0, .ref (B 0)), (4, .int x4), (5, .int x5), (6, .int v5), (7, .int v6), (8, .int 0), (9, .int 1)]) (st' := [.int x4, .ref (B 6)]) rfl ?_
                        refine so_miald C0 hK (a := 5) (by decide) rfl rfl (by decide) rfl (fun v59 hv59 => ?_)
                        refine so_go C0 4 (pc' := 41) (lv' := [(0, .ref (B 0)), (4, .int v59), (5, .int (x5 + (-1))), (6, .int v5), (7, .int v6), (8, .int 0), (9, .int 1)]) (st' := []) rfl ?_
                        exact so_sub (lv' := [(0, .ref (B 0)), (4, .int v59), (5, .int (x5 + (-1)))]) (zpk [0, 1, 2] rfl) (ih41 S v59 (x5 + (-1)))
                · refine so_go C0 1 (pc' := 142) (lv' := [(0, .ref (B 0)), (4, .int x4), (5, .int x5), (6, .int v5), (7, .int v6), (8, .int 0)]) (st' := [.ref (B 0)]) rfl ?_
                  refine so_mget C0 hK (j := 4) (v := .ref (B 3)) (by decide) wd_5_23 rfl rfl ?_
                  refine so_go C0 1 (pc' := 147) (lv' := [(0, .ref (B 0)), (4, .int x4), (5, .int x5), (6, .int v5), (7, .int v6), (8, .int 0)]) (st' := [.int x4, .ref (B 3)]) rfl ?_
                  refine so_mbald C0 hK (a := 2) (by decide) rfl rfl (by decide) rfl (fun v60 hv60 => ?_)
                  refine so_go C0 1 (pc' := 149) (lv' := [(0, .ref (B 0)), (4, .int x4), (5, .int x5), (6, .int v5), (7, .int v6), (8, .int 0)]) (st' := [.int 3, .int v60]) rfl ?_
                  refine so_icmp_ne C0 rfl (fun h61 => ?_) (fun h61 => ?_)
                  · refine so_go C0 3 (pc' := 191) (lv' := [(0, .ref (B 0)), (4, .int x4), (5, .int x5), (6, .int v5), (7, .int v6), (8, .int 0), (9, .int 0)]) (st' := [.int 0]) rfl ?_
                    refine so_if_eqT C0 rfl (by decide) ?_
                    refine so_go C0 1 (pc' := 214) (lv' := [(0, .ref (B 0)), (4, .int x4), (5, .int x5), (6, .int v5), (7, .int v6), (8, .int 0), (9, .int 0)]) (st' := [.int 0]) rfl ?_
                    refine so_if_eqT C0 rfl (by decide) ?_
                    refine so_go C0 4 (pc' := 41) (lv' := [(0, .ref (B 0)), (4, .int (-1)), (5, .int (x5 + (-1))), (6, .int v5), (7, .int v6), (8, .int 0), (9, .int 0)]) (st' := []) rfl ?_
                    exact so_sub (lv' := [(0, .ref (B 0)), (4, .int (-1)), (5, .int (x5 + (-1)))]) (zpk [0, 1, 2] rfl) (ih41 S (-1) (x5 + (-1)))
                  · refine so_go C0 1 (pc' := 153) (lv' := [(0, .ref (B 0)), (4, .int x4), (5, .int x5), (6, .int v5), (7, .int v6), (8, .int 0)]) (st' := [.ref (B 0)]) rfl ?_
                    refine so_mget C0 hK (j := 25) (v := .ref (B 19)) (by decide) wd_5_44 rfl rfl ?_
                    refine so_go C0 1 (pc' := 158) (lv' := [(0, .ref (B 0)), (4, .int x4), (5, .int x5), (6, .int v5), (7, .int v6), (8, .int 0)]) (st' := [.int v5, .ref (B 19)]) rfl ?_
                    refine so_miald C0 hK (a := 18) (by decide) rfl rfl (by decide) rfl (fun v62 hv62 => ?_)
                    refine so_go C0 1 (pc' := 160) (lv' := [(0, .ref (B 0)), (4, .int x4), (5, .int x5), (6, .int v5), (7, .int v6), (8, .int 0)]) (st' := [.int 1, .int v62]) rfl ?_
                    refine so_icmp_ne C0 rfl (fun h63 => ?_) (fun h63 => ?_)
                    · refine so_go C0 3 (pc' := 191) (lv' := [(0, .ref (B 0)), (4, .int x4), (5, .int x5), (6, .int v5), (7, .int v6), (8, .int 0), (9, .int 0)]) (st' := [.int 0]) rfl ?_
                      refine so_if_eqT C0 rfl (by decide) ?_
                      refine so_go C0 1 (pc' := 214) (lv' := [(0, .ref (B 0)), (4, .int x4), (5, .int x5), (6, .int v5), (7, .int v6), (8, .int 0), (9, .int 0)]) (st' := [.int 0]) rfl ?_
                      refine so_if_eqT C0 rfl (by decide) ?_
                      refine so_go C0 4 (pc' := 41) (lv' := [(0, .ref (B 0)), (4, .int (-1)), (5, .int (x5 + (-1))), (6, .int v5), (7, .int v6), (8, .int 0), (9, .int 0)]) (st' := []) rfl ?_
                      exact so_sub (lv' := [(0, .ref (B 0)), (4, .int (-1)), (5, .int (x5 + (-1)))]) (zpk [0, 1, 2] rfl) (ih41 S (-1) (x5 + (-1)))
                    · refine so_go C0 1 (pc' := 164) (lv' := [(0, .ref (B 0)), (4, .int x4), (5, .int x5), (6, .int v5), (7, .int v6), (8, .int 0)]) (st' := [.ref (B 0)]) rfl ?_
                      refine so_mget C0 hK (j := 7) (v := .ref (B 6)) (by decide) wd_5_26 rfl rfl ?_
                      refine so_go C0 1 (pc' := 169) (lv' := [(0, .ref (B 0)), (4, .int x4), (5, .int x5), (6, .int v5), (7, .int v6), (8, .int 0)]) (st' := [.int x4, .ref (B 6)]) rfl ?_
                      refine so_miald C0 hK (a := 5) (by decide) rfl rfl (by decide) rfl (fun v64 hv64 => ?_)
                      refine so_if_lt C0 rfl (fun h65 => ?_) (fun h65 => ?_)
                      · refine so_go C0 3 (pc' := 191) (lv' := [(0, .ref (B 0)), (4, .int x4), (5, .int x5), (6, .int v5), (7, .int v6), (8, .int 0), (9, .int 0)]) (st' := [.int 0]) rfl ?_
                        refine so_if_eqT C0 rfl (by decide) ?_
                        refine so_go C0 1 (pc' := 214) (lv' := [(0, .ref (B 0)), (4, .int x4), (5, .int x5), (6, .int v5), (7, .int v6), (8, .int 0), (9, .int 0)]) (st' := [.int 0]) rfl ?_
                        refine so_if_eqT C0 rfl (by decide) ?_
                        refine so_go C0 4 (pc' := 41) (lv' := [(0, .ref (B 0)), (4, .int (-1)), (5, .int (x5 + (-1))), (6, .int v5), (7, .int v6), (8, .int 0), (9, .int 0)]) (st' := []) rfl ?_
                        exact so_sub (lv' := [(0, .ref (B 0)), (4, .int (-1)), (5, .int (x5 + (-1)))]) (zpk [0, 1, 2] rfl) (ih41 S (-1) (x5 + (-1)))
                      · refine so_go C0 2 (pc' := 176) (lv' := [(0, .ref (B 0)), (4, .int x4), (5, .int x5), (6, .int v5), (7, .int v6), (8, .int 0)]) (st' := [.int v6, .ref (B 0)]) rfl ?_
                        refine so_op (As := [.int v6]) (rest := []) C0 hK hA yk_Mod_isRecordPlace (c_Mod_isRecordPlace S v6) wd_6_111 rfl rfl ⟨by rw [hf]; decide, by rw [hlo]; decide⟩ (Nat.le_of_ble_eq_true rfl) (mrc hK) (fun v66 hv66 => ?_)
                        refine so_if_ne C0 rfl (fun h67 => ?_) (fun h67 => ?_)
                        · refine so_go C0 3 (pc' := 191) (lv' := [(0, .ref (B 0)), (4, .int x4), (5, .int x5), (6, .int v5), (7, .int v6), (8, .int 0), (9, .int 0)]) (st' := [.int 0]) rfl ?_
                          refine so_if_eqT C0 rfl (by decide) ?_
                          refine so_go C0 1 (pc' := 214) (lv' := [(0, .ref (B 0)), (4, .int x4), (5, .int x5), (6, .int v5), (7, .int v6), (8, .int 0), (9, .int 0)]) (st' := [.int 0]) rfl ?_
                          refine so_if_eqT C0 rfl (by decide) ?_
                          refine so_go C0 4 (pc' := 41) (lv' := [(0, .ref (B 0)), (4, .int (-1)), (5, .int (x5 + (-1))), (6, .int v5), (7, .int v6), (8, .int 0), (9, .int 0)]) (st' := []) rfl ?_
                          exact so_sub (lv' := [(0, .ref (B 0)), (4, .int (-1)), (5, .int (x5 + (-1)))]) (zpk [0, 1, 2] rfl) (ih41 S (-1) (x5 + (-1)))
                        · refine so_go C0 4 (pc' := 191) (lv' := [(0, .ref (B 0)), (4, .int x4), (5, .int x5), (6, .int v5), (7, .int v6), (8, .int 0), (9, .int 1)]) (st' := [.int 0]) rfl ?_
                          refine so_if_eqT C0 rfl (by decide) ?_
                          refine so_go C0 1 (pc' := 214) (lv' := [(0, .ref (B 0)), (4, .int x4), (5, .int x5), (6, .int v5), (7, .int v6), (8, .int 0), (9, .int 1)]) (st' := [.int 1]) rfl ?_
                          refine so_if_eqF C0 rfl (by decide) ?_
                          refine so_go C0 1 (pc' := 218) (lv' := [(0, .ref (B 0)), (4, .int x4), (5, .int x5), (6, .int v5), (7, .int v6), (8, .int 0), (9, .int 1)]) (st' := [.ref (B 0)]) rfl ?_
                          refine so_mget C0 hK (j := 7) (v := .ref (B 6)) (by decide) wd_5_26 rfl rfl ?_
                          refine so_go C0 1 (pc' := 223) (lv' := [(0, .ref (B 0)), (4, .int x4), (5, .int x5), (6, .int v5), (7, .int v6), (8, .int 0), (9, .int 1)]) (st' := [.int x4, .ref (B 6)]) rfl ?_
                          refine so_miald C0 hK (a := 5) (by decide) rfl rfl (by decide) rfl (fun v68 hv68 => ?_)
                          refine so_go C0 4 (pc' := 41) (lv' := [(0, .ref (B 0)), (4, .int v68), (5, .int (x5 + (-1))), (6, .int v5), (7, .int v6), (8, .int 0), (9, .int 1)]) (st' := []) rfl ?_
                          exact so_sub (lv' := [(0, .ref (B 0)), (4, .int v68), (5, .int (x5 + (-1)))]) (zpk [0, 1, 2] rfl) (ih41 S v68 (x5 + (-1)))
              · refine so_go C0 2 (pc' := 117) (lv' := [(0, .ref (B 0)), (4, .int x4), (5, .int x5), (6, .int v5), (7, .int v6)]) (st' := [.int v6, .ref (B 0)]) rfl ?_
                refine so_op (As := [.int v6]) (rest := []) C0 hK hA yk_Mod_isRecordPlace (c_Mod_isRecordPlace S v6) wd_6_111 rfl rfl ⟨by rw [hf]; decide, by rw [hlo]; decide⟩ (Nat.le_of_ble_eq_true rfl) (mrc hK) (fun v69 hv69 => ?_)
                refine so_if_eq C0 rfl (fun h70 => ?_) (fun h70 => ?_)
                · refine so_go C0 3 (pc' := 131) (lv' := [(0, .ref (B 0)), (4, .int x4), (5, .int x5), (6, .int v5), (7, .int v6), (8, .int 0)]) (st' := [.ref (B 0)]) rfl ?_
                  refine so_mget C0 hK (j := 4) (v := .ref (B 3)) (by decide) wd_5_23 rfl rfl ?_
                  refine so_go C0 1 (pc' := 136) (lv' := [(0, .ref (B 0)), (4, .int x4), (5, .int x5), (6, .int v5), (7, .int v6), (8, .int 0)]) (st' := [.int x4, .ref (B 3)]) rfl ?_
                  refine so_mbald C0 hK (a := 2) (by decide) rfl rfl (by decide) rfl (fun v71 hv71 => ?_)
                  refine so_go C0 1 (pc' := 138) (lv' := [(0, .ref (B 0)), (4, .int x4), (5, .int x5), (6, .int v5), (7, .int v6), (8, .int 0)]) (st' := [.int 2, .int v71]) rfl ?_
                  refine so_icmp_eq C0 rfl (fun h72 => ?_) (fun h72 => ?_)
                  · refine so_go C0 1 (pc' := 153) (lv' := [(0, .ref (B 0)), (4, .int x4), (5, .int x5), (6, .int v5), (7, .int v6), (8, .int 0)]) (st' := [.ref (B 0)]) rfl ?_
                    refine so_mget C0 hK (j := 25) (v := .ref (B 19)) (by decide) wd_5_44 rfl rfl ?_
                    refine so_go C0 1 (pc' := 158) (lv' := [(0, .ref (B 0)), (4, .int x4), (5, .int x5), (6, .int v5), (7, .int v6), (8, .int 0)]) (st' := [.int v5, .ref (B 19)]) rfl ?_
                    refine so_miald C0 hK (a := 18) (by decide) rfl rfl (by decide) rfl (fun v73 hv73 => ?_)
                    refine so_go C0 1 (pc' := 160) (lv' := [(0, .ref (B 0)), (4, .int x4), (5, .int x5), (6, .int v5), (7, .int v6), (8, .int 0)]) (st' := [.int 1, .int v73]) rfl ?_
                    refine so_icmp_ne C0 rfl (fun h74 => ?_) (fun h74 => ?_)
                    · refine so_go C0 3 (pc' := 191) (lv' := [(0, .ref (B 0)), (4, .int x4), (5, .int x5), (6, .int v5), (7, .int v6), (8, .int 0), (9, .int 0)]) (st' := [.int 0]) rfl ?_
                      refine so_if_eqT C0 rfl (by decide) ?_
                      refine so_go C0 1 (pc' := 214) (lv' := [(0, .ref (B 0)), (4, .int x4), (5, .int x5), (6, .int v5), (7, .int v6), (8, .int 0), (9, .int 0)]) (st' := [.int 0]) rfl ?_
                      refine so_if_eqT C0 rfl (by decide) ?_
                      refine so_go C0 4 (pc' := 41) (lv' := [(0, .ref (B 0)), (4, .int (-1)), (5, .int (x5 + (-1))), (6, .int v5), (7, .int v6), (8, .int 0), (9, .int 0)]) (st' := []) rfl ?_
                      exact so_sub (lv' := [(0, .ref (B 0)), (4, .int (-1)), (5, .int (x5 + (-1)))]) (zpk [0, 1, 2] rfl) (ih41 S (-1) (x5 + (-1)))
                    · refine so_go C0 1 (pc' := 164) (lv' := [(0, .ref (B 0)), (4, .int x4), (5, .int x5), (6, .int v5), (7, .int v6), (8, .int 0)]) (st' := [.ref (B 0)]) rfl ?_
                      refine so_mget C0 hK (j := 7) (v := .ref (B 6)) (by decide) wd_5_26 rfl rfl ?_
                      refine so_go C0 1 (pc' := 169) (lv' := [(0, .ref (B 0)), (4, .int x4), (5, .int x5), (6, .int v5), (7, .int v6), (8, .int 0)]) (st' := [.int x4, .ref (B 6)]) rfl ?_
                      refine so_miald C0 hK (a := 5) (by decide) rfl rfl (by decide) rfl (fun v75 hv75 => ?_)
                      refine so_if_lt C0 rfl (fun h76 => ?_) (fun h76 => ?_)
                      · refine so_go C0 3 (pc' := 191) (lv' := [(0, .ref (B 0)), (4, .int x4), (5, .int x5), (6, .int v5), (7, .int v6), (8, .int 0), (9, .int 0)]) (st' := [.int 0]) rfl ?_
                        refine so_if_eqT C0 rfl (by decide) ?_
                        refine so_go C0 1 (pc' := 214) (lv' := [(0, .ref (B 0)), (4, .int x4), (5, .int x5), (6, .int v5), (7, .int v6), (8, .int 0), (9, .int 0)]) (st' := [.int 0]) rfl ?_
                        refine so_if_eqT C0 rfl (by decide) ?_
                        refine so_go C0 4 (pc' := 41) (lv' := [(0, .ref (B 0)), (4, .int (-1)), (5, .int (x5 + (-1))), (6, .int v5), (7, .int v6), (8, .int 0), (9, .int 0)]) (st' := []) rfl ?_
                        exact so_sub (lv' := [(0, .ref (B 0)), (4, .int (-1)), (5, .int (x5 + (-1)))]) (zpk [0, 1, 2] rfl) (ih41 S (-1) (x5 + (-1)))
                      · refine so_go C0 2 (pc' := 176) (lv' := [(0, .ref (B 0)), (4, .int x4), (5, .int x5), (6, .int v5), (7, .int v6), (8, .int 0)]) (st' := [.int v6, .ref (B 0)]) rfl ?_
                        refine so_op (As := [.int v6]) (rest := []) C0 hK hA yk_Mod_isRecordPlace (c_Mod_isRecordPlace S v6) wd_6_111 rfl rfl ⟨by rw [hf]; decide, by rw [hlo]; decide⟩ (Nat.le_of_ble_eq_true rfl) (mrc hK) (fun v77 hv77 => ?_)
                        refine so_if_ne C0 rfl (fun h78 => ?_) (fun h78 => ?_)
                        · refine so_go C0 3 (pc' := 191) (lv' := [(0, .ref (B 0)), (4, .int x4), (5, .int x5), (6, .int v5), (7, .int v6), (8, .int 0), (9, .int 0)]) (st' := [.int 0]) rfl ?_
                          refine so_if_eqT C0 rfl (by decide) ?_
                          refine so_go C0 1 (pc' := 214) (lv' := [(0, .ref (B 0)), (4, .int x4), (5, .int x5), (6, .int v5), (7, .int v6), (8, .int 0), (9, .int 0)]) (st' := [.int 0]) rfl ?_
                          refine so_if_eqT C0 rfl (by decide) ?_
                          refine so_go C0 4 (pc' := 41) (lv' := [(0, .ref (B 0)), (4, .int (-1)), (5, .int (x5 + (-1))), (6, .int v5), (7, .int v6), (8, .int 0), (9, .int 0)]) (st' := []) rfl ?_
                          exact so_sub (lv' := [(0, .ref (B 0)), (4, .int (-1)), (5, .int (x5 + (-1)))]) (zpk [0, 1, 2] rfl) (ih41 S (-1) (x5 + (-1)))
                        · refine so_go C0 4 (pc' := 191) (lv' := [(0, .ref (B 0)), (4, .int x4), (5, .int x5), (6, .int v5), (7, .int v6), (8, .int 0), (9, .int 1)]) (st' := [.int 0]) rfl ?_
                          refine so_if_eqT C0 rfl (by decide) ?_
                          refine so_go C0 1 (pc' := 214) (lv' := [(0, .ref (B 0)), (4, .int x4), (5, .int x5), (6, .int v5), (7, .int v6), (8, .int 0), (9, .int 1)]) (st' := [.int 1]) rfl ?_
                          refine so_if_eqF C0 rfl (by decide) ?_
                          refine so_go C0 1 (pc' := 218) (lv' := [(0, .ref (B 0)), (4, .int x4), (5, .int x5), (6, .int v5), (7, .int v6), (8, .int 0), (9, .int 1)]) (st' := [.ref (B 0)]) rfl ?_
                          refine so_mget C0 hK (j := 7) (v := .ref (B 6)) (by decide) wd_5_26 rfl rfl ?_
                          refine so_go C0 1 (pc' := 223) (lv' := [(0, .ref (B 0)), (4, .int x4), (5, .int x5), (6, .int v5), (7, .int v6), (8, .int 0), (9, .int 1)]) (st' := [.int x4, .ref (B 6)]) rfl ?_
                          refine so_miald C0 hK (a := 5) (by decide) rfl rfl (by decide) rfl (fun v79 hv79 => ?_)
                          refine so_go C0 4 (pc' := 41) (lv' := [(0, .ref (B 0)), (4, .int v79), (5, .int (x5 + (-1))), (6, .int v5), (7, .int v6), (8, .int 0), (9, .int 1)]) (st' := []) rfl ?_
                          exact so_sub (lv' := [(0, .ref (B 0)), (4, .int v79), (5, .int (x5 + (-1)))]) (zpk [0, 1, 2] rfl) (ih41 S v79 (x5 + (-1)))
                  · refine so_go C0 1 (pc' := 142) (lv' := [(0, .ref (B 0)), (4, .int x4), (5, .int x5), (6, .int v5), (7, .int v6), (8, .int 0)]) (st' := [.ref (B 0)]) rfl ?_
                    refine so_mget C0 hK (j := 4) (v := .ref (B 3)) (by decide) wd_5_23 rfl rfl ?_
                    refine so_go C0 1 (pc' := 147) (lv' := [(0, .ref (B 0)), (4, .int x4), (5, .int x5), (6, .int v5), (7, .int v6), (8, .int 0)]) (st' := [.int x4, .ref (B 3)]) rfl ?_
                    refine so_mbald C0 hK (a := 2) (by decide) rfl rfl (by decide) rfl (fun v80 hv80 => ?_)
                    refine so_go C0 1 (pc' := 149) (lv' := [(0, .ref (B 0)), (4, .int x4), (5, .int x5), (6, .int v5), (7, .int v6), (8, .int 0)]) (st' := [.int 3, .int v80]) rfl ?_
                    refine so_icmp_ne C0 rfl (fun h81 => ?_) (fun h81 => ?_)
                    · refine so_go C0 3 (pc' := 191) (lv' := [(0, .ref (B 0)), (4, .int x4), (5, .int x5), (6, .int v5), (7, .int v6), (8, .int 0), (9, .int 0)]) (st' := [.int 0]) rfl ?_
                      refine so_if_eqT C0 rfl (by decide) ?_
                      refine so_go C0 1 (pc' := 214) (lv' := [(0, .ref (B 0)), (4, .int x4), (5, .int x5), (6, .int v5), (7, .int v6), (8, .int 0), (9, .int 0)]) (st' := [.int 0]) rfl ?_
                      refine so_if_eqT C0 rfl (by decide) ?_
                      refine so_go C0 4 (pc' := 41) (lv' := [(0, .ref (B 0)), (4, .int (-1)), (5, .int (x5 + (-1))), (6, .int v5), (7, .int v6), (8, .int 0), (9, .int 0)]) (st' := []) rfl ?_
                      exact so_sub (lv' := [(0, .ref (B 0)), (4, .int (-1)), (5, .int (x5 + (-1)))]) (zpk [0, 1, 2] rfl) (ih41 S (-1) (x5 + (-1)))
                    · refine so_go C0 1 (pc' := 153) (lv' := [(0, .ref (B 0)), (4, .int x4), (5, .int x5), (6, .int v5), (7, .int v6), (8, .int 0)]) (st' := [.ref (B 0)]) rfl ?_
                      refine so_mget C0 hK (j := 25) (v := .ref (B 19)) (by decide) wd_5_44 rfl rfl ?_
                      refine so_go C0 1 (pc' := 158) (lv' := [(0, .ref (B 0)), (4, .int x4), (5, .int x5), (6, .int v5), (7, .int v6), (8, .int 0)]) (st' := [.int v5, .ref (B 19)]) rfl ?_
                      refine so_miald C0 hK (a := 18) (by decide) rfl rfl (by decide) rfl (fun v82 hv82 => ?_)
                      refine so_go C0 1 (pc' := 160) (lv' := [(0, .ref (B 0)), (4, .int x4), (5, .int x5), (6, .int v5), (7, .int v6), (8, .int 0)]) (st' := [.int 1, .int v82]) rfl ?_
                      refine so_icmp_ne C0 rfl (fun h83 => ?_) (fun h83 => ?_)
                      · refine so_go C0 3 (pc' := 191) (lv' := [(0, .ref (B 0)), (4, .int x4), (5, .int x5), (6, .int v5), (7, .int v6), (8, .int 0), (9, .int 0)]) (st' := [.int 0]) rfl ?_
                        refine so_if_eqT C0 rfl (by decide) ?_
                        refine so_go C0 1 (pc' := 214) (lv' := [(0, .ref (B 0)), (4, .int x4), (5, .int x5), (6, .int v5), (7, .int v6), (8, .int 0), (9, .int 0)]) (st' := [.int 0]) rfl ?_
                        refine so_if_eqT C0 rfl (by decide) ?_
                        refine so_go C0 4 (pc' := 41) (lv' := [(0, .ref (B 0)), (4, .int (-1)), (5, .int (x5 + (-1))), (6, .int v5), (7, .int v6), (8, .int 0), (9, .int 0)]) (st' := []) rfl ?_
                        exact so_sub (lv' := [(0, .ref (B 0)), (4, .int (-1)), (5, .int (x5 + (-1)))]) (zpk [0, 1, 2] rfl) (ih41 S (-1) (x5 + (-1)))
                      · refine so_go C0 1 (pc' := 164) (lv' := [(0, .ref (B 0)), (4, .int x4), (5, .int x5), (6, .int v5), (7, .int v6), (8, .int 0)]) (st' := [.ref (B 0)]) rfl ?_
                        refine so_mget C0 hK (j := 7) (v := .ref (B 6)) (by decide) wd_5_26 rfl rfl ?_
                        refine so_go C0 1 (pc' := 169) (lv' := [(0, .ref (B 0)), (4, .int x4), (5, .int x5), (6, .int v5), (7, .int v6), (8, .int 0)]) (st' := [.int x4, .ref (B 6)]) rfl ?_
                        refine so_miald C0 hK (a := 5) (by decide) rfl rfl (by decide) rfl (fun v84 hv84 => ?_)
                        refine so_if_lt C0 rfl (fun h85 => ?_) (fun h85 => ?_)
                        · refine so_go C0 3 (pc' := 191) (lv' := [(0, .ref (B 0)), (4, .int x4), (5, .int x5), (6, .int v5), (7, .int v6), (8, .int 0), (9, .int 0)]) (st' := [.int 0]) rfl ?_
                          refine so_if_eqT C0 rfl (by decide) ?_
                          refine so_go C0 1 (pc' := 214) (lv' := [(0, .ref (B 0)), (4, .int x4), (5, .int x5), (6, .int v5), (7, .int v6), (8, .int 0), (9, .int 0)]) (st' := [.int 0]) rfl ?_
                          refine so_if_eqT C0 rfl (by decide) ?_
                          refine so_go C0 4 (pc' := 41) (lv' := [(0, .ref (B 0)), (4, .int (-1)), (5, .int (x5 + (-1))), (6, .int v5), (7, .int v6), (8, .int 0), (9, .int 0)]) (st' := []) rfl ?_
                          exact so_sub (lv' := [(0, .ref (B 0)), (4, .int (-1)), (5, .int (x5 + (-1)))]) (zpk [0, 1, 2] rfl) (ih41 S (-1) (x5 + (-1)))
                        · refine so_go C0 2 (pc' := 176) (lv' := [(0, .ref (B 0)), (4, .int x4), (5, .int x5), (6, .int v5), (7, .int v6), (8, .int 0)]) (st' := [.int v6, .ref (B 0)]) rfl ?_
                          refine so_op (As := [.int v6]) (rest := []) C0 hK hA yk_Mod_isRecordPlace (c_Mod_isRecordPlace S v6) wd_6_111 rfl rfl ⟨by rw [hf]; decide, by rw [hlo]; decide⟩ (Nat.le_of_ble_eq_true rfl) (mrc hK) (fun v86 hv86 => ?_)
                          refine so_if_ne C0 rfl (fun h87 => ?_) (fun h87 => ?_)
                          · refine so_go C0 3 (pc' := 191) (lv' := [(0, .ref (B 0)), (4, .int x4), (5, .int x5), (6, .int v5), (7, .int v6), (8, .int 0), (9, .int 0)]) (st' := [.int 0]) rfl ?_
                            refine so_if_eqT C0 rfl (by decide) ?_
                            refine so_go C0 1 (pc' := 214) (lv' := [(0, .ref (B 0)), (4, .int x4), (5, .int x5), (6, .int v5), (7, .int v6), (8, .int 0), (9, .int 0)]) (st' := [.int 0]) rfl ?_
                            refine so_if_eqT C0 rfl (by decide) ?_
                            refine so_go C0 4 (pc' := 41) (lv' := [(0, .ref (B 0)), (4, .int (-1)), (5, .int (x5 + (-1))), (6, .int v5), (7, .int v6), (8, .int 0), (9, .int 0)]) (st' := []) rfl ?_
                            exact so_sub (lv' := [(0, .ref (B 0)), (4, .int (-1)), (5, .int (x5 + (-1)))]) (zpk [0, 1, 2] rfl) (ih41 S (-1) (x5 + (-1)))
                          · refine so_go C0 4 (pc' := 191) (lv' := [(0, .ref (B 0)), (4, .int x4), (5, .int x5), (6, .int v5), (7, .int v6), (8, .int 0), (9, .int 1)]) (st' := [.int 0]) rfl ?_
                            refine so_if_eqT C0 rfl (by decide) ?_
                            refine so_go C0 1 (pc' := 214) (lv' := [(0, .ref (B 0)), (4, .int x4), (5, .int x5), (6, .int v5), (7, .int v6), (8, .int 0), (9, .int 1)]) (st' := [.int 1]) rfl ?_
                            refine so_if_eqF C0 rfl (by decide) ?_
                            refine so_go C0 1 (pc' := 218) (lv' := [(0, .ref (B 0)), (4, .int x4), (5, .int x5), (6, .int v5), (7, .int v6), (8, .int 0), (9, .int 1)]) (st' := [.ref (B 0)]) rfl ?_
                            refine so_mget C0 hK (j := 7) (v := .ref (B 6)) (by decide) wd_5_26 rfl rfl ?_
                            refine so_go C0 1 (pc' := 223) (lv' := [(0, .ref (B 0)), (4, .int x4), (5, .int x5), (6, .int v5), (7, .int v6), (8, .int 0), (9, .int 1)]) (st' := [.int x4, .ref (B 6)]) rfl ?_
                            refine so_miald C0 hK (a := 5) (by decide) rfl rfl (by decide) rfl (fun v88 hv88 => ?_)
                            refine so_go C0 4 (pc' := 41) (lv' := [(0, .ref (B 0)), (4, .int v88), (5, .int (x5 + (-1))), (6, .int v5), (7, .int v6), (8, .int 0), (9, .int 1)]) (st' := []) rfl ?_
                            exact so_sub (lv' := [(0, .ref (B 0)), (4, .int v88), (5, .int (x5 + (-1)))]) (zpk [0, 1, 2] rfl) (ih41 S v88 (x5 + (-1)))
                · refine so_go C0 4 (pc' := 131) (lv' := [(0, .ref (B 0)), (4, .int x4), (5, .int x5), (6, .int v5), (7, .int v6), (8, .int 1)]) (st' := [.ref (B 0)]) rfl ?_
                  refine so_mget C0 hK (j := 4) (v := .ref (B 3)) (by decide) wd_5_23 rfl rfl ?_
                  refine so_go C0 1 (pc' := 136) (lv' := [(0, .ref (B 0)), (4, .int x4), (5, .int x5), (6, .int v5), (7, .int v6), (8, .int 1)]) (st' := [.int x4, .ref (B 3)]) rfl ?_
                  refine so_mbald C0 hK (a := 2) (by decide) rfl rfl (by decide) rfl (fun v89 hv89 => ?_)
                  refine so_go C0 1 (pc' := 138) (lv' := [(0, .ref (B 0)), (4, .int x4), (5, .int x5), (6, .int v5), (7, .int v6), (8, .int 1)]) (st' := [.int 2, .int v89]) rfl ?_
                  refine so_icmp_eq C0 rfl (fun h90 => ?_) (fun h90 => ?_)
                  · refine so_go C0 1 (pc' := 153) (lv' := [(0, .ref (B 0)), (4, .int x4), (5, .int x5), (6, .int v5), (7, .int v6), (8, .int 1)]) (st' := [.ref (B 0)]) rfl ?_
                    refine so_mget C0 hK (j := 25) (v := .ref (B 19)) (by decide) wd_5_44 rfl rfl ?_
                    refine so_go C0 1 (pc' := 158) (lv' := [(0, .ref (B 0)), (4, .int x4), (5, .int x5), (6, .int v5), (7, .int v6), (8, .int 1)]) (st' := [.int v5, .ref (B 19)]) rfl ?_
                    refine so_miald C0 hK (a := 18) (by decide) rfl rfl (by decide) rfl (fun v91 hv91 => ?_)
                    refine so_go C0 1 (pc' := 160) (lv' := [(0, .ref (B 0)), (4, .int x4), (5, .int x5), (6, .int v5), (7, .int v6), (8, .int 1)]) (st' := [.int 1, .int v91]) rfl ?_
                    refine so_icmp_ne C0 rfl (fun h92 => ?_) (fun h92 => ?_)
                    · refine so_go C0 3 (pc' := 191) (lv' := [(0, .ref (B 0)), (4, .int x4), (5, .int x5), (6, .int v5), (7, .int v6), (8, .int 1), (9, .int 0)]) (st' := [.int 1]) rfl ?_
                      refine so_if_eqF C0 rfl (by decide) ?_
                      refine so_go C0 3 (pc' := 198) (lv' := [(0, .ref (B 0)), (4, .int x4), (5, .int x5), (6, .int v5), (7, .int v6), (8, .int 1), (9, .int 0)]) (st' := [.ref (B 0), .int x4, .ref (B 0)]) rfl ?_
                      refine so_mget C0 hK (j := 25) (v := .ref (B 19)) (by decide) wd_5_44 rfl rfl ?_
                      refine so_go C0 1 (pc' := 203) (lv' := [(0, .ref (B 0)), (4, .int x4), (5, .int x5), (6, .int v5), (7, .int v6), (8, .int 1), (9, .int 0)]) (st' := [.int v5, .ref (B 19), .int x4, .ref (B 0)]) rfl ?_
                      refine so_miald C0 hK (a := 18) (by decide) rfl rfl (by decide) rfl (fun v93 hv93 => ?_)
                      refine so_go C0 2 (pc' := 206) (lv' := [(0, .ref (B 0)), (4, .int x4), (5, .int x5), (6, .int v5), (7, .int v6), (8, .int 1), (9, .int 0)]) (st' := [.int (v93 - 1), .int x4, .ref (B 0)]) rfl ?_
                      refine so_op (As := [.int x4, .int (v93 - 1)]) (rest := []) C0 hK hA yk_Mod_fieldOf (c_Mod_fieldOf S x4 (v93 - 1)) wd_5_222 rfl rfl ⟨by rw [hf]; decide, by rw [hlo]; decide⟩ (Nat.le_of_ble_eq_true rfl) (mrc hK) (fun v94 hv94 => ?_)
                      refine so_go C0 4 (pc' := 41) (lv' := [(0, .ref (B 0)), (4, .int v94), (5, .int (x5 + (-1))), (6, .int v5), (7, .int v6), (8, .int 1), (9, .int 0)]) (st' := []) rfl ?_
                      exact so_sub (lv' := [(0, .ref (B 0)), (4, .int v94), (5, .int (x5 + (-1)))]) (zpk [0, 1, 2] rfl) (ih41 S v94 (x5 + (-1)))
                    · refine so_go C0 1 (pc' := 164) (lv' := [(0, .ref (B 0)), (4, .int x4), (5, .int x5), (6, .int v5), (7, .int v6), (8, .int 1)]) (st' := [.ref (B 0)]) rfl ?_
                      refine so_mget C0 hK (j := 7) (v := .ref (B 6)) (by decide) wd_5_26 rfl rfl ?_
                      refine so_go C0 1 (pc' := 169) (lv' := [(0, .ref (B 0)), (4, .int x4), (5, .int x5), (6, .int v5), (7, .int v6), (8, .int 1)]) (st' := [.int x4, .ref (B 6)]) rfl ?_
                      refine so_miald C0 hK (a := 5) (by decide) rfl rfl (by decide) rfl (fun v95 hv95 => ?_)
                      refine so_if_lt C0 rfl (fun h96 => ?_) (fun h96 => ?_)
                      · refine so_go C0 3 (pc' := 191) (lv' := [(0, .ref (B 0)), (4, .int x4), (5, .int x5), (6, .int v5), (7, .int v6), (8, .int 1), (9, .int 0)]) (st' := [.int 1]) rfl ?_
                        refine so_if_eqF C0 rfl (by decide) ?_
                        refine so_go C0 3 (pc' := 198) (lv' := [(0, .ref (B 0)), (4, .int x4), (5, .int x5), (6, .int v5), (7, .int v6), (8, .int 1), (9, .int 0)]) (st' := [.ref (B 0), .int x4, .ref (B 0)]) rfl ?_
                        refine so_mget C0 hK (j := 25) (v := .ref (B 19)) (by decide) wd_5_44 rfl rfl ?_
                        refine so_go C0 1 (pc' := 203) (lv' := [(0, .ref (B 0)), (4, .int x4), (5, .int x5), (6, .int v5), (7, .int v6), (8, .int 1), (9, .int 0)]) (st' := [.int v5, .ref (B 19), .int x4, .ref (B 0)]) rfl ?_
                        refine so_miald C0 hK (a := 18) (by decide) rfl rfl (by decide) rfl (fun v97 hv97 => ?_)
                        refine so_go C0 2 (pc' := 206) (lv' := [(0, .ref (B 0)), (4, .int x4), (5, .int x5), (6, .int v5), (7, .int v6), (8, .int 1), (9, .int 0)]) (st' := [.int (v97 - 1), .int x4, .ref (B 0)]) rfl ?_
                        refine so_op (As := [.int x4, .int (v97 - 1)]) (rest := []) C0 hK hA yk_Mod_fieldOf (c_Mod_fieldOf S x4 (v97 - 1)) wd_5_222 rfl rfl ⟨by rw [hf]; decide, by rw [hlo]; decide⟩ (Nat.le_of_ble_eq_true rfl) (mrc hK) (fun v98 hv98 => ?_)
                        refine so_go C0 4 (pc' := 41) (lv' := [(0, .ref (B 0)), (4, .int v98), (5, .int (x5 + (-1))), (6, .int v5), (7, .int v6), (8, .int 1), (9, .int 0)]) (st' := []) rfl ?_
                        exact so_sub (lv' := [(0, .ref (B 0)), (4, .int v98), (5, .int (x5 + (-1)))]) (zpk [0, 1, 2] rfl) (ih41 S v98 (x5 + (-1)))
                      · refine so_go C0 2 (pc' := 176) (lv' := [(0, .ref (B 0)), (4, .int x4), (5, .int x5), (6, .int v5), (7, .int v6), (8, .int 1)]) (st' := [.int v6, .ref (B 0)]) rfl ?_
                        refine so_op (As := [.int v6]) (rest := []) C0 hK hA yk_Mod_isRecordPlace (c_Mod_isRecordPlace S v6) wd_6_111 rfl rfl ⟨by rw [hf]; decide, by rw [hlo]; decide⟩ (Nat.le_of_ble_eq_true rfl) (mrc hK) (fun v99 hv99 => ?_)
                        refine so_if_ne C0 rfl (fun h100 => ?_) (fun h100 => ?_)
                        · refine so_go C0 3 (pc' := 191) (lv' := [(0, .ref (B 0)), (4, .int x4), (5, .int x5), (6, .int v5), (7, .int v6), (8, .int 1), (9, .int 0)]) (st' := [.int 1]) rfl ?_
                          refine so_if_eqF C0 rfl (by decide) ?_
                          refine so_go C0 3 (pc' := 198) (lv' := [(0, .ref (B 0)), (4, .int x4), (5, .int x5), (6, .int v5), (7, .int v6), (8, .int 1), (9, .int 0)]) (st' := [.ref (B 0), .int x4, .ref (B 0)]) rfl ?_
                          refine so_mget C0 hK (j := 25) (v := .ref (B 19)) (by decide) wd_5_44 rfl rfl ?_
                          refine so_go C0 1 (pc' := 203) (lv' := [(0, .ref (B 0)), (4, .int x4), (5, .int x5), (6, .int v5), (7, .int v6), (8, .int 1), (9, .int 0)]) (st' := [.int v5, .ref (B 19), .int x4, .ref (B 0)]) rfl ?_
                          refine so_miald C0 hK (a := 18) (by decide) rfl rfl (by decide) rfl (fun v101 hv101 => ?_)
                          refine so_go C0 2 (pc' := 206) (lv' := [(0, .ref (B 0)), (4, .int x4), (5, .int x5), (6, .int v5), (7, .int v6), (8, .int 1), (9, .int 0)]) (st' := [.int (v101 - 1), .int x4, .ref (B 0)]) rfl ?_
                          refine so_op (As := [.int x4, .int (v101 - 1)]) (rest := []) C0 hK hA yk_Mod_fieldOf (c_Mod_fieldOf S x4 (v101 - 1)) wd_5_222 rfl rfl ⟨by rw [hf]; decide, by rw [hlo]; decide⟩ (Nat.le_of_ble_eq_true rfl) (mrc hK) (fun v102 hv102 => ?_)
                          refine so_go C0 4 (pc' := 41) (lv' := [(0, .ref (B 0)), (4, .int v102), (5, .int (x5 + (-1))), (6, .int v5), (7, .int v6), (8, .int 1), (9, .int 0)]) (st' := []) rfl ?_
                          exact so_sub (lv' := [(0, .ref (B 0)), (4, .int v102), (5, .int (x5 + (-1)))]) (zpk [0, 1, 2] rfl) (ih41 S v102 (x5 + (-1)))
                        · refine so_go C0 4 (pc' := 191) (lv' := [(0, .ref (B 0)), (4, .int x4), (5, .int x5), (6, .int v5), (7, .int v6), (8, .int 1), (9, .int 1)]) (st' := [.int 1]) rfl ?_
                          refine so_if_eqF C0 rfl (by decide) ?_
                          refine so_go C0 3 (pc' := 198) (lv' := [(0, .ref (B 0)), (4, .int x4), (5, .int x5), (6, .int v5), (7, .int v6), (8, .int 1), (9, .int 1)]) (st' := [.ref (B 0), .int x4, .ref (B 0)]) rfl ?_
                          refine so_mget C0 hK (j := 25) (v := .ref (B 19)) (by decide) wd_5_44 rfl rfl ?_
                          refine so_go C0 1 (pc' := 203) (lv' := [(0, .ref (B 0)), (4, .int x4), (5, .int x5), (6, .int v5), (7, .int v6), (8, .int 1), (9, .int 1)]) (st' := [.int v5, .ref (B 19), .int x4, .ref (B 0)]) rfl ?_
                          refine so_miald C0 hK (a := 18) (by decide) rfl rfl (by decide) rfl (fun v103 hv103 => ?_)
                          refine so_go C0 2 (pc' := 206) (lv' := [(0, .ref (B 0)), (4, .int x4), (5, .int x5), (6, .int v5), (7, .int v6), (8, .int 1), (9, .int 1)]) (st' := [.int (v103 - 1), .int x4, .ref (B 0)]) rfl ?_
                          refine so_op (As := [.int x4, .int (v103 - 1)]) (rest := []) C0 hK hA yk_Mod_fieldOf (c_Mod_fieldOf S x4 (v103 - 1)) wd_5_222 rfl rfl ⟨by rw [hf]; decide, by rw [hlo]; decide⟩ (Nat.le_of_ble_eq_true rfl) (mrc hK) (fun v104 hv104 => ?_)
                          refine so_go C0 4 (pc' := 41) (lv' := [(0, .ref (B 0)), (4, .int v104), (5, .int (x5 + (-1))), (6, .int v5), (7, .int v6), (8, .int 1), (9, .int 1)]) (st' := []) rfl ?_
                          exact so_sub (lv' := [(0, .ref (B 0)), (4, .int v104), (5, .int (x5 + (-1)))]) (zpk [0, 1, 2] rfl) (ih41 S v104 (x5 + (-1)))
                  · refine so_go C0 1 (pc' := 142) (lv' := [(0, .ref (B 0)), (4, .int x4), (5, .int x5), (6, .int v5), (7, .int v6), (8, .int 1)]) (st' := [.ref (B 0)]) rfl ?_
                    refine so_mget C0 hK (j := 4) (v := .ref (B 3)) (by decide) wd_5_23 rfl rfl ?_
                    refine so_go C0 1 (pc' := 147) (lv' := [(0, .ref (B 0)), (4, .int x4), (5, .int x5), (6, .int v5), (7, .int v6), (8, .int 1)]) (st' := [.int x4, .ref (B 3)]) rfl ?_
                    refine so_mbald C0 hK (a := 2) (by decide) rfl rfl (by decide) rfl (fun v105 hv105 => ?_)
                    refine so_go C0 1 (pc' := 149) (lv' := [(0, .ref (B 0)), (4, .int x4), (5, .int x5), (6, .int v5), (7, .int v6), (8, .int 1)]) (st' := [.int 3, .int v105]) rfl ?_
                    refine so_icmp_ne C0 rfl (fun h106 => ?_) (fun h106 => ?_)
                    · refine so_go C0 3 (pc' := 191) (lv' := [(0, .ref (B 0)), (4, .int x4), (5, .int x5), (6, .int v5), (7, .int v6), (8, .int 1), (9, .int 0)]) (st' := [.int 1]) rfl ?_
                      refine so_if_eqF C0 rfl (by decide) ?_
                      refine so_go C0 3 (pc' := 198) (lv' := [(0, .ref (B 0)), (4, .int x4), (5, .int x5), (6, .int v5), (7, .int v6), (8, .int 1), (9, .int 0)]) (st' := [.ref (B 0), .int x4, .ref (B 0)]) rfl ?_
                      refine so_mget C0 hK (j := 25) (v := .ref (B 19)) (by decide) wd_5_44 rfl rfl ?_
                      refine so_go C0 1 (pc' := 203) (lv' := [(0, .ref (B 0)), (4, .int x4), (5, .int x5), (6, .int v5), (7, .int v6), (8, .int 1), (9, .int 0)]) (st' := [.int v5, .ref (B 19), .int x4, .ref (B 0)]) rfl ?_
                      refine so_miald C0 hK (a := 18) (by decide) rfl rfl (by decide) rfl (fun v107 hv107 => ?_)
                      refine so_go C0 2 (pc' := 206) (lv' := [(0, .ref (B 0)), (4, .int x4), (5, .int x5), (6, .int v5), (7, .int v6), (8, .int 1), (9, .int 0)]) (st' := [.int (v107 - 1), .int x4, .ref (B 0)]) rfl ?_
                      refine so_op (As := [.int x4, .int (v107 - 1)]) (rest := []) C0 hK hA yk_Mod_fieldOf (c_Mod_fieldOf S x4 (v107 - 1)) wd_5_222 rfl rfl ⟨by rw [hf]; decide, by rw [hlo]; decide⟩ (Nat.le_of_ble_eq_true rfl) (mrc hK) (fun v108 hv108 => ?_)
                      refine so_go C0 4 (pc' := 41) (lv' := [(0, .ref (B 0)), (4, .int v108), (5, .int (x5 + (-1))), (6, .int v5), (7, .int v6), (8, .int 1), (9, .int 0)]) (st' := []) rfl ?_
                      exact so_sub (lv' := [(0, .ref (B 0)), (4, .int v108), (5, .int (x5 + (-1)))]) (zpk [0, 1, 2] rfl) (ih41 S v108 (x5 + (-1)))
                    · refine so_go C0 1 (pc' := 153) (lv' := [(0, .ref (B 0)), (4, .int x4), (5, .int x5), (6, .int v5), (7, .int v6), (8, .int 1)]) (st' := [.ref (B 0)]) rfl ?_
                      refine so_mget C0 hK (j := 25) (v := .ref (B 19)) (by decide) wd_5_44 rfl rfl ?_
                      refine so_go C0 1 (pc' := 158) (lv' := [(0, .ref (B 0)), (4, .int x4), (5, .int x5), (6, .int v5), (7, .int v6), (8, .int 1)]) (st' := [.int v5, .ref (B 19)]) rfl ?_
                      refine so_miald C0 hK (a := 18) (by decide) rfl rfl (by decide) rfl (fun v109 hv109 => ?_)
                      refine so_go C0 1 (pc' := 160) (lv' := [(0, .ref (B 0)), (4, .int x4), (5, .int x5), (6, .int v5), (7, .int v6), (8, .int 1)]) (st' := [.int 1, .int v109]) rfl ?_
                      refine so_icmp_ne C0 rfl (fun h110 => ?_) (fun h110 => ?_)
                      · refine so_go C0 3 (pc' := 191) (lv' := [(0, .ref (B 0)), (4, .int x4), (5, .int x5), (6, .int v5), (7, .int v6), (8, .int 1), (9, .int 0)]) (st' := [.int 1]) rfl ?_
                        refine so_if_eqF C0 rfl (by decide) ?_
                        refine so_go C0 3 (pc' := 198) (lv' := [(0, .ref (B 0)), (4, .int x4), (5, .int x5), (6, .int v5), (7, .int v6), (8, .int 1), (9, .int 0)]) (st' := [.ref (B 0), .int x4, .ref (B 0)]) rfl ?_
                        refine so_mget C0 hK (j := 25) (v := .ref (B 19)) (by decide) wd_5_44 rfl rfl ?_
                        refine so_go C0 1 (pc' := 203) (lv' := [(0, .ref (B 0)), (4, .int x4), (5, .int x5), (6, .int v5), (7, .int v6), (8, .int 1), (9, .int 0)]) (st' := [.int v5, .ref (B 19), .int x4, .ref (B 0)]) rfl ?_
                        refine so_miald C0 hK (a := 18) (by decide) rfl rfl (by decide) rfl (fun v111 hv111 => ?_)
                        refine so_go C0 2 (pc' := 206) (lv' := [(0, .ref (B 0)), (4, .int x4), (5, .int x5), (6, .int v5), (7, .int v6), (8, .int 1), (9, .int 0)]) (st' := [.int (v111 - 1), .int x4, .ref (B 0)]) rfl ?_
                        refine so_op (As := [.int x4, .int (v111 - 1)]) (rest := []) C0 hK hA yk_Mod_fieldOf (c_Mod_fieldOf S x4 (v111 - 1)) wd_5_222 rfl rfl ⟨by rw [hf]; decide, by rw [hlo]; decide⟩ (Nat.le_of_ble_eq_true rfl) (mrc hK) (fun v112 hv112 => ?_)
                        refine so_go C0 4 (pc' := 41) (lv' := [(0, .ref (B 0)), (4, .int v112), (5, .int (x5 + (-1))), (6, .int v5), (7, .int v6), (8, .int 1), (9, .int 0)]) (st' := []) rfl ?_
                        exact so_sub (lv' := [(0, .ref (B 0)), (4, .int v112), (5, .int (x5 + (-1)))]) (zpk [0, 1, 2] rfl) (ih41 S v112 (x5 + (-1)))
                      · refine so_go C0 1 (pc' := 164) (lv' := [(0, .ref (B 0)), (4, .int x4), (5, .int x5), (6, .int v5), (7, .int v6), (8, .int 1)]) (st' := [.ref (B 0)]) rfl ?_
                        refine so_mget C0 hK (j := 7) (v := .ref (B 6)) (by decide) wd_5_26 rfl rfl ?_
                        refine so_go C0 1 (pc' := 169) (lv' := [(0, .ref (B 0)), (4, .int x4), (5, .int x5), (6, .int v5), (7, .int v6), (8, .int 1)]) (st' := [.int x4, .ref (B 6)]) rfl ?_
                        refine so_miald C0 hK (a := 5) (by decide) rfl rfl (by decide) rfl (fun v113 hv113 => ?_)
                        refine so_if_lt C0 rfl (fun h114 => ?_) (fun h114 => ?_)
                        · refine so_go C0 3 (pc' := 191) (lv' := [(0, .ref (B 0)), (4, .int x4), (5, .int x5), (6, .int v5), (7, .int v6), (8, .int 1), (9, .int 0)]) (st' := [.int 1]) rfl ?_
                          refine so_if_eqF C0 rfl (by decide) ?_
                          refine so_go C0 3 (pc' := 198) (lv' := [(0, .ref (B 0)), (4, .int x4), (5, .int x5), (6, .int v5), (7, .int v6), (8, .int 1), (9, .int 0)]) (st' := [.ref (B 0), .int x4, .ref (B 0)]) rfl ?_
                          refine so_mget C0 hK (j := 25) (v := .ref (B 19)) (by decide) wd_5_44 rfl rfl ?_
                          refine so_go C0 1 (pc' := 203) (lv' := [(0, .ref (B 0)), (4, .int x4), (5, .int x5), (6, .int v5), (7, .int v6), (8, .int 1), (9, .int 0)]) (st' := [.int v5, .ref (B 19), .int x4, .ref (B 0)]) rfl ?_
                          refine so_miald C0 hK (a := 18) (by decide) rfl rfl (by decide) rfl (fun v115 hv115 => ?_)
                          refine so_go C0 2 (pc' := 206) (lv' := [(0, .ref (B 0)), (4, .int x4), (5, .int x5), (6, .int v5), (7, .int v6), (8, .int 1), (9, .int 0)]) (st' := [.int (v115 - 1), .int x4, .ref (B 0)]) rfl ?_
                          refine so_op (As := [.int x4, .int (v115 - 1)]) (rest := []) C0 hK hA yk_Mod_fieldOf (c_Mod_fieldOf S x4 (v115 - 1)) wd_5_222 rfl rfl ⟨by rw [hf]; decide, by rw [hlo]; decide⟩ (Nat.le_of_ble_eq_true rfl) (mrc hK) (fun v116 hv116 => ?_)
                          refine so_go C0 4 (pc' := 41) (lv' := [(0, .ref (B 0)), (4, .int v116), (5, .int (x5 + (-1))), (6, .int v5), (7, .int v6), (8, .int 1), (9, .int 0)]) (st' := []) rfl ?_
                          exact so_sub (lv' := [(0, .ref (B 0)), (4, .int v116), (5, .int (x5 + (-1)))]) (zpk [0, 1, 2] rfl) (ih41 S v116 (x5 + (-1)))
                        · refine so_go C0 2 (pc' := 176) (lv' := [(0, .ref (B 0)), (4, .int x4), (5, .int x5), (6, .int v5), (7, .int v6), (8, .int 1)]) (st' := [.int v6, .ref (B 0)]) rfl ?_
                          refine so_op (As := [.int v6]) (rest := []) C0 hK hA yk_Mod_isRecordPlace (c_Mod_isRecordPlace S v6) wd_6_111 rfl rfl ⟨by rw [hf]; decide, by rw [hlo]; decide⟩ (Nat.le_of_ble_eq_true rfl) (mrc hK) (fun v117 hv117 => ?_)
                          refine so_if_ne C0 rfl (fun h118 => ?_) (fun h118 => ?_)
                          · refine so_go C0 3 (pc' := 191) (lv' := [(0, .ref (B 0)), (4, .int x4), (5, .int x5), (6, .int v5), (7, .int v6), (8, .int 1), (9, .int 0)]) (st' := [.int 1]) rfl ?_
                            refine so_if_eqF C0 rfl (by decide) ?_
                            refine so_go C0 3 (pc' := 198) (lv' := [(0, .ref (B 0)), (4, .int x4), (5, .int x5), (6, .int v5), (7, .int v6), (8, .int 1), (9, .int 0)]) (st' := [.ref (B 0), .int x4, .ref (B 0)]) rfl ?_
                            refine so_mget C0 hK (j := 25) (v := .ref (B 19)) (by decide) wd_5_44 rfl rfl ?_
                            refine so_go C0 1 (pc' := 203) (lv' := [(0, .ref (B 0)), (4, .int x4), (5, .int x5), (6, .int v5), (7, .int v6), (8, .int 1), (9, .int 0)]) (st' := [.int v5, .ref (B 19), .int x4, .ref (B 0)]) rfl ?_
                            refine so_miald C0 hK (a := 18) (by decide) rfl rfl (by decide) rfl (fun v119 hv119 => ?_)
                            refine so_go C0 2 (pc' := 206) (lv' := [(0, .ref (B 0)), (4, .int x4), (5, .int x5), (6, .int v5), (7, .int v6), (8, .int 1), (9, .int 0)]) (st' := [.int (v119 - 1), .int x4, .ref (B 0)]) rfl ?_
                            refine so_op (As := [.int x4, .int (v119 - 1)]) (rest := []) C0 hK hA yk_Mod_fieldOf (c_Mod_fieldOf S x4 (v119 - 1)) wd_5_222 rfl rfl ⟨by rw [hf]; decide, by rw [hlo]; decide⟩ (Nat.le_of_ble_eq_true rfl) (mrc hK) (fun v120 hv120 => ?_)
                            refine so_go C0 4 (pc' := 41) (lv' := [(0, .ref (B 0)), (4, .int v120), (5, .int (x5 + (-1))), (6, .int v5), (7, .int v6), (8, .int 1), (9, .int 0)]) (st' := []) rfl ?_
                            exact so_sub (lv' := [(0, .ref (B 0)), (4, .int v120), (5, .int (x5 + (-1)))]) (zpk [0, 1, 2] rfl) (ih41 S v120 (x5 + (-1)))
                          · refine so_go C0 4 (pc' := 191) (lv' := [(0, .ref (B 0)), (4, .int x4), (5, .int x5), (6, .int v5), (7, .int v6), (8, .int 1), (9, .int 1)]) (st' := [.int 1]) rfl ?_
                            refine so_if_eqF C0 rfl (by decide) ?_
                            refine so_go C0 3 (pc' := 198) (lv' := [(0, .ref (B 0)), (4, .int x4), (5, .int x5), (6, .int v5), (7, .int v6), (8, .int 1), (9, .int 1)]) (st' := [.ref (B 0), .int x4, .ref (B 0)]) rfl ?_
                            refine so_mget C0 hK (j := 25) (v := .ref (B 19)) (by decide) wd_5_44 rfl rfl ?_
                            refine so_go C0 1 (pc' := 203) (lv' := [(0, .ref (B 0)), (4, .int x4), (5, .int x5), (6, .int v5), (7, .int v6), (8, .int 1), (9, .int 1)]) (st' := [.int v5, .ref (B 19), .int x4, .ref (B 0)]) rfl ?_
                            refine so_miald C0 hK (a := 18) (by decide) rfl rfl (by decide) rfl (fun v121 hv121 => ?_)
                            refine so_go C0 2 (pc' := 206) (lv' := [(0, .ref (B 0)), (4, .int x4), (5, .int x5), (6, .int v5), (7, .int v6), (8, .int 1), (9, .int 1)]) (st' := [.int (v121 - 1), .int x4, .ref (B 0)]) rfl ?_
                            refine so_op (As := [.int x4, .int (v121 - 1)]) (rest := []) C0 hK hA yk_Mod_fieldOf (c_Mod_fieldOf S x4 (v121 - 1)) wd_5_222 rfl rfl ⟨by rw [hf]; decide, by rw [hlo]; decide⟩ (Nat.le_of_ble_eq_true rfl) (mrc hK) (fun v122 hv122 => ?_)
                            refine so_go C0 4 (pc' := 41) (lv' := [(0, .ref (B 0)), (4, .int v122), (5, .int (x5 + (-1))), (6, .int v5), (7, .int v6), (8, .int 1), (9, .int 1)]) (st' := []) rfl ?_
                            exact so_sub (lv' := [(0, .ref (B 0)), (4, .int v122), (5, .int (x5 + (-1)))]) (zpk [0, 1, 2] rfl) (ih41 S v122 (x5 + (-1)))
  have lp5 : ∀ (n : Nat) (S : zM) (x1 : Int32) (x3 : Int32) (x4 : Int32), mSO p l e R s m args below meth c 10 A D cA B S 5 [(0, .ref (B 0)), (1, .int x1), (3, .int x3), (4, .int x4)] [] zFi (f_Mod_partAt_L5 n S x1 x3 x4) := by
    intro n
    induction n with
    | zero =>
      intro S x1 x3 x4
      rw [f_Mod_partAt_L5]
      exact so_none
    | succ n ih5 =>
      intro S x1 x3 x4
      rw [f_Mod_partAt_L5]
      refine so_go C0 1 (pc' := 7) (lv' := [(0, .ref (B 0)), (1, .int x1), (3, .int x3), (4, .int x4)]) (st' := [.int x4]) rfl ?_
      refine so_if_le C0 rfl (fun h1 => ?_) (fun h1 => ?_)
      · refine so_go C0 5 (pc' := 39) (lv' := [(0, .ref (B 0)), (1, .int x1), (3, .int x3), (4, .int x1)]) (st' := [.int (x3 - 1)]) rfl ?_
        refine so_nm (V := .int) (fun v2 hv2 => ?_)
        refine so_go C0 1 (pc' := 41) (lv' := [(0, .ref (B 0)), (1, .int x1), (3, .int x3), (4, .int x1), (5, .int v2)]) (st' := []) rfl ?_
        exact so_sub (lv' := [(0, .ref (B 0)), (4, .int x1), (5, .int v2)]) (zpk [0, 3, 4] rfl) (lp41 zbig S x1 v2)
      · refine so_go C0 1 (pc' := 11) (lv' := [(0, .ref (B 0)), (1, .int x1), (3, .int x3), (4, .int x4)]) (st' := [.ref (B 0)]) rfl ?_
        refine so_mget C0 hK (j := 43) (v := .ref (B 32)) (by decide) wd_5_62 rfl rfl ?_
        refine so_go C0 2 (pc' := 17) (lv' := [(0, .ref (B 0)), (1, .int x1), (3, .int x3), (4, .int x4)]) (st' := [.int x4, .int x3, .ref (B 32)]) rfl ?_
        refine so_miast C0 hK (a := 31) (by decide) rfl rfl (by decide) rfl (fun S123 hS123 => ?_)
        refine so_go C0 2 (pc' := 22) (lv' := [(0, .ref (B 0)), (1, .int x1), (3, .int (x3 + 1)), (4, .int x4)]) (st' := [.ref (B 0)]) rfl ?_
        refine so_mget C0 hK (j := 24) (v := .ref (B 18)) (by decide) wd_5_43 rfl rfl ?_
        refine so_go C0 1 (pc' := 27) (lv' := [(0, .ref (B 0)), (1, .int x1), (3, .int (x3 + 1)), (4, .int x4)]) (st' := [.int x4, .ref (B 18)]) rfl ?_
        refine so_miald C0 hK (a := 17) (by decide) rfl rfl (by decide) rfl (fun v124 hv124 => ?_)
        refine so_go C0 2 (pc' := 5) (lv' := [(0, .ref (B 0)), (1, .int x1), (3, .int (x3 + 1)), (4, .int v124)]) (st' := []) rfl ?_
        exact so_sub (lv' := [(0, .ref (B 0)), (1, .int x1), (3, .int (x3 + 1)), (4, .int v124)]) (zpk [0, 1, 2, 3] rfl) (ih5 S123 x1 (x3 + 1) v124)
  have K : mSO p l e R s m args below meth c 10 A D cA B S 0 (lv_args 0 [.ref (B 0), .int a1, .int a2]) [] zFi (f_Mod_partAt S a1 a2) := by
    unfold f_Mod_partAt
    refine so_go C0 4 (pc' := 5) (lv' := [(0, .ref (B 0)), (1, .int a1), (2, .int a2), (3, .int 0), (4, .int a2)]) (st' := []) rfl ?_
    exact so_sub (lv' := [(0, .ref (B 0)), (1, .int a1), (3, .int 0), (4, .int a2)]) (zpk [0, 1, 3, 4] rfl) (lp5 zbig S a1 0 a2)
  exact K r hr
def f_Mod_isOdd_L5 : Nat → zM → Int32 → Int32 → Int32 → Int32 → Option (Int32)
  | 0, _, _, _, _, _ => none
  | n + 1, S, x1, x2, x3, x4 =>
    if (S.2.2 4) ≤ x4 then
      some (z_b x3)
    else
      zob (f_Mod_isPossible S x1 x4) fun v2 =>
      if v2 = 0 then
        if ¬ x3 = 0 then
          f_Mod_isOdd_L5 n S x1 x2 1 (x4 + 1)
        else
          f_Mod_isOdd_L5 n S x1 x2 0 (x4 + 1)
      else
        m_rd 4097 (S.1 24) x1 fun v5 =>
        zob (f_Mod_asked S x4 v5) fun v6 =>
        if ¬ x3 = 0 then
          f_Mod_isOdd_L5 n S x1 x2 1 (x4 + 1)
        else
          if v6 < 0 then
            f_Mod_isOdd_L5 n S x1 x2 0 (x4 + 1)
          else
            m_rd 16384 (S.1 3) v6 fun v9 =>
            m_rd 16384 (S.1 3) x2 fun v10 =>
            if ¬ v9 = v10 then
              f_Mod_isOdd_L5 n S x1 x2 0 (x4 + 1)
            else
              m_rd 16384 (S.1 5) v6 fun v12 =>
              if 0 ≤ v12 then
                m_rd 16384 (S.1 5) x2 fun v14 =>
                if 0 ≤ v14 then
                  f_Mod_isOdd_L5 n S x1 x2 0 (x4 + 1)
                else
                  f_Mod_isOdd_L5 n S x1 x2 1 (x4 + 1)
              else
                m_rd 16384 (S.1 5) x2 fun v16 =>
                if 0 ≤ v16 then
                  f_Mod_isOdd_L5 n S x1 x2 1 (x4 + 1)
                else
                  f_Mod_isOdd_L5 n S x1 x2 0 (x4 + 1)
def f_Mod_isOdd (S : zM) (a1 : Int32) (a2 : Int32) : Option (Int32) :=
  f_Mod_isOdd_L5 zbig S a1 a2 0 0
set_option maxHeartbeats 1000000 in
set_option maxRecDepth 20000 in
theorem c_Mod_isOdd (S : zM) (a1 : Int32) (a2 : Int32) : ∀ r, f_Mod_isOdd S a1 a2 = some r → zMet l y_Mod_isOdd (zw y_Mod_isOdd prog_13_method_45_code 6 (some Jvm.ClassFile.FieldType.boolean)) 1 24 [.ref (B 0), .int a1, .int a2] D zcl (ztys cA) A (mRep D cA B A) (fun _ => 0) (fun _ => 0) S ((zFp S) r) := by
  intro r hr
  refine zMet_of ⟨Nat.le_refl _, Nat.le_refl _⟩ (by decide) tk_Mod_isOdd (Nat.le_of_ble_eq_true rfl) ?_
  intro p e R s m args below meth c hf hlo C0 hK hA
  have lp5 : ∀ (n : Nat) (x1 : Int32) (x2 : Int32) (x3 : Int32) (x4 : Int32), mSO p l e R s m args below meth c 6 A D cA B S 5 [(0, .ref (B 0)), (1, .int x1), (2, .int x2), (3, .int x3), (4, .int x4)] [] (zFp S) (f_Mod_isOdd_L5 n S x1 x2 x3 x4) := by
    intro n
    induction n with
    | zero =>
      intro x1 x2 x3 x4
      rw [f_Mod_isOdd_L5]
      exact so_none
    | succ n ih5 =>
      intro x1 x2 x3 x4
      rw [f_Mod_isOdd_L5]
      refine so_go C0 2 (pc' := 8) (lv' := [(0, .ref (B 0)), (1, .int x1), (2, .int x2), (3, .int x3), (4, .int x4)]) (st' := [.ref (B 0), .int x4]) rfl ?_
      refine so_mget C0 hK (j := 17) (v := .int (S.2.2 4)) (by decide) wd_5_36 rfl rfl ?_
      refine so_icmp_ge C0 rfl (fun h1 => ?_) (fun h1 => ?_)
      · refine so_go C0 1 (pc' := 112) (lv' := [(0, .ref (B 0)), (1, .int x1), (2, .int x2), (3, .int x3), (4, .int x4)]) (st' := [.int x3]) rfl ?_
        exact so_retb C0 rfl rfl
      · refine so_go C0 3 (pc' := 18) (lv' := [(0, .ref (B 0)), (1, .int x1), (2, .int x2), (3, .int x3), (4, .int x4)]) (st' := [.int x4, .int x1, .ref (B 0)]) rfl ?_
        refine so_op (As := [.int x1, .int x4]) (rest := []) C0 hK hA yk_Mod_isPossible (c_Mod_isPossible S x1 x4) wd_6_53 rfl rfl ⟨by rw [hf]; decide, by rw [hlo]; decide⟩ (Nat.le_of_ble_eq_true rfl) (mrc hK) (fun v2 hv2 => ?_)
        refine so_if_eq C0 rfl (fun h3 => ?_) (fun h3 => ?_)
        · refine so_go C0 3 (pc' := 43) (lv' := [(0, .ref (B 0)), (1, .int x1), (2, .int x2), (3, .int x3), (4, .int x4), (5, .int (-1))]) (st' := [.int x3]) rfl ?_
          refine so_if_ne C0 rfl (fun h4 => ?_) (fun h4 => ?_)
          · refine so_go C0 5 (pc' := 5) (lv' := [(0, .ref (B 0)), (1, .int x1), (2, .int x2), (3, .int 1), (4, .int (x4 + 1)), (5, .int (-1))]) (st' := []) rfl ?_
            exact so_sub (lv' := [(0, .ref (B 0)), (1, .int x1), (2, .int x2), (3, .int 1), (4, .int (x4 + 1))]) (zpk [0, 1, 2, 3, 4] rfl) (ih5 x1 x2 1 (x4 + 1))
          · refine so_go C0 1 (pc' := 48) (lv' := [(0, .ref (B 0)), (1, .int x1), (2, .int x2), (3, .int x3), (4, .int x4), (5, .int (-1))]) (st' := [.int (-1)]) rfl ?_
            refine so_if_ltT C0 rfl (by decide) ?_
            refine so_go C0 4 (pc' := 5) (lv' := [(0, .ref (B 0)), (1, .int x1), (2, .int x2), (3, .int 0), (4, .int (x4 + 1)), (5, .int (-1))]) (st' := []) rfl ?_
            exact so_sub (lv' := [(0, .ref (B 0)), (1, .int x1), (2, .int x2), (3, .int 0), (4, .int (x4 + 1))]) (zpk [0, 1, 2, 3, 4] rfl) (ih5 x1 x2 0 (x4 + 1))
        · refine so_go C0 3 (pc' := 28) (lv' := [(0, .ref (B 0)), (1, .int x1), (2, .int x2), (3, .int x3), (4, .int x4)]) (st' := [.ref (B 0), .int x4, .ref (B 0)]) rfl ?_
          refine so_mget C0 hK (j := 31) (v := .ref (B 25)) (by decide) wd_5_50 rfl rfl ?_
          refine so_go C0 1 (pc' := 32) (lv' := [(0, .ref (B 0)), (1, .int x1), (2, .int x2), (3, .int x3), (4, .int x4)]) (st' := [.int x1, .ref (B 25), .int x4, .ref (B 0)]) rfl ?_
          refine so_miald C0 hK (a := 24) (by decide) rfl rfl (by decide) rfl (fun v5 hv5 => ?_)
          refine so_op (As := [.int x4, .int v5]) (rest := []) C0 hK hA yk_Mod_asked (c_Mod_asked S x4 v5) wd_6_74 rfl rfl ⟨by rw [hf]; decide, by rw [hlo]; decide⟩ (Nat.le_of_ble_eq_true rfl) (mrc hK) (fun v6 hv6 => ?_)
          refine so_go C0 3 (pc' := 43) (lv' := [(0, .ref (B 0)), (1, .int x1), (2, .int x2), (3, .int x3), (4, .int x4), (5, .int v6)]) (st' := [.int x3]) rfl ?_
          refine so_if_ne C0 rfl (fun h7 => ?_) (fun h7 => ?_)
          · refine so_go C0 5 (pc' := 5) (lv' := [(0, .ref (B 0)), (1, .int x1), (2, .int x2), (3, .int 1), (4, .int (x4 + 1)), (5, .int v6)]) (st' := []) rfl ?_
            exact so_sub (lv' := [(0, .ref (B 0)), (1, .int x1), (2, .int x2), (3, .int 1), (4, .int (x4 + 1))]) (zpk [0, 1, 2, 3, 4] rfl) (ih5 x1 x2 1 (x4 + 1))
          · refine so_go C0 1 (pc' := 48) (lv' := [(0, .ref (B 0)), (1, .int x1), (2, .int x2), (3, .int x3), (4, .int x4), (5, .int v6)]) (st' := [.int v6]) rfl ?_
            refine so_if_lt C0 rfl (fun h8 => ?_) (fun h8 => ?_)
            · refine so_go C0 4 (pc' := 5) (lv' := [(0, .ref (B 0)), (1, .int x1), (2, .int x2), (3, .int 0), (4, .int (x4 + 1)), (5, .int v6)]) (st' := []) rfl ?_
              exact so_sub (lv' := [(0, .ref (B 0)), (1, .int x1), (2, .int x2), (3, .int 0), (4, .int (x4 + 1))]) (zpk [0, 1, 2, 3, 4] rfl) (ih5 x1 x2 0 (x4 + 1))
            · refine so_go C0 1 (pc' := 52) (lv' := [(0, .ref (B 0)), (1, .int x1), (2, .int x2), (3, .int x3), (4, .int x4), (5, .int v6)]) (st' := [.ref (B 0)]) rfl ?_
              refine so_mget C0 hK (j := 5) (v := .ref (B 4)) (by decide) wd_5_24 rfl rfl ?_
              refine so_go C0 1 (pc' := 57) (lv' := [(0, .ref (B 0)), (1, .int x1), (2, .int x2), (3, .int x3), (4, .int x4), (5, .int v6)]) (st' := [.int v6, .ref (B 4)]) rfl ?_
              refine so_miald C0 hK (a := 3) (by decide) rfl rfl (by decide) rfl (fun v9 hv9 => ?_)
              refine so_go C0 1 (pc' := 59) (lv' := [(0, .ref (B 0)), (1, .int x1), (2, .int x2), (3, .int x3), (4, .int x4), (5, .int v6)]) (st' := [.ref (B 0), .int v9]) rfl ?_
              refine so_mget C0 hK (j := 5) (v := .ref (B 4)) (by decide) wd_5_24 rfl rfl ?_
              refine so_go C0 1 (pc' := 63) (lv' := [(0, .ref (B 0)), (1, .int x1), (2, .int x2), (3, .int x3), (4, .int x4), (5, .int v6)]) (st' := [.int x2, .ref (B 4), .int v9]) rfl ?_
              refine so_miald C0 hK (a := 3) (by decide) rfl rfl (by decide) rfl (fun v10 hv10 => ?_)
              refine so_icmp_ne C0 rfl (fun h11 => ?_) (fun h11 => ?_)
              · refine so_go C0 4 (pc' := 5) (lv' := [(0, .ref (B 0)), (1, .int x1), (2, .int x2), (3, .int 0), (4, .int (x4 + 1)), (5, .int v6)]) (st' := []) rfl ?_
                exact so_sub (lv' := [(0, .ref (B 0)), (1, .int x1), (2, .int x2), (3, .int 0), (4, .int (x4 + 1))]) (zpk [0, 1, 2, 3, 4] rfl) (ih5 x1 x2 0 (x4 + 1))
              · refine so_go C0 1 (pc' := 68) (lv' := [(0, .ref (B 0)), (1, .int x1), (2, .int x2), (3, .int x3), (4, .int x4), (5, .int v6)]) (st' := [.ref (B 0)]) rfl ?_
                refine so_mget C0 hK (j := 7) (v := .ref (B 6)) (by decide) wd_5_26 rfl rfl ?_
                refine so_go C0 1 (pc' := 73) (lv' := [(0, .ref (B 0)), (1, .int x1), (2, .int x2), (3, .int x3), (4, .int x4), (5, .int v6)]) (st' := [.int v6, .ref (B 6)]) rfl ?_
                refine so_miald C0 hK (a := 5) (by decide) rfl rfl (by decide) rfl (fun v12 hv12 => ?_)
                refine so_if_ge C0 rfl (fun h13 => ?_) (fun h13 => ?_)
                · refine so_go C0 2 (pc' := 83) (lv' := [(0, .ref (B 0)), (1, .int x1), (2, .int x2), (3, .int x3), (4, .int x4), (5, .int v6)]) (st' := [.ref (B 0), .int 0]) rfl ?_
                  refine so_mget C0 hK (j := 7) (v := .ref (B 6)) (by decide) wd_5_26 rfl rfl ?_
                  refine so_go C0 1 (pc' := 87) (lv' := [(0, .ref (B 0)), (1, .int x1), (2, .int x2), (3, .int x3), (4, .int x4), (5, .int v6)]) (st' := [.int x2, .ref (B 6), .int 0]) rfl ?_
                  refine so_miald C0 hK (a := 5) (by decide) rfl rfl (by decide) rfl (fun v14 hv14 => ?_)
                  refine so_if_ge C0 rfl (fun h15 => ?_) (fun h15 => ?_)
                  · refine so_go C0 1 (pc' := 96) (lv' := [(0, .ref (B 0)), (1, .int x1), (2, .int x2), (3, .int x3), (4, .int x4), (5, .int v6)]) (st' := [.int 0, .int 0]) rfl ?_
                    refine so_icmp_eqT C0 rfl (by decide) ?_
                    refine so_go C0 4 (pc' := 5) (lv' := [(0, .ref (B 0)), (1, .int x1), (2, .int x2), (3, .int 0), (4, .int (x4 + 1)), (5, .int v6)]) (st' := []) rfl ?_
                    exact so_sub (lv' := [(0, .ref (B 0)), (1, .int x1), (2, .int x2), (3, .int 0), (4, .int (x4 + 1))]) (zpk [0, 1, 2, 3, 4] rfl) (ih5 x1 x2 0 (x4 + 1))
                  · refine so_go C0 2 (pc' := 96) (lv' := [(0, .ref (B 0)), (1, .int x1), (2, .int x2), (3, .int x3), (4, .int x4), (5, .int v6)]) (st' := [.int 1, .int 0]) rfl ?_
                    refine so_icmp_eqF C0 rfl (by decide) ?_
                    refine so_go C0 5 (pc' := 5) (lv' := [(0, .ref (B 0)), (1, .int x1), (2, .int x2), (3, .int 1), (4, .int (x4 + 1)), (5, .int v6)]) (st' := []) rfl ?_
                    exact so_sub (lv' := [(0, .ref (B 0)), (1, .int x1), (2, .int x2), (3, .int 1), (4, .int (x4 + 1))]) (zpk [0, 1, 2, 3, 4] rfl) (ih5 x1 x2 1 (x4 + 1))
                · refine so_go C0 3 (pc' := 83) (lv' := [(0, .ref (B 0)), (1, .int x1), (2, .int x2), (3, .int x3), (4, .int x4), (5, .int v6)]) (st' := [.ref (B 0), .int 1]) rfl ?_
                  refine so_mget C0 hK (j := 7) (v := .ref (B 6)) (by decide) wd_5_26 rfl rfl ?_
                  refine so_go C0 1 (pc' := 87) (lv' := [(0, .ref (B 0)), (1, .int x1), (2, .int x2), (3, .int x3), (4, .int x4), (5, .int v6)]) (st' := [.int x2, .ref (B 6), .int 1]) rfl ?_
                  refine so_miald C0 hK (a := 5) (by decide) rfl rfl (by decide) rfl (fun v16 hv16 => ?_)
                  refine so_if_ge C0 rfl (fun h17 => ?_) (fun h17 => ?_)
                  · refine so_go C0 1 (pc' := 96) (lv' := [(0, .ref (B 0)), (1, .int x1), (2, .int x2), (3, .int x3), (4, .int x4), (5, .int v6)]) (st' := [.int 0, .int 1]) rfl ?_
                    refine so_icmp_eqF C0 rfl (by decide) ?_
                    refine so_go C0 5 (pc' := 5) (lv' := [(0, .ref (B 0)), (1, .int x1), (2, .int x2), (3, .int 1), (4, .int (x4 + 1)), (5, .int v6)]) (st' := []) rfl ?_
                    exact so_sub (lv' := [(0, .ref (B 0)), (1, .int x1), (2, .int x2), (3, .int 1), (4, .int (x4 + 1))]) (zpk [0, 1, 2, 3, 4] rfl) (ih5 x1 x2 1 (x4 + 1))
                  · refine so_go C0 2 (pc' := 96) (lv' := [(0, .ref (B 0)), (1, .int x1), (2, .int x2), (3, .int x3), (4, .int x4), (5, .int v6)]) (st' := [.int 1, .int 1]) rfl ?_
                    refine so_icmp_eqT C0 rfl (by decide) ?_
                    refine so_go C0 4 (pc' := 5) (lv' := [(0, .ref (B 0)), (1, .int x1), (2, .int x2), (3, .int 0), (4, .int (x4 + 1)), (5, .int v6)]) (st' := []) rfl ?_
                    exact so_sub (lv' := [(0, .ref (B 0)), (1, .int x1), (2, .int x2), (3, .int 0), (4, .int (x4 + 1))]) (zpk [0, 1, 2, 3, 4] rfl) (ih5 x1 x2 0 (x4 + 1))
  have K : mSO p l e R s m args below meth c 6 A D cA B S 0 (lv_args 0 [.ref (B 0), .int a1, .int a2]) [] (zFp S) (f_Mod_isOdd S a1 a2) := by
    unfold f_Mod_isOdd
    refine so_go C0 4 (pc' := 5) (lv' := [(0, .ref (B 0)), (1, .int a1), (2, .int a2), (3, .int 0), (4, .int 0)]) (st' := []) rfl ?_
    exact so_sub (lv' := [(0, .ref (B 0)), (1, .int a1), (2, .int a2), (3, .int 0), (4, .int 0)]) (zpk [0, 1, 2, 3, 4] rfl) (lp5 zbig a1 a2 0 0)
  exact K r hr
def f_Mod_tell_L29 : Nat → zM → Int32 → Int32 → Int32 → Option (zM × Int32)
  | 0, _, _, _, _ => none
  | n + 1, S, x1, x2, x3 =>
    if x3 < 0 then
      some (S, x2)
    else
      m_wr 4097 (S.2.2 12) (m_set S 24 (Int32.toNatClampNeg (S.2.2 12)) x3) fun S7 =>
      m_wr 16386 x3 (m_set S7 27 (Int32.toNatClampNeg x3) (vp_nar .boolean 1)) fun S8 =>
      zob2 (f_Mod_partAt S8 x1 x3) fun S9 v10 =>
      zob (f_Mod_example S9 (S9.2.2 12)) fun v11 =>
      if v10 < 0 then
        some (S9, (-3))
      else
        zob (f_Mod_areOneSort S9 v10 v11) fun v13 =>
        if v13 = 0 then
          some (S9, (-3))
        else
          m_rd 16384 (S9.1 2) v10 fun v15 =>
          if ¬ v15 = 3 then
            zob (f_Mod_numberOf S9 v10) fun v17 =>
            zob (f_Mod_narrow S9 (S9.2.2 12) v17 0) fun S18 =>
            zbind (m_sc S18 12 ((S18.2.2 12) + 1)) fun S19 =>
            zob (f_Mod_firstPossible S19 (S19.2.2 12)) fun v20 =>
            if 0 ≤ v20 then
              zob (f_Mod_nextPlace S19 v20) fun v22 =>
              f_Mod_tell_L29 n S19 x1 v20 v22
            else
              f_Mod_tell_L29 n S19 x1 v20 (-1)
          else
            zob (f_Mod_isOdd S9 (S9.2.2 12) v10) fun v23 =>
            if v23 = 0 then
              zob (f_Mod_numberOf S9 v10) fun v25 =>
              zob (f_Mod_narrow S9 (S9.2.2 12) v25 0) fun S26 =>
              zbind (m_sc S26 12 ((S26.2.2 12) + 1)) fun S27 =>
              zob (f_Mod_firstPossible S27 (S27.2.2 12)) fun v28 =>
              if 0 ≤ v28 then
                zob (f_Mod_nextPlace S27 v28) fun v30 =>
                f_Mod_tell_L29 n S27 x1 v28 v30
              else
                f_Mod_tell_L29 n S27 x1 v28 (-1)
            else
              some (S9, (-3))
def f_Mod_tell (S : zM) (a1 : Int32) : Option (zM × Int32) :=
  zob (f_Mod_start S) fun S1 =>
  zbind (m_sc S1 12 0) fun S2 =>
  zob (f_Mod_firstPossible S2 0) fun v3 =>
  if 0 ≤ v3 then
    zob (f_Mod_nextPlace S2 v3) fun v5 =>
    f_Mod_tell_L29 zbig S2 a1 v3 v5
  else
    f_Mod_tell_L29 zbig S2 a1 v3 (-1)
set_option maxHeartbeats 1000000 in
set_option maxRecDepth 20000 in
theorem c_Mod_tell (S : zM) (a1 : Int32) : ∀ r, f_Mod_tell S a1 = some r → zMet l y_Mod_tell (zw y_Mod_tell prog_13_method_46_code 6 (some Jvm.ClassFile.FieldType.int)) 2 54 [.ref (B 0), .int a1] D zcl (ztys cA) A (mRep D cA B A) (fun _ => 0) (fun _ => 0) S (zFi r) := by
  intro r hr
  refine zMet_of ⟨Nat.le_refl _, Nat.le_refl _⟩ (by decide) tk_Mod_tell (Nat.le_of_ble_eq_true rfl) ?_
  intro p e R s m args below meth c hf hlo C0 hK hA
  have lp29 : ∀ (n : Nat) (S : zM) (x1 : Int32) (x2 : Int32) (x3 : Int32), mSO p l e R s m args below meth c 6 A D cA B S 29 [(0, .ref (B 0)), (1, .int x1), (2, .int x2), (3, .int x3)] [] zFi (f_Mod_tell_L29 n S x1 x2 x3) := by
    intro n
    induction n with
    | zero =>
      intro S x1 x2 x3
      rw [f_Mod_tell_L29]
      exact so_none
    | succ n ih29 =>
      intro S x1 x2 x3
      rw [f_Mod_tell_L29]
      refine so_go C0 1 (pc' := 30) (lv' := [(0, .ref (B 0)), (1, .int x1), (2, .int x2), (3, .int x3)]) (st' := [.int x3]) rfl ?_
      refine so_if_lt C0 rfl (fun h6 => ?_) (fun h6 => ?_)
      · refine so_go C0 1 (pc' := 163) (lv' := [(0, .ref (B 0)), (1, .int x1), (2, .int x2), (3, .int x3)]) (st' := [.int x2]) rfl ?_
        exact so_reti C0 rfl rfl
      · refine so_go C0 1 (pc' := 34) (lv' := [(0, .ref (B 0)), (1, .int x1), (2, .int x2), (3, .int x3)]) (st' := [.ref (B 0)]) rfl ?_
        refine so_mget C0 hK (j := 31) (v := .ref (B 25)) (by decide) wd_5_50 rfl rfl ?_
        refine so_go C0 1 (pc' := 38) (lv' := [(0, .ref (B 0)), (1, .int x1), (2, .int x2), (3, .int x3)]) (st' := [.ref (B 0), .ref (B 25)]) rfl ?_
        refine so_mget C0 hK (j := 45) (v := .int (S.2.2 12)) (by decide) wd_5_64 rfl rfl ?_
        refine so_go C0 1 (pc' := 42) (lv' := [(0, .ref (B 0)), (1, .int x1), (2, .int x2), (3, .int x3)]) (st' := [.int x3, .int (S.2.2 12), .ref (B 25)]) rfl ?_
        refine so_miast C0 hK (a := 24) (by decide) rfl rfl (by decide) rfl (fun S7 hS7 => ?_)
        refine so_go C0 1 (pc' := 44) (lv' := [(0, .ref (B 0)), (1, .int x1), (2, .int x2), (3, .int x3)]) (st' := [.ref (B 0)]) rfl ?_
        refine so_mget C0 hK (j := 34) (v := .ref (B 28)) (by decide) wd_5_53 rfl rfl ?_
        refine so_go C0 2 (pc' := 49) (lv' := [(0, .ref (B 0)), (1, .int x1), (2, .int x2), (3, .int x3)]) (st' := [.int 1, .int x3, .ref (B 28)]) rfl ?_
        refine so_mzast C0 hK (a := 27) (by decide) rfl rfl (by decide) rfl (fun S8 hS8 => ?_)
        refine so_go C0 3 (pc' := 53) (lv' := [(0, .ref (B 0)), (1, .int x1), (2, .int x2), (3, .int x3)]) (st' := [.int x3, .int x1, .ref (B 0)]) rfl ?_
        refine so_oi (As := [.int x1, .int x3]) (rest := []) C0 hK hA yk_Mod_partAt (c_Mod_partAt S8 x1 x3) wd_6_107 rfl rfl ⟨by rw [hf]; decide, by rw [hlo]; decide⟩ (Nat.le_of_ble_eq_true rfl) (mrc hK) (fun S9 v10 hv10 => ?_)
        refine so_go C0 3 (pc' := 60) (lv' := [(0, .ref (B 0)), (1, .int x1), (2, .int x2), (3, .int x3), (4, .int v10)]) (st' := [.ref (B 0), .ref (B 0)]) rfl ?_
        refine so_mget C0 hK (j := 45) (v := .int (S9.2.2 12)) (by decide) wd_5_64 rfl rfl ?_
        refine so_op (As := [.int (S9.2.2 12)]) (rest := []) C0 hK hA yk_Mod_example (c_Mod_example S9 (S9.2.2 12)) wd_6_87 rfl rfl ⟨by rw [hf]; decide, by rw [hlo]; decide⟩ (Nat.le_of_ble_eq_true rfl) (mrc hK) (fun v11 hv11 => ?_)
        refine so_go C0 2 (pc' := 70) (lv' := [(0, .ref (B 0)), (1, .int x1), (2, .int x2), (3, .int x3), (4, .int v10), (5, .int v11)]) (st' := [.int v10]) rfl ?_
        refine so_if_lt C0 rfl (fun h12 => ?_) (fun h12 => ?_)
        · refine so_go C0 1 (pc' := 110) (lv' := [(0, .ref (B 0)), (1, .int x1), (2, .int x2), (3, .int x3), (4, .int v10), (5, .int v11)]) (st' := [.int (-3)]) rfl ?_
          exact so_reti C0 rfl rfl
        · refine so_go C0 3 (pc' := 78) (lv' := [(0, .ref (B 0)), (1, .int x1), (2, .int x2), (3, .int x3), (4, .int v10), (5, .int v11)]) (st' := [.int v11, .int v10, .ref (B 0)]) rfl ?_
          refine so_op (As := [.int v10, .int v11]) (rest := []) C0 hK hA yk_Mod_areOneSort (c_Mod_areOneSort S9 v10 v11) wd_5_214 rfl rfl ⟨by rw [hf]; decide, by rw [hlo]; decide⟩ (Nat.le_of_ble_eq_true rfl) (mrc hK) (fun v13 hv13 => ?_)
          refine so_if_eq C0 rfl (fun h14 => ?_) (fun h14 => ?_)
          · refine so_go C0 1 (pc' := 110) (lv' := [(0, .ref (B 0)), (1, .int x1), (2, .int x2), (3, .int x3), (4, .int v10), (5, .int v11)]) (st' := [.int (-3)]) rfl ?_
            exact so_reti C0 rfl rfl
          · refine so_go C0 1 (pc' := 85) (lv' := [(0, .ref (B 0)), (1, .int x1), (2, .int x2), (3, .int x3), (4, .int v10), (5, .int v11)]) (st' := [.ref (B 0)]) rfl ?_
            refine so_mget C0 hK (j := 4) (v := .ref (B 3)) (by decide) wd_5_23 rfl rfl ?_
            refine so_go C0 1 (pc' := 90) (lv' := [(0, .ref (B 0)), (1, .int x1), (2, .int x2), (3, .int x3), (4, .int v10), (5, .int v11)]) (st' := [.int v10, .ref (B 3)]) rfl ?_
            refine so_mbald C0 hK (a := 2) (by decide) rfl rfl (by decide) rfl (fun v15 hv15 => ?_)
            refine so_go C0 1 (pc' := 92) (lv' := [(0, .ref (B 0)), (1, .int x1), (2, .int x2), (3, .int x3), (4, .int v10), (5, .int v11)]) (st' := [.int 3, .int v15]) rfl ?_
            refine so_icmp_ne C0 rfl (fun h16 => ?_) (fun h16 => ?_)
            · refine so_go C0 2 (pc' := 113) (lv' := [(0, .ref (B 0)), (1, .int x1), (2, .int x2), (3, .int x3), (4, .int v10), (5, .int v11)]) (st' := [.ref (B 0), .ref (B 0)]) rfl ?_
              refine so_mget C0 hK (j := 45) (v := .int (S9.2.2 12)) (by decide) wd_5_64 rfl rfl ?_
              refine so_go C0 2 (pc' := 119) (lv' := [(0, .ref (B 0)), (1, .int x1), (2, .int x2), (3, .int x3), (4, .int v10), (5, .int v11)]) (st' := [.int v10, .ref (B 0), .int (S9.2.2 12), .ref (B 0)]) rfl ?_
              refine so_opl (As := [.int v10]) (rest := [.int (S9.2.2 12), .ref (B 0)]) C0 hK hA yk_Mod_numberOf (c_Mod_numberOf S9 v10) wd_6_14 rfl rfl ⟨by rw [hf]; decide, by rw [hlo]; decide⟩ (Nat.le_of_ble_eq_true rfl) (mrc hK) (fun v17 hv17 => ?_)
              refine so_go C0 1 (pc' := 123) (lv' := [(0, .ref (B 0)), (1, .int x1), (2, .int x2), (3, .int x3), (4, .int v10), (5, .int v11)]) (st' := [.int 0, .long v17, .int (S9.2.2 12), .ref (B 0)]) rfl ?_
              refine so_oV (As := [.int (S9.2.2 12), .long v17, .int 0]) (rest := []) C0 hK hA yk_Mod_narrow (c_Mod_narrow S9 (S9.2.2 12) v17 0) wd_6_95 rfl rfl ⟨by rw [hf]; decide, by rw [hlo]; decide⟩ (Nat.le_of_ble_eq_true rfl) (mrc hK) (fun S18 hS18 => ?_)
              refine so_go C0 2 (pc' := 128) (lv' := [(0, .ref (B 0)), (1, .int x1), (2, .int x2), (3, .int x3), (4, .int v10), (5, .int v11)]) (st' := [.ref (B 0), .ref (B 0)]) rfl ?_
              refine so_mget C0 hK (j := 45) (v := .int (S18.2.2 12)) (by decide) wd_5_64 rfl rfl ?_
              refine so_go C0 2 (pc' := 133) (lv' := [(0, .ref (B 0)), (1, .int x1), (2, .int x2), (3, .int x3), (4, .int v10), (5, .int v11)]) (st' := [.int ((S18.2.2 12) + 1), .ref (B 0)]) rfl ?_
              refine so_mput C0 hK (j := 45) (q := 12) (ty := .int) (by decide) (Nat.le_of_ble_eq_true rfl) rfl (by decide +kernel) rfl rfl wd_5_64 rfl rfl ?_
              refine so_st (fun S19 hS19 => ?_)
              refine so_go C0 2 (pc' := 138) (lv' := [(0, .ref (B 0)), (1, .int x1), (2, .int x2), (3, .int x3), (4, .int v10), (5, .int v11)]) (st' := [.ref (B 0), .ref (B 0)]) rfl ?_
              refine so_mget C0 hK (j := 45) (v := .int (S19.2.2 12)) (by decide) wd_5_64 rfl rfl ?_
              refine so_op (As := [.int (S19.2.2 12)]) (rest := []) C0 hK hA yk_Mod_firstPossible (c_Mod_firstPossible S19 (S19.2.2 12)) wd_6_49 rfl rfl ⟨by rw [hf]; decide, by rw [hlo]; decide⟩ (Nat.le_of_ble_eq_true rfl) (mrc hK) (fun v20 hv20 => ?_)
              refine so_go C0 2 (pc' := 146) (lv' := [(0, .ref (B 0)), (1, .int x1), (2, .int v20), (3, .int x3), (4, .int v10), (5, .int v11)]) (st' := [.int v20]) rfl ?_
              refine so_if_ge C0 rfl (fun h21 => ?_) (fun h21 => ?_)
              · refine so_go C0 2 (pc' := 155) (lv' := [(0, .ref (B 0)), (1, .int x1), (2, .int v20), (3, .int x3), (4, .int v10), (5, .int v11)]) (st' := [.int v20, .ref (B 0)]) rfl ?_
                refine so_op (As := [.int v20]) (rest := []) C0 hK hA yk_Mod_nextPlace (c_Mod_nextPlace S19 v20) wd_6_57 rfl rfl ⟨by rw [hf]; decide, by rw [hlo]; decide⟩ (Nat.le_of_ble_eq_true rfl) (mrc hK) (fun v22 hv22 => ?_)
                refine so_go C0 2 (pc' := 29) (lv' := [(0, .ref (B 0)), (1, .int x1), (2, .int v20), (3, .int v22), (4, .int v10), (5, .int v11)]) (st' := []) rfl ?_
                exact so_sub (lv' := [(0, .ref (B 0)), (1, .int x1), (2, .int v20), (3, .int v22)]) (zpk [0, 1, 2, 3] rfl) (ih29 S19 x1 v20 v22)
              · refine so_go C0 4 (pc' := 29) (lv' := [(0, .ref (B 0)), (1, .int x1), (2, .int v20), (3, .int (-1)), (4, .int v10), (5, .int v11)]) (st' := []) rfl ?_
                exact so_sub (lv' := [(0, .ref (B 0)), (1, .int x1), (2, .int v20), (3, .int (-1))]) (zpk [0, 1, 2, 3] rfl) (ih29 S19 x1 v20 (-1))
            · refine so_go C0 2 (pc' := 97) (lv' := [(0, .ref (B 0)), (1, .int x1), (2, .int x2), (3, .int x3), (4, .int v10), (5, .int v11)]) (st' := [.ref (B 0), .ref (B 0)]) rfl ?_
              refine so_mget C0 hK (j := 45) (v := .int (S9.2.2 12)) (by decide) wd_5_64 rfl rfl ?_
              refine so_go C0 1 (pc' := 102) (lv' := [(0, .ref (B 0)), (1, .int x1), (2, .int x2), (3, .int x3), (4, .int v10), (5, .int v11)]) (st' := [.int v10, .int (S9.2.2 12), .ref (B 0)]) rfl ?_
              refine so_op (As := [.int (S9.2.2 12), .int v10]) (rest := []) C0 hK hA yk_Mod_isOdd (c_Mod_isOdd S9 (S9.2.2 12) v10) wd_6_115 rfl rfl ⟨by rw [hf]; decide, by rw [hlo]; decide⟩ (Nat.le_of_ble_eq_true rfl) (mrc hK) (fun v23 hv23 => ?_)
              refine so_if_eq C0 rfl (fun h24 => ?_) (fun h24 => ?_)
              · refine so_go C0 2 (pc' := 113) (lv' := [(0, .ref (B 0)), (1, .int x1), (2, .int x2), (3, .int x3), (4, .int v10), (5, .int v11)]) (st' := [.ref (B 0), .ref (B 0)]) rfl ?_
                refine so_mget C0 hK (j := 45) (v := .int (S9.2.2 12)) (by decide) wd_5_64 rfl rfl ?_
                refine so_go C0 2 (pc' := 119) (lv' := [(0, .ref (B 0)), (1, .int x1), (2, .int x2), (3, .int x3), (4, .int v10), (5, .int v11)]) (st' := [.int v10, .ref (B 0), .int (S9.2.2 12), .ref (B 0)]) rfl ?_
                refine so_opl (As := [.int v10]) (rest := [.int (S9.2.2 12), .ref (B 0)]) C0 hK hA yk_Mod_numberOf (c_Mod_numberOf S9 v10) wd_6_14 rfl rfl ⟨by rw [hf]; decide, by rw [hlo]; decide⟩ (Nat.le_of_ble_eq_true rfl) (mrc hK) (fun v25 hv25 => ?_)
                refine so_go C0 1 (pc' := 123) (lv' := [(0, .ref (B 0)), (1, .int x1), (2, .int x2), (3, .int x3), (4, .int v10), (5, .int v11)]) (st' := [.int 0, .long v25, .int (S9.2.2 12), .ref (B 0)]) rfl ?_
                refine so_oV (As := [.int (S9.2.2 12), .long v25, .int 0]) (rest := []) C0 hK hA yk_Mod_narrow (c_Mod_narrow S9 (S9.2.2 12) v25 0) wd_6_95 rfl rfl ⟨by rw [hf]; decide, by rw [hlo]; decide⟩ (Nat.le_of_ble_eq_true rfl) (mrc hK) (fun S26 hS26 => ?_)
                refine so_go C0 2 (pc' := 128) (lv' := [(0, .ref (B 0)), (1, .int x1), (2, .int x2), (3, .int x3), (4, .int v10), (5, .int v11)]) (st' := [.ref (B 0), .ref (B 0)]) rfl ?_
                refine so_mget C0 hK (j := 45) (v := .int (S26.2.2 12)) (by decide) wd_5_64 rfl rfl ?_
                refine so_go C0 2 (pc' := 133) (lv' := [(0, .ref (B 0)), (1, .int x1), (2, .int x2), (3, .int x3), (4, .int v10), (5, .int v11)]) (st' := [.int ((S26.2.2 12) + 1), .ref (B 0)]) rfl ?_
                refine so_mput C0 hK (j := 45) (q := 12) (ty := .int) (by decide) (Nat.le_of_ble_eq_true rfl) rfl (by decide +kernel) rfl rfl wd_5_64 rfl rfl ?_
                refine so_st (fun S27 hS27 => ?_)
                refine so_go C0 2 (pc' := 138) (lv' := [(0, .ref (B 0)), (1, .int x1), (2, .int x2), (3, .int x3), (4, .int v10), (5, .int v11)]) (st' := [.ref (B 0), .ref (B 0)]) rfl ?_
                refine so_mget C0 hK (j := 45) (v := .int (S27.2.2 12)) (by decide) wd_5_64 rfl rfl ?_
                refine so_op (As := [.int (S27.2.2 12)]) (rest := []) C0 hK hA yk_Mod_firstPossible (c_Mod_firstPossible S27 (S27.2.2 12)) wd_6_49 rfl rfl ⟨by rw [hf]; decide, by rw [hlo]; decide⟩ (Nat.le_of_ble_eq_true rfl) (mrc hK) (fun v28 hv28 => ?_)
                refine so_go C0 2 (pc' := 146) (lv' := [(0, .ref (B 0)), (1, .int x1), (2, .int v28), (3, .int x3), (4, .int v10), (5, .int v11)]) (st' := [.int v28]) rfl ?_
                refine so_if_ge C0 rfl (fun h29 => ?_) (fun h29 => ?_)
                · refine so_go C0 2 (pc' := 155) (lv' := [(0, .ref (B 0)), (1, .int x1), (2, .int v28), (3, .int x3), (4, .int v10), (5, .int v11)]) (st' := [.int v28, .ref (B 0)]) rfl ?_
                  refine so_op (As := [.int v28]) (rest := []) C0 hK hA yk_Mod_nextPlace (c_Mod_nextPlace S27 v28) wd_6_57 rfl rfl ⟨by rw [hf]; decide, by rw [hlo]; decide⟩ (Nat.le_of_ble_eq_true rfl) (mrc hK) (fun v30 hv30 => ?_)
                  refine so_go C0 2 (pc' := 29) (lv' := [(0, .ref (B 0)), (1, .int x1), (2, .int v28), (3, .int v30), (4, .int v10), (5, .int v11)]) (st' := []) rfl ?_
                  exact so_sub (lv' := [(0, .ref (B 0)), (1, .int x1), (2, .int v28), (3, .int v30)]) (zpk [0, 1, 2, 3] rfl) (ih29 S27 x1 v28 v30)
                · refine so_go C0 4 (pc' := 29) (lv' := [(0, .ref (B 0)), (1, .int x1), (2, .int v28), (3, .int (-1)), (4, .int v10), (5, .int v11)]) (st' := []) rfl ?_
                  exact so_sub (lv' := [(0, .ref (B 0)), (1, .int x1), (2, .int v28), (3, .int (-1))]) (zpk [0, 1, 2, 3] rfl) (ih29 S27 x1 v28 (-1))
              · refine so_go C0 1 (pc' := 110) (lv' := [(0, .ref (B 0)), (1, .int x1), (2, .int x2), (3, .int x3), (4, .int v10), (5, .int v11)]) (st' := [.int (-3)]) rfl ?_
                exact so_reti C0 rfl rfl
  have K : mSO p l e R s m args below meth c 6 A D cA B S 0 (lv_args 0 [.ref (B 0), .int a1]) [] zFi (f_Mod_tell S a1) := by
    unfold f_Mod_tell
    refine so_go C0 1 (pc' := 1) (lv' := [(0, .ref (B 0)), (1, .int a1)]) (st' := [.ref (B 0)]) rfl ?_
    refine so_oV (As := []) (rest := []) C0 hK hA yk_Mod_start (c_Mod_start S) wd_6_37 rfl rfl ⟨by rw [hf]; decide, by rw [hlo]; decide⟩ (Nat.le_of_ble_eq_true rfl) (mrc hK) (fun S1 hS1 => ?_)
    refine so_go C0 2 (pc' := 6) (lv' := [(0, .ref (B 0)), (1, .int a1)]) (st' := [.int 0, .ref (B 0)]) rfl ?_
    refine so_mput C0 hK (j := 45) (q := 12) (ty := .int) (by decide) (Nat.le_of_ble_eq_true rfl) rfl (by decide +kernel) rfl rfl wd_5_64 rfl rfl ?_
    refine so_st (fun S2 hS2 => ?_)
    refine so_go C0 2 (pc' := 11) (lv' := [(0, .ref (B 0)), (1, .int a1)]) (st' := [.int 0, .ref (B 0)]) rfl ?_
    refine so_op (As := [.int 0]) (rest := []) C0 hK hA yk_Mod_firstPossible (c_Mod_firstPossible S2 0) wd_6_49 rfl rfl ⟨by rw [hf]; decide, by rw [hlo]; decide⟩ (Nat.le_of_ble_eq_true rfl) (mrc hK) (fun v3 hv3 => ?_)
    refine so_go C0 2 (pc' := 16) (lv' := [(0, .ref (B 0)), (1, .int a1), (2, .int v3)]) (st' := [.int v3]) rfl ?_
    refine so_if_ge C0 rfl (fun h4 => ?_) (fun h4 => ?_)
    · refine so_go C0 2 (pc' := 25) (lv' := [(0, .ref (B 0)), (1, .int a1), (2, .int v3)]) (st' := [.int v3, .ref (B 0)]) rfl ?_
      refine so_op (As := [.int v3]) (rest := []) C0 hK hA yk_Mod_nextPlace (c_Mod_nextPlace S2 v3) wd_6_57 rfl rfl ⟨by rw [hf]; decide, by rw [hlo]; decide⟩ (Nat.le_of_ble_eq_true rfl) (mrc hK) (fun v5 hv5 => ?_)
      refine so_go C0 1 (pc' := 29) (lv' := [(0, .ref (B 0)), (1, .int a1), (2, .int v3), (3, .int v5)]) (st' := []) rfl ?_
      exact so_sub (lv' := [(0, .ref (B 0)), (1, .int a1), (2, .int v3), (3, .int v5)]) (zpk [0, 1, 2, 3] rfl) (lp29 zbig S2 a1 v3 v5)
    · refine so_go C0 3 (pc' := 29) (lv' := [(0, .ref (B 0)), (1, .int a1), (2, .int v3), (3, .int (-1))]) (st' := []) rfl ?_
      exact so_sub (lv' := [(0, .ref (B 0)), (1, .int a1), (2, .int v3), (3, .int (-1))]) (zpk [0, 1, 2, 3] rfl) (lp29 zbig S2 a1 v3 (-1))
  exact K r hr
def f_Mod_run (S : zM) (a1 : Int32) : Option (zM × Int32) :=
  if (S.2.2 7) = 0 then
    some (S, (-1))
  else
    zob (f_Mod_isValue S a1) fun v2 =>
    if v2 = 0 then
      some (S, (-1))
    else
      zob2 (f_Mod_tell S a1) fun S4 v5 =>
      some (S4, v5)
set_option maxHeartbeats 1000000 in
set_option maxRecDepth 20000 in
theorem c_Mod_run (S : zM) (a1 : Int32) : ∀ r, f_Mod_run S a1 = some r → zMet l y_Mod_run (zw y_Mod_run prog_13_method_47_code 2 (some Jvm.ClassFile.FieldType.int)) 3 79 [.ref (B 0), .int a1] D zcl (ztys cA) A (mRep D cA B A) (fun _ => 0) (fun _ => 0) S (zFi r) := by
  intro r hr
  refine zMet_of ⟨Nat.le_refl _, Nat.le_refl _⟩ (by decide) tk_Mod_run (Nat.le_of_ble_eq_true rfl) ?_
  intro p e R s m args below meth c hf hlo C0 hK hA
  have K : mSO p l e R s m args below meth c 2 A D cA B S 0 (lv_args 0 [.ref (B 0), .int a1]) [] zFi (f_Mod_run S a1) := by
    unfold f_Mod_run
    refine so_go C0 1 (pc' := 1) (lv' := [(0, .ref (B 0)), (1, .int a1)]) (st' := [.ref (B 0)]) rfl ?_
    refine so_mget C0 hK (j := 35) (v := .int (S.2.2 7)) (by decide) wd_5_54 rfl rfl ?_
    refine so_if_eq C0 rfl (fun h1 => ?_) (fun h1 => ?_)
    · refine so_go C0 1 (pc' := 24) (lv' := [(0, .ref (B 0)), (1, .int a1)]) (st' := [.int (-1)]) rfl ?_
      exact so_reti C0 rfl rfl
    · refine so_go C0 2 (pc' := 9) (lv' := [(0, .ref (B 0)), (1, .int a1)]) (st' := [.int a1, .ref (B 0)]) rfl ?_
      refine so_op (As := [.int a1]) (rest := []) C0 hK hA yk_Mod_isValue (c_Mod_isValue S a1) wd_5_202 rfl rfl ⟨by rw [hf]; decide, by rw [hlo]; decide⟩ (Nat.le_of_ble_eq_true rfl) (mrc hK) (fun v2 hv2 => ?_)
      refine so_if_eq C0 rfl (fun h3 => ?_) (fun h3 => ?_)
      · refine so_go C0 1 (pc' := 24) (lv' := [(0, .ref (B 0)), (1, .int a1)]) (st' := [.int (-1)]) rfl ?_
        exact so_reti C0 rfl rfl
      · refine so_go C0 2 (pc' := 17) (lv' := [(0, .ref (B 0)), (1, .int a1)]) (st' := [.int a1, .ref (B 0)]) rfl ?_
        refine so_oi (As := [.int a1]) (rest := []) C0 hK hA yk_Mod_tell (c_Mod_tell S a1) wd_6_103 rfl rfl ⟨by rw [hf]; decide, by rw [hlo]; decide⟩ (Nat.le_of_ble_eq_true rfl) (mrc hK) (fun S4 v5 hv5 => ?_)
        refine so_go C0 1 (pc' := 24) (lv' := [(0, .ref (B 0)), (1, .int a1)]) (st' := [.int v5]) rfl ?_
        exact so_reti C0 rfl rfl
  exact K r hr
end ZN
