-- by program: methods of the reference, as functions, and that the code does them
section ZN
variable {cA : Nat → ClassId} {B : Nat → Nat} {A : Nat → Prop} {D : va_G} {l : Launch}
def f_Mod_looks (S : zM) (a1 : Int32) : Option (zM × Int32) :=
  if (S.2.2 7) = 0 then
    some (S, (-1))
  else
    zob (f_Mod_isValue S a1) fun v2 =>
    if v2 = 0 then
      some (S, (-1))
    else
      zob2 (f_Mod_tell S a1) fun S4 v5 =>
      if ¬ v5 = (-3) then
        some (S4, (S4.2.2 12))
      else
        some (S4, (-1))
set_option maxHeartbeats 1000000 in
set_option maxRecDepth 20000 in
theorem c_Mod_looks (S : zM) (a1 : Int32) : ∀ r, f_Mod_looks S a1 = some r → zMet l y_Mod_looks (zw y_Mod_looks prog_13_method_48_code 2 (some Jvm.ClassFile.FieldType.int)) 3 79 [.ref (B 0), .int a1] D zcl (ztys cA) A (mRep D cA B A) (fun _ => 0) (fun _ => 0) S (zFi r) := by
  intro r hr
  refine zMet_of ⟨Nat.le_refl _, Nat.le_refl _⟩ (by decide) tk_Mod_looks (Nat.le_of_ble_eq_true rfl) ?_
  intro p e R s m args below meth c hf hlo C0 hK hA
  have K : mSO p l e R s m args below meth c 2 A D cA B S 0 (lv_args 0 [.ref (B 0), .int a1]) [] zFi (f_Mod_looks S a1) := by
    unfold f_Mod_looks
    refine so_go C0 1 (pc' := 1) (lv' := [(0, .ref (B 0)), (1, .int a1)]) (st' := [.ref (B 0)]) rfl ?_
    refine so_mget C0 hK (j := 35) (v := .int (S.2.2 7)) (by decide) wd_5_54 rfl rfl ?_
    refine so_if_eq C0 rfl (fun h1 => ?_) (fun h1 => ?_)
    · refine so_go C0 2 (pc' := 33) (lv' := [(0, .ref (B 0)), (1, .int a1)]) (st' := [.int (-1)]) rfl ?_
      exact so_reti C0 rfl rfl
    · refine so_go C0 2 (pc' := 9) (lv' := [(0, .ref (B 0)), (1, .int a1)]) (st' := [.int a1, .ref (B 0)]) rfl ?_
      refine so_op (As := [.int a1]) (rest := []) C0 hK hA yk_Mod_isValue (c_Mod_isValue S a1) wd_5_202 rfl rfl ⟨by rw [hf]; decide, by rw [hlo]; decide⟩ (Nat.le_of_ble_eq_true rfl) (mrc hK) (fun v2 hv2 => ?_)
      refine so_if_eq C0 rfl (fun h3 => ?_) (fun h3 => ?_)
      · refine so_go C0 2 (pc' := 33) (lv' := [(0, .ref (B 0)), (1, .int a1)]) (st' := [.int (-1)]) rfl ?_
        exact so_reti C0 rfl rfl
      · refine so_go C0 2 (pc' := 17) (lv' := [(0, .ref (B 0)), (1, .int a1)]) (st' := [.int a1, .ref (B 0)]) rfl ?_
        refine so_oi (As := [.int a1]) (rest := []) C0 hK hA yk_Mod_tell (c_Mod_tell S a1) wd_6_103 rfl rfl ⟨by rw [hf]; decide, by rw [hlo]; decide⟩ (Nat.le_of_ble_eq_true rfl) (mrc hK) (fun S4 v5 hv5 => ?_)
        refine so_go C0 1 (pc' := 22) (lv' := [(0, .ref (B 0)), (1, .int a1)]) (st' := [.int (-3), .int v5]) rfl ?_
        refine so_icmp_ne C0 rfl (fun h6 => ?_) (fun h6 => ?_)
        · refine so_go C0 1 (pc' := 30) (lv' := [(0, .ref (B 0)), (1, .int a1)]) (st' := [.ref (B 0)]) rfl ?_
          refine so_mget C0 hK (j := 45) (v := .int (S4.2.2 12)) (by decide) wd_5_64 rfl rfl ?_
          exact so_reti C0 rfl rfl
        · refine so_go C0 2 (pc' := 33) (lv' := [(0, .ref (B 0)), (1, .int a1)]) (st' := [.int (-1)]) rfl ?_
          exact so_reti C0 rfl rfl
  exact K r hr
def f_Mod_ends (S : zM) (a1 : Int32) : Option (Int32) :=
  if (S.2.2 7) = 0 then
    some (-1)
  else
    if a1 < (-1) then
      some (-1)
    else
      if (S.2.2 4) ≤ a1 then
        some (-1)
      else
        m_rd 1025 (S.1 28) (a1 + 1) fun v4 =>
        some v4
set_option maxHeartbeats 1000000 in
set_option maxRecDepth 20000 in
theorem c_Mod_ends (S : zM) (a1 : Int32) : ∀ r, f_Mod_ends S a1 = some r → zMet l y_Mod_ends (zw y_Mod_ends prog_13_method_49_code 2 (some Jvm.ClassFile.FieldType.int)) 0 0 [.ref (B 0), .int a1] D zcl (ztys cA) A (mRep D cA B A) (fun _ => 0) (fun _ => 0) S ((zFp S) r) := by
  intro r hr
  refine zMet_of ⟨Nat.le_refl _, Nat.le_refl _⟩ (by decide) tk_Mod_ends (Nat.le_of_ble_eq_true rfl) ?_
  intro p e R s m args below meth c hf hlo C0 hK hA
  have K : mSO p l e R s m args below meth c 2 A D cA B S 0 (lv_args 0 [.ref (B 0), .int a1]) [] (zFp S) (f_Mod_ends S a1) := by
    unfold f_Mod_ends
    refine so_go C0 1 (pc' := 1) (lv' := [(0, .ref (B 0)), (1, .int a1)]) (st' := [.ref (B 0)]) rfl ?_
    refine so_mget C0 hK (j := 35) (v := .int (S.2.2 7)) (by decide) wd_5_54 rfl rfl ?_
    refine so_if_eq C0 rfl (fun h1 => ?_) (fun h1 => ?_)
    · refine so_go C0 1 (pc' := 32) (lv' := [(0, .ref (B 0)), (1, .int a1)]) (st' := [.int (-1)]) rfl ?_
      exact so_reti C0 rfl rfl
    · refine so_go C0 2 (pc' := 9) (lv' := [(0, .ref (B 0)), (1, .int a1)]) (st' := [.int (-1), .int a1]) rfl ?_
      refine so_icmp_lt C0 rfl (fun h2 => ?_) (fun h2 => ?_)
      · refine so_go C0 1 (pc' := 32) (lv' := [(0, .ref (B 0)), (1, .int a1)]) (st' := [.int (-1)]) rfl ?_
        exact so_reti C0 rfl rfl
      · refine so_go C0 2 (pc' := 14) (lv' := [(0, .ref (B 0)), (1, .int a1)]) (st' := [.ref (B 0), .int a1]) rfl ?_
        refine so_mget C0 hK (j := 17) (v := .int (S.2.2 4)) (by decide) wd_5_36 rfl rfl ?_
        refine so_icmp_ge C0 rfl (fun h3 => ?_) (fun h3 => ?_)
        · refine so_go C0 1 (pc' := 32) (lv' := [(0, .ref (B 0)), (1, .int a1)]) (st' := [.int (-1)]) rfl ?_
          exact so_reti C0 rfl rfl
        · refine so_go C0 1 (pc' := 21) (lv' := [(0, .ref (B 0)), (1, .int a1)]) (st' := [.ref (B 0)]) rfl ?_
          refine so_mget C0 hK (j := 38) (v := .ref (B 29)) (by decide) wd_5_57 rfl rfl ?_
          refine so_go C0 3 (pc' := 27) (lv' := [(0, .ref (B 0)), (1, .int a1)]) (st' := [.int (a1 + 1), .ref (B 29)]) rfl ?_
          refine so_miald C0 hK (a := 28) (by decide) rfl rfl (by decide) rfl (fun v4 hv4 => ?_)
          refine so_go C0 1 (pc' := 32) (lv' := [(0, .ref (B 0)), (1, .int a1)]) (st' := [.int v4]) rfl ?_
          exact so_reti C0 rfl rfl
  exact K r hr
def f_Mod_depth (S : zM) : Int32 :=
  if (S.2.2 7) = 0 then
    (-1)
  else
    (S.2.2 9)
set_option maxHeartbeats 1000000 in
set_option maxRecDepth 20000 in
theorem c_Mod_depth (S : zM) : zMet l y_Mod_depth (zw y_Mod_depth prog_13_method_50_code 1 (some Jvm.ClassFile.FieldType.int)) 0 0 [.ref (B 0)] D zcl (ztys cA) A (mRep D cA B A) (fun _ => 0) (fun _ => 0) S ((zFp S) (f_Mod_depth S)) := by
  refine zMet_of ⟨Nat.le_refl _, Nat.le_refl _⟩ (by decide) tk_Mod_depth (Nat.le_of_ble_eq_true rfl) ?_
  intro p e R s m args below meth c hf hlo C0 hK hA
  unfold f_Mod_depth
  refine sw_go C0 1 (pc' := 1) (lv' := [(0, .ref (B 0))]) (st' := [.ref (B 0)]) rfl ?_
  refine sw_mget C0 hK (j := 35) (v := .int (S.2.2 7)) (by decide) wd_5_54 rfl rfl ?_
  refine sw_if_eq (zFp S) C0 rfl (fun h1 => ?_) (fun h1 => ?_)
  · refine sw_go C0 1 (pc' := 15) (lv' := [(0, .ref (B 0))]) (st' := [.int (-1)]) rfl ?_
    exact sw_reti C0 rfl rfl
  · refine sw_go C0 1 (pc' := 8) (lv' := [(0, .ref (B 0))]) (st' := [.ref (B 0)]) rfl ?_
    refine sw_mget C0 hK (j := 37) (v := .int (S.2.2 9)) (by decide) wd_5_56 rfl rfl ?_
    refine sw_go C0 1 (pc' := 15) (lv' := [(0, .ref (B 0))]) (st' := [.int (S.2.2 9)]) rfl ?_
    exact sw_reti C0 rfl rfl
def f_Mod_missedAt_L4 : Nat → zM → Int32 → Int32 → Int32 → Option (Int32)
  | 0, _, _, _, _ => none
  | n + 1, S, x1, x2, x3 =>
    if (S.2.2 10) ≤ x3 then
      some x2
    else
      m_rd 4097 (S.1 29) x3 fun v2 =>
      if ¬ v2 = x1 then
        f_Mod_missedAt_L4 n S x1 x2 (x3 + 1)
      else
        f_Mod_missedAt_L4 n S x1 x3 (x3 + 1)
def f_Mod_missedAt (S : zM) (a1 : Int32) : Option (Int32) :=
  f_Mod_missedAt_L4 zbig S a1 (-1) 0
set_option maxHeartbeats 1000000 in
set_option maxRecDepth 20000 in
theorem c_Mod_missedAt (S : zM) (a1 : Int32) : ∀ r, f_Mod_missedAt S a1 = some r → zMet l y_Mod_missedAt (zw y_Mod_missedAt prog_13_method_51_code 4 (some Jvm.ClassFile.FieldType.int)) 0 0 [.ref (B 0), .int a1] D zcl (ztys cA) A (mRep D cA B A) (fun _ => 0) (fun _ => 0) S ((zFp S) r) := by
  intro r hr
  refine zMet_of ⟨Nat.le_refl _, Nat.le_refl _⟩ (by decide) tk_Mod_missedAt (Nat.le_of_ble_eq_true rfl) ?_
  intro p e R s m args below meth c hf hlo C0 hK hA
  have lp4 : ∀ (n : Nat) (x1 : Int32) (x2 : Int32) (x3 : Int32), mSO p l e R s m args below meth c 4 A D cA B S 4 [(0, .ref (B 0)), (1, .int x1), (2, .int x2), (3, .int x3)] [] (zFp S) (f_Mod_missedAt_L4 n S x1 x2 x3) := by
    intro n
    induction n with
    | zero =>
      intro x1 x2 x3
      rw [f_Mod_missedAt_L4]
      exact so_none
    | succ n ih4 =>
      intro x1 x2 x3
      rw [f_Mod_missedAt_L4]
      refine so_go C0 2 (pc' := 6) (lv' := [(0, .ref (B 0)), (1, .int x1), (2, .int x2), (3, .int x3)]) (st' := [.ref (B 0), .int x3]) rfl ?_
      refine so_mget C0 hK (j := 39) (v := .int (S.2.2 10)) (by decide) wd_5_58 rfl rfl ?_
      refine so_icmp_ge C0 rfl (fun h1 => ?_) (fun h1 => ?_)
      · refine so_go C0 1 (pc' := 35) (lv' := [(0, .ref (B 0)), (1, .int x1), (2, .int x2), (3, .int x3)]) (st' := [.int x2]) rfl ?_
        exact so_reti C0 rfl rfl
      · refine so_go C0 1 (pc' := 13) (lv' := [(0, .ref (B 0)), (1, .int x1), (2, .int x2), (3, .int x3)]) (st' := [.ref (B 0)]) rfl ?_
        refine so_mget C0 hK (j := 40) (v := .ref (B 30)) (by decide) wd_5_59 rfl rfl ?_
        refine so_go C0 1 (pc' := 17) (lv' := [(0, .ref (B 0)), (1, .int x1), (2, .int x2), (3, .int x3)]) (st' := [.int x3, .ref (B 30)]) rfl ?_
        refine so_miald C0 hK (a := 29) (by decide) rfl rfl (by decide) rfl (fun v2 hv2 => ?_)
        refine so_go C0 1 (pc' := 19) (lv' := [(0, .ref (B 0)), (1, .int x1), (2, .int x2), (3, .int x3)]) (st' := [.int x1, .int v2]) rfl ?_
        refine so_icmp_ne C0 rfl (fun h3 => ?_) (fun h3 => ?_)
        · refine so_go C0 4 (pc' := 4) (lv' := [(0, .ref (B 0)), (1, .int x1), (2, .int x2), (3, .int (x3 + 1))]) (st' := []) rfl ?_
          exact so_sub (lv' := [(0, .ref (B 0)), (1, .int x1), (2, .int x2), (3, .int (x3 + 1))]) (zpk [0, 1, 2, 3] rfl) (ih4 x1 x2 (x3 + 1))
        · refine so_go C0 5 (pc' := 4) (lv' := [(0, .ref (B 0)), (1, .int x1), (2, .int x3), (3, .int (x3 + 1))]) (st' := []) rfl ?_
          exact so_sub (lv' := [(0, .ref (B 0)), (1, .int x1), (2, .int x3), (3, .int (x3 + 1))]) (zpk [0, 1, 2, 3] rfl) (ih4 x1 x3 (x3 + 1))
  have K : mSO p l e R s m args below meth c 4 A D cA B S 0 (lv_args 0 [.ref (B 0), .int a1]) [] (zFp S) (f_Mod_missedAt S a1) := by
    unfold f_Mod_missedAt
    refine so_go C0 4 (pc' := 4) (lv' := [(0, .ref (B 0)), (1, .int a1), (2, .int (-1)), (3, .int 0)]) (st' := []) rfl ?_
    exact so_sub (lv' := [(0, .ref (B 0)), (1, .int a1), (2, .int (-1)), (3, .int 0)]) (zpk [0, 1, 2, 3] rfl) (lp4 zbig a1 (-1) 0)
  exact K r hr
def f_Mod_isToldRecord_L20 (k : zM → Int32 → Int32 → Int32 → Int32 → Option (Int32)) : Nat → zM → Int32 → Int32 → Int32 → Int32 → Option (Int32)
  | 0, _, _, _, _, _ => none
  | n + 1, S, x1, x2, x3, x4 =>
    if x4 ≤ 0 then
      k S x1 x2 x3 x4
    else
      if ¬ x2 = 0 then
        m_rd 16386 (S.1 17) x4 fun v5 =>
        f_Mod_isToldRecord_L20 k n S x1 1 x3 v5
      else
        m_rd 16386 (S.1 17) x4 fun v6 =>
        if ¬ v6 = x1 then
          m_rd 16386 (S.1 17) x4 fun v8 =>
          f_Mod_isToldRecord_L20 k n S x1 0 x3 v8
        else
          zob (f_Mod_missedAt S x1) fun v9 =>
          if 0 ≤ v9 then
            m_rd 16386 (S.1 17) x4 fun v11 =>
            f_Mod_isToldRecord_L20 k n S x1 0 x3 v11
          else
            m_rd 16386 (S.1 17) x4 fun v12 =>
            f_Mod_isToldRecord_L20 k n S x1 1 x3 v12
def f_Mod_isToldRecord_L4 : Nat → zM → Int32 → Int32 → Int32 → Option (Int32)
  | 0, _, _, _, _ => none
  | n + 1, S, x1, x2, x3 =>
    if (S.2.2 10) ≤ x3 then
      some (z_b x2)
    else
      m_rd 4097 (S.1 29) x3 fun v2 =>
      f_Mod_isToldRecord_L20 (fun S x1 x2 x3 x4 =>
        f_Mod_isToldRecord_L4 n S x1 x2 (x3 + 1)) zbig S x1 x2 x3 v2
def f_Mod_isToldRecord (S : zM) (a1 : Int32) : Option (Int32) :=
  f_Mod_isToldRecord_L4 zbig S a1 0 0
set_option maxHeartbeats 1000000 in
set_option maxRecDepth 20000 in
theorem c_Mod_isToldRecord (S : zM) (a1 : Int32) : ∀ r, f_Mod_isToldRecord S a1 = some r → zMet l y_Mod_isToldRecord (zw y_Mod_isToldRecord prog_13_method_52_code 5 (some Jvm.ClassFile.FieldType.boolean)) 1 23 [.ref (B 0), .int a1] D zcl (ztys cA) A (mRep D cA B A) (fun _ => 0) (fun _ => 0) S ((zFp S) r) := by
  intro r hr
  refine zMet_of ⟨Nat.le_refl _, Nat.le_refl _⟩ (by decide) tk_Mod_isToldRecord (Nat.le_of_ble_eq_true rfl) ?_
  intro p e R s m args below meth c hf hlo C0 hK hA
  have lp20 : ∀ (k : zM → Int32 → Int32 → Int32 → Int32 → Option (Int32)) (hk : ∀ (x1 : Int32) (x2 : Int32) (x3 : Int32) (x4 : Int32), mSO p l e R s m args below meth c 5 A D cA B S 66 [(0, .ref (B 0)), (1, .int x1), (2, .int x2), (3, .int x3), (4, .int x4)] [] (zFp S) (k S x1 x2 x3 x4)) (n : Nat) (x1 : Int32) (x2 : Int32) (x3 : Int32) (x4 : Int32), mSO p l e R s m args below meth c 5 A D cA B S 20 [(0, .ref (B 0)), (1, .int x1), (2, .int x2), (3, .int x3), (4, .int x4)] [] (zFp S) (f_Mod_isToldRecord_L20 k n S x1 x2 x3 x4) := by
    intro k hk n
    induction n with
    | zero =>
      intro x1 x2 x3 x4
      rw [f_Mod_isToldRecord_L20]
      exact so_none
    | succ n ih20 =>
      intro x1 x2 x3 x4
      rw [f_Mod_isToldRecord_L20]
      refine so_go C0 1 (pc' := 22) (lv' := [(0, .ref (B 0)), (1, .int x1), (2, .int x2), (3, .int x3), (4, .int x4)]) (st' := [.int x4]) rfl ?_
      refine so_if_le C0 rfl (fun h3 => ?_) (fun h3 => ?_)
      · exact so_sub (lv' := [(0, .ref (B 0)), (1, .int x1), (2, .int x2), (3, .int x3), (4, .int x4)]) (zpk [0, 1, 2, 3, 4] rfl) (hk x1 x2 x3 x4)
      · refine so_go C0 1 (pc' := 26) (lv' := [(0, .ref (B 0)), (1, .int x1), (2, .int x2), (3, .int x3), (4, .int x4)]) (st' := [.int x2]) rfl ?_
        refine so_if_ne C0 rfl (fun h4 => ?_) (fun h4 => ?_)
        · refine so_go C0 4 (pc' := 55) (lv' := [(0, .ref (B 0)), (1, .int x1), (2, .int 1), (3, .int x3), (4, .int x4)]) (st' := [.ref (B 0)]) rfl ?_
          refine so_mget C0 hK (j := 24) (v := .ref (B 18)) (by decide) wd_5_43 rfl rfl ?_
          refine so_go C0 1 (pc' := 60) (lv' := [(0, .ref (B 0)), (1, .int x1), (2, .int 1), (3, .int x3), (4, .int x4)]) (st' := [.int x4, .ref (B 18)]) rfl ?_
          refine so_miald C0 hK (a := 17) (by decide) rfl rfl (by decide) rfl (fun v5 hv5 => ?_)
          refine so_go C0 2 (pc' := 20) (lv' := [(0, .ref (B 0)), (1, .int x1), (2, .int 1), (3, .int x3), (4, .int v5)]) (st' := []) rfl ?_
          exact so_sub (lv' := [(0, .ref (B 0)), (1, .int x1), (2, .int 1), (3, .int x3), (4, .int v5)]) (zpk [0, 1, 2, 3, 4] rfl) (ih20 x1 1 x3 v5)
        · refine so_go C0 1 (pc' := 30) (lv' := [(0, .ref (B 0)), (1, .int x1), (2, .int x2), (3, .int x3), (4, .int x4)]) (st' := [.ref (B 0)]) rfl ?_
          refine so_mget C0 hK (j := 24) (v := .ref (B 18)) (by decide) wd_5_43 rfl rfl ?_
          refine so_go C0 1 (pc' := 35) (lv' := [(0, .ref (B 0)), (1, .int x1), (2, .int x2), (3, .int x3), (4, .int x4)]) (st' := [.int x4, .ref (B 18)]) rfl ?_
          refine so_miald C0 hK (a := 17) (by decide) rfl rfl (by decide) rfl (fun v6 hv6 => ?_)
          refine so_go C0 1 (pc' := 37) (lv' := [(0, .ref (B 0)), (1, .int x1), (2, .int x2), (3, .int x3), (4, .int x4)]) (st' := [.int x1, .int v6]) rfl ?_
          refine so_icmp_ne C0 rfl (fun h7 => ?_) (fun h7 => ?_)
          · refine so_go C0 3 (pc' := 55) (lv' := [(0, .ref (B 0)), (1, .int x1), (2, .int 0), (3, .int x3), (4, .int x4)]) (st' := [.ref (B 0)]) rfl ?_
            refine so_mget C0 hK (j := 24) (v := .ref (B 18)) (by decide) wd_5_43 rfl rfl ?_
            refine so_go C0 1 (pc' := 60) (lv' := [(0, .ref (B 0)), (1, .int x1), (2, .int 0), (3, .int x3), (4, .int x4)]) (st' := [.int x4, .ref (B 18)]) rfl ?_
            refine so_miald C0 hK (a := 17) (by decide) rfl rfl (by decide) rfl (fun v8 hv8 => ?_)
            refine so_go C0 2 (pc' := 20) (lv' := [(0, .ref (B 0)), (1, .int x1), (2, .int 0), (3, .int x3), (4, .int v8)]) (st' := []) rfl ?_
            exact so_sub (lv' := [(0, .ref (B 0)), (1, .int x1), (2, .int 0), (3, .int x3), (4, .int v8)]) (zpk [0, 1, 2, 3, 4] rfl) (ih20 x1 0 x3 v8)
          · refine so_go C0 2 (pc' := 42) (lv' := [(0, .ref (B 0)), (1, .int x1), (2, .int x2), (3, .int x3), (4, .int x4)]) (st' := [.int x1, .ref (B 0)]) rfl ?_
            refine so_op (As := [.int x1]) (rest := []) C0 hK hA yk_Mod_missedAt (c_Mod_missedAt S x1) wd_6_136 rfl rfl ⟨by rw [hf]; decide, by rw [hlo]; decide⟩ (Nat.le_of_ble_eq_true rfl) (mrc hK) (fun v9 hv9 => ?_)
            refine so_if_ge C0 rfl (fun h10 => ?_) (fun h10 => ?_)
            · refine so_go C0 3 (pc' := 55) (lv' := [(0, .ref (B 0)), (1, .int x1), (2, .int 0), (3, .int x3), (4, .int x4)]) (st' := [.ref (B 0)]) rfl ?_
              refine so_mget C0 hK (j := 24) (v := .ref (B 18)) (by decide) wd_5_43 rfl rfl ?_
              refine so_go C0 1 (pc' := 60) (lv' := [(0, .ref (B 0)), (1, .int x1), (2, .int 0), (3, .int x3), (4, .int x4)]) (st' := [.int x4, .ref (B 18)]) rfl ?_
              refine so_miald C0 hK (a := 17) (by decide) rfl rfl (by decide) rfl (fun v11 hv11 => ?_)
              refine so_go C0 2 (pc' := 20) (lv' := [(0, .ref (B 0)), (1, .int x1), (2, .int 0), (3, .int x3), (4, .int v11)]) (st' := []) rfl ?_
              exact so_sub (lv' := [(0, .ref (B 0)), (1, .int x1), (2, .int 0), (3, .int x3), (4, .int v11)]) (zpk [0, 1, 2, 3, 4] rfl) (ih20 x1 0 x3 v11)
            · refine so_go C0 4 (pc' := 55) (lv' := [(0, .ref (B 0)), (1, .int x1), (2, .int 1), (3, .int x3), (4, .int x4)]) (st' := [.ref (B 0)]) rfl ?_
              refine so_mget C0 hK (j := 24) (v := .ref (B 18)) (by decide) wd_5_43 rfl rfl ?_
              refine so_go C0 1 (pc' := 60) (lv' := [(0, .ref (B 0)), (1, .int x1), (2, .int 1), (3, .int x3), (4, .int x4)]) (st' := [.int x4, .ref (B 18)]) rfl ?_
              refine so_miald C0 hK (a := 17) (by decide) rfl rfl (by decide) rfl (fun v12 hv12 => ?_)
              refine so_go C0 2 (pc' := 20) (lv' := [(0, .ref (B 0)), (1, .int x1), (2, .int 1), (3, .int x3), (4, .int v12)]) (st' := []) rfl ?_
              exact so_sub (lv' := [(0, .ref (B 0)), (1, .int x1), (2, .int 1), (3, .int x3), (4, .int v12)]) (zpk [0, 1, 2, 3, 4] rfl) (ih20 x1 1 x3 v12)
  have lp4 : ∀ (n : Nat) (x1 : Int32) (x2 : Int32) (x3 : Int32), mSO p l e R s m args below meth c 5 A D cA B S 4 [(0, .ref (B 0)), (1, .int x1), (2, .int x2), (3, .int x3)] [] (zFp S) (f_Mod_isToldRecord_L4 n S x1 x2 x3) := by
    intro n
    induction n with
    | zero =>
      intro x1 x2 x3
      rw [f_Mod_isToldRecord_L4]
      exact so_none
    | succ n ih4 =>
      intro x1 x2 x3
      rw [f_Mod_isToldRecord_L4]
      refine so_go C0 2 (pc' := 6) (lv' := [(0, .ref (B 0)), (1, .int x1), (2, .int x2), (3, .int x3)]) (st' := [.ref (B 0), .int x3]) rfl ?_
      refine so_mget C0 hK (j := 39) (v := .int (S.2.2 10)) (by decide) wd_5_58 rfl rfl ?_
      refine so_icmp_ge C0 rfl (fun h1 => ?_) (fun h1 => ?_)
      · refine so_go C0 1 (pc' := 73) (lv' := [(0, .ref (B 0)), (1, .int x1), (2, .int x2), (3, .int x3)]) (st' := [.int x2]) rfl ?_
        exact so_retb C0 rfl rfl
      · refine so_go C0 1 (pc' := 13) (lv' := [(0, .ref (B 0)), (1, .int x1), (2, .int x2), (3, .int x3)]) (st' := [.ref (B 0)]) rfl ?_
        refine so_mget C0 hK (j := 40) (v := .ref (B 30)) (by decide) wd_5_59 rfl rfl ?_
        refine so_go C0 1 (pc' := 17) (lv' := [(0, .ref (B 0)), (1, .int x1), (2, .int x2), (3, .int x3)]) (st' := [.int x3, .ref (B 30)]) rfl ?_
        refine so_miald C0 hK (a := 29) (by decide) rfl rfl (by decide) rfl (fun v2 hv2 => ?_)
        refine so_go C0 1 (pc' := 20) (lv' := [(0, .ref (B 0)), (1, .int x1), (2, .int x2), (3, .int x3), (4, .int v2)]) (st' := []) rfl ?_
        refine so_sub (lv' := [(0, .ref (B 0)), (1, .int x1), (2, .int x2), (3, .int x3), (4, .int v2)]) (zpk [0, 1, 2, 3, 4] rfl) (lp20 _ (fun x1 x2 x3 x4 => ?_) zbig x1 x2 x3 v2)
        refine so_go C0 2 (pc' := 4) (lv' := [(0, .ref (B 0)), (1, .int x1), (2, .int x2), (3, .int (x3 + 1)), (4, .int x4)]) (st' := []) rfl ?_
        exact so_sub (lv' := [(0, .ref (B 0)), (1, .int x1), (2, .int x2), (3, .int (x3 + 1))]) (zpk [0, 1, 2, 3] rfl) (ih4 x1 x2 (x3 + 1))
  have K : mSO p l e R s m args below meth c 5 A D cA B S 0 (lv_args 0 [.ref (B 0), .int a1]) [] (zFp S) (f_Mod_isToldRecord S a1) := by
    unfold f_Mod_isToldRecord
    refine so_go C0 4 (pc' := 4) (lv' := [(0, .ref (B 0)), (1, .int a1), (2, .int 0), (3, .int 0)]) (st' := []) rfl ?_
    exact so_sub (lv' := [(0, .ref (B 0)), (1, .int a1), (2, .int 0), (3, .int 0)]) (zpk [0, 1, 2, 3] rfl) (lp4 zbig a1 0 0)
  exact K r hr
def f_Mod_someAt_L5 : Nat → zM → Int32 → Int32 → Int32 → Int32 → Option (Int32)
  | 0, _, _, _, _, _ => none
  | n + 1, S, x1, x2, x3, x4 =>
    m_rd 1025 (S.1 14) (S.2.2 4) fun v1 =>
    if v1 ≤ x4 then
      some x3
    else
      m_rd 16385 (S.1 15) x4 fun v3 =>
      if ¬ v3 = x1 then
        f_Mod_someAt_L5 n S x1 x2 x3 (x4 + 1)
      else
        m_rd 16385 (S.1 16) x4 fun v5 =>
        zob (f_Mod_numberOf S v5) fun v6 =>
        if ¬ (lg_cmp v6 x2.toInt64) = 0 then
          f_Mod_someAt_L5 n S x1 x2 x3 (x4 + 1)
        else
          m_rd 16385 (S.1 16) x4 fun v8 =>
          f_Mod_someAt_L5 n S x1 x2 v8 (x4 + 1)
def f_Mod_someAt (S : zM) (a1 : Int32) (a2 : Int32) : Option (Int32) :=
  f_Mod_someAt_L5 zbig S a1 a2 (-1) 0
set_option maxHeartbeats 1000000 in
set_option maxRecDepth 20000 in
theorem c_Mod_someAt (S : zM) (a1 : Int32) (a2 : Int32) : ∀ r, f_Mod_someAt S a1 a2 = some r → zMet l y_Mod_someAt (zw y_Mod_someAt prog_13_method_53_code 5 (some Jvm.ClassFile.FieldType.int)) 1 21 [.ref (B 0), .int a1, .int a2] D zcl (ztys cA) A (mRep D cA B A) (fun _ => 0) (fun _ => 0) S ((zFp S) r) := by
  intro r hr
  refine zMet_of ⟨Nat.le_refl _, Nat.le_refl _⟩ (by decide) tk_Mod_someAt (Nat.le_of_ble_eq_true rfl) ?_
  intro p e R s m args below meth c hf hlo C0 hK hA
  have lp5 : ∀ (n : Nat) (x1 : Int32) (x2 : Int32) (x3 : Int32) (x4 : Int32), mSO p l e R s m args below meth c 5 A D cA B S 5 [(0, .ref (B 0)), (1, .int x1), (2, .int x2), (3, .int x3), (4, .int x4)] [] (zFp S) (f_Mod_someAt_L5 n S x1 x2 x3 x4) := by
    intro n
    induction n with
    | zero =>
      intro x1 x2 x3 x4
      rw [f_Mod_someAt_L5]
      exact so_none
    | succ n ih5 =>
      intro x1 x2 x3 x4
      rw [f_Mod_someAt_L5]
      refine so_go C0 2 (pc' := 8) (lv' := [(0, .ref (B 0)), (1, .int x1), (2, .int x2), (3, .int x3), (4, .int x4)]) (st' := [.ref (B 0), .int x4]) rfl ?_
      refine so_mget C0 hK (j := 19) (v := .ref (B 15)) (by decide) wd_5_38 rfl rfl ?_
      refine so_go C0 1 (pc' := 12) (lv' := [(0, .ref (B 0)), (1, .int x1), (2, .int x2), (3, .int x3), (4, .int x4)]) (st' := [.ref (B 0), .ref (B 15), .int x4]) rfl ?_
      refine so_mget C0 hK (j := 17) (v := .int (S.2.2 4)) (by decide) wd_5_36 rfl rfl ?_
      refine so_miald C0 hK (a := 14) (by decide) rfl rfl (by decide) rfl (fun v1 hv1 => ?_)
      refine so_icmp_ge C0 rfl (fun h2 => ?_) (fun h2 => ?_)
      · refine so_go C0 1 (pc' := 66) (lv' := [(0, .ref (B 0)), (1, .int x1), (2, .int x2), (3, .int x3), (4, .int x4)]) (st' := [.int x3]) rfl ?_
        exact so_reti C0 rfl rfl
      · refine so_go C0 1 (pc' := 20) (lv' := [(0, .ref (B 0)), (1, .int x1), (2, .int x2), (3, .int x3), (4, .int x4)]) (st' := [.ref (B 0)]) rfl ?_
        refine so_mget C0 hK (j := 21) (v := .ref (B 16)) (by decide) wd_5_40 rfl rfl ?_
        refine so_go C0 1 (pc' := 25) (lv' := [(0, .ref (B 0)), (1, .int x1), (2, .int x2), (3, .int x3), (4, .int x4)]) (st' := [.int x4, .ref (B 16)]) rfl ?_
        refine so_miald C0 hK (a := 15) (by decide) rfl rfl (by decide) rfl (fun v3 hv3 => ?_)
        refine so_go C0 1 (pc' := 27) (lv' := [(0, .ref (B 0)), (1, .int x1), (2, .int x2), (3, .int x3), (4, .int x4)]) (st' := [.int x1, .int v3]) rfl ?_
        refine so_icmp_ne C0 rfl (fun h4 => ?_) (fun h4 => ?_)
        · refine so_go C0 4 (pc' := 5) (lv' := [(0, .ref (B 0)), (1, .int x1), (2, .int x2), (3, .int x3), (4, .int (x4 + 1))]) (st' := []) rfl ?_
          exact so_sub (lv' := [(0, .ref (B 0)), (1, .int x1), (2, .int x2), (3, .int x3), (4, .int (x4 + 1))]) (zpk [0, 1, 2, 3, 4] rfl) (ih5 x1 x2 x3 (x4 + 1))
        · refine so_go C0 2 (pc' := 32) (lv' := [(0, .ref (B 0)), (1, .int x1), (2, .int x2), (3, .int x3), (4, .int x4)]) (st' := [.ref (B 0), .ref (B 0)]) rfl ?_
          refine so_mget C0 hK (j := 22) (v := .ref (B 17)) (by decide) wd_5_41 rfl rfl ?_
          refine so_go C0 1 (pc' := 37) (lv' := [(0, .ref (B 0)), (1, .int x1), (2, .int x2), (3, .int x3), (4, .int x4)]) (st' := [.int x4, .ref (B 17), .ref (B 0)]) rfl ?_
          refine so_miald C0 hK (a := 16) (by decide) rfl rfl (by decide) rfl (fun v5 hv5 => ?_)
          refine so_opl (As := [.int v5]) (rest := []) C0 hK hA yk_Mod_numberOf (c_Mod_numberOf S v5) wd_6_14 rfl rfl ⟨by rw [hf]; decide, by rw [hlo]; decide⟩ (Nat.le_of_ble_eq_true rfl) (mrc hK) (fun v6 hv6 => ?_)
          refine so_go C0 3 (pc' := 44) (lv' := [(0, .ref (B 0)), (1, .int x1), (2, .int x2), (3, .int x3), (4, .int x4)]) (st' := [.int (lg_cmp v6 x2.toInt64)]) rfl ?_
          refine so_if_ne C0 rfl (fun h7 => ?_) (fun h7 => ?_)
          · refine so_go C0 4 (pc' := 5) (lv' := [(0, .ref (B 0)), (1, .int x1), (2, .int x2), (3, .int x3), (4, .int (x4 + 1))]) (st' := []) rfl ?_
            exact so_sub (lv' := [(0, .ref (B 0)), (1, .int x1), (2, .int x2), (3, .int x3), (4, .int (x4 + 1))]) (zpk [0, 1, 2, 3, 4] rfl) (ih5 x1 x2 x3 (x4 + 1))
          · refine so_go C0 1 (pc' := 48) (lv' := [(0, .ref (B 0)), (1, .int x1), (2, .int x2), (3, .int x3), (4, .int x4)]) (st' := [.ref (B 0)]) rfl ?_
            refine so_mget C0 hK (j := 22) (v := .ref (B 17)) (by decide) wd_5_41 rfl rfl ?_
            refine so_go C0 1 (pc' := 53) (lv' := [(0, .ref (B 0)), (1, .int x1), (2, .int x2), (3, .int x3), (4, .int x4)]) (st' := [.int x4, .ref (B 17)]) rfl ?_
            refine so_miald C0 hK (a := 16) (by decide) rfl rfl (by decide) rfl (fun v8 hv8 => ?_)
            refine so_go C0 4 (pc' := 5) (lv' := [(0, .ref (B 0)), (1, .int x1), (2, .int x2), (3, .int v8), (4, .int (x4 + 1))]) (st' := []) rfl ?_
            exact so_sub (lv' := [(0, .ref (B 0)), (1, .int x1), (2, .int x2), (3, .int v8), (4, .int (x4 + 1))]) (zpk [0, 1, 2, 3, 4] rfl) (ih5 x1 x2 v8 (x4 + 1))
  have K : mSO p l e R s m args below meth c 5 A D cA B S 0 (lv_args 0 [.ref (B 0), .int a1, .int a2]) [] (zFp S) (f_Mod_someAt S a1 a2) := by
    unfold f_Mod_someAt
    refine so_go C0 4 (pc' := 5) (lv' := [(0, .ref (B 0)), (1, .int a1), (2, .int a2), (3, .int (-1)), (4, .int 0)]) (st' := []) rfl ?_
    exact so_sub (lv' := [(0, .ref (B 0)), (1, .int a1), (2, .int a2), (3, .int (-1)), (4, .int 0)]) (zpk [0, 1, 2, 3, 4] rfl) (lp5 zbig a1 a2 (-1) 0)
  exact K r hr
def f_Mod_anyAt_L4 : Nat → zM → Int32 → Int32 → Int32 → Option (Int32)
  | 0, _, _, _, _ => none
  | n + 1, S, x1, x2, x3 =>
    m_rd 1025 (S.1 14) (S.2.2 4) fun v1 =>
    if v1 ≤ x3 then
      some x2
    else
      m_rd 16385 (S.1 15) x3 fun v3 =>
      if ¬ v3 = x1 then
        f_Mod_anyAt_L4 n S x1 x2 (x3 + 1)
      else
        m_rd 16385 (S.1 16) x3 fun v5 =>
        f_Mod_anyAt_L4 n S x1 v5 (x3 + 1)
def f_Mod_anyAt (S : zM) (a1 : Int32) : Option (Int32) :=
  f_Mod_anyAt_L4 zbig S a1 (-1) 0
set_option maxHeartbeats 1000000 in
set_option maxRecDepth 20000 in
theorem c_Mod_anyAt (S : zM) (a1 : Int32) : ∀ r, f_Mod_anyAt S a1 = some r → zMet l y_Mod_anyAt (zw y_Mod_anyAt prog_13_method_54_code 4 (some Jvm.ClassFile.FieldType.int)) 0 0 [.ref (B 0), .int a1] D zcl (ztys cA) A (mRep D cA B A) (fun _ => 0) (fun _ => 0) S ((zFp S) r) := by
  intro r hr
  refine zMet_of ⟨Nat.le_refl _, Nat.le_refl _⟩ (by decide) tk_Mod_anyAt (Nat.le_of_ble_eq_true rfl) ?_
  intro p e R s m args below meth c hf hlo C0 hK hA
  have lp4 : ∀ (n : Nat) (x1 : Int32) (x2 : Int32) (x3 : Int32), mSO p l e R s m args below meth c 4 A D cA B S 4 [(0, .ref (B 0)), (1, .int x1), (2, .int x2), (3, .int x3)] [] (zFp S) (f_Mod_anyAt_L4 n S x1 x2 x3) := by
    intro n
    induction n with
    | zero =>
      intro x1 x2 x3
      rw [f_Mod_anyAt_L4]
      exact so_none
    | succ n ih4 =>
      intro x1 x2 x3
      rw [f_Mod_anyAt_L4]
      refine so_go C0 2 (pc' := 6) (lv' := [(0, .ref (B 0)), (1, .int x1), (2, .int x2), (3, .int x3)]) (st' := [.ref (B 0), .int x3]) rfl ?_
      refine so_mget C0 hK (j := 19) (v := .ref (B 15)) (by decide) wd_5_38 rfl rfl ?_
      refine so_go C0 1 (pc' := 10) (lv' := [(0, .ref (B 0)), (1, .int x1), (2, .int x2), (3, .int x3)]) (st' := [.ref (B 0), .ref (B 15), .int x3]) rfl ?_
      refine so_mget C0 hK (j := 17) (v := .int (S.2.2 4)) (by decide) wd_5_36 rfl rfl ?_
      refine so_miald C0 hK (a := 14) (by decide) rfl rfl (by decide) rfl (fun v1 hv1 => ?_)
      refine so_icmp_ge C0 rfl (fun h2 => ?_) (fun h2 => ?_)
      · refine so_go C0 1 (pc' := 45) (lv' := [(0, .ref (B 0)), (1, .int x1), (2, .int x2), (3, .int x3)]) (st' := [.int x2]) rfl ?_
        exact so_reti C0 rfl rfl
      · refine so_go C0 1 (pc' := 18) (lv' := [(0, .ref (B 0)), (1, .int x1), (2, .int x2), (3, .int x3)]) (st' := [.ref (B 0)]) rfl ?_
        refine so_mget C0 hK (j := 21) (v := .ref (B 16)) (by decide) wd_5_40 rfl rfl ?_
        refine so_go C0 1 (pc' := 22) (lv' := [(0, .ref (B 0)), (1, .int x1), (2, .int x2), (3, .int x3)]) (st' := [.int x3, .ref (B 16)]) rfl ?_
        refine so_miald C0 hK (a := 15) (by decide) rfl rfl (by decide) rfl (fun v3 hv3 => ?_)
        refine so_go C0 1 (pc' := 24) (lv' := [(0, .ref (B 0)), (1, .int x1), (2, .int x2), (3, .int x3)]) (st' := [.int x1, .int v3]) rfl ?_
        refine so_icmp_ne C0 rfl (fun h4 => ?_) (fun h4 => ?_)
        · refine so_go C0 4 (pc' := 4) (lv' := [(0, .ref (B 0)), (1, .int x1), (2, .int x2), (3, .int (x3 + 1))]) (st' := []) rfl ?_
          exact so_sub (lv' := [(0, .ref (B 0)), (1, .int x1), (2, .int x2), (3, .int (x3 + 1))]) (zpk [0, 1, 2, 3] rfl) (ih4 x1 x2 (x3 + 1))
        · refine so_go C0 1 (pc' := 28) (lv' := [(0, .ref (B 0)), (1, .int x1), (2, .int x2), (3, .int x3)]) (st' := [.ref (B 0)]) rfl ?_
          refine so_mget C0 hK (j := 22) (v := .ref (B 17)) (by decide) wd_5_41 rfl rfl ?_
          refine so_go C0 1 (pc' := 32) (lv' := [(0, .ref (B 0)), (1, .int x1), (2, .int x2), (3, .int x3)]) (st' := [.int x3, .ref (B 17)]) rfl ?_
          refine so_miald C0 hK (a := 16) (by decide) rfl rfl (by decide) rfl (fun v5 hv5 => ?_)
          refine so_go C0 4 (pc' := 4) (lv' := [(0, .ref (B 0)), (1, .int x1), (2, .int v5), (3, .int (x3 + 1))]) (st' := []) rfl ?_
          exact so_sub (lv' := [(0, .ref (B 0)), (1, .int x1), (2, .int v5), (3, .int (x3 + 1))]) (zpk [0, 1, 2, 3] rfl) (ih4 x1 v5 (x3 + 1))
  have K : mSO p l e R s m args below meth c 4 A D cA B S 0 (lv_args 0 [.ref (B 0), .int a1]) [] (zFp S) (f_Mod_anyAt S a1) := by
    unfold f_Mod_anyAt
    refine so_go C0 4 (pc' := 4) (lv' := [(0, .ref (B 0)), (1, .int a1), (2, .int (-1)), (3, .int 0)]) (st' := []) rfl ?_
    exact so_sub (lv' := [(0, .ref (B 0)), (1, .int a1), (2, .int (-1)), (3, .int 0)]) (zpk [0, 1, 2, 3] rfl) (lp4 zbig a1 (-1) 0)
  exact K r hr
def f_Mod_hasArgument (S : zM) (a1 : Int32) (a2 : Int32) : Option (Int32) :=
  zob (f_Mod_anyAt S a1) fun v1 =>
  m_rd 16384 (S.1 2) v1 fun v2 =>
  if ¬ v2 = 2 then
    m_rd 4097 (S.1 30) a2 fun v4 =>
    zob (f_Mod_someAt S a1 v4) fun v5 =>
    m_rd 16384 (S.1 2) v1 fun v6 =>
    if ¬ v6 = 3 then
      some 0
    else
      if v5 < 0 then
        some 0
      else
        m_rd 16384 (S.1 5) v5 fun v9 =>
        if v9 < 0 then
          some 0
        else
          some 1
  else
    m_rd 16384 (S.1 3) v1 fun v11 =>
    m_rdl 1024 (S.2.1 1) v11 fun v12 =>
    m_rd 4097 (S.1 30) a2 fun v13 =>
    if ¬ (lg_cmp ((z_lshr v12 v13) &&& 1) 1) = 0 then
      some 0
    else
      some 1
set_option maxHeartbeats 1000000 in
set_option maxRecDepth 20000 in
theorem c_Mod_hasArgument (S : zM) (a1 : Int32) (a2 : Int32) : ∀ r, f_Mod_hasArgument S a1 a2 = some r → zMet l y_Mod_hasArgument (zw y_Mod_hasArgument prog_13_method_55_code 5 (some Jvm.ClassFile.FieldType.boolean)) 2 45 [.ref (B 0), .int a1, .int a2] D zcl (ztys cA) A (mRep D cA B A) (fun _ => 0) (fun _ => 0) S ((zFp S) r) := by
  intro r hr
  refine zMet_of ⟨Nat.le_refl _, Nat.le_refl _⟩ (by decide) tk_Mod_hasArgument (Nat.le_of_ble_eq_true rfl) ?_
  intro p e R s m args below meth c hf hlo C0 hK hA
  have K : mSO p l e R s m args below meth c 5 A D cA B S 0 (lv_args 0 [.ref (B 0), .int a1, .int a2]) [] (zFp S) (f_Mod_hasArgument S a1 a2) := by
    unfold f_Mod_hasArgument
    refine so_go C0 2 (pc' := 2) (lv' := [(0, .ref (B 0)), (1, .int a1), (2, .int a2)]) (st' := [.int a1, .ref (B 0)]) rfl ?_
    refine so_op (As := [.int a1]) (rest := []) C0 hK hA yk_Mod_anyAt (c_Mod_anyAt S a1) wd_6_144 rfl rfl ⟨by rw [hf]; decide, by rw [hlo]; decide⟩ (Nat.le_of_ble_eq_true rfl) (mrc hK) (fun v1 hv1 => ?_)
    refine so_go C0 2 (pc' := 7) (lv' := [(0, .ref (B 0)), (1, .int a1), (2, .int a2), (3, .int v1)]) (st' := [.ref (B 0)]) rfl ?_
    refine so_mget C0 hK (j := 4) (v := .ref (B 3)) (by decide) wd_5_23 rfl rfl ?_
    refine so_go C0 1 (pc' := 11) (lv' := [(0, .ref (B 0)), (1, .int a1), (2, .int a2), (3, .int v1)]) (st' := [.int v1, .ref (B 3)]) rfl ?_
    refine so_mbald C0 hK (a := 2) (by decide) rfl rfl (by decide) rfl (fun v2 hv2 => ?_)
    refine so_go C0 1 (pc' := 13) (lv' := [(0, .ref (B 0)), (1, .int a1), (2, .int a2), (3, .int v1)]) (st' := [.int 2, .int v2]) rfl ?_
    refine so_icmp_ne C0 rfl (fun h3 => ?_) (fun h3 => ?_)
    · refine so_go C0 3 (pc' := 50) (lv' := [(0, .ref (B 0)), (1, .int a1), (2, .int a2), (3, .int v1)]) (st' := [.ref (B 0), .int a1, .ref (B 0)]) rfl ?_
      refine so_mget C0 hK (j := 41) (v := .ref (B 31)) (by decide) wd_5_60 rfl rfl ?_
      refine so_go C0 1 (pc' := 54) (lv' := [(0, .ref (B 0)), (1, .int a1), (2, .int a2), (3, .int v1)]) (st' := [.int a2, .ref (B 31), .int a1, .ref (B 0)]) rfl ?_
      refine so_miald C0 hK (a := 30) (by decide) rfl rfl (by decide) rfl (fun v4 hv4 => ?_)
      refine so_op (As := [.int a1, .int v4]) (rest := []) C0 hK hA yk_Mod_someAt (c_Mod_someAt S a1 v4) wd_6_148 rfl rfl ⟨by rw [hf]; decide, by rw [hlo]; decide⟩ (Nat.le_of_ble_eq_true rfl) (mrc hK) (fun v5 hv5 => ?_)
      refine so_go C0 2 (pc' := 61) (lv' := [(0, .ref (B 0)), (1, .int a1), (2, .int a2), (3, .int v1), (4, .int v5)]) (st' := [.ref (B 0)]) rfl ?_
      refine so_mget C0 hK (j := 4) (v := .ref (B 3)) (by decide) wd_5_23 rfl rfl ?_
      refine so_go C0 1 (pc' := 65) (lv' := [(0, .ref (B 0)), (1, .int a1), (2, .int a2), (3, .int v1), (4, .int v5)]) (st' := [.int v1, .ref (B 3)]) rfl ?_
      refine so_mbald C0 hK (a := 2) (by decide) rfl rfl (by decide) rfl (fun v6 hv6 => ?_)
      refine so_go C0 1 (pc' := 67) (lv' := [(0, .ref (B 0)), (1, .int a1), (2, .int a2), (3, .int v1), (4, .int v5)]) (st' := [.int 3, .int v6]) rfl ?_
      refine so_icmp_ne C0 rfl (fun h7 => ?_) (fun h7 => ?_)
      · refine so_go C0 1 (pc' := 90) (lv' := [(0, .ref (B 0)), (1, .int a1), (2, .int a2), (3, .int v1), (4, .int v5)]) (st' := [.int 0]) rfl ?_
        exact so_retz C0 rfl rfl rfl
      · refine so_go C0 1 (pc' := 72) (lv' := [(0, .ref (B 0)), (1, .int a1), (2, .int a2), (3, .int v1), (4, .int v5)]) (st' := [.int v5]) rfl ?_
        refine so_if_lt C0 rfl (fun h8 => ?_) (fun h8 => ?_)
        · refine so_go C0 1 (pc' := 90) (lv' := [(0, .ref (B 0)), (1, .int a1), (2, .int a2), (3, .int v1), (4, .int v5)]) (st' := [.int 0]) rfl ?_
          exact so_retz C0 rfl rfl rfl
        · refine so_go C0 1 (pc' := 76) (lv' := [(0, .ref (B 0)), (1, .int a1), (2, .int a2), (3, .int v1), (4, .int v5)]) (st' := [.ref (B 0)]) rfl ?_
          refine so_mget C0 hK (j := 7) (v := .ref (B 6)) (by decide) wd_5_26 rfl rfl ?_
          refine so_go C0 1 (pc' := 81) (lv' := [(0, .ref (B 0)), (1, .int a1), (2, .int a2), (3, .int v1), (4, .int v5)]) (st' := [.int v5, .ref (B 6)]) rfl ?_
          refine so_miald C0 hK (a := 5) (by decide) rfl rfl (by decide) rfl (fun v9 hv9 => ?_)
          refine so_if_lt C0 rfl (fun h10 => ?_) (fun h10 => ?_)
          · refine so_go C0 1 (pc' := 90) (lv' := [(0, .ref (B 0)), (1, .int a1), (2, .int a2), (3, .int v1), (4, .int v5)]) (st' := [.int 0]) rfl ?_
            exact so_retz C0 rfl rfl rfl
          · refine so_go C0 2 (pc' := 90) (lv' := [(0, .ref (B 0)), (1, .int a1), (2, .int a2), (3, .int v1), (4, .int v5)]) (st' := [.int 1]) rfl ?_
            exact so_retz C0 rfl rfl rfl
    · refine so_go C0 1 (pc' := 17) (lv' := [(0, .ref (B 0)), (1, .int a1), (2, .int a2), (3, .int v1)]) (st' := [.ref (B 0)]) rfl ?_
      refine so_mget C0 hK (j := 2) (v := .ref (B 2)) (by decide) wd_5_21 rfl rfl ?_
      refine so_go C0 1 (pc' := 21) (lv' := [(0, .ref (B 0)), (1, .int a1), (2, .int a2), (3, .int v1)]) (st' := [.ref (B 0), .ref (B 2)]) rfl ?_
      refine so_mget C0 hK (j := 5) (v := .ref (B 4)) (by decide) wd_5_24 rfl rfl ?_
      refine so_go C0 1 (pc' := 25) (lv' := [(0, .ref (B 0)), (1, .int a1), (2, .int a2), (3, .int v1)]) (st' := [.int v1, .ref (B 4), .ref (B 2)]) rfl ?_
      refine so_miald C0 hK (a := 3) (by decide) rfl rfl (by decide) rfl (fun v11 hv11 => ?_)
      refine so_mlald C0 hK (a := 1) (by decide) rfl rfl (by decide) rfl (fun v12 hv12 => ?_)
      refine so_go C0 1 (pc' := 28) (lv' := [(0, .ref (B 0)), (1, .int a1), (2, .int a2), (3, .int v1)]) (st' := [.ref (B 0), .long v12]) rfl ?_
      refine so_mget C0 hK (j := 41) (v := .ref (B 31)) (by decide) wd_5_60 rfl rfl ?_
      refine so_go C0 1 (pc' := 32) (lv' := [(0, .ref (B 0)), (1, .int a1), (2, .int a2), (3, .int v1)]) (st' := [.int a2, .ref (B 31), .long v12]) rfl ?_
      refine so_miald C0 hK (a := 30) (by decide) rfl rfl (by decide) rfl (fun v13 hv13 => ?_)
      refine so_go C0 5 (pc' := 38) (lv' := [(0, .ref (B 0)), (1, .int a1), (2, .int a2), (3, .int v1)]) (st' := [.int (lg_cmp ((z_lshr v12 v13) &&& 1) 1)]) rfl ?_
      refine so_if_ne C0 rfl (fun h14 => ?_) (fun h14 => ?_)
      · refine so_go C0 1 (pc' := 46) (lv' := [(0, .ref (B 0)), (1, .int a1), (2, .int a2), (3, .int v1)]) (st' := [.int 0]) rfl ?_
        exact so_retz C0 rfl rfl rfl
      · refine so_go C0 2 (pc' := 46) (lv' := [(0, .ref (B 0)), (1, .int a1), (2, .int a2), (3, .int v1)]) (st' := [.int 1]) rfl ?_
        exact so_retz C0 rfl rfl rfl
  exact K r hr
def f_Mod_missing_L31 : Nat → zM → Int32 → Int32 → Int64 → Option (Int32)
  | 0, _, _, _, _ => none
  | n + 1, S, x3, x4, x5 =>
    if x4 = (-1) then
      if ¬ x4 = (-1) then
        if 0 ≤ x4 then
          zob (f_Mod_missedAt S x4) fun v8 =>
          if v8 < 0 then
            if ¬ x3 = 1 then
              if x4 < 0 then
                some 0
              else
                zob (f_Mod_isToldRecord S x4) fun v12 =>
                if v12 = 0 then
                  some 0
                else
                  some 4
            else
              some (-1)
          else
            if ¬ x3 = 0 then
              m_rd 4097 (S.1 30) v8 fun v15 =>
              some v15
            else
              zob (f_Mod_anyAt S x4) fun v16 =>
              m_rd 16384 (S.1 2) v16 fun v17 =>
              some v17
        else
          if ¬ x3 = 1 then
            if x4 < 0 then
              some 0
            else
              zob (f_Mod_isToldRecord S x4) fun v20 =>
              if v20 = 0 then
                some 0
              else
                some 4
          else
            some (-1)
      else
        some (-1)
    else
      if (lg_cmp (x5 &&& 255) 0) = 0 then
        if ¬ x4 = (-1) then
          if 0 ≤ x4 then
            zob (f_Mod_missedAt S x4) fun v25 =>
            if v25 < 0 then
              if ¬ x3 = 1 then
                if x4 < 0 then
                  some 0
                else
                  zob (f_Mod_isToldRecord S x4) fun v29 =>
                  if v29 = 0 then
                    some 0
                  else
                    some 4
              else
                some (-1)
            else
              if ¬ x3 = 0 then
                m_rd 4097 (S.1 30) v25 fun v32 =>
                some v32
              else
                zob (f_Mod_anyAt S x4) fun v33 =>
                m_rd 16384 (S.1 2) v33 fun v34 =>
                some v34
          else
            if ¬ x3 = 1 then
              if x4 < 0 then
                some 0
              else
                zob (f_Mod_isToldRecord S x4) fun v37 =>
                if v37 = 0 then
                  some 0
                else
                  some 4
            else
              some (-1)
        else
          some (-1)
      else
        zbind ((x5 &&& 255).toInt32) fun v39 =>
        if 0 ≤ x4 then
          zob (f_Mod_missedAt S x4) fun v41 =>
          if v41 < 0 then
            if x4 < 0 then
              zbind (z_lushr x5 8) fun v44 =>
              f_Mod_missing_L31 n S x3 (-1) v44
            else
              zob (f_Mod_isToldRecord S x4) fun v45 =>
              if v45 = 0 then
                zbind (z_lushr x5 8) fun v47 =>
                f_Mod_missing_L31 n S x3 (-1) v47
              else
                m_rd 16386 (S.1 22) x4 fun v48 =>
                if v48 < v39 then
                  zbind (z_lushr x5 8) fun v50 =>
                  f_Mod_missing_L31 n S x3 (-1) v50
                else
                  if v41 < 0 then
                    zob (f_Mod_childOf S x4 v39.toInt64) fun v52 =>
                    if 0 ≤ v52 then
                      zbind (z_lushr x5 8) fun v54 =>
                      f_Mod_missing_L31 n S x3 v52 v54
                    else
                      zbind (z_lushr x5 8) fun v55 =>
                      f_Mod_missing_L31 n S x3 (-2) v55
                  else
                    zob (f_Mod_anyAt S x4) fun v56 =>
                    m_rd 4097 (S.1 30) v41 fun v57 =>
                    zob (f_Mod_inside S v56 v57.toInt64) fun v58 =>
                    zob (f_Mod_childOf S x4 v58) fun v59 =>
                    if 0 ≤ v59 then
                      zbind (z_lushr x5 8) fun v61 =>
                      f_Mod_missing_L31 n S x3 v59 v61
                    else
                      zbind (z_lushr x5 8) fun v62 =>
                      f_Mod_missing_L31 n S x3 (-2) v62
          else
            if ¬ v39 = 1 then
              zbind (z_lushr x5 8) fun v64 =>
              f_Mod_missing_L31 n S x3 (-1) v64
            else
              zob (f_Mod_hasArgument S x4 v41) fun v65 =>
              if v65 = 0 then
                zbind (z_lushr x5 8) fun v67 =>
                f_Mod_missing_L31 n S x3 (-1) v67
              else
                if v41 < 0 then
                  zob (f_Mod_childOf S x4 v39.toInt64) fun v69 =>
                  if 0 ≤ v69 then
                    zbind (z_lushr x5 8) fun v71 =>
                    f_Mod_missing_L31 n S x3 v69 v71
                  else
                    zbind (z_lushr x5 8) fun v72 =>
                    f_Mod_missing_L31 n S x3 (-2) v72
                else
                  zob (f_Mod_anyAt S x4) fun v73 =>
                  m_rd 4097 (S.1 30) v41 fun v74 =>
                  zob (f_Mod_inside S v73 v74.toInt64) fun v75 =>
                  zob (f_Mod_childOf S x4 v75) fun v76 =>
                  if 0 ≤ v76 then
                    zbind (z_lushr x5 8) fun v78 =>
                    f_Mod_missing_L31 n S x3 v76 v78
                  else
                    zbind (z_lushr x5 8) fun v79 =>
                    f_Mod_missing_L31 n S x3 (-2) v79
        else
          if x4 < 0 then
            zbind (z_lushr x5 8) fun v81 =>
            f_Mod_missing_L31 n S x3 (-1) v81
          else
            zob (f_Mod_isToldRecord S x4) fun v82 =>
            if v82 = 0 then
              zbind (z_lushr x5 8) fun v84 =>
              f_Mod_missing_L31 n S x3 (-1) v84
            else
              m_rd 16386 (S.1 22) x4 fun v85 =>
              if v85 < v39 then
                zbind (z_lushr x5 8) fun v87 =>
                f_Mod_missing_L31 n S x3 (-1) v87
              else
                zob (f_Mod_childOf S x4 v39.toInt64) fun v88 =>
                if 0 ≤ v88 then
                  zbind (z_lushr x5 8) fun v90 =>
                  f_Mod_missing_L31 n S x3 v88 v90
                else
                  zbind (z_lushr x5 8) fun v91 =>
                  f_Mod_missing_L31 n S x3 (-2) v91
def f_Mod_missing (S : zM) (a1 : Int64) (a2 : Int32) : Option (Int32) :=
  if (S.2.2 7) = 0 then
    some (-1)
  else
    if (S.2.2 10) < 0 then
      some (-1)
    else
      if a2 < 0 then
        some (-1)
      else
        if a2 ≤ 1 then
          f_Mod_missing_L31 zbig S a2 0 a1
        else
          some (-1)
set_option maxHeartbeats 1000000 in
set_option maxRecDepth 20000 in
theorem c_Mod_missing (S : zM) (a1 : Int64) (a2 : Int32) : ∀ r, f_Mod_missing S a1 a2 = some r → zMet l y_Mod_missing (zw y_Mod_missing prog_13_method_58_code 11 (some Jvm.ClassFile.FieldType.int)) 3 69 [.ref (B 0), .long a1, .int a2] D zcl (ztys cA) A (mRep D cA B A) (fun _ => 0) (fun _ => 0) S ((zFp S) r) := by
  intro r hr
  refine zMet_of ⟨Nat.le_refl _, Nat.le_refl _⟩ (by decide) tk_Mod_missing (Nat.le_of_ble_eq_true rfl) ?_
  intro p e R s m args below meth c hf hlo C0 hK hA
  have lp31 : ∀ (n : Nat) (x3 : Int32) (x4 : Int32) (x5 : Int64), mSO p l e R s m args below meth c 11 A D cA B S 31 [(0, .ref (B 0)), (3, .int x3), (4, .int x4), (5, .long x5)] [] (zFp S) (f_Mod_missing_L31 n S x3 x4 x5) := by
    intro n
    induction n with
    | zero =>
      intro x3 x4 x5
      rw [f_Mod_missing_L31]
      exact so_none
    | succ n ih31 =>
      intro x3 x4 x5
      rw [f_Mod_missing_L31]
      refine so_go C0 2 (pc' := 34) (lv' := [(0, .ref (B 0)), (3, .int x3), (4, .int x4), (5, .long x5)]) (st' := [.int (-1), .int x4]) rfl ?_
      refine so_icmp_eq C0 rfl (fun h5 => ?_) (fun h5 => ?_)
      · refine so_go C0 2 (pc' := 219) (lv' := [(0, .ref (B 0)), (3, .int x3), (4, .int x4), (5, .long x5)]) (st' := [.int (-1), .int x4]) rfl ?_
        refine so_icmp_ne C0 rfl (fun h6 => ?_) (fun h6 => ?_)
        · refine so_go C0 1 (pc' := 226) (lv' := [(0, .ref (B 0)), (3, .int x3), (4, .int x4), (5, .long x5)]) (st' := [.int x4]) rfl ?_
          refine so_if_ge C0 rfl (fun h7 => ?_) (fun h7 => ?_)
          · refine so_go C0 2 (pc' := 236) (lv' := [(0, .ref (B 0)), (3, .int x3), (4, .int x4), (5, .long x5)]) (st' := [.int x4, .ref (B 0)]) rfl ?_
            refine so_op (As := [.int x4]) (rest := []) C0 hK hA yk_Mod_missedAt (c_Mod_missedAt S x4) wd_6_136 rfl rfl ⟨by rw [hf]; decide, by rw [hlo]; decide⟩ (Nat.le_of_ble_eq_true rfl) (mrc hK) (fun v8 hv8 => ?_)
            refine so_go C0 2 (pc' := 243) (lv' := [(0, .ref (B 0)), (3, .int x3), (4, .int x4), (5, .int v8)]) (st' := [.int v8]) rfl ?_
            refine so_if_lt C0 rfl (fun h9 => ?_) (fun h9 => ?_)
            · refine so_go C0 2 (pc' := 274) (lv' := [(0, .ref (B 0)), (3, .int x3), (4, .int x4), (5, .int v8)]) (st' := [.int 1, .int x3]) rfl ?_
              refine so_icmp_ne C0 rfl (fun h10 => ?_) (fun h10 => ?_)
              · refine so_go C0 1 (pc' := 283) (lv' := [(0, .ref (B 0)), (3, .int x3), (4, .int x4), (5, .int v8)]) (st' := [.int x4]) rfl ?_
                refine so_if_lt C0 rfl (fun h11 => ?_) (fun h11 => ?_)
                · refine so_go C0 1 (pc' := 300) (lv' := [(0, .ref (B 0)), (3, .int x3), (4, .int x4), (5, .int v8)]) (st' := [.int 0]) rfl ?_
                  exact so_reti C0 rfl rfl
                · refine so_go C0 2 (pc' := 289) (lv' := [(0, .ref (B 0)), (3, .int x3), (4, .int x4), (5, .int v8)]) (st' := [.int x4, .ref (B 0)]) rfl ?_
                  refine so_op (As := [.int x4]) (rest := []) C0 hK hA yk_Mod_isToldRecord (c_Mod_isToldRecord S x4) wd_6_152 rfl rfl ⟨by rw [hf]; decide, by rw [hlo]; decide⟩ (Nat.le_of_ble_eq_true rfl) (mrc hK) (fun v12 hv12 => ?_)
                  refine so_if_eq C0 rfl (fun h13 => ?_) (fun h13 => ?_)
                  · refine so_go C0 1 (pc' := 300) (lv' := [(0, .ref (B 0)), (3, .int x3), (4, .int x4), (5, .int v8)]) (st' := [.int 0]) rfl ?_
                    exact so_reti C0 rfl rfl
                  · refine so_go C0 2 (pc' := 300) (lv' := [(0, .ref (B 0)), (3, .int x3), (4, .int x4), (5, .int v8)]) (st' := [.int 4]) rfl ?_
                    exact so_reti C0 rfl rfl
              · refine so_go C0 2 (pc' := 300) (lv' := [(0, .ref (B 0)), (3, .int x3), (4, .int x4), (5, .int v8)]) (st' := [.int (-1)]) rfl ?_
                exact so_reti C0 rfl rfl
            · refine so_go C0 1 (pc' := 247) (lv' := [(0, .ref (B 0)), (3, .int x3), (4, .int x4), (5, .int v8)]) (st' := [.int x3]) rfl ?_
              refine so_if_ne C0 rfl (fun h14 => ?_) (fun h14 => ?_)
              · refine so_go C0 1 (pc' := 265) (lv' := [(0, .ref (B 0)), (3, .int x3), (4, .int x4), (5, .int v8)]) (st' := [.ref (B 0)]) rfl ?_
                refine so_mget C0 hK (j := 41) (v := .ref (B 31)) (by decide) wd_5_60 rfl rfl ?_
                refine so_go C0 1 (pc' := 270) (lv' := [(0, .ref (B 0)), (3, .int x3), (4, .int x4), (5, .int v8)]) (st' := [.int v8, .ref (B 31)]) rfl ?_
                refine so_miald C0 hK (a := 30) (by decide) rfl rfl (by decide) rfl (fun v15 hv15 => ?_)
                exact so_reti C0 rfl rfl
              · refine so_go C0 1 (pc' := 251) (lv' := [(0, .ref (B 0)), (3, .int x3), (4, .int x4), (5, .int v8)]) (st' := [.ref (B 0)]) rfl ?_
                refine so_mget C0 hK (j := 4) (v := .ref (B 3)) (by decide) wd_5_23 rfl rfl ?_
                refine so_go C0 2 (pc' := 257) (lv' := [(0, .ref (B 0)), (3, .int x3), (4, .int x4), (5, .int v8)]) (st' := [.int x4, .ref (B 0), .ref (B 3)]) rfl ?_
                refine so_op (As := [.int x4]) (rest := [.ref (B 3)]) C0 hK hA yk_Mod_anyAt (c_Mod_anyAt S x4) wd_6_144 rfl rfl ⟨by rw [hf]; decide, by rw [hlo]; decide⟩ (Nat.le_of_ble_eq_true rfl) (mrc hK) (fun v16 hv16 => ?_)
                refine so_mbald C0 hK (a := 2) (by decide) rfl rfl (by decide) rfl (fun v17 hv17 => ?_)
                refine so_go C0 1 (pc' := 271) (lv' := [(0, .ref (B 0)), (3, .int x3), (4, .int x4), (5, .int v8)]) (st' := [.int v17]) rfl ?_
                exact so_reti C0 rfl rfl
          · refine so_go C0 4 (pc' := 243) (lv' := [(0, .ref (B 0)), (3, .int x3), (4, .int x4), (5, .int (-1))]) (st' := [.int (-1)]) rfl ?_
            refine so_if_ltT C0 rfl (by decide) ?_
            refine so_go C0 2 (pc' := 274) (lv' := [(0, .ref (B 0)), (3, .int x3), (4, .int x4), (5, .int (-1))]) (st' := [.int 1, .int x3]) rfl ?_
            refine so_icmp_ne C0 rfl (fun h18 => ?_) (fun h18 => ?_)
            · refine so_go C0 1 (pc' := 283) (lv' := [(0, .ref (B 0)), (3, .int x3), (4, .int x4), (5, .int (-1))]) (st' := [.int x4]) rfl ?_
              refine so_if_lt C0 rfl (fun h19 => ?_) (fun h19 => ?_)
              · refine so_go C0 1 (pc' := 300) (lv' := [(0, .ref (B 0)), (3, .int x3), (4, .int x4), (5, .int (-1))]) (st' := [.int 0]) rfl ?_
                exact so_reti C0 rfl rfl
              · refine so_go C0 2 (pc' := 289) (lv' := [(0, .ref (B 0)), (3, .int x3), (4, .int x4), (5, .int (-1))]) (st' := [.int x4, .ref (B 0)]) rfl ?_
                refine so_op (As := [.int x4]) (rest := []) C0 hK hA yk_Mod_isToldRecord (c_Mod_isToldRecord S x4) wd_6_152 rfl rfl ⟨by rw [hf]; decide, by rw [hlo]; decide⟩ (Nat.le_of_ble_eq_true rfl) (mrc hK) (fun v20 hv20 => ?_)
                refine so_if_eq C0 rfl (fun h21 => ?_) (fun h21 => ?_)
                · refine so_go C0 1 (pc' := 300) (lv' := [(0, .ref (B 0)), (3, .int x3), (4, .int x4), (5, .int (-1))]) (st' := [.int 0]) rfl ?_
                  exact so_reti C0 rfl rfl
                · refine so_go C0 2 (pc' := 300) (lv' := [(0, .ref (B 0)), (3, .int x3), (4, .int x4), (5, .int (-1))]) (st' := [.int 4]) rfl ?_
                  exact so_reti C0 rfl rfl
            · refine so_go C0 2 (pc' := 300) (lv' := [(0, .ref (B 0)), (3, .int x3), (4, .int x4), (5, .int (-1))]) (st' := [.int (-1)]) rfl ?_
              exact so_reti C0 rfl rfl
        · refine so_go C0 1 (pc' := 223) (lv' := [(0, .ref (B 0)), (3, .int x3), (4, .int x4), (5, .long x5)]) (st' := [.int (-1)]) rfl ?_
          exact so_reti C0 rfl rfl
      · refine so_go C0 1 (pc' := 39) (lv' := [(0, .ref (B 0)), (3, .int x3), (4, .int x4), (5, .long x5)]) (st' := [.long x5]) rfl ?_
        refine so_ldc2 C0 wd_6_135 rfl ?_
        refine so_go C0 3 (pc' := 45) (lv' := [(0, .ref (B 0)), (3, .int x3), (4, .int x4), (5, .long x5)]) (st' := [.int (lg_cmp (x5 &&& 255) 0)]) rfl ?_
        refine so_if_eq C0 rfl (fun h22 => ?_) (fun h22 => ?_)
        · refine so_go C0 2 (pc' := 219) (lv' := [(0, .ref (B 0)), (3, .int x3), (4, .int x4), (5, .long x5)]) (st' := [.int (-1), .int x4]) rfl ?_
          refine so_icmp_ne C0 rfl (fun h23 => ?_) (fun h23 => ?_)
          · refine so_go C0 1 (pc' := 226) (lv' := [(0, .ref (B 0)), (3, .int x3), (4, .int x4), (5, .long x5)]) (st' := [.int x4]) rfl ?_
            refine so_if_ge C0 rfl (fun h24 => ?_) (fun h24 => ?_)
            · refine so_go C0 2 (pc' := 236) (lv' := [(0, .ref (B 0)), (3, .int x3), (4, .int x4), (5, .long x5)]) (st' := [.int x4, .ref (B 0)]) rfl ?_
              refine so_op (As := [.int x4]) (rest := []) C0 hK hA yk_Mod_missedAt (c_Mod_missedAt S x4) wd_6_136 rfl rfl ⟨by rw [hf]; decide, by rw [hlo]; decide⟩ (Nat.le_of_ble_eq_true rfl) (mrc hK) (fun v25 hv25 => ?_)
              refine so_go C0 2 (pc' := 243) (lv' := [(0, .ref (B 0)), (3, .int x3), (4, .int x4), (5, .int v25)]) (st' := [.int v25]) rfl ?_
              refine so_if_lt C0 rfl (fun h26 => ?_) (fun h26 => ?_)
              · refine so_go C0 2 (pc' := 274) (lv' := [(0, .ref (B 0)), (3, .int x3), (4, .int x4), (5, .int v25)]) (st' := [.int 1, .int x3]) rfl ?_
                refine so_icmp_ne C0 rfl (fun h27 => ?_) (fun h27 => ?_)
                · refine so_go C0 1 (pc' := 283) (lv' := [(0, .ref (B 0)), (3, .int x3), (4, .int x4), (5, .int v25)]) (st' := [.int x4]) rfl ?_
                  refine so_if_lt C0 rfl (fun h28 => ?_) (fun h28 => ?_)
                  · refine so_go C0 1 (pc' := 300) (lv' := [(0, .ref (B 0)), (3, .int x3), (4, .int x4), (5, .int v25)]) (st' := [.int 0]) rfl ?_
                    exact so_reti C0 rfl rfl
                  · refine so_go C0 2 (pc' := 289) (lv' := [(0, .ref (B 0)), (3, .int x3), (4, .int x4), (5, .int v25)]) (st' := [.int x4, .ref (B 0)]) rfl ?_
                    refine so_op (As := [.int x4]) (rest := []) C0 hK hA yk_Mod_isToldRecord (c_Mod_isToldRecord S x4) wd_6_152 rfl rfl ⟨by rw [hf]; decide, by rw [hlo]; decide⟩ (Nat.le_of_ble_eq_true rfl) (mrc hK) (fun v29 hv29 => ?_)
                    refine so_if_eq C0 rfl (fun h30 => ?_) (fun h30 => ?_)
                    · refine so_go C0 1 (pc' := 300) (lv' := [(0, .ref (B 0)), (3, .int x3), (4, .int x4), (5, .int v25)]) (st' := [.int 0]) rfl ?_
                      exact so_reti C0 rfl rfl
                    · refine so_go C0 2 (pc' := 300) (lv' := [(0, .ref (B 0)), (3, .int x3), (4, .int x4), (5, .int v25)]) (st' := [.int 4]) rfl ?_
                      exact so_reti C0 rfl rfl
                · refine so_go C0 2 (pc' := 300) (lv' := [(0, .ref (B 0)), (3, .int x3), (4, .int x4), (5, .int v25)]) (st' := [.int (-1)]) rfl ?_
                  exact so_reti C0 rfl rfl
              · refine so_go C0 1 (pc' := 247) (lv' := [(0, .ref (B 0)), (3, .int x3), (4, .int x4), (5, .int v25)]) (st' := [.int x3]) rfl ?_
                refine so_if_ne C0 rfl (fun h31 => ?_) (fun h31 => ?_)
                · refine so_go C0 1 (pc' := 265) (lv' := [(0, .ref (B 0)), (3, .int x3), (4, .int x4), (5, .int v25)]) (st' := [.ref (B 0)]) rfl ?_
                  refine so_mget C0 hK (j := 41) (v := .ref (B 31)) (by decide) wd_5_60 rfl rfl ?_
                  refine so_go C0 1 (pc' := 270) (lv' := [(0, .ref (B 0)), (3, .int x3), (4, .int x4), (5, .int v25)]) (st' := [.int v25, .ref (B 31)]) rfl ?_
                  refine so_miald C0 hK (a := 30) (by decide) rfl rfl (by decide) rfl (fun v32 hv32 => ?_)
                  exact so_reti C0 rfl rfl
                · refine so_go C0 1 (pc' := 251) (lv' := [(0, .ref (B 0)), (3, .int x3), (4, .int x4), (5, .int v25)]) (st' := [.ref (B 0)]) rfl ?_
                  refine so_mget C0 hK (j := 4) (v := .ref (B 3)) (by decide) wd_5_23 rfl rfl ?_
                  refine so_go C0 2 (pc' := 257) (lv' := [(0, .ref (B 0)), (3, .int x3), (4, .int x4), (5, .int v25)]) (st' := [.int x4, .ref (B 0), .ref (B 3)]) rfl ?_
                  refine so_op (As := [.int x4]) (rest := [.ref (B 3)]) C0 hK hA yk_Mod_anyAt (c_Mod_anyAt S x4) wd_6_144 rfl rfl ⟨by rw [hf]; decide, by rw [hlo]; decide⟩ (Nat.le_of_ble_eq_true rfl) (mrc hK) (fun v33 hv33 => ?_)
                  refine so_mbald C0 hK (a := 2) (by decide) rfl rfl (by decide) rfl (fun v34 hv34 => ?_)
                  refine so_go C0 1 (pc' := 271) (lv' := [(0, .ref (B 0)), (3, .int x3), (4, .int x4), (5, .int v25)]) (st' := [.int v34]) rfl ?_
                  exact so_reti C0 rfl rfl
            · refine so_go C0 4 (pc' := 243) (lv' := [(0, .ref (B 0)), (3, .int x3), (4, .int x4), (5, .int (-1))]) (st' := [.int (-1)]) rfl ?_
              refine so_if_ltT C0 rfl (by decide) ?_
              refine so_go C0 2 (pc' := 274) (lv' := [(0, .ref (B 0)), (3, .int x3), (4, .int x4), (5, .int (-1))]) (st' := [.int 1, .int x3]) rfl ?_
              refine so_icmp_ne C0 rfl (fun h35 => ?_) (fun h35 => ?_)
              · refine so_go C0 1 (pc' := 283) (lv' := [(0, .ref (B 0)), (3, .int x3), (4, .int x4), (5, .int (-1))]) (st' := [.int x4]) rfl ?_
                refine so_if_lt C0 rfl (fun h36 => ?_) (fun h36 => ?_)
                · refine so_go C0 1 (pc' := 300) (lv' := [(0, .ref (B 0)), (3, .int x3), (4, .int x4), (5, .int (-1))]) (st' := [.int 0]) rfl ?_
                  exact so_reti C0 rfl rfl
                · refine so_go C0 2 (pc' := 289) (lv' := [(0, .ref (B 0)), (3, .int x3), (4, .int x4), (5, .int (-1))]) (st' := [.int x4, .ref (B 0)]) rfl ?_
                  refine so_op (As := [.int x4]) (rest := []) C0 hK hA yk_Mod_isToldRecord (c_Mod_isToldRecord S x4) wd_6_152 rfl rfl ⟨by rw [hf]; decide, by rw [hlo]; decide⟩ (Nat.le_of_ble_eq_true rfl) (mrc hK) (fun v37 hv37 => ?_)
                  refine so_if_eq C0 rfl (fun h38 => ?_) (fun h38 => ?_)
                  · refine so_go C0 1 (pc' := 300) (lv' := [(0, .ref (B 0)), (3, .int x3), (4, .int x4), (5, .int (-1))]) (st' := [.int 0]) rfl ?_
                    exact so_reti C0 rfl rfl
                  · refine so_go C0 2 (pc' := 300) (lv' := [(0, .ref (B 0)), (3, .int x3), (4, .int x4), (5, .int (-1))]) (st' := [.int 4]) rfl ?_
                    exact so_reti C0 rfl rfl
              · refine so_go C0 2 (pc' := 300) (lv' := [(0, .ref (B 0)), (3, .int x3), (4, .int x4), (5, .int (-1))]) (st' := [.int (-1)]) rfl ?_
                exact so_reti C0 rfl rfl
          · refine so_go C0 1 (pc' := 223) (lv' := [(0, .ref (B 0)), (3, .int x3), (4, .int x4), (5, .long x5)]) (st' := [.int (-1)]) rfl ?_
            exact so_reti C0 rfl rfl
        · refine so_go C0 1 (pc' := 50) (lv' := [(0, .ref (B 0)), (3, .int x3), (4, .int x4), (5, .long x5)]) (st' := [.long x5]) rfl ?_
          refine so_ldc2 C0 wd_6_135 rfl ?_
          refine so_go C0 2 (pc' := 55) (lv' := [(0, .ref (B 0)), (3, .int x3), (4, .int x4), (5, .long x5)]) (st' := [.int ((x5 &&& 255).toInt32)]) rfl ?_
          refine so_nm (V := .int) (fun v39 hv39 => ?_)
          refine so_go C0 2 (pc' := 59) (lv' := [(0, .ref (B 0)), (3, .int x3), (4, .int x4), (5, .long x5), (7, .int v39)]) (st' := [.int x4]) rfl ?_
          refine so_if_ge C0 rfl (fun h40 => ?_) (fun h40 => ?_)
          · refine so_go C0 2 (pc' := 69) (lv' := [(0, .ref (B 0)), (3, .int x3), (4, .int x4), (5, .long x5), (7, .int v39)]) (st' := [.int x4, .ref (B 0)]) rfl ?_
            refine so_op (As := [.int x4]) (rest := []) C0 hK hA yk_Mod_missedAt (c_Mod_missedAt S x4) wd_6_136 rfl rfl ⟨by rw [hf]; decide, by rw [hlo]; decide⟩ (Nat.le_of_ble_eq_true rfl) (mrc hK) (fun v41 hv41 => ?_)
            refine so_go C0 2 (pc' := 76) (lv' := [(0, .ref (B 0)), (3, .int x3), (4, .int x4), (5, .long x5), (7, .int v39), (8, .int v41)]) (st' := [.int v41]) rfl ?_
            refine so_if_lt C0 rfl (fun h42 => ?_) (fun h42 => ?_)
            · refine so_go C0 1 (pc' := 106) (lv' := [(0, .ref (B 0)), (3, .int x3), (4, .int x4), (5, .long x5), (7, .int v39), (8, .int v41)]) (st' := [.int x4]) rfl ?_
              refine so_if_lt C0 rfl (fun h43 => ?_) (fun h43 => ?_)
              · refine so_go C0 3 (pc' := 139) (lv' := [(0, .ref (B 0)), (3, .int x3), (4, .int x4), (5, .long x5), (7, .int v39), (8, .int v41), (9, .int 0)]) (st' := [.int 0]) rfl ?_
                refine so_if_eqT C0 rfl (by decide) ?_
                refine so_go C0 3 (pc' := 185) (lv' := [(0, .ref (B 0)), (3, .int x3), (4, .int x4), (5, .long x5), (7, .int v39), (8, .int v41), (9, .int 0), (10, .int (-1))]) (st' := [.int 0]) rfl ?_
                refine so_if_neF C0 rfl (by decide) ?_
                refine so_go C0 6 (pc' := 211) (lv' := [(0, .ref (B 0)), (3, .int x3), (4, .int (-1)), (5, .long x5), (7, .int v39), (8, .int v41), (9, .int 0), (10, .int (-1))]) (st' := [.long (z_lushr x5 8)]) rfl ?_
                refine so_nm (V := .long) (fun v44 hv44 => ?_)
                refine so_go C0 2 (pc' := 31) (lv' := [(0, .ref (B 0)), (3, .int x3), (4, .int (-1)), (5, .long v44), (7, .int v39), (8, .int v41), (9, .int 0), (10, .int (-1))]) (st' := []) rfl ?_
                exact so_sub (lv' := [(0, .ref (B 0)), (3, .int x3), (4, .int (-1)), (5, .long v44)]) (zpk [0, 1, 2, 3] rfl) (ih31 x3 (-1) v44)
              · refine so_go C0 2 (pc' := 112) (lv' := [(0, .ref (B 0)), (3, .int x3), (4, .int x4), (5, .long x5), (7, .int v39), (8, .int v41)]) (st' := [.int x4, .ref (B 0)]) rfl ?_
                refine so_op (As := [.int x4]) (rest := []) C0 hK hA yk_Mod_isToldRecord (c_Mod_isToldRecord S x4) wd_6_152 rfl rfl ⟨by rw [hf]; decide, by rw [hlo]; decide⟩ (Nat.le_of_ble_eq_true rfl) (mrc hK) (fun v45 hv45 => ?_)
                refine so_if_eq C0 rfl (fun h46 => ?_) (fun h46 => ?_)
                · refine so_go C0 3 (pc' := 139) (lv' := [(0, .ref (B 0)), (3, .int x3), (4, .int x4), (5, .long x5), (7, .int v39), (8, .int v41), (9, .int 0)]) (st' := [.int 0]) rfl ?_
                  refine so_if_eqT C0 rfl (by decide) ?_
                  refine so_go C0 3 (pc' := 185) (lv' := [(0, .ref (B 0)), (3, .int x3), (4, .int x4), (5, .long x5), (7, .int v39), (8, .int v41), (9, .int 0), (10, .int (-1))]) (st' := [.int 0]) rfl ?_
                  refine so_if_neF C0 rfl (by decide) ?_
                  refine so_go C0 6 (pc' := 211) (lv' := [(0, .ref (B 0)), (3, .int x3), (4, .int (-1)), (5, .long x5), (7, .int v39), (8, .int v41), (9, .int 0), (10, .int (-1))]) (st' := [.long (z_lushr x5 8)]) rfl ?_
                  refine so_nm (V := .long) (fun v47 hv47 => ?_)
                  refine so_go C0 2 (pc' := 31) (lv' := [(0, .ref (B 0)), (3, .int x3), (4, .int (-1)), (5, .long v47), (7, .int v39), (8, .int v41), (9, .int 0), (10, .int (-1))]) (st' := []) rfl ?_
                  exact so_sub (lv' := [(0, .ref (B 0)), (3, .int x3), (4, .int (-1)), (5, .long v47)]) (zpk [0, 1, 2, 3] rfl) (ih31 x3 (-1) v47)
                · refine so_go C0 2 (pc' := 121) (lv' := [(0, .ref (B 0)), (3, .int x3), (4, .int x4), (5, .long x5), (7, .int v39), (8, .int v41)]) (st' := [.ref (B 0), .int v39]) rfl ?_
                  refine so_mget C0 hK (j := 29) (v := .ref (B 23)) (by decide) wd_5_48 rfl rfl ?_
                  refine so_go C0 1 (pc' := 126) (lv' := [(0, .ref (B 0)), (3, .int x3), (4, .int x4), (5, .long x5), (7, .int v39), (8, .int v41)]) (st' := [.int x4, .ref (B 23), .int v39]) rfl ?_
                  refine so_miald C0 hK (a := 22) (by decide) rfl rfl (by decide) rfl (fun v48 hv48 => ?_)
                  refine so_icmp_gt C0 rfl (fun h49 => ?_) (fun h49 => ?_)
                  · refine so_go C0 3 (pc' := 139) (lv' := [(0, .ref (B 0)), (3, .int x3), (4, .int x4), (5, .long x5), (7, .int v39), (8, .int v41), (9, .int 0)]) (st' := [.int 0]) rfl ?_
                    refine so_if_eqT C0 rfl (by decide) ?_
                    refine so_go C0 3 (pc' := 185) (lv' := [(0, .ref (B 0)), (3, .int x3), (4, .int x4), (5, .long x5), (7, .int v39), (8, .int v41), (9, .int 0), (10, .int (-1))]) (st' := [.int 0]) rfl ?_
                    refine so_if_neF C0 rfl (by decide) ?_
                    refine so_go C0 6 (pc' := 211) (lv' := [(0, .ref (B 0)), (3, .int x3), (4, .int (-1)), (5, .long x5), (7, .int v39), (8, .int v41), (9, .int 0), (10, .int (-1))]) (st' := [.long (z_lushr x5 8)]) rfl ?_
                    refine so_nm (V := .long) (fun v50 hv50 => ?_)
                    refine so_go C0 2 (pc' := 31) (lv' := [(0, .ref (B 0)), (3, .int x3), (4, .int (-1)), (5, .long v50), (7, .int v39), (8, .int v41), (9, .int 0), (10, .int (-1))]) (st' := []) rfl ?_
                    exact so_sub (lv' := [(0, .ref (B 0)), (3, .int x3), (4, .int (-1)), (5, .long v50)]) (zpk [0, 1, 2, 3] rfl) (ih31 x3 (-1) v50)
                  · refine so_go C0 4 (pc' := 139) (lv' := [(0, .ref (B 0)), (3, .int x3), (4, .int x4), (5, .long x5), (7, .int v39), (8, .int v41), (9, .int 1)]) (st' := [.int 1]) rfl ?_
                    refine so_if_eqF C0 rfl (by decide) ?_
                    refine so_go C0 3 (pc' := 147) (lv' := [(0, .ref (B 0)), (3, .int x3), (4, .int x4), (5, .long x5), (7, .int v39), (8, .int v41), (9, .int 1)]) (st' := [.int v41, .int x4, .ref (B 0)]) rfl ?_
                    refine so_if_lt C0 rfl (fun h51 => ?_) (fun h51 => ?_)
                    · refine so_go C0 2 (pc' := 174) (lv' := [(0, .ref (B 0)), (3, .int x3), (4, .int x4), (5, .long x5), (7, .int v39), (8, .int v41), (9, .int 1)]) (st' := [.long v39.toInt64, .int x4, .ref (B 0)]) rfl ?_
                      refine so_op (As := [.int x4, .long v39.toInt64]) (rest := []) C0 hK hA yk_Mod_childOf (c_Mod_childOf S x4 v39.toInt64) wd_6_10 rfl rfl ⟨by rw [hf]; decide, by rw [hlo]; decide⟩ (Nat.le_of_ble_eq_true rfl) (mrc hK) (fun v52 hv52 => ?_)
                      refine so_go C0 3 (pc' := 185) (lv' := [(0, .ref (B 0)), (3, .int x3), (4, .int x4), (5, .long x5), (7, .int v39), (8, .int v41), (9, .int 1), (10, .int v52)]) (st' := [.int 1]) rfl ?_
                      refine so_if_neT C0 rfl (by decide) ?_
                      refine so_go C0 1 (pc' := 194) (lv' := [(0, .ref (B 0)), (3, .int x3), (4, .int x4), (5, .long x5), (7, .int v39), (8, .int v41), (9, .int 1), (10, .int v52)]) (st' := [.int v52]) rfl ?_
                      refine so_if_ge C0 rfl (fun h53 => ?_) (fun h53 => ?_)
                      · refine so_go C0 5 (pc' := 211) (lv' := [(0, .ref (B 0)), (3, .int x3), (4, .int v52), (5, .long x5), (7, .int v39), (8, .int v41), (9, .int 1), (10, .int v52)]) (st' := [.long (z_lushr x5 8)]) rfl ?_
                        refine so_nm (V := .long) (fun v54 hv54 => ?_)
                        refine so_go C0 2 (pc' := 31) (lv' := [(0, .ref (B 0)), (3, .int x3), (4, .int v52), (5, .long v54), (7, .int v39), (8, .int v41), (9, .int 1), (10, .int v52)]) (st' := []) rfl ?_
                        exact so_sub (lv' := [(0, .ref (B 0)), (3, .int x3), (4, .int v52), (5, .long v54)]) (zpk [0, 1, 2, 3] rfl) (ih31 x3 v52 v54)
                      · refine so_go C0 6 (pc' := 211) (lv' := [(0, .ref (B 0)), (3, .int x3), (4, .int (-2)), (5, .long x5), (7, .int v39), (8, .int v41), (9, .int 1), (10, .int v52)]) (st' := [.long (z_lushr x5 8)]) rfl ?_
                        refine so_nm (V := .long) (fun v55 hv55 => ?_)
                        refine so_go C0 2 (pc' := 31) (lv' := [(0, .ref (B 0)), (3, .int x3), (4, .int (-2)), (5, .long v55), (7, .int v39), (8, .int v41), (9, .int 1), (10, .int v52)]) (st' := []) rfl ?_
                        exact so_sub (lv' := [(0, .ref (B 0)), (3, .int x3), (4, .int (-2)), (5, .long v55)]) (zpk [0, 1, 2, 3] rfl) (ih31 x3 (-2) v55)
                    · refine so_go C0 3 (pc' := 154) (lv' := [(0, .ref (B 0)), (3, .int x3), (4, .int x4), (5, .long x5), (7, .int v39), (8, .int v41), (9, .int 1)]) (st' := [.int x4, .ref (B 0), .ref (B 0), .int x4, .ref (B 0)]) rfl ?_
                      refine so_op (As := [.int x4]) (rest := [.ref (B 0), .int x4, .ref (B 0)]) C0 hK hA yk_Mod_anyAt (c_Mod_anyAt S x4) wd_6_144 rfl rfl ⟨by rw [hf]; decide, by rw [hlo]; decide⟩ (Nat.le_of_ble_eq_true rfl) (mrc hK) (fun v56 hv56 => ?_)
                      refine so_go C0 1 (pc' := 158) (lv' := [(0, .ref (B 0)), (3, .int x3), (4, .int x4), (5, .long x5), (7, .int v39), (8, .int v41), (9, .int 1)]) (st' := [.ref (B 0), .int v56, .ref (B 0), .int x4, .ref (B 0)]) rfl ?_
                      refine so_mget C0 hK (j := 41) (v := .ref (B 31)) (by decide) wd_5_60 rfl rfl ?_
                      refine so_go C0 1 (pc' := 163) (lv' := [(0, .ref (B 0)), (3, .int x3), (4, .int x4), (5, .long x5), (7, .int v39), (8, .int v41), (9, .int 1)]) (st' := [.int v41, .ref (B 31), .int v56, .ref (B 0), .int x4, .ref (B 0)]) rfl ?_
                      refine so_miald C0 hK (a := 30) (by decide) rfl rfl (by decide) rfl (fun v57 hv57 => ?_)
                      refine so_go C0 1 (pc' := 165) (lv' := [(0, .ref (B 0)), (3, .int x3), (4, .int x4), (5, .long x5), (7, .int v39), (8, .int v41), (9, .int 1)]) (st' := [.long v57.toInt64, .int v56, .ref (B 0), .int x4, .ref (B 0)]) rfl ?_
                      refine so_opl (As := [.int v56, .long v57.toInt64]) (rest := [.int x4, .ref (B 0)]) C0 hK hA yk_Mod_inside (c_Mod_inside S v56 v57.toInt64) wd_6_18 rfl rfl ⟨by rw [hf]; decide, by rw [hlo]; decide⟩ (Nat.le_of_ble_eq_true rfl) (mrc hK) (fun v58 hv58 => ?_)
                      refine so_go C0 1 (pc' := 174) (lv' := [(0, .ref (B 0)), (3, .int x3), (4, .int x4), (5, .long x5), (7, .int v39), (8, .int v41), (9, .int 1)]) (st' := [.long v58, .int x4, .ref (B 0)]) rfl ?_
                      refine so_op (As := [.int x4, .long v58]) (rest := []) C0 hK hA yk_Mod_childOf (c_Mod_childOf S x4 v58) wd_6_10 rfl rfl ⟨by rw [hf]; decide, by rw [hlo]; decide⟩ (Nat.le_of_ble_eq_true rfl) (mrc hK) (fun v59 hv59 => ?_)
                      refine so_go C0 3 (pc' := 185) (lv' := [(0, .ref (B 0)), (3, .int x3), (4, .int x4), (5, .long x5), (7, .int v39), (8, .int v41), (9, .int 1), (10, .int v59)]) (st' := [.int 1]) rfl ?_
                      refine so_if_neT C0 rfl (by decide) ?_
                      refine so_go C0 1 (pc' := 194) (lv' := [(0, .ref (B 0)), (3, .int x3), (4, .int x4), (5, .long x5), (7, .int v39), (8, .int v41), (9, .int 1), (10, .int v59)]) (st' := [.int v59]) rfl ?_
                      refine so_if_ge C0 rfl (fun h60 => ?_) (fun h60 => ?_)
                      · refine so_go C0 5 (pc' := 211) (lv' := [(0, .ref (B 0)), (3, .int x3), (4, .int v59), (5, .long x5), (7, .int v39), (8, .int v41), (9, .int 1), (10, .int v59)]) (st' := [.long (z_lushr x5 8)]) rfl ?_
                        refine so_nm (V := .long) (fun v61 hv61 => ?_)
                        refine so_go C0 2 (pc' := 31) (lv' := [(0, .ref (B 0)), (3, .int x3), (4, .int v59), (5, .long v61), (7, .int v39), (8, .int v41), (9, .int 1), (10, .int v59)]) (st' := []) rfl ?_
                        exact so_sub (lv' := [(0, .ref (B 0)), (3, .int x3), (4, .int v59), (5, .long v61)]) (zpk [0, 1, 2, 3] rfl) (ih31 x3 v59 v61)
                      · refine so_go C0 6 (pc' := 211) (lv' := [(0, .ref (B 0)), (3, .int x3), (4, .int (-2)), (5, .long x5), (7, .int v39), (8, .int v41), (9, .int 1), (10, .int v59)]) (st' := [.long (z_lushr x5 8)]) rfl ?_
                        refine so_nm (V := .long) (fun v62 hv62 => ?_)
                        refine so_go C0 2 (pc' := 31) (lv' := [(0, .ref (B 0)), (3, .int x3), (4, .int (-2)), (5, .long v62), (7, .int v39), (8, .int v41), (9, .int 1), (10, .int v59)]) (st' := []) rfl ?_
                        exact so_sub (lv' := [(0, .ref (B 0)), (3, .int x3), (4, .int (-2)), (5, .long v62)]) (zpk [0, 1, 2, 3] rfl) (ih31 x3 (-2) v62)
            · refine so_go C0 2 (pc' := 82) (lv' := [(0, .ref (B 0)), (3, .int x3), (4, .int x4), (5, .long x5), (7, .int v39), (8, .int v41)]) (st' := [.int 1, .int v39]) rfl ?_
              refine so_icmp_ne C0 rfl (fun h63 => ?_) (fun h63 => ?_)
              · refine so_go C0 4 (pc' := 139) (lv' := [(0, .ref (B 0)), (3, .int x3), (4, .int x4), (5, .long x5), (7, .int v39), (8, .int v41), (9, .int 0)]) (st' := [.int 0]) rfl ?_
                refine so_if_eqT C0 rfl (by decide) ?_
                refine so_go C0 3 (pc' := 185) (lv' := [(0, .ref (B 0)), (3, .int x3), (4, .int x4), (5, .long x5), (7, .int v39), (8, .int v41), (9, .int 0), (10, .int (-1))]) (st' := [.int 0]) rfl ?_
                refine so_if_neF C0 rfl (by decide) ?_
                refine so_go C0 6 (pc' := 211) (lv' := [(0, .ref (B 0)), (3, .int x3), (4, .int (-1)), (5, .long x5), (7, .int v39), (8, .int v41), (9, .int 0), (10, .int (-1))]) (st' := [.long (z_lushr x5 8)]) rfl ?_
                refine so_nm (V := .long) (fun v64 hv64 => ?_)
                refine so_go C0 2 (pc' := 31) (lv' := [(0, .ref (B 0)), (3, .int x3), (4, .int (-1)), (5, .long v64), (7, .int v39), (8, .int v41), (9, .int 0), (10, .int (-1))]) (st' := []) rfl ?_
                exact so_sub (lv' := [(0, .ref (B 0)), (3, .int x3), (4, .int (-1)), (5, .long v64)]) (zpk [0, 1, 2, 3] rfl) (ih31 x3 (-1) v64)
              · refine so_go C0 3 (pc' := 90) (lv' := [(0, .ref (B 0)), (3, .int x3), (4, .int x4), (5, .long x5), (7, .int v39), (8, .int v41)]) (st' := [.int v41, .int x4, .ref (B 0)]) rfl ?_
                refine so_op (As := [.int x4, .int v41]) (rest := []) C0 hK hA yk_Mod_hasArgument (c_Mod_hasArgument S x4 v41) wd_6_140 rfl rfl ⟨by rw [hf]; decide, by rw [hlo]; decide⟩ (Nat.le_of_ble_eq_true rfl) (mrc hK) (fun v65 hv65 => ?_)
                refine so_if_eq C0 rfl (fun h66 => ?_) (fun h66 => ?_)
                · refine so_go C0 4 (pc' := 139) (lv' := [(0, .ref (B 0)), (3, .int x3), (4, .int x4), (5, .long x5), (7, .int v39), (8, .int v41), (9, .int 0)]) (st' := [.int 0]) rfl ?_
                  refine so_if_eqT C0 rfl (by decide) ?_
                  refine so_go C0 3 (pc' := 185) (lv' := [(0, .ref (B 0)), (3, .int x3), (4, .int x4), (5, .long x5), (7, .int v39), (8, .int v41), (9, .int 0), (10, .int (-1))]) (st' := [.int 0]) rfl ?_
                  refine so_if_neF C0 rfl (by decide) ?_
                  refine so_go C0 6 (pc' := 211) (lv' := [(0, .ref (B 0)), (3, .int x3), (4, .int (-1)), (5, .long x5), (7, .int v39), (8, .int v41), (9, .int 0), (10, .int (-1))]) (st' := [.long (z_lushr x5 8)]) rfl ?_
                  refine so_nm (V := .long) (fun v67 hv67 => ?_)
                  refine so_go C0 2 (pc' := 31) (lv' := [(0, .ref (B 0)), (3, .int x3), (4, .int (-1)), (5, .long v67), (7, .int v39), (8, .int v41), (9, .int 0), (10, .int (-1))]) (st' := []) rfl ?_
                  exact so_sub (lv' := [(0, .ref (B 0)), (3, .int x3), (4, .int (-1)), (5, .long v67)]) (zpk [0, 1, 2, 3] rfl) (ih31 x3 (-1) v67)
                · refine so_go C0 4 (pc' := 139) (lv' := [(0, .ref (B 0)), (3, .int x3), (4, .int x4), (5, .long x5), (7, .int v39), (8, .int v41), (9, .int 1)]) (st' := [.int 1]) rfl ?_
                  refine so_if_eqF C0 rfl (by decide) ?_
                  refine so_go C0 3 (pc' := 147) (lv' := [(0, .ref (B 0)), (3, .int x3), (4, .int x4), (5, .long x5), (7, .int v39), (8, .int v41), (9, .int 1)]) (st' := [.int v41, .int x4, .ref (B 0)]) rfl ?_
                  refine so_if_lt C0 rfl (fun h68 => ?_) (fun h68 => ?_)
                  · refine so_go C0 2 (pc' := 174) (lv' := [(0, .ref (B 0)), (3, .int x3), (4, .int x4), (5, .long x5), (7, .int v39), (8, .int v41), (9, .int 1)]) (st' := [.long v39.toInt64, .int x4, .ref (B 0)]) rfl ?_
                    refine so_op (As := [.int x4, .long v39.toInt64]) (rest := []) C0 hK hA yk_Mod_childOf (c_Mod_childOf S x4 v39.toInt64) wd_6_10 rfl rfl ⟨by rw [hf]; decide, by rw [hlo]; decide⟩ (Nat.le_of_ble_eq_true rfl) (mrc hK) (fun v69 hv69 => ?_)
                    refine so_go C0 3 (pc' := 185) (lv' := [(0, .ref (B 0)), (3, .int x3), (4, .int x4), (5, .long x5), (7, .int v39), (8, .int v41), (9, .int 1), (10, .int v69)]) (st' := [.int 1]) rfl ?_
                    refine so_if_neT C0 rfl (by decide) ?_
                    refine so_go C0 1 (pc' := 194) (lv' := [(0, .ref (B 0)), (3, .int x3), (4, .int x4), (5, .long x5), (7, .int v39), (8, .int v41), (9, .int 1), (10, .int v69)]) (st' := [.int v69]) rfl ?_
                    refine so_if_ge C0 rfl (fun h70 => ?_) (fun h70 => ?_)
                    · refine so_go C0 5 (pc' := 211) (lv' := [(0, .ref (B 0)), (3, .int x3), (4, .int v69), (5, .long x5), (7, .int v39), (8, .int v41), (9, .int 1), (10, .int v69)]) (st' := [.long (z_lushr x5 8)]) rfl ?_
                      refine so_nm (V := .long) (fun v71 hv71 => ?_)
                      refine so_go C0 2 (pc' := 31) (lv' := [(0, .ref (B 0)), (3, .int x3), (4, .int v69), (5, .long v71), (7, .int v39), (8, .int v41), (9, .int 1), (10, .int v69)]) (st' := []) rfl ?_
                      exact so_sub (lv' := [(0, .ref (B 0)), (3, .int x3), (4, .int v69), (5, .long v71)]) (zpk [0, 1, 2, 3] rfl) (ih31 x3 v69 v71)
                    · refine so_go C0 6 (pc' := 211) (lv' := [(0, .ref (B 0)), (3, .int x3), (4, .int (-2)), (5, .long x5), (7, .int v39), (8, .int v41), (9, .int 1), (10, .int v69)]) (st' := [.long (z_lushr x5 8)]) rfl ?_
                      refine so_nm (V := .long) (fun v72 hv72 => ?_)
                      refine so_go C0 2 (pc' := 31) (lv' := [(0, .ref (B 0)), (3, .int x3), (4, .int (-2)), (5, .long v72), (7, .int v39), (8, .int v41), (9, .int 1), (10, .int v69)]) (st' := []) rfl ?_
                      exact so_sub (lv' := [(0, .ref (B 0)), (3, .int x3), (4, .int (-2)), (5, .long v72)]) (zpk [0, 1, 2, 3] rfl) (ih31 x3 (-2) v72)
                  · refine so_go C0 3 (pc' := 154) (lv' := [(0, .ref (B 0)), (3, .int x3), (4, .int x4), (5, .long x5), (7, .int v39), (8, .int v41), (9, .int 1)]) (st' := [.int x4, .ref (B 0), .ref (B 0), .int x4, .ref (B 0)]) rfl ?_
                    refine so_op (As := [.int x4]) (rest := [.ref (B 0), .int x4, .ref (B 0)]) C0 hK hA yk_Mod_anyAt (c_Mod_anyAt S x4) wd_6_144 rfl rfl ⟨by rw [hf]; decide, by rw [hlo]; decide⟩ (Nat.le_of_ble_eq_true rfl) (mrc hK) (fun v73 hv73 => ?_)
                    refine so_go C0 1 (pc' := 158) (lv' := [(0, .ref (B 0)), (3, .int x3), (4, .int x4), (5, .long x5), (7, .int v39), (8, .int v41), (9, .int 1)]) (st' := [.ref (B 0), .int v73, .ref (B 0), .int x4, .ref (B 0)]) rfl ?_
                    refine so_mget C0 hK (j := 41) (v := .ref (B 31)) (by decide) wd_5_60 rfl rfl ?_
                    refine so_go C0 1 (pc' := 163) (lv' := [(0, .ref (B 0)), (3, .int x3), (4, .int x4), (5, .long x5), (7, .int v39), (8, .int v41), (9, .int 1)]) (st' := [.int v41, .ref (B 31), .int v73, .ref (B 0), .int x4, .ref (B 0)]) rfl ?_
                    refine so_miald C0 hK (a := 30) (by decide) rfl rfl (by decide) rfl (fun v74 hv74 => ?_)
                    refine so_go C0 1 (pc' := 165) (lv' := [(0, .ref (B 0)), (3, .int x3), (4, .int x4), (5, .long x5), (7, .int v39), (8, .int v41), (9, .int 1)]) (st' := [.long v74.toInt64, .int v73, .ref (B 0), .int x4, .ref (B 0)]) rfl ?_
                    refine so_opl (As := [.int v73, .long v74.toInt64]) (rest := [.int x4, .ref (B 0)]) C0 hK hA yk_Mod_inside (c_Mod_inside S v73 v74.toInt64) wd_6_18 rfl rfl ⟨by rw [hf]; decide, by rw [hlo]; decide⟩ (Nat.le_of_ble_eq_true rfl) (mrc hK) (fun v75 hv75 => ?_)
                    refine so_go C0 1 (pc' := 174) (lv' := [(0, .ref (B 0)), (3, .int x3), (4, .int x4), (5, .long x5), (7, .int v39), (8, .int v41), (9, .int 1)]) (st' := [.long v75, .int x4, .ref (B 0)]) rfl ?_
                    refine so_op (As := [.int x4, .long v75]) (rest := []) C0 hK hA yk_Mod_childOf (c_Mod_childOf S x4 v75) wd_6_10 rfl rfl ⟨by rw [hf]; decide, by rw [hlo]; decide⟩ (Nat.le_of_ble_eq_true rfl) (mrc hK) (fun v76 hv76 => ?_)
                    refine so_go C0 3 (pc' := 185) (lv' := [(0, .ref (B 0)), (3, .int x3), (4, .int x4), (5, .long x5), (7, .int v39), (8, .int v41), (9, .int 1), (10, .int v76)]) (st' := [.int 1]) rfl ?_
                    refine so_if_neT C0 rfl (by decide) ?_
                    refine so_go C0 1 (pc' := 194) (lv' := [(0, .ref (B 0)), (3, .int x3), (4, .int x4), (5, .long x5), (7, .int v39), (8, .int v41), (9, .int 1), (10, .int v76)]) (st' := [.int v76]) rfl ?_
                    refine so_if_ge C0 rfl (fun h77 => ?_) (fun h77 => ?_)
                    · refine so_go C0 5 (pc' := 211) (lv' := [(0, .ref (B 0)), (3, .int x3), (4, .int v76), (5, .long x5), (7, .int v39), (8, .int v41), (9, .int 1), (10, .int v76)]) (st' := [.long (z_lushr x5 8)]) rfl ?_
                      refine so_nm (V := .long) (fun v78 hv78 => ?_)
                      refine so_go C0 2 (pc' := 31) (lv' := [(0, .ref (B 0)), (3, .int x3), (4, .int v76), (5, .long v78), (7, .int v39), (8, .int v41), (9, .int 1), (10, .int v76)]) (st' := []) rfl ?_
                      exact so_sub (lv' := [(0, .ref (B 0)), (3, .int x3), (4, .int v76), (5, .long v78)]) (zpk [0, 1, 2, 3] rfl) (ih31 x3 v76 v78)
                    · refine so_go C0 6 (pc' := 211) (lv' := [(0, .ref (B 0)), (3, .int x3), (4, .int (-2)), (5, .long x5), (7, .int v39), (8, .int v41), (9, .int 1), (10, .int v76)]) (st' := [.long (z_lushr x5 8)]) rfl ?_
                      refine so_nm (V := .long) (fun v79 hv79 => ?_)
                      refine so_go C0 2 (pc' := 31) (lv' := [(0, .ref (B 0)), (3, .int x3), (4, .int (-2)), (5, .long v79), (7, .int v39), (8, .int v41), (9, .int 1), (10, .int v76)]) (st' := []) rfl ?_
                      exact so_sub (lv' := [(0, .ref (B 0)), (3, .int x3), (4, .int (-2)), (5, .long v79)]) (zpk [0, 1, 2, 3] rfl) (ih31 x3 (-2) v79)
          · refine so_go C0 4 (pc' := 76) (lv' := [(0, .ref (B 0)), (3, .int x3), (4, .int x4), (5, .long x5), (7, .int v39), (8, .int (-1))]) (st' := [.int (-1)]) rfl ?_
            refine so_if_ltT C0 rfl (by decide) ?_
            refine so_go C0 1 (pc' := 106) (lv' := [(0, .ref (B 0)), (3, .int x3), (4, .int x4), (5, .long x5), (7, .int v39), (8, .int (-1))]) (st' := [.int x4]) rfl ?_
            refine so_if_lt C0 rfl (fun h80 => ?_) (fun h80 => ?_)
            · refine so_go C0 3 (pc' := 139) (lv' := [(0, .ref (B 0)), (3, .int x3), (4, .int x4), (5, .long x5), (7, .int v39), (8, .int (-1)), (9, .int 0)]) (st' := [.int 0]) rfl ?_
              refine so_if_eqT C0 rfl (by decide) ?_
              refine so_go C0 3 (pc' := 185) (lv' := [(0, .ref (B 0)), (3, .int x3), (4, .int x4), (5, .long x5), (7, .int v39), (8, .int (-1)), (9, .int 0), (10, .int (-1))]) (st' := [.int 0]) rfl ?_
              refine so_if_neF C0 rfl (by decide) ?_
              refine so_go C0 6 (pc' := 211) (lv' := [(0, .ref (B 0)), (3, .int x3), (4, .int (-1)), (5, .long x5), (7, .int v39), (8, .int (-1)), (9, .int 0), (10, .int (-1))]) (st' := [.long (z_lushr x5 8)]) rfl ?_
              refine so_nm (V := .long) (fun v81 hv81 => ?_)
              refine so_go C0 2 (pc' := 31) (lv' := [(0, .ref (B 0)), (3, .int x3), (4, .int (-1)), (5, .long v81), (7, .int v39), (8, .int (-1)), (9, .int 0), (10, .int (-1))]) (st' := []) rfl ?_
              exact so_sub (lv' := [(0, .ref (B 0)), (3, .int x3), (4, .int (-1)), (5, .long v81)]) (zpk [0, 1, 2, 3] rfl) (ih31 x3 (-1) v81)
            · refine so_go C0 2 (pc' := 112) (lv' := [(0, .ref (B 0)), (3, .int x3), (4, .int x4), (5, .long x5), (7, .int v39), (8, .int (-1))]) (st' := [.int x4, .ref (B 0)]) rfl ?_
              refine so_op (As := [.int x4]) (rest := []) C0 hK hA yk_Mod_isToldRecord (c_Mod_isToldRecord S x4) wd_6_152 rfl rfl ⟨by rw [hf]; decide, by rw [hlo]; decide⟩ (Nat.le_of_ble_eq_true rfl) (mrc hK) (fun v82 hv82 => ?_)
              refine so_if_eq C0 rfl (fun h83 => ?_) (fun h83 => ?_)
              · refine so_go C0 3 (pc' := 139) (lv' := [(0, .ref (B 0)), (3, .int x3), (4, .int x4), (5, .long x5), (7, .int v39), (8, .int (-1)), (9, .int 0)]) (st' := [.int 0]) rfl ?_
                refine so_if_eqT C0 rfl (by decide) ?_
                refine so_go C0 3 (pc' := 185) (lv' := [(0, .ref (B 0)), (3, .int x3), (4, .int x4), (5, .long x5), (7, .int v39), (8, .int (-1)), (9, .int 0), (10, .int (-1))]) (st' := [.int 0]) rfl ?_
                refine so_if_neF C0 rfl (by decide) ?_
                refine so_go C0 6 (pc' := 211) (lv' := [(0, .ref (B 0)), (3, .int x3), (4, .int (-1)), (5, .long x5), (7, .int v39), (8, .int (-1)), (9, .int 0), (10, .int (-1))]) (st' := [.long (z_lushr x5 8)]) rfl ?_
                refine so_nm (V := .long) (fun v84 hv84 => ?_)
                refine so_go C0 2 (pc' := 31) (lv' := [(0, .ref (B 0)), (3, .int x3), (4, .int (-1)), (5, .long v84), (7, .int v39), (8, .int (-1)), (9, .int 0), (10, .int (-1))]) (st' := []) rfl ?_
                exact so_sub (lv' := [(0, .ref (B 0)), (3, .int x3), (4, .int (-1)), (5, .long v84)]) (zpk [0, 1, 2, 3] rfl) (ih31 x3 (-1) v84)
              · refine so_go C0 2 (pc' := 121) (lv' := [(0, .ref (B 0)), (3, .int x3), (4, .int x4), (5, .long x5), (7, .int v39), (8, .int (-1))]) (st' := [.ref (B 0), .int v39]) rfl ?_
                refine so_mget C0 hK (j := 29) (v := .ref (B 23)) (by decide) wd_5_48 rfl rfl ?_
                refine so_go C0 1 (pc' := 126) (lv' := [(0, .ref (B 0)), (3, .int x3), (4, .int x4), (5, .long x5), (7, .int v39), (8, .int (-1))]) (st' := [.int x4, .ref (B 23), .int v39]) rfl ?_
                refine so_miald C0 hK (a := 22) (by decide) rfl rfl (by decide) rfl (fun v85 hv85 => ?_)
                refine so_icmp_gt C0 rfl (fun h86 => ?_) (fun h86 => ?_)
                · refine so_go C0 3 (pc' := 139) (lv' := [(0, .ref (B 0)), (3, .int x3), (4, .int x4), (5, .long x5), (7, .int v39), (8, .int (-1)), (9, .int 0)]) (st' := [.int 0]) rfl ?_
                  refine so_if_eqT C0 rfl (by decide) ?_
                  refine so_go C0 3 (pc' := 185) (lv' := [(0, .ref (B 0)), (3, .int x3), (4, .int x4), (5, .long x5), (7, .int v39), (8, .int (-1)), (9, .int 0), (10, .int (-1))]) (st' := [.int 0]) rfl ?_
                  refine so_if_neF C0 rfl (by decide) ?_
                  refine so_go C0 6 (pc' := 211) (lv' := [(0, .ref (B 0)), (3, .int x3), (4, .int (-1)), (5, .long x5), (7, .int v39), (8, .int (-1)), (9, .int 0), (10, .int (-1))]) (st' := [.long (z_lushr x5 8)]) rfl ?_
                  refine so_nm (V := .long) (fun v87 hv87 => ?_)
                  refine so_go C0 2 (pc' := 31) (lv' := [(0, .ref (B 0)), (3, .int x3), (4, .int (-1)), (5, .long v87), (7, .int v39), (8, .int (-1)), (9, .int 0), (10, .int (-1))]) (st' := []) rfl ?_
                  exact so_sub (lv' := [(0, .ref (B 0)), (3, .int x3), (4, .int (-1)), (5, .long v87)]) (zpk [0, 1, 2, 3] rfl) (ih31 x3 (-1) v87)
                · refine so_go C0 4 (pc' := 139) (lv' := [(0, .ref (B 0)), (3, .int x3), (4, .int x4), (5, .long x5), (7, .int v39), (8, .int (-1)), (9, .int 1)]) (st' := [.int 1]) rfl ?_
                  refine so_if_eqF C0 rfl (by decide) ?_
                  refine so_go C0 3 (pc' := 147) (lv' := [(0, .ref (B 0)), (3, .int x3), (4, .int x4), (5, .long x5), (7, .int v39), (8, .int (-1)), (9, .int 1)]) (st' := [.int (-1), .int x4, .ref (B 0)]) rfl ?_
                  refine so_if_ltT C0 rfl (by decide) ?_
                  refine so_go C0 2 (pc' := 174) (lv' := [(0, .ref (B 0)), (3, .int x3), (4, .int x4), (5, .long x5), (7, .int v39), (8, .int (-1)), (9, .int 1)]) (st' := [.long v39.toInt64, .int x4, .ref (B 0)]) rfl ?_
                  refine so_op (As := [.int x4, .long v39.toInt64]) (rest := []) C0 hK hA yk_Mod_childOf (c_Mod_childOf S x4 v39.toInt64) wd_6_10 rfl rfl ⟨by rw [hf]; decide, by rw [hlo]; decide⟩ (Nat.le_of_ble_eq_true rfl) (mrc hK) (fun v88 hv88 => ?_)
                  refine so_go C0 3 (pc' := 185) (lv' := [(0, .ref (B 0)), (3, .int x3), (4, .int x4), (5, .long x5), (7, .int v39), (8, .int (-1)), (9, .int 1), (10, .int v88)]) (st' := [.int 1]) rfl ?_
                  refine so_if_neT C0 rfl (by decide) ?_
                  refine so_go C0 1 (pc' := 194) (lv' := [(0, .ref (B 0)), (3, .int x3), (4, .int x4), (5, .long x5), (7, .int v39), (8, .int (-1)), (9, .int 1), (10, .int v88)]) (st' := [.int v88]) rfl ?_
                  refine so_if_ge C0 rfl (fun h89 => ?_) (fun h89 => ?_)
                  · refine so_go C0 5 (pc' := 211) (lv' := [(0, .ref (B 0)), (3, .int x3), (4, .int v88), (5, .long x5), (7, .int v39), (8, .int (-1)), (9, .int 1), (10, .int v88)]) (st' := [.long (z_lushr x5 8)]) rfl ?_
                    refine so_nm (V := .long) (fun v90 hv90 => ?_)
                    refine so_go C0 2 (pc' := 31) (lv' := [(0, .ref (B 0)), (3, .int x3), (4, .int v88), (5, .long v90), (7, .int v39), (8, .int (-1)), (9, .int 1), (10, .int v88)]) (st' := []) rfl ?_
                    exact so_sub (lv' := [(0, .ref (B 0)), (3, .int x3), (4, .int v88), (5, .long v90)]) (zpk [0, 1, 2, 3] rfl) (ih31 x3 v88 v90)
                  · refine so_go C0 6 (pc' := 211) (lv' := [(0, .ref (B 0)), (3, .int x3), (4, .int (-2)), (5, .long x5), (7, .int v39), (8, .int (-1)), (9, .int 1), (10, .int v88)]) (st' := [.long (z_lushr x5 8)]) rfl ?_
                    refine so_nm (V := .long) (fun v91 hv91 => ?_)
                    refine so_go C0 2 (pc' := 31) (lv' := [(0, .ref (B 0)), (3, .int x3), (4, .int (-2)), (5, .long v91), (7, .int v39), (8, .int (-1)), (9, .int 1), (10, .int v88)]) (st' := []) rfl ?_
                    exact so_sub (lv' := [(0, .ref (B 0)), (3, .int x3), (4, .int (-2)), (5, .long v91)]) (zpk [0, 1, 2, 3] rfl) (ih31 x3 (-2) v91)
  have K : mSO p l e R s m args below meth c 11 A D cA B S 0 (lv_args 0 [.ref (B 0), .long a1, .int a2]) [] (zFp S) (f_Mod_missing S a1 a2) := by
    unfold f_Mod_missing
    refine so_go C0 1 (pc' := 1) (lv' := [(0, .ref (B 0)), (1, .long a1), (3, .int a2)]) (st' := [.ref (B 0)]) rfl ?_
    refine so_mget C0 hK (j := 35) (v := .int (S.2.2 7)) (by decide) wd_5_54 rfl rfl ?_
    refine so_if_eq C0 rfl (fun h1 => ?_) (fun h1 => ?_)
    · refine so_go C0 1 (pc' := 24) (lv' := [(0, .ref (B 0)), (1, .long a1), (3, .int a2)]) (st' := [.int (-1)]) rfl ?_
      exact so_reti C0 rfl rfl
    · refine so_go C0 1 (pc' := 8) (lv' := [(0, .ref (B 0)), (1, .long a1), (3, .int a2)]) (st' := [.ref (B 0)]) rfl ?_
      refine so_mget C0 hK (j := 39) (v := .int (S.2.2 10)) (by decide) wd_5_58 rfl rfl ?_
      refine so_if_lt C0 rfl (fun h2 => ?_) (fun h2 => ?_)
      · refine so_go C0 1 (pc' := 24) (lv' := [(0, .ref (B 0)), (1, .long a1), (3, .int a2)]) (st' := [.int (-1)]) rfl ?_
        exact so_reti C0 rfl rfl
      · refine so_go C0 1 (pc' := 15) (lv' := [(0, .ref (B 0)), (1, .long a1), (3, .int a2)]) (st' := [.int a2]) rfl ?_
        refine so_if_lt C0 rfl (fun h3 => ?_) (fun h3 => ?_)
        · refine so_go C0 1 (pc' := 24) (lv' := [(0, .ref (B 0)), (1, .long a1), (3, .int a2)]) (st' := [.int (-1)]) rfl ?_
          exact so_reti C0 rfl rfl
        · refine so_go C0 2 (pc' := 20) (lv' := [(0, .ref (B 0)), (1, .long a1), (3, .int a2)]) (st' := [.int 1, .int a2]) rfl ?_
          refine so_icmp_le C0 rfl (fun h4 => ?_) (fun h4 => ?_)
          · refine so_go C0 4 (pc' := 31) (lv' := [(0, .ref (B 0)), (1, .long a1), (3, .int a2), (4, .int 0), (5, .long a1)]) (st' := []) rfl ?_
            exact so_sub (lv' := [(0, .ref (B 0)), (3, .int a2), (4, .int 0), (5, .long a1)]) (zpk [0, 2, 3, 4] rfl) (lp31 zbig a2 0 a1)
          · refine so_go C0 1 (pc' := 24) (lv' := [(0, .ref (B 0)), (1, .long a1), (3, .int a2)]) (st' := [.int (-1)]) rfl ?_
            exact so_reti C0 rfl rfl
  exact K r hr
def f_Mod_count (S : zM) (a1 : Int32) : Int32 :=
  if ¬ a1 = 0 then
    if ¬ a1 = 1 then
      if ¬ a1 = 2 then
        if ¬ a1 = 3 then
          if ¬ a1 = 4 then
            (-1)
          else
            if (S.2.2 7) = 0 then
              0
            else
              (S.2.2 8)
        else
          (S.2.2 4)
      else
        (S.2.2 3)
    else
      (S.2.2 1)
  else
    (S.2.2 0)
set_option maxHeartbeats 1000000 in
set_option maxRecDepth 20000 in
theorem c_Mod_count (S : zM) (a1 : Int32) : zMet l y_Mod_count (zw y_Mod_count prog_13_method_59_code 2 (some Jvm.ClassFile.FieldType.int)) 0 0 [.ref (B 0), .int a1] D zcl (ztys cA) A (mRep D cA B A) (fun _ => 0) (fun _ => 0) S ((zFp S) (f_Mod_count S a1)) := by
  refine zMet_of ⟨Nat.le_refl _, Nat.le_refl _⟩ (by decide) tk_Mod_count (Nat.le_of_ble_eq_true rfl) ?_
  intro p e R s m args below meth c hf hlo C0 hK hA
  unfold f_Mod_count
  refine sw_go C0 1 (pc' := 1) (lv' := [(0, .ref (B 0)), (1, .int a1)]) (st' := [.int a1]) rfl ?_
  refine sw_if_ne (zFp S) C0 rfl (fun h1 => ?_) (fun h1 => ?_)
  · refine sw_go C0 2 (pc' := 13) (lv' := [(0, .ref (B 0)), (1, .int a1)]) (st' := [.int 1, .int a1]) rfl ?_
    refine sw_icmp_ne (zFp S) C0 rfl (fun h2 => ?_) (fun h2 => ?_)
    · refine sw_go C0 2 (pc' := 25) (lv' := [(0, .ref (B 0)), (1, .int a1)]) (st' := [.int 2, .int a1]) rfl ?_
      refine sw_icmp_ne (zFp S) C0 rfl (fun h3 => ?_) (fun h3 => ?_)
      · refine sw_go C0 2 (pc' := 37) (lv' := [(0, .ref (B 0)), (1, .int a1)]) (st' := [.int 3, .int a1]) rfl ?_
        refine sw_icmp_ne (zFp S) C0 rfl (fun h4 => ?_) (fun h4 => ?_)
        · refine sw_go C0 2 (pc' := 49) (lv' := [(0, .ref (B 0)), (1, .int a1)]) (st' := [.int 4, .int a1]) rfl ?_
          refine sw_icmp_ne (zFp S) C0 rfl (fun h5 => ?_) (fun h5 => ?_)
          · refine sw_go C0 1 (pc' := 71) (lv' := [(0, .ref (B 0)), (1, .int a1)]) (st' := [.int (-1)]) rfl ?_
            exact sw_reti C0 rfl rfl
          · refine sw_go C0 1 (pc' := 53) (lv' := [(0, .ref (B 0)), (1, .int a1)]) (st' := [.ref (B 0)]) rfl ?_
            refine sw_mget C0 hK (j := 35) (v := .int (S.2.2 7)) (by decide) wd_5_54 rfl rfl ?_
            refine sw_if_eq (zFp S) C0 rfl (fun h6 => ?_) (fun h6 => ?_)
            · refine sw_go C0 2 (pc' := 71) (lv' := [(0, .ref (B 0)), (1, .int a1)]) (st' := [.int 0]) rfl ?_
              exact sw_reti C0 rfl rfl
            · refine sw_go C0 1 (pc' := 60) (lv' := [(0, .ref (B 0)), (1, .int a1)]) (st' := [.ref (B 0)]) rfl ?_
              refine sw_mget C0 hK (j := 36) (v := .int (S.2.2 8)) (by decide) wd_5_55 rfl rfl ?_
              refine sw_go C0 1 (pc' := 71) (lv' := [(0, .ref (B 0)), (1, .int a1)]) (st' := [.int (S.2.2 8)]) rfl ?_
              exact sw_reti C0 rfl rfl
        · refine sw_go C0 1 (pc' := 41) (lv' := [(0, .ref (B 0)), (1, .int a1)]) (st' := [.ref (B 0)]) rfl ?_
          refine sw_mget C0 hK (j := 17) (v := .int (S.2.2 4)) (by decide) wd_5_36 rfl rfl ?_
          refine sw_go C0 1 (pc' := 71) (lv' := [(0, .ref (B 0)), (1, .int a1)]) (st' := [.int (S.2.2 4)]) rfl ?_
          exact sw_reti C0 rfl rfl
      · refine sw_go C0 1 (pc' := 29) (lv' := [(0, .ref (B 0)), (1, .int a1)]) (st' := [.ref (B 0)]) rfl ?_
        refine sw_mget C0 hK (j := 14) (v := .int (S.2.2 3)) (by decide) wd_5_33 rfl rfl ?_
        refine sw_go C0 1 (pc' := 71) (lv' := [(0, .ref (B 0)), (1, .int a1)]) (st' := [.int (S.2.2 3)]) rfl ?_
        exact sw_reti C0 rfl rfl
    · refine sw_go C0 1 (pc' := 17) (lv' := [(0, .ref (B 0)), (1, .int a1)]) (st' := [.ref (B 0)]) rfl ?_
      refine sw_mget C0 hK (j := 3) (v := .int (S.2.2 1)) (by decide) wd_5_22 rfl rfl ?_
      refine sw_go C0 1 (pc' := 71) (lv' := [(0, .ref (B 0)), (1, .int a1)]) (st' := [.int (S.2.2 1)]) rfl ?_
      exact sw_reti C0 rfl rfl
  · refine sw_go C0 1 (pc' := 5) (lv' := [(0, .ref (B 0)), (1, .int a1)]) (st' := [.ref (B 0)]) rfl ?_
    refine sw_mget C0 hK (j := 0) (v := .int (S.2.2 0)) (by decide) wd_5_19 rfl rfl ?_
    refine sw_go C0 1 (pc' := 71) (lv' := [(0, .ref (B 0)), (1, .int a1)]) (st' := [.int (S.2.2 0)]) rfl ?_
    exact sw_reti C0 rfl rfl
end ZN
