-- by program: methods of the reference, as functions, and that the code does them
section ZN
variable {cA : Nat → ClassId} {B : Nat → Nat} {A : Nat → Prop} {D : va_G} {l : Launch}
def f_Mod_family (S : zM) (a1 : Int32) (a2 : Int64) : Option (zM × Int32) :=
  if a1 < 1 then
    some (S, (-1))
  else
    if 64 < a1 then
      some (S, (-1))
    else
      if a1 = 64 then
        if ¬ (S.2.2 0) = 1024 then
          m_wr 1024 (S.2.2 0) (m_set S 0 (Int32.toNatClampNeg (S.2.2 0)) a1) fun S5 =>
          m_wr 1024 (S5.2.2 0) (m_setl S5 1 (Int32.toNatClampNeg (S5.2.2 0)) a2) fun S6 =>
          zbind (m_sc S6 0 ((S6.2.2 0) + 1)) fun S7 =>
          some (S7, ((S7.2.2 0) - 1))
        else
          some (S, (-2))
      else
        if ¬ (lg_cmp (a2 &&& (z_lshl (-1) a1)) 0) = 0 then
          some (S, (-1))
        else
          if ¬ (S.2.2 0) = 1024 then
            m_wr 1024 (S.2.2 0) (m_set S 0 (Int32.toNatClampNeg (S.2.2 0)) a1) fun S10 =>
            m_wr 1024 (S10.2.2 0) (m_setl S10 1 (Int32.toNatClampNeg (S10.2.2 0)) a2) fun S11 =>
            zbind (m_sc S11 0 ((S11.2.2 0) + 1)) fun S12 =>
            some (S12, ((S12.2.2 0) - 1))
          else
            some (S, (-2))
set_option maxHeartbeats 1000000 in
set_option maxRecDepth 20000 in
theorem c_Mod_family (S : zM) (a1 : Int32) (a2 : Int64) : ∀ r, f_Mod_family S a1 a2 = some r → zMet l y_Mod_family (zw y_Mod_family prog_13_method_2_code 5 (some Jvm.ClassFile.FieldType.int)) 0 0 [.ref (B 0), .int a1, .long a2] D zcl (ztys cA) A (mRep D cA B A) (fun _ => 0) (fun _ => 0) S (zFi r) := by
  intro r hr
  refine zMet_of ⟨Nat.le_refl _, Nat.le_refl _⟩ (by decide) tk_Mod_family (Nat.le_of_ble_eq_true rfl) ?_
  intro p e R s m args below meth c hf hlo C0 hK hA
  have K : mSO p l e R s m args below meth c 5 A D cA B S 0 (lv_args 0 [.ref (B 0), .int a1, .long a2]) [] zFi (f_Mod_family S a1 a2) := by
    unfold f_Mod_family
    refine so_go C0 2 (pc' := 2) (lv' := [(0, .ref (B 0)), (1, .int a1), (2, .long a2)]) (st' := [.int 1, .int a1]) rfl ?_
    refine so_icmp_lt C0 rfl (fun h1 => ?_) (fun h1 => ?_)
    · refine so_go C0 3 (pc' := 38) (lv' := [(0, .ref (B 0)), (1, .int a1), (2, .long a2), (4, .int 0)]) (st' := [.int 0]) rfl ?_
      refine so_if_neF C0 rfl (by decide) ?_
      refine so_go C0 1 (pc' := 42) (lv' := [(0, .ref (B 0)), (1, .int a1), (2, .long a2), (4, .int 0)]) (st' := [.int (-1)]) rfl ?_
      exact so_reti C0 rfl rfl
    · refine so_go C0 2 (pc' := 8) (lv' := [(0, .ref (B 0)), (1, .int a1), (2, .long a2)]) (st' := [.int 64, .int a1]) rfl ?_
      refine so_icmp_gt C0 rfl (fun h2 => ?_) (fun h2 => ?_)
      · refine so_go C0 3 (pc' := 38) (lv' := [(0, .ref (B 0)), (1, .int a1), (2, .long a2), (4, .int 0)]) (st' := [.int 0]) rfl ?_
        refine so_if_neF C0 rfl (by decide) ?_
        refine so_go C0 1 (pc' := 42) (lv' := [(0, .ref (B 0)), (1, .int a1), (2, .long a2), (4, .int 0)]) (st' := [.int (-1)]) rfl ?_
        exact so_reti C0 rfl rfl
      · refine so_go C0 2 (pc' := 14) (lv' := [(0, .ref (B 0)), (1, .int a1), (2, .long a2)]) (st' := [.int 64, .int a1]) rfl ?_
        refine so_icmp_eq C0 rfl (fun h3 => ?_) (fun h3 => ?_)
        · refine so_go C0 4 (pc' := 38) (lv' := [(0, .ref (B 0)), (1, .int a1), (2, .long a2), (4, .int 1)]) (st' := [.int 1]) rfl ?_
          refine so_if_neT C0 rfl (by decide) ?_
          refine so_go C0 1 (pc' := 44) (lv' := [(0, .ref (B 0)), (1, .int a1), (2, .long a2), (4, .int 1)]) (st' := [.ref (B 0)]) rfl ?_
          refine so_mget C0 hK (j := 0) (v := .int (S.2.2 0)) (by decide) wd_5_19 rfl rfl ?_
          refine so_go C0 1 (pc' := 50) (lv' := [(0, .ref (B 0)), (1, .int a1), (2, .long a2), (4, .int 1)]) (st' := [.int 1024, .int (S.2.2 0)]) rfl ?_
          refine so_icmp_ne C0 rfl (fun h4 => ?_) (fun h4 => ?_)
          · refine so_go C0 1 (pc' := 57) (lv' := [(0, .ref (B 0)), (1, .int a1), (2, .long a2), (4, .int 1)]) (st' := [.ref (B 0)]) rfl ?_
            refine so_mget C0 hK (j := 1) (v := .ref (B 1)) (by decide) wd_5_20 rfl rfl ?_
            refine so_go C0 1 (pc' := 61) (lv' := [(0, .ref (B 0)), (1, .int a1), (2, .long a2), (4, .int 1)]) (st' := [.ref (B 0), .ref (B 1)]) rfl ?_
            refine so_mget C0 hK (j := 0) (v := .int (S.2.2 0)) (by decide) wd_5_19 rfl rfl ?_
            refine so_go C0 1 (pc' := 65) (lv' := [(0, .ref (B 0)), (1, .int a1), (2, .long a2), (4, .int 1)]) (st' := [.int a1, .int (S.2.2 0), .ref (B 1)]) rfl ?_
            refine so_miast C0 hK (a := 0) (by decide) rfl rfl (by decide) rfl (fun S5 hS5 => ?_)
            refine so_go C0 1 (pc' := 67) (lv' := [(0, .ref (B 0)), (1, .int a1), (2, .long a2), (4, .int 1)]) (st' := [.ref (B 0)]) rfl ?_
            refine so_mget C0 hK (j := 2) (v := .ref (B 2)) (by decide) wd_5_21 rfl rfl ?_
            refine so_go C0 1 (pc' := 71) (lv' := [(0, .ref (B 0)), (1, .int a1), (2, .long a2), (4, .int 1)]) (st' := [.ref (B 0), .ref (B 2)]) rfl ?_
            refine so_mget C0 hK (j := 0) (v := .int (S5.2.2 0)) (by decide) wd_5_19 rfl rfl ?_
            refine so_go C0 1 (pc' := 75) (lv' := [(0, .ref (B 0)), (1, .int a1), (2, .long a2), (4, .int 1)]) (st' := [.long a2, .int (S5.2.2 0), .ref (B 2)]) rfl ?_
            refine so_mlast C0 hK (a := 1) (by decide) rfl rfl (by decide) rfl (fun S6 hS6 => ?_)
            refine so_go C0 2 (pc' := 78) (lv' := [(0, .ref (B 0)), (1, .int a1), (2, .long a2), (4, .int 1)]) (st' := [.ref (B 0), .ref (B 0)]) rfl ?_
            refine so_mget C0 hK (j := 0) (v := .int (S6.2.2 0)) (by decide) wd_5_19 rfl rfl ?_
            refine so_go C0 2 (pc' := 83) (lv' := [(0, .ref (B 0)), (1, .int a1), (2, .long a2), (4, .int 1)]) (st' := [.int ((S6.2.2 0) + 1), .ref (B 0)]) rfl ?_
            refine so_mput C0 hK (j := 0) (q := 0) (ty := .int) (by decide) (Nat.le_of_ble_eq_true rfl) rfl (by decide +kernel) rfl rfl wd_5_19 rfl rfl ?_
            refine so_st (fun S7 hS7 => ?_)
            refine so_go C0 1 (pc' := 87) (lv' := [(0, .ref (B 0)), (1, .int a1), (2, .long a2), (4, .int 1)]) (st' := [.ref (B 0)]) rfl ?_
            refine so_mget C0 hK (j := 0) (v := .int (S7.2.2 0)) (by decide) wd_5_19 rfl rfl ?_
            refine so_go C0 2 (pc' := 92) (lv' := [(0, .ref (B 0)), (1, .int a1), (2, .long a2), (4, .int 1)]) (st' := [.int ((S7.2.2 0) - 1)]) rfl ?_
            exact so_reti C0 rfl rfl
          · refine so_go C0 1 (pc' := 55) (lv' := [(0, .ref (B 0)), (1, .int a1), (2, .long a2), (4, .int 1)]) (st' := [.int (-2)]) rfl ?_
            exact so_reti C0 rfl rfl
        · refine so_go C0 1 (pc' := 18) (lv' := [(0, .ref (B 0)), (1, .int a1), (2, .long a2)]) (st' := [.long a2]) rfl ?_
          refine so_ldc2 C0 wd_5_165 rfl ?_
          refine so_go C0 5 (pc' := 26) (lv' := [(0, .ref (B 0)), (1, .int a1), (2, .long a2)]) (st' := [.int (lg_cmp (a2 &&& (z_lshl (-1) a1)) 0)]) rfl ?_
          refine so_if_ne C0 rfl (fun h8 => ?_) (fun h8 => ?_)
          · refine so_go C0 3 (pc' := 38) (lv' := [(0, .ref (B 0)), (1, .int a1), (2, .long a2), (4, .int 0)]) (st' := [.int 0]) rfl ?_
            refine so_if_neF C0 rfl (by decide) ?_
            refine so_go C0 1 (pc' := 42) (lv' := [(0, .ref (B 0)), (1, .int a1), (2, .long a2), (4, .int 0)]) (st' := [.int (-1)]) rfl ?_
            exact so_reti C0 rfl rfl
          · refine so_go C0 4 (pc' := 38) (lv' := [(0, .ref (B 0)), (1, .int a1), (2, .long a2), (4, .int 1)]) (st' := [.int 1]) rfl ?_
            refine so_if_neT C0 rfl (by decide) ?_
            refine so_go C0 1 (pc' := 44) (lv' := [(0, .ref (B 0)), (1, .int a1), (2, .long a2), (4, .int 1)]) (st' := [.ref (B 0)]) rfl ?_
            refine so_mget C0 hK (j := 0) (v := .int (S.2.2 0)) (by decide) wd_5_19 rfl rfl ?_
            refine so_go C0 1 (pc' := 50) (lv' := [(0, .ref (B 0)), (1, .int a1), (2, .long a2), (4, .int 1)]) (st' := [.int 1024, .int (S.2.2 0)]) rfl ?_
            refine so_icmp_ne C0 rfl (fun h9 => ?_) (fun h9 => ?_)
            · refine so_go C0 1 (pc' := 57) (lv' := [(0, .ref (B 0)), (1, .int a1), (2, .long a2), (4, .int 1)]) (st' := [.ref (B 0)]) rfl ?_
              refine so_mget C0 hK (j := 1) (v := .ref (B 1)) (by decide) wd_5_20 rfl rfl ?_
              refine so_go C0 1 (pc' := 61) (lv' := [(0, .ref (B 0)), (1, .int a1), (2, .long a2), (4, .int 1)]) (st' := [.ref (B 0), .ref (B 1)]) rfl ?_
              refine so_mget C0 hK (j := 0) (v := .int (S.2.2 0)) (by decide) wd_5_19 rfl rfl ?_
              refine so_go C0 1 (pc' := 65) (lv' := [(0, .ref (B 0)), (1, .int a1), (2, .long a2), (4, .int 1)]) (st' := [.int a1, .int (S.2.2 0), .ref (B 1)]) rfl ?_
              refine so_miast C0 hK (a := 0) (by decide) rfl rfl (by decide) rfl (fun S10 hS10 => ?_)
              refine so_go C0 1 (pc' := 67) (lv' := [(0, .ref (B 0)), (1, .int a1), (2, .long a2), (4, .int 1)]) (st' := [.ref (B 0)]) rfl ?_
              refine so_mget C0 hK (j := 2) (v := .ref (B 2)) (by decide) wd_5_21 rfl rfl ?_
              refine so_go C0 1 (pc' := 71) (lv' := [(0, .ref (B 0)), (1, .int a1), (2, .long a2), (4, .int 1)]) (st' := [.ref (B 0), .ref (B 2)]) rfl ?_
              refine so_mget C0 hK (j := 0) (v := .int (S10.2.2 0)) (by decide) wd_5_19 rfl rfl ?_
              refine so_go C0 1 (pc' := 75) (lv' := [(0, .ref (B 0)), (1, .int a1), (2, .long a2), (4, .int 1)]) (st' := [.long a2, .int (S10.2.2 0), .ref (B 2)]) rfl ?_
              refine so_mlast C0 hK (a := 1) (by decide) rfl rfl (by decide) rfl (fun S11 hS11 => ?_)
              refine so_go C0 2 (pc' := 78) (lv' := [(0, .ref (B 0)), (1, .int a1), (2, .long a2), (4, .int 1)]) (st' := [.ref (B 0), .ref (B 0)]) rfl ?_
              refine so_mget C0 hK (j := 0) (v := .int (S11.2.2 0)) (by decide) wd_5_19 rfl rfl ?_
              refine so_go C0 2 (pc' := 83) (lv' := [(0, .ref (B 0)), (1, .int a1), (2, .long a2), (4, .int 1)]) (st' := [.int ((S11.2.2 0) + 1), .ref (B 0)]) rfl ?_
              refine so_mput C0 hK (j := 0) (q := 0) (ty := .int) (by decide) (Nat.le_of_ble_eq_true rfl) rfl (by decide +kernel) rfl rfl wd_5_19 rfl rfl ?_
              refine so_st (fun S12 hS12 => ?_)
              refine so_go C0 1 (pc' := 87) (lv' := [(0, .ref (B 0)), (1, .int a1), (2, .long a2), (4, .int 1)]) (st' := [.ref (B 0)]) rfl ?_
              refine so_mget C0 hK (j := 0) (v := .int (S12.2.2 0)) (by decide) wd_5_19 rfl rfl ?_
              refine so_go C0 2 (pc' := 92) (lv' := [(0, .ref (B 0)), (1, .int a1), (2, .long a2), (4, .int 1)]) (st' := [.int ((S12.2.2 0) - 1)]) rfl ?_
              exact so_reti C0 rfl rfl
            · refine so_go C0 1 (pc' := 55) (lv' := [(0, .ref (B 0)), (1, .int a1), (2, .long a2), (4, .int 1)]) (st' := [.int (-2)]) rfl ?_
              exact so_reti C0 rfl rfl
  exact K r hr
def f_Mod_isPattern (S : zM) (a1 : Int32) : Int32 :=
  if a1 < 0 then
    0
  else
    if (S.2.2 1) ≤ a1 then
      0
    else
      1
set_option maxHeartbeats 1000000 in
set_option maxRecDepth 20000 in
theorem c_Mod_isPattern (S : zM) (a1 : Int32) : zMet l y_Mod_isPattern (zw y_Mod_isPattern prog_13_method_3_code 2 (some Jvm.ClassFile.FieldType.boolean)) 0 0 [.ref (B 0), .int a1] D zcl (ztys cA) A (mRep D cA B A) (fun _ => 0) (fun _ => 0) S ((zFp S) (f_Mod_isPattern S a1)) := by
  refine zMet_of ⟨Nat.le_refl _, Nat.le_refl _⟩ (by decide) tk_Mod_isPattern (Nat.le_of_ble_eq_true rfl) ?_
  intro p e R s m args below meth c hf hlo C0 hK hA
  unfold f_Mod_isPattern
  refine sw_go C0 1 (pc' := 1) (lv' := [(0, .ref (B 0)), (1, .int a1)]) (st' := [.int a1]) rfl ?_
  refine sw_if_lt (zFp S) C0 rfl (fun h1 => ?_) (fun h1 => ?_)
  · refine sw_go C0 1 (pc' := 17) (lv' := [(0, .ref (B 0)), (1, .int a1)]) (st' := [.int 0]) rfl ?_
    exact sw_retz C0 rfl rfl rfl
  · refine sw_go C0 2 (pc' := 6) (lv' := [(0, .ref (B 0)), (1, .int a1)]) (st' := [.ref (B 0), .int a1]) rfl ?_
    refine sw_mget C0 hK (j := 3) (v := .int (S.2.2 1)) (by decide) wd_5_22 rfl rfl ?_
    refine sw_icmp_ge (zFp S) C0 rfl (fun h2 => ?_) (fun h2 => ?_)
    · refine sw_go C0 1 (pc' := 17) (lv' := [(0, .ref (B 0)), (1, .int a1)]) (st' := [.int 0]) rfl ?_
      exact sw_retz C0 rfl rfl rfl
    · refine sw_go C0 2 (pc' := 17) (lv' := [(0, .ref (B 0)), (1, .int a1)]) (st' := [.int 1]) rfl ?_
      exact sw_retz C0 rfl rfl rfl
def f_Mod_make (S : zM) (a1 : Int32) (a2 : Int32) (a3 : Int32) (a4 : Int32) (a5 : Int32) (a6 : Int32) : Option (zM × Int32) :=
  if (S.2.2 1) = 16384 then
    some (S, (-2))
  else
    if a5 ≤ 10000 then
      m_wr 16384 (S.2.2 1) (m_set S 2 (Int32.toNatClampNeg (S.2.2 1)) (vp_nar .byte a1.toInt8.toInt32)) fun S3 =>
      m_wr 16384 (S3.2.2 1) (m_set S3 3 (Int32.toNatClampNeg (S3.2.2 1)) a2) fun S4 =>
      m_wr 16384 (S4.2.2 1) (m_set S4 4 (Int32.toNatClampNeg (S4.2.2 1)) a3) fun S5 =>
      m_wr 16384 (S5.2.2 1) (m_set S5 5 (Int32.toNatClampNeg (S5.2.2 1)) a4) fun S6 =>
      m_wr 16384 (S6.2.2 1) (m_set S6 6 (Int32.toNatClampNeg (S6.2.2 1)) (vp_nar .short 0)) fun S7 =>
      m_wr 16384 (S7.2.2 1) (m_set S7 7 (Int32.toNatClampNeg (S7.2.2 1)) (vp_nar .short a5.toInt16.toInt32)) fun S8 =>
      m_wr 16384 (S8.2.2 1) (m_set S8 8 (Int32.toNatClampNeg (S8.2.2 1)) (vp_nar .boolean a6)) fun S9 =>
      zbind (m_sc S9 1 ((S9.2.2 1) + 1)) fun S10 =>
      some (S10, ((S10.2.2 1) - 1))
    else
      some (S, (-2))
set_option maxHeartbeats 1000000 in
set_option maxRecDepth 20000 in
theorem c_Mod_make (S : zM) (a1 : Int32) (a2 : Int32) (a3 : Int32) (a4 : Int32) (a5 : Int32) (a6 : Int32) : ∀ r, f_Mod_make S a1 a2 a3 a4 a5 a6 = some r → zMet l y_Mod_make (zw y_Mod_make prog_13_method_4_code 7 (some Jvm.ClassFile.FieldType.int)) 0 0 [.ref (B 0), .int a1, .int a2, .int a3, .int a4, .int a5, .int a6] D zcl (ztys cA) A (mRep D cA B A) (fun _ => 0) (fun _ => 0) S (zFi r) := by
  intro r hr
  refine zMet_of ⟨Nat.le_refl _, Nat.le_refl _⟩ (by decide) tk_Mod_make (Nat.le_of_ble_eq_true rfl) ?_
  intro p e R s m args below meth c hf hlo C0 hK hA
  have K : mSO p l e R s m args below meth c 7 A D cA B S 0 (lv_args 0 [.ref (B 0), .int a1, .int a2, .int a3, .int a4, .int a5, .int a6]) [] zFi (f_Mod_make S a1 a2 a3 a4 a5 a6) := by
    unfold f_Mod_make
    refine so_go C0 1 (pc' := 1) (lv' := [(0, .ref (B 0)), (1, .int a1), (2, .int a2), (3, .int a3), (4, .int a4), (5, .int a5), (6, .int a6)]) (st' := [.ref (B 0)]) rfl ?_
    refine so_mget C0 hK (j := 3) (v := .int (S.2.2 1)) (by decide) wd_5_22 rfl rfl ?_
    refine so_go C0 1 (pc' := 7) (lv' := [(0, .ref (B 0)), (1, .int a1), (2, .int a2), (3, .int a3), (4, .int a4), (5, .int a5), (6, .int a6)]) (st' := [.int 16384, .int (S.2.2 1)]) rfl ?_
    refine so_icmp_eq C0 rfl (fun h1 => ?_) (fun h1 => ?_)
    · refine so_go C0 1 (pc' := 20) (lv' := [(0, .ref (B 0)), (1, .int a1), (2, .int a2), (3, .int a3), (4, .int a4), (5, .int a5), (6, .int a6)]) (st' := [.int (-2)]) rfl ?_
      exact so_reti C0 rfl rfl
    · refine so_go C0 2 (pc' := 15) (lv' := [(0, .ref (B 0)), (1, .int a1), (2, .int a2), (3, .int a3), (4, .int a4), (5, .int a5), (6, .int a6)]) (st' := [.int 10000, .int a5]) rfl ?_
      refine so_icmp_le C0 rfl (fun h2 => ?_) (fun h2 => ?_)
      · refine so_go C0 1 (pc' := 22) (lv' := [(0, .ref (B 0)), (1, .int a1), (2, .int a2), (3, .int a3), (4, .int a4), (5, .int a5), (6, .int a6)]) (st' := [.ref (B 0)]) rfl ?_
        refine so_mget C0 hK (j := 4) (v := .ref (B 3)) (by decide) wd_5_23 rfl rfl ?_
        refine so_go C0 1 (pc' := 26) (lv' := [(0, .ref (B 0)), (1, .int a1), (2, .int a2), (3, .int a3), (4, .int a4), (5, .int a5), (6, .int a6)]) (st' := [.ref (B 0), .ref (B 3)]) rfl ?_
        refine so_mget C0 hK (j := 3) (v := .int (S.2.2 1)) (by decide) wd_5_22 rfl rfl ?_
        refine so_go C0 2 (pc' := 31) (lv' := [(0, .ref (B 0)), (1, .int a1), (2, .int a2), (3, .int a3), (4, .int a4), (5, .int a5), (6, .int a6)]) (st' := [.int a1.toInt8.toInt32, .int (S.2.2 1), .ref (B 3)]) rfl ?_
        refine so_mbast C0 hK (a := 2) (by decide) rfl rfl (by decide) rfl (fun S3 hS3 => ?_)
        refine so_go C0 1 (pc' := 33) (lv' := [(0, .ref (B 0)), (1, .int a1), (2, .int a2), (3, .int a3), (4, .int a4), (5, .int a5), (6, .int a6)]) (st' := [.ref (B 0)]) rfl ?_
        refine so_mget C0 hK (j := 5) (v := .ref (B 4)) (by decide) wd_5_24 rfl rfl ?_
        refine so_go C0 1 (pc' := 37) (lv' := [(0, .ref (B 0)), (1, .int a1), (2, .int a2), (3, .int a3), (4, .int a4), (5, .int a5), (6, .int a6)]) (st' := [.ref (B 0), .ref (B 4)]) rfl ?_
        refine so_mget C0 hK (j := 3) (v := .int (S3.2.2 1)) (by decide) wd_5_22 rfl rfl ?_
        refine so_go C0 1 (pc' := 41) (lv' := [(0, .ref (B 0)), (1, .int a1), (2, .int a2), (3, .int a3), (4, .int a4), (5, .int a5), (6, .int a6)]) (st' := [.int a2, .int (S3.2.2 1), .ref (B 4)]) rfl ?_
        refine so_miast C0 hK (a := 3) (by decide) rfl rfl (by decide) rfl (fun S4 hS4 => ?_)
        refine so_go C0 1 (pc' := 43) (lv' := [(0, .ref (B 0)), (1, .int a1), (2, .int a2), (3, .int a3), (4, .int a4), (5, .int a5), (6, .int a6)]) (st' := [.ref (B 0)]) rfl ?_
        refine so_mget C0 hK (j := 6) (v := .ref (B 5)) (by decide) wd_5_25 rfl rfl ?_
        refine so_go C0 1 (pc' := 47) (lv' := [(0, .ref (B 0)), (1, .int a1), (2, .int a2), (3, .int a3), (4, .int a4), (5, .int a5), (6, .int a6)]) (st' := [.ref (B 0), .ref (B 5)]) rfl ?_
        refine so_mget C0 hK (j := 3) (v := .int (S4.2.2 1)) (by decide) wd_5_22 rfl rfl ?_
        refine so_go C0 1 (pc' := 51) (lv' := [(0, .ref (B 0)), (1, .int a1), (2, .int a2), (3, .int a3), (4, .int a4), (5, .int a5), (6, .int a6)]) (st' := [.int a3, .int (S4.2.2 1), .ref (B 5)]) rfl ?_
        refine so_miast C0 hK (a := 4) (by decide) rfl rfl (by decide) rfl (fun S5 hS5 => ?_)
        refine so_go C0 1 (pc' := 53) (lv' := [(0, .ref (B 0)), (1, .int a1), (2, .int a2), (3, .int a3), (4, .int a4), (5, .int a5), (6, .int a6)]) (st' := [.ref (B 0)]) rfl ?_
        refine so_mget C0 hK (j := 7) (v := .ref (B 6)) (by decide) wd_5_26 rfl rfl ?_
        refine so_go C0 1 (pc' := 57) (lv' := [(0, .ref (B 0)), (1, .int a1), (2, .int a2), (3, .int a3), (4, .int a4), (5, .int a5), (6, .int a6)]) (st' := [.ref (B 0), .ref (B 6)]) rfl ?_
        refine so_mget C0 hK (j := 3) (v := .int (S5.2.2 1)) (by decide) wd_5_22 rfl rfl ?_
        refine so_go C0 1 (pc' := 62) (lv' := [(0, .ref (B 0)), (1, .int a1), (2, .int a2), (3, .int a3), (4, .int a4), (5, .int a5), (6, .int a6)]) (st' := [.int a4, .int (S5.2.2 1), .ref (B 6)]) rfl ?_
        refine so_miast C0 hK (a := 5) (by decide) rfl rfl (by decide) rfl (fun S6 hS6 => ?_)
        refine so_go C0 1 (pc' := 64) (lv' := [(0, .ref (B 0)), (1, .int a1), (2, .int a2), (3, .int a3), (4, .int a4), (5, .int a5), (6, .int a6)]) (st' := [.ref (B 0)]) rfl ?_
        refine so_mget C0 hK (j := 8) (v := .ref (B 7)) (by decide) wd_5_27 rfl rfl ?_
        refine so_go C0 1 (pc' := 68) (lv' := [(0, .ref (B 0)), (1, .int a1), (2, .int a2), (3, .int a3), (4, .int a4), (5, .int a5), (6, .int a6)]) (st' := [.ref (B 0), .ref (B 7)]) rfl ?_
        refine so_mget C0 hK (j := 3) (v := .int (S6.2.2 1)) (by decide) wd_5_22 rfl rfl ?_
        refine so_go C0 1 (pc' := 72) (lv' := [(0, .ref (B 0)), (1, .int a1), (2, .int a2), (3, .int a3), (4, .int a4), (5, .int a5), (6, .int a6)]) (st' := [.int 0, .int (S6.2.2 1), .ref (B 7)]) rfl ?_
        refine so_msast C0 hK (a := 6) (by decide) rfl rfl (by decide) rfl (fun S7 hS7 => ?_)
        refine so_go C0 1 (pc' := 74) (lv' := [(0, .ref (B 0)), (1, .int a1), (2, .int a2), (3, .int a3), (4, .int a4), (5, .int a5), (6, .int a6)]) (st' := [.ref (B 0)]) rfl ?_
        refine so_mget C0 hK (j := 9) (v := .ref (B 8)) (by decide) wd_5_28 rfl rfl ?_
        refine so_go C0 1 (pc' := 78) (lv' := [(0, .ref (B 0)), (1, .int a1), (2, .int a2), (3, .int a3), (4, .int a4), (5, .int a5), (6, .int a6)]) (st' := [.ref (B 0), .ref (B 8)]) rfl ?_
        refine so_mget C0 hK (j := 3) (v := .int (S7.2.2 1)) (by decide) wd_5_22 rfl rfl ?_
        refine so_go C0 2 (pc' := 84) (lv' := [(0, .ref (B 0)), (1, .int a1), (2, .int a2), (3, .int a3), (4, .int a4), (5, .int a5), (6, .int a6)]) (st' := [.int a5.toInt16.toInt32, .int (S7.2.2 1), .ref (B 8)]) rfl ?_
        refine so_msast C0 hK (a := 7) (by decide) rfl rfl (by decide) rfl (fun S8 hS8 => ?_)
        refine so_go C0 1 (pc' := 86) (lv' := [(0, .ref (B 0)), (1, .int a1), (2, .int a2), (3, .int a3), (4, .int a4), (5, .int a5), (6, .int a6)]) (st' := [.ref (B 0)]) rfl ?_
        refine so_mget C0 hK (j := 10) (v := .ref (B 9)) (by decide) wd_5_29 rfl rfl ?_
        refine so_go C0 1 (pc' := 90) (lv' := [(0, .ref (B 0)), (1, .int a1), (2, .int a2), (3, .int a3), (4, .int a4), (5, .int a5), (6, .int a6)]) (st' := [.ref (B 0), .ref (B 9)]) rfl ?_
        refine so_mget C0 hK (j := 3) (v := .int (S8.2.2 1)) (by decide) wd_5_22 rfl rfl ?_
        refine so_go C0 1 (pc' := 95) (lv' := [(0, .ref (B 0)), (1, .int a1), (2, .int a2), (3, .int a3), (4, .int a4), (5, .int a5), (6, .int a6)]) (st' := [.int a6, .int (S8.2.2 1), .ref (B 9)]) rfl ?_
        refine so_mzast C0 hK (a := 8) (by decide) rfl rfl (by decide) rfl (fun S9 hS9 => ?_)
        refine so_go C0 2 (pc' := 98) (lv' := [(0, .ref (B 0)), (1, .int a1), (2, .int a2), (3, .int a3), (4, .int a4), (5, .int a5), (6, .int a6)]) (st' := [.ref (B 0), .ref (B 0)]) rfl ?_
        refine so_mget C0 hK (j := 3) (v := .int (S9.2.2 1)) (by decide) wd_5_22 rfl rfl ?_
        refine so_go C0 2 (pc' := 103) (lv' := [(0, .ref (B 0)), (1, .int a1), (2, .int a2), (3, .int a3), (4, .int a4), (5, .int a5), (6, .int a6)]) (st' := [.int ((S9.2.2 1) + 1), .ref (B 0)]) rfl ?_
        refine so_mput C0 hK (j := 3) (q := 1) (ty := .int) (by decide) (Nat.le_of_ble_eq_true rfl) rfl (by decide +kernel) rfl rfl wd_5_22 rfl rfl ?_
        refine so_st (fun S10 hS10 => ?_)
        refine so_go C0 1 (pc' := 107) (lv' := [(0, .ref (B 0)), (1, .int a1), (2, .int a2), (3, .int a3), (4, .int a4), (5, .int a5), (6, .int a6)]) (st' := [.ref (B 0)]) rfl ?_
        refine so_mget C0 hK (j := 3) (v := .int (S10.2.2 1)) (by decide) wd_5_22 rfl rfl ?_
        refine so_go C0 2 (pc' := 112) (lv' := [(0, .ref (B 0)), (1, .int a1), (2, .int a2), (3, .int a3), (4, .int a4), (5, .int a5), (6, .int a6)]) (st' := [.int ((S10.2.2 1) - 1)]) rfl ?_
        exact so_reti C0 rfl rfl
      · refine so_go C0 1 (pc' := 20) (lv' := [(0, .ref (B 0)), (1, .int a1), (2, .int a2), (3, .int a3), (4, .int a4), (5, .int a5), (6, .int a6)]) (st' := [.int (-2)]) rfl ?_
        exact so_reti C0 rfl rfl
  exact K r hr
def f_Mod_any (S : zM) : Option (zM × Int32) :=
  zob2 (f_Mod_make S 0 0 0 (-1) 1 0) fun S1 v2 =>
  some (S1, v2)
set_option maxHeartbeats 1000000 in
set_option maxRecDepth 20000 in
theorem c_Mod_any (S : zM) : ∀ r, f_Mod_any S = some r → zMet l y_Mod_any (zw y_Mod_any prog_13_method_5_code 1 (some Jvm.ClassFile.FieldType.int)) 1 26 [.ref (B 0)] D zcl (ztys cA) A (mRep D cA B A) (fun _ => 0) (fun _ => 0) S (zFi r) := by
  intro r hr
  refine zMet_of ⟨Nat.le_refl _, Nat.le_refl _⟩ (by decide) tk_Mod_any (Nat.le_of_ble_eq_true rfl) ?_
  intro p e R s m args below meth c hf hlo C0 hK hA
  have K : mSO p l e R s m args below meth c 1 A D cA B S 0 (lv_args 0 [.ref (B 0)]) [] zFi (f_Mod_any S) := by
    unfold f_Mod_any
    refine so_go C0 7 (pc' := 7) (lv' := [(0, .ref (B 0))]) (st' := [.int 0, .int 1, .int (-1), .int 0, .int 0, .int 0, .ref (B 0)]) rfl ?_
    refine so_oi (As := [.int 0, .int 0, .int 0, .int (-1), .int 1, .int 0]) (rest := []) C0 hK hA yk_Mod_make (c_Mod_make S 0 0 0 (-1) 1 0) wd_5_170 rfl rfl ⟨by rw [hf]; decide, by rw [hlo]; decide⟩ (Nat.le_of_ble_eq_true rfl) (mrc hK) (fun S1 v2 hv2 => ?_)
    exact so_reti C0 rfl rfl
  exact K r hr
def f_Mod_constant (S : zM) (a1 : Int32) (a2 : Int32) : Option (zM × Int32) :=
  if a1 < 0 then
    some (S, (-1))
  else
    if 3 < a1 then
      some (S, (-1))
    else
      if ¬ a1 = 2 then
        zob2 (f_Mod_make S 1 a1 a2 (-1) 1 1) fun S4 v5 =>
        some (S4, v5)
      else
        if a2 < 0 then
          some (S, (-1))
        else
          if 255 < a2 then
            some (S, (-1))
          else
            zob2 (f_Mod_make S 1 a1 a2 (-1) 1 1) fun S8 v9 =>
            some (S8, v9)
set_option maxHeartbeats 1000000 in
set_option maxRecDepth 20000 in
theorem c_Mod_constant (S : zM) (a1 : Int32) (a2 : Int32) : ∀ r, f_Mod_constant S a1 a2 = some r → zMet l y_Mod_constant (zw y_Mod_constant prog_13_method_6_code 4 (some Jvm.ClassFile.FieldType.int)) 1 26 [.ref (B 0), .int a1, .int a2] D zcl (ztys cA) A (mRep D cA B A) (fun _ => 0) (fun _ => 0) S (zFi r) := by
  intro r hr
  refine zMet_of ⟨Nat.le_refl _, Nat.le_refl _⟩ (by decide) tk_Mod_constant (Nat.le_of_ble_eq_true rfl) ?_
  intro p e R s m args below meth c hf hlo C0 hK hA
  have K : mSO p l e R s m args below meth c 4 A D cA B S 0 (lv_args 0 [.ref (B 0), .int a1, .int a2]) [] zFi (f_Mod_constant S a1 a2) := by
    unfold f_Mod_constant
    refine so_go C0 1 (pc' := 1) (lv' := [(0, .ref (B 0)), (1, .int a1), (2, .int a2)]) (st' := [.int a1]) rfl ?_
    refine so_if_lt C0 rfl (fun h1 => ?_) (fun h1 => ?_)
    · refine so_go C0 3 (pc' := 32) (lv' := [(0, .ref (B 0)), (1, .int a1), (2, .int a2), (3, .int 0)]) (st' := [.int 0]) rfl ?_
      refine so_if_eqT C0 rfl (by decide) ?_
      refine so_go C0 1 (pc' := 49) (lv' := [(0, .ref (B 0)), (1, .int a1), (2, .int a2), (3, .int 0)]) (st' := [.int (-1)]) rfl ?_
      exact so_reti C0 rfl rfl
    · refine so_go C0 2 (pc' := 6) (lv' := [(0, .ref (B 0)), (1, .int a1), (2, .int a2)]) (st' := [.int 3, .int a1]) rfl ?_
      refine so_icmp_gt C0 rfl (fun h2 => ?_) (fun h2 => ?_)
      · refine so_go C0 3 (pc' := 32) (lv' := [(0, .ref (B 0)), (1, .int a1), (2, .int a2), (3, .int 0)]) (st' := [.int 0]) rfl ?_
        refine so_if_eqT C0 rfl (by decide) ?_
        refine so_go C0 1 (pc' := 49) (lv' := [(0, .ref (B 0)), (1, .int a1), (2, .int a2), (3, .int 0)]) (st' := [.int (-1)]) rfl ?_
        exact so_reti C0 rfl rfl
      · refine so_go C0 2 (pc' := 11) (lv' := [(0, .ref (B 0)), (1, .int a1), (2, .int a2)]) (st' := [.int 2, .int a1]) rfl ?_
        refine so_icmp_ne C0 rfl (fun h3 => ?_) (fun h3 => ?_)
        · refine so_go C0 4 (pc' := 32) (lv' := [(0, .ref (B 0)), (1, .int a1), (2, .int a2), (3, .int 1)]) (st' := [.int 1]) rfl ?_
          refine so_if_eqF C0 rfl (by decide) ?_
          refine so_go C0 7 (pc' := 42) (lv' := [(0, .ref (B 0)), (1, .int a1), (2, .int a2), (3, .int 1)]) (st' := [.int 1, .int 1, .int (-1), .int a2, .int a1, .int 1, .ref (B 0)]) rfl ?_
          refine so_oi (As := [.int 1, .int a1, .int a2, .int (-1), .int 1, .int 1]) (rest := []) C0 hK hA yk_Mod_make (c_Mod_make S 1 a1 a2 (-1) 1 1) wd_5_170 rfl rfl ⟨by rw [hf]; decide, by rw [hlo]; decide⟩ (Nat.le_of_ble_eq_true rfl) (mrc hK) (fun S4 v5 hv5 => ?_)
          refine so_go C0 1 (pc' := 49) (lv' := [(0, .ref (B 0)), (1, .int a1), (2, .int a2), (3, .int 1)]) (st' := [.int v5]) rfl ?_
          exact so_reti C0 rfl rfl
        · refine so_go C0 1 (pc' := 15) (lv' := [(0, .ref (B 0)), (1, .int a1), (2, .int a2)]) (st' := [.int a2]) rfl ?_
          refine so_if_lt C0 rfl (fun h6 => ?_) (fun h6 => ?_)
          · refine so_go C0 3 (pc' := 32) (lv' := [(0, .ref (B 0)), (1, .int a1), (2, .int a2), (3, .int 0)]) (st' := [.int 0]) rfl ?_
            refine so_if_eqT C0 rfl (by decide) ?_
            refine so_go C0 1 (pc' := 49) (lv' := [(0, .ref (B 0)), (1, .int a1), (2, .int a2), (3, .int 0)]) (st' := [.int (-1)]) rfl ?_
            exact so_reti C0 rfl rfl
          · refine so_go C0 2 (pc' := 22) (lv' := [(0, .ref (B 0)), (1, .int a1), (2, .int a2)]) (st' := [.int 255, .int a2]) rfl ?_
            refine so_icmp_gt C0 rfl (fun h7 => ?_) (fun h7 => ?_)
            · refine so_go C0 3 (pc' := 32) (lv' := [(0, .ref (B 0)), (1, .int a1), (2, .int a2), (3, .int 0)]) (st' := [.int 0]) rfl ?_
              refine so_if_eqT C0 rfl (by decide) ?_
              refine so_go C0 1 (pc' := 49) (lv' := [(0, .ref (B 0)), (1, .int a1), (2, .int a2), (3, .int 0)]) (st' := [.int (-1)]) rfl ?_
              exact so_reti C0 rfl rfl
            · refine so_go C0 4 (pc' := 32) (lv' := [(0, .ref (B 0)), (1, .int a1), (2, .int a2), (3, .int 1)]) (st' := [.int 1]) rfl ?_
              refine so_if_eqF C0 rfl (by decide) ?_
              refine so_go C0 7 (pc' := 42) (lv' := [(0, .ref (B 0)), (1, .int a1), (2, .int a2), (3, .int 1)]) (st' := [.int 1, .int 1, .int (-1), .int a2, .int a1, .int 1, .ref (B 0)]) rfl ?_
              refine so_oi (As := [.int 1, .int a1, .int a2, .int (-1), .int 1, .int 1]) (rest := []) C0 hK hA yk_Mod_make (c_Mod_make S 1 a1 a2 (-1) 1 1) wd_5_170 rfl rfl ⟨by rw [hf]; decide, by rw [hlo]; decide⟩ (Nat.le_of_ble_eq_true rfl) (mrc hK) (fun S8 v9 hv9 => ?_)
              refine so_go C0 1 (pc' := 49) (lv' := [(0, .ref (B 0)), (1, .int a1), (2, .int a2), (3, .int 1)]) (st' := [.int v9]) rfl ?_
              exact so_reti C0 rfl rfl
  exact K r hr
def f_Mod_built (S : zM) (a1 : Int32) (a2 : Int32) (a3 : Int32) : Option (zM × Int32) :=
  if a1 < 0 then
    some (S, (-1))
  else
    if (S.2.2 0) ≤ a1 then
      some (S, (-1))
    else
      if a2 < 0 then
        some (S, (-1))
      else
        m_rd 1024 (S.1 0) a1 fun v4 =>
        if a2 < v4 then
          m_rdl 1024 (S.2.1 1) a1 fun v6 =>
          if ¬ (lg_cmp ((z_lshr v6 a2) &&& 1) 1) = 0 then
            if a3 = (-1) then
              zob2 (f_Mod_make S 2 a1 a2 a3 1 1) fun S9 v10 =>
              some (S9, v10)
            else
              some (S, (-1))
          else
            if ¬ (f_Mod_isPattern S a3) = 0 then
              m_rd 16384 (S.1 7) a3 fun v12 =>
              m_rd 16384 (S.1 8) a3 fun v13 =>
              if v13 = 0 then
                zob2 (f_Mod_make S 2 a1 a2 a3 (1 + v12) 0) fun S15 v16 =>
                some (S15, v16)
              else
                zob2 (f_Mod_make S 2 a1 a2 a3 (1 + v12) 1) fun S17 v18 =>
                some (S17, v18)
            else
              some (S, (-1))
        else
          some (S, (-1))
set_option maxHeartbeats 1000000 in
set_option maxRecDepth 20000 in
theorem c_Mod_built (S : zM) (a1 : Int32) (a2 : Int32) (a3 : Int32) : ∀ r, f_Mod_built S a1 a2 a3 = some r → zMet l y_Mod_built (zw y_Mod_built prog_13_method_7_code 5 (some Jvm.ClassFile.FieldType.int)) 1 26 [.ref (B 0), .int a1, .int a2, .int a3] D zcl (ztys cA) A (mRep D cA B A) (fun _ => 0) (fun _ => 0) S (zFi r) := by
  intro r hr
  refine zMet_of ⟨Nat.le_refl _, Nat.le_refl _⟩ (by decide) tk_Mod_built (Nat.le_of_ble_eq_true rfl) ?_
  intro p e R s m args below meth c hf hlo C0 hK hA
  have K : mSO p l e R s m args below meth c 5 A D cA B S 0 (lv_args 0 [.ref (B 0), .int a1, .int a2, .int a3]) [] zFi (f_Mod_built S a1 a2 a3) := by
    unfold f_Mod_built
    refine so_go C0 1 (pc' := 1) (lv' := [(0, .ref (B 0)), (1, .int a1), (2, .int a2), (3, .int a3)]) (st' := [.int a1]) rfl ?_
    refine so_if_lt C0 rfl (fun h1 => ?_) (fun h1 => ?_)
    · refine so_go C0 1 (pc' := 27) (lv' := [(0, .ref (B 0)), (1, .int a1), (2, .int a2), (3, .int a3)]) (st' := [.int (-1)]) rfl ?_
      exact so_reti C0 rfl rfl
    · refine so_go C0 2 (pc' := 6) (lv' := [(0, .ref (B 0)), (1, .int a1), (2, .int a2), (3, .int a3)]) (st' := [.ref (B 0), .int a1]) rfl ?_
      refine so_mget C0 hK (j := 0) (v := .int (S.2.2 0)) (by decide) wd_5_19 rfl rfl ?_
      refine so_icmp_ge C0 rfl (fun h2 => ?_) (fun h2 => ?_)
      · refine so_go C0 1 (pc' := 27) (lv' := [(0, .ref (B 0)), (1, .int a1), (2, .int a2), (3, .int a3)]) (st' := [.int (-1)]) rfl ?_
        exact so_reti C0 rfl rfl
      · refine so_go C0 1 (pc' := 13) (lv' := [(0, .ref (B 0)), (1, .int a1), (2, .int a2), (3, .int a3)]) (st' := [.int a2]) rfl ?_
        refine so_if_lt C0 rfl (fun h3 => ?_) (fun h3 => ?_)
        · refine so_go C0 1 (pc' := 27) (lv' := [(0, .ref (B 0)), (1, .int a1), (2, .int a2), (3, .int a3)]) (st' := [.int (-1)]) rfl ?_
          exact so_reti C0 rfl rfl
        · refine so_go C0 2 (pc' := 18) (lv' := [(0, .ref (B 0)), (1, .int a1), (2, .int a2), (3, .int a3)]) (st' := [.ref (B 0), .int a2]) rfl ?_
          refine so_mget C0 hK (j := 1) (v := .ref (B 1)) (by decide) wd_5_20 rfl rfl ?_
          refine so_go C0 1 (pc' := 22) (lv' := [(0, .ref (B 0)), (1, .int a1), (2, .int a2), (3, .int a3)]) (st' := [.int a1, .ref (B 1), .int a2]) rfl ?_
          refine so_miald C0 hK (a := 0) (by decide) rfl rfl (by decide) rfl (fun v4 hv4 => ?_)
          refine so_icmp_lt C0 rfl (fun h5 => ?_) (fun h5 => ?_)
          · refine so_go C0 1 (pc' := 29) (lv' := [(0, .ref (B 0)), (1, .int a1), (2, .int a2), (3, .int a3)]) (st' := [.ref (B 0)]) rfl ?_
            refine so_mget C0 hK (j := 2) (v := .ref (B 2)) (by decide) wd_5_21 rfl rfl ?_
            refine so_go C0 1 (pc' := 33) (lv' := [(0, .ref (B 0)), (1, .int a1), (2, .int a2), (3, .int a3)]) (st' := [.int a1, .ref (B 2)]) rfl ?_
            refine so_mlald C0 hK (a := 1) (by decide) rfl rfl (by decide) rfl (fun v6 hv6 => ?_)
            refine so_go C0 6 (pc' := 40) (lv' := [(0, .ref (B 0)), (1, .int a1), (2, .int a2), (3, .int a3)]) (st' := [.int (lg_cmp ((z_lshr v6 a2) &&& 1) 1)]) rfl ?_
            refine so_if_ne C0 rfl (fun h7 => ?_) (fun h7 => ?_)
            · refine so_go C0 3 (pc' := 52) (lv' := [(0, .ref (B 0)), (1, .int a1), (2, .int a2), (3, .int a3), (4, .int 0)]) (st' := [.int 0]) rfl ?_
              refine so_if_eqT C0 rfl (by decide) ?_
              refine so_go C0 2 (pc' := 68) (lv' := [(0, .ref (B 0)), (1, .int a1), (2, .int a2), (3, .int a3), (4, .int 0)]) (st' := [.int (-1), .int a3]) rfl ?_
              refine so_icmp_eq C0 rfl (fun h8 => ?_) (fun h8 => ?_)
              · refine so_go C0 6 (pc' := 80) (lv' := [(0, .ref (B 0)), (1, .int a1), (2, .int a2), (3, .int a3), (4, .int 0)]) (st' := [.int 0, .int a3, .int a2, .int a1, .int 2, .ref (B 0)]) rfl ?_
                refine so_if_eqT C0 rfl (by decide) ?_
                refine so_go C0 2 (pc' := 97) (lv' := [(0, .ref (B 0)), (1, .int a1), (2, .int a2), (3, .int a3), (4, .int 0)]) (st' := [.int 0, .int 1, .int a3, .int a2, .int a1, .int 2, .ref (B 0)]) rfl ?_
                refine so_if_eqT C0 rfl (by decide) ?_
                refine so_go C0 2 (pc' := 114) (lv' := [(0, .ref (B 0)), (1, .int a1), (2, .int a2), (3, .int a3), (4, .int 0)]) (st' := [.int 1, .int 1, .int a3, .int a2, .int a1, .int 2, .ref (B 0)]) rfl ?_
                refine so_oi (As := [.int 2, .int a1, .int a2, .int a3, .int 1, .int 1]) (rest := []) C0 hK hA yk_Mod_make (c_Mod_make S 2 a1 a2 a3 1 1) wd_5_170 rfl rfl ⟨by rw [hf]; decide, by rw [hlo]; decide⟩ (Nat.le_of_ble_eq_true rfl) (mrc hK) (fun S9 v10 hv10 => ?_)
                exact so_reti C0 rfl rfl
              · refine so_go C0 1 (pc' := 72) (lv' := [(0, .ref (B 0)), (1, .int a1), (2, .int a2), (3, .int a3), (4, .int 0)]) (st' := [.int (-1)]) rfl ?_
                exact so_reti C0 rfl rfl
            · refine so_go C0 4 (pc' := 52) (lv' := [(0, .ref (B 0)), (1, .int a1), (2, .int a2), (3, .int a3), (4, .int 1)]) (st' := [.int 1]) rfl ?_
              refine so_if_eqF C0 rfl (by decide) ?_
              refine so_go C0 2 (pc' := 57) (lv' := [(0, .ref (B 0)), (1, .int a1), (2, .int a2), (3, .int a3), (4, .int 1)]) (st' := [.int a3, .ref (B 0)]) rfl ?_
              refine so_cp (As := [.int a3]) (rest := []) C0 hK hA yk_Mod_isPattern (c_Mod_isPattern S a3) wd_5_182 rfl rfl ⟨by rw [hf]; decide, by rw [hlo]; decide⟩ (Nat.le_of_ble_eq_true rfl) (mrc hK) ?_
              refine so_if_ne C0 rfl (fun h11 => ?_) (fun h11 => ?_)
              · refine so_go C0 6 (pc' := 80) (lv' := [(0, .ref (B 0)), (1, .int a1), (2, .int a2), (3, .int a3), (4, .int 1)]) (st' := [.int 1, .int a3, .int a2, .int a1, .int 2, .ref (B 0)]) rfl ?_
                refine so_if_eqF C0 rfl (by decide) ?_
                refine so_go C0 2 (pc' := 85) (lv' := [(0, .ref (B 0)), (1, .int a1), (2, .int a2), (3, .int a3), (4, .int 1)]) (st' := [.ref (B 0), .int 1, .int a3, .int a2, .int a1, .int 2, .ref (B 0)]) rfl ?_
                refine so_mget C0 hK (j := 9) (v := .ref (B 8)) (by decide) wd_5_28 rfl rfl ?_
                refine so_go C0 1 (pc' := 89) (lv' := [(0, .ref (B 0)), (1, .int a1), (2, .int a2), (3, .int a3), (4, .int 1)]) (st' := [.int a3, .ref (B 8), .int 1, .int a3, .int a2, .int a1, .int 2, .ref (B 0)]) rfl ?_
                refine so_msald C0 hK (a := 7) (by decide) rfl rfl (by decide) rfl (fun v12 hv12 => ?_)
                refine so_go C0 3 (pc' := 97) (lv' := [(0, .ref (B 0)), (1, .int a1), (2, .int a2), (3, .int a3), (4, .int 1)]) (st' := [.int 1, .int (1 + v12), .int a3, .int a2, .int a1, .int 2, .ref (B 0)]) rfl ?_
                refine so_if_eqF C0 rfl (by decide) ?_
                refine so_go C0 1 (pc' := 101) (lv' := [(0, .ref (B 0)), (1, .int a1), (2, .int a2), (3, .int a3), (4, .int 1)]) (st' := [.ref (B 0), .int (1 + v12), .int a3, .int a2, .int a1, .int 2, .ref (B 0)]) rfl ?_
                refine so_mget C0 hK (j := 10) (v := .ref (B 9)) (by decide) wd_5_29 rfl rfl ?_
                refine so_go C0 1 (pc' := 105) (lv' := [(0, .ref (B 0)), (1, .int a1), (2, .int a2), (3, .int a3), (4, .int 1)]) (st' := [.int a3, .ref (B 9), .int (1 + v12), .int a3, .int a2, .int a1, .int 2, .ref (B 0)]) rfl ?_
                refine so_mzald C0 hK (a := 8) (by decide) rfl rfl (by decide) rfl (fun v13 hv13 => ?_)
                refine so_if_eq C0 rfl (fun h14 => ?_) (fun h14 => ?_)
                · refine so_go C0 1 (pc' := 114) (lv' := [(0, .ref (B 0)), (1, .int a1), (2, .int a2), (3, .int a3), (4, .int 1)]) (st' := [.int 0, .int (1 + v12), .int a3, .int a2, .int a1, .int 2, .ref (B 0)]) rfl ?_
                  refine so_oi (As := [.int 2, .int a1, .int a2, .int a3, .int (1 + v12), .int 0]) (rest := []) C0 hK hA yk_Mod_make (c_Mod_make S 2 a1 a2 a3 (1 + v12) 0) wd_5_170 rfl rfl ⟨by rw [hf]; decide, by rw [hlo]; decide⟩ (Nat.le_of_ble_eq_true rfl) (mrc hK) (fun S15 v16 hv16 => ?_)
                  exact so_reti C0 rfl rfl
                · refine so_go C0 2 (pc' := 114) (lv' := [(0, .ref (B 0)), (1, .int a1), (2, .int a2), (3, .int a3), (4, .int 1)]) (st' := [.int 1, .int (1 + v12), .int a3, .int a2, .int a1, .int 2, .ref (B 0)]) rfl ?_
                  refine so_oi (As := [.int 2, .int a1, .int a2, .int a3, .int (1 + v12), .int 1]) (rest := []) C0 hK hA yk_Mod_make (c_Mod_make S 2 a1 a2 a3 (1 + v12) 1) wd_5_170 rfl rfl ⟨by rw [hf]; decide, by rw [hlo]; decide⟩ (Nat.le_of_ble_eq_true rfl) (mrc hK) (fun S17 v18 hv18 => ?_)
                  exact so_reti C0 rfl rfl
              · refine so_go C0 2 (pc' := 72) (lv' := [(0, .ref (B 0)), (1, .int a1), (2, .int a2), (3, .int a3), (4, .int 1)]) (st' := [.int (-1)]) rfl ?_
                exact so_reti C0 rfl rfl
          · refine so_go C0 1 (pc' := 27) (lv' := [(0, .ref (B 0)), (1, .int a1), (2, .int a2), (3, .int a3)]) (st' := [.int (-1)]) rfl ?_
            exact so_reti C0 rfl rfl
  exact K r hr
def f_Mod_name (S : zM) (a1 : Int32) (a2 : Int32) : Option (zM × Int32) :=
  if a1 < 0 then
    some (S, (-1))
  else
    if a2 = (-1) then
      if 0 ≤ a2 then
        m_rd 16384 (S.1 7) a2 fun v4 =>
        if a2 < 0 then
          zob2 (f_Mod_make S 3 a1 0 a2 (1 + v4) 1) fun S6 v7 =>
          some (S6, v7)
        else
          m_rd 16384 (S.1 8) a2 fun v8 =>
          if v8 = 0 then
            zob2 (f_Mod_make S 3 a1 0 a2 (1 + v4) 0) fun S10 v11 =>
            some (S10, v11)
          else
            zob2 (f_Mod_make S 3 a1 0 a2 (1 + v4) 1) fun S12 v13 =>
            some (S12, v13)
      else
        if a2 < 0 then
          zob2 (f_Mod_make S 3 a1 0 a2 1 1) fun S15 v16 =>
          some (S15, v16)
        else
          m_rd 16384 (S.1 8) a2 fun v17 =>
          if v17 = 0 then
            zob2 (f_Mod_make S 3 a1 0 a2 1 0) fun S19 v20 =>
            some (S19, v20)
          else
            zob2 (f_Mod_make S 3 a1 0 a2 1 1) fun S21 v22 =>
            some (S21, v22)
    else
      if ¬ (f_Mod_isPattern S a2) = 0 then
        if 0 ≤ a2 then
          m_rd 16384 (S.1 7) a2 fun v25 =>
          if a2 < 0 then
            zob2 (f_Mod_make S 3 a1 0 a2 (1 + v25) 1) fun S27 v28 =>
            some (S27, v28)
          else
            m_rd 16384 (S.1 8) a2 fun v29 =>
            if v29 = 0 then
              zob2 (f_Mod_make S 3 a1 0 a2 (1 + v25) 0) fun S31 v32 =>
              some (S31, v32)
            else
              zob2 (f_Mod_make S 3 a1 0 a2 (1 + v25) 1) fun S33 v34 =>
              some (S33, v34)
        else
          if a2 < 0 then
            zob2 (f_Mod_make S 3 a1 0 a2 1 1) fun S36 v37 =>
            some (S36, v37)
          else
            m_rd 16384 (S.1 8) a2 fun v38 =>
            if v38 = 0 then
              zob2 (f_Mod_make S 3 a1 0 a2 1 0) fun S40 v41 =>
              some (S40, v41)
            else
              zob2 (f_Mod_make S 3 a1 0 a2 1 1) fun S42 v43 =>
              some (S42, v43)
      else
        some (S, (-1))
set_option maxHeartbeats 1000000 in
set_option maxRecDepth 20000 in
theorem c_Mod_name (S : zM) (a1 : Int32) (a2 : Int32) : ∀ r, f_Mod_name S a1 a2 = some r → zMet l y_Mod_name (zw y_Mod_name prog_13_method_8_code 3 (some Jvm.ClassFile.FieldType.int)) 1 26 [.ref (B 0), .int a1, .int a2] D zcl (ztys cA) A (mRep D cA B A) (fun _ => 0) (fun _ => 0) S (zFi r) := by
  intro r hr
  refine zMet_of ⟨Nat.le_refl _, Nat.le_refl _⟩ (by decide) tk_Mod_name (Nat.le_of_ble_eq_true rfl) ?_
  intro p e R s m args below meth c hf hlo C0 hK hA
  have K : mSO p l e R s m args below meth c 3 A D cA B S 0 (lv_args 0 [.ref (B 0), .int a1, .int a2]) [] zFi (f_Mod_name S a1 a2) := by
    unfold f_Mod_name
    refine so_go C0 1 (pc' := 1) (lv' := [(0, .ref (B 0)), (1, .int a1), (2, .int a2)]) (st' := [.int a1]) rfl ?_
    refine so_if_lt C0 rfl (fun h1 => ?_) (fun h1 => ?_)
    · refine so_go C0 1 (pc' := 18) (lv' := [(0, .ref (B 0)), (1, .int a1), (2, .int a2)]) (st' := [.int (-1)]) rfl ?_
      exact so_reti C0 rfl rfl
    · refine so_go C0 2 (pc' := 6) (lv' := [(0, .ref (B 0)), (1, .int a1), (2, .int a2)]) (st' := [.int (-1), .int a2]) rfl ?_
      refine so_icmp_eq C0 rfl (fun h2 => ?_) (fun h2 => ?_)
      · refine so_go C0 6 (pc' := 25) (lv' := [(0, .ref (B 0)), (1, .int a1), (2, .int a2)]) (st' := [.int a2, .int a2, .int 0, .int a1, .int 3, .ref (B 0)]) rfl ?_
        refine so_if_ge C0 rfl (fun h3 => ?_) (fun h3 => ?_)
        · refine so_go C0 2 (pc' := 34) (lv' := [(0, .ref (B 0)), (1, .int a1), (2, .int a2)]) (st' := [.ref (B 0), .int 1, .int a2, .int 0, .int a1, .int 3, .ref (B 0)]) rfl ?_
          refine so_mget C0 hK (j := 9) (v := .ref (B 8)) (by decide) wd_5_28 rfl rfl ?_
          refine so_go C0 1 (pc' := 38) (lv' := [(0, .ref (B 0)), (1, .int a1), (2, .int a2)]) (st' := [.int a2, .ref (B 8), .int 1, .int a2, .int 0, .int a1, .int 3, .ref (B 0)]) rfl ?_
          refine so_msald C0 hK (a := 7) (by decide) rfl rfl (by decide) rfl (fun v4 hv4 => ?_)
          refine so_go C0 2 (pc' := 41) (lv' := [(0, .ref (B 0)), (1, .int a1), (2, .int a2)]) (st' := [.int a2, .int (1 + v4), .int a2, .int 0, .int a1, .int 3, .ref (B 0)]) rfl ?_
          refine so_if_lt C0 rfl (fun h5 => ?_) (fun h5 => ?_)
          · refine so_go C0 2 (pc' := 58) (lv' := [(0, .ref (B 0)), (1, .int a1), (2, .int a2)]) (st' := [.int 1, .int (1 + v4), .int a2, .int 0, .int a1, .int 3, .ref (B 0)]) rfl ?_
            refine so_oi (As := [.int 3, .int a1, .int 0, .int a2, .int (1 + v4), .int 1]) (rest := []) C0 hK hA yk_Mod_make (c_Mod_make S 3 a1 0 a2 (1 + v4) 1) wd_5_170 rfl rfl ⟨by rw [hf]; decide, by rw [hlo]; decide⟩ (Nat.le_of_ble_eq_true rfl) (mrc hK) (fun S6 v7 hv7 => ?_)
            exact so_reti C0 rfl rfl
          · refine so_go C0 1 (pc' := 45) (lv' := [(0, .ref (B 0)), (1, .int a1), (2, .int a2)]) (st' := [.ref (B 0), .int (1 + v4), .int a2, .int 0, .int a1, .int 3, .ref (B 0)]) rfl ?_
            refine so_mget C0 hK (j := 10) (v := .ref (B 9)) (by decide) wd_5_29 rfl rfl ?_
            refine so_go C0 1 (pc' := 49) (lv' := [(0, .ref (B 0)), (1, .int a1), (2, .int a2)]) (st' := [.int a2, .ref (B 9), .int (1 + v4), .int a2, .int 0, .int a1, .int 3, .ref (B 0)]) rfl ?_
            refine so_mzald C0 hK (a := 8) (by decide) rfl rfl (by decide) rfl (fun v8 hv8 => ?_)
            refine so_if_eq C0 rfl (fun h9 => ?_) (fun h9 => ?_)
            · refine so_go C0 1 (pc' := 58) (lv' := [(0, .ref (B 0)), (1, .int a1), (2, .int a2)]) (st' := [.int 0, .int (1 + v4), .int a2, .int 0, .int a1, .int 3, .ref (B 0)]) rfl ?_
              refine so_oi (As := [.int 3, .int a1, .int 0, .int a2, .int (1 + v4), .int 0]) (rest := []) C0 hK hA yk_Mod_make (c_Mod_make S 3 a1 0 a2 (1 + v4) 0) wd_5_170 rfl rfl ⟨by rw [hf]; decide, by rw [hlo]; decide⟩ (Nat.le_of_ble_eq_true rfl) (mrc hK) (fun S10 v11 hv11 => ?_)
              exact so_reti C0 rfl rfl
            · refine so_go C0 2 (pc' := 58) (lv' := [(0, .ref (B 0)), (1, .int a1), (2, .int a2)]) (st' := [.int 1, .int (1 + v4), .int a2, .int 0, .int a1, .int 3, .ref (B 0)]) rfl ?_
              refine so_oi (As := [.int 3, .int a1, .int 0, .int a2, .int (1 + v4), .int 1]) (rest := []) C0 hK hA yk_Mod_make (c_Mod_make S 3 a1 0 a2 (1 + v4) 1) wd_5_170 rfl rfl ⟨by rw [hf]; decide, by rw [hlo]; decide⟩ (Nat.le_of_ble_eq_true rfl) (mrc hK) (fun S12 v13 hv13 => ?_)
              exact so_reti C0 rfl rfl
        · refine so_go C0 3 (pc' := 41) (lv' := [(0, .ref (B 0)), (1, .int a1), (2, .int a2)]) (st' := [.int a2, .int 1, .int a2, .int 0, .int a1, .int 3, .ref (B 0)]) rfl ?_
          refine so_if_lt C0 rfl (fun h14 => ?_) (fun h14 => ?_)
          · refine so_go C0 2 (pc' := 58) (lv' := [(0, .ref (B 0)), (1, .int a1), (2, .int a2)]) (st' := [.int 1, .int 1, .int a2, .int 0, .int a1, .int 3, .ref (B 0)]) rfl ?_
            refine so_oi (As := [.int 3, .int a1, .int 0, .int a2, .int 1, .int 1]) (rest := []) C0 hK hA yk_Mod_make (c_Mod_make S 3 a1 0 a2 1 1) wd_5_170 rfl rfl ⟨by rw [hf]; decide, by rw [hlo]; decide⟩ (Nat.le_of_ble_eq_true rfl) (mrc hK) (fun S15 v16 hv16 => ?_)
            exact so_reti C0 rfl rfl
          · refine so_go C0 1 (pc' := 45) (lv' := [(0, .ref (B 0)), (1, .int a1), (2, .int a2)]) (st' := [.ref (B 0), .int 1, .int a2, .int 0, .int a1, .int 3, .ref (B 0)]) rfl ?_
            refine so_mget C0 hK (j := 10) (v := .ref (B 9)) (by decide) wd_5_29 rfl rfl ?_
            refine so_go C0 1 (pc' := 49) (lv' := [(0, .ref (B 0)), (1, .int a1), (2, .int a2)]) (st' := [.int a2, .ref (B 9), .int 1, .int a2, .int 0, .int a1, .int 3, .ref (B 0)]) rfl ?_
            refine so_mzald C0 hK (a := 8) (by decide) rfl rfl (by decide) rfl (fun v17 hv17 => ?_)
            refine so_if_eq C0 rfl (fun h18 => ?_) (fun h18 => ?_)
            · refine so_go C0 1 (pc' := 58) (lv' := [(0, .ref (B 0)), (1, .int a1), (2, .int a2)]) (st' := [.int 0, .int 1, .int a2, .int 0, .int a1, .int 3, .ref (B 0)]) rfl ?_
              refine so_oi (As := [.int 3, .int a1, .int 0, .int a2, .int 1, .int 0]) (rest := []) C0 hK hA yk_Mod_make (c_Mod_make S 3 a1 0 a2 1 0) wd_5_170 rfl rfl ⟨by rw [hf]; decide, by rw [hlo]; decide⟩ (Nat.le_of_ble_eq_true rfl) (mrc hK) (fun S19 v20 hv20 => ?_)
              exact so_reti C0 rfl rfl
            · refine so_go C0 2 (pc' := 58) (lv' := [(0, .ref (B 0)), (1, .int a1), (2, .int a2)]) (st' := [.int 1, .int 1, .int a2, .int 0, .int a1, .int 3, .ref (B 0)]) rfl ?_
              refine so_oi (As := [.int 3, .int a1, .int 0, .int a2, .int 1, .int 1]) (rest := []) C0 hK hA yk_Mod_make (c_Mod_make S 3 a1 0 a2 1 1) wd_5_170 rfl rfl ⟨by rw [hf]; decide, by rw [hlo]; decide⟩ (Nat.le_of_ble_eq_true rfl) (mrc hK) (fun S21 v22 hv22 => ?_)
              exact so_reti C0 rfl rfl
      · refine so_go C0 2 (pc' := 11) (lv' := [(0, .ref (B 0)), (1, .int a1), (2, .int a2)]) (st' := [.int a2, .ref (B 0)]) rfl ?_
        refine so_cp (As := [.int a2]) (rest := []) C0 hK hA yk_Mod_isPattern (c_Mod_isPattern S a2) wd_5_182 rfl rfl ⟨by rw [hf]; decide, by rw [hlo]; decide⟩ (Nat.le_of_ble_eq_true rfl) (mrc hK) ?_
        refine so_if_ne C0 rfl (fun h23 => ?_) (fun h23 => ?_)
        · refine so_go C0 6 (pc' := 25) (lv' := [(0, .ref (B 0)), (1, .int a1), (2, .int a2)]) (st' := [.int a2, .int a2, .int 0, .int a1, .int 3, .ref (B 0)]) rfl ?_
          refine so_if_ge C0 rfl (fun h24 => ?_) (fun h24 => ?_)
          · refine so_go C0 2 (pc' := 34) (lv' := [(0, .ref (B 0)), (1, .int a1), (2, .int a2)]) (st' := [.ref (B 0), .int 1, .int a2, .int 0, .int a1, .int 3, .ref (B 0)]) rfl ?_
            refine so_mget C0 hK (j := 9) (v := .ref (B 8)) (by decide) wd_5_28 rfl rfl ?_
            refine so_go C0 1 (pc' := 38) (lv' := [(0, .ref (B 0)), (1, .int a1), (2, .int a2)]) (st' := [.int a2, .ref (B 8), .int 1, .int a2, .int 0, .int a1, .int 3, .ref (B 0)]) rfl ?_
            refine so_msald C0 hK (a := 7) (by decide) rfl rfl (by decide) rfl (fun v25 hv25 => ?_)
            refine so_go C0 2 (pc' := 41) (lv' := [(0, .ref (B 0)), (1, .int a1), (2, .int a2)]) (st' := [.int a2, .int (1 + v25), .int a2, .int 0, .int a1, .int 3, .ref (B 0)]) rfl ?_
            refine so_if_lt C0 rfl (fun h26 => ?_) (fun h26 => ?_)
            · refine so_go C0 2 (pc' := 58) (lv' := [(0, .ref (B 0)), (1, .int a1), (2, .int a2)]) (st' := [.int 1, .int (1 + v25), .int a2, .int 0, .int a1, .int 3, .ref (B 0)]) rfl ?_
              refine so_oi (As := [.int 3, .int a1, .int 0, .int a2, .int (1 + v25), .int 1]) (rest := []) C0 hK hA yk_Mod_make (c_Mod_make S 3 a1 0 a2 (1 + v25) 1) wd_5_170 rfl rfl ⟨by rw [hf]; decide, by rw [hlo]; decide⟩ (Nat.le_of_ble_eq_true rfl) (mrc hK) (fun S27 v28 hv28 => ?_)
              exact so_reti C0 rfl rfl
            · refine so_go C0 1 (pc' := 45) (lv' := [(0, .ref (B 0)), (1, .int a1), (2, .int a2)]) (st' := [.ref (B 0), .int (1 + v25), .int a2, .int 0, .int a1, .int 3, .ref (B 0)]) rfl ?_
              refine so_mget C0 hK (j := 10) (v := .ref (B 9)) (by decide) wd_5_29 rfl rfl ?_
              refine so_go C0 1 (pc' := 49) (lv' := [(0, .ref (B 0)), (1, .int a1), (2, .int a2)]) (st' := [.int a2, .ref (B 9), .int (1 + v25), .int a2, .int 0, .int a1, .int 3, .ref (B 0)]) rfl ?_
              refine so_mzald C0 hK (a := 8) (by decide) rfl rfl (by decide) rfl (fun v29 hv29 => ?_)
              refine so_if_eq C0 rfl (fun h30 => ?_) (fun h30 => ?_)
              · refine so_go C0 1 (pc' := 58) (lv' := [(0, .ref (B 0)), (1, .int a1), (2, .int a2)]) (st' := [.int 0, .int (1 + v25), .int a2, .int 0, .int a1, .int 3, .ref (B 0)]) rfl ?_
                refine so_oi (As := [.int 3, .int a1, .int 0, .int a2, .int (1 + v25), .int 0]) (rest := []) C0 hK hA yk_Mod_make (c_Mod_make S 3 a1 0 a2 (1 + v25) 0) wd_5_170 rfl rfl ⟨by rw [hf]; decide, by rw [hlo]; decide⟩ (Nat.le_of_ble_eq_true rfl) (mrc hK) (fun S31 v32 hv32 => ?_)
                exact so_reti C0 rfl rfl
              · refine so_go C0 2 (pc' := 58) (lv' := [(0, .ref (B 0)), (1, .int a1), (2, .int a2)]) (st' := [.int 1, .int (1 + v25), .int a2, .int 0, .int a1, .int 3, .ref (B 0)]) rfl ?_
                refine so_oi (As := [.int 3, .int a1, .int 0, .int a2, .int (1 + v25), .int 1]) (rest := []) C0 hK hA yk_Mod_make (c_Mod_make S 3 a1 0 a2 (1 + v25) 1) wd_5_170 rfl rfl ⟨by rw [hf]; decide, by rw [hlo]; decide⟩ (Nat.le_of_ble_eq_true rfl) (mrc hK) (fun S33 v34 hv34 => ?_)
                exact so_reti C0 rfl rfl
          · refine so_go C0 3 (pc' := 41) (lv' := [(0, .ref (B 0)), (1, .int a1), (2, .int a2)]) (st' := [.int a2, .int 1, .int a2, .int 0, .int a1, .int 3, .ref (B 0)]) rfl ?_
            refine so_if_lt C0 rfl (fun h35 => ?_) (fun h35 => ?_)
            · refine so_go C0 2 (pc' := 58) (lv' := [(0, .ref (B 0)), (1, .int a1), (2, .int a2)]) (st' := [.int 1, .int 1, .int a2, .int 0, .int a1, .int 3, .ref (B 0)]) rfl ?_
              refine so_oi (As := [.int 3, .int a1, .int 0, .int a2, .int 1, .int 1]) (rest := []) C0 hK hA yk_Mod_make (c_Mod_make S 3 a1 0 a2 1 1) wd_5_170 rfl rfl ⟨by rw [hf]; decide, by rw [hlo]; decide⟩ (Nat.le_of_ble_eq_true rfl) (mrc hK) (fun S36 v37 hv37 => ?_)
              exact so_reti C0 rfl rfl
            · refine so_go C0 1 (pc' := 45) (lv' := [(0, .ref (B 0)), (1, .int a1), (2, .int a2)]) (st' := [.ref (B 0), .int 1, .int a2, .int 0, .int a1, .int 3, .ref (B 0)]) rfl ?_
              refine so_mget C0 hK (j := 10) (v := .ref (B 9)) (by decide) wd_5_29 rfl rfl ?_
              refine so_go C0 1 (pc' := 49) (lv' := [(0, .ref (B 0)), (1, .int a1), (2, .int a2)]) (st' := [.int a2, .ref (B 9), .int 1, .int a2, .int 0, .int a1, .int 3, .ref (B 0)]) rfl ?_
              refine so_mzald C0 hK (a := 8) (by decide) rfl rfl (by decide) rfl (fun v38 hv38 => ?_)
              refine so_if_eq C0 rfl (fun h39 => ?_) (fun h39 => ?_)
              · refine so_go C0 1 (pc' := 58) (lv' := [(0, .ref (B 0)), (1, .int a1), (2, .int a2)]) (st' := [.int 0, .int 1, .int a2, .int 0, .int a1, .int 3, .ref (B 0)]) rfl ?_
                refine so_oi (As := [.int 3, .int a1, .int 0, .int a2, .int 1, .int 0]) (rest := []) C0 hK hA yk_Mod_make (c_Mod_make S 3 a1 0 a2 1 0) wd_5_170 rfl rfl ⟨by rw [hf]; decide, by rw [hlo]; decide⟩ (Nat.le_of_ble_eq_true rfl) (mrc hK) (fun S40 v41 hv41 => ?_)
                exact so_reti C0 rfl rfl
              · refine so_go C0 2 (pc' := 58) (lv' := [(0, .ref (B 0)), (1, .int a1), (2, .int a2)]) (st' := [.int 1, .int 1, .int a2, .int 0, .int a1, .int 3, .ref (B 0)]) rfl ?_
                refine so_oi (As := [.int 3, .int a1, .int 0, .int a2, .int 1, .int 1]) (rest := []) C0 hK hA yk_Mod_make (c_Mod_make S 3 a1 0 a2 1 1) wd_5_170 rfl rfl ⟨by rw [hf]; decide, by rw [hlo]; decide⟩ (Nat.le_of_ble_eq_true rfl) (mrc hK) (fun S42 v43 hv43 => ?_)
                exact so_reti C0 rfl rfl
        · refine so_go C0 1 (pc' := 18) (lv' := [(0, .ref (B 0)), (1, .int a1), (2, .int a2)]) (st' := [.int (-1)]) rfl ?_
          exact so_reti C0 rfl rfl
  exact K r hr
def f_Mod_push_L76 : Nat → zM → Int32 → Int32 → Int32 → Option (zM × Int32)
  | 0, _, _, _, _ => none
  | n + 1, S, x1, x2, x4 =>
    if x4 ≤ 0 then
      m_wr 128 x4 (m_set S 11 (Int32.toNatClampNeg x4) x1) fun S6 =>
      m_wr 128 x4 (m_set S6 12 (Int32.toNatClampNeg x4) x2) fun S7 =>
      zbind (m_sc S7 3 ((S7.2.2 3) + 1)) fun S8 =>
      some (S8, (S8.2.2 3))
    else
      m_rd 128 (S.1 11) (x4 - 1) fun v9 =>
      if v9 ≤ x1 then
        m_wr 128 x4 (m_set S 11 (Int32.toNatClampNeg x4) x1) fun S11 =>
        m_wr 128 x4 (m_set S11 12 (Int32.toNatClampNeg x4) x2) fun S12 =>
        zbind (m_sc S12 3 ((S12.2.2 3) + 1)) fun S13 =>
        some (S13, (S13.2.2 3))
      else
        m_rd 128 (S.1 11) (x4 - 1) fun v14 =>
        m_wr 128 x4 (m_set S 11 (Int32.toNatClampNeg x4) v14) fun S15 =>
        m_rd 128 (S15.1 12) (x4 - 1) fun v16 =>
        m_wr 128 x4 (m_set S15 12 (Int32.toNatClampNeg x4) v16) fun S17 =>
        f_Mod_push_L76 n S17 x1 x2 (x4 + (-1))
def f_Mod_push_L28 : Nat → zM → Int32 → Int32 → Int32 → Int32 → Option (zM × Int32)
  | 0, _, _, _, _, _ => none
  | n + 1, S, x1, x2, x3, x4 =>
    if (S.2.2 3) ≤ x4 then
      if ¬ x3 = 0 then
        zbind (S.2.2 3) fun v4 =>
        f_Mod_push_L76 zbig S x1 x2 v4
      else
        some (S, (-1))
    else
      if x3 = 0 then
        f_Mod_push_L28 n S x1 x2 0 (x4 + 1)
      else
        m_rd 128 (S.1 11) x4 fun v19 =>
        if v19 = x1 then
          f_Mod_push_L28 n S x1 x2 0 (x4 + 1)
        else
          f_Mod_push_L28 n S x1 x2 1 (x4 + 1)
def f_Mod_push (S : zM) (a1 : Int32) (a2 : Int32) : Option (zM × Int32) :=
  if a1 < 0 then
    f_Mod_push_L28 zbig S a1 a2 0 0
  else
    if 128 ≤ a1 then
      f_Mod_push_L28 zbig S a1 a2 0 0
    else
      if (f_Mod_isPattern S a2) = 0 then
        f_Mod_push_L28 zbig S a1 a2 0 0
      else
        f_Mod_push_L28 zbig S a1 a2 1 0
set_option maxHeartbeats 1000000 in
set_option maxRecDepth 20000 in
theorem c_Mod_push (S : zM) (a1 : Int32) (a2 : Int32) : ∀ r, f_Mod_push S a1 a2 = some r → zMet l y_Mod_push (zw y_Mod_push prog_13_method_9_code 5 (some Jvm.ClassFile.FieldType.int)) 1 21 [.ref (B 0), .int a1, .int a2] D zcl (ztys cA) A (mRep D cA B A) (fun _ => 0) (fun _ => 0) S (zFi r) := by
  intro r hr
  refine zMet_of ⟨Nat.le_refl _, Nat.le_refl _⟩ (by decide) tk_Mod_push (Nat.le_of_ble_eq_true rfl) ?_
  intro p e R s m args below meth c hf hlo C0 hK hA
  have lp76 : ∀ (n : Nat) (S : zM) (x1 : Int32) (x2 : Int32) (x4 : Int32), mSO p l e R s m args below meth c 5 A D cA B S 76 [(0, .ref (B 0)), (1, .int x1), (2, .int x2), (4, .int x4)] [] zFi (f_Mod_push_L76 n S x1 x2 x4) := by
    intro n
    induction n with
    | zero =>
      intro S x1 x2 x4
      rw [f_Mod_push_L76]
      exact so_none
    | succ n ih76 =>
      intro S x1 x2 x4
      rw [f_Mod_push_L76]
      refine so_go C0 1 (pc' := 78) (lv' := [(0, .ref (B 0)), (1, .int x1), (2, .int x2), (4, .int x4)]) (st' := [.int x4]) rfl ?_
      refine so_if_le C0 rfl (fun h5 => ?_) (fun h5 => ?_)
      · refine so_go C0 1 (pc' := 133) (lv' := [(0, .ref (B 0)), (1, .int x1), (2, .int x2), (4, .int x4)]) (st' := [.ref (B 0)]) rfl ?_
        refine so_mget C0 hK (j := 15) (v := .ref (B 12)) (by decide) wd_5_34 rfl rfl ?_
        refine so_go C0 2 (pc' := 139) (lv' := [(0, .ref (B 0)), (1, .int x1), (2, .int x2), (4, .int x4)]) (st' := [.int x1, .int x4, .ref (B 12)]) rfl ?_
        refine so_miast C0 hK (a := 11) (by decide) rfl rfl (by decide) rfl (fun S6 hS6 => ?_)
        refine so_go C0 1 (pc' := 141) (lv' := [(0, .ref (B 0)), (1, .int x1), (2, .int x2), (4, .int x4)]) (st' := [.ref (B 0)]) rfl ?_
        refine so_mget C0 hK (j := 16) (v := .ref (B 13)) (by decide) wd_5_35 rfl rfl ?_
        refine so_go C0 2 (pc' := 147) (lv' := [(0, .ref (B 0)), (1, .int x1), (2, .int x2), (4, .int x4)]) (st' := [.int x2, .int x4, .ref (B 13)]) rfl ?_
        refine so_miast C0 hK (a := 12) (by decide) rfl rfl (by decide) rfl (fun S7 hS7 => ?_)
        refine so_go C0 2 (pc' := 150) (lv' := [(0, .ref (B 0)), (1, .int x1), (2, .int x2), (4, .int x4)]) (st' := [.ref (B 0), .ref (B 0)]) rfl ?_
        refine so_mget C0 hK (j := 14) (v := .int (S7.2.2 3)) (by decide) wd_5_33 rfl rfl ?_
        refine so_go C0 2 (pc' := 155) (lv' := [(0, .ref (B 0)), (1, .int x1), (2, .int x2), (4, .int x4)]) (st' := [.int ((S7.2.2 3) + 1), .ref (B 0)]) rfl ?_
        refine so_mput C0 hK (j := 14) (q := 3) (ty := .int) (by decide) (Nat.le_of_ble_eq_true rfl) rfl (by decide +kernel) rfl rfl wd_5_33 rfl rfl ?_
        refine so_st (fun S8 hS8 => ?_)
        refine so_go C0 1 (pc' := 159) (lv' := [(0, .ref (B 0)), (1, .int x1), (2, .int x2), (4, .int x4)]) (st' := [.ref (B 0)]) rfl ?_
        refine so_mget C0 hK (j := 14) (v := .int (S8.2.2 3)) (by decide) wd_5_33 rfl rfl ?_
        exact so_reti C0 rfl rfl
      · refine so_go C0 1 (pc' := 82) (lv' := [(0, .ref (B 0)), (1, .int x1), (2, .int x2), (4, .int x4)]) (st' := [.ref (B 0)]) rfl ?_
        refine so_mget C0 hK (j := 15) (v := .ref (B 12)) (by decide) wd_5_34 rfl rfl ?_
        refine so_go C0 3 (pc' := 89) (lv' := [(0, .ref (B 0)), (1, .int x1), (2, .int x2), (4, .int x4)]) (st' := [.int (x4 - 1), .ref (B 12)]) rfl ?_
        refine so_miald C0 hK (a := 11) (by decide) rfl rfl (by decide) rfl (fun v9 hv9 => ?_)
        refine so_go C0 1 (pc' := 91) (lv' := [(0, .ref (B 0)), (1, .int x1), (2, .int x2), (4, .int x4)]) (st' := [.int x1, .int v9]) rfl ?_
        refine so_icmp_le C0 rfl (fun h10 => ?_) (fun h10 => ?_)
        · refine so_go C0 1 (pc' := 133) (lv' := [(0, .ref (B 0)), (1, .int x1), (2, .int x2), (4, .int x4)]) (st' := [.ref (B 0)]) rfl ?_
          refine so_mget C0 hK (j := 15) (v := .ref (B 12)) (by decide) wd_5_34 rfl rfl ?_
          refine so_go C0 2 (pc' := 139) (lv' := [(0, .ref (B 0)), (1, .int x1), (2, .int x2), (4, .int x4)]) (st' := [.int x1, .int x4, .ref (B 12)]) rfl ?_
          refine so_miast C0 hK (a := 11) (by decide) rfl rfl (by decide) rfl (fun S11 hS11 => ?_)
          refine so_go C0 1 (pc' := 141) (lv' := [(0, .ref (B 0)), (1, .int x1), (2, .int x2), (4, .int x4)]) (st' := [.ref (B 0)]) rfl ?_
          refine so_mget C0 hK (j := 16) (v := .ref (B 13)) (by decide) wd_5_35 rfl rfl ?_
          refine so_go C0 2 (pc' := 147) (lv' := [(0, .ref (B 0)), (1, .int x1), (2, .int x2), (4, .int x4)]) (st' := [.int x2, .int x4, .ref (B 13)]) rfl ?_
          refine so_miast C0 hK (a := 12) (by decide) rfl rfl (by decide) rfl (fun S12 hS12 => ?_)
          refine so_go C0 2 (pc' := 150) (lv' := [(0, .ref (B 0)), (1, .int x1), (2, .int x2), (4, .int x4)]) (st' := [.ref (B 0), .ref (B 0)]) rfl ?_
          refine so_mget C0 hK (j := 14) (v := .int (S12.2.2 3)) (by decide) wd_5_33 rfl rfl ?_
          refine so_go C0 2 (pc' := 155) (lv' := [(0, .ref (B 0)), (1, .int x1), (2, .int x2), (4, .int x4)]) (st' := [.int ((S12.2.2 3) + 1), .ref (B 0)]) rfl ?_
          refine so_mput C0 hK (j := 14) (q := 3) (ty := .int) (by decide) (Nat.le_of_ble_eq_true rfl) rfl (by decide +kernel) rfl rfl wd_5_33 rfl rfl ?_
          refine so_st (fun S13 hS13 => ?_)
          refine so_go C0 1 (pc' := 159) (lv' := [(0, .ref (B 0)), (1, .int x1), (2, .int x2), (4, .int x4)]) (st' := [.ref (B 0)]) rfl ?_
          refine so_mget C0 hK (j := 14) (v := .int (S13.2.2 3)) (by decide) wd_5_33 rfl rfl ?_
          exact so_reti C0 rfl rfl
        · refine so_go C0 1 (pc' := 95) (lv' := [(0, .ref (B 0)), (1, .int x1), (2, .int x2), (4, .int x4)]) (st' := [.ref (B 0)]) rfl ?_
          refine so_mget C0 hK (j := 15) (v := .ref (B 12)) (by decide) wd_5_34 rfl rfl ?_
          refine so_go C0 2 (pc' := 101) (lv' := [(0, .ref (B 0)), (1, .int x1), (2, .int x2), (4, .int x4)]) (st' := [.ref (B 0), .int x4, .ref (B 12)]) rfl ?_
          refine so_mget C0 hK (j := 15) (v := .ref (B 12)) (by decide) wd_5_34 rfl rfl ?_
          refine so_go C0 3 (pc' := 108) (lv' := [(0, .ref (B 0)), (1, .int x1), (2, .int x2), (4, .int x4)]) (st' := [.int (x4 - 1), .ref (B 12), .int x4, .ref (B 12)]) rfl ?_
          refine so_miald C0 hK (a := 11) (by decide) rfl rfl (by decide) rfl (fun v14 hv14 => ?_)
          refine so_miast C0 hK (a := 11) (by decide) rfl rfl (by decide) rfl (fun S15 hS15 => ?_)
          refine so_go C0 1 (pc' := 111) (lv' := [(0, .ref (B 0)), (1, .int x1), (2, .int x2), (4, .int x4)]) (st' := [.ref (B 0)]) rfl ?_
          refine so_mget C0 hK (j := 16) (v := .ref (B 13)) (by decide) wd_5_35 rfl rfl ?_
          refine so_go C0 2 (pc' := 117) (lv' := [(0, .ref (B 0)), (1, .int x1), (2, .int x2), (4, .int x4)]) (st' := [.ref (B 0), .int x4, .ref (B 13)]) rfl ?_
          refine so_mget C0 hK (j := 16) (v := .ref (B 13)) (by decide) wd_5_35 rfl rfl ?_
          refine so_go C0 3 (pc' := 124) (lv' := [(0, .ref (B 0)), (1, .int x1), (2, .int x2), (4, .int x4)]) (st' := [.int (x4 - 1), .ref (B 13), .int x4, .ref (B 13)]) rfl ?_
          refine so_miald C0 hK (a := 12) (by decide) rfl rfl (by decide) rfl (fun v16 hv16 => ?_)
          refine so_miast C0 hK (a := 12) (by decide) rfl rfl (by decide) rfl (fun S17 hS17 => ?_)
          refine so_go C0 2 (pc' := 76) (lv' := [(0, .ref (B 0)), (1, .int x1), (2, .int x2), (4, .int (x4 + (-1)))]) (st' := []) rfl ?_
          exact so_sub (lv' := [(0, .ref (B 0)), (1, .int x1), (2, .int x2), (4, .int (x4 + (-1)))]) (zpk [0, 1, 2, 3] rfl) (ih76 S17 x1 x2 (x4 + (-1)))
  have lp28 : ∀ (n : Nat) (S : zM) (x1 : Int32) (x2 : Int32) (x3 : Int32) (x4 : Int32), mSO p l e R s m args below meth c 5 A D cA B S 28 [(0, .ref (B 0)), (1, .int x1), (2, .int x2), (3, .int x3), (4, .int x4)] [] zFi (f_Mod_push_L28 n S x1 x2 x3 x4) := by
    intro n
    induction n with
    | zero =>
      intro S x1 x2 x3 x4
      rw [f_Mod_push_L28]
      exact so_none
    | succ n ih28 =>
      intro S x1 x2 x3 x4
      rw [f_Mod_push_L28]
      refine so_go C0 2 (pc' := 31) (lv' := [(0, .ref (B 0)), (1, .int x1), (2, .int x2), (3, .int x3), (4, .int x4)]) (st' := [.ref (B 0), .int x4]) rfl ?_
      refine so_mget C0 hK (j := 14) (v := .int (S.2.2 3)) (by decide) wd_5_33 rfl rfl ?_
      refine so_icmp_ge C0 rfl (fun h2 => ?_) (fun h2 => ?_)
      · refine so_go C0 1 (pc' := 65) (lv' := [(0, .ref (B 0)), (1, .int x1), (2, .int x2), (3, .int x3), (4, .int x4)]) (st' := [.int x3]) rfl ?_
        refine so_if_ne C0 rfl (fun h3 => ?_) (fun h3 => ?_)
        · refine so_go C0 1 (pc' := 71) (lv' := [(0, .ref (B 0)), (1, .int x1), (2, .int x2), (3, .int x3), (4, .int x4)]) (st' := [.ref (B 0)]) rfl ?_
          refine so_mget C0 hK (j := 14) (v := .int (S.2.2 3)) (by decide) wd_5_33 rfl rfl ?_
          refine so_nm (V := .int) (fun v4 hv4 => ?_)
          refine so_go C0 1 (pc' := 76) (lv' := [(0, .ref (B 0)), (1, .int x1), (2, .int x2), (3, .int x3), (4, .int v4)]) (st' := []) rfl ?_
          exact so_sub (lv' := [(0, .ref (B 0)), (1, .int x1), (2, .int x2), (4, .int v4)]) (zpk [0, 1, 2, 4] rfl) (lp76 zbig S x1 x2 v4)
        · refine so_go C0 1 (pc' := 69) (lv' := [(0, .ref (B 0)), (1, .int x1), (2, .int x2), (3, .int x3), (4, .int x4)]) (st' := [.int (-1)]) rfl ?_
          exact so_reti C0 rfl rfl
      · refine so_go C0 1 (pc' := 38) (lv' := [(0, .ref (B 0)), (1, .int x1), (2, .int x2), (3, .int x3), (4, .int x4)]) (st' := [.int x3]) rfl ?_
        refine so_if_eq C0 rfl (fun h18 => ?_) (fun h18 => ?_)
        · refine so_go C0 4 (pc' := 28) (lv' := [(0, .ref (B 0)), (1, .int x1), (2, .int x2), (3, .int 0), (4, .int (x4 + 1))]) (st' := []) rfl ?_
          exact so_sub (lv' := [(0, .ref (B 0)), (1, .int x1), (2, .int x2), (3, .int 0), (4, .int (x4 + 1))]) (zpk [0, 1, 2, 3, 4] rfl) (ih28 S x1 x2 0 (x4 + 1))
        · refine so_go C0 1 (pc' := 42) (lv' := [(0, .ref (B 0)), (1, .int x1), (2, .int x2), (3, .int x3), (4, .int x4)]) (st' := [.ref (B 0)]) rfl ?_
          refine so_mget C0 hK (j := 15) (v := .ref (B 12)) (by decide) wd_5_34 rfl rfl ?_
          refine so_go C0 1 (pc' := 47) (lv' := [(0, .ref (B 0)), (1, .int x1), (2, .int x2), (3, .int x3), (4, .int x4)]) (st' := [.int x4, .ref (B 12)]) rfl ?_
          refine so_miald C0 hK (a := 11) (by decide) rfl rfl (by decide) rfl (fun v19 hv19 => ?_)
          refine so_go C0 1 (pc' := 49) (lv' := [(0, .ref (B 0)), (1, .int x1), (2, .int x2), (3, .int x3), (4, .int x4)]) (st' := [.int x1, .int v19]) rfl ?_
          refine so_icmp_eq C0 rfl (fun h20 => ?_) (fun h20 => ?_)
          · refine so_go C0 4 (pc' := 28) (lv' := [(0, .ref (B 0)), (1, .int x1), (2, .int x2), (3, .int 0), (4, .int (x4 + 1))]) (st' := []) rfl ?_
            exact so_sub (lv' := [(0, .ref (B 0)), (1, .int x1), (2, .int x2), (3, .int 0), (4, .int (x4 + 1))]) (zpk [0, 1, 2, 3, 4] rfl) (ih28 S x1 x2 0 (x4 + 1))
          · refine so_go C0 5 (pc' := 28) (lv' := [(0, .ref (B 0)), (1, .int x1), (2, .int x2), (3, .int 1), (4, .int (x4 + 1))]) (st' := []) rfl ?_
            exact so_sub (lv' := [(0, .ref (B 0)), (1, .int x1), (2, .int x2), (3, .int 1), (4, .int (x4 + 1))]) (zpk [0, 1, 2, 3, 4] rfl) (ih28 S x1 x2 1 (x4 + 1))
  have K : mSO p l e R s m args below meth c 5 A D cA B S 0 (lv_args 0 [.ref (B 0), .int a1, .int a2]) [] zFi (f_Mod_push S a1 a2) := by
    unfold f_Mod_push
    refine so_go C0 1 (pc' := 1) (lv' := [(0, .ref (B 0)), (1, .int a1), (2, .int a2)]) (st' := [.int a1]) rfl ?_
    refine so_if_lt C0 rfl (fun h1 => ?_) (fun h1 => ?_)
    · refine so_go C0 4 (pc' := 28) (lv' := [(0, .ref (B 0)), (1, .int a1), (2, .int a2), (3, .int 0), (4, .int 0)]) (st' := []) rfl ?_
      exact so_sub (lv' := [(0, .ref (B 0)), (1, .int a1), (2, .int a2), (3, .int 0), (4, .int 0)]) (zpk [0, 1, 2, 3, 4] rfl) (lp28 zbig S a1 a2 0 0)
    · refine so_go C0 2 (pc' := 8) (lv' := [(0, .ref (B 0)), (1, .int a1), (2, .int a2)]) (st' := [.int 128, .int a1]) rfl ?_
      refine so_icmp_ge C0 rfl (fun h21 => ?_) (fun h21 => ?_)
      · refine so_go C0 4 (pc' := 28) (lv' := [(0, .ref (B 0)), (1, .int a1), (2, .int a2), (3, .int 0), (4, .int 0)]) (st' := []) rfl ?_
        exact so_sub (lv' := [(0, .ref (B 0)), (1, .int a1), (2, .int a2), (3, .int 0), (4, .int 0)]) (zpk [0, 1, 2, 3, 4] rfl) (lp28 zbig S a1 a2 0 0)
      · refine so_go C0 2 (pc' := 13) (lv' := [(0, .ref (B 0)), (1, .int a1), (2, .int a2)]) (st' := [.int a2, .ref (B 0)]) rfl ?_
        refine so_cp (As := [.int a2]) (rest := []) C0 hK hA yk_Mod_isPattern (c_Mod_isPattern S a2) wd_5_182 rfl rfl ⟨by rw [hf]; decide, by rw [hlo]; decide⟩ (Nat.le_of_ble_eq_true rfl) (mrc hK) ?_
        refine so_if_eq C0 rfl (fun h22 => ?_) (fun h22 => ?_)
        · refine so_go C0 4 (pc' := 28) (lv' := [(0, .ref (B 0)), (1, .int a1), (2, .int a2), (3, .int 0), (4, .int 0)]) (st' := []) rfl ?_
          exact so_sub (lv' := [(0, .ref (B 0)), (1, .int a1), (2, .int a2), (3, .int 0), (4, .int 0)]) (zpk [0, 1, 2, 3, 4] rfl) (lp28 zbig S a1 a2 0 0)
        · refine so_go C0 5 (pc' := 28) (lv' := [(0, .ref (B 0)), (1, .int a1), (2, .int a2), (3, .int 1), (4, .int 0)]) (st' := []) rfl ?_
          exact so_sub (lv' := [(0, .ref (B 0)), (1, .int a1), (2, .int a2), (3, .int 1), (4, .int 0)]) (zpk [0, 1, 2, 3, 4] rfl) (lp28 zbig S a1 a2 1 0)
  exact K r hr
def f_Mod_record_L135 : Nat → zM → Int32 → Int32 → Option (zM × Int32)
  | 0, _, _, _ => none
  | n + 1, S, x4, x5 =>
    if (S.2.2 3) ≤ x5 then
      m_wr 16384 x4 (m_set S 6 (Int32.toNatClampNeg x4) (vp_nar .short ((S.2.2 3).toInt16.toInt32))) fun S10 =>
      zbind (m_sc S10 3 0) fun S11 =>
      some (S11, x4)
    else
      m_rd 128 (S.1 11) x5 fun v12 =>
      m_wr 16384 (S.2.2 2) (m_set S 9 (Int32.toNatClampNeg (S.2.2 2)) (vp_nar .short v12.toInt16.toInt32)) fun S13 =>
      m_rd 128 (S13.1 12) x5 fun v14 =>
      m_wr 16384 (S13.2.2 2) (m_set S13 10 (Int32.toNatClampNeg (S13.2.2 2)) (vp_nar .short v14.toInt16.toInt32)) fun S15 =>
      zbind (m_sc S15 2 ((S15.2.2 2) + 1)) fun S16 =>
      f_Mod_record_L135 n S16 x4 (x5 + 1)
def f_Mod_record_L54 : Nat → zM → Int32 → Int32 → Int32 → Int32 → Option (zM × Int32)
  | 0, _, _, _, _, _ => none
  | n + 1, S, x1, x2, x3, x4 =>
    if (S.2.2 3) ≤ x4 then
      zob2 (f_Mod_make S 4 x1 0 (S.2.2 2) x2 x3) fun S6 v7 =>
      if 0 ≤ v7 then
        f_Mod_record_L135 zbig S6 v7 0
      else
        some (S6, v7)
    else
      m_rd 128 (S.1 12) x4 fun v17 =>
      m_rd 16384 (S.1 7) v17 fun v18 =>
      zbind (x2 + v18) fun v19 =>
      if x3 = 0 then
        f_Mod_record_L54 n S x1 v19 0 (x4 + 1)
      else
        m_rd 128 (S.1 12) x4 fun v21 =>
        m_rd 16384 (S.1 8) v21 fun v22 =>
        if v22 = 0 then
          f_Mod_record_L54 n S x1 v19 0 (x4 + 1)
        else
          f_Mod_record_L54 n S x1 v19 1 (x4 + 1)
def f_Mod_record (S : zM) (a1 : Int32) : Option (zM × Int32) :=
  if a1 < 0 then
    some (S, (-1))
  else
    if 128 < a1 then
      some (S, (-1))
    else
      if (S.2.2 3) ≤ 0 then
        if ¬ (S.2.2 3) = a1 then
          f_Mod_record_L54 zbig S a1 1 0 0
        else
          f_Mod_record_L54 zbig S a1 1 1 0
      else
        m_rd 128 (S.1 11) ((S.2.2 3) - 1) fun v24 =>
        if v24 < a1 then
          if ¬ (S.2.2 3) = a1 then
            f_Mod_record_L54 zbig S a1 1 0 0
          else
            f_Mod_record_L54 zbig S a1 1 1 0
        else
          some (S, (-1))
set_option maxHeartbeats 1000000 in
set_option maxRecDepth 20000 in
theorem c_Mod_record (S : zM) (a1 : Int32) : ∀ r, f_Mod_record S a1 = some r → zMet l y_Mod_record (zw y_Mod_record prog_13_method_10_code 6 (some Jvm.ClassFile.FieldType.int)) 1 26 [.ref (B 0), .int a1] D zcl (ztys cA) A (mRep D cA B A) (fun _ => 0) (fun _ => 0) S (zFi r) := by
  intro r hr
  refine zMet_of ⟨Nat.le_refl _, Nat.le_refl _⟩ (by decide) tk_Mod_record (Nat.le_of_ble_eq_true rfl) ?_
  intro p e R s m args below meth c hf hlo C0 hK hA
  have lp135 : ∀ (n : Nat) (S : zM) (x4 : Int32) (x5 : Int32), mSO p l e R s m args below meth c 6 A D cA B S 135 [(0, .ref (B 0)), (4, .int x4), (5, .int x5)] [] zFi (f_Mod_record_L135 n S x4 x5) := by
    intro n
    induction n with
    | zero =>
      intro S x4 x5
      rw [f_Mod_record_L135]
      exact so_none
    | succ n ih135 =>
      intro S x4 x5
      rw [f_Mod_record_L135]
      refine so_go C0 2 (pc' := 138) (lv' := [(0, .ref (B 0)), (4, .int x4), (5, .int x5)]) (st' := [.ref (B 0), .int x5]) rfl ?_
      refine so_mget C0 hK (j := 14) (v := .int (S.2.2 3)) (by decide) wd_5_33 rfl rfl ?_
      refine so_icmp_ge C0 rfl (fun h9 => ?_) (fun h9 => ?_)
      · refine so_go C0 1 (pc' := 195) (lv' := [(0, .ref (B 0)), (4, .int x4), (5, .int x5)]) (st' := [.ref (B 0)]) rfl ?_
        refine so_mget C0 hK (j := 8) (v := .ref (B 7)) (by decide) wd_5_27 rfl rfl ?_
        refine so_go C0 2 (pc' := 201) (lv' := [(0, .ref (B 0)), (4, .int x4), (5, .int x5)]) (st' := [.ref (B 0), .int x4, .ref (B 7)]) rfl ?_
        refine so_mget C0 hK (j := 14) (v := .int (S.2.2 3)) (by decide) wd_5_33 rfl rfl ?_
        refine so_go C0 1 (pc' := 205) (lv' := [(0, .ref (B 0)), (4, .int x4), (5, .int x5)]) (st' := [.int ((S.2.2 3).toInt16.toInt32), .int x4, .ref (B 7)]) rfl ?_
        refine so_msast C0 hK (a := 6) (by decide) rfl rfl (by decide) rfl (fun S10 hS10 => ?_)
        refine so_go C0 2 (pc' := 208) (lv' := [(0, .ref (B 0)), (4, .int x4), (5, .int x5)]) (st' := [.int 0, .ref (B 0)]) rfl ?_
        refine so_mput C0 hK (j := 14) (q := 3) (ty := .int) (by decide) (Nat.le_of_ble_eq_true rfl) rfl (by decide +kernel) rfl rfl wd_5_33 rfl rfl ?_
        refine so_st (fun S11 hS11 => ?_)
        refine so_go C0 1 (pc' := 213) (lv' := [(0, .ref (B 0)), (4, .int x4), (5, .int x5)]) (st' := [.int x4]) rfl ?_
        exact so_reti C0 rfl rfl
      · refine so_go C0 1 (pc' := 145) (lv' := [(0, .ref (B 0)), (4, .int x4), (5, .int x5)]) (st' := [.ref (B 0)]) rfl ?_
        refine so_mget C0 hK (j := 12) (v := .ref (B 10)) (by decide) wd_5_31 rfl rfl ?_
        refine so_go C0 1 (pc' := 149) (lv' := [(0, .ref (B 0)), (4, .int x4), (5, .int x5)]) (st' := [.ref (B 0), .ref (B 10)]) rfl ?_
        refine so_mget C0 hK (j := 11) (v := .int (S.2.2 2)) (by decide) wd_5_30 rfl rfl ?_
        refine so_go C0 1 (pc' := 153) (lv' := [(0, .ref (B 0)), (4, .int x4), (5, .int x5)]) (st' := [.ref (B 0), .int (S.2.2 2), .ref (B 10)]) rfl ?_
        refine so_mget C0 hK (j := 15) (v := .ref (B 12)) (by decide) wd_5_34 rfl rfl ?_
        refine so_go C0 1 (pc' := 158) (lv' := [(0, .ref (B 0)), (4, .int x4), (5, .int x5)]) (st' := [.int x5, .ref (B 12), .int (S.2.2 2), .ref (B 10)]) rfl ?_
        refine so_miald C0 hK (a := 11) (by decide) rfl rfl (by decide) rfl (fun v12 hv12 => ?_)
        refine so_go C0 1 (pc' := 160) (lv' := [(0, .ref (B 0)), (4, .int x4), (5, .int x5)]) (st' := [.int v12.toInt16.toInt32, .int (S.2.2 2), .ref (B 10)]) rfl ?_
        refine so_msast C0 hK (a := 9) (by decide) rfl rfl (by decide) rfl (fun S13 hS13 => ?_)
        refine so_go C0 1 (pc' := 162) (lv' := [(0, .ref (B 0)), (4, .int x4), (5, .int x5)]) (st' := [.ref (B 0)]) rfl ?_
        refine so_mget C0 hK (j := 13) (v := .ref (B 11)) (by decide) wd_5_32 rfl rfl ?_
        refine so_go C0 1 (pc' := 166) (lv' := [(0, .ref (B 0)), (4, .int x4), (5, .int x5)]) (st' := [.ref (B 0), .ref (B 11)]) rfl ?_
        refine so_mget C0 hK (j := 11) (v := .int (S13.2.2 2)) (by decide) wd_5_30 rfl rfl ?_
        refine so_go C0 1 (pc' := 170) (lv' := [(0, .ref (B 0)), (4, .int x4), (5, .int x5)]) (st' := [.ref (B 0), .int (S13.2.2 2), .ref (B 11)]) rfl ?_
        refine so_mget C0 hK (j := 16) (v := .ref (B 13)) (by decide) wd_5_35 rfl rfl ?_
        refine so_go C0 1 (pc' := 175) (lv' := [(0, .ref (B 0)), (4, .int x4), (5, .int x5)]) (st' := [.int x5, .ref (B 13), .int (S13.2.2 2), .ref (B 11)]) rfl ?_
        refine so_miald C0 hK (a := 12) (by decide) rfl rfl (by decide) rfl (fun v14 hv14 => ?_)
        refine so_go C0 1 (pc' := 177) (lv' := [(0, .ref (B 0)), (4, .int x4), (5, .int x5)]) (st' := [.int v14.toInt16.toInt32, .int (S13.2.2 2), .ref (B 11)]) rfl ?_
        refine so_msast C0 hK (a := 10) (by decide) rfl rfl (by decide) rfl (fun S15 hS15 => ?_)
        refine so_go C0 2 (pc' := 180) (lv' := [(0, .ref (B 0)), (4, .int x4), (5, .int x5)]) (st' := [.ref (B 0), .ref (B 0)]) rfl ?_
        refine so_mget C0 hK (j := 11) (v := .int (S15.2.2 2)) (by decide) wd_5_30 rfl rfl ?_
        refine so_go C0 2 (pc' := 185) (lv' := [(0, .ref (B 0)), (4, .int x4), (5, .int x5)]) (st' := [.int ((S15.2.2 2) + 1), .ref (B 0)]) rfl ?_
        refine so_mput C0 hK (j := 11) (q := 2) (ty := .int) (by decide) (Nat.le_of_ble_eq_true rfl) rfl (by decide +kernel) rfl rfl wd_5_30 rfl rfl ?_
        refine so_st (fun S16 hS16 => ?_)
        refine so_go C0 2 (pc' := 135) (lv' := [(0, .ref (B 0)), (4, .int x4), (5, .int (x5 + 1))]) (st' := []) rfl ?_
        exact so_sub (lv' := [(0, .ref (B 0)), (4, .int x4), (5, .int (x5 + 1))]) (zpk [0, 1, 2] rfl) (ih135 S16 x4 (x5 + 1))
  have lp54 : ∀ (n : Nat) (S : zM) (x1 : Int32) (x2 : Int32) (x3 : Int32) (x4 : Int32), mSO p l e R s m args below meth c 6 A D cA B S 54 [(0, .ref (B 0)), (1, .int x1), (2, .int x2), (3, .int x3), (4, .int x4)] [] zFi (f_Mod_record_L54 n S x1 x2 x3 x4) := by
    intro n
    induction n with
    | zero =>
      intro S x1 x2 x3 x4
      rw [f_Mod_record_L54]
      exact so_none
    | succ n ih54 =>
      intro S x1 x2 x3 x4
      rw [f_Mod_record_L54]
      refine so_go C0 2 (pc' := 57) (lv' := [(0, .ref (B 0)), (1, .int x1), (2, .int x2), (3, .int x3), (4, .int x4)]) (st' := [.ref (B 0), .int x4]) rfl ?_
      refine so_mget C0 hK (j := 14) (v := .int (S.2.2 3)) (by decide) wd_5_33 rfl rfl ?_
      refine so_icmp_ge C0 rfl (fun h5 => ?_) (fun h5 => ?_)
      · refine so_go C0 5 (pc' := 114) (lv' := [(0, .ref (B 0)), (1, .int x1), (2, .int x2), (3, .int x3), (4, .int x4)]) (st' := [.ref (B 0), .int 0, .int x1, .int 4, .ref (B 0)]) rfl ?_
        refine so_mget C0 hK (j := 11) (v := .int (S.2.2 2)) (by decide) wd_5_30 rfl rfl ?_
        refine so_go C0 2 (pc' := 119) (lv' := [(0, .ref (B 0)), (1, .int x1), (2, .int x2), (3, .int x3), (4, .int x4)]) (st' := [.int x3, .int x2, .int (S.2.2 2), .int 0, .int x1, .int 4, .ref (B 0)]) rfl ?_
        refine so_oi (As := [.int 4, .int x1, .int 0, .int (S.2.2 2), .int x2, .int x3]) (rest := []) C0 hK hA yk_Mod_make (c_Mod_make S 4 x1 0 (S.2.2 2) x2 x3) wd_5_170 rfl rfl ⟨by rw [hf]; decide, by rw [hlo]; decide⟩ (Nat.le_of_ble_eq_true rfl) (mrc hK) (fun S6 v7 hv7 => ?_)
        refine so_go C0 2 (pc' := 126) (lv' := [(0, .ref (B 0)), (1, .int x1), (2, .int x2), (3, .int x3), (4, .int v7)]) (st' := [.int v7]) rfl ?_
        refine so_if_ge C0 rfl (fun h8 => ?_) (fun h8 => ?_)
        · refine so_go C0 2 (pc' := 135) (lv' := [(0, .ref (B 0)), (1, .int x1), (2, .int x2), (3, .int x3), (4, .int v7), (5, .int 0)]) (st' := []) rfl ?_
          exact so_sub (lv' := [(0, .ref (B 0)), (4, .int v7), (5, .int 0)]) (zpk [0, 4, 5] rfl) (lp135 zbig S6 v7 0)
        · refine so_go C0 1 (pc' := 131) (lv' := [(0, .ref (B 0)), (1, .int x1), (2, .int x2), (3, .int x3), (4, .int v7)]) (st' := [.int v7]) rfl ?_
          exact so_reti C0 rfl rfl
      · refine so_go C0 2 (pc' := 65) (lv' := [(0, .ref (B 0)), (1, .int x1), (2, .int x2), (3, .int x3), (4, .int x4)]) (st' := [.ref (B 0), .int x2]) rfl ?_
        refine so_mget C0 hK (j := 9) (v := .ref (B 8)) (by decide) wd_5_28 rfl rfl ?_
        refine so_go C0 1 (pc' := 69) (lv' := [(0, .ref (B 0)), (1, .int x1), (2, .int x2), (3, .int x3), (4, .int x4)]) (st' := [.ref (B 0), .ref (B 8), .int x2]) rfl ?_
        refine so_mget C0 hK (j := 16) (v := .ref (B 13)) (by decide) wd_5_35 rfl rfl ?_
        refine so_go C0 1 (pc' := 74) (lv' := [(0, .ref (B 0)), (1, .int x1), (2, .int x2), (3, .int x3), (4, .int x4)]) (st' := [.int x4, .ref (B 13), .ref (B 8), .int x2]) rfl ?_
        refine so_miald C0 hK (a := 12) (by decide) rfl rfl (by decide) rfl (fun v17 hv17 => ?_)
        refine so_msald C0 hK (a := 7) (by decide) rfl rfl (by decide) rfl (fun v18 hv18 => ?_)
        refine so_go C0 1 (pc' := 77) (lv' := [(0, .ref (B 0)), (1, .int x1), (2, .int x2), (3, .int x3), (4, .int x4)]) (st' := [.int (x2 + v18)]) rfl ?_
        refine so_nm (V := .int) (fun v19 hv19 => ?_)
        refine so_go C0 2 (pc' := 79) (lv' := [(0, .ref (B 0)), (1, .int x1), (2, .int v19), (3, .int x3), (4, .int x4)]) (st' := [.int x3]) rfl ?_
        refine so_if_eq C0 rfl (fun h20 => ?_) (fun h20 => ?_)
        · refine so_go C0 4 (pc' := 54) (lv' := [(0, .ref (B 0)), (1, .int x1), (2, .int v19), (3, .int 0), (4, .int (x4 + 1))]) (st' := []) rfl ?_
          exact so_sub (lv' := [(0, .ref (B 0)), (1, .int x1), (2, .int v19), (3, .int 0), (4, .int (x4 + 1))]) (zpk [0, 1, 2, 3, 4] rfl) (ih54 S x1 v19 0 (x4 + 1))
        · refine so_go C0 1 (pc' := 83) (lv' := [(0, .ref (B 0)), (1, .int x1), (2, .int v19), (3, .int x3), (4, .int x4)]) (st' := [.ref (B 0)]) rfl ?_
          refine so_mget C0 hK (j := 10) (v := .ref (B 9)) (by decide) wd_5_29 rfl rfl ?_
          refine so_go C0 1 (pc' := 87) (lv' := [(0, .ref (B 0)), (1, .int x1), (2, .int v19), (3, .int x3), (4, .int x4)]) (st' := [.ref (B 0), .ref (B 9)]) rfl ?_
          refine so_mget C0 hK (j := 16) (v := .ref (B 13)) (by decide) wd_5_35 rfl rfl ?_
          refine so_go C0 1 (pc' := 92) (lv' := [(0, .ref (B 0)), (1, .int x1), (2, .int v19), (3, .int x3), (4, .int x4)]) (st' := [.int x4, .ref (B 13), .ref (B 9)]) rfl ?_
          refine so_miald C0 hK (a := 12) (by decide) rfl rfl (by decide) rfl (fun v21 hv21 => ?_)
          refine so_mzald C0 hK (a := 8) (by decide) rfl rfl (by decide) rfl (fun v22 hv22 => ?_)
          refine so_if_eq C0 rfl (fun h23 => ?_) (fun h23 => ?_)
          · refine so_go C0 4 (pc' := 54) (lv' := [(0, .ref (B 0)), (1, .int x1), (2, .int v19), (3, .int 0), (4, .int (x4 + 1))]) (st' := []) rfl ?_
            exact so_sub (lv' := [(0, .ref (B 0)), (1, .int x1), (2, .int v19), (3, .int 0), (4, .int (x4 + 1))]) (zpk [0, 1, 2, 3, 4] rfl) (ih54 S x1 v19 0 (x4 + 1))
          · refine so_go C0 5 (pc' := 54) (lv' := [(0, .ref (B 0)), (1, .int x1), (2, .int v19), (3, .int 1), (4, .int (x4 + 1))]) (st' := []) rfl ?_
            exact so_sub (lv' := [(0, .ref (B 0)), (1, .int x1), (2, .int v19), (3, .int 1), (4, .int (x4 + 1))]) (zpk [0, 1, 2, 3, 4] rfl) (ih54 S x1 v19 1 (x4 + 1))
  have K : mSO p l e R s m args below meth c 6 A D cA B S 0 (lv_args 0 [.ref (B 0), .int a1]) [] zFi (f_Mod_record S a1) := by
    unfold f_Mod_record
    refine so_go C0 1 (pc' := 1) (lv' := [(0, .ref (B 0)), (1, .int a1)]) (st' := [.int a1]) rfl ?_
    refine so_if_lt C0 rfl (fun h1 => ?_) (fun h1 => ?_)
    · refine so_go C0 1 (pc' := 34) (lv' := [(0, .ref (B 0)), (1, .int a1)]) (st' := [.int (-1)]) rfl ?_
      exact so_reti C0 rfl rfl
    · refine so_go C0 2 (pc' := 8) (lv' := [(0, .ref (B 0)), (1, .int a1)]) (st' := [.int 128, .int a1]) rfl ?_
      refine so_icmp_gt C0 rfl (fun h2 => ?_) (fun h2 => ?_)
      · refine so_go C0 1 (pc' := 34) (lv' := [(0, .ref (B 0)), (1, .int a1)]) (st' := [.int (-1)]) rfl ?_
        exact so_reti C0 rfl rfl
      · refine so_go C0 1 (pc' := 12) (lv' := [(0, .ref (B 0)), (1, .int a1)]) (st' := [.ref (B 0)]) rfl ?_
        refine so_mget C0 hK (j := 14) (v := .int (S.2.2 3)) (by decide) wd_5_33 rfl rfl ?_
        refine so_if_le C0 rfl (fun h3 => ?_) (fun h3 => ?_)
        · refine so_go C0 3 (pc' := 38) (lv' := [(0, .ref (B 0)), (1, .int a1), (2, .int 1)]) (st' := [.ref (B 0)]) rfl ?_
          refine so_mget C0 hK (j := 14) (v := .int (S.2.2 3)) (by decide) wd_5_33 rfl rfl ?_
          refine so_go C0 1 (pc' := 42) (lv' := [(0, .ref (B 0)), (1, .int a1), (2, .int 1)]) (st' := [.int a1, .int (S.2.2 3)]) rfl ?_
          refine so_icmp_ne C0 rfl (fun h4 => ?_) (fun h4 => ?_)
          · refine so_go C0 4 (pc' := 54) (lv' := [(0, .ref (B 0)), (1, .int a1), (2, .int 1), (3, .int 0), (4, .int 0)]) (st' := []) rfl ?_
            exact so_sub (lv' := [(0, .ref (B 0)), (1, .int a1), (2, .int 1), (3, .int 0), (4, .int 0)]) (zpk [0, 1, 2, 3, 4] rfl) (lp54 zbig S a1 1 0 0)
          · refine so_go C0 5 (pc' := 54) (lv' := [(0, .ref (B 0)), (1, .int a1), (2, .int 1), (3, .int 1), (4, .int 0)]) (st' := []) rfl ?_
            exact so_sub (lv' := [(0, .ref (B 0)), (1, .int a1), (2, .int 1), (3, .int 1), (4, .int 0)]) (zpk [0, 1, 2, 3, 4] rfl) (lp54 zbig S a1 1 1 0)
        · refine so_go C0 1 (pc' := 19) (lv' := [(0, .ref (B 0)), (1, .int a1)]) (st' := [.ref (B 0)]) rfl ?_
          refine so_mget C0 hK (j := 15) (v := .ref (B 12)) (by decide) wd_5_34 rfl rfl ?_
          refine so_go C0 1 (pc' := 23) (lv' := [(0, .ref (B 0)), (1, .int a1)]) (st' := [.ref (B 0), .ref (B 12)]) rfl ?_
          refine so_mget C0 hK (j := 14) (v := .int (S.2.2 3)) (by decide) wd_5_33 rfl rfl ?_
          refine so_go C0 2 (pc' := 28) (lv' := [(0, .ref (B 0)), (1, .int a1)]) (st' := [.int ((S.2.2 3) - 1), .ref (B 12)]) rfl ?_
          refine so_miald C0 hK (a := 11) (by decide) rfl rfl (by decide) rfl (fun v24 hv24 => ?_)
          refine so_go C0 1 (pc' := 30) (lv' := [(0, .ref (B 0)), (1, .int a1)]) (st' := [.int a1, .int v24]) rfl ?_
          refine so_icmp_lt C0 rfl (fun h25 => ?_) (fun h25 => ?_)
          · refine so_go C0 3 (pc' := 38) (lv' := [(0, .ref (B 0)), (1, .int a1), (2, .int 1)]) (st' := [.ref (B 0)]) rfl ?_
            refine so_mget C0 hK (j := 14) (v := .int (S.2.2 3)) (by decide) wd_5_33 rfl rfl ?_
            refine so_go C0 1 (pc' := 42) (lv' := [(0, .ref (B 0)), (1, .int a1), (2, .int 1)]) (st' := [.int a1, .int (S.2.2 3)]) rfl ?_
            refine so_icmp_ne C0 rfl (fun h26 => ?_) (fun h26 => ?_)
            · refine so_go C0 4 (pc' := 54) (lv' := [(0, .ref (B 0)), (1, .int a1), (2, .int 1), (3, .int 0), (4, .int 0)]) (st' := []) rfl ?_
              exact so_sub (lv' := [(0, .ref (B 0)), (1, .int a1), (2, .int 1), (3, .int 0), (4, .int 0)]) (zpk [0, 1, 2, 3, 4] rfl) (lp54 zbig S a1 1 0 0)
            · refine so_go C0 5 (pc' := 54) (lv' := [(0, .ref (B 0)), (1, .int a1), (2, .int 1), (3, .int 1), (4, .int 0)]) (st' := []) rfl ?_
              exact so_sub (lv' := [(0, .ref (B 0)), (1, .int a1), (2, .int 1), (3, .int 1), (4, .int 0)]) (zpk [0, 1, 2, 3, 4] rfl) (lp54 zbig S a1 1 1 0)
          · refine so_go C0 1 (pc' := 34) (lv' := [(0, .ref (B 0)), (1, .int a1)]) (st' := [.int (-1)]) rfl ?_
            exact so_reti C0 rfl rfl
  exact K r hr
def f_Mod_fieldOf_L10 : Nat → zM → Int32 → Int32 → Int32 → Int32 → Option (Int32)
  | 0, _, _, _, _, _ => none
  | n + 1, S, x1, x2, x3, x4 =>
    m_rd 16384 (S.1 5) x1 fun v2 =>
    m_rd 16384 (S.1 6) x1 fun v3 =>
    if (v2 + v3) ≤ x4 then
      some x3
    else
      m_rd 16384 (S.1 9) x4 fun v5 =>
      if ¬ v5 = x2 then
        f_Mod_fieldOf_L10 n S x1 x2 x3 (x4 + 1)
      else
        m_rd 16384 (S.1 10) x4 fun v7 =>
        f_Mod_fieldOf_L10 n S x1 x2 v7 (x4 + 1)
def f_Mod_fieldOf (S : zM) (a1 : Int32) (a2 : Int32) : Option (Int32) :=
  m_rd 16384 (S.1 5) a1 fun v1 =>
  f_Mod_fieldOf_L10 zbig S a1 a2 (-1) v1
set_option maxHeartbeats 1000000 in
set_option maxRecDepth 20000 in
theorem c_Mod_fieldOf (S : zM) (a1 : Int32) (a2 : Int32) : ∀ r, f_Mod_fieldOf S a1 a2 = some r → zMet l y_Mod_fieldOf (zw y_Mod_fieldOf prog_13_method_11_code 5 (some Jvm.ClassFile.FieldType.int)) 0 0 [.ref (B 0), .int a1, .int a2] D zcl (ztys cA) A (mRep D cA B A) (fun _ => 0) (fun _ => 0) S ((zFp S) r) := by
  intro r hr
  refine zMet_of ⟨Nat.le_refl _, Nat.le_refl _⟩ (by decide) tk_Mod_fieldOf (Nat.le_of_ble_eq_true rfl) ?_
  intro p e R s m args below meth c hf hlo C0 hK hA
  have lp10 : ∀ (n : Nat) (x1 : Int32) (x2 : Int32) (x3 : Int32) (x4 : Int32), mSO p l e R s m args below meth c 5 A D cA B S 10 [(0, .ref (B 0)), (1, .int x1), (2, .int x2), (3, .int x3), (4, .int x4)] [] (zFp S) (f_Mod_fieldOf_L10 n S x1 x2 x3 x4) := by
    intro n
    induction n with
    | zero =>
      intro x1 x2 x3 x4
      rw [f_Mod_fieldOf_L10]
      exact so_none
    | succ n ih10 =>
      intro x1 x2 x3 x4
      rw [f_Mod_fieldOf_L10]
      refine so_go C0 2 (pc' := 13) (lv' := [(0, .ref (B 0)), (1, .int x1), (2, .int x2), (3, .int x3), (4, .int x4)]) (st' := [.ref (B 0), .int x4]) rfl ?_
      refine so_mget C0 hK (j := 7) (v := .ref (B 6)) (by decide) wd_5_26 rfl rfl ?_
      refine so_go C0 1 (pc' := 17) (lv' := [(0, .ref (B 0)), (1, .int x1), (2, .int x2), (3, .int x3), (4, .int x4)]) (st' := [.int x1, .ref (B 6), .int x4]) rfl ?_
      refine so_miald C0 hK (a := 5) (by decide) rfl rfl (by decide) rfl (fun v2 hv2 => ?_)
      refine so_go C0 1 (pc' := 19) (lv' := [(0, .ref (B 0)), (1, .int x1), (2, .int x2), (3, .int x3), (4, .int x4)]) (st' := [.ref (B 0), .int v2, .int x4]) rfl ?_
      refine so_mget C0 hK (j := 8) (v := .ref (B 7)) (by decide) wd_5_27 rfl rfl ?_
      refine so_go C0 1 (pc' := 23) (lv' := [(0, .ref (B 0)), (1, .int x1), (2, .int x2), (3, .int x3), (4, .int x4)]) (st' := [.int x1, .ref (B 7), .int v2, .int x4]) rfl ?_
      refine so_msald C0 hK (a := 6) (by decide) rfl rfl (by decide) rfl (fun v3 hv3 => ?_)
      refine so_go C0 1 (pc' := 25) (lv' := [(0, .ref (B 0)), (1, .int x1), (2, .int x2), (3, .int x3), (4, .int x4)]) (st' := [.int (v2 + v3), .int x4]) rfl ?_
      refine so_icmp_ge C0 rfl (fun h4 => ?_) (fun h4 => ?_)
      · refine so_go C0 1 (pc' := 58) (lv' := [(0, .ref (B 0)), (1, .int x1), (2, .int x2), (3, .int x3), (4, .int x4)]) (st' := [.int x3]) rfl ?_
        exact so_reti C0 rfl rfl
      · refine so_go C0 1 (pc' := 29) (lv' := [(0, .ref (B 0)), (1, .int x1), (2, .int x2), (3, .int x3), (4, .int x4)]) (st' := [.ref (B 0)]) rfl ?_
        refine so_mget C0 hK (j := 12) (v := .ref (B 10)) (by decide) wd_5_31 rfl rfl ?_
        refine so_go C0 1 (pc' := 34) (lv' := [(0, .ref (B 0)), (1, .int x1), (2, .int x2), (3, .int x3), (4, .int x4)]) (st' := [.int x4, .ref (B 10)]) rfl ?_
        refine so_msald C0 hK (a := 9) (by decide) rfl rfl (by decide) rfl (fun v5 hv5 => ?_)
        refine so_go C0 1 (pc' := 36) (lv' := [(0, .ref (B 0)), (1, .int x1), (2, .int x2), (3, .int x3), (4, .int x4)]) (st' := [.int x2, .int v5]) rfl ?_
        refine so_icmp_ne C0 rfl (fun h6 => ?_) (fun h6 => ?_)
        · refine so_go C0 4 (pc' := 10) (lv' := [(0, .ref (B 0)), (1, .int x1), (2, .int x2), (3, .int x3), (4, .int (x4 + 1))]) (st' := []) rfl ?_
          exact so_sub (lv' := [(0, .ref (B 0)), (1, .int x1), (2, .int x2), (3, .int x3), (4, .int (x4 + 1))]) (zpk [0, 1, 2, 3, 4] rfl) (ih10 x1 x2 x3 (x4 + 1))
        · refine so_go C0 1 (pc' := 40) (lv' := [(0, .ref (B 0)), (1, .int x1), (2, .int x2), (3, .int x3), (4, .int x4)]) (st' := [.ref (B 0)]) rfl ?_
          refine so_mget C0 hK (j := 13) (v := .ref (B 11)) (by decide) wd_5_32 rfl rfl ?_
          refine so_go C0 1 (pc' := 45) (lv' := [(0, .ref (B 0)), (1, .int x1), (2, .int x2), (3, .int x3), (4, .int x4)]) (st' := [.int x4, .ref (B 11)]) rfl ?_
          refine so_msald C0 hK (a := 10) (by decide) rfl rfl (by decide) rfl (fun v7 hv7 => ?_)
          refine so_go C0 4 (pc' := 10) (lv' := [(0, .ref (B 0)), (1, .int x1), (2, .int x2), (3, .int v7), (4, .int (x4 + 1))]) (st' := []) rfl ?_
          exact so_sub (lv' := [(0, .ref (B 0)), (1, .int x1), (2, .int x2), (3, .int v7), (4, .int (x4 + 1))]) (zpk [0, 1, 2, 3, 4] rfl) (ih10 x1 x2 v7 (x4 + 1))
  have K : mSO p l e R s m args below meth c 5 A D cA B S 0 (lv_args 0 [.ref (B 0), .int a1, .int a2]) [] (zFp S) (f_Mod_fieldOf S a1 a2) := by
    unfold f_Mod_fieldOf
    refine so_go C0 3 (pc' := 3) (lv' := [(0, .ref (B 0)), (1, .int a1), (2, .int a2), (3, .int (-1))]) (st' := [.ref (B 0)]) rfl ?_
    refine so_mget C0 hK (j := 7) (v := .ref (B 6)) (by decide) wd_5_26 rfl rfl ?_
    refine so_go C0 1 (pc' := 7) (lv' := [(0, .ref (B 0)), (1, .int a1), (2, .int a2), (3, .int (-1))]) (st' := [.int a1, .ref (B 6)]) rfl ?_
    refine so_miald C0 hK (a := 5) (by decide) rfl rfl (by decide) rfl (fun v1 hv1 => ?_)
    refine so_go C0 1 (pc' := 10) (lv' := [(0, .ref (B 0)), (1, .int a1), (2, .int a2), (3, .int (-1)), (4, .int v1)]) (st' := []) rfl ?_
    exact so_sub (lv' := [(0, .ref (B 0)), (1, .int a1), (2, .int a2), (3, .int (-1)), (4, .int v1)]) (zpk [0, 1, 2, 3, 4] rfl) (lp10 zbig a1 a2 (-1) v1)
  exact K r hr
def f_Mod_pair (S : zM) (a1 : Int32) (a2 : Int32) : Option (zM) :=
  m_wr 20480 (S.2.2 11) (m_set S 31 (Int32.toNatClampNeg (S.2.2 11)) a1) fun S1 =>
  m_wr 20480 (S1.2.2 11) (m_set S1 32 (Int32.toNatClampNeg (S1.2.2 11)) a2) fun S2 =>
  zbind (m_sc S2 11 ((S2.2.2 11) + 1)) fun S3 =>
  some S3
set_option maxHeartbeats 1000000 in
set_option maxRecDepth 20000 in
theorem c_Mod_pair (S : zM) (a1 : Int32) (a2 : Int32) : ∀ r, f_Mod_pair S a1 a2 = some r → zMet l y_Mod_pair (zw y_Mod_pair prog_13_method_12_code 3 none) 0 0 [.ref (B 0), .int a1, .int a2] D zcl (ztys cA) A (mRep D cA B A) (fun _ => 0) (fun _ => 0) S (zFv r) := by
  intro r hr
  refine zMet_of ⟨Nat.le_refl _, Nat.le_refl _⟩ (by decide) tk_Mod_pair (Nat.le_of_ble_eq_true rfl) ?_
  intro p e R s m args below meth c hf hlo C0 hK hA
  have K : mSO p l e R s m args below meth c 3 A D cA B S 0 (lv_args 0 [.ref (B 0), .int a1, .int a2]) [] zFv (f_Mod_pair S a1 a2) := by
    unfold f_Mod_pair
    refine so_go C0 1 (pc' := 1) (lv' := [(0, .ref (B 0)), (1, .int a1), (2, .int a2)]) (st' := [.ref (B 0)]) rfl ?_
    refine so_mget C0 hK (j := 43) (v := .ref (B 32)) (by decide) wd_5_62 rfl rfl ?_
    refine so_go C0 1 (pc' := 5) (lv' := [(0, .ref (B 0)), (1, .int a1), (2, .int a2)]) (st' := [.ref (B 0), .ref (B 32)]) rfl ?_
    refine so_mget C0 hK (j := 42) (v := .int (S.2.2 11)) (by decide) wd_5_61 rfl rfl ?_
    refine so_go C0 1 (pc' := 9) (lv' := [(0, .ref (B 0)), (1, .int a1), (2, .int a2)]) (st' := [.int a1, .int (S.2.2 11), .ref (B 32)]) rfl ?_
    refine so_miast C0 hK (a := 31) (by decide) rfl rfl (by decide) rfl (fun S1 hS1 => ?_)
    refine so_go C0 1 (pc' := 11) (lv' := [(0, .ref (B 0)), (1, .int a1), (2, .int a2)]) (st' := [.ref (B 0)]) rfl ?_
    refine so_mget C0 hK (j := 44) (v := .ref (B 33)) (by decide) wd_5_63 rfl rfl ?_
    refine so_go C0 1 (pc' := 15) (lv' := [(0, .ref (B 0)), (1, .int a1), (2, .int a2)]) (st' := [.ref (B 0), .ref (B 33)]) rfl ?_
    refine so_mget C0 hK (j := 42) (v := .int (S1.2.2 11)) (by decide) wd_5_61 rfl rfl ?_
    refine so_go C0 1 (pc' := 19) (lv' := [(0, .ref (B 0)), (1, .int a1), (2, .int a2)]) (st' := [.int a2, .int (S1.2.2 11), .ref (B 33)]) rfl ?_
    refine so_miast C0 hK (a := 32) (by decide) rfl rfl (by decide) rfl (fun S2 hS2 => ?_)
    refine so_go C0 2 (pc' := 22) (lv' := [(0, .ref (B 0)), (1, .int a1), (2, .int a2)]) (st' := [.ref (B 0), .ref (B 0)]) rfl ?_
    refine so_mget C0 hK (j := 42) (v := .int (S2.2.2 11)) (by decide) wd_5_61 rfl rfl ?_
    refine so_go C0 2 (pc' := 27) (lv' := [(0, .ref (B 0)), (1, .int a1), (2, .int a2)]) (st' := [.int ((S2.2.2 11) + 1), .ref (B 0)]) rfl ?_
    refine so_mput C0 hK (j := 42) (q := 11) (ty := .int) (by decide) (Nat.le_of_ble_eq_true rfl) rfl (by decide +kernel) rfl rfl wd_5_61 rfl rfl ?_
    refine so_st (fun S3 hS3 => ?_)
    exact so_retv C0 rfl rfl
  exact K r hr
def f_Mod_pairFields_L7 : Nat → zM → Int32 → Int32 → Int32 → Option (zM)
  | 0, _, _, _, _ => none
  | n + 1, S, x1, x2, x3 =>
    m_rd 16384 (S.1 5) x1 fun v2 =>
    m_rd 16384 (S.1 6) x1 fun v3 =>
    if (v2 + v3) ≤ x3 then
      some S
    else
      m_rd 16384 (S.1 9) x3 fun v5 =>
      zob (f_Mod_fieldOf S x2 v5) fun v6 =>
      if v6 < 0 then
        f_Mod_pairFields_L7 n S x1 x2 (x3 + 1)
      else
        m_rd 16384 (S.1 10) x3 fun v8 =>
        zob (f_Mod_pair S v8 v6) fun S9 =>
        f_Mod_pairFields_L7 n S9 x1 x2 (x3 + 1)
def f_Mod_pairFields (S : zM) (a1 : Int32) (a2 : Int32) : Option (zM) :=
  m_rd 16384 (S.1 5) a1 fun v1 =>
  f_Mod_pairFields_L7 zbig S a1 a2 v1
set_option maxHeartbeats 1000000 in
set_option maxRecDepth 20000 in
theorem c_Mod_pairFields (S : zM) (a1 : Int32) (a2 : Int32) : ∀ r, f_Mod_pairFields S a1 a2 = some r → zMet l y_Mod_pairFields (zw y_Mod_pairFields prog_13_method_13_code 5 none) 1 24 [.ref (B 0), .int a1, .int a2] D zcl (ztys cA) A (mRep D cA B A) (fun _ => 0) (fun _ => 0) S (zFv r) := by
  intro r hr
  refine zMet_of ⟨Nat.le_refl _, Nat.le_refl _⟩ (by decide) tk_Mod_pairFields (Nat.le_of_ble_eq_true rfl) ?_
  intro p e R s m args below meth c hf hlo C0 hK hA
  have lp7 : ∀ (n : Nat) (S : zM) (x1 : Int32) (x2 : Int32) (x3 : Int32), mSO p l e R s m args below meth c 5 A D cA B S 7 [(0, .ref (B 0)), (1, .int x1), (2, .int x2), (3, .int x3)] [] zFv (f_Mod_pairFields_L7 n S x1 x2 x3) := by
    intro n
    induction n with
    | zero =>
      intro S x1 x2 x3
      rw [f_Mod_pairFields_L7]
      exact so_none
    | succ n ih7 =>
      intro S x1 x2 x3
      rw [f_Mod_pairFields_L7]
      refine so_go C0 2 (pc' := 9) (lv' := [(0, .ref (B 0)), (1, .int x1), (2, .int x2), (3, .int x3)]) (st' := [.ref (B 0), .int x3]) rfl ?_
      refine so_mget C0 hK (j := 7) (v := .ref (B 6)) (by decide) wd_5_26 rfl rfl ?_
      refine so_go C0 1 (pc' := 13) (lv' := [(0, .ref (B 0)), (1, .int x1), (2, .int x2), (3, .int x3)]) (st' := [.int x1, .ref (B 6), .int x3]) rfl ?_
      refine so_miald C0 hK (a := 5) (by decide) rfl rfl (by decide) rfl (fun v2 hv2 => ?_)
      refine so_go C0 1 (pc' := 15) (lv' := [(0, .ref (B 0)), (1, .int x1), (2, .int x2), (3, .int x3)]) (st' := [.ref (B 0), .int v2, .int x3]) rfl ?_
      refine so_mget C0 hK (j := 8) (v := .ref (B 7)) (by decide) wd_5_27 rfl rfl ?_
      refine so_go C0 1 (pc' := 19) (lv' := [(0, .ref (B 0)), (1, .int x1), (2, .int x2), (3, .int x3)]) (st' := [.int x1, .ref (B 7), .int v2, .int x3]) rfl ?_
      refine so_msald C0 hK (a := 6) (by decide) rfl rfl (by decide) rfl (fun v3 hv3 => ?_)
      refine so_go C0 1 (pc' := 21) (lv' := [(0, .ref (B 0)), (1, .int x1), (2, .int x2), (3, .int x3)]) (st' := [.int (v2 + v3), .int x3]) rfl ?_
      refine so_icmp_ge C0 rfl (fun h4 => ?_) (fun h4 => ?_)
      · exact so_retv C0 rfl rfl
      · refine so_go C0 3 (pc' := 27) (lv' := [(0, .ref (B 0)), (1, .int x1), (2, .int x2), (3, .int x3)]) (st' := [.ref (B 0), .int x2, .ref (B 0)]) rfl ?_
        refine so_mget C0 hK (j := 12) (v := .ref (B 10)) (by decide) wd_5_31 rfl rfl ?_
        refine so_go C0 1 (pc' := 31) (lv' := [(0, .ref (B 0)), (1, .int x1), (2, .int x2), (3, .int x3)]) (st' := [.int x3, .ref (B 10), .int x2, .ref (B 0)]) rfl ?_
        refine so_msald C0 hK (a := 9) (by decide) rfl rfl (by decide) rfl (fun v5 hv5 => ?_)
        refine so_op (As := [.int x2, .int v5]) (rest := []) C0 hK hA yk_Mod_fieldOf (c_Mod_fieldOf S x2 v5) wd_5_222 rfl rfl ⟨by rw [hf]; decide, by rw [hlo]; decide⟩ (Nat.le_of_ble_eq_true rfl) (mrc hK) (fun v6 hv6 => ?_)
        refine so_go C0 2 (pc' := 39) (lv' := [(0, .ref (B 0)), (1, .int x1), (2, .int x2), (3, .int x3), (4, .int v6)]) (st' := [.int v6]) rfl ?_
        refine so_if_lt C0 rfl (fun h7 => ?_) (fun h7 => ?_)
        · refine so_go C0 2 (pc' := 7) (lv' := [(0, .ref (B 0)), (1, .int x1), (2, .int x2), (3, .int (x3 + 1)), (4, .int v6)]) (st' := []) rfl ?_
          exact so_sub (lv' := [(0, .ref (B 0)), (1, .int x1), (2, .int x2), (3, .int (x3 + 1))]) (zpk [0, 1, 2, 3] rfl) (ih7 S x1 x2 (x3 + 1))
        · refine so_go C0 2 (pc' := 44) (lv' := [(0, .ref (B 0)), (1, .int x1), (2, .int x2), (3, .int x3), (4, .int v6)]) (st' := [.ref (B 0), .ref (B 0)]) rfl ?_
          refine so_mget C0 hK (j := 13) (v := .ref (B 11)) (by decide) wd_5_32 rfl rfl ?_
          refine so_go C0 1 (pc' := 48) (lv' := [(0, .ref (B 0)), (1, .int x1), (2, .int x2), (3, .int x3), (4, .int v6)]) (st' := [.int x3, .ref (B 11), .ref (B 0)]) rfl ?_
          refine so_msald C0 hK (a := 10) (by decide) rfl rfl (by decide) rfl (fun v8 hv8 => ?_)
          refine so_go C0 1 (pc' := 51) (lv' := [(0, .ref (B 0)), (1, .int x1), (2, .int x2), (3, .int x3), (4, .int v6)]) (st' := [.int v6, .int v8, .ref (B 0)]) rfl ?_
          refine so_oV (As := [.int v8, .int v6]) (rest := []) C0 hK hA yk_Mod_pair (c_Mod_pair S v8 v6) wd_5_210 rfl rfl ⟨by rw [hf]; decide, by rw [hlo]; decide⟩ (Nat.le_of_ble_eq_true rfl) (mrc hK) (fun S9 hS9 => ?_)
          refine so_go C0 2 (pc' := 7) (lv' := [(0, .ref (B 0)), (1, .int x1), (2, .int x2), (3, .int (x3 + 1)), (4, .int v6)]) (st' := []) rfl ?_
          exact so_sub (lv' := [(0, .ref (B 0)), (1, .int x1), (2, .int x2), (3, .int (x3 + 1))]) (zpk [0, 1, 2, 3] rfl) (ih7 S9 x1 x2 (x3 + 1))
  have K : mSO p l e R s m args below meth c 5 A D cA B S 0 (lv_args 0 [.ref (B 0), .int a1, .int a2]) [] zFv (f_Mod_pairFields S a1 a2) := by
    unfold f_Mod_pairFields
    refine so_go C0 1 (pc' := 1) (lv' := [(0, .ref (B 0)), (1, .int a1), (2, .int a2)]) (st' := [.ref (B 0)]) rfl ?_
    refine so_mget C0 hK (j := 7) (v := .ref (B 6)) (by decide) wd_5_26 rfl rfl ?_
    refine so_go C0 1 (pc' := 5) (lv' := [(0, .ref (B 0)), (1, .int a1), (2, .int a2)]) (st' := [.int a1, .ref (B 6)]) rfl ?_
    refine so_miald C0 hK (a := 5) (by decide) rfl rfl (by decide) rfl (fun v1 hv1 => ?_)
    refine so_go C0 1 (pc' := 7) (lv' := [(0, .ref (B 0)), (1, .int a1), (2, .int a2), (3, .int v1)]) (st' := []) rfl ?_
    exact so_sub (lv' := [(0, .ref (B 0)), (1, .int a1), (2, .int a2), (3, .int v1)]) (zpk [0, 1, 2, 3] rfl) (lp7 zbig S a1 a2 v1)
  exact K r hr
end ZN
