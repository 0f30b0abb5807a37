-- by program: methods of the reference, as functions, and that the code does them
section ZN
variable {cA : Nat → ClassId} {B : Nat → Nat} {A : Nat → Prop} {D : va_G} {l : Launch}
def f_Mod_rule_L135 : Nat → zM → Option (zM × Int32)
  | 0, _ => none
  | n + 1, S =>
    if (S.2.2 11) ≤ 0 then
      zbind (m_sc S 4 ((S.2.2 4) + 1)) fun S16 =>
      some (S16, ((S16.2.2 4) - 1))
    else
      zbind (m_sc S 11 ((S.2.2 11) - 1)) fun S17 =>
      m_rd 20480 (S17.1 31) (S17.2.2 11) fun v18 =>
      m_rd 20480 (S17.1 32) (S17.2.2 11) fun v19 =>
      zob (f_Mod_ask S17 v18 v19) fun S20 =>
      f_Mod_rule_L135 n S20
def f_Mod_rule_L8 : Nat → zM → Int32 → Int32 → Int32 → Option (zM × Int32)
  | 0, _, _, _, _ => none
  | n + 1, S, x1, x2, x3 =>
    if (S.2.2 4) ≤ x3 then
      if ¬ x2 = 0 then
        if (S.2.2 4) = 1024 then
          some (S, (-2))
        else
          m_rd 16384 (S.1 7) x1 fun v5 =>
          if ((S.2.2 5) + v5) ≤ 16384 then
            zbind (m_sc S 7 0) fun S7 =>
            m_wr 1024 (S7.2.2 4) (m_set S7 13 (Int32.toNatClampNeg (S7.2.2 4)) x1) fun S8 =>
            m_rd 16384 (S8.1 7) x1 fun v9 =>
            zbind (m_sc S8 5 ((S8.2.2 5) + v9)) fun S10 =>
            m_rd 1025 (S10.1 14) (S10.2.2 4) fun v11 =>
            m_wr 1025 ((S10.2.2 4) + 1) (m_set S10 14 (Int32.toNatClampNeg ((S10.2.2 4) + 1)) v11) fun S12 =>
            zbind (m_sc S12 11 0) fun S13 =>
            zob (f_Mod_pair S13 x1 0) fun S14 =>
            f_Mod_rule_L135 zbig S14
          else
            some (S, (-2))
      else
        some (S, (-1))
    else
      if x2 = 0 then
        if ¬ x2 = 0 then
          if (S.2.2 4) = 1024 then
            some (S, (-2))
          else
            m_rd 16384 (S.1 7) x1 fun v24 =>
            if ((S.2.2 5) + v24) ≤ 16384 then
              zbind (m_sc S 7 0) fun S26 =>
              m_wr 1024 (S26.2.2 4) (m_set S26 13 (Int32.toNatClampNeg (S26.2.2 4)) x1) fun S27 =>
              m_rd 16384 (S27.1 7) x1 fun v28 =>
              zbind (m_sc S27 5 ((S27.2.2 5) + v28)) fun S29 =>
              m_rd 1025 (S29.1 14) (S29.2.2 4) fun v30 =>
              m_wr 1025 ((S29.2.2 4) + 1) (m_set S29 14 (Int32.toNatClampNeg ((S29.2.2 4) + 1)) v30) fun S31 =>
              zbind (m_sc S31 11 0) fun S32 =>
              zob (f_Mod_pair S32 x1 0) fun S33 =>
              f_Mod_rule_L135 zbig S33
            else
              some (S, (-2))
        else
          some (S, (-1))
      else
        m_rd 1024 (S.1 13) x3 fun v34 =>
        zob2 (f_Mod_goTogether S v34 x1) fun S35 v36 =>
        f_Mod_rule_L8 n S35 x1 v36 (x3 + 1)
def f_Mod_rule (S : zM) (a1 : Int32) : Option (zM × Int32) :=
  zbind (f_Mod_isPattern S a1) fun v1 =>
  f_Mod_rule_L8 zbig S a1 v1 0
set_option maxHeartbeats 1000000 in
set_option maxRecDepth 20000 in
theorem c_Mod_rule (S : zM) (a1 : Int32) : ∀ r, f_Mod_rule S a1 = some r → zMet l y_Mod_rule (zw y_Mod_rule prog_13_method_22_code 4 (some Jvm.ClassFile.FieldType.int)) 3 74 [.ref (B 0), .int a1] D zcl (ztys cA) A (mRep D cA B A) (fun _ => 0) (fun _ => 0) S (zFi r) := by
  intro r hr
  refine zMet_of ⟨Nat.le_refl _, Nat.le_refl _⟩ (by decide) tk_Mod_rule (Nat.le_of_ble_eq_true rfl) ?_
  intro p e R s m args below meth c hf hlo C0 hK hA
  have lp135 : ∀ (n : Nat) (S : zM), mSO p l e R s m args below meth c 4 A D cA B S 135 [(0, .ref (B 0))] [] zFi (f_Mod_rule_L135 n S) := by
    intro n
    induction n with
    | zero =>
      intro S
      rw [f_Mod_rule_L135]
      exact so_none
    | succ n ih135 =>
      intro S
      rw [f_Mod_rule_L135]
      refine so_go C0 1 (pc' := 136) (lv' := [(0, .ref (B 0))]) (st' := [.ref (B 0)]) rfl ?_
      refine so_mget C0 hK (j := 42) (v := .int (S.2.2 11)) (by decide) wd_5_61 rfl rfl ?_
      refine so_if_le C0 rfl (fun h15 => ?_) (fun h15 => ?_)
      · refine so_go C0 2 (pc' := 179) (lv' := [(0, .ref (B 0))]) (st' := [.ref (B 0), .ref (B 0)]) rfl ?_
        refine so_mget C0 hK (j := 17) (v := .int (S.2.2 4)) (by decide) wd_5_36 rfl rfl ?_
        refine so_go C0 2 (pc' := 184) (lv' := [(0, .ref (B 0))]) (st' := [.int ((S.2.2 4) + 1), .ref (B 0)]) rfl ?_
        refine so_mput C0 hK (j := 17) (q := 4) (ty := .int) (by decide) (Nat.le_of_ble_eq_true rfl) rfl (by decide +kernel) rfl rfl wd_5_36 rfl rfl ?_
        refine so_st (fun S16 hS16 => ?_)
        refine so_go C0 1 (pc' := 188) (lv' := [(0, .ref (B 0))]) (st' := [.ref (B 0)]) rfl ?_
        refine so_mget C0 hK (j := 17) (v := .int (S16.2.2 4)) (by decide) wd_5_36 rfl rfl ?_
        refine so_go C0 2 (pc' := 193) (lv' := [(0, .ref (B 0))]) (st' := [.int ((S16.2.2 4) - 1)]) rfl ?_
        exact so_reti C0 rfl rfl
      · refine so_go C0 2 (pc' := 144) (lv' := [(0, .ref (B 0))]) (st' := [.ref (B 0), .ref (B 0)]) rfl ?_
        refine so_mget C0 hK (j := 42) (v := .int (S.2.2 11)) (by decide) wd_5_61 rfl rfl ?_
        refine so_go C0 2 (pc' := 149) (lv' := [(0, .ref (B 0))]) (st' := [.int ((S.2.2 11) - 1), .ref (B 0)]) rfl ?_
        refine so_mput C0 hK (j := 42) (q := 11) (ty := .int) (by decide) (Nat.le_of_ble_eq_true rfl) rfl (by decide +kernel) rfl rfl wd_5_61 rfl rfl ?_
        refine so_st (fun S17 hS17 => ?_)
        refine so_go C0 2 (pc' := 154) (lv' := [(0, .ref (B 0))]) (st' := [.ref (B 0), .ref (B 0)]) rfl ?_
        refine so_mget C0 hK (j := 43) (v := .ref (B 32)) (by decide) wd_5_62 rfl rfl ?_
        refine so_go C0 1 (pc' := 158) (lv' := [(0, .ref (B 0))]) (st' := [.ref (B 0), .ref (B 32), .ref (B 0)]) rfl ?_
        refine so_mget C0 hK (j := 42) (v := .int (S17.2.2 11)) (by decide) wd_5_61 rfl rfl ?_
        refine so_miald C0 hK (a := 31) (by decide) rfl rfl (by decide) rfl (fun v18 hv18 => ?_)
        refine so_go C0 1 (pc' := 163) (lv' := [(0, .ref (B 0))]) (st' := [.ref (B 0), .int v18, .ref (B 0)]) rfl ?_
        refine so_mget C0 hK (j := 44) (v := .ref (B 33)) (by decide) wd_5_63 rfl rfl ?_
        refine so_go C0 1 (pc' := 167) (lv' := [(0, .ref (B 0))]) (st' := [.ref (B 0), .ref (B 33), .int v18, .ref (B 0)]) rfl ?_
        refine so_mget C0 hK (j := 42) (v := .int (S17.2.2 11)) (by decide) wd_5_61 rfl rfl ?_
        refine so_miald C0 hK (a := 32) (by decide) rfl rfl (by decide) rfl (fun v19 hv19 => ?_)
        refine so_oV (As := [.int v18, .int v19]) (rest := []) C0 hK hA yk_Mod_ask (c_Mod_ask S17 v18 v19) wd_6_2 rfl rfl ⟨by rw [hf]; decide, by rw [hlo]; decide⟩ (Nat.le_of_ble_eq_true rfl) (mrc hK) (fun S20 hS20 => ?_)
        refine so_go C0 1 (pc' := 135) (lv' := [(0, .ref (B 0))]) (st' := []) rfl ?_
        exact so_sub (lv' := [(0, .ref (B 0))]) (zpk [0] rfl) (ih135 S20)
  have lp8 : ∀ (n : Nat) (S : zM) (x1 : Int32) (x2 : Int32) (x3 : Int32), mSO p l e R s m args below meth c 4 A D cA B S 8 [(0, .ref (B 0)), (1, .int x1), (2, .int x2), (3, .int x3)] [] zFi (f_Mod_rule_L8 n S x1 x2 x3) := by
    intro n
    induction n with
    | zero =>
      intro S x1 x2 x3
      rw [f_Mod_rule_L8]
      exact so_none
    | succ n ih8 =>
      intro S x1 x2 x3
      rw [f_Mod_rule_L8]
      refine so_go C0 2 (pc' := 10) (lv' := [(0, .ref (B 0)), (1, .int x1), (2, .int x2), (3, .int x3)]) (st' := [.ref (B 0), .int x3]) rfl ?_
      refine so_mget C0 hK (j := 17) (v := .int (S.2.2 4)) (by decide) wd_5_36 rfl rfl ?_
      refine so_icmp_ge C0 rfl (fun h2 => ?_) (fun h2 => ?_)
      · refine so_go C0 1 (pc' := 39) (lv' := [(0, .ref (B 0)), (1, .int x1), (2, .int x2), (3, .int x3)]) (st' := [.int x2]) rfl ?_
        refine so_if_ne C0 rfl (fun h3 => ?_) (fun h3 => ?_)
        · refine so_go C0 1 (pc' := 45) (lv' := [(0, .ref (B 0)), (1, .int x1), (2, .int x2), (3, .int x3)]) (st' := [.ref (B 0)]) rfl ?_
          refine so_mget C0 hK (j := 17) (v := .int (S.2.2 4)) (by decide) wd_5_36 rfl rfl ?_
          refine so_go C0 1 (pc' := 51) (lv' := [(0, .ref (B 0)), (1, .int x1), (2, .int x2), (3, .int x3)]) (st' := [.int 1024, .int (S.2.2 4)]) rfl ?_
          refine so_icmp_eq C0 rfl (fun h4 => ?_) (fun h4 => ?_)
          · refine so_go C0 1 (pc' := 73) (lv' := [(0, .ref (B 0)), (1, .int x1), (2, .int x2), (3, .int x3)]) (st' := [.int (-2)]) rfl ?_
            exact so_reti C0 rfl rfl
          · refine so_go C0 1 (pc' := 55) (lv' := [(0, .ref (B 0)), (1, .int x1), (2, .int x2), (3, .int x3)]) (st' := [.ref (B 0)]) rfl ?_
            refine so_mget C0 hK (j := 20) (v := .int (S.2.2 5)) (by decide) wd_5_39 rfl rfl ?_
            refine so_go C0 1 (pc' := 59) (lv' := [(0, .ref (B 0)), (1, .int x1), (2, .int x2), (3, .int x3)]) (st' := [.ref (B 0), .int (S.2.2 5)]) rfl ?_
            refine so_mget C0 hK (j := 9) (v := .ref (B 8)) (by decide) wd_5_28 rfl rfl ?_
            refine so_go C0 1 (pc' := 63) (lv' := [(0, .ref (B 0)), (1, .int x1), (2, .int x2), (3, .int x3)]) (st' := [.int x1, .ref (B 8), .int (S.2.2 5)]) rfl ?_
            refine so_msald C0 hK (a := 7) (by decide) rfl rfl (by decide) rfl (fun v5 hv5 => ?_)
            refine so_go C0 2 (pc' := 68) (lv' := [(0, .ref (B 0)), (1, .int x1), (2, .int x2), (3, .int x3)]) (st' := [.int 16384, .int ((S.2.2 5) + v5)]) rfl ?_
            refine so_icmp_le C0 rfl (fun h6 => ?_) (fun h6 => ?_)
            · refine so_go C0 2 (pc' := 76) (lv' := [(0, .ref (B 0)), (1, .int x1), (2, .int x2), (3, .int x3)]) (st' := [.int 0, .ref (B 0)]) rfl ?_
              refine so_mput C0 hK (j := 35) (q := 7) (ty := .boolean) (by decide) (Nat.le_of_ble_eq_true rfl) rfl (by decide +kernel) rfl rfl wd_5_54 rfl rfl ?_
              refine so_st (fun S7 hS7 => ?_)
              refine so_go C0 1 (pc' := 80) (lv' := [(0, .ref (B 0)), (1, .int x1), (2, .int x2), (3, .int x3)]) (st' := [.ref (B 0)]) rfl ?_
              refine so_mget C0 hK (j := 18) (v := .ref (B 14)) (by decide) wd_5_37 rfl rfl ?_
              refine so_go C0 1 (pc' := 84) (lv' := [(0, .ref (B 0)), (1, .int x1), (2, .int x2), (3, .int x3)]) (st' := [.ref (B 0), .ref (B 14)]) rfl ?_
              refine so_mget C0 hK (j := 17) (v := .int (S7.2.2 4)) (by decide) wd_5_36 rfl rfl ?_
              refine so_go C0 1 (pc' := 88) (lv' := [(0, .ref (B 0)), (1, .int x1), (2, .int x2), (3, .int x3)]) (st' := [.int x1, .int (S7.2.2 4), .ref (B 14)]) rfl ?_
              refine so_miast C0 hK (a := 13) (by decide) rfl rfl (by decide) rfl (fun S8 hS8 => ?_)
              refine so_go C0 2 (pc' := 91) (lv' := [(0, .ref (B 0)), (1, .int x1), (2, .int x2), (3, .int x3)]) (st' := [.ref (B 0), .ref (B 0)]) rfl ?_
              refine so_mget C0 hK (j := 20) (v := .int (S8.2.2 5)) (by decide) wd_5_39 rfl rfl ?_
              refine so_go C0 1 (pc' := 95) (lv' := [(0, .ref (B 0)), (1, .int x1), (2, .int x2), (3, .int x3)]) (st' := [.ref (B 0), .int (S8.2.2 5), .ref (B 0)]) rfl ?_
              refine so_mget C0 hK (j := 9) (v := .ref (B 8)) (by decide) wd_5_28 rfl rfl ?_
              refine so_go C0 1 (pc' := 99) (lv' := [(0, .ref (B 0)), (1, .int x1), (2, .int x2), (3, .int x3)]) (st' := [.int x1, .ref (B 8), .int (S8.2.2 5), .ref (B 0)]) rfl ?_
              refine so_msald C0 hK (a := 7) (by decide) rfl rfl (by decide) rfl (fun v9 hv9 => ?_)
              refine so_go C0 1 (pc' := 101) (lv' := [(0, .ref (B 0)), (1, .int x1), (2, .int x2), (3, .int x3)]) (st' := [.int ((S8.2.2 5) + v9), .ref (B 0)]) rfl ?_
              refine so_mput C0 hK (j := 20) (q := 5) (ty := .int) (by decide) (Nat.le_of_ble_eq_true rfl) rfl (by decide +kernel) rfl rfl wd_5_39 rfl rfl ?_
              refine so_st (fun S10 hS10 => ?_)
              refine so_go C0 1 (pc' := 105) (lv' := [(0, .ref (B 0)), (1, .int x1), (2, .int x2), (3, .int x3)]) (st' := [.ref (B 0)]) rfl ?_
              refine so_mget C0 hK (j := 19) (v := .ref (B 15)) (by decide) wd_5_38 rfl rfl ?_
              refine so_go C0 1 (pc' := 109) (lv' := [(0, .ref (B 0)), (1, .int x1), (2, .int x2), (3, .int x3)]) (st' := [.ref (B 0), .ref (B 15)]) rfl ?_
              refine so_mget C0 hK (j := 17) (v := .int (S10.2.2 4)) (by decide) wd_5_36 rfl rfl ?_
              refine so_go C0 3 (pc' := 115) (lv' := [(0, .ref (B 0)), (1, .int x1), (2, .int x2), (3, .int x3)]) (st' := [.ref (B 0), .int ((S10.2.2 4) + 1), .ref (B 15)]) rfl ?_
              refine so_mget C0 hK (j := 19) (v := .ref (B 15)) (by decide) wd_5_38 rfl rfl ?_
              refine so_go C0 1 (pc' := 119) (lv' := [(0, .ref (B 0)), (1, .int x1), (2, .int x2), (3, .int x3)]) (st' := [.ref (B 0), .ref (B 15), .int ((S10.2.2 4) + 1), .ref (B 15)]) rfl ?_
              refine so_mget C0 hK (j := 17) (v := .int (S10.2.2 4)) (by decide) wd_5_36 rfl rfl ?_
              refine so_miald C0 hK (a := 14) (by decide) rfl rfl (by decide) rfl (fun v11 hv11 => ?_)
              refine so_miast C0 hK (a := 14) (by decide) rfl rfl (by decide) rfl (fun S12 hS12 => ?_)
              refine so_go C0 2 (pc' := 126) (lv' := [(0, .ref (B 0)), (1, .int x1), (2, .int x2), (3, .int x3)]) (st' := [.int 0, .ref (B 0)]) rfl ?_
              refine so_mput C0 hK (j := 42) (q := 11) (ty := .int) (by decide) (Nat.le_of_ble_eq_true rfl) rfl (by decide +kernel) rfl rfl wd_5_61 rfl rfl ?_
              refine so_st (fun S13 hS13 => ?_)
              refine so_go C0 3 (pc' := 132) (lv' := [(0, .ref (B 0)), (1, .int x1), (2, .int x2), (3, .int x3)]) (st' := [.int 0, .int x1, .ref (B 0)]) rfl ?_
              refine so_oV (As := [.int x1, .int 0]) (rest := []) C0 hK hA yk_Mod_pair (c_Mod_pair S13 x1 0) wd_5_210 rfl rfl ⟨by rw [hf]; decide, by rw [hlo]; decide⟩ (Nat.le_of_ble_eq_true rfl) (mrc hK) (fun S14 hS14 => ?_)
              exact so_sub (lv' := [(0, .ref (B 0))]) (zpk [0] rfl) (lp135 zbig S14)
            · refine so_go C0 1 (pc' := 73) (lv' := [(0, .ref (B 0)), (1, .int x1), (2, .int x2), (3, .int x3)]) (st' := [.int (-2)]) rfl ?_
              exact so_reti C0 rfl rfl
        · refine so_go C0 1 (pc' := 43) (lv' := [(0, .ref (B 0)), (1, .int x1), (2, .int x2), (3, .int x3)]) (st' := [.int (-1)]) rfl ?_
          exact so_reti C0 rfl rfl
      · refine so_go C0 1 (pc' := 17) (lv' := [(0, .ref (B 0)), (1, .int x1), (2, .int x2), (3, .int x3)]) (st' := [.int x2]) rfl ?_
        refine so_if_eq C0 rfl (fun h21 => ?_) (fun h21 => ?_)
        · refine so_go C0 1 (pc' := 39) (lv' := [(0, .ref (B 0)), (1, .int x1), (2, .int x2), (3, .int x3)]) (st' := [.int x2]) rfl ?_
          refine so_if_ne C0 rfl (fun h22 => ?_) (fun h22 => ?_)
          · refine so_go C0 1 (pc' := 45) (lv' := [(0, .ref (B 0)), (1, .int x1), (2, .int x2), (3, .int x3)]) (st' := [.ref (B 0)]) rfl ?_
            refine so_mget C0 hK (j := 17) (v := .int (S.2.2 4)) (by decide) wd_5_36 rfl rfl ?_
            refine so_go C0 1 (pc' := 51) (lv' := [(0, .ref (B 0)), (1, .int x1), (2, .int x2), (3, .int x3)]) (st' := [.int 1024, .int (S.2.2 4)]) rfl ?_
            refine so_icmp_eq C0 rfl (fun h23 => ?_) (fun h23 => ?_)
            · refine so_go C0 1 (pc' := 73) (lv' := [(0, .ref (B 0)), (1, .int x1), (2, .int x2), (3, .int x3)]) (st' := [.int (-2)]) rfl ?_
              exact so_reti C0 rfl rfl
            · refine so_go C0 1 (pc' := 55) (lv' := [(0, .ref (B 0)), (1, .int x1), (2, .int x2), (3, .int x3)]) (st' := [.ref (B 0)]) rfl ?_
              refine so_mget C0 hK (j := 20) (v := .int (S.2.2 5)) (by decide) wd_5_39 rfl rfl ?_
              refine so_go C0 1 (pc' := 59) (lv' := [(0, .ref (B 0)), (1, .int x1), (2, .int x2), (3, .int x3)]) (st' := [.ref (B 0), .int (S.2.2 5)]) rfl ?_
              refine so_mget C0 hK (j := 9) (v := .ref (B 8)) (by decide) wd_5_28 rfl rfl ?_
              refine so_go C0 1 (pc' := 63) (lv' := [(0, .ref (B 0)), (1, .int x1), (2, .int x2), (3, .int x3)]) (st' := [.int x1, .ref (B 8), .int (S.2.2 5)]) rfl ?_
              refine so_msald C0 hK (a := 7) (by decide) rfl rfl (by decide) rfl (fun v24 hv24 => ?_)
              refine so_go C0 2 (pc' := 68) (lv' := [(0, .ref (B 0)), (1, .int x1), (2, .int x2), (3, .int x3)]) (st' := [.int 16384, .int ((S.2.2 5) + v24)]) rfl ?_
              refine so_icmp_le C0 rfl (fun h25 => ?_) (fun h25 => ?_)
              · refine so_go C0 2 (pc' := 76) (lv' := [(0, .ref (B 0)), (1, .int x1), (2, .int x2), (3, .int x3)]) (st' := [.int 0, .ref (B 0)]) rfl ?_
                refine so_mput C0 hK (j := 35) (q := 7) (ty := .boolean) (by decide) (Nat.le_of_ble_eq_true rfl) rfl (by decide +kernel) rfl rfl wd_5_54 rfl rfl ?_
                refine so_st (fun S26 hS26 => ?_)
                refine so_go C0 1 (pc' := 80) (lv' := [(0, .ref (B 0)), (1, .int x1), (2, .int x2), (3, .int x3)]) (st' := [.ref (B 0)]) rfl ?_
                refine so_mget C0 hK (j := 18) (v := .ref (B 14)) (by decide) wd_5_37 rfl rfl ?_
                refine so_go C0 1 (pc' := 84) (lv' := [(0, .ref (B 0)), (1, .int x1), (2, .int x2), (3, .int x3)]) (st' := [.ref (B 0), .ref (B 14)]) rfl ?_
                refine so_mget C0 hK (j := 17) (v := .int (S26.2.2 4)) (by decide) wd_5_36 rfl rfl ?_
                refine so_go C0 1 (pc' := 88) (lv' := [(0, .ref (B 0)), (1, .int x1), (2, .int x2), (3, .int x3)]) (st' := [.int x1, .int (S26.2.2 4), .ref (B 14)]) rfl ?_
                refine so_miast C0 hK (a := 13) (by decide) rfl rfl (by decide) rfl (fun S27 hS27 => ?_)
                refine so_go C0 2 (pc' := 91) (lv' := [(0, .ref (B 0)), (1, .int x1), (2, .int x2), (3, .int x3)]) (st' := [.ref (B 0), .ref (B 0)]) rfl ?_
                refine so_mget C0 hK (j := 20) (v := .int (S27.2.2 5)) (by decide) wd_5_39 rfl rfl ?_
                refine so_go C0 1 (pc' := 95) (lv' := [(0, .ref (B 0)), (1, .int x1), (2, .int x2), (3, .int x3)]) (st' := [.ref (B 0), .int (S27.2.2 5), .ref (B 0)]) rfl ?_
                refine so_mget C0 hK (j := 9) (v := .ref (B 8)) (by decide) wd_5_28 rfl rfl ?_
                refine so_go C0 1 (pc' := 99) (lv' := [(0, .ref (B 0)), (1, .int x1), (2, .int x2), (3, .int x3)]) (st' := [.int x1, .ref (B 8), .int (S27.2.2 5), .ref (B 0)]) rfl ?_
                refine so_msald C0 hK (a := 7) (by decide) rfl rfl (by decide) rfl (fun v28 hv28 => ?_)
                refine so_go C0 1 (pc' := 101) (lv' := [(0, .ref (B 0)), (1, .int x1), (2, .int x2), (3, .int x3)]) (st' := [.int ((S27.2.2 5) + v28), .ref (B 0)]) rfl ?_
                refine so_mput C0 hK (j := 20) (q := 5) (ty := .int) (by decide) (Nat.le_of_ble_eq_true rfl) rfl (by decide +kernel) rfl rfl wd_5_39 rfl rfl ?_
                refine so_st (fun S29 hS29 => ?_)
                refine so_go C0 1 (pc' := 105) (lv' := [(0, .ref (B 0)), (1, .int x1), (2, .int x2), (3, .int x3)]) (st' := [.ref (B 0)]) rfl ?_
                refine so_mget C0 hK (j := 19) (v := .ref (B 15)) (by decide) wd_5_38 rfl rfl ?_
                refine so_go C0 1 (pc' := 109) (lv' := [(0, .ref (B 0)), (1, .int x1), (2, .int x2), (3, .int x3)]) (st' := [.ref (B 0), .ref (B 15)]) rfl ?_
                refine so_mget C0 hK (j := 17) (v := .int (S29.2.2 4)) (by decide) wd_5_36 rfl rfl ?_
                refine so_go C0 3 (pc' := 115) (lv' := [(0, .ref (B 0)), (1, .int x1), (2, .int x2), (3, .int x3)]) (st' := [.ref (B 0), .int ((S29.2.2 4) + 1), .ref (B 15)]) rfl ?_
                refine so_mget C0 hK (j := 19) (v := .ref (B 15)) (by decide) wd_5_38 rfl rfl ?_
                refine so_go C0 1 (pc' := 119) (lv' := [(0, .ref (B 0)), (1, .int x1), (2, .int x2), (3, .int x3)]) (st' := [.ref (B 0), .ref (B 15), .int ((S29.2.2 4) + 1), .ref (B 15)]) rfl ?_
                refine so_mget C0 hK (j := 17) (v := .int (S29.2.2 4)) (by decide) wd_5_36 rfl rfl ?_
                refine so_miald C0 hK (a := 14) (by decide) rfl rfl (by decide) rfl (fun v30 hv30 => ?_)
                refine so_miast C0 hK (a := 14) (by decide) rfl rfl (by decide) rfl (fun S31 hS31 => ?_)
                refine so_go C0 2 (pc' := 126) (lv' := [(0, .ref (B 0)), (1, .int x1), (2, .int x2), (3, .int x3)]) (st' := [.int 0, .ref (B 0)]) rfl ?_
                refine so_mput C0 hK (j := 42) (q := 11) (ty := .int) (by decide) (Nat.le_of_ble_eq_true rfl) rfl (by decide +kernel) rfl rfl wd_5_61 rfl rfl ?_
                refine so_st (fun S32 hS32 => ?_)
                refine so_go C0 3 (pc' := 132) (lv' := [(0, .ref (B 0)), (1, .int x1), (2, .int x2), (3, .int x3)]) (st' := [.int 0, .int x1, .ref (B 0)]) rfl ?_
                refine so_oV (As := [.int x1, .int 0]) (rest := []) C0 hK hA yk_Mod_pair (c_Mod_pair S32 x1 0) wd_5_210 rfl rfl ⟨by rw [hf]; decide, by rw [hlo]; decide⟩ (Nat.le_of_ble_eq_true rfl) (mrc hK) (fun S33 hS33 => ?_)
                exact so_sub (lv' := [(0, .ref (B 0))]) (zpk [0] rfl) (lp135 zbig S33)
              · refine so_go C0 1 (pc' := 73) (lv' := [(0, .ref (B 0)), (1, .int x1), (2, .int x2), (3, .int x3)]) (st' := [.int (-2)]) rfl ?_
                exact so_reti C0 rfl rfl
          · refine so_go C0 1 (pc' := 43) (lv' := [(0, .ref (B 0)), (1, .int x1), (2, .int x2), (3, .int x3)]) (st' := [.int (-1)]) rfl ?_
            exact so_reti C0 rfl rfl
        · refine so_go C0 2 (pc' := 22) (lv' := [(0, .ref (B 0)), (1, .int x1), (2, .int x2), (3, .int x3)]) (st' := [.ref (B 0), .ref (B 0)]) rfl ?_
          refine so_mget C0 hK (j := 18) (v := .ref (B 14)) (by decide) wd_5_37 rfl rfl ?_
          refine so_go C0 1 (pc' := 26) (lv' := [(0, .ref (B 0)), (1, .int x1), (2, .int x2), (3, .int x3)]) (st' := [.int x3, .ref (B 14), .ref (B 0)]) rfl ?_
          refine so_miald C0 hK (a := 13) (by decide) rfl rfl (by decide) rfl (fun v34 hv34 => ?_)
          refine so_go C0 1 (pc' := 28) (lv' := [(0, .ref (B 0)), (1, .int x1), (2, .int x2), (3, .int x3)]) (st' := [.int x1, .int v34, .ref (B 0)]) rfl ?_
          refine so_oi (As := [.int v34, .int x1]) (rest := []) C0 hK hA yk_Mod_goTogether (c_Mod_goTogether S v34 x1) wd_5_234 rfl rfl ⟨by rw [hf]; decide, by rw [hlo]; decide⟩ (Nat.le_of_ble_eq_true rfl) (mrc hK) (fun S35 v36 hv36 => ?_)
          refine so_go C0 3 (pc' := 8) (lv' := [(0, .ref (B 0)), (1, .int x1), (2, .int v36), (3, .int (x3 + 1))]) (st' := []) rfl ?_
          exact so_sub (lv' := [(0, .ref (B 0)), (1, .int x1), (2, .int v36), (3, .int (x3 + 1))]) (zpk [0, 1, 2, 3] rfl) (ih8 S35 x1 v36 (x3 + 1))
  have K : mSO p l e R s m args below meth c 4 A D cA B S 0 (lv_args 0 [.ref (B 0), .int a1]) [] zFi (f_Mod_rule S a1) := by
    unfold f_Mod_rule
    refine so_go C0 2 (pc' := 2) (lv' := [(0, .ref (B 0)), (1, .int a1)]) (st' := [.int a1, .ref (B 0)]) rfl ?_
    refine so_cp (As := [.int a1]) (rest := []) C0 hK hA yk_Mod_isPattern (c_Mod_isPattern S a1) wd_5_182 rfl rfl ⟨by rw [hf]; decide, by rw [hlo]; decide⟩ (Nat.le_of_ble_eq_true rfl) (mrc hK) ?_
    refine so_nm (V := .int) (fun v1 hv1 => ?_)
    refine so_go C0 3 (pc' := 8) (lv' := [(0, .ref (B 0)), (1, .int a1), (2, .int v1), (3, .int 0)]) (st' := []) rfl ?_
    exact so_sub (lv' := [(0, .ref (B 0)), (1, .int a1), (2, .int v1), (3, .int 0)]) (zpk [0, 1, 2, 3] rfl) (lp8 zbig S a1 v1 0)
  exact K r hr
def f_Mod_clear (S : zM) : Option (zM × Int32) :=
  zbind (S.2.2 4) fun v1 =>
  zbind (m_sc S 4 0) fun S2 =>
  zbind (m_sc S2 5 0) fun S3 =>
  zbind (m_sc S3 7 0) fun S4 =>
  zbind (m_sc S4 6 1) fun S5 =>
  m_wr 16386 0 (m_set S5 20 (Int32.toNatClampNeg 0) (-1)) fun S6 =>
  m_wr 16386 0 (m_set S6 22 (Int32.toNatClampNeg 0) 0) fun S7 =>
  some (S7, v1)
set_option maxHeartbeats 1000000 in
set_option maxRecDepth 20000 in
theorem c_Mod_clear (S : zM) : ∀ r, f_Mod_clear S = some r → zMet l y_Mod_clear (zw y_Mod_clear prog_13_method_25_code 2 (some Jvm.ClassFile.FieldType.int)) 0 0 [.ref (B 0)] D zcl (ztys cA) A (mRep D cA B A) (fun _ => 0) (fun _ => 0) S (zFi r) := by
  intro r hr
  refine zMet_of ⟨Nat.le_refl _, Nat.le_refl _⟩ (by decide) tk_Mod_clear (Nat.le_of_ble_eq_true rfl) ?_
  intro p e R s m args below meth c hf hlo C0 hK hA
  have K : mSO p l e R s m args below meth c 2 A D cA B S 0 (lv_args 0 [.ref (B 0)]) [] zFi (f_Mod_clear S) := by
    unfold f_Mod_clear
    refine so_go C0 1 (pc' := 1) (lv' := [(0, .ref (B 0))]) (st' := [.ref (B 0)]) rfl ?_
    refine so_mget C0 hK (j := 17) (v := .int (S.2.2 4)) (by decide) wd_5_36 rfl rfl ?_
    refine so_nm (V := .int) (fun v1 hv1 => ?_)
    refine so_go C0 3 (pc' := 7) (lv' := [(0, .ref (B 0)), (1, .int v1)]) (st' := [.int 0, .ref (B 0)]) rfl ?_
    refine so_mput C0 hK (j := 17) (q := 4) (ty := .int) (by decide) (Nat.le_of_ble_eq_true rfl) rfl (by decide +kernel) rfl rfl wd_5_36 rfl rfl ?_
    refine so_st (fun S2 hS2 => ?_)
    refine so_go C0 2 (pc' := 12) (lv' := [(0, .ref (B 0)), (1, .int v1)]) (st' := [.int 0, .ref (B 0)]) rfl ?_
    refine so_mput C0 hK (j := 20) (q := 5) (ty := .int) (by decide) (Nat.le_of_ble_eq_true rfl) rfl (by decide +kernel) rfl rfl wd_5_39 rfl rfl ?_
    refine so_st (fun S3 hS3 => ?_)
    refine so_go C0 2 (pc' := 17) (lv' := [(0, .ref (B 0)), (1, .int v1)]) (st' := [.int 0, .ref (B 0)]) rfl ?_
    refine so_mput C0 hK (j := 35) (q := 7) (ty := .boolean) (by decide) (Nat.le_of_ble_eq_true rfl) rfl (by decide +kernel) rfl rfl wd_5_54 rfl rfl ?_
    refine so_st (fun S4 hS4 => ?_)
    refine so_go C0 2 (pc' := 22) (lv' := [(0, .ref (B 0)), (1, .int v1)]) (st' := [.int 1, .ref (B 0)]) rfl ?_
    refine so_mput C0 hK (j := 23) (q := 6) (ty := .int) (by decide) (Nat.le_of_ble_eq_true rfl) rfl (by decide +kernel) rfl rfl wd_5_42 rfl rfl ?_
    refine so_st (fun S5 hS5 => ?_)
    refine so_go C0 1 (pc' := 26) (lv' := [(0, .ref (B 0)), (1, .int v1)]) (st' := [.ref (B 0)]) rfl ?_
    refine so_mget C0 hK (j := 27) (v := .ref (B 21)) (by decide) wd_5_46 rfl rfl ?_
    refine so_go C0 2 (pc' := 31) (lv' := [(0, .ref (B 0)), (1, .int v1)]) (st' := [.int (-1), .int 0, .ref (B 21)]) rfl ?_
    refine so_miast C0 hK (a := 20) (by decide) rfl rfl (by decide) rfl (fun S6 hS6 => ?_)
    refine so_go C0 1 (pc' := 33) (lv' := [(0, .ref (B 0)), (1, .int v1)]) (st' := [.ref (B 0)]) rfl ?_
    refine so_mget C0 hK (j := 29) (v := .ref (B 23)) (by decide) wd_5_48 rfl rfl ?_
    refine so_go C0 2 (pc' := 38) (lv' := [(0, .ref (B 0)), (1, .int v1)]) (st' := [.int 0, .int 0, .ref (B 23)]) rfl ?_
    refine so_miast C0 hK (a := 22) (by decide) rfl rfl (by decide) rfl (fun S7 hS7 => ?_)
    refine so_go C0 1 (pc' := 40) (lv' := [(0, .ref (B 0)), (1, .int v1)]) (st' := [.int v1]) rfl ?_
    exact so_reti C0 rfl rfl
  exact K r hr
def f_Mod_forget (S : zM) : Option (zM × Int32) :=
  zbind (S.2.2 1) fun v1 =>
  zob2 (f_Mod_clear S) fun S2 v3 =>
  zbind (m_sc S2 0 0) fun S4 =>
  zbind (m_sc S4 1 0) fun S5 =>
  zbind (m_sc S5 2 0) fun S6 =>
  zbind (m_sc S6 3 0) fun S7 =>
  some (S7, v1)
set_option maxHeartbeats 1000000 in
set_option maxRecDepth 20000 in
theorem c_Mod_forget (S : zM) : ∀ r, f_Mod_forget S = some r → zMet l y_Mod_forget (zw y_Mod_forget prog_13_method_24_code 3 (some Jvm.ClassFile.FieldType.int)) 1 21 [.ref (B 0)] D zcl (ztys cA) A (mRep D cA B A) (fun _ => 0) (fun _ => 0) S (zFi r) := by
  intro r hr
  refine zMet_of ⟨Nat.le_refl _, Nat.le_refl _⟩ (by decide) tk_Mod_forget (Nat.le_of_ble_eq_true rfl) ?_
  intro p e R s m args below meth c hf hlo C0 hK hA
  have K : mSO p l e R s m args below meth c 3 A D cA B S 0 (lv_args 0 [.ref (B 0)]) [] zFi (f_Mod_forget S) := by
    unfold f_Mod_forget
    refine so_go C0 1 (pc' := 1) (lv' := [(0, .ref (B 0))]) (st' := [.ref (B 0)]) rfl ?_
    refine so_mget C0 hK (j := 3) (v := .int (S.2.2 1)) (by decide) wd_5_22 rfl rfl ?_
    refine so_nm (V := .int) (fun v1 hv1 => ?_)
    refine so_go C0 2 (pc' := 6) (lv' := [(0, .ref (B 0)), (1, .int v1)]) (st' := [.ref (B 0)]) rfl ?_
    refine so_oi (As := []) (rest := []) C0 hK hA yk_Mod_clear (c_Mod_clear S) wd_6_28 rfl rfl ⟨by rw [hf]; decide, by rw [hlo]; decide⟩ (Nat.le_of_ble_eq_true rfl) (mrc hK) (fun S2 v3 hv3 => ?_)
    refine so_go C0 3 (pc' := 12) (lv' := [(0, .ref (B 0)), (1, .int v1), (2, .int v3)]) (st' := [.int 0, .ref (B 0)]) rfl ?_
    refine so_mput C0 hK (j := 0) (q := 0) (ty := .int) (by decide) (Nat.le_of_ble_eq_true rfl) rfl (by decide +kernel) rfl rfl wd_5_19 rfl rfl ?_
    refine so_st (fun S4 hS4 => ?_)
    refine so_go C0 2 (pc' := 17) (lv' := [(0, .ref (B 0)), (1, .int v1), (2, .int v3)]) (st' := [.int 0, .ref (B 0)]) rfl ?_
    refine so_mput C0 hK (j := 3) (q := 1) (ty := .int) (by decide) (Nat.le_of_ble_eq_true rfl) rfl (by decide +kernel) rfl rfl wd_5_22 rfl rfl ?_
    refine so_st (fun S5 hS5 => ?_)
    refine so_go C0 2 (pc' := 22) (lv' := [(0, .ref (B 0)), (1, .int v1), (2, .int v3)]) (st' := [.int 0, .ref (B 0)]) rfl ?_
    refine so_mput C0 hK (j := 11) (q := 2) (ty := .int) (by decide) (Nat.le_of_ble_eq_true rfl) rfl (by decide +kernel) rfl rfl wd_5_30 rfl rfl ?_
    refine so_st (fun S6 hS6 => ?_)
    refine so_go C0 2 (pc' := 27) (lv' := [(0, .ref (B 0)), (1, .int v1), (2, .int v3)]) (st' := [.int 0, .ref (B 0)]) rfl ?_
    refine so_mput C0 hK (j := 14) (q := 3) (ty := .int) (by decide) (Nat.le_of_ble_eq_true rfl) rfl (by decide +kernel) rfl rfl wd_5_33 rfl rfl ?_
    refine so_st (fun S7 hS7 => ?_)
    refine so_go C0 1 (pc' := 31) (lv' := [(0, .ref (B 0)), (1, .int v1), (2, .int v3)]) (st' := [.int v1]) rfl ?_
    exact so_reti C0 rfl rfl
  exact K r hr
def f_Mod_isPossible (S : zM) (a1 : Int32) (a2 : Int32) : Option (Int32) :=
  m_rdl 65568 (S.2.1 23) ((16 * a1) + (a2 / 64)) fun v1 =>
  if ¬ (lg_cmp ((z_lshr v1 (z_rem a2 64)) &&& 1) 1) = 0 then
    some 0
  else
    some 1
set_option maxHeartbeats 1000000 in
set_option maxRecDepth 20000 in
theorem c_Mod_isPossible (S : zM) (a1 : Int32) (a2 : Int32) : ∀ r, f_Mod_isPossible S a1 a2 = some r → zMet l y_Mod_isPossible (zw y_Mod_isPossible prog_13_method_26_code 3 (some Jvm.ClassFile.FieldType.boolean)) 0 0 [.ref (B 0), .int a1, .int a2] D zcl (ztys cA) A (mRep D cA B A) (fun _ => 0) (fun _ => 0) S ((zFp S) r) := by
  intro r hr
  refine zMet_of ⟨Nat.le_refl _, Nat.le_refl _⟩ (by decide) tk_Mod_isPossible (Nat.le_of_ble_eq_true rfl) ?_
  intro p e R s m args below meth c hf hlo C0 hK hA
  have K : mSO p l e R s m args below meth c 3 A D cA B S 0 (lv_args 0 [.ref (B 0), .int a1, .int a2]) [] (zFp S) (f_Mod_isPossible S a1 a2) := by
    unfold f_Mod_isPossible
    refine so_go C0 1 (pc' := 1) (lv' := [(0, .ref (B 0)), (1, .int a1), (2, .int a2)]) (st' := [.ref (B 0)]) rfl ?_
    refine so_mget C0 hK (j := 30) (v := .ref (B 24)) (by decide) wd_5_49 rfl rfl ?_
    refine so_go C0 5 (pc' := 11) (lv' := [(0, .ref (B 0)), (1, .int a1), (2, .int a2)]) (st' := [.int 64, .int a2, .int (16 * a1), .ref (B 24)]) rfl ?_
    refine so_idiv C0 (by decide) rfl ?_
    refine so_go C0 1 (pc' := 13) (lv' := [(0, .ref (B 0)), (1, .int a1), (2, .int a2)]) (st' := [.int ((16 * a1) + (a2 / 64)), .ref (B 24)]) rfl ?_
    refine so_mlald C0 hK (a := 23) (by decide) rfl rfl (by decide) rfl (fun v1 hv1 => ?_)
    refine so_go C0 2 (pc' := 17) (lv' := [(0, .ref (B 0)), (1, .int a1), (2, .int a2)]) (st' := [.int 64, .int a2, .long v1]) rfl ?_
    refine so_irem C0 (by decide) rfl ?_
    refine so_go C0 5 (pc' := 23) (lv' := [(0, .ref (B 0)), (1, .int a1), (2, .int a2)]) (st' := [.int (lg_cmp ((z_lshr v1 (z_rem a2 64)) &&& 1) 1)]) rfl ?_
    refine so_if_ne C0 rfl (fun h2 => ?_) (fun h2 => ?_)
    · refine so_go C0 1 (pc' := 31) (lv' := [(0, .ref (B 0)), (1, .int a1), (2, .int a2)]) (st' := [.int 0]) rfl ?_
      exact so_retz C0 rfl rfl rfl
    · refine so_go C0 2 (pc' := 31) (lv' := [(0, .ref (B 0)), (1, .int a1), (2, .int a2)]) (st' := [.int 1]) rfl ?_
      exact so_retz C0 rfl rfl rfl
  exact K r hr
def f_Mod_setPossible (S : zM) (a1 : Int32) (a2 : Int32) (a3 : Int32) : Option (zM) :=
  zbind (z_lshl 1 (z_rem a2 64)) fun v1 =>
  m_rdl 65568 (S.2.1 23) ((16 * a1) + (a2 / 64)) fun v2 =>
  if a3 = 0 then
    m_wr 65568 ((16 * a1) + (a2 / 64)) (m_setl S 23 (Int32.toNatClampNeg ((16 * a1) + (a2 / 64))) (v2 &&& (v1 ^^^ (-1)))) fun S4 =>
    some S4
  else
    m_wr 65568 ((16 * a1) + (a2 / 64)) (m_setl S 23 (Int32.toNatClampNeg ((16 * a1) + (a2 / 64))) (v2 ||| v1)) fun S5 =>
    some S5
set_option maxHeartbeats 1000000 in
set_option maxRecDepth 20000 in
theorem c_Mod_setPossible (S : zM) (a1 : Int32) (a2 : Int32) (a3 : Int32) : ∀ r, f_Mod_setPossible S a1 a2 a3 = some r → zMet l y_Mod_setPossible (zw y_Mod_setPossible prog_13_method_27_code 8 none) 0 0 [.ref (B 0), .int a1, .int a2, .int a3] D zcl (ztys cA) A (mRep D cA B A) (fun _ => 0) (fun _ => 0) S (zFv r) := by
  intro r hr
  refine zMet_of ⟨Nat.le_refl _, Nat.le_refl _⟩ (by decide) tk_Mod_setPossible (Nat.le_of_ble_eq_true rfl) ?_
  intro p e R s m args below meth c hf hlo C0 hK hA
  have K : mSO p l e R s m args below meth c 8 A D cA B S 0 (lv_args 0 [.ref (B 0), .int a1, .int a2, .int a3]) [] zFv (f_Mod_setPossible S a1 a2 a3) := by
    unfold f_Mod_setPossible
    refine so_go C0 3 (pc' := 4) (lv' := [(0, .ref (B 0)), (1, .int a1), (2, .int a2), (3, .int a3)]) (st' := [.int 64, .int a2, .long 1]) rfl ?_
    refine so_irem C0 (by decide) rfl ?_
    refine so_go C0 1 (pc' := 6) (lv' := [(0, .ref (B 0)), (1, .int a1), (2, .int a2), (3, .int a3)]) (st' := [.long (z_lshl 1 (z_rem a2 64))]) rfl ?_
    refine so_nm (V := .long) (fun v1 hv1 => ?_)
    refine so_go C0 2 (pc' := 9) (lv' := [(0, .ref (B 0)), (1, .int a1), (2, .int a2), (3, .int a3), (4, .long v1)]) (st' := [.ref (B 0)]) rfl ?_
    refine so_mget C0 hK (j := 30) (v := .ref (B 24)) (by decide) wd_5_49 rfl rfl ?_
    refine so_go C0 5 (pc' := 19) (lv' := [(0, .ref (B 0)), (1, .int a1), (2, .int a2), (3, .int a3), (4, .long v1)]) (st' := [.int 64, .int a2, .int (16 * a1), .ref (B 24)]) rfl ?_
    refine so_idiv C0 (by decide) rfl ?_
    refine so_go C0 1 (pc' := 21) (lv' := [(0, .ref (B 0)), (1, .int a1), (2, .int a2), (3, .int a3), (4, .long v1)]) (st' := [.int ((16 * a1) + (a2 / 64)), .ref (B 24)]) rfl ?_
    refine so_mlald C0 hK (a := 23) (by decide) rfl rfl (by decide) rfl (fun v2 hv2 => ?_)
    refine so_go C0 2 (pc' := 25) (lv' := [(0, .ref (B 0)), (1, .int a1), (2, .int a2), (3, .int a3), (4, .long v1), (6, .long v2)]) (st' := [.ref (B 0)]) rfl ?_
    refine so_mget C0 hK (j := 30) (v := .ref (B 24)) (by decide) wd_5_49 rfl rfl ?_
    refine so_go C0 5 (pc' := 35) (lv' := [(0, .ref (B 0)), (1, .int a1), (2, .int a2), (3, .int a3), (4, .long v1), (6, .long v2)]) (st' := [.int 64, .int a2, .int (16 * a1), .ref (B 24)]) rfl ?_
    refine so_idiv C0 (by decide) rfl ?_
    refine so_go C0 2 (pc' := 38) (lv' := [(0, .ref (B 0)), (1, .int a1), (2, .int a2), (3, .int a3), (4, .long v1), (6, .long v2)]) (st' := [.int a3, .int ((16 * a1) + (a2 / 64)), .ref (B 24)]) rfl ?_
    refine so_if_eq C0 rfl (fun h3 => ?_) (fun h3 => ?_)
    · refine so_go C0 2 (pc' := 53) (lv' := [(0, .ref (B 0)), (1, .int a1), (2, .int a2), (3, .int a3), (4, .long v1), (6, .long v2)]) (st' := [.long v1, .long v2, .int ((16 * a1) + (a2 / 64)), .ref (B 24)]) rfl ?_
      refine so_ldc2 C0 wd_5_165 rfl ?_
      refine so_go C0 2 (pc' := 58) (lv' := [(0, .ref (B 0)), (1, .int a1), (2, .int a2), (3, .int a3), (4, .long v1), (6, .long v2)]) (st' := [.long (v2 &&& (v1 ^^^ (-1))), .int ((16 * a1) + (a2 / 64)), .ref (B 24)]) rfl ?_
      refine so_mlast C0 hK (a := 23) (by decide) rfl rfl (by decide) rfl (fun S4 hS4 => ?_)
      exact so_retv C0 rfl rfl
    · refine so_go C0 4 (pc' := 58) (lv' := [(0, .ref (B 0)), (1, .int a1), (2, .int a2), (3, .int a3), (4, .long v1), (6, .long v2)]) (st' := [.long (v2 ||| v1), .int ((16 * a1) + (a2 / 64)), .ref (B 24)]) rfl ?_
      refine so_mlast C0 hK (a := 23) (by decide) rfl rfl (by decide) rfl (fun S5 hS5 => ?_)
      exact so_retv C0 rfl rfl
  exact K r hr
def f_Mod_firstPossible_L2 : Nat → zM → Int32 → Int32 → Option (Int32)
  | 0, _, _, _ => none
  | n + 1, S, x1, x2 =>
    if (S.2.2 4) ≤ x2 then
      if (S.2.2 4) ≤ x2 then
        some (-1)
      else
        some x2
    else
      zob (f_Mod_isPossible S x1 x2) fun v3 =>
      if ¬ v3 = 0 then
        if (S.2.2 4) ≤ x2 then
          some (-1)
        else
          some x2
      else
        f_Mod_firstPossible_L2 n S x1 (x2 + 1)
def f_Mod_firstPossible (S : zM) (a1 : Int32) : Option (Int32) :=
  f_Mod_firstPossible_L2 zbig S a1 0
set_option maxHeartbeats 1000000 in
set_option maxRecDepth 20000 in
theorem c_Mod_firstPossible (S : zM) (a1 : Int32) : ∀ r, f_Mod_firstPossible S a1 = some r → zMet l y_Mod_firstPossible (zw y_Mod_firstPossible prog_13_method_28_code 3 (some Jvm.ClassFile.FieldType.int)) 1 22 [.ref (B 0), .int a1] D zcl (ztys cA) A (mRep D cA B A) (fun _ => 0) (fun _ => 0) S ((zFp S) r) := by
  intro r hr
  refine zMet_of ⟨Nat.le_refl _, Nat.le_refl _⟩ (by decide) tk_Mod_firstPossible (Nat.le_of_ble_eq_true rfl) ?_
  intro p e R s m args below meth c hf hlo C0 hK hA
  have lp2 : ∀ (n : Nat) (x1 : Int32) (x2 : Int32), mSO p l e R s m args below meth c 3 A D cA B S 2 [(0, .ref (B 0)), (1, .int x1), (2, .int x2)] [] (zFp S) (f_Mod_firstPossible_L2 n S x1 x2) := by
    intro n
    induction n with
    | zero =>
      intro x1 x2
      rw [f_Mod_firstPossible_L2]
      exact so_none
    | succ n ih2 =>
      intro x1 x2
      rw [f_Mod_firstPossible_L2]
      refine so_go C0 2 (pc' := 4) (lv' := [(0, .ref (B 0)), (1, .int x1), (2, .int x2)]) (st' := [.ref (B 0), .int x2]) rfl ?_
      refine so_mget C0 hK (j := 17) (v := .int (S.2.2 4)) (by decide) wd_5_36 rfl rfl ?_
      refine so_icmp_ge C0 rfl (fun h1 => ?_) (fun h1 => ?_)
      · refine so_go C0 2 (pc' := 27) (lv' := [(0, .ref (B 0)), (1, .int x1), (2, .int x2)]) (st' := [.ref (B 0), .int x2]) rfl ?_
        refine so_mget C0 hK (j := 17) (v := .int (S.2.2 4)) (by decide) wd_5_36 rfl rfl ?_
        refine so_icmp_ge C0 rfl (fun h2 => ?_) (fun h2 => ?_)
        · refine so_go C0 1 (pc' := 38) (lv' := [(0, .ref (B 0)), (1, .int x1), (2, .int x2)]) (st' := [.int (-1)]) rfl ?_
          exact so_reti C0 rfl rfl
        · refine so_go C0 2 (pc' := 38) (lv' := [(0, .ref (B 0)), (1, .int x1), (2, .int x2)]) (st' := [.int x2]) rfl ?_
          exact so_reti C0 rfl rfl
      · refine so_go C0 3 (pc' := 13) (lv' := [(0, .ref (B 0)), (1, .int x1), (2, .int x2)]) (st' := [.int x2, .int x1, .ref (B 0)]) rfl ?_
        refine so_op (As := [.int x1, .int x2]) (rest := []) C0 hK hA yk_Mod_isPossible (c_Mod_isPossible S x1 x2) wd_6_53 rfl rfl ⟨by rw [hf]; decide, by rw [hlo]; decide⟩ (Nat.le_of_ble_eq_true rfl) (mrc hK) (fun v3 hv3 => ?_)
        refine so_if_ne C0 rfl (fun h4 => ?_) (fun h4 => ?_)
        · refine so_go C0 2 (pc' := 27) (lv' := [(0, .ref (B 0)), (1, .int x1), (2, .int x2)]) (st' := [.ref (B 0), .int x2]) rfl ?_
          refine so_mget C0 hK (j := 17) (v := .int (S.2.2 4)) (by decide) wd_5_36 rfl rfl ?_
          refine so_icmp_ge C0 rfl (fun h5 => ?_) (fun h5 => ?_)
          · refine so_go C0 1 (pc' := 38) (lv' := [(0, .ref (B 0)), (1, .int x1), (2, .int x2)]) (st' := [.int (-1)]) rfl ?_
            exact so_reti C0 rfl rfl
          · refine so_go C0 2 (pc' := 38) (lv' := [(0, .ref (B 0)), (1, .int x1), (2, .int x2)]) (st' := [.int x2]) rfl ?_
            exact so_reti C0 rfl rfl
        · refine so_go C0 2 (pc' := 2) (lv' := [(0, .ref (B 0)), (1, .int x1), (2, .int (x2 + 1))]) (st' := []) rfl ?_
          exact so_sub (lv' := [(0, .ref (B 0)), (1, .int x1), (2, .int (x2 + 1))]) (zpk [0, 1, 2] rfl) (ih2 x1 (x2 + 1))
  have K : mSO p l e R s m args below meth c 3 A D cA B S 0 (lv_args 0 [.ref (B 0), .int a1]) [] (zFp S) (f_Mod_firstPossible S a1) := by
    unfold f_Mod_firstPossible
    refine so_go C0 2 (pc' := 2) (lv' := [(0, .ref (B 0)), (1, .int a1), (2, .int 0)]) (st' := []) rfl ?_
    exact so_sub (lv' := [(0, .ref (B 0)), (1, .int a1), (2, .int 0)]) (zpk [0, 1, 2] rfl) (lp2 zbig a1 0)
  exact K r hr
def f_Mod_asked_L10 : Nat → zM → Int32 → Int32 → Int32 → Int32 → Option (Int32)
  | 0, _, _, _, _, _ => none
  | n + 1, S, x1, x2, x3, x4 =>
    m_rd 1025 (S.1 14) (x1 + 1) fun v2 =>
    if v2 ≤ x4 then
      some x3
    else
      m_rd 16385 (S.1 15) x4 fun v4 =>
      if ¬ v4 = x2 then
        f_Mod_asked_L10 n S x1 x2 x3 (x4 + 1)
      else
        m_rd 16385 (S.1 16) x4 fun v6 =>
        f_Mod_asked_L10 n S x1 x2 v6 (x4 + 1)
def f_Mod_asked (S : zM) (a1 : Int32) (a2 : Int32) : Option (Int32) :=
  m_rd 1025 (S.1 14) a1 fun v1 =>
  f_Mod_asked_L10 zbig S a1 a2 (-1) v1
set_option maxHeartbeats 1000000 in
set_option maxRecDepth 20000 in
theorem c_Mod_asked (S : zM) (a1 : Int32) (a2 : Int32) : ∀ r, f_Mod_asked S a1 a2 = some r → zMet l y_Mod_asked (zw y_Mod_asked prog_13_method_29_code 5 (some Jvm.ClassFile.FieldType.int)) 0 0 [.ref (B 0), .int a1, .int a2] D zcl (ztys cA) A (mRep D cA B A) (fun _ => 0) (fun _ => 0) S ((zFp S) r) := by
  intro r hr
  refine zMet_of ⟨Nat.le_refl _, Nat.le_refl _⟩ (by decide) tk_Mod_asked (Nat.le_of_ble_eq_true rfl) ?_
  intro p e R s m args below meth c hf hlo C0 hK hA
  have lp10 : ∀ (n : Nat) (x1 : Int32) (x2 : Int32) (x3 : Int32) (x4 : Int32), mSO p l e R s m args below meth c 5 A D cA B S 10 [(0, .ref (B 0)), (1, .int x1), (2, .int x2), (3, .int x3), (4, .int x4)] [] (zFp S) (f_Mod_asked_L10 n S x1 x2 x3 x4) := by
    intro n
    induction n with
    | zero =>
      intro x1 x2 x3 x4
      rw [f_Mod_asked_L10]
      exact so_none
    | succ n ih10 =>
      intro x1 x2 x3 x4
      rw [f_Mod_asked_L10]
      refine so_go C0 2 (pc' := 13) (lv' := [(0, .ref (B 0)), (1, .int x1), (2, .int x2), (3, .int x3), (4, .int x4)]) (st' := [.ref (B 0), .int x4]) rfl ?_
      refine so_mget C0 hK (j := 19) (v := .ref (B 15)) (by decide) wd_5_38 rfl rfl ?_
      refine so_go C0 3 (pc' := 19) (lv' := [(0, .ref (B 0)), (1, .int x1), (2, .int x2), (3, .int x3), (4, .int x4)]) (st' := [.int (x1 + 1), .ref (B 15), .int x4]) rfl ?_
      refine so_miald C0 hK (a := 14) (by decide) rfl rfl (by decide) rfl (fun v2 hv2 => ?_)
      refine so_icmp_ge C0 rfl (fun h3 => ?_) (fun h3 => ?_)
      · refine so_go C0 1 (pc' := 53) (lv' := [(0, .ref (B 0)), (1, .int x1), (2, .int x2), (3, .int x3), (4, .int x4)]) (st' := [.int x3]) rfl ?_
        exact so_reti C0 rfl rfl
      · refine so_go C0 1 (pc' := 24) (lv' := [(0, .ref (B 0)), (1, .int x1), (2, .int x2), (3, .int x3), (4, .int x4)]) (st' := [.ref (B 0)]) rfl ?_
        refine so_mget C0 hK (j := 21) (v := .ref (B 16)) (by decide) wd_5_40 rfl rfl ?_
        refine so_go C0 1 (pc' := 29) (lv' := [(0, .ref (B 0)), (1, .int x1), (2, .int x2), (3, .int x3), (4, .int x4)]) (st' := [.int x4, .ref (B 16)]) rfl ?_
        refine so_miald C0 hK (a := 15) (by decide) rfl rfl (by decide) rfl (fun v4 hv4 => ?_)
        refine so_go C0 1 (pc' := 31) (lv' := [(0, .ref (B 0)), (1, .int x1), (2, .int x2), (3, .int x3), (4, .int x4)]) (st' := [.int x2, .int v4]) rfl ?_
        refine so_icmp_ne C0 rfl (fun h5 => ?_) (fun h5 => ?_)
        · refine so_go C0 4 (pc' := 10) (lv' := [(0, .ref (B 0)), (1, .int x1), (2, .int x2), (3, .int x3), (4, .int (x4 + 1))]) (st' := []) rfl ?_
          exact so_sub (lv' := [(0, .ref (B 0)), (1, .int x1), (2, .int x2), (3, .int x3), (4, .int (x4 + 1))]) (zpk [0, 1, 2, 3, 4] rfl) (ih10 x1 x2 x3 (x4 + 1))
        · refine so_go C0 1 (pc' := 35) (lv' := [(0, .ref (B 0)), (1, .int x1), (2, .int x2), (3, .int x3), (4, .int x4)]) (st' := [.ref (B 0)]) rfl ?_
          refine so_mget C0 hK (j := 22) (v := .ref (B 17)) (by decide) wd_5_41 rfl rfl ?_
          refine so_go C0 1 (pc' := 40) (lv' := [(0, .ref (B 0)), (1, .int x1), (2, .int x2), (3, .int x3), (4, .int x4)]) (st' := [.int x4, .ref (B 17)]) rfl ?_
          refine so_miald C0 hK (a := 16) (by decide) rfl rfl (by decide) rfl (fun v6 hv6 => ?_)
          refine so_go C0 4 (pc' := 10) (lv' := [(0, .ref (B 0)), (1, .int x1), (2, .int x2), (3, .int v6), (4, .int (x4 + 1))]) (st' := []) rfl ?_
          exact so_sub (lv' := [(0, .ref (B 0)), (1, .int x1), (2, .int x2), (3, .int v6), (4, .int (x4 + 1))]) (zpk [0, 1, 2, 3, 4] rfl) (ih10 x1 x2 v6 (x4 + 1))
  have K : mSO p l e R s m args below meth c 5 A D cA B S 0 (lv_args 0 [.ref (B 0), .int a1, .int a2]) [] (zFp S) (f_Mod_asked S a1 a2) := by
    unfold f_Mod_asked
    refine so_go C0 3 (pc' := 3) (lv' := [(0, .ref (B 0)), (1, .int a1), (2, .int a2), (3, .int (-1))]) (st' := [.ref (B 0)]) rfl ?_
    refine so_mget C0 hK (j := 19) (v := .ref (B 15)) (by decide) wd_5_38 rfl rfl ?_
    refine so_go C0 1 (pc' := 7) (lv' := [(0, .ref (B 0)), (1, .int a1), (2, .int a2), (3, .int (-1))]) (st' := [.int a1, .ref (B 15)]) rfl ?_
    refine so_miald C0 hK (a := 14) (by decide) rfl rfl (by decide) rfl (fun v1 hv1 => ?_)
    refine so_go C0 1 (pc' := 10) (lv' := [(0, .ref (B 0)), (1, .int a1), (2, .int a2), (3, .int (-1)), (4, .int v1)]) (st' := []) rfl ?_
    exact so_sub (lv' := [(0, .ref (B 0)), (1, .int a1), (2, .int a2), (3, .int (-1)), (4, .int v1)]) (zpk [0, 1, 2, 3, 4] rfl) (lp10 zbig a1 a2 (-1) v1)
  exact K r hr
def f_Mod_nextPlace_L7 : Nat → zM → Int32 → Int32 → Option (Int32)
  | 0, _, _, _ => none
  | n + 1, S, x1, x2 =>
    m_rd 1025 (S.1 14) (x1 + 1) fun v2 =>
    if v2 ≤ x2 then
      some (-1)
    else
      m_rd 16385 (S.1 15) x2 fun v4 =>
      m_rd 16386 (S.1 27) v4 fun v5 =>
      if ¬ v5 = 0 then
        f_Mod_nextPlace_L7 n S x1 (x2 + 1)
      else
        m_rd 16385 (S.1 15) x2 fun v7 =>
        some v7
def f_Mod_nextPlace (S : zM) (a1 : Int32) : Option (Int32) :=
  m_rd 1025 (S.1 14) a1 fun v1 =>
  f_Mod_nextPlace_L7 zbig S a1 v1
set_option maxHeartbeats 1000000 in
set_option maxRecDepth 20000 in
theorem c_Mod_nextPlace (S : zM) (a1 : Int32) : ∀ r, f_Mod_nextPlace S a1 = some r → zMet l y_Mod_nextPlace (zw y_Mod_nextPlace prog_13_method_31_code 3 (some Jvm.ClassFile.FieldType.int)) 0 0 [.ref (B 0), .int a1] D zcl (ztys cA) A (mRep D cA B A) (fun _ => 0) (fun _ => 0) S ((zFp S) r) := by
  intro r hr
  refine zMet_of ⟨Nat.le_refl _, Nat.le_refl _⟩ (by decide) tk_Mod_nextPlace (Nat.le_of_ble_eq_true rfl) ?_
  intro p e R s m args below meth c hf hlo C0 hK hA
  have lp7 : ∀ (n : Nat) (x1 : Int32) (x2 : Int32), mSO p l e R s m args below meth c 3 A D cA B S 7 [(0, .ref (B 0)), (1, .int x1), (2, .int x2)] [] (zFp S) (f_Mod_nextPlace_L7 n S x1 x2) := by
    intro n
    induction n with
    | zero =>
      intro x1 x2
      rw [f_Mod_nextPlace_L7]
      exact so_none
    | succ n ih7 =>
      intro x1 x2
      rw [f_Mod_nextPlace_L7]
      refine so_go C0 2 (pc' := 9) (lv' := [(0, .ref (B 0)), (1, .int x1), (2, .int x2)]) (st' := [.ref (B 0), .int x2]) rfl ?_
      refine so_mget C0 hK (j := 19) (v := .ref (B 15)) (by decide) wd_5_38 rfl rfl ?_
      refine so_go C0 3 (pc' := 15) (lv' := [(0, .ref (B 0)), (1, .int x1), (2, .int x2)]) (st' := [.int (x1 + 1), .ref (B 15), .int x2]) rfl ?_
      refine so_miald C0 hK (a := 14) (by decide) rfl rfl (by decide) rfl (fun v2 hv2 => ?_)
      refine so_icmp_ge C0 rfl (fun h3 => ?_) (fun h3 => ?_)
      · refine so_go C0 1 (pc' := 47) (lv' := [(0, .ref (B 0)), (1, .int x1), (2, .int x2)]) (st' := [.int (-1)]) rfl ?_
        exact so_reti C0 rfl rfl
      · refine so_go C0 1 (pc' := 20) (lv' := [(0, .ref (B 0)), (1, .int x1), (2, .int x2)]) (st' := [.ref (B 0)]) rfl ?_
        refine so_mget C0 hK (j := 34) (v := .ref (B 28)) (by decide) wd_5_53 rfl rfl ?_
        refine so_go C0 1 (pc' := 24) (lv' := [(0, .ref (B 0)), (1, .int x1), (2, .int x2)]) (st' := [.ref (B 0), .ref (B 28)]) rfl ?_
        refine so_mget C0 hK (j := 21) (v := .ref (B 16)) (by decide) wd_5_40 rfl rfl ?_
        refine so_go C0 1 (pc' := 28) (lv' := [(0, .ref (B 0)), (1, .int x1), (2, .int x2)]) (st' := [.int x2, .ref (B 16), .ref (B 28)]) rfl ?_
        refine so_miald C0 hK (a := 15) (by decide) rfl rfl (by decide) rfl (fun v4 hv4 => ?_)
        refine so_mzald C0 hK (a := 27) (by decide) rfl rfl (by decide) rfl (fun v5 hv5 => ?_)
        refine so_if_ne C0 rfl (fun h6 => ?_) (fun h6 => ?_)
        · refine so_go C0 2 (pc' := 7) (lv' := [(0, .ref (B 0)), (1, .int x1), (2, .int (x2 + 1))]) (st' := []) rfl ?_
          exact so_sub (lv' := [(0, .ref (B 0)), (1, .int x1), (2, .int (x2 + 1))]) (zpk [0, 1, 2] rfl) (ih7 x1 (x2 + 1))
        · refine so_go C0 1 (pc' := 34) (lv' := [(0, .ref (B 0)), (1, .int x1), (2, .int x2)]) (st' := [.ref (B 0)]) rfl ?_
          refine so_mget C0 hK (j := 21) (v := .ref (B 16)) (by decide) wd_5_40 rfl rfl ?_
          refine so_go C0 1 (pc' := 38) (lv' := [(0, .ref (B 0)), (1, .int x1), (2, .int x2)]) (st' := [.int x2, .ref (B 16)]) rfl ?_
          refine so_miald C0 hK (a := 15) (by decide) rfl rfl (by decide) rfl (fun v7 hv7 => ?_)
          exact so_reti C0 rfl rfl
  have K : mSO p l e R s m args below meth c 3 A D cA B S 0 (lv_args 0 [.ref (B 0), .int a1]) [] (zFp S) (f_Mod_nextPlace S a1) := by
    unfold f_Mod_nextPlace
    refine so_go C0 1 (pc' := 1) (lv' := [(0, .ref (B 0)), (1, .int a1)]) (st' := [.ref (B 0)]) rfl ?_
    refine so_mget C0 hK (j := 19) (v := .ref (B 15)) (by decide) wd_5_38 rfl rfl ?_
    refine so_go C0 1 (pc' := 5) (lv' := [(0, .ref (B 0)), (1, .int a1)]) (st' := [.int a1, .ref (B 15)]) rfl ?_
    refine so_miald C0 hK (a := 14) (by decide) rfl rfl (by decide) rfl (fun v1 hv1 => ?_)
    refine so_go C0 1 (pc' := 7) (lv' := [(0, .ref (B 0)), (1, .int a1), (2, .int v1)]) (st' := []) rfl ?_
    exact so_sub (lv' := [(0, .ref (B 0)), (1, .int a1), (2, .int v1)]) (zpk [0, 1, 2] rfl) (lp7 zbig a1 v1)
  exact K r hr
def f_Mod_narrow_L3 : Nat → zM → Int32 → Int64 → Int32 → Int32 → Option (zM)
  | 0, _, _, _, _, _ => none
  | n + 1, S, x1, x2, x4, x5 =>
    if (S.2.2 4) ≤ x5 then
      some S
    else
      zob (f_Mod_isPossible S x1 x5) fun v2 =>
      if v2 = 0 then
        zob (f_Mod_isPossible S x1 x5) fun v4 =>
        if v4 = 0 then
          zob (f_Mod_setPossible S (x1 + 1) x5 0) fun S6 =>
          f_Mod_narrow_L3 n S6 x1 x2 x4 (x5 + 1)
        else
          zob (f_Mod_setPossible S (x1 + 1) x5 1) fun S7 =>
          f_Mod_narrow_L3 n S7 x1 x2 x4 (x5 + 1)
      else
        m_rd 4097 (S.1 24) x1 fun v8 =>
        zob (f_Mod_asked S x5 v8) fun v9 =>
        if v9 < 0 then
          zob (f_Mod_isPossible S x1 x5) fun v11 =>
          if v11 = 0 then
            zob (f_Mod_setPossible S (x1 + 1) x5 0) fun S13 =>
            f_Mod_narrow_L3 n S13 x1 x2 x4 (x5 + 1)
          else
            zob (f_Mod_setPossible S (x1 + 1) x5 1) fun S14 =>
            f_Mod_narrow_L3 n S14 x1 x2 x4 (x5 + 1)
        else
          if ¬ x4 = 0 then
            zob (f_Mod_isPossible S x1 x5) fun v16 =>
            if v16 = 0 then
              zob (f_Mod_setPossible S (x1 + 1) x5 0) fun S18 =>
              f_Mod_narrow_L3 n S18 x1 x2 x4 (x5 + 1)
            else
              zob (f_Mod_setPossible S (x1 + 1) x5 0) fun S19 =>
              f_Mod_narrow_L3 n S19 x1 x2 x4 (x5 + 1)
          else
            zob (f_Mod_numberOf S v9) fun v20 =>
            if ¬ (lg_cmp v20 x2) = 0 then
              zob (f_Mod_isPossible S x1 x5) fun v22 =>
              if v22 = 0 then
                zob (f_Mod_setPossible S (x1 + 1) x5 0) fun S24 =>
                f_Mod_narrow_L3 n S24 x1 x2 x4 (x5 + 1)
              else
                zob (f_Mod_setPossible S (x1 + 1) x5 0) fun S25 =>
                f_Mod_narrow_L3 n S25 x1 x2 x4 (x5 + 1)
            else
              zob (f_Mod_isPossible S x1 x5) fun v26 =>
              if v26 = 0 then
                zob (f_Mod_setPossible S (x1 + 1) x5 0) fun S28 =>
                f_Mod_narrow_L3 n S28 x1 x2 x4 (x5 + 1)
              else
                zob (f_Mod_setPossible S (x1 + 1) x5 1) fun S29 =>
                f_Mod_narrow_L3 n S29 x1 x2 x4 (x5 + 1)
def f_Mod_narrow (S : zM) (a1 : Int32) (a2 : Int64) (a3 : Int32) : Option (zM) :=
  f_Mod_narrow_L3 zbig S a1 a2 a3 0
set_option maxHeartbeats 1000000 in
set_option maxRecDepth 20000 in
theorem c_Mod_narrow (S : zM) (a1 : Int32) (a2 : Int64) (a3 : Int32) : ∀ r, f_Mod_narrow S a1 a2 a3 = some r → zMet l y_Mod_narrow (zw y_Mod_narrow prog_13_method_32_code 8 none) 1 27 [.ref (B 0), .int a1, .long a2, .int a3] D zcl (ztys cA) A (mRep D cA B A) (fun _ => 0) (fun _ => 0) S (zFv r) := by
  intro r hr
  refine zMet_of ⟨Nat.le_refl _, Nat.le_refl _⟩ (by decide) tk_Mod_narrow (Nat.le_of_ble_eq_true rfl) ?_
  intro p e R s m args below meth c hf hlo C0 hK hA
  have lp3 : ∀ (n : Nat) (S : zM) (x1 : Int32) (x2 : Int64) (x4 : Int32) (x5 : Int32), mSO p l e R s m args below meth c 8 A D cA B S 3 [(0, .ref (B 0)), (1, .int x1), (2, .long x2), (4, .int x4), (5, .int x5)] [] zFv (f_Mod_narrow_L3 n S x1 x2 x4 x5) := by
    intro n
    induction n with
    | zero =>
      intro S x1 x2 x4 x5
      rw [f_Mod_narrow_L3]
      exact so_none
    | succ n ih3 =>
      intro S x1 x2 x4 x5
      rw [f_Mod_narrow_L3]
      refine so_go C0 2 (pc' := 6) (lv' := [(0, .ref (B 0)), (1, .int x1), (2, .long x2), (4, .int x4), (5, .int x5)]) (st' := [.ref (B 0), .int x5]) rfl ?_
      refine so_mget C0 hK (j := 17) (v := .int (S.2.2 4)) (by decide) wd_5_36 rfl rfl ?_
      refine so_icmp_ge C0 rfl (fun h1 => ?_) (fun h1 => ?_)
      · exact so_retv C0 rfl rfl
      · refine so_go C0 3 (pc' := 16) (lv' := [(0, .ref (B 0)), (1, .int x1), (2, .long x2), (4, .int x4), (5, .int x5)]) (st' := [.int x5, .int x1, .ref (B 0)]) rfl ?_
        refine so_op (As := [.int x1, .int x5]) (rest := []) C0 hK hA yk_Mod_isPossible (c_Mod_isPossible S x1 x5) wd_6_53 rfl rfl ⟨by rw [hf]; decide, by rw [hlo]; decide⟩ (Nat.le_of_ble_eq_true rfl) (mrc hK) (fun v2 hv2 => ?_)
        refine so_if_eq C0 rfl (fun h3 => ?_) (fun h3 => ?_)
        · refine so_go C0 3 (pc' := 42) (lv' := [(0, .ref (B 0)), (1, .int x1), (2, .long x2), (4, .int x4), (5, .int x5), (6, .int (-1))]) (st' := [.int (-1)]) rfl ?_
          refine so_if_ltT C0 rfl (by decide) ?_
          refine so_go C0 11 (pc' := 78) (lv' := [(0, .ref (B 0)), (1, .int x1), (2, .long x2), (4, .int x4), (5, .int x5), (6, .int (-1)), (7, .int 1)]) (st' := [.int x5, .int x1, .ref (B 0), .int x5, .int (x1 + 1), .ref (B 0)]) rfl ?_
          refine so_op (As := [.int x1, .int x5]) (rest := [.int x5, .int (x1 + 1), .ref (B 0)]) C0 hK hA yk_Mod_isPossible (c_Mod_isPossible S x1 x5) wd_6_53 rfl rfl ⟨by rw [hf]; decide, by rw [hlo]; decide⟩ (Nat.le_of_ble_eq_true rfl) (mrc hK) (fun v4 hv4 => ?_)
          refine so_if_eq C0 rfl (fun h5 => ?_) (fun h5 => ?_)
          · refine so_go C0 1 (pc' := 94) (lv' := [(0, .ref (B 0)), (1, .int x1), (2, .long x2), (4, .int x4), (5, .int x5), (6, .int (-1)), (7, .int 1)]) (st' := [.int 0, .int x5, .int (x1 + 1), .ref (B 0)]) rfl ?_
            refine so_oV (As := [.int (x1 + 1), .int x5, .int 0]) (rest := []) C0 hK hA yk_Mod_setPossible (c_Mod_setPossible S (x1 + 1) x5 0) wd_6_41 rfl rfl ⟨by rw [hf]; decide, by rw [hlo]; decide⟩ (Nat.le_of_ble_eq_true rfl) (mrc hK) (fun S6 hS6 => ?_)
            refine so_go C0 2 (pc' := 3) (lv' := [(0, .ref (B 0)), (1, .int x1), (2, .long x2), (4, .int x4), (5, .int (x5 + 1)), (6, .int (-1)), (7, .int 1)]) (st' := []) rfl ?_
            exact so_sub (lv' := [(0, .ref (B 0)), (1, .int x1), (2, .long x2), (4, .int x4), (5, .int (x5 + 1))]) (zpk [0, 1, 2, 3, 4] rfl) (ih3 S6 x1 x2 x4 (x5 + 1))
          · refine so_go C0 1 (pc' := 86) (lv' := [(0, .ref (B 0)), (1, .int x1), (2, .long x2), (4, .int x4), (5, .int x5), (6, .int (-1)), (7, .int 1)]) (st' := [.int 1, .int x5, .int (x1 + 1), .ref (B 0)]) rfl ?_
            refine so_if_eqF C0 rfl (by decide) ?_
            refine so_go C0 2 (pc' := 94) (lv' := [(0, .ref (B 0)), (1, .int x1), (2, .long x2), (4, .int x4), (5, .int x5), (6, .int (-1)), (7, .int 1)]) (st' := [.int 1, .int x5, .int (x1 + 1), .ref (B 0)]) rfl ?_
            refine so_oV (As := [.int (x1 + 1), .int x5, .int 1]) (rest := []) C0 hK hA yk_Mod_setPossible (c_Mod_setPossible S (x1 + 1) x5 1) wd_6_41 rfl rfl ⟨by rw [hf]; decide, by rw [hlo]; decide⟩ (Nat.le_of_ble_eq_true rfl) (mrc hK) (fun S7 hS7 => ?_)
            refine so_go C0 2 (pc' := 3) (lv' := [(0, .ref (B 0)), (1, .int x1), (2, .long x2), (4, .int x4), (5, .int (x5 + 1)), (6, .int (-1)), (7, .int 1)]) (st' := []) rfl ?_
            exact so_sub (lv' := [(0, .ref (B 0)), (1, .int x1), (2, .long x2), (4, .int x4), (5, .int (x5 + 1))]) (zpk [0, 1, 2, 3, 4] rfl) (ih3 S7 x1 x2 x4 (x5 + 1))
        · refine so_go C0 3 (pc' := 26) (lv' := [(0, .ref (B 0)), (1, .int x1), (2, .long x2), (4, .int x4), (5, .int x5)]) (st' := [.ref (B 0), .int x5, .ref (B 0)]) rfl ?_
          refine so_mget C0 hK (j := 31) (v := .ref (B 25)) (by decide) wd_5_50 rfl rfl ?_
          refine so_go C0 1 (pc' := 30) (lv' := [(0, .ref (B 0)), (1, .int x1), (2, .long x2), (4, .int x4), (5, .int x5)]) (st' := [.int x1, .ref (B 25), .int x5, .ref (B 0)]) rfl ?_
          refine so_miald C0 hK (a := 24) (by decide) rfl rfl (by decide) rfl (fun v8 hv8 => ?_)
          refine so_op (As := [.int x5, .int v8]) (rest := []) C0 hK hA yk_Mod_asked (c_Mod_asked S x5 v8) wd_6_74 rfl rfl ⟨by rw [hf]; decide, by rw [hlo]; decide⟩ (Nat.le_of_ble_eq_true rfl) (mrc hK) (fun v9 hv9 => ?_)
          refine so_go C0 3 (pc' := 42) (lv' := [(0, .ref (B 0)), (1, .int x1), (2, .long x2), (4, .int x4), (5, .int x5), (6, .int v9)]) (st' := [.int v9]) rfl ?_
          refine so_if_lt C0 rfl (fun h10 => ?_) (fun h10 => ?_)
          · refine so_go C0 11 (pc' := 78) (lv' := [(0, .ref (B 0)), (1, .int x1), (2, .long x2), (4, .int x4), (5, .int x5), (6, .int v9), (7, .int 1)]) (st' := [.int x5, .int x1, .ref (B 0), .int x5, .int (x1 + 1), .ref (B 0)]) rfl ?_
            refine so_op (As := [.int x1, .int x5]) (rest := [.int x5, .int (x1 + 1), .ref (B 0)]) C0 hK hA yk_Mod_isPossible (c_Mod_isPossible S x1 x5) wd_6_53 rfl rfl ⟨by rw [hf]; decide, by rw [hlo]; decide⟩ (Nat.le_of_ble_eq_true rfl) (mrc hK) (fun v11 hv11 => ?_)
            refine so_if_eq C0 rfl (fun h12 => ?_) (fun h12 => ?_)
            · refine so_go C0 1 (pc' := 94) (lv' := [(0, .ref (B 0)), (1, .int x1), (2, .long x2), (4, .int x4), (5, .int x5), (6, .int v9), (7, .int 1)]) (st' := [.int 0, .int x5, .int (x1 + 1), .ref (B 0)]) rfl ?_
              refine so_oV (As := [.int (x1 + 1), .int x5, .int 0]) (rest := []) C0 hK hA yk_Mod_setPossible (c_Mod_setPossible S (x1 + 1) x5 0) wd_6_41 rfl rfl ⟨by rw [hf]; decide, by rw [hlo]; decide⟩ (Nat.le_of_ble_eq_true rfl) (mrc hK) (fun S13 hS13 => ?_)
              refine so_go C0 2 (pc' := 3) (lv' := [(0, .ref (B 0)), (1, .int x1), (2, .long x2), (4, .int x4), (5, .int (x5 + 1)), (6, .int v9), (7, .int 1)]) (st' := []) rfl ?_
              exact so_sub (lv' := [(0, .ref (B 0)), (1, .int x1), (2, .long x2), (4, .int x4), (5, .int (x5 + 1))]) (zpk [0, 1, 2, 3, 4] rfl) (ih3 S13 x1 x2 x4 (x5 + 1))
            · refine so_go C0 1 (pc' := 86) (lv' := [(0, .ref (B 0)), (1, .int x1), (2, .long x2), (4, .int x4), (5, .int x5), (6, .int v9), (7, .int 1)]) (st' := [.int 1, .int x5, .int (x1 + 1), .ref (B 0)]) rfl ?_
              refine so_if_eqF C0 rfl (by decide) ?_
              refine so_go C0 2 (pc' := 94) (lv' := [(0, .ref (B 0)), (1, .int x1), (2, .long x2), (4, .int x4), (5, .int x5), (6, .int v9), (7, .int 1)]) (st' := [.int 1, .int x5, .int (x1 + 1), .ref (B 0)]) rfl ?_
              refine so_oV (As := [.int (x1 + 1), .int x5, .int 1]) (rest := []) C0 hK hA yk_Mod_setPossible (c_Mod_setPossible S (x1 + 1) x5 1) wd_6_41 rfl rfl ⟨by rw [hf]; decide, by rw [hlo]; decide⟩ (Nat.le_of_ble_eq_true rfl) (mrc hK) (fun S14 hS14 => ?_)
              refine so_go C0 2 (pc' := 3) (lv' := [(0, .ref (B 0)), (1, .int x1), (2, .long x2), (4, .int x4), (5, .int (x5 + 1)), (6, .int v9), (7, .int 1)]) (st' := []) rfl ?_
              exact so_sub (lv' := [(0, .ref (B 0)), (1, .int x1), (2, .long x2), (4, .int x4), (5, .int (x5 + 1))]) (zpk [0, 1, 2, 3, 4] rfl) (ih3 S14 x1 x2 x4 (x5 + 1))
          · refine so_go C0 1 (pc' := 47) (lv' := [(0, .ref (B 0)), (1, .int x1), (2, .long x2), (4, .int x4), (5, .int x5), (6, .int v9)]) (st' := [.int x4]) rfl ?_
            refine so_if_ne C0 rfl (fun h15 => ?_) (fun h15 => ?_)
            · refine so_go C0 10 (pc' := 78) (lv' := [(0, .ref (B 0)), (1, .int x1), (2, .long x2), (4, .int x4), (5, .int x5), (6, .int v9), (7, .int 0)]) (st' := [.int x5, .int x1, .ref (B 0), .int x5, .int (x1 + 1), .ref (B 0)]) rfl ?_
              refine so_op (As := [.int x1, .int x5]) (rest := [.int x5, .int (x1 + 1), .ref (B 0)]) C0 hK hA yk_Mod_isPossible (c_Mod_isPossible S x1 x5) wd_6_53 rfl rfl ⟨by rw [hf]; decide, by rw [hlo]; decide⟩ (Nat.le_of_ble_eq_true rfl) (mrc hK) (fun v16 hv16 => ?_)
              refine so_if_eq C0 rfl (fun h17 => ?_) (fun h17 => ?_)
              · refine so_go C0 1 (pc' := 94) (lv' := [(0, .ref (B 0)), (1, .int x1), (2, .long x2), (4, .int x4), (5, .int x5), (6, .int v9), (7, .int 0)]) (st' := [.int 0, .int x5, .int (x1 + 1), .ref (B 0)]) rfl ?_
                refine so_oV (As := [.int (x1 + 1), .int x5, .int 0]) (rest := []) C0 hK hA yk_Mod_setPossible (c_Mod_setPossible S (x1 + 1) x5 0) wd_6_41 rfl rfl ⟨by rw [hf]; decide, by rw [hlo]; decide⟩ (Nat.le_of_ble_eq_true rfl) (mrc hK) (fun S18 hS18 => ?_)
                refine so_go C0 2 (pc' := 3) (lv' := [(0, .ref (B 0)), (1, .int x1), (2, .long x2), (4, .int x4), (5, .int (x5 + 1)), (6, .int v9), (7, .int 0)]) (st' := []) rfl ?_
                exact so_sub (lv' := [(0, .ref (B 0)), (1, .int x1), (2, .long x2), (4, .int x4), (5, .int (x5 + 1))]) (zpk [0, 1, 2, 3, 4] rfl) (ih3 S18 x1 x2 x4 (x5 + 1))
              · refine so_go C0 1 (pc' := 86) (lv' := [(0, .ref (B 0)), (1, .int x1), (2, .long x2), (4, .int x4), (5, .int x5), (6, .int v9), (7, .int 0)]) (st' := [.int 0, .int x5, .int (x1 + 1), .ref (B 0)]) rfl ?_
                refine so_if_eqT C0 rfl (by decide) ?_
                refine so_go C0 1 (pc' := 94) (lv' := [(0, .ref (B 0)), (1, .int x1), (2, .long x2), (4, .int x4), (5, .int x5), (6, .int v9), (7, .int 0)]) (st' := [.int 0, .int x5, .int (x1 + 1), .ref (B 0)]) rfl ?_
                refine so_oV (As := [.int (x1 + 1), .int x5, .int 0]) (rest := []) C0 hK hA yk_Mod_setPossible (c_Mod_setPossible S (x1 + 1) x5 0) wd_6_41 rfl rfl ⟨by rw [hf]; decide, by rw [hlo]; decide⟩ (Nat.le_of_ble_eq_true rfl) (mrc hK) (fun S19 hS19 => ?_)
                refine so_go C0 2 (pc' := 3) (lv' := [(0, .ref (B 0)), (1, .int x1), (2, .long x2), (4, .int x4), (5, .int (x5 + 1)), (6, .int v9), (7, .int 0)]) (st' := []) rfl ?_
                exact so_sub (lv' := [(0, .ref (B 0)), (1, .int x1), (2, .long x2), (4, .int x4), (5, .int (x5 + 1))]) (zpk [0, 1, 2, 3, 4] rfl) (ih3 S19 x1 x2 x4 (x5 + 1))
            · refine so_go C0 2 (pc' := 53) (lv' := [(0, .ref (B 0)), (1, .int x1), (2, .long x2), (4, .int x4), (5, .int x5), (6, .int v9)]) (st' := [.int v9, .ref (B 0)]) rfl ?_
              refine so_opl (As := [.int v9]) (rest := []) C0 hK hA yk_Mod_numberOf (c_Mod_numberOf S v9) wd_6_14 rfl rfl ⟨by rw [hf]; decide, by rw [hlo]; decide⟩ (Nat.le_of_ble_eq_true rfl) (mrc hK) (fun v20 hv20 => ?_)
              refine so_go C0 2 (pc' := 58) (lv' := [(0, .ref (B 0)), (1, .int x1), (2, .long x2), (4, .int x4), (5, .int x5), (6, .int v9)]) (st' := [.int (lg_cmp v20 x2)]) rfl ?_
              refine so_if_ne C0 rfl (fun h21 => ?_) (fun h21 => ?_)
              · refine so_go C0 10 (pc' := 78) (lv' := [(0, .ref (B 0)), (1, .int x1), (2, .long x2), (4, .int x4), (5, .int x5), (6, .int v9), (7, .int 0)]) (st' := [.int x5, .int x1, .ref (B 0), .int x5, .int (x1 + 1), .ref (B 0)]) rfl ?_
                refine so_op (As := [.int x1, .int x5]) (rest := [.int x5, .int (x1 + 1), .ref (B 0)]) C0 hK hA yk_Mod_isPossible (c_Mod_isPossible S x1 x5) wd_6_53 rfl rfl ⟨by rw [hf]; decide, by rw [hlo]; decide⟩ (Nat.le_of_ble_eq_true rfl) (mrc hK) (fun v22 hv22 => ?_)
                refine so_if_eq C0 rfl (fun h23 => ?_) (fun h23 => ?_)
                · refine so_go C0 1 (pc' := 94) (lv' := [(0, .ref (B 0)), (1, .int x1), (2, .long x2), (4, .int x4), (5, .int x5), (6, .int v9), (7, .int 0)]) (st' := [.int 0, .int x5, .int (x1 + 1), .ref (B 0)]) rfl ?_
                  refine so_oV (As := [.int (x1 + 1), .int x5, .int 0]) (rest := []) C0 hK hA yk_Mod_setPossible (c_Mod_setPossible S (x1 + 1) x5 0) wd_6_41 rfl rfl ⟨by rw [hf]; decide, by rw [hlo]; decide⟩ (Nat.le_of_ble_eq_true rfl) (mrc hK) (fun S24 hS24 => ?_)
                  refine so_go C0 2 (pc' := 3) (lv' := [(0, .ref (B 0)), (1, .int x1), (2, .long x2), (4, .int x4), (5, .int (x5 + 1)), (6, .int v9), (7, .int 0)]) (st' := []) rfl ?_
                  exact so_sub (lv' := [(0, .ref (B 0)), (1, .int x1), (2, .long x2), (4, .int x4), (5, .int (x5 + 1))]) (zpk [0, 1, 2, 3, 4] rfl) (ih3 S24 x1 x2 x4 (x5 + 1))
                · refine so_go C0 1 (pc' := 86) (lv' := [(0, .ref (B 0)), (1, .int x1), (2, .long x2), (4, .int x4), (5, .int x5), (6, .int v9), (7, .int 0)]) (st' := [.int 0, .int x5, .int (x1 + 1), .ref (B 0)]) rfl ?_
                  refine so_if_eqT C0 rfl (by decide) ?_
                  refine so_go C0 1 (pc' := 94) (lv' := [(0, .ref (B 0)), (1, .int x1), (2, .long x2), (4, .int x4), (5, .int x5), (6, .int v9), (7, .int 0)]) (st' := [.int 0, .int x5, .int (x1 + 1), .ref (B 0)]) rfl ?_
                  refine so_oV (As := [.int (x1 + 1), .int x5, .int 0]) (rest := []) C0 hK hA yk_Mod_setPossible (c_Mod_setPossible S (x1 + 1) x5 0) wd_6_41 rfl rfl ⟨by rw [hf]; decide, by rw [hlo]; decide⟩ (Nat.le_of_ble_eq_true rfl) (mrc hK) (fun S25 hS25 => ?_)
                  refine so_go C0 2 (pc' := 3) (lv' := [(0, .ref (B 0)), (1, .int x1), (2, .long x2), (4, .int x4), (5, .int (x5 + 1)), (6, .int v9), (7, .int 0)]) (st' := []) rfl ?_
                  exact so_sub (lv' := [(0, .ref (B 0)), (1, .int x1), (2, .long x2), (4, .int x4), (5, .int (x5 + 1))]) (zpk [0, 1, 2, 3, 4] rfl) (ih3 S25 x1 x2 x4 (x5 + 1))
              · refine so_go C0 11 (pc' := 78) (lv' := [(0, .ref (B 0)), (1, .int x1), (2, .long x2), (4, .int x4), (5, .int x5), (6, .int v9), (7, .int 1)]) (st' := [.int x5, .int x1, .ref (B 0), .int x5, .int (x1 + 1), .ref (B 0)]) rfl ?_
                refine so_op (As := [.int x1, .int x5]) (rest := [.int x5, .int (x1 + 1), .ref (B 0)]) C0 hK hA yk_Mod_isPossible (c_Mod_isPossible S x1 x5) wd_6_53 rfl rfl ⟨by rw [hf]; decide, by rw [hlo]; decide⟩ (Nat.le_of_ble_eq_true rfl) (mrc hK) (fun v26 hv26 => ?_)
                refine so_if_eq C0 rfl (fun h27 => ?_) (fun h27 => ?_)
                · refine so_go C0 1 (pc' := 94) (lv' := [(0, .ref (B 0)), (1, .int x1), (2, .long x2), (4, .int x4), (5, .int x5), (6, .int v9), (7, .int 1)]) (st' := [.int 0, .int x5, .int (x1 + 1), .ref (B 0)]) rfl ?_
                  refine so_oV (As := [.int (x1 + 1), .int x5, .int 0]) (rest := []) C0 hK hA yk_Mod_setPossible (c_Mod_setPossible S (x1 + 1) x5 0) wd_6_41 rfl rfl ⟨by rw [hf]; decide, by rw [hlo]; decide⟩ (Nat.le_of_ble_eq_true rfl) (mrc hK) (fun S28 hS28 => ?_)
                  refine so_go C0 2 (pc' := 3) (lv' := [(0, .ref (B 0)), (1, .int x1), (2, .long x2), (4, .int x4), (5, .int (x5 + 1)), (6, .int v9), (7, .int 1)]) (st' := []) rfl ?_
                  exact so_sub (lv' := [(0, .ref (B 0)), (1, .int x1), (2, .long x2), (4, .int x4), (5, .int (x5 + 1))]) (zpk [0, 1, 2, 3, 4] rfl) (ih3 S28 x1 x2 x4 (x5 + 1))
                · refine so_go C0 1 (pc' := 86) (lv' := [(0, .ref (B 0)), (1, .int x1), (2, .long x2), (4, .int x4), (5, .int x5), (6, .int v9), (7, .int 1)]) (st' := [.int 1, .int x5, .int (x1 + 1), .ref (B 0)]) rfl ?_
                  refine so_if_eqF C0 rfl (by decide) ?_
                  refine so_go C0 2 (pc' := 94) (lv' := [(0, .ref (B 0)), (1, .int x1), (2, .long x2), (4, .int x4), (5, .int x5), (6, .int v9), (7, .int 1)]) (st' := [.int 1, .int x5, .int (x1 + 1), .ref (B 0)]) rfl ?_
                  refine so_oV (As := [.int (x1 + 1), .int x5, .int 1]) (rest := []) C0 hK hA yk_Mod_setPossible (c_Mod_setPossible S (x1 + 1) x5 1) wd_6_41 rfl rfl ⟨by rw [hf]; decide, by rw [hlo]; decide⟩ (Nat.le_of_ble_eq_true rfl) (mrc hK) (fun S29 hS29 => ?_)
                  refine so_go C0 2 (pc' := 3) (lv' := [(0, .ref (B 0)), (1, .int x1), (2, .long x2), (4, .int x4), (5, .int (x5 + 1)), (6, .int v9), (7, .int 1)]) (st' := []) rfl ?_
                  exact so_sub (lv' := [(0, .ref (B 0)), (1, .int x1), (2, .long x2), (4, .int x4), (5, .int (x5 + 1))]) (zpk [0, 1, 2, 3, 4] rfl) (ih3 S29 x1 x2 x4 (x5 + 1))
  have K : mSO p l e R s m args below meth c 8 A D cA B S 0 (lv_args 0 [.ref (B 0), .int a1, .long a2, .int a3]) [] zFv (f_Mod_narrow S a1 a2 a3) := by
    unfold f_Mod_narrow
    refine so_go C0 2 (pc' := 3) (lv' := [(0, .ref (B 0)), (1, .int a1), (2, .long a2), (4, .int a3), (5, .int 0)]) (st' := []) rfl ?_
    exact so_sub (lv' := [(0, .ref (B 0)), (1, .int a1), (2, .long a2), (4, .int a3), (5, .int 0)]) (zpk [0, 1, 2, 3, 4] rfl) (lp3 zbig S a1 a2 a3 0)
  exact K r hr
def f_Mod_nextNumber_L8 : Nat → zM → Int32 → Int64 → Int64 → Int32 → Option (Int64)
  | 0, _, _, _, _, _ => none
  | n + 1, S, x1, x2, x4, x6 =>
    if (S.2.2 4) ≤ x6 then
      some x4
    else
      zob (f_Mod_isPossible S x1 x6) fun v2 =>
      if v2 = 0 then
        f_Mod_nextNumber_L8 n S x1 x2 x4 (x6 + 1)
      else
        m_rd 4097 (S.1 24) x1 fun v4 =>
        zob (f_Mod_asked S x6 v4) fun v5 =>
        if v5 < 0 then
          f_Mod_nextNumber_L8 n S x1 x2 x4 (x6 + 1)
        else
          zob (f_Mod_numberOf S v5) fun v7 =>
          if (lg_cmp v7 x2) ≤ 0 then
            f_Mod_nextNumber_L8 n S x1 x2 x4 (x6 + 1)
          else
            zob (f_Mod_numberOf S v5) fun v9 =>
            if 0 ≤ (lg_cmp v9 x4) then
              f_Mod_nextNumber_L8 n S x1 x2 x4 (x6 + 1)
            else
              zob (f_Mod_numberOf S v5) fun v11 =>
              f_Mod_nextNumber_L8 n S x1 x2 v11 (x6 + 1)
def f_Mod_nextNumber (S : zM) (a1 : Int32) (a2 : Int64) : Option (Int64) :=
  f_Mod_nextNumber_L8 zbig S a1 a2 4294967296 0
set_option maxHeartbeats 1000000 in
set_option maxRecDepth 20000 in
theorem c_Mod_nextNumber (S : zM) (a1 : Int32) (a2 : Int64) : ∀ r, f_Mod_nextNumber S a1 a2 = some r → zMet l y_Mod_nextNumber (zw y_Mod_nextNumber prog_13_method_33_code 8 (some Jvm.ClassFile.FieldType.long)) 1 24 [.ref (B 0), .int a1, .long a2] D zcl (ztys cA) A (mRep D cA B A) (fun _ => 0) (fun _ => 0) S ((zFpl S) r) := by
  intro r hr
  refine zMet_of ⟨Nat.le_refl _, Nat.le_refl _⟩ (by decide) tk_Mod_nextNumber (Nat.le_of_ble_eq_true rfl) ?_
  intro p e R s m args below meth c hf hlo C0 hK hA
  have lp8 : ∀ (n : Nat) (x1 : Int32) (x2 : Int64) (x4 : Int64) (x6 : Int32), mSO p l e R s m args below meth c 8 A D cA B S 8 [(0, .ref (B 0)), (1, .int x1), (2, .long x2), (4, .long x4), (6, .int x6)] [] (zFpl S) (f_Mod_nextNumber_L8 n S x1 x2 x4 x6) := by
    intro n
    induction n with
    | zero =>
      intro x1 x2 x4 x6
      rw [f_Mod_nextNumber_L8]
      exact so_none
    | succ n ih8 =>
      intro x1 x2 x4 x6
      rw [f_Mod_nextNumber_L8]
      refine so_go C0 2 (pc' := 11) (lv' := [(0, .ref (B 0)), (1, .int x1), (2, .long x2), (4, .long x4), (6, .int x6)]) (st' := [.ref (B 0), .int x6]) rfl ?_
      refine so_mget C0 hK (j := 17) (v := .int (S.2.2 4)) (by decide) wd_5_36 rfl rfl ?_
      refine so_icmp_ge C0 rfl (fun h1 => ?_) (fun h1 => ?_)
      · refine so_go C0 1 (pc' := 89) (lv' := [(0, .ref (B 0)), (1, .int x1), (2, .long x2), (4, .long x4), (6, .int x6)]) (st' := [.long x4]) rfl ?_
        exact so_retl C0 rfl rfl
      · refine so_go C0 3 (pc' := 21) (lv' := [(0, .ref (B 0)), (1, .int x1), (2, .long x2), (4, .long x4), (6, .int x6)]) (st' := [.int x6, .int x1, .ref (B 0)]) rfl ?_
        refine so_op (As := [.int x1, .int x6]) (rest := []) C0 hK hA yk_Mod_isPossible (c_Mod_isPossible S x1 x6) wd_6_53 rfl rfl ⟨by rw [hf]; decide, by rw [hlo]; decide⟩ (Nat.le_of_ble_eq_true rfl) (mrc hK) (fun v2 hv2 => ?_)
        refine so_if_eq C0 rfl (fun h3 => ?_) (fun h3 => ?_)
        · refine so_go C0 3 (pc' := 47) (lv' := [(0, .ref (B 0)), (1, .int x1), (2, .long x2), (4, .long x4), (6, .int x6), (7, .int (-1))]) (st' := [.int (-1)]) rfl ?_
          refine so_if_ltT C0 rfl (by decide) ?_
          refine so_go C0 2 (pc' := 8) (lv' := [(0, .ref (B 0)), (1, .int x1), (2, .long x2), (4, .long x4), (6, .int (x6 + 1)), (7, .int (-1))]) (st' := []) rfl ?_
          exact so_sub (lv' := [(0, .ref (B 0)), (1, .int x1), (2, .long x2), (4, .long x4), (6, .int (x6 + 1))]) (zpk [0, 1, 2, 3, 4] rfl) (ih8 x1 x2 x4 (x6 + 1))
        · refine so_go C0 3 (pc' := 31) (lv' := [(0, .ref (B 0)), (1, .int x1), (2, .long x2), (4, .long x4), (6, .int x6)]) (st' := [.ref (B 0), .int x6, .ref (B 0)]) rfl ?_
          refine so_mget C0 hK (j := 31) (v := .ref (B 25)) (by decide) wd_5_50 rfl rfl ?_
          refine so_go C0 1 (pc' := 35) (lv' := [(0, .ref (B 0)), (1, .int x1), (2, .long x2), (4, .long x4), (6, .int x6)]) (st' := [.int x1, .ref (B 25), .int x6, .ref (B 0)]) rfl ?_
          refine so_miald C0 hK (a := 24) (by decide) rfl rfl (by decide) rfl (fun v4 hv4 => ?_)
          refine so_op (As := [.int x6, .int v4]) (rest := []) C0 hK hA yk_Mod_asked (c_Mod_asked S x6 v4) wd_6_74 rfl rfl ⟨by rw [hf]; decide, by rw [hlo]; decide⟩ (Nat.le_of_ble_eq_true rfl) (mrc hK) (fun v5 hv5 => ?_)
          refine so_go C0 3 (pc' := 47) (lv' := [(0, .ref (B 0)), (1, .int x1), (2, .long x2), (4, .long x4), (6, .int x6), (7, .int v5)]) (st' := [.int v5]) rfl ?_
          refine so_if_lt C0 rfl (fun h6 => ?_) (fun h6 => ?_)
          · refine so_go C0 2 (pc' := 8) (lv' := [(0, .ref (B 0)), (1, .int x1), (2, .long x2), (4, .long x4), (6, .int (x6 + 1)), (7, .int v5)]) (st' := []) rfl ?_
            exact so_sub (lv' := [(0, .ref (B 0)), (1, .int x1), (2, .long x2), (4, .long x4), (6, .int (x6 + 1))]) (zpk [0, 1, 2, 3, 4] rfl) (ih8 x1 x2 x4 (x6 + 1))
          · refine so_go C0 2 (pc' := 53) (lv' := [(0, .ref (B 0)), (1, .int x1), (2, .long x2), (4, .long x4), (6, .int x6), (7, .int v5)]) (st' := [.int v5, .ref (B 0)]) rfl ?_
            refine so_opl (As := [.int v5]) (rest := []) C0 hK hA yk_Mod_numberOf (c_Mod_numberOf S v5) wd_6_14 rfl rfl ⟨by rw [hf]; decide, by rw [hlo]; decide⟩ (Nat.le_of_ble_eq_true rfl) (mrc hK) (fun v7 hv7 => ?_)
            refine so_go C0 2 (pc' := 58) (lv' := [(0, .ref (B 0)), (1, .int x1), (2, .long x2), (4, .long x4), (6, .int x6), (7, .int v5)]) (st' := [.int (lg_cmp v7 x2)]) rfl ?_
            refine so_if_le C0 rfl (fun h8 => ?_) (fun h8 => ?_)
            · refine so_go C0 2 (pc' := 8) (lv' := [(0, .ref (B 0)), (1, .int x1), (2, .long x2), (4, .long x4), (6, .int (x6 + 1)), (7, .int v5)]) (st' := []) rfl ?_
              exact so_sub (lv' := [(0, .ref (B 0)), (1, .int x1), (2, .long x2), (4, .long x4), (6, .int (x6 + 1))]) (zpk [0, 1, 2, 3, 4] rfl) (ih8 x1 x2 x4 (x6 + 1))
            · refine so_go C0 2 (pc' := 64) (lv' := [(0, .ref (B 0)), (1, .int x1), (2, .long x2), (4, .long x4), (6, .int x6), (7, .int v5)]) (st' := [.int v5, .ref (B 0)]) rfl ?_
              refine so_opl (As := [.int v5]) (rest := []) C0 hK hA yk_Mod_numberOf (c_Mod_numberOf S v5) wd_6_14 rfl rfl ⟨by rw [hf]; decide, by rw [hlo]; decide⟩ (Nat.le_of_ble_eq_true rfl) (mrc hK) (fun v9 hv9 => ?_)
              refine so_go C0 2 (pc' := 70) (lv' := [(0, .ref (B 0)), (1, .int x1), (2, .long x2), (4, .long x4), (6, .int x6), (7, .int v5)]) (st' := [.int (lg_cmp v9 x4)]) rfl ?_
              refine so_if_ge C0 rfl (fun h10 => ?_) (fun h10 => ?_)
              · refine so_go C0 2 (pc' := 8) (lv' := [(0, .ref (B 0)), (1, .int x1), (2, .long x2), (4, .long x4), (6, .int (x6 + 1)), (7, .int v5)]) (st' := []) rfl ?_
                exact so_sub (lv' := [(0, .ref (B 0)), (1, .int x1), (2, .long x2), (4, .long x4), (6, .int (x6 + 1))]) (zpk [0, 1, 2, 3, 4] rfl) (ih8 x1 x2 x4 (x6 + 1))
              · refine so_go C0 2 (pc' := 76) (lv' := [(0, .ref (B 0)), (1, .int x1), (2, .long x2), (4, .long x4), (6, .int x6), (7, .int v5)]) (st' := [.int v5, .ref (B 0)]) rfl ?_
                refine so_opl (As := [.int v5]) (rest := []) C0 hK hA yk_Mod_numberOf (c_Mod_numberOf S v5) wd_6_14 rfl rfl ⟨by rw [hf]; decide, by rw [hlo]; decide⟩ (Nat.le_of_ble_eq_true rfl) (mrc hK) (fun v11 hv11 => ?_)
                refine so_go C0 3 (pc' := 8) (lv' := [(0, .ref (B 0)), (1, .int x1), (2, .long x2), (4, .long v11), (6, .int (x6 + 1)), (7, .int v5)]) (st' := []) rfl ?_
                exact so_sub (lv' := [(0, .ref (B 0)), (1, .int x1), (2, .long x2), (4, .long v11), (6, .int (x6 + 1))]) (zpk [0, 1, 2, 3, 4] rfl) (ih8 x1 x2 v11 (x6 + 1))
  have K : mSO p l e R s m args below meth c 8 A D cA B S 0 (lv_args 0 [.ref (B 0), .int a1, .long a2]) [] (zFpl S) (f_Mod_nextNumber S a1 a2) := by
    unfold f_Mod_nextNumber
    refine so_ldc2 C0 wd_6_73 rfl ?_
    refine so_go C0 3 (pc' := 8) (lv' := [(0, .ref (B 0)), (1, .int a1), (2, .long a2), (4, .long 4294967296), (6, .int 0)]) (st' := []) rfl ?_
    exact so_sub (lv' := [(0, .ref (B 0)), (1, .int a1), (2, .long a2), (4, .long 4294967296), (6, .int 0)]) (zpk [0, 1, 2, 3, 4] rfl) (lp8 zbig a1 a2 4294967296 0)
  exact K r hr
def f_Mod_branches_L11 : Nat → zM → Int32 → Int32 → Int64 → Option (Int32)
  | 0, _, _, _, _ => none
  | n + 1, S, x1, x2, x3 =>
    if 0 ≤ (lg_cmp x3 4294967296) then
      some x2
    else
      zob (f_Mod_nextNumber S x1 x3) fun v3 =>
      f_Mod_branches_L11 n S x1 (x2 + 1) v3
def f_Mod_branches (S : zM) (a1 : Int32) : Option (Int32) :=
  zob (f_Mod_nextNumber S a1 (-4294967296)) fun v1 =>
  f_Mod_branches_L11 zbig S a1 0 v1
set_option maxHeartbeats 1000000 in
set_option maxRecDepth 20000 in
theorem c_Mod_branches (S : zM) (a1 : Int32) : ∀ r, f_Mod_branches S a1 = some r → zMet l y_Mod_branches (zw y_Mod_branches prog_13_method_34_code 5 (some Jvm.ClassFile.FieldType.int)) 2 51 [.ref (B 0), .int a1] D zcl (ztys cA) A (mRep D cA B A) (fun _ => 0) (fun _ => 0) S ((zFp S) r) := by
  intro r hr
  refine zMet_of ⟨Nat.le_refl _, Nat.le_refl _⟩ (by decide) tk_Mod_branches (Nat.le_of_ble_eq_true rfl) ?_
  intro p e R s m args below meth c hf hlo C0 hK hA
  have lp11 : ∀ (n : Nat) (x1 : Int32) (x2 : Int32) (x3 : Int64), mSO p l e R s m args below meth c 5 A D cA B S 11 [(0, .ref (B 0)), (1, .int x1), (2, .int x2), (3, .long x3)] [] (zFp S) (f_Mod_branches_L11 n S x1 x2 x3) := by
    intro n
    induction n with
    | zero =>
      intro x1 x2 x3
      rw [f_Mod_branches_L11]
      exact so_none
    | succ n ih11 =>
      intro x1 x2 x3
      rw [f_Mod_branches_L11]
      refine so_go C0 1 (pc' := 12) (lv' := [(0, .ref (B 0)), (1, .int x1), (2, .int x2), (3, .long x3)]) (st' := [.long x3]) rfl ?_
      refine so_ldc2 C0 wd_6_73 rfl ?_
      refine so_go C0 1 (pc' := 16) (lv' := [(0, .ref (B 0)), (1, .int x1), (2, .int x2), (3, .long x3)]) (st' := [.int (lg_cmp x3 4294967296)]) rfl ?_
      refine so_if_ge C0 rfl (fun h2 => ?_) (fun h2 => ?_)
      · refine so_go C0 1 (pc' := 33) (lv' := [(0, .ref (B 0)), (1, .int x1), (2, .int x2), (3, .long x3)]) (st' := [.int x2]) rfl ?_
        exact so_reti C0 rfl rfl
      · refine so_go C0 4 (pc' := 25) (lv' := [(0, .ref (B 0)), (1, .int x1), (2, .int (x2 + 1)), (3, .long x3)]) (st' := [.long x3, .int x1, .ref (B 0)]) rfl ?_
        refine so_opl (As := [.int x1, .long x3]) (rest := []) C0 hK hA yk_Mod_nextNumber (c_Mod_nextNumber S x1 x3) wd_6_69 rfl rfl ⟨by rw [hf]; decide, by rw [hlo]; decide⟩ (Nat.le_of_ble_eq_true rfl) (mrc hK) (fun v3 hv3 => ?_)
        refine so_go C0 2 (pc' := 11) (lv' := [(0, .ref (B 0)), (1, .int x1), (2, .int (x2 + 1)), (3, .long v3)]) (st' := []) rfl ?_
        exact so_sub (lv' := [(0, .ref (B 0)), (1, .int x1), (2, .int (x2 + 1)), (3, .long v3)]) (zpk [0, 1, 2, 3] rfl) (ih11 x1 (x2 + 1) v3)
  have K : mSO p l e R s m args below meth c 5 A D cA B S 0 (lv_args 0 [.ref (B 0), .int a1]) [] (zFp S) (f_Mod_branches S a1) := by
    unfold f_Mod_branches
    refine so_go C0 4 (pc' := 4) (lv' := [(0, .ref (B 0)), (1, .int a1), (2, .int 0)]) (st' := [.int a1, .ref (B 0)]) rfl ?_
    refine so_ldc2 C0 wd_6_78 rfl ?_
    refine so_opl (As := [.int a1, .long (-4294967296)]) (rest := []) C0 hK hA yk_Mod_nextNumber (c_Mod_nextNumber S a1 (-4294967296)) wd_6_69 rfl rfl ⟨by rw [hf]; decide, by rw [hlo]; decide⟩ (Nat.le_of_ble_eq_true rfl) (mrc hK) (fun v1 hv1 => ?_)
    refine so_go C0 1 (pc' := 11) (lv' := [(0, .ref (B 0)), (1, .int a1), (2, .int 0), (3, .long v1)]) (st' := []) rfl ?_
    exact so_sub (lv' := [(0, .ref (B 0)), (1, .int a1), (2, .int 0), (3, .long v1)]) (zpk [0, 1, 2, 3] rfl) (lp11 zbig a1 0 v1)
  exact K r hr
def f_Mod_example_L4 : Nat → zM → Int32 → Int32 → Int32 → Option (Int32)
  | 0, _, _, _, _ => none
  | n + 1, S, x1, x2, x3 =>
    if (S.2.2 4) ≤ x3 then
      some x2
    else
      if 0 ≤ x2 then
        some x2
      else
        zob (f_Mod_isPossible S x1 x3) fun v3 =>
        if v3 = 0 then
          f_Mod_example_L4 n S x1 (-1) (x3 + 1)
        else
          m_rd 4097 (S.1 24) x1 fun v5 =>
          zob (f_Mod_asked S x3 v5) fun v6 =>
          f_Mod_example_L4 n S x1 v6 (x3 + 1)
def f_Mod_example (S : zM) (a1 : Int32) : Option (Int32) :=
  f_Mod_example_L4 zbig S a1 (-1) 0
set_option maxHeartbeats 1000000 in
set_option maxRecDepth 20000 in
theorem c_Mod_example (S : zM) (a1 : Int32) : ∀ r, f_Mod_example S a1 = some r → zMet l y_Mod_example (zw y_Mod_example prog_13_method_35_code 4 (some Jvm.ClassFile.FieldType.int)) 1 24 [.ref (B 0), .int a1] D zcl (ztys cA) A (mRep D cA B A) (fun _ => 0) (fun _ => 0) S ((zFp S) r) := by
  intro r hr
  refine zMet_of ⟨Nat.le_refl _, Nat.le_refl _⟩ (by decide) tk_Mod_example (Nat.le_of_ble_eq_true rfl) ?_
  intro p e R s m args below meth c hf hlo C0 hK hA
  have lp4 : ∀ (n : Nat) (x1 : Int32) (x2 : Int32) (x3 : Int32), mSO p l e R s m args below meth c 4 A D cA B S 4 [(0, .ref (B 0)), (1, .int x1), (2, .int x2), (3, .int x3)] [] (zFp S) (f_Mod_example_L4 n S x1 x2 x3) := by
    intro n
    induction n with
    | zero =>
      intro x1 x2 x3
      rw [f_Mod_example_L4]
      exact so_none
    | succ n ih4 =>
      intro x1 x2 x3
      rw [f_Mod_example_L4]
      refine so_go C0 2 (pc' := 6) (lv' := [(0, .ref (B 0)), (1, .int x1), (2, .int x2), (3, .int x3)]) (st' := [.ref (B 0), .int x3]) rfl ?_
      refine so_mget C0 hK (j := 17) (v := .int (S.2.2 4)) (by decide) wd_5_36 rfl rfl ?_
      refine so_icmp_ge C0 rfl (fun h1 => ?_) (fun h1 => ?_)
      · refine so_go C0 1 (pc' := 48) (lv' := [(0, .ref (B 0)), (1, .int x1), (2, .int x2), (3, .int x3)]) (st' := [.int x2]) rfl ?_
        exact so_reti C0 rfl rfl
      · refine so_go C0 1 (pc' := 13) (lv' := [(0, .ref (B 0)), (1, .int x1), (2, .int x2), (3, .int x3)]) (st' := [.int x2]) rfl ?_
        refine so_if_ge C0 rfl (fun h2 => ?_) (fun h2 => ?_)
        · refine so_go C0 1 (pc' := 48) (lv' := [(0, .ref (B 0)), (1, .int x1), (2, .int x2), (3, .int x3)]) (st' := [.int x2]) rfl ?_
          exact so_reti C0 rfl rfl
        · refine so_go C0 3 (pc' := 19) (lv' := [(0, .ref (B 0)), (1, .int x1), (2, .int x2), (3, .int x3)]) (st' := [.int x3, .int x1, .ref (B 0)]) rfl ?_
          refine so_op (As := [.int x1, .int x3]) (rest := []) C0 hK hA yk_Mod_isPossible (c_Mod_isPossible S x1 x3) wd_6_53 rfl rfl ⟨by rw [hf]; decide, by rw [hlo]; decide⟩ (Nat.le_of_ble_eq_true rfl) (mrc hK) (fun v3 hv3 => ?_)
          refine so_if_eq C0 rfl (fun h4 => ?_) (fun h4 => ?_)
          · refine so_go C0 4 (pc' := 4) (lv' := [(0, .ref (B 0)), (1, .int x1), (2, .int (-1)), (3, .int (x3 + 1))]) (st' := []) rfl ?_
            exact so_sub (lv' := [(0, .ref (B 0)), (1, .int x1), (2, .int (-1)), (3, .int (x3 + 1))]) (zpk [0, 1, 2, 3] rfl) (ih4 x1 (-1) (x3 + 1))
          · refine so_go C0 3 (pc' := 28) (lv' := [(0, .ref (B 0)), (1, .int x1), (2, .int x2), (3, .int x3)]) (st' := [.ref (B 0), .int x3, .ref (B 0)]) rfl ?_
            refine so_mget C0 hK (j := 31) (v := .ref (B 25)) (by decide) wd_5_50 rfl rfl ?_
            refine so_go C0 1 (pc' := 32) (lv' := [(0, .ref (B 0)), (1, .int x1), (2, .int x2), (3, .int x3)]) (st' := [.int x1, .ref (B 25), .int x3, .ref (B 0)]) rfl ?_
            refine so_miald C0 hK (a := 24) (by decide) rfl rfl (by decide) rfl (fun v5 hv5 => ?_)
            refine so_op (As := [.int x3, .int v5]) (rest := []) C0 hK hA yk_Mod_asked (c_Mod_asked S x3 v5) wd_6_74 rfl rfl ⟨by rw [hf]; decide, by rw [hlo]; decide⟩ (Nat.le_of_ble_eq_true rfl) (mrc hK) (fun v6 hv6 => ?_)
            refine so_go C0 4 (pc' := 4) (lv' := [(0, .ref (B 0)), (1, .int x1), (2, .int v6), (3, .int (x3 + 1))]) (st' := []) rfl ?_
            exact so_sub (lv' := [(0, .ref (B 0)), (1, .int x1), (2, .int v6), (3, .int (x3 + 1))]) (zpk [0, 1, 2, 3] rfl) (ih4 x1 v6 (x3 + 1))
  have K : mSO p l e R s m args below meth c 4 A D cA B S 0 (lv_args 0 [.ref (B 0), .int a1]) [] (zFp S) (f_Mod_example S a1) := by
    unfold f_Mod_example
    refine so_go C0 4 (pc' := 4) (lv' := [(0, .ref (B 0)), (1, .int a1), (2, .int (-1)), (3, .int 0)]) (st' := []) rfl ?_
    exact so_sub (lv' := [(0, .ref (B 0)), (1, .int a1), (2, .int (-1)), (3, .int 0)]) (zpk [0, 1, 2, 3] rfl) (lp4 zbig a1 (-1) 0)
  exact K r hr
end ZN
