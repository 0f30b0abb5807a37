-- by program: methods of the reference, as functions, and that the code does them
section ZN
variable {cA : Nat → ClassId} {B : Nat → Nat} {A : Nat → Prop} {D : va_G} {l : Launch}
def f_Mod_areOneSort (S : zM) (a1 : Int32) (a2 : Int32) : Option (Int32) :=
  m_rd 16384 (S.1 2) a1 fun v1 =>
  m_rd 16384 (S.1 2) a2 fun v2 =>
  if ¬ v1 = v2 then
    some 0
  else
    m_rd 16384 (S.1 2) a1 fun v4 =>
    if v4 = 3 then
      some 1
    else
      m_rd 16384 (S.1 3) a1 fun v6 =>
      m_rd 16384 (S.1 3) a2 fun v7 =>
      if ¬ v6 = v7 then
        some 0
      else
        some 1
set_option maxHeartbeats 1000000 in
set_option maxRecDepth 20000 in
theorem c_Mod_areOneSort (S : zM) (a1 : Int32) (a2 : Int32) : ∀ r, f_Mod_areOneSort S a1 a2 = some r → zMet l y_Mod_areOneSort (zw y_Mod_areOneSort prog_13_method_14_code 3 (some Jvm.ClassFile.FieldType.boolean)) 0 0 [.ref (B 0), .int a1, .int a2] D zcl (ztys cA) A (mRep D cA B A) (fun _ => 0) (fun _ => 0) S ((zFp S) r) := by
  intro r hr
  refine zMet_of ⟨Nat.le_refl _, Nat.le_refl _⟩ (by decide) tk_Mod_areOneSort (Nat.le_of_ble_eq_true rfl) ?_
  intro p e R s m args below meth c hf hlo C0 hK hA
  have K : mSO p l e R s m args below meth c 3 A D cA B S 0 (lv_args 0 [.ref (B 0), .int a1, .int a2]) [] (zFp S) (f_Mod_areOneSort S a1 a2) := by
    unfold f_Mod_areOneSort
    refine so_go C0 1 (pc' := 1) (lv' := [(0, .ref (B 0)), (1, .int a1), (2, .int a2)]) (st' := [.ref (B 0)]) rfl ?_
    refine so_mget C0 hK (j := 4) (v := .ref (B 3)) (by decide) wd_5_23 rfl rfl ?_
    refine so_go C0 1 (pc' := 5) (lv' := [(0, .ref (B 0)), (1, .int a1), (2, .int a2)]) (st' := [.int a1, .ref (B 3)]) rfl ?_
    refine so_mbald C0 hK (a := 2) (by decide) rfl rfl (by decide) rfl (fun v1 hv1 => ?_)
    refine so_go C0 1 (pc' := 7) (lv' := [(0, .ref (B 0)), (1, .int a1), (2, .int a2)]) (st' := [.ref (B 0), .int v1]) rfl ?_
    refine so_mget C0 hK (j := 4) (v := .ref (B 3)) (by decide) wd_5_23 rfl rfl ?_
    refine so_go C0 1 (pc' := 11) (lv' := [(0, .ref (B 0)), (1, .int a1), (2, .int a2)]) (st' := [.int a2, .ref (B 3), .int v1]) rfl ?_
    refine so_mbald C0 hK (a := 2) (by decide) rfl rfl (by decide) rfl (fun v2 hv2 => ?_)
    refine so_icmp_ne C0 rfl (fun h3 => ?_) (fun h3 => ?_)
    · refine so_go C0 1 (pc' := 45) (lv' := [(0, .ref (B 0)), (1, .int a1), (2, .int a2)]) (st' := [.int 0]) rfl ?_
      exact so_retz C0 rfl rfl rfl
    · refine so_go C0 1 (pc' := 16) (lv' := [(0, .ref (B 0)), (1, .int a1), (2, .int a2)]) (st' := [.ref (B 0)]) rfl ?_
      refine so_mget C0 hK (j := 4) (v := .ref (B 3)) (by decide) wd_5_23 rfl rfl ?_
      refine so_go C0 1 (pc' := 20) (lv' := [(0, .ref (B 0)), (1, .int a1), (2, .int a2)]) (st' := [.int a1, .ref (B 3)]) rfl ?_
      refine so_mbald C0 hK (a := 2) (by decide) rfl rfl (by decide) rfl (fun v4 hv4 => ?_)
      refine so_go C0 1 (pc' := 22) (lv' := [(0, .ref (B 0)), (1, .int a1), (2, .int a2)]) (st' := [.int 3, .int v4]) rfl ?_
      refine so_icmp_eq C0 rfl (fun h5 => ?_) (fun h5 => ?_)
      · refine so_go C0 2 (pc' := 45) (lv' := [(0, .ref (B 0)), (1, .int a1), (2, .int a2)]) (st' := [.int 1]) rfl ?_
        exact so_retz C0 rfl rfl rfl
      · refine so_go C0 1 (pc' := 26) (lv' := [(0, .ref (B 0)), (1, .int a1), (2, .int a2)]) (st' := [.ref (B 0)]) rfl ?_
        refine so_mget C0 hK (j := 5) (v := .ref (B 4)) (by decide) wd_5_24 rfl rfl ?_
        refine so_go C0 1 (pc' := 30) (lv' := [(0, .ref (B 0)), (1, .int a1), (2, .int a2)]) (st' := [.int a1, .ref (B 4)]) rfl ?_
        refine so_miald C0 hK (a := 3) (by decide) rfl rfl (by decide) rfl (fun v6 hv6 => ?_)
        refine so_go C0 1 (pc' := 32) (lv' := [(0, .ref (B 0)), (1, .int a1), (2, .int a2)]) (st' := [.ref (B 0), .int v6]) rfl ?_
        refine so_mget C0 hK (j := 5) (v := .ref (B 4)) (by decide) wd_5_24 rfl rfl ?_
        refine so_go C0 1 (pc' := 36) (lv' := [(0, .ref (B 0)), (1, .int a1), (2, .int a2)]) (st' := [.int a2, .ref (B 4), .int v6]) rfl ?_
        refine so_miald C0 hK (a := 3) (by decide) rfl rfl (by decide) rfl (fun v7 hv7 => ?_)
        refine so_icmp_ne C0 rfl (fun h8 => ?_) (fun h8 => ?_)
        · refine so_go C0 1 (pc' := 45) (lv' := [(0, .ref (B 0)), (1, .int a1), (2, .int a2)]) (st' := [.int 0]) rfl ?_
          exact so_retz C0 rfl rfl rfl
        · refine so_go C0 2 (pc' := 45) (lv' := [(0, .ref (B 0)), (1, .int a1), (2, .int a2)]) (st' := [.int 1]) rfl ?_
          exact so_retz C0 rfl rfl rfl
  exact K r hr
def f_Mod_areOne (S : zM) (a1 : Int32) (a2 : Int32) : Option (Int32) :=
  m_rd 16384 (S.1 2) a1 fun v1 =>
  if ¬ v1 = 2 then
    m_rd 16384 (S.1 3) a1 fun v3 =>
    m_rd 16384 (S.1 3) a2 fun v4 =>
    if ¬ v3 = v4 then
      some 0
    else
      some 1
  else
    m_rd 16384 (S.1 4) a1 fun v6 =>
    m_rd 16384 (S.1 4) a2 fun v7 =>
    if ¬ v6 = v7 then
      some 0
    else
      some 1
set_option maxHeartbeats 1000000 in
set_option maxRecDepth 20000 in
theorem c_Mod_areOne (S : zM) (a1 : Int32) (a2 : Int32) : ∀ r, f_Mod_areOne S a1 a2 = some r → zMet l y_Mod_areOne (zw y_Mod_areOne prog_13_method_15_code 3 (some Jvm.ClassFile.FieldType.boolean)) 0 0 [.ref (B 0), .int a1, .int a2] D zcl (ztys cA) A (mRep D cA B A) (fun _ => 0) (fun _ => 0) S ((zFp S) r) := by
  intro r hr
  refine zMet_of ⟨Nat.le_refl _, Nat.le_refl _⟩ (by decide) tk_Mod_areOne (Nat.le_of_ble_eq_true rfl) ?_
  intro p e R s m args below meth c hf hlo C0 hK hA
  have K : mSO p l e R s m args below meth c 3 A D cA B S 0 (lv_args 0 [.ref (B 0), .int a1, .int a2]) [] (zFp S) (f_Mod_areOne S a1 a2) := by
    unfold f_Mod_areOne
    refine so_go C0 1 (pc' := 1) (lv' := [(0, .ref (B 0)), (1, .int a1), (2, .int a2)]) (st' := [.ref (B 0)]) rfl ?_
    refine so_mget C0 hK (j := 4) (v := .ref (B 3)) (by decide) wd_5_23 rfl rfl ?_
    refine so_go C0 1 (pc' := 5) (lv' := [(0, .ref (B 0)), (1, .int a1), (2, .int a2)]) (st' := [.int a1, .ref (B 3)]) rfl ?_
    refine so_mbald C0 hK (a := 2) (by decide) rfl rfl (by decide) rfl (fun v1 hv1 => ?_)
    refine so_go C0 1 (pc' := 7) (lv' := [(0, .ref (B 0)), (1, .int a1), (2, .int a2)]) (st' := [.int 2, .int v1]) rfl ?_
    refine so_icmp_ne C0 rfl (fun h2 => ?_) (fun h2 => ?_)
    · refine so_go C0 1 (pc' := 34) (lv' := [(0, .ref (B 0)), (1, .int a1), (2, .int a2)]) (st' := [.ref (B 0)]) rfl ?_
      refine so_mget C0 hK (j := 5) (v := .ref (B 4)) (by decide) wd_5_24 rfl rfl ?_
      refine so_go C0 1 (pc' := 38) (lv' := [(0, .ref (B 0)), (1, .int a1), (2, .int a2)]) (st' := [.int a1, .ref (B 4)]) rfl ?_
      refine so_miald C0 hK (a := 3) (by decide) rfl rfl (by decide) rfl (fun v3 hv3 => ?_)
      refine so_go C0 1 (pc' := 40) (lv' := [(0, .ref (B 0)), (1, .int a1), (2, .int a2)]) (st' := [.ref (B 0), .int v3]) rfl ?_
      refine so_mget C0 hK (j := 5) (v := .ref (B 4)) (by decide) wd_5_24 rfl rfl ?_
      refine so_go C0 1 (pc' := 44) (lv' := [(0, .ref (B 0)), (1, .int a1), (2, .int a2)]) (st' := [.int a2, .ref (B 4), .int v3]) rfl ?_
      refine so_miald C0 hK (a := 3) (by decide) rfl rfl (by decide) rfl (fun v4 hv4 => ?_)
      refine so_icmp_ne C0 rfl (fun h5 => ?_) (fun h5 => ?_)
      · refine so_go C0 1 (pc' := 53) (lv' := [(0, .ref (B 0)), (1, .int a1), (2, .int a2)]) (st' := [.int 0]) rfl ?_
        exact so_retz C0 rfl rfl rfl
      · refine so_go C0 2 (pc' := 53) (lv' := [(0, .ref (B 0)), (1, .int a1), (2, .int a2)]) (st' := [.int 1]) rfl ?_
        exact so_retz C0 rfl rfl rfl
    · refine so_go C0 1 (pc' := 11) (lv' := [(0, .ref (B 0)), (1, .int a1), (2, .int a2)]) (st' := [.ref (B 0)]) rfl ?_
      refine so_mget C0 hK (j := 6) (v := .ref (B 5)) (by decide) wd_5_25 rfl rfl ?_
      refine so_go C0 1 (pc' := 15) (lv' := [(0, .ref (B 0)), (1, .int a1), (2, .int a2)]) (st' := [.int a1, .ref (B 5)]) rfl ?_
      refine so_miald C0 hK (a := 4) (by decide) rfl rfl (by decide) rfl (fun v6 hv6 => ?_)
      refine so_go C0 1 (pc' := 17) (lv' := [(0, .ref (B 0)), (1, .int a1), (2, .int a2)]) (st' := [.ref (B 0), .int v6]) rfl ?_
      refine so_mget C0 hK (j := 6) (v := .ref (B 5)) (by decide) wd_5_25 rfl rfl ?_
      refine so_go C0 1 (pc' := 21) (lv' := [(0, .ref (B 0)), (1, .int a1), (2, .int a2)]) (st' := [.int a2, .ref (B 5), .int v6]) rfl ?_
      refine so_miald C0 hK (a := 4) (by decide) rfl rfl (by decide) rfl (fun v7 hv7 => ?_)
      refine so_icmp_ne C0 rfl (fun h8 => ?_) (fun h8 => ?_)
      · refine so_go C0 2 (pc' := 53) (lv' := [(0, .ref (B 0)), (1, .int a1), (2, .int a2)]) (st' := [.int 0]) rfl ?_
        exact so_retz C0 rfl rfl rfl
      · refine so_go C0 2 (pc' := 53) (lv' := [(0, .ref (B 0)), (1, .int a1), (2, .int a2)]) (st' := [.int 1]) rfl ?_
        exact so_retz C0 rfl rfl rfl
  exact K r hr
def f_Mod_goTogether_L13 : Nat → zM → Int32 → Option (zM × Int32)
  | 0, _, _ => none
  | n + 1, S, x3 =>
    if (S.2.2 11) ≤ 0 then
      some (S, (z_b x3))
    else
      if x3 = 0 then
        some (S, (z_b x3))
      else
        zbind (m_sc S 11 ((S.2.2 11) - 1)) fun S5 =>
        m_rd 20480 (S5.1 31) (S5.2.2 11) fun v6 =>
        m_rd 20480 (S5.1 32) (S5.2.2 11) fun v7 =>
        m_rd 16384 (S5.1 2) v6 fun v8 =>
        if v8 = 0 then
          f_Mod_goTogether_L13 n S5 x3
        else
          m_rd 16384 (S5.1 2) v7 fun v10 =>
          if v10 = 0 then
            f_Mod_goTogether_L13 n S5 x3
          else
            zob (f_Mod_areOneSort S5 v6 v7) fun v12 =>
            if v12 = 0 then
              if v12 = 0 then
                f_Mod_goTogether_L13 n S5 v12
              else
                m_rd 16384 (S5.1 2) v6 fun v15 =>
                if ¬ v15 = 4 then
                  f_Mod_goTogether_L13 n S5 v12
                else
                  zob (f_Mod_pairFields S5 v6 v7) fun S17 =>
                  f_Mod_goTogether_L13 n S17 v12
            else
              m_rd 16384 (S5.1 2) v6 fun v18 =>
              if v18 = 2 then
                zob (f_Mod_areOne S5 v6 v7) fun v20 =>
                if v20 = 0 then
                  if v12 = 0 then
                    f_Mod_goTogether_L13 n S5 v12
                  else
                    m_rd 16384 (S5.1 2) v6 fun v23 =>
                    if ¬ v23 = 4 then
                      f_Mod_goTogether_L13 n S5 v12
                    else
                      zob (f_Mod_pairFields S5 v6 v7) fun S25 =>
                      f_Mod_goTogether_L13 n S25 v12
                else
                  m_rd 16384 (S5.1 5) v6 fun v26 =>
                  if 0 ≤ v26 then
                    m_rd 16384 (S5.1 5) v7 fun v28 =>
                    if 0 ≤ v28 then
                      m_rd 16384 (S5.1 5) v6 fun v30 =>
                      if v30 < 0 then
                        m_rd 16384 (S5.1 2) v6 fun v32 =>
                        if ¬ v32 = 4 then
                          f_Mod_goTogether_L13 n S5 1
                        else
                          zob (f_Mod_pairFields S5 v6 v7) fun S34 =>
                          f_Mod_goTogether_L13 n S34 1
                      else
                        m_rd 16384 (S5.1 5) v6 fun v35 =>
                        m_rd 16384 (S5.1 5) v7 fun v36 =>
                        zob (f_Mod_pair S5 v35 v36) fun S37 =>
                        m_rd 16384 (S37.1 2) v6 fun v38 =>
                        if ¬ v38 = 4 then
                          f_Mod_goTogether_L13 n S37 1
                        else
                          zob (f_Mod_pairFields S37 v6 v7) fun S40 =>
                          f_Mod_goTogether_L13 n S40 1
                    else
                      f_Mod_goTogether_L13 n S5 0
                  else
                    m_rd 16384 (S5.1 5) v7 fun v41 =>
                    if 0 ≤ v41 then
                      f_Mod_goTogether_L13 n S5 0
                    else
                      m_rd 16384 (S5.1 5) v6 fun v43 =>
                      if v43 < 0 then
                        m_rd 16384 (S5.1 2) v6 fun v45 =>
                        if ¬ v45 = 4 then
                          f_Mod_goTogether_L13 n S5 1
                        else
                          zob (f_Mod_pairFields S5 v6 v7) fun S47 =>
                          f_Mod_goTogether_L13 n S47 1
                      else
                        m_rd 16384 (S5.1 5) v6 fun v48 =>
                        m_rd 16384 (S5.1 5) v7 fun v49 =>
                        zob (f_Mod_pair S5 v48 v49) fun S50 =>
                        m_rd 16384 (S50.1 2) v6 fun v51 =>
                        if ¬ v51 = 4 then
                          f_Mod_goTogether_L13 n S50 1
                        else
                          zob (f_Mod_pairFields S50 v6 v7) fun S53 =>
                          f_Mod_goTogether_L13 n S53 1
              else
                m_rd 16384 (S5.1 2) v6 fun v54 =>
                if ¬ v54 = 3 then
                  if v12 = 0 then
                    f_Mod_goTogether_L13 n S5 v12
                  else
                    m_rd 16384 (S5.1 2) v6 fun v57 =>
                    if ¬ v57 = 4 then
                      f_Mod_goTogether_L13 n S5 v12
                    else
                      zob (f_Mod_pairFields S5 v6 v7) fun S59 =>
                      f_Mod_goTogether_L13 n S59 v12
                else
                  zob (f_Mod_areOne S5 v6 v7) fun v60 =>
                  if v60 = 0 then
                    if v12 = 0 then
                      f_Mod_goTogether_L13 n S5 v12
                    else
                      m_rd 16384 (S5.1 2) v6 fun v63 =>
                      if ¬ v63 = 4 then
                        f_Mod_goTogether_L13 n S5 v12
                      else
                        zob (f_Mod_pairFields S5 v6 v7) fun S65 =>
                        f_Mod_goTogether_L13 n S65 v12
                  else
                    m_rd 16384 (S5.1 5) v6 fun v66 =>
                    if 0 ≤ v66 then
                      m_rd 16384 (S5.1 5) v7 fun v68 =>
                      if 0 ≤ v68 then
                        m_rd 16384 (S5.1 5) v6 fun v70 =>
                        if v70 < 0 then
                          m_rd 16384 (S5.1 2) v6 fun v72 =>
                          if ¬ v72 = 4 then
                            f_Mod_goTogether_L13 n S5 1
                          else
                            zob (f_Mod_pairFields S5 v6 v7) fun S74 =>
                            f_Mod_goTogether_L13 n S74 1
                        else
                          m_rd 16384 (S5.1 5) v6 fun v75 =>
                          m_rd 16384 (S5.1 5) v7 fun v76 =>
                          zob (f_Mod_pair S5 v75 v76) fun S77 =>
                          m_rd 16384 (S77.1 2) v6 fun v78 =>
                          if ¬ v78 = 4 then
                            f_Mod_goTogether_L13 n S77 1
                          else
                            zob (f_Mod_pairFields S77 v6 v7) fun S80 =>
                            f_Mod_goTogether_L13 n S80 1
                      else
                        f_Mod_goTogether_L13 n S5 0
                    else
                      m_rd 16384 (S5.1 5) v7 fun v81 =>
                      if 0 ≤ v81 then
                        f_Mod_goTogether_L13 n S5 0
                      else
                        m_rd 16384 (S5.1 5) v6 fun v83 =>
                        if v83 < 0 then
                          m_rd 16384 (S5.1 2) v6 fun v85 =>
                          if ¬ v85 = 4 then
                            f_Mod_goTogether_L13 n S5 1
                          else
                            zob (f_Mod_pairFields S5 v6 v7) fun S87 =>
                            f_Mod_goTogether_L13 n S87 1
                        else
                          m_rd 16384 (S5.1 5) v6 fun v88 =>
                          m_rd 16384 (S5.1 5) v7 fun v89 =>
                          zob (f_Mod_pair S5 v88 v89) fun S90 =>
                          m_rd 16384 (S90.1 2) v6 fun v91 =>
                          if ¬ v91 = 4 then
                            f_Mod_goTogether_L13 n S90 1
                          else
                            zob (f_Mod_pairFields S90 v6 v7) fun S93 =>
                            f_Mod_goTogether_L13 n S93 1
def f_Mod_goTogether (S : zM) (a1 : Int32) (a2 : Int32) : Option (zM × Int32) :=
  zbind (m_sc S 11 0) fun S1 =>
  zob (f_Mod_pair S1 a1 a2) fun S2 =>
  f_Mod_goTogether_L13 zbig S2 1
set_option maxHeartbeats 1000000 in
set_option maxRecDepth 20000 in
theorem c_Mod_goTogether (S : zM) (a1 : Int32) (a2 : Int32) : ∀ r, f_Mod_goTogether S a1 a2 = some r → zMet l y_Mod_goTogether (zw y_Mod_goTogether prog_13_method_16_code 7 (some Jvm.ClassFile.FieldType.boolean)) 2 48 [.ref (B 0), .int a1, .int a2] D zcl (ztys cA) A (mRep D cA B A) (fun _ => 0) (fun _ => 0) S (zFi r) := by
  intro r hr
  refine zMet_of ⟨Nat.le_refl _, Nat.le_refl _⟩ (by decide) tk_Mod_goTogether (Nat.le_of_ble_eq_true rfl) ?_
  intro p e R s m args below meth c hf hlo C0 hK hA
  have lp13 : ∀ (n : Nat) (S : zM) (x3 : Int32), mSO p l e R s m args below meth c 7 A D cA B S 13 [(0, .ref (B 0)), (3, .int x3)] [] zFi (f_Mod_goTogether_L13 n S x3) := by
    intro n
    induction n with
    | zero =>
      intro S x3
      rw [f_Mod_goTogether_L13]
      exact so_none
    | succ n ih13 =>
      intro S x3
      rw [f_Mod_goTogether_L13]
      refine so_go C0 1 (pc' := 14) (lv' := [(0, .ref (B 0)), (3, .int x3)]) (st' := [.ref (B 0)]) rfl ?_
      refine so_mget C0 hK (j := 42) (v := .int (S.2.2 11)) (by decide) wd_5_61 rfl rfl ?_
      refine so_if_le C0 rfl (fun h3 => ?_) (fun h3 => ?_)
      · refine so_go C0 1 (pc' := 232) (lv' := [(0, .ref (B 0)), (3, .int x3)]) (st' := [.int x3]) rfl ?_
        exact so_retb C0 rfl rfl
      · refine so_go C0 1 (pc' := 21) (lv' := [(0, .ref (B 0)), (3, .int x3)]) (st' := [.int x3]) rfl ?_
        refine so_if_eq C0 rfl (fun h4 => ?_) (fun h4 => ?_)
        · refine so_go C0 1 (pc' := 232) (lv' := [(0, .ref (B 0)), (3, .int x3)]) (st' := [.int x3]) rfl ?_
          exact so_retb C0 rfl rfl
        · refine so_go C0 2 (pc' := 26) (lv' := [(0, .ref (B 0)), (3, .int x3)]) (st' := [.ref (B 0), .ref (B 0)]) rfl ?_
          refine so_mget C0 hK (j := 42) (v := .int (S.2.2 11)) (by decide) wd_5_61 rfl rfl ?_
          refine so_go C0 2 (pc' := 31) (lv' := [(0, .ref (B 0)), (3, .int x3)]) (st' := [.int ((S.2.2 11) - 1), .ref (B 0)]) rfl ?_
          refine so_mput C0 hK (j := 42) (q := 11) (ty := .int) (by decide) (Nat.le_of_ble_eq_true rfl) rfl (by decide +kernel) rfl rfl wd_5_61 rfl rfl ?_
          refine so_st (fun S5 hS5 => ?_)
          refine so_go C0 1 (pc' := 35) (lv' := [(0, .ref (B 0)), (3, .int x3)]) (st' := [.ref (B 0)]) rfl ?_
          refine so_mget C0 hK (j := 43) (v := .ref (B 32)) (by decide) wd_5_62 rfl rfl ?_
          refine so_go C0 1 (pc' := 39) (lv' := [(0, .ref (B 0)), (3, .int x3)]) (st' := [.ref (B 0), .ref (B 32)]) rfl ?_
          refine so_mget C0 hK (j := 42) (v := .int (S5.2.2 11)) (by decide) wd_5_61 rfl rfl ?_
          refine so_miald C0 hK (a := 31) (by decide) rfl rfl (by decide) rfl (fun v6 hv6 => ?_)
          refine so_go C0 2 (pc' := 46) (lv' := [(0, .ref (B 0)), (3, .int x3), (4, .int v6)]) (st' := [.ref (B 0)]) rfl ?_
          refine so_mget C0 hK (j := 44) (v := .ref (B 33)) (by decide) wd_5_63 rfl rfl ?_
          refine so_go C0 1 (pc' := 50) (lv' := [(0, .ref (B 0)), (3, .int x3), (4, .int v6)]) (st' := [.ref (B 0), .ref (B 33)]) rfl ?_
          refine so_mget C0 hK (j := 42) (v := .int (S5.2.2 11)) (by decide) wd_5_61 rfl rfl ?_
          refine so_miald C0 hK (a := 32) (by decide) rfl rfl (by decide) rfl (fun v7 hv7 => ?_)
          refine so_go C0 2 (pc' := 57) (lv' := [(0, .ref (B 0)), (3, .int x3), (4, .int v6), (5, .int v7)]) (st' := [.ref (B 0)]) rfl ?_
          refine so_mget C0 hK (j := 4) (v := .ref (B 3)) (by decide) wd_5_23 rfl rfl ?_
          refine so_go C0 1 (pc' := 62) (lv' := [(0, .ref (B 0)), (3, .int x3), (4, .int v6), (5, .int v7)]) (st' := [.int v6, .ref (B 3)]) rfl ?_
          refine so_mbald C0 hK (a := 2) (by decide) rfl rfl (by decide) rfl (fun v8 hv8 => ?_)
          refine so_if_eq C0 rfl (fun h9 => ?_) (fun h9 => ?_)
          · refine so_go C0 1 (pc' := 13) (lv' := [(0, .ref (B 0)), (3, .int x3), (4, .int v6), (5, .int v7)]) (st' := []) rfl ?_
            exact so_sub (lv' := [(0, .ref (B 0)), (3, .int x3)]) (zpk [0, 1] rfl) (ih13 S5 x3)
          · refine so_go C0 1 (pc' := 67) (lv' := [(0, .ref (B 0)), (3, .int x3), (4, .int v6), (5, .int v7)]) (st' := [.ref (B 0)]) rfl ?_
            refine so_mget C0 hK (j := 4) (v := .ref (B 3)) (by decide) wd_5_23 rfl rfl ?_
            refine so_go C0 1 (pc' := 72) (lv' := [(0, .ref (B 0)), (3, .int x3), (4, .int v6), (5, .int v7)]) (st' := [.int v7, .ref (B 3)]) rfl ?_
            refine so_mbald C0 hK (a := 2) (by decide) rfl rfl (by decide) rfl (fun v10 hv10 => ?_)
            refine so_if_eq C0 rfl (fun h11 => ?_) (fun h11 => ?_)
            · refine so_go C0 1 (pc' := 13) (lv' := [(0, .ref (B 0)), (3, .int x3), (4, .int v6), (5, .int v7)]) (st' := []) rfl ?_
              exact so_sub (lv' := [(0, .ref (B 0)), (3, .int x3)]) (zpk [0, 1] rfl) (ih13 S5 x3)
            · refine so_go C0 3 (pc' := 81) (lv' := [(0, .ref (B 0)), (3, .int x3), (4, .int v6), (5, .int v7)]) (st' := [.int v7, .int v6, .ref (B 0)]) rfl ?_
              refine so_op (As := [.int v6, .int v7]) (rest := []) C0 hK hA yk_Mod_areOneSort (c_Mod_areOneSort S5 v6 v7) wd_5_214 rfl rfl ⟨by rw [hf]; decide, by rw [hlo]; decide⟩ (Nat.le_of_ble_eq_true rfl) (mrc hK) (fun v12 hv12 => ?_)
              refine so_go C0 2 (pc' := 86) (lv' := [(0, .ref (B 0)), (3, .int v12), (4, .int v6), (5, .int v7)]) (st' := [.int v12]) rfl ?_
              refine so_if_eq C0 rfl (fun h13 => ?_) (fun h13 => ?_)
              · refine so_go C0 3 (pc' := 131) (lv' := [(0, .ref (B 0)), (3, .int v12), (4, .int v6), (5, .int v7), (6, .int 0)]) (st' := [.int 0]) rfl ?_
                refine so_if_eqT C0 rfl (by decide) ?_
                refine so_go C0 1 (pc' := 206) (lv' := [(0, .ref (B 0)), (3, .int v12), (4, .int v6), (5, .int v7), (6, .int 0)]) (st' := [.int v12]) rfl ?_
                refine so_if_eq C0 rfl (fun h14 => ?_) (fun h14 => ?_)
                · refine so_go C0 1 (pc' := 13) (lv' := [(0, .ref (B 0)), (3, .int v12), (4, .int v6), (5, .int v7), (6, .int 0)]) (st' := []) rfl ?_
                  exact so_sub (lv' := [(0, .ref (B 0)), (3, .int v12)]) (zpk [0, 1] rfl) (ih13 S5 v12)
                · refine so_go C0 1 (pc' := 210) (lv' := [(0, .ref (B 0)), (3, .int v12), (4, .int v6), (5, .int v7), (6, .int 0)]) (st' := [.ref (B 0)]) rfl ?_
                  refine so_mget C0 hK (j := 4) (v := .ref (B 3)) (by decide) wd_5_23 rfl rfl ?_
                  refine so_go C0 1 (pc' := 215) (lv' := [(0, .ref (B 0)), (3, .int v12), (4, .int v6), (5, .int v7), (6, .int 0)]) (st' := [.int v6, .ref (B 3)]) rfl ?_
                  refine so_mbald C0 hK (a := 2) (by decide) rfl rfl (by decide) rfl (fun v15 hv15 => ?_)
                  refine so_go C0 1 (pc' := 217) (lv' := [(0, .ref (B 0)), (3, .int v12), (4, .int v6), (5, .int v7), (6, .int 0)]) (st' := [.int 4, .int v15]) rfl ?_
                  refine so_icmp_ne C0 rfl (fun h16 => ?_) (fun h16 => ?_)
                  · refine so_go C0 1 (pc' := 13) (lv' := [(0, .ref (B 0)), (3, .int v12), (4, .int v6), (5, .int v7), (6, .int 0)]) (st' := []) rfl ?_
                    exact so_sub (lv' := [(0, .ref (B 0)), (3, .int v12)]) (zpk [0, 1] rfl) (ih13 S5 v12)
                  · refine so_go C0 3 (pc' := 225) (lv' := [(0, .ref (B 0)), (3, .int v12), (4, .int v6), (5, .int v7), (6, .int 0)]) (st' := [.int v7, .int v6, .ref (B 0)]) rfl ?_
                    refine so_oV (As := [.int v6, .int v7]) (rest := []) C0 hK hA yk_Mod_pairFields (c_Mod_pairFields S5 v6 v7) wd_5_218 rfl rfl ⟨by rw [hf]; decide, by rw [hlo]; decide⟩ (Nat.le_of_ble_eq_true rfl) (mrc hK) (fun S17 hS17 => ?_)
                    refine so_go C0 1 (pc' := 13) (lv' := [(0, .ref (B 0)), (3, .int v12), (4, .int v6), (5, .int v7), (6, .int 0)]) (st' := []) rfl ?_
                    exact so_sub (lv' := [(0, .ref (B 0)), (3, .int v12)]) (zpk [0, 1] rfl) (ih13 S17 v12)
              · refine so_go C0 1 (pc' := 90) (lv' := [(0, .ref (B 0)), (3, .int v12), (4, .int v6), (5, .int v7)]) (st' := [.ref (B 0)]) rfl ?_
                refine so_mget C0 hK (j := 4) (v := .ref (B 3)) (by decide) wd_5_23 rfl rfl ?_
                refine so_go C0 1 (pc' := 95) (lv' := [(0, .ref (B 0)), (3, .int v12), (4, .int v6), (5, .int v7)]) (st' := [.int v6, .ref (B 3)]) rfl ?_
                refine so_mbald C0 hK (a := 2) (by decide) rfl rfl (by decide) rfl (fun v18 hv18 => ?_)
                refine so_go C0 1 (pc' := 97) (lv' := [(0, .ref (B 0)), (3, .int v12), (4, .int v6), (5, .int v7)]) (st' := [.int 2, .int v18]) rfl ?_
                refine so_icmp_eq C0 rfl (fun h19 => ?_) (fun h19 => ?_)
                · refine so_go C0 3 (pc' := 116) (lv' := [(0, .ref (B 0)), (3, .int v12), (4, .int v6), (5, .int v7)]) (st' := [.int v7, .int v6, .ref (B 0)]) rfl ?_
                  refine so_op (As := [.int v6, .int v7]) (rest := []) C0 hK hA yk_Mod_areOne (c_Mod_areOne S5 v6 v7) wd_5_226 rfl rfl ⟨by rw [hf]; decide, by rw [hlo]; decide⟩ (Nat.le_of_ble_eq_true rfl) (mrc hK) (fun v20 hv20 => ?_)
                  refine so_if_eq C0 rfl (fun h21 => ?_) (fun h21 => ?_)
                  · refine so_go C0 3 (pc' := 131) (lv' := [(0, .ref (B 0)), (3, .int v12), (4, .int v6), (5, .int v7), (6, .int 0)]) (st' := [.int 0]) rfl ?_
                    refine so_if_eqT C0 rfl (by decide) ?_
                    refine so_go C0 1 (pc' := 206) (lv' := [(0, .ref (B 0)), (3, .int v12), (4, .int v6), (5, .int v7), (6, .int 0)]) (st' := [.int v12]) rfl ?_
                    refine so_if_eq C0 rfl (fun h22 => ?_) (fun h22 => ?_)
                    · refine so_go C0 1 (pc' := 13) (lv' := [(0, .ref (B 0)), (3, .int v12), (4, .int v6), (5, .int v7), (6, .int 0)]) (st' := []) rfl ?_
                      exact so_sub (lv' := [(0, .ref (B 0)), (3, .int v12)]) (zpk [0, 1] rfl) (ih13 S5 v12)
                    · refine so_go C0 1 (pc' := 210) (lv' := [(0, .ref (B 0)), (3, .int v12), (4, .int v6), (5, .int v7), (6, .int 0)]) (st' := [.ref (B 0)]) rfl ?_
                      refine so_mget C0 hK (j := 4) (v := .ref (B 3)) (by decide) wd_5_23 rfl rfl ?_
                      refine so_go C0 1 (pc' := 215) (lv' := [(0, .ref (B 0)), (3, .int v12), (4, .int v6), (5, .int v7), (6, .int 0)]) (st' := [.int v6, .ref (B 3)]) rfl ?_
                      refine so_mbald C0 hK (a := 2) (by decide) rfl rfl (by decide) rfl (fun v23 hv23 => ?_)
                      refine so_go C0 1 (pc' := 217) (lv' := [(0, .ref (B 0)), (3, .int v12), (4, .int v6), (5, .int v7), (6, .int 0)]) (st' := [.int 4, .int v23]) rfl ?_
                      refine so_icmp_ne C0 rfl (fun h24 => ?_) (fun h24 => ?_)
                      · refine so_go C0 1 (pc' := 13) (lv' := [(0, .ref (B 0)), (3, .int v12), (4, .int v6), (5, .int v7), (6, .int 0)]) (st' := []) rfl ?_
                        exact so_sub (lv' := [(0, .ref (B 0)), (3, .int v12)]) (zpk [0, 1] rfl) (ih13 S5 v12)
                      · refine so_go C0 3 (pc' := 225) (lv' := [(0, .ref (B 0)), (3, .int v12), (4, .int v6), (5, .int v7), (6, .int 0)]) (st' := [.int v7, .int v6, .ref (B 0)]) rfl ?_
                        refine so_oV (As := [.int v6, .int v7]) (rest := []) C0 hK hA yk_Mod_pairFields (c_Mod_pairFields S5 v6 v7) wd_5_218 rfl rfl ⟨by rw [hf]; decide, by rw [hlo]; decide⟩ (Nat.le_of_ble_eq_true rfl) (mrc hK) (fun S25 hS25 => ?_)
                        refine so_go C0 1 (pc' := 13) (lv' := [(0, .ref (B 0)), (3, .int v12), (4, .int v6), (5, .int v7), (6, .int 0)]) (st' := []) rfl ?_
                        exact so_sub (lv' := [(0, .ref (B 0)), (3, .int v12)]) (zpk [0, 1] rfl) (ih13 S25 v12)
                  · refine so_go C0 4 (pc' := 131) (lv' := [(0, .ref (B 0)), (3, .int v12), (4, .int v6), (5, .int v7), (6, .int 1)]) (st' := [.int 1]) rfl ?_
                    refine so_if_eqF C0 rfl (by decide) ?_
                    refine so_go C0 1 (pc' := 135) (lv' := [(0, .ref (B 0)), (3, .int v12), (4, .int v6), (5, .int v7), (6, .int 1)]) (st' := [.ref (B 0)]) rfl ?_
                    refine so_mget C0 hK (j := 7) (v := .ref (B 6)) (by decide) wd_5_26 rfl rfl ?_
                    refine so_go C0 1 (pc' := 140) (lv' := [(0, .ref (B 0)), (3, .int v12), (4, .int v6), (5, .int v7), (6, .int 1)]) (st' := [.int v6, .ref (B 6)]) rfl ?_
                    refine so_miald C0 hK (a := 5) (by decide) rfl rfl (by decide) rfl (fun v26 hv26 => ?_)
                    refine so_if_ge C0 rfl (fun h27 => ?_) (fun h27 => ?_)
                    · refine so_go C0 2 (pc' := 150) (lv' := [(0, .ref (B 0)), (3, .int v12), (4, .int v6), (5, .int v7), (6, .int 1)]) (st' := [.ref (B 0), .int 0]) rfl ?_
                      refine so_mget C0 hK (j := 7) (v := .ref (B 6)) (by decide) wd_5_26 rfl rfl ?_
                      refine so_go C0 1 (pc' := 155) (lv' := [(0, .ref (B 0)), (3, .int v12), (4, .int v6), (5, .int v7), (6, .int 1)]) (st' := [.int v7, .ref (B 6), .int 0]) rfl ?_
                      refine so_miald C0 hK (a := 5) (by decide) rfl rfl (by decide) rfl (fun v28 hv28 => ?_)
                      refine so_if_ge C0 rfl (fun h29 => ?_) (fun h29 => ?_)
                      · refine so_go C0 1 (pc' := 164) (lv' := [(0, .ref (B 0)), (3, .int v12), (4, .int v6), (5, .int v7), (6, .int 1)]) (st' := [.int 0, .int 0]) rfl ?_
                        refine so_icmp_neF C0 rfl (by decide) ?_
                        refine so_go C0 4 (pc' := 174) (lv' := [(0, .ref (B 0)), (3, .int 1), (4, .int v6), (5, .int v7), (6, .int 1)]) (st' := [.int 1]) rfl ?_
                        refine so_if_eqF C0 rfl (by decide) ?_
                        refine so_go C0 1 (pc' := 178) (lv' := [(0, .ref (B 0)), (3, .int 1), (4, .int v6), (5, .int v7), (6, .int 1)]) (st' := [.ref (B 0)]) rfl ?_
                        refine so_mget C0 hK (j := 7) (v := .ref (B 6)) (by decide) wd_5_26 rfl rfl ?_
                        refine so_go C0 1 (pc' := 183) (lv' := [(0, .ref (B 0)), (3, .int 1), (4, .int v6), (5, .int v7), (6, .int 1)]) (st' := [.int v6, .ref (B 6)]) rfl ?_
                        refine so_miald C0 hK (a := 5) (by decide) rfl rfl (by decide) rfl (fun v30 hv30 => ?_)
                        refine so_if_lt C0 rfl (fun h31 => ?_) (fun h31 => ?_)
                        · refine so_go C0 1 (pc' := 206) (lv' := [(0, .ref (B 0)), (3, .int 1), (4, .int v6), (5, .int v7), (6, .int 1)]) (st' := [.int 1]) rfl ?_
                          refine so_if_eqF C0 rfl (by decide) ?_
                          refine so_go C0 1 (pc' := 210) (lv' := [(0, .ref (B 0)), (3, .int 1), (4, .int v6), (5, .int v7), (6, .int 1)]) (st' := [.ref (B 0)]) rfl ?_
                          refine so_mget C0 hK (j := 4) (v := .ref (B 3)) (by decide) wd_5_23 rfl rfl ?_
                          refine so_go C0 1 (pc' := 215) (lv' := [(0, .ref (B 0)), (3, .int 1), (4, .int v6), (5, .int v7), (6, .int 1)]) (st' := [.int v6, .ref (B 3)]) rfl ?_
                          refine so_mbald C0 hK (a := 2) (by decide) rfl rfl (by decide) rfl (fun v32 hv32 => ?_)
                          refine so_go C0 1 (pc' := 217) (lv' := [(0, .ref (B 0)), (3, .int 1), (4, .int v6), (5, .int v7), (6, .int 1)]) (st' := [.int 4, .int v32]) rfl ?_
                          refine so_icmp_ne C0 rfl (fun h33 => ?_) (fun h33 => ?_)
                          · refine so_go C0 1 (pc' := 13) (lv' := [(0, .ref (B 0)), (3, .int 1), (4, .int v6), (5, .int v7), (6, .int 1)]) (st' := []) rfl ?_
                            exact so_sub (lv' := [(0, .ref (B 0)), (3, .int 1)]) (zpk [0, 1] rfl) (ih13 S5 1)
                          · refine so_go C0 3 (pc' := 225) (lv' := [(0, .ref (B 0)), (3, .int 1), (4, .int v6), (5, .int v7), (6, .int 1)]) (st' := [.int v7, .int v6, .ref (B 0)]) rfl ?_
                            refine so_oV (As := [.int v6, .int v7]) (rest := []) C0 hK hA yk_Mod_pairFields (c_Mod_pairFields S5 v6 v7) wd_5_218 rfl rfl ⟨by rw [hf]; decide, by rw [hlo]; decide⟩ (Nat.le_of_ble_eq_true rfl) (mrc hK) (fun S34 hS34 => ?_)
                            refine so_go C0 1 (pc' := 13) (lv' := [(0, .ref (B 0)), (3, .int 1), (4, .int v6), (5, .int v7), (6, .int 1)]) (st' := []) rfl ?_
                            exact so_sub (lv' := [(0, .ref (B 0)), (3, .int 1)]) (zpk [0, 1] rfl) (ih13 S34 1)
                        · refine so_go C0 2 (pc' := 189) (lv' := [(0, .ref (B 0)), (3, .int 1), (4, .int v6), (5, .int v7), (6, .int 1)]) (st' := [.ref (B 0), .ref (B 0)]) rfl ?_
                          refine so_mget C0 hK (j := 7) (v := .ref (B 6)) (by decide) wd_5_26 rfl rfl ?_
                          refine so_go C0 1 (pc' := 194) (lv' := [(0, .ref (B 0)), (3, .int 1), (4, .int v6), (5, .int v7), (6, .int 1)]) (st' := [.int v6, .ref (B 6), .ref (B 0)]) rfl ?_
                          refine so_miald C0 hK (a := 5) (by decide) rfl rfl (by decide) rfl (fun v35 hv35 => ?_)
                          refine so_go C0 1 (pc' := 196) (lv' := [(0, .ref (B 0)), (3, .int 1), (4, .int v6), (5, .int v7), (6, .int 1)]) (st' := [.ref (B 0), .int v35, .ref (B 0)]) rfl ?_
                          refine so_mget C0 hK (j := 7) (v := .ref (B 6)) (by decide) wd_5_26 rfl rfl ?_
                          refine so_go C0 1 (pc' := 201) (lv' := [(0, .ref (B 0)), (3, .int 1), (4, .int v6), (5, .int v7), (6, .int 1)]) (st' := [.int v7, .ref (B 6), .int v35, .ref (B 0)]) rfl ?_
                          refine so_miald C0 hK (a := 5) (by decide) rfl rfl (by decide) rfl (fun v36 hv36 => ?_)
                          refine so_oV (As := [.int v35, .int v36]) (rest := []) C0 hK hA yk_Mod_pair (c_Mod_pair S5 v35 v36) wd_5_210 rfl rfl ⟨by rw [hf]; decide, by rw [hlo]; decide⟩ (Nat.le_of_ble_eq_true rfl) (mrc hK) (fun S37 hS37 => ?_)
                          refine so_go C0 1 (pc' := 206) (lv' := [(0, .ref (B 0)), (3, .int 1), (4, .int v6), (5, .int v7), (6, .int 1)]) (st' := [.int 1]) rfl ?_
                          refine so_if_eqF C0 rfl (by decide) ?_
                          refine so_go C0 1 (pc' := 210) (lv' := [(0, .ref (B 0)), (3, .int 1), (4, .int v6), (5, .int v7), (6, .int 1)]) (st' := [.ref (B 0)]) rfl ?_
                          refine so_mget C0 hK (j := 4) (v := .ref (B 3)) (by decide) wd_5_23 rfl rfl ?_
                          refine so_go C0 1 (pc' := 215) (lv' := [(0, .ref (B 0)), (3, .int 1), (4, .int v6), (5, .int v7), (6, .int 1)]) (st' := [.int v6, .ref (B 3)]) rfl ?_
                          refine so_mbald C0 hK (a := 2) (by decide) rfl rfl (by decide) rfl (fun v38 hv38 => ?_)
                          refine so_go C0 1 (pc' := 217) (lv' := [(0, .ref (B 0)), (3, .int 1), (4, .int v6), (5, .int v7), (6, .int 1)]) (st' := [.int 4, .int v38]) rfl ?_
                          refine so_icmp_ne C0 rfl (fun h39 => ?_) (fun h39 => ?_)
                          · refine so_go C0 1 (pc' := 13) (lv' := [(0, .ref (B 0)), (3, .int 1), (4, .int v6), (5, .int v7), (6, .int 1)]) (st' := []) rfl ?_
                            exact so_sub (lv' := [(0, .ref (B 0)), (3, .int 1)]) (zpk [0, 1] rfl) (ih13 S37 1)
                          · refine so_go C0 3 (pc' := 225) (lv' := [(0, .ref (B 0)), (3, .int 1), (4, .int v6), (5, .int v7), (6, .int 1)]) (st' := [.int v7, .int v6, .ref (B 0)]) rfl ?_
                            refine so_oV (As := [.int v6, .int v7]) (rest := []) C0 hK hA yk_Mod_pairFields (c_Mod_pairFields S37 v6 v7) wd_5_218 rfl rfl ⟨by rw [hf]; decide, by rw [hlo]; decide⟩ (Nat.le_of_ble_eq_true rfl) (mrc hK) (fun S40 hS40 => ?_)
                            refine so_go C0 1 (pc' := 13) (lv' := [(0, .ref (B 0)), (3, .int 1), (4, .int v6), (5, .int v7), (6, .int 1)]) (st' := []) rfl ?_
                            exact so_sub (lv' := [(0, .ref (B 0)), (3, .int 1)]) (zpk [0, 1] rfl) (ih13 S40 1)
                      · refine so_go C0 2 (pc' := 164) (lv' := [(0, .ref (B 0)), (3, .int v12), (4, .int v6), (5, .int v7), (6, .int 1)]) (st' := [.int 1, .int 0]) rfl ?_
                        refine so_icmp_neT C0 rfl (by decide) ?_
                        refine so_go C0 3 (pc' := 174) (lv' := [(0, .ref (B 0)), (3, .int 0), (4, .int v6), (5, .int v7), (6, .int 1)]) (st' := [.int 0]) rfl ?_
                        refine so_if_eqT C0 rfl (by decide) ?_
                        refine so_go C0 1 (pc' := 206) (lv' := [(0, .ref (B 0)), (3, .int 0), (4, .int v6), (5, .int v7), (6, .int 1)]) (st' := [.int 0]) rfl ?_
                        refine so_if_eqT C0 rfl (by decide) ?_
                        refine so_go C0 1 (pc' := 13) (lv' := [(0, .ref (B 0)), (3, .int 0), (4, .int v6), (5, .int v7), (6, .int 1)]) (st' := []) rfl ?_
                        exact so_sub (lv' := [(0, .ref (B 0)), (3, .int 0)]) (zpk [0, 1] rfl) (ih13 S5 0)
                    · refine so_go C0 3 (pc' := 150) (lv' := [(0, .ref (B 0)), (3, .int v12), (4, .int v6), (5, .int v7), (6, .int 1)]) (st' := [.ref (B 0), .int 1]) rfl ?_
                      refine so_mget C0 hK (j := 7) (v := .ref (B 6)) (by decide) wd_5_26 rfl rfl ?_
                      refine so_go C0 1 (pc' := 155) (lv' := [(0, .ref (B 0)), (3, .int v12), (4, .int v6), (5, .int v7), (6, .int 1)]) (st' := [.int v7, .ref (B 6), .int 1]) rfl ?_
                      refine so_miald C0 hK (a := 5) (by decide) rfl rfl (by decide) rfl (fun v41 hv41 => ?_)
                      refine so_if_ge C0 rfl (fun h42 => ?_) (fun h42 => ?_)
                      · refine so_go C0 1 (pc' := 164) (lv' := [(0, .ref (B 0)), (3, .int v12), (4, .int v6), (5, .int v7), (6, .int 1)]) (st' := [.int 0, .int 1]) rfl ?_
                        refine so_icmp_neT C0 rfl (by decide) ?_
                        refine so_go C0 3 (pc' := 174) (lv' := [(0, .ref (B 0)), (3, .int 0), (4, .int v6), (5, .int v7), (6, .int 1)]) (st' := [.int 0]) rfl ?_
                        refine so_if_eqT C0 rfl (by decide) ?_
                        refine so_go C0 1 (pc' := 206) (lv' := [(0, .ref (B 0)), (3, .int 0), (4, .int v6), (5, .int v7), (6, .int 1)]) (st' := [.int 0]) rfl ?_
                        refine so_if_eqT C0 rfl (by decide) ?_
                        refine so_go C0 1 (pc' := 13) (lv' := [(0, .ref (B 0)), (3, .int 0), (4, .int v6), (5, .int v7), (6, .int 1)]) (st' := []) rfl ?_
                        exact so_sub (lv' := [(0, .ref (B 0)), (3, .int 0)]) (zpk [0, 1] rfl) (ih13 S5 0)
                      · refine so_go C0 2 (pc' := 164) (lv' := [(0, .ref (B 0)), (3, .int v12), (4, .int v6), (5, .int v7), (6, .int 1)]) (st' := [.int 1, .int 1]) rfl ?_
                        refine so_icmp_neF C0 rfl (by decide) ?_
                        refine so_go C0 4 (pc' := 174) (lv' := [(0, .ref (B 0)), (3, .int 1), (4, .int v6), (5, .int v7), (6, .int 1)]) (st' := [.int 1]) rfl ?_
                        refine so_if_eqF C0 rfl (by decide) ?_
                        refine so_go C0 1 (pc' := 178) (lv' := [(0, .ref (B 0)), (3, .int 1), (4, .int v6), (5, .int v7), (6, .int 1)]) (st' := [.ref (B 0)]) rfl ?_
                        refine so_mget C0 hK (j := 7) (v := .ref (B 6)) (by decide) wd_5_26 rfl rfl ?_
                        refine so_go C0 1 (pc' := 183) (lv' := [(0, .ref (B 0)), (3, .int 1), (4, .int v6), (5, .int v7), (6, .int 1)]) (st' := [.int v6, .ref (B 6)]) rfl ?_
                        refine so_miald C0 hK (a := 5) (by decide) rfl rfl (by decide) rfl (fun v43 hv43 => ?_)
                        refine so_if_lt C0 rfl (fun h44 => ?_) (fun h44 => ?_)
                        · refine so_go C0 1 (pc' := 206) (lv' := [(0, .ref (B 0)), (3, .int 1), (4, .int v6), (5, .int v7), (6, .int 1)]) (st' := [.int 1]) rfl ?_
                          refine so_if_eqF C0 rfl (by decide) ?_
                          refine so_go C0 1 (pc' := 210) (lv' := [(0, .ref (B 0)), (3, .int 1), (4, .int v6), (5, .int v7), (6, .int 1)]) (st' := [.ref (B 0)]) rfl ?_
                          refine so_mget C0 hK (j := 4) (v := .ref (B 3)) (by decide) wd_5_23 rfl rfl ?_
                          refine so_go C0 1 (pc' := 215) (lv' := [(0, .ref (B 0)), (3, .int 1), (4, .int v6), (5, .int v7), (6, .int 1)]) (st' := [.int v6, .ref (B 3)]) rfl ?_
                          refine so_mbald C0 hK (a := 2) (by decide) rfl rfl (by decide) rfl (fun v45 hv45 => ?_)
                          refine so_go C0 1 (pc' := 217) (lv' := [(0, .ref (B 0)), (3, .int 1), (4, .int v6), (5, .int v7), (6, .int 1)]) (st' := [.int 4, .int v45]) rfl ?_
                          refine so_icmp_ne C0 rfl (fun h46 => ?_) (fun h46 => ?_)
                          · refine so_go C0 1 (pc' := 13) (lv' := [(0, .ref (B 0)), (3, .int 1), (4, .int v6), (5, .int v7), (6, .int 1)]) (st' := []) rfl ?_
                            exact so_sub (lv' := [(0, .ref (B 0)), (3, .int 1)]) (zpk [0, 1] rfl) (ih13 S5 1)
                          · refine so_go C0 3 (pc' := 225) (lv' := [(0, .ref (B 0)), (3, .int 1), (4, .int v6), (5, .int v7), (6, .int 1)]) (st' := [.int v7, .int v6, .ref (B 0)]) rfl ?_
                            refine so_oV (As := [.int v6, .int v7]) (rest := []) C0 hK hA yk_Mod_pairFields (c_Mod_pairFields S5 v6 v7) wd_5_218 rfl rfl ⟨by rw [hf]; decide, by rw [hlo]; decide⟩ (Nat.le_of_ble_eq_true rfl) (mrc hK) (fun S47 hS47 => ?_)
                            refine so_go C0 1 (pc' := 13) (lv' := [(0, .ref (B 0)), (3, .int 1), (4, .int v6), (5, .int v7), (6, .int 1)]) (st' := []) rfl ?_
                            exact so_sub (lv' := [(0, .ref (B 0)), (3, .int 1)]) (zpk [0, 1] rfl) (ih13 S47 1)
                        · refine so_go C0 2 (pc' := 189) (lv' := [(0, .ref (B 0)), (3, .int 1), (4, .int v6), (5, .int v7), (6, .int 1)]) (st' := [.ref (B 0), .ref (B 0)]) rfl ?_
                          refine so_mget C0 hK (j := 7) (v := .ref (B 6)) (by decide) wd_5_26 rfl rfl ?_
                          refine so_go C0 1 (pc' := 194) (lv' := [(0, .ref (B 0)), (3, .int 1), (4, .int v6), (5, .int v7), (6, .int 1)]) (st' := [.int v6, .ref (B 6), .ref (B 0)]) rfl ?_
                          refine so_miald C0 hK (a := 5) (by decide) rfl rfl (by decide) rfl (fun v48 hv48 => ?_)
                          refine so_go C0 1 (pc' := 196) (lv' := [(0, .ref (B 0)), (3, .int 1), (4, .int v6), (5, .int v7), (6, .int 1)]) (st' := [.ref (B 0), .int v48, .ref (B 0)]) rfl ?_
                          refine so_mget C0 hK (j := 7) (v := .ref (B 6)) (by decide) wd_5_26 rfl rfl ?_
                          refine so_go C0 1 (pc' := 201) (lv' := [(0, .ref (B 0)), (3, .int 1), (4, .int v6), (5, .int v7), (6, .int 1)]) (st' := [.int v7, .ref (B 6), .int v48, .ref (B 0)]) rfl ?_
                          refine so_miald C0 hK (a := 5) (by decide) rfl rfl (by decide) rfl (fun v49 hv49 => ?_)
                          refine so_oV (As := [.int v48, .int v49]) (rest := []) C0 hK hA yk_Mod_pair (c_Mod_pair S5 v48 v49) wd_5_210 rfl rfl ⟨by rw [hf]; decide, by rw [hlo]; decide⟩ (Nat.le_of_ble_eq_true rfl) (mrc hK) (fun S50 hS50 => ?_)
                          refine so_go C0 1 (pc' := 206) (lv' := [(0, .ref (B 0)), (3, .int 1), (4, .int v6), (5, .int v7), (6, .int 1)]) (st' := [.int 1]) rfl ?_
                          refine so_if_eqF C0 rfl (by decide) ?_
                          refine so_go C0 1 (pc' := 210) (lv' := [(0, .ref (B 0)), (3, .int 1), (4, .int v6), (5, .int v7), (6, .int 1)]) (st' := [.ref (B 0)]) rfl ?_
                          refine so_mget C0 hK (j := 4) (v := .ref (B 3)) (by decide) wd_5_23 rfl rfl ?_
                          refine so_go C0 1 (pc' := 215) (lv' := [(0, .ref (B 0)), (3, .int 1), (4, .int v6), (5, .int v7), (6, .int 1)]) (st' := [.int v6, .ref (B 3)]) rfl ?_
                          refine so_mbald C0 hK (a := 2) (by decide) rfl rfl (by decide) rfl (fun v51 hv51 => ?_)
                          refine so_go C0 1 (pc' := 217) (lv' := [(0, .ref (B 0)), (3, .int 1), (4, .int v6), (5, .int v7), (6, .int 1)]) (st' := [.int 4, .int v51]) rfl ?_
                          refine so_icmp_ne C0 rfl (fun h52 => ?_) (fun h52 => ?_)
                          · refine so_go C0 1 (pc' := 13) (lv' := [(0, .ref (B 0)), (3, .int 1), (4, .int v6), (5, .int v7), (6, .int 1)]) (st' := []) rfl ?_
                            exact so_sub (lv' := [(0, .ref (B 0)), (3, .int 1)]) (zpk [0, 1] rfl) (ih13 S50 1)
                          · refine so_go C0 3 (pc' := 225) (lv' := [(0, .ref (B 0)), (3, .int 1), (4, .int v6), (5, .int v7), (6, .int 1)]) (st' := [.int v7, .int v6, .ref (B 0)]) rfl ?_
                            refine so_oV (As := [.int v6, .int v7]) (rest := []) C0 hK hA yk_Mod_pairFields (c_Mod_pairFields S50 v6 v7) wd_5_218 rfl rfl ⟨by rw [hf]; decide, by rw [hlo]; decide⟩ (Nat.le_of_ble_eq_true rfl) (mrc hK) (fun S53 hS53 => ?_)
                            refine so_go C0 1 (pc' := 13) (lv' := [(0, .ref (B 0)), (3, .int 1), (4, .int v6), (5, .int v7), (6, .int 1)]) (st' := []) rfl ?_
                            exact so_sub (lv' := [(0, .ref (B 0)), (3, .int 1)]) (zpk [0, 1] rfl) (ih13 S53 1)
                · refine so_go C0 1 (pc' := 101) (lv' := [(0, .ref (B 0)), (3, .int v12), (4, .int v6), (5, .int v7)]) (st' := [.ref (B 0)]) rfl ?_
                  refine so_mget C0 hK (j := 4) (v := .ref (B 3)) (by decide) wd_5_23 rfl rfl ?_
                  refine so_go C0 1 (pc' := 106) (lv' := [(0, .ref (B 0)), (3, .int v12), (4, .int v6), (5, .int v7)]) (st' := [.int v6, .ref (B 3)]) rfl ?_
                  refine so_mbald C0 hK (a := 2) (by decide) rfl rfl (by decide) rfl (fun v54 hv54 => ?_)
                  refine so_go C0 1 (pc' := 108) (lv' := [(0, .ref (B 0)), (3, .int v12), (4, .int v6), (5, .int v7)]) (st' := [.int 3, .int v54]) rfl ?_
                  refine so_icmp_ne C0 rfl (fun h55 => ?_) (fun h55 => ?_)
                  · refine so_go C0 3 (pc' := 131) (lv' := [(0, .ref (B 0)), (3, .int v12), (4, .int v6), (5, .int v7), (6, .int 0)]) (st' := [.int 0]) rfl ?_
                    refine so_if_eqT C0 rfl (by decide) ?_
                    refine so_go C0 1 (pc' := 206) (lv' := [(0, .ref (B 0)), (3, .int v12), (4, .int v6), (5, .int v7), (6, .int 0)]) (st' := [.int v12]) rfl ?_
                    refine so_if_eq C0 rfl (fun h56 => ?_) (fun h56 => ?_)
                    · refine so_go C0 1 (pc' := 13) (lv' := [(0, .ref (B 0)), (3, .int v12), (4, .int v6), (5, .int v7), (6, .int 0)]) (st' := []) rfl ?_
                      exact so_sub (lv' := [(0, .ref (B 0)), (3, .int v12)]) (zpk [0, 1] rfl) (ih13 S5 v12)
                    · refine so_go C0 1 (pc' := 210) (lv' := [(0, .ref (B 0)), (3, .int v12), (4, .int v6), (5, .int v7), (6, .int 0)]) (st' := [.ref (B 0)]) rfl ?_
                      refine so_mget C0 hK (j := 4) (v := .ref (B 3)) (by decide) wd_5_23 rfl rfl ?_
                      refine so_go C0 1 (pc' := 215) (lv' := [(0, .ref (B 0)), (3, .int v12), (4, .int v6), (5, .int v7), (6, .int 0)]) (st' := [.int v6, .ref (B 3)]) rfl ?_
                      refine so_mbald C0 hK (a := 2) (by decide) rfl rfl (by decide) rfl (fun v57 hv57 => ?_)
                      refine so_go C0 1 (pc' := 217) (lv' := [(0, .ref (B 0)), (3, .int v12), (4, .int v6), (5, .int v7), (6, .int 0)]) (st' := [.int 4, .int v57]) rfl ?_
                      refine so_icmp_ne C0 rfl (fun h58 => ?_) (fun h58 => ?_)
                      · refine so_go C0 1 (pc' := 13) (lv' := [(0, .ref (B 0)), (3, .int v12), (4, .int v6), (5, .int v7), (6, .int 0)]) (st' := []) rfl ?_
                        exact so_sub (lv' := [(0, .ref (B 0)), (3, .int v12)]) (zpk [0, 1] rfl) (ih13 S5 v12)
                      · refine so_go C0 3 (pc' := 225) (lv' := [(0, .ref (B 0)), (3, .int v12), (4, .int v6), (5, .int v7), (6, .int 0)]) (st' := [.int v7, .int v6, .ref (B 0)]) rfl ?_
                        refine so_oV (As := [.int v6, .int v7]) (rest := []) C0 hK hA yk_Mod_pairFields (c_Mod_pairFields S5 v6 v7) wd_5_218 rfl rfl ⟨by rw [hf]; decide, by rw [hlo]; decide⟩ (Nat.le_of_ble_eq_true rfl) (mrc hK) (fun S59 hS59 => ?_)
                        refine so_go C0 1 (pc' := 13) (lv' := [(0, .ref (B 0)), (3, .int v12), (4, .int v6), (5, .int v7), (6, .int 0)]) (st' := []) rfl ?_
                        exact so_sub (lv' := [(0, .ref (B 0)), (3, .int v12)]) (zpk [0, 1] rfl) (ih13 S59 v12)
                  · refine so_go C0 3 (pc' := 116) (lv' := [(0, .ref (B 0)), (3, .int v12), (4, .int v6), (5, .int v7)]) (st' := [.int v7, .int v6, .ref (B 0)]) rfl ?_
                    refine so_op (As := [.int v6, .int v7]) (rest := []) C0 hK hA yk_Mod_areOne (c_Mod_areOne S5 v6 v7) wd_5_226 rfl rfl ⟨by rw [hf]; decide, by rw [hlo]; decide⟩ (Nat.le_of_ble_eq_true rfl) (mrc hK) (fun v60 hv60 => ?_)
                    refine so_if_eq C0 rfl (fun h61 => ?_) (fun h61 => ?_)
                    · refine so_go C0 3 (pc' := 131) (lv' := [(0, .ref (B 0)), (3, .int v12), (4, .int v6), (5, .int v7), (6, .int 0)]) (st' := [.int 0]) rfl ?_
                      refine so_if_eqT C0 rfl (by decide) ?_
                      refine so_go C0 1 (pc' := 206) (lv' := [(0, .ref (B 0)), (3, .int v12), (4, .int v6), (5, .int v7), (6, .int 0)]) (st' := [.int v12]) rfl ?_
                      refine so_if_eq C0 rfl (fun h62 => ?_) (fun h62 => ?_)
                      · refine so_go C0 1 (pc' := 13) (lv' := [(0, .ref (B 0)), (3, .int v12), (4, .int v6), (5, .int v7), (6, .int 0)]) (st' := []) rfl ?_
                        exact so_sub (lv' := [(0, .ref (B 0)), (3, .int v12)]) (zpk [0, 1] rfl) (ih13 S5 v12)
                      · refine so_go C0 1 (pc' := 210) (lv' := [(0, .ref (B 0)), (3, .int v12), (4, .int v6), (5, .int v7), (6, .int 0)]) (st' := [.ref (B 0)]) rfl ?_
                        refine so_mget C0 hK (j := 4) (v := .ref (B 3)) (by decide) wd_5_23 rfl rfl ?_
                        refine so_go C0 1 (pc' := 215) (lv' := [(0, .ref (B 0)), (3, .int v12), (4, .int v6), (5, .int v7), (6, .int 0)]) (st' := [.int v6, .ref (B 3)]) rfl ?_
                        refine so_mbald C0 hK (a := 2) (by decide) rfl rfl (by decide) rfl (fun v63 hv63 => ?_)
                        refine so_go C0 1 (pc' := 217) (lv' := [(0, .ref (B 0)), (3, .int v12), (4, .int v6), (5, .int v7), (6, .int 0)]) (st' := [.int 4, .int v63]) rfl ?_
                        refine so_icmp_ne C0 rfl (fun h64 => ?_) (fun h64 => ?_)
                        · refine so_go C0 1 (pc' := 13) (lv' := [(0, .ref (B 0)), (3, .int v12), (4, .int v6), (5, .int v7), (6, .int 0)]) (st' := []) rfl ?_
                          exact so_sub (lv' := [(0, .ref (B 0)), (3, .int v12)]) (zpk [0, 1] rfl) (ih13 S5 v12)
                        · refine so_go C0 3 (pc' := 225) (lv' := [(0, .ref (B 0)), (3, .int v12), (4, .int v6), (5, .int v7), (6, .int 0)]) (st' := [.int v7, .int v6, .ref (B 0)]) rfl ?_
                          refine so_oV (As := [.int v6, .int v7]) (rest := []) C0 hK hA yk_Mod_pairFields (c_Mod_pairFields S5 v6 v7) wd_5_218 rfl rfl ⟨by rw [hf]; decide, by rw [hlo]; decide⟩ (Nat.le_of_ble_eq_true rfl) (mrc hK) (fun S65 hS65 => ?_)
                          refine so_go C0 1 (pc' := 13) (lv' := [(0, .ref (B 0)), (3, .int v12), (4, .int v6), (5, .int v7), (6, .int 0)]) (st' := []) rfl ?_
                          exact so_sub (lv' := [(0, .ref (B 0)), (3, .int v12)]) (zpk [0, 1] rfl) (ih13 S65 v12)
                    · refine so_go C0 4 (pc' := 131) (lv' := [(0, .ref (B 0)), (3, .int v12), (4, .int v6), (5, .int v7), (6, .int 1)]) (st' := [.int 1]) rfl ?_
                      refine so_if_eqF C0 rfl (by decide) ?_
                      refine so_go C0 1 (pc' := 135) (lv' := [(0, .ref (B 0)), (3, .int v12), (4, .int v6), (5, .int v7), (6, .int 1)]) (st' := [.ref (B 0)]) rfl ?_
                      refine so_mget C0 hK (j := 7) (v := .ref (B 6)) (by decide) wd_5_26 rfl rfl ?_
                      refine so_go C0 1 (pc' := 140) (lv' := [(0, .ref (B 0)), (3, .int v12), (4, .int v6), (5, .int v7), (6, .int 1)]) (st' := [.int v6, .ref (B 6)]) rfl ?_
                      refine so_miald C0 hK (a := 5) (by decide) rfl rfl (by decide) rfl (fun v66 hv66 => ?_)
                      refine so_if_ge C0 rfl (fun h67 => ?_) (fun h67 => ?_)
                      · refine so_go C0 2 (pc' := 150) (lv' := [(0, .ref (B 0)), (3, .int v12), (4, .int v6), (5, .int v7), (6, .int 1)]) (st' := [.ref (B 0), .int 0]) rfl ?_
                        refine so_mget C0 hK (j := 7) (v := .ref (B 6)) (by decide) wd_5_26 rfl rfl ?_
                        refine so_go C0 1 (pc' := 155) (lv' := [(0, .ref (B 0)), (3, .int v12), (4, .int v6), (5, .int v7), (6, .int 1)]) (st' := [.int v7, .ref (B 6), .int 0]) rfl ?_
                        refine so_miald C0 hK (a := 5) (by decide) rfl rfl (by decide) rfl (fun v68 hv68 => ?_)
                        refine so_if_ge C0 rfl (fun h69 => ?_) (fun h69 => ?_)
                        · refine so_go C0 1 (pc' := 164) (lv' := [(0, .ref (B 0)), (3, .int v12), (4, .int v6), (5, .int v7), (6, .int 1)]) (st' := [.int 0, .int 0]) rfl ?_
                          refine so_icmp_neF C0 rfl (by decide) ?_
                          refine so_go C0 4 (pc' := 174) (lv' := [(0, .ref (B 0)), (3, .int 1), (4, .int v6), (5, .int v7), (6, .int 1)]) (st' := [.int 1]) rfl ?_
                          refine so_if_eqF C0 rfl (by decide) ?_
                          refine so_go C0 1 (pc' := 178) (lv' := [(0, .ref (B 0)), (3, .int 1), (4, .int v6), (5, .int v7), (6, .int 1)]) (st' := [.ref (B 0)]) rfl ?_
                          refine so_mget C0 hK (j := 7) (v := .ref (B 6)) (by decide) wd_5_26 rfl rfl ?_
                          refine so_go C0 1 (pc' := 183) (lv' := [(0, .ref (B 0)), (3, .int 1), (4, .int v6), (5, .int v7), (6, .int 1)]) (st' := [.int v6, .ref (B 6)]) rfl ?_
                          refine so_miald C0 hK (a := 5) (by decide) rfl rfl (by decide) rfl (fun v70 hv70 => ?_)
                          refine so_if_lt C0 rfl (fun h71 => ?_) (fun h71 => ?_)
                          · refine so_go C0 1 (pc' := 206) (lv' := [(0, .ref (B 0)), (3, .int 1), (4, .int v6), (5, .int v7), (6, .int 1)]) (st' := [.int 1]) rfl ?_
                            refine so_if_eqF C0 rfl (by decide) ?_
                            refine so_go C0 1 (pc' := 210) (lv' := [(0, .ref (B 0)), (3, .int 1), (4, .int v6), (5, .int v7), (6, .int 1)]) (st' := [.ref (B 0)]) rfl ?_
                            refine so_mget C0 hK (j := 4) (v := .ref (B 3)) (by decide) wd_5_23 rfl rfl ?_
                            refine so_go C0 1 (pc' := 215) (lv' := [(0, .ref (B 0)), (3, .int 1), (4, .int v6), (5, .int v7), (6, .int 1)]) (st' := [.int v6, .ref (B 3)]) rfl ?_
                            refine so_mbald C0 hK (a := 2) (by decide) rfl rfl (by decide) rfl (fun v72 hv72 => ?_)
                            refine so_go C0 1 (pc' := 217) (lv' := [(0, .ref (B 0)), (3, .int 1), (4, .int v6), (5, .int v7), (6, .int 1)]) (st' := [.int 4, .int v72]) rfl ?_
                            refine so_icmp_ne C0 rfl (fun h73 => ?_) (fun h73 => ?_)
                            · refine so_go C0 1 (pc' := 13) (lv' := [(0, .ref (B 0)), (3, .int 1), (4, .int v6), (5, .int v7), (6, .int 1)]) (st' := []) rfl ?_
                              exact so_sub (lv' := [(0, .ref (B 0)), (3, .int 1)]) (zpk [0, 1] rfl) (ih13 S5 1)
                            · refine so_go C0 3 (pc' := 225) (lv' := [(0, .ref (B 0)), (3, .int 1), (4, .int v6), (5, .int v7), (6, .int 1)]) (st' := [.int v7, .int v6, .ref (B 0)]) rfl ?_
                              refine so_oV (As := [.int v6, .int v7]) (rest := []) C0 hK hA yk_Mod_pairFields (c_Mod_pairFields S5 v6 v7) wd_5_218 rfl rfl ⟨by rw [hf]; decide, by rw [hlo]; decide⟩ (Nat.le_of_ble_eq_true rfl) (mrc hK) (fun S74 hS74 => ?_)
                              refine so_go C0 1 (pc' := 13) (lv' := [(0, .ref (B 0)), (3, .int 1), (4, .int v6), (5, .int v7), (6, .int 1)]) (st' := []) rfl ?_
                              exact so_sub (lv' := [(0, .ref (B 0)), (3, .int 1)]) (zpk [0, 1] rfl) (ih13 S74 1)
                          · refine so_go C0 2 (pc' := 189) (lv' := [(0, .ref (B 0)), (3, .int 1), (4, .int v6), (5, .int v7), (6, .int 1)]) (st' := [.ref (B 0), .ref (B 0)]) rfl ?_
                            refine so_mget C0 hK (j := 7) (v := .ref (B 6)) (by decide) wd_5_26 rfl rfl ?_
                            refine so_go C0 1 (pc' := 194) (lv' := [(0, .ref (B 0)), (3, .int 1), (4, .int v6), (5, .int v7), (6, .int 1)]) (st' := [.int v6, .ref (B 6), .ref (B 0)]) rfl ?_
                            refine so_miald C0 hK (a := 5) (by decide) rfl rfl (by decide) rfl (fun v75 hv75 => ?_)
                            refine so_go C0 1 (pc' := 196) (lv' := [(0, .ref (B 0)), (3, .int 1), (4, .int v6), (5, .int v7), (6, .int 1)]) (st' := [.ref (B 0), .int v75, .ref (B 0)]) rfl ?_
                            refine so_mget C0 hK (j := 7) (v := .ref (B 6)) (by decide) wd_5_26 rfl rfl ?_
                            refine so_go C0 1 (pc' := 201) (lv' := [(0, .ref (B 0)), (3, .int 1), (4, .int v6), (5, .int v7), (6, .int 1)]) (st' := [.int v7, .ref (B 6), .int v75, .ref (B 0)]) rfl ?_
                            refine so_miald C0 hK (a := 5) (by decide) rfl rfl (by decide) rfl (fun v76 hv76 => ?_)
                            refine so_oV (As := [.int v75, .int v76]) (rest := []) C0 hK hA yk_Mod_pair (c_Mod_pair S5 v75 v76) wd_5_210 rfl rfl ⟨by rw [hf]; decide, by rw [hlo]; decide⟩ (Nat.le_of_ble_eq_true rfl) (mrc hK) (fun S77 hS77 => ?_)
                            refine so_go C0 1 (pc' := 206) (lv' := [(0, .ref (B 0)), (3, .int 1), (4, .int v6), (5, .int v7), (6, .int 1)]) (st' := [.int 1]) rfl ?_
                            refine so_if_eqF C0 rfl (by decide) ?_
                            refine so_go C0 1 (pc' := 210) (lv' := [(0, .ref (B 0)), (3, .int 1), (4, .int v6), (5, .int v7), (6, .int 1)]) (st' := [.ref (B 0)]) rfl ?_
                            refine so_mget C0 hK (j := 4) (v := .ref (B 3)) (by decide) wd_5_23 rfl rfl ?_
                            refine so_go C0 1 (pc' := 215) (lv' := [(0, .ref (B 0)), (3, .int 1), (4, .int v6), (5, .int v7), (6, .int 1)]) (st' := [.int v6, .ref (B 3)]) rfl ?_
                            refine so_mbald C0 hK (a := 2) (by decide) rfl rfl (by decide) rfl (fun v78 hv78 => ?_)
                            refine so_go C0 1 (pc' := 217) (lv' := [(0, .ref (B 0)), (3, .int 1), (4, .int v6), (5, .int v7), (6, .int 1)]) (st' := [.int 4, .int v78]) rfl ?_
                            refine so_icmp_ne C0 rfl (fun h79 => ?_) (fun h79 => ?_)
                            · refine so_go C0 1 (pc' := 13) (lv' := [(0, .ref (B 0)), (3, .int 1), (4, .int v6), (5, .int v7), (6, .int 1)]) (st' := []) rfl ?_
                              exact so_sub (lv' := [(0, .ref (B 0)), (3, .int 1)]) (zpk [0, 1] rfl) (ih13 S77 1)
                            · refine so_go C0 3 (pc' := 225) (lv' := [(0, .ref (B 0)), (3, .int 1), (4, .int v6), (5, .int v7), (6, .int 1)]) (st' := [.int v7, .int v6, .ref (B 0)]) rfl ?_
                              refine so_oV (As := [.int v6, .int v7]) (rest := []) C0 hK hA yk_Mod_pairFields (c_Mod_pairFields S77 v6 v7) wd_5_218 rfl rfl ⟨by rw [hf]; decide, by rw [hlo]; decide⟩ (Nat.le_of_ble_eq_true rfl) (mrc hK) (fun S80 hS80 => ?_)
                              refine so_go C0 1 (pc' := 13) (lv' := [(0, .ref (B 0)), (3, .int 1), (4, .int v6), (5, .int v7), (6, .int 1)]) (st' := []) rfl ?_
                              exact so_sub (lv' := [(0, .ref (B 0)), (3, .int 1)]) (zpk [0, 1] rfl) (ih13 S80 1)
                        · refine so_go C0 2 (pc' := 164) (lv' := [(0, .ref (B 0)), (3, .int v12), (4, .int v6), (5, .int v7), (6, .int 1)]) (st' := [.int 1, .int 0]) rfl ?_
                          refine so_icmp_neT C0 rfl (by decide) ?_
                          refine so_go C0 3 (pc' := 174) (lv' := [(0, .ref (B 0)), (3, .int 0), (4, .int v6), (5, .int v7), (6, .int 1)]) (st' := [.int 0]) rfl ?_
                          refine so_if_eqT C0 rfl (by decide) ?_
                          refine so_go C0 1 (pc' := 206) (lv' := [(0, .ref (B 0)), (3, .int 0), (4, .int v6), (5, .int v7), (6, .int 1)]) (st' := [.int 0]) rfl ?_
                          refine so_if_eqT C0 rfl (by decide) ?_
                          refine so_go C0 1 (pc' := 13) (lv' := [(0, .ref (B 0)), (3, .int 0), (4, .int v6), (5, .int v7), (6, .int 1)]) (st' := []) rfl ?_
                          exact so_sub (lv' := [(0, .ref (B 0)), (3, .int 0)]) (zpk [0, 1] rfl) (ih13 S5 0)
                      · refine so_go C0 3 (pc' := 150) (lv' := [(0, .ref (B 0)), (3, .int v12), (4, .int v6), (5, .int v7), (6, .int 1)]) (st' := [.ref (B 0), .int 1]) rfl ?_
                        refine so_mget C0 hK (j := 7) (v := .ref (B 6)) (by decide) wd_5_26 rfl rfl ?_
                        refine so_go C0 1 (pc' := 155) (lv' := [(0, .ref (B 0)), (3, .int v12), (4, .int v6), (5, .int v7), (6, .int 1)]) (st' := [.int v7, .ref (B 6), .int 1]) rfl ?_
                        refine so_miald C0 hK (a := 5) (by decide) rfl rfl (by decide) rfl (fun v81 hv81 => ?_)
                        refine so_if_ge C0 rfl (fun h82 => ?_) (fun h82 => ?_)
                        · refine so_go C0 1 (pc' := 164) (lv' := [(0, .ref (B 0)), (3, .int v12), (4, .int v6), (5, .int v7), (6, .int 1)]) (st' := [.int 0, .int 1]) rfl ?_
                          refine so_icmp_neT C0 rfl (by decide) ?_
                          refine so_go C0 3 (pc' := 174) (lv' := [(0, .ref (B 0)), (3, .int 0), (4, .int v6), (5, .int v7), (6, .int 1)]) (st' := [.int 0]) rfl ?_
                          refine so_if_eqT C0 rfl (by decide) ?_
                          refine so_go C0 1 (pc' := 206) (lv' := [(0, .ref (B 0)), (3, .int 0), (4, .int v6), (5, .int v7), (6, .int 1)]) (st' := [.int 0]) rfl ?_
                          refine so_if_eqT C0 rfl (by decide) ?_
                          refine so_go C0 1 (pc' := 13) (lv' := [(0, .ref (B 0)), (3, .int 0), (4, .int v6), (5, .int v7), (6, .int 1)]) (st' := []) rfl ?_
                          exact so_sub (lv' := [(0, .ref (B 0)), (3, .int 0)]) (zpk [0, 1] rfl) (ih13 S5 0)
                        · refine so_go C0 2 (pc' := 164) (lv' := [(0, .ref (B 0)), (3, .int v12), (4, .int v6), (5, .int v7), (6, .int 1)]) (st' := [.int 1, .int 1]) rfl ?_
                          refine so_icmp_neF C0 rfl (by decide) ?_
                          refine so_go C0 4 (pc' := 174) (lv' := [(0, .ref (B 0)), (3, .int 1), (4, .int v6), (5, .int v7), (6, .int 1)]) (st' := [.int 1]) rfl ?_
                          refine so_if_eqF C0 rfl (by decide) ?_
                          refine so_go C0 1 (pc' := 178) (lv' := [(0, .ref (B 0)), (3, .int 1), (4, .int v6), (5, .int v7), (6, .int 1)]) (st' := [.ref (B 0)]) rfl ?_
                          refine so_mget C0 hK (j := 7) (v := .ref (B 6)) (by decide) wd_5_26 rfl rfl ?_
                          refine so_go C0 1 (pc' := 183) (lv' := [(0, .ref (B 0)), (3, .int 1), (4, .int v6), (5, .int v7), (6, .int 1)]) (st' := [.int v6, .ref (B 6)]) rfl ?_
                          refine so_miald C0 hK (a := 5) (by decide) rfl rfl (by decide) rfl (fun v83 hv83 => ?_)
                          refine so_if_lt C0 rfl (fun h84 => ?_) (fun h84 => ?_)
                          · refine so_go C0 1 (pc' := 206) (lv' := [(0, .ref (B 0)), (3, .int 1), (4, .int v6), (5, .int v7), (6, .int 1)]) (st' := [.int 1]) rfl ?_
                            refine so_if_eqF C0 rfl (by decide) ?_
                            refine so_go C0 1 (pc' := 210) (lv' := [(0, .ref (B 0)), (3, .int 1), (4, .int v6), (5, .int v7), (6, .int 1)]) (st' := [.ref (B 0)]) rfl ?_
                            refine so_mget C0 hK (j := 4) (v := .ref (B 3)) (by decide) wd_5_23 rfl rfl ?_
                            refine so_go C0 1 (pc' := 215) (lv' := [(0, .ref (B 0)), (3, .int 1), (4, .int v6), (5, .int v7), (6, .int 1)]) (st' := [.int v6, .ref (B 3)]) rfl ?_
                            refine so_mbald C0 hK (a := 2) (by decide) rfl rfl (by decide) rfl (fun v85 hv85 => ?_)
                            refine so_go C0 1 (pc' := 217) (lv' := [(0, .ref (B 0)), (3, .int 1), (4, .int v6), (5, .int v7), (6, .int 1)]) (st' := [.int 4, .int v85]) rfl ?_
                            refine so_icmp_ne C0 rfl (fun h86 => ?_) (fun h86 => ?_)
                            · refine so_go C0 1 (pc' := 13) (lv' := [(0, .ref (B 0)), (3, .int 1), (4, .int v6), (5, .int v7), (6, .int 1)]) (st' := []) rfl ?_
                              exact so_sub (lv' := [(0, .ref (B 0)), (3, .int 1)]) (zpk [0, 1] rfl) (ih13 S5 1)
                            · refine so_go C0 3 (pc' := 225) (lv' := [(0, .ref (B 0)), (3, .int 1), (4, .int v6), (5, .int v7), (6, .int 1)]) (st' := [.int v7, .int v6, .ref (B 0)]) rfl ?_
                              refine so_oV (As := [.int v6, .int v7]) (rest := []) C0 hK hA yk_Mod_pairFields (c_Mod_pairFields S5 v6 v7) wd_5_218 rfl rfl ⟨by rw [hf]; decide, by rw [hlo]; decide⟩ (Nat.le_of_ble_eq_true rfl) (mrc hK) (fun S87 hS87 => ?_)
                              refine so_go C0 1 (pc' := 13) (lv' := [(0, .ref (B 0)), (3, .int 1), (4, .int v6), (5, .int v7), (6, .int 1)]) (st' := []) rfl ?_
                              exact so_sub (lv' := [(0, .ref (B 0)), (3, .int 1)]) (zpk [0, 1] rfl) (ih13 S87 1)
                          · refine so_go C0 2 (pc' := 189) (lv' := [(0, .ref (B 0)), (3, .int 1), (4, .int v6), (5, .int v7), (6, .int 1)]) (st' := [.ref (B 0), .ref (B 0)]) rfl ?_
                            refine so_mget C0 hK (j := 7) (v := .ref (B 6)) (by decide) wd_5_26 rfl rfl ?_
                            refine so_go C0 1 (pc' := 194) (lv' := [(0, .ref (B 0)), (3, .int 1), (4, .int v6), (5, .int v7), (6, .int 1)]) (st' := [.int v6, .ref (B 6), .ref (B 0)]) rfl ?_
                            refine so_miald C0 hK (a := 5) (by decide) rfl rfl (by decide) rfl (fun v88 hv88 => ?_)
                            refine so_go C0 1 (pc' := 196) (lv' := [(0, .ref (B 0)), (3, .int 1), (4, .int v6), (5, .int v7), (6, .int 1)]) (st' := [.ref (B 0), .int v88, .ref (B 0)]) rfl ?_
                            refine so_mget C0 hK (j := 7) (v := .ref (B 6)) (by decide) wd_5_26 rfl rfl ?_
                            refine so_go C0 1 (pc' := 201) (lv' := [(0, .ref (B 0)), (3, .int 1), (4, .int v6), (5, .int v7), (6, .int 1)]) (st' := [.int v7, .ref (B 6), .int v88, .ref (B 0)]) rfl ?_
                            refine so_miald C0 hK (a := 5) (by decide) rfl rfl (by decide) rfl (fun v89 hv89 => ?_)
                            refine so_oV (As := [.int v88, .int v89]) (rest := []) C0 hK hA yk_Mod_pair (c_Mod_pair S5 v88 v89) wd_5_210 rfl rfl ⟨by rw [hf]; decide, by rw [hlo]; decide⟩ (Nat.le_of_ble_eq_true rfl) (mrc hK) (fun S90 hS90 => ?_)
                            refine so_go C0 1 (pc' := 206) (lv' := [(0, .ref (B 0)), (3, .int 1), (4, .int v6), (5, .int v7), (6, .int 1)]) (st' := [.int 1]) rfl ?_
                            refine so_if_eqF C0 rfl (by decide) ?_
                            refine so_go C0 1 (pc' := 210) (lv' := [(0, .ref (B 0)), (3, .int 1), (4, .int v6), (5, .int v7), (6, .int 1)]) (st' := [.ref (B 0)]) rfl ?_
                            refine so_mget C0 hK (j := 4) (v := .ref (B 3)) (by decide) wd_5_23 rfl rfl ?_
                            refine so_go C0 1 (pc' := 215) (lv' := [(0, .ref (B 0)), (3, .int 1), (4, .int v6), (5, .int v7), (6, .int 1)]) (st' := [.int v6, .ref (B 3)]) rfl ?_
                            refine so_mbald C0 hK (a := 2) (by decide) rfl rfl (by decide) rfl (fun v91 hv91 => ?_)
                            refine so_go C0 1 (pc' := 217) (lv' := [(0, .ref (B 0)), (3, .int 1), (4, .int v6), (5, .int v7), (6, .int 1)]) (st' := [.int 4, .int v91]) rfl ?_
                            refine so_icmp_ne C0 rfl (fun h92 => ?_) (fun h92 => ?_)
                            · refine so_go C0 1 (pc' := 13) (lv' := [(0, .ref (B 0)), (3, .int 1), (4, .int v6), (5, .int v7), (6, .int 1)]) (st' := []) rfl ?_
                              exact so_sub (lv' := [(0, .ref (B 0)), (3, .int 1)]) (zpk [0, 1] rfl) (ih13 S90 1)
                            · refine so_go C0 3 (pc' := 225) (lv' := [(0, .ref (B 0)), (3, .int 1), (4, .int v6), (5, .int v7), (6, .int 1)]) (st' := [.int v7, .int v6, .ref (B 0)]) rfl ?_
                              refine so_oV (As := [.int v6, .int v7]) (rest := []) C0 hK hA yk_Mod_pairFields (c_Mod_pairFields S90 v6 v7) wd_5_218 rfl rfl ⟨by rw [hf]; decide, by rw [hlo]; decide⟩ (Nat.le_of_ble_eq_true rfl) (mrc hK) (fun S93 hS93 => ?_)
                              refine so_go C0 1 (pc' := 13) (lv' := [(0, .ref (B 0)), (3, .int 1), (4, .int v6), (5, .int v7), (6, .int 1)]) (st' := []) rfl ?_
                              exact so_sub (lv' := [(0, .ref (B 0)), (3, .int 1)]) (zpk [0, 1] rfl) (ih13 S93 1)
  have K : mSO p l e R s m args below meth c 7 A D cA B S 0 (lv_args 0 [.ref (B 0), .int a1, .int a2]) [] zFi (f_Mod_goTogether S a1 a2) := by
    unfold f_Mod_goTogether
    refine so_go C0 2 (pc' := 2) (lv' := [(0, .ref (B 0)), (1, .int a1), (2, .int a2)]) (st' := [.int 0, .ref (B 0)]) rfl ?_
    refine so_mput C0 hK (j := 42) (q := 11) (ty := .int) (by decide) (Nat.le_of_ble_eq_true rfl) rfl (by decide +kernel) rfl rfl wd_5_61 rfl rfl ?_
    refine so_st (fun S1 hS1 => ?_)
    refine so_go C0 3 (pc' := 8) (lv' := [(0, .ref (B 0)), (1, .int a1), (2, .int a2)]) (st' := [.int a2, .int a1, .ref (B 0)]) rfl ?_
    refine so_oV (As := [.int a1, .int a2]) (rest := []) C0 hK hA yk_Mod_pair (c_Mod_pair S1 a1 a2) wd_5_210 rfl rfl ⟨by rw [hf]; decide, by rw [hlo]; decide⟩ (Nat.le_of_ble_eq_true rfl) (mrc hK) (fun S2 hS2 => ?_)
    refine so_go C0 2 (pc' := 13) (lv' := [(0, .ref (B 0)), (1, .int a1), (2, .int a2), (3, .int 1)]) (st' := []) rfl ?_
    exact so_sub (lv' := [(0, .ref (B 0)), (3, .int 1)]) (zpk [0, 3] rfl) (lp13 zbig S2 1)
  exact K r hr
def f_Mod_matches_L13 : Nat → zM → Int32 → Option (zM × Int32)
  | 0, _, _ => none
  | n + 1, S, x3 =>
    if (S.2.2 11) ≤ 0 then
      some (S, (z_b x3))
    else
      if x3 = 0 then
        some (S, (z_b x3))
      else
        zbind (m_sc S 11 ((S.2.2 11) - 1)) fun S5 =>
        m_rd 20480 (S5.1 31) (S5.2.2 11) fun v6 =>
        m_rd 20480 (S5.1 32) (S5.2.2 11) fun v7 =>
        m_rd 16384 (S5.1 2) v6 fun v8 =>
        if v8 = 0 then
          f_Mod_matches_L13 n S5 x3
        else
          zob (f_Mod_areOneSort S5 v6 v7) fun v10 =>
          if v10 = 0 then
            if v10 = 0 then
              if v10 = 0 then
                f_Mod_matches_L13 n S5 v10
              else
                zob (f_Mod_areOne S5 v6 v7) fun v14 =>
                if v14 = 0 then
                  f_Mod_matches_L13 n S5 0
                else
                  m_rd 16384 (S5.1 5) v6 fun v16 =>
                  if 0 ≤ v16 then
                    m_rd 16384 (S5.1 5) v7 fun v18 =>
                    if 0 ≤ v18 then
                      m_rd 16384 (S5.1 5) v6 fun v20 =>
                      if v20 < 0 then
                        f_Mod_matches_L13 n S5 1
                      else
                        m_rd 16384 (S5.1 5) v6 fun v22 =>
                        m_rd 16384 (S5.1 5) v7 fun v23 =>
                        zob (f_Mod_pair S5 v22 v23) fun S24 =>
                        f_Mod_matches_L13 n S24 1
                    else
                      f_Mod_matches_L13 n S5 0
                  else
                    m_rd 16384 (S5.1 5) v7 fun v25 =>
                    if 0 ≤ v25 then
                      f_Mod_matches_L13 n S5 0
                    else
                      m_rd 16384 (S5.1 5) v6 fun v27 =>
                      if v27 < 0 then
                        f_Mod_matches_L13 n S5 1
                      else
                        m_rd 16384 (S5.1 5) v6 fun v29 =>
                        m_rd 16384 (S5.1 5) v7 fun v30 =>
                        zob (f_Mod_pair S5 v29 v30) fun S31 =>
                        f_Mod_matches_L13 n S31 1
            else
              m_rd 16384 (S5.1 2) v6 fun v32 =>
              if ¬ v32 = 4 then
                if v10 = 0 then
                  f_Mod_matches_L13 n S5 v10
                else
                  zob (f_Mod_areOne S5 v6 v7) fun v35 =>
                  if v35 = 0 then
                    f_Mod_matches_L13 n S5 0
                  else
                    m_rd 16384 (S5.1 5) v6 fun v37 =>
                    if 0 ≤ v37 then
                      m_rd 16384 (S5.1 5) v7 fun v39 =>
                      if 0 ≤ v39 then
                        m_rd 16384 (S5.1 5) v6 fun v41 =>
                        if v41 < 0 then
                          f_Mod_matches_L13 n S5 1
                        else
                          m_rd 16384 (S5.1 5) v6 fun v43 =>
                          m_rd 16384 (S5.1 5) v7 fun v44 =>
                          zob (f_Mod_pair S5 v43 v44) fun S45 =>
                          f_Mod_matches_L13 n S45 1
                      else
                        f_Mod_matches_L13 n S5 0
                    else
                      m_rd 16384 (S5.1 5) v7 fun v46 =>
                      if 0 ≤ v46 then
                        f_Mod_matches_L13 n S5 0
                      else
                        m_rd 16384 (S5.1 5) v6 fun v48 =>
                        if v48 < 0 then
                          f_Mod_matches_L13 n S5 1
                        else
                          m_rd 16384 (S5.1 5) v6 fun v50 =>
                          m_rd 16384 (S5.1 5) v7 fun v51 =>
                          zob (f_Mod_pair S5 v50 v51) fun S52 =>
                          f_Mod_matches_L13 n S52 1
              else
                zob (f_Mod_pairFields S5 v6 v7) fun S53 =>
                f_Mod_matches_L13 n S53 v10
          else
            m_rd 16384 (S5.1 2) v6 fun v54 =>
            if ¬ v54 = 1 then
              if v10 = 0 then
                if v10 = 0 then
                  f_Mod_matches_L13 n S5 v10
                else
                  zob (f_Mod_areOne S5 v6 v7) fun v58 =>
                  if v58 = 0 then
                    f_Mod_matches_L13 n S5 0
                  else
                    m_rd 16384 (S5.1 5) v6 fun v60 =>
                    if 0 ≤ v60 then
                      m_rd 16384 (S5.1 5) v7 fun v62 =>
                      if 0 ≤ v62 then
                        m_rd 16384 (S5.1 5) v6 fun v64 =>
                        if v64 < 0 then
                          f_Mod_matches_L13 n S5 1
                        else
                          m_rd 16384 (S5.1 5) v6 fun v66 =>
                          m_rd 16384 (S5.1 5) v7 fun v67 =>
                          zob (f_Mod_pair S5 v66 v67) fun S68 =>
                          f_Mod_matches_L13 n S68 1
                      else
                        f_Mod_matches_L13 n S5 0
                    else
                      m_rd 16384 (S5.1 5) v7 fun v69 =>
                      if 0 ≤ v69 then
                        f_Mod_matches_L13 n S5 0
                      else
                        m_rd 16384 (S5.1 5) v6 fun v71 =>
                        if v71 < 0 then
                          f_Mod_matches_L13 n S5 1
                        else
                          m_rd 16384 (S5.1 5) v6 fun v73 =>
                          m_rd 16384 (S5.1 5) v7 fun v74 =>
                          zob (f_Mod_pair S5 v73 v74) fun S75 =>
                          f_Mod_matches_L13 n S75 1
              else
                m_rd 16384 (S5.1 2) v6 fun v76 =>
                if ¬ v76 = 4 then
                  if v10 = 0 then
                    f_Mod_matches_L13 n S5 v10
                  else
                    zob (f_Mod_areOne S5 v6 v7) fun v79 =>
                    if v79 = 0 then
                      f_Mod_matches_L13 n S5 0
                    else
                      m_rd 16384 (S5.1 5) v6 fun v81 =>
                      if 0 ≤ v81 then
                        m_rd 16384 (S5.1 5) v7 fun v83 =>
                        if 0 ≤ v83 then
                          m_rd 16384 (S5.1 5) v6 fun v85 =>
                          if v85 < 0 then
                            f_Mod_matches_L13 n S5 1
                          else
                            m_rd 16384 (S5.1 5) v6 fun v87 =>
                            m_rd 16384 (S5.1 5) v7 fun v88 =>
                            zob (f_Mod_pair S5 v87 v88) fun S89 =>
                            f_Mod_matches_L13 n S89 1
                        else
                          f_Mod_matches_L13 n S5 0
                      else
                        m_rd 16384 (S5.1 5) v7 fun v90 =>
                        if 0 ≤ v90 then
                          f_Mod_matches_L13 n S5 0
                        else
                          m_rd 16384 (S5.1 5) v6 fun v92 =>
                          if v92 < 0 then
                            f_Mod_matches_L13 n S5 1
                          else
                            m_rd 16384 (S5.1 5) v6 fun v94 =>
                            m_rd 16384 (S5.1 5) v7 fun v95 =>
                            zob (f_Mod_pair S5 v94 v95) fun S96 =>
                            f_Mod_matches_L13 n S96 1
                else
                  zob (f_Mod_pairFields S5 v6 v7) fun S97 =>
                  f_Mod_matches_L13 n S97 v10
            else
              m_rd 16384 (S5.1 4) v6 fun v98 =>
              m_rd 16384 (S5.1 4) v7 fun v99 =>
              if ¬ v98 = v99 then
                f_Mod_matches_L13 n S5 0
              else
                f_Mod_matches_L13 n S5 1
def f_Mod_matches (S : zM) (a1 : Int32) (a2 : Int32) : Option (zM × Int32) :=
  zbind (m_sc S 11 0) fun S1 =>
  zob (f_Mod_pair S1 a1 a2) fun S2 =>
  f_Mod_matches_L13 zbig S2 1
set_option maxHeartbeats 1000000 in
set_option maxRecDepth 20000 in
theorem c_Mod_matches (S : zM) (a1 : Int32) (a2 : Int32) : ∀ r, f_Mod_matches S a1 a2 = some r → zMet l y_Mod_matches (zw y_Mod_matches prog_13_method_17_code 6 (some Jvm.ClassFile.FieldType.boolean)) 2 48 [.ref (B 0), .int a1, .int a2] D zcl (ztys cA) A (mRep D cA B A) (fun _ => 0) (fun _ => 0) S (zFi r) := by
  intro r hr
  refine zMet_of ⟨Nat.le_refl _, Nat.le_refl _⟩ (by decide) tk_Mod_matches (Nat.le_of_ble_eq_true rfl) ?_
  intro p e R s m args below meth c hf hlo C0 hK hA
  have lp13 : ∀ (n : Nat) (S : zM) (x3 : Int32), mSO p l e R s m args below meth c 6 A D cA B S 13 [(0, .ref (B 0)), (3, .int x3)] [] zFi (f_Mod_matches_L13 n S x3) := by
    intro n
    induction n with
    | zero =>
      intro S x3
      rw [f_Mod_matches_L13]
      exact so_none
    | succ n ih13 =>
      intro S x3
      rw [f_Mod_matches_L13]
      refine so_go C0 1 (pc' := 14) (lv' := [(0, .ref (B 0)), (3, .int x3)]) (st' := [.ref (B 0)]) rfl ?_
      refine so_mget C0 hK (j := 42) (v := .int (S.2.2 11)) (by decide) wd_5_61 rfl rfl ?_
      refine so_if_le C0 rfl (fun h3 => ?_) (fun h3 => ?_)
      · refine so_go C0 1 (pc' := 232) (lv' := [(0, .ref (B 0)), (3, .int x3)]) (st' := [.int x3]) rfl ?_
        exact so_retb C0 rfl rfl
      · refine so_go C0 1 (pc' := 21) (lv' := [(0, .ref (B 0)), (3, .int x3)]) (st' := [.int x3]) rfl ?_
        refine so_if_eq C0 rfl (fun h4 => ?_) (fun h4 => ?_)
        · refine so_go C0 1 (pc' := 232) (lv' := [(0, .ref (B 0)), (3, .int x3)]) (st' := [.int x3]) rfl ?_
          exact so_retb C0 rfl rfl
        · refine so_go C0 2 (pc' := 26) (lv' := [(0, .ref (B 0)), (3, .int x3)]) (st' := [.ref (B 0), .ref (B 0)]) rfl ?_
          refine so_mget C0 hK (j := 42) (v := .int (S.2.2 11)) (by decide) wd_5_61 rfl rfl ?_
          refine so_go C0 2 (pc' := 31) (lv' := [(0, .ref (B 0)), (3, .int x3)]) (st' := [.int ((S.2.2 11) - 1), .ref (B 0)]) rfl ?_
          refine so_mput C0 hK (j := 42) (q := 11) (ty := .int) (by decide) (Nat.le_of_ble_eq_true rfl) rfl (by decide +kernel) rfl rfl wd_5_61 rfl rfl ?_
          refine so_st (fun S5 hS5 => ?_)
          refine so_go C0 1 (pc' := 35) (lv' := [(0, .ref (B 0)), (3, .int x3)]) (st' := [.ref (B 0)]) rfl ?_
          refine so_mget C0 hK (j := 43) (v := .ref (B 32)) (by decide) wd_5_62 rfl rfl ?_
          refine so_go C0 1 (pc' := 39) (lv' := [(0, .ref (B 0)), (3, .int x3)]) (st' := [.ref (B 0), .ref (B 32)]) rfl ?_
          refine so_mget C0 hK (j := 42) (v := .int (S5.2.2 11)) (by decide) wd_5_61 rfl rfl ?_
          refine so_miald C0 hK (a := 31) (by decide) rfl rfl (by decide) rfl (fun v6 hv6 => ?_)
          refine so_go C0 2 (pc' := 46) (lv' := [(0, .ref (B 0)), (3, .int x3), (4, .int v6)]) (st' := [.ref (B 0)]) rfl ?_
          refine so_mget C0 hK (j := 44) (v := .ref (B 33)) (by decide) wd_5_63 rfl rfl ?_
          refine so_go C0 1 (pc' := 50) (lv' := [(0, .ref (B 0)), (3, .int x3), (4, .int v6)]) (st' := [.ref (B 0), .ref (B 33)]) rfl ?_
          refine so_mget C0 hK (j := 42) (v := .int (S5.2.2 11)) (by decide) wd_5_61 rfl rfl ?_
          refine so_miald C0 hK (a := 32) (by decide) rfl rfl (by decide) rfl (fun v7 hv7 => ?_)
          refine so_go C0 2 (pc' := 57) (lv' := [(0, .ref (B 0)), (3, .int x3), (4, .int v6), (5, .int v7)]) (st' := [.ref (B 0)]) rfl ?_
          refine so_mget C0 hK (j := 4) (v := .ref (B 3)) (by decide) wd_5_23 rfl rfl ?_
          refine so_go C0 1 (pc' := 62) (lv' := [(0, .ref (B 0)), (3, .int x3), (4, .int v6), (5, .int v7)]) (st' := [.int v6, .ref (B 3)]) rfl ?_
          refine so_mbald C0 hK (a := 2) (by decide) rfl rfl (by decide) rfl (fun v8 hv8 => ?_)
          refine so_if_eq C0 rfl (fun h9 => ?_) (fun h9 => ?_)
          · refine so_go C0 1 (pc' := 13) (lv' := [(0, .ref (B 0)), (3, .int x3), (4, .int v6), (5, .int v7)]) (st' := []) rfl ?_
            exact so_sub (lv' := [(0, .ref (B 0)), (3, .int x3)]) (zpk [0, 1] rfl) (ih13 S5 x3)
          · refine so_go C0 3 (pc' := 71) (lv' := [(0, .ref (B 0)), (3, .int x3), (4, .int v6), (5, .int v7)]) (st' := [.int v7, .int v6, .ref (B 0)]) rfl ?_
            refine so_op (As := [.int v6, .int v7]) (rest := []) C0 hK hA yk_Mod_areOneSort (c_Mod_areOneSort S5 v6 v7) wd_5_214 rfl rfl ⟨by rw [hf]; decide, by rw [hlo]; decide⟩ (Nat.le_of_ble_eq_true rfl) (mrc hK) (fun v10 hv10 => ?_)
            refine so_go C0 2 (pc' := 76) (lv' := [(0, .ref (B 0)), (3, .int v10), (4, .int v6), (5, .int v7)]) (st' := [.int v10]) rfl ?_
            refine so_if_eq C0 rfl (fun h11 => ?_) (fun h11 => ?_)
            · refine so_go C0 1 (pc' := 117) (lv' := [(0, .ref (B 0)), (3, .int v10), (4, .int v6), (5, .int v7)]) (st' := [.int v10]) rfl ?_
              refine so_if_eq C0 rfl (fun h12 => ?_) (fun h12 => ?_)
              · refine so_go C0 1 (pc' := 143) (lv' := [(0, .ref (B 0)), (3, .int v10), (4, .int v6), (5, .int v7)]) (st' := [.int v10]) rfl ?_
                refine so_if_eq C0 rfl (fun h13 => ?_) (fun h13 => ?_)
                · refine so_go C0 1 (pc' := 13) (lv' := [(0, .ref (B 0)), (3, .int v10), (4, .int v6), (5, .int v7)]) (st' := []) rfl ?_
                  exact so_sub (lv' := [(0, .ref (B 0)), (3, .int v10)]) (zpk [0, 1] rfl) (ih13 S5 v10)
                · refine so_go C0 3 (pc' := 151) (lv' := [(0, .ref (B 0)), (3, .int v10), (4, .int v6), (5, .int v7)]) (st' := [.int v7, .int v6, .ref (B 0)]) rfl ?_
                  refine so_op (As := [.int v6, .int v7]) (rest := []) C0 hK hA yk_Mod_areOne (c_Mod_areOne S5 v6 v7) wd_5_226 rfl rfl ⟨by rw [hf]; decide, by rw [hlo]; decide⟩ (Nat.le_of_ble_eq_true rfl) (mrc hK) (fun v14 hv14 => ?_)
                  refine so_if_eq C0 rfl (fun h15 => ?_) (fun h15 => ?_)
                  · refine so_go C0 3 (pc' := 197) (lv' := [(0, .ref (B 0)), (3, .int 0), (4, .int v6), (5, .int v7)]) (st' := [.int 0]) rfl ?_
                    refine so_if_eqT C0 rfl (by decide) ?_
                    refine so_go C0 1 (pc' := 13) (lv' := [(0, .ref (B 0)), (3, .int 0), (4, .int v6), (5, .int v7)]) (st' := []) rfl ?_
                    exact so_sub (lv' := [(0, .ref (B 0)), (3, .int 0)]) (zpk [0, 1] rfl) (ih13 S5 0)
                  · refine so_go C0 1 (pc' := 158) (lv' := [(0, .ref (B 0)), (3, .int v10), (4, .int v6), (5, .int v7)]) (st' := [.ref (B 0)]) rfl ?_
                    refine so_mget C0 hK (j := 7) (v := .ref (B 6)) (by decide) wd_5_26 rfl rfl ?_
                    refine so_go C0 1 (pc' := 163) (lv' := [(0, .ref (B 0)), (3, .int v10), (4, .int v6), (5, .int v7)]) (st' := [.int v6, .ref (B 6)]) rfl ?_
                    refine so_miald C0 hK (a := 5) (by decide) rfl rfl (by decide) rfl (fun v16 hv16 => ?_)
                    refine so_if_ge C0 rfl (fun h17 => ?_) (fun h17 => ?_)
                    · refine so_go C0 2 (pc' := 173) (lv' := [(0, .ref (B 0)), (3, .int v10), (4, .int v6), (5, .int v7)]) (st' := [.ref (B 0), .int 0]) rfl ?_
                      refine so_mget C0 hK (j := 7) (v := .ref (B 6)) (by decide) wd_5_26 rfl rfl ?_
                      refine so_go C0 1 (pc' := 178) (lv' := [(0, .ref (B 0)), (3, .int v10), (4, .int v6), (5, .int v7)]) (st' := [.int v7, .ref (B 6), .int 0]) rfl ?_
                      refine so_miald C0 hK (a := 5) (by decide) rfl rfl (by decide) rfl (fun v18 hv18 => ?_)
                      refine so_if_ge C0 rfl (fun h19 => ?_) (fun h19 => ?_)
                      · refine so_go C0 1 (pc' := 187) (lv' := [(0, .ref (B 0)), (3, .int v10), (4, .int v6), (5, .int v7)]) (st' := [.int 0, .int 0]) rfl ?_
                        refine so_icmp_neF C0 rfl (by decide) ?_
                        refine so_go C0 4 (pc' := 197) (lv' := [(0, .ref (B 0)), (3, .int 1), (4, .int v6), (5, .int v7)]) (st' := [.int 1]) rfl ?_
                        refine so_if_eqF C0 rfl (by decide) ?_
                        refine so_go C0 1 (pc' := 201) (lv' := [(0, .ref (B 0)), (3, .int 1), (4, .int v6), (5, .int v7)]) (st' := [.ref (B 0)]) rfl ?_
                        refine so_mget C0 hK (j := 7) (v := .ref (B 6)) (by decide) wd_5_26 rfl rfl ?_
                        refine so_go C0 1 (pc' := 206) (lv' := [(0, .ref (B 0)), (3, .int 1), (4, .int v6), (5, .int v7)]) (st' := [.int v6, .ref (B 6)]) rfl ?_
                        refine so_miald C0 hK (a := 5) (by decide) rfl rfl (by decide) rfl (fun v20 hv20 => ?_)
                        refine so_if_lt C0 rfl (fun h21 => ?_) (fun h21 => ?_)
                        · refine so_go C0 1 (pc' := 13) (lv' := [(0, .ref (B 0)), (3, .int 1), (4, .int v6), (5, .int v7)]) (st' := []) rfl ?_
                          exact so_sub (lv' := [(0, .ref (B 0)), (3, .int 1)]) (zpk [0, 1] rfl) (ih13 S5 1)
                        · refine so_go C0 2 (pc' := 212) (lv' := [(0, .ref (B 0)), (3, .int 1), (4, .int v6), (5, .int v7)]) (st' := [.ref (B 0), .ref (B 0)]) rfl ?_
                          refine so_mget C0 hK (j := 7) (v := .ref (B 6)) (by decide) wd_5_26 rfl rfl ?_
                          refine so_go C0 1 (pc' := 217) (lv' := [(0, .ref (B 0)), (3, .int 1), (4, .int v6), (5, .int v7)]) (st' := [.int v6, .ref (B 6), .ref (B 0)]) rfl ?_
                          refine so_miald C0 hK (a := 5) (by decide) rfl rfl (by decide) rfl (fun v22 hv22 => ?_)
                          refine so_go C0 1 (pc' := 219) (lv' := [(0, .ref (B 0)), (3, .int 1), (4, .int v6), (5, .int v7)]) (st' := [.ref (B 0), .int v22, .ref (B 0)]) rfl ?_
                          refine so_mget C0 hK (j := 7) (v := .ref (B 6)) (by decide) wd_5_26 rfl rfl ?_
                          refine so_go C0 1 (pc' := 224) (lv' := [(0, .ref (B 0)), (3, .int 1), (4, .int v6), (5, .int v7)]) (st' := [.int v7, .ref (B 6), .int v22, .ref (B 0)]) rfl ?_
                          refine so_miald C0 hK (a := 5) (by decide) rfl rfl (by decide) rfl (fun v23 hv23 => ?_)
                          refine so_oV (As := [.int v22, .int v23]) (rest := []) C0 hK hA yk_Mod_pair (c_Mod_pair S5 v22 v23) wd_5_210 rfl rfl ⟨by rw [hf]; decide, by rw [hlo]; decide⟩ (Nat.le_of_ble_eq_true rfl) (mrc hK) (fun S24 hS24 => ?_)
                          refine so_go C0 1 (pc' := 13) (lv' := [(0, .ref (B 0)), (3, .int 1), (4, .int v6), (5, .int v7)]) (st' := []) rfl ?_
                          exact so_sub (lv' := [(0, .ref (B 0)), (3, .int 1)]) (zpk [0, 1] rfl) (ih13 S24 1)
                      · refine so_go C0 2 (pc' := 187) (lv' := [(0, .ref (B 0)), (3, .int v10), (4, .int v6), (5, .int v7)]) (st' := [.int 1, .int 0]) rfl ?_
                        refine so_icmp_neT C0 rfl (by decide) ?_
                        refine so_go C0 3 (pc' := 197) (lv' := [(0, .ref (B 0)), (3, .int 0), (4, .int v6), (5, .int v7)]) (st' := [.int 0]) rfl ?_
                        refine so_if_eqT C0 rfl (by decide) ?_
                        refine so_go C0 1 (pc' := 13) (lv' := [(0, .ref (B 0)), (3, .int 0), (4, .int v6), (5, .int v7)]) (st' := []) rfl ?_
                        exact so_sub (lv' := [(0, .ref (B 0)), (3, .int 0)]) (zpk [0, 1] rfl) (ih13 S5 0)
                    · refine so_go C0 3 (pc' := 173) (lv' := [(0, .ref (B 0)), (3, .int v10), (4, .int v6), (5, .int v7)]) (st' := [.ref (B 0), .int 1]) rfl ?_
                      refine so_mget C0 hK (j := 7) (v := .ref (B 6)) (by decide) wd_5_26 rfl rfl ?_
                      refine so_go C0 1 (pc' := 178) (lv' := [(0, .ref (B 0)), (3, .int v10), (4, .int v6), (5, .int v7)]) (st' := [.int v7, .ref (B 6), .int 1]) rfl ?_
                      refine so_miald C0 hK (a := 5) (by decide) rfl rfl (by decide) rfl (fun v25 hv25 => ?_)
                      refine so_if_ge C0 rfl (fun h26 => ?_) (fun h26 => ?_)
                      · refine so_go C0 1 (pc' := 187) (lv' := [(0, .ref (B 0)), (3, .int v10), (4, .int v6), (5, .int v7)]) (st' := [.int 0, .int 1]) rfl ?_
                        refine so_icmp_neT C0 rfl (by decide) ?_
                        refine so_go C0 3 (pc' := 197) (lv' := [(0, .ref (B 0)), (3, .int 0), (4, .int v6), (5, .int v7)]) (st' := [.int 0]) rfl ?_
                        refine so_if_eqT C0 rfl (by decide) ?_
                        refine so_go C0 1 (pc' := 13) (lv' := [(0, .ref (B 0)), (3, .int 0), (4, .int v6), (5, .int v7)]) (st' := []) rfl ?_
                        exact so_sub (lv' := [(0, .ref (B 0)), (3, .int 0)]) (zpk [0, 1] rfl) (ih13 S5 0)
                      · refine so_go C0 2 (pc' := 187) (lv' := [(0, .ref (B 0)), (3, .int v10), (4, .int v6), (5, .int v7)]) (st' := [.int 1, .int 1]) rfl ?_
                        refine so_icmp_neF C0 rfl (by decide) ?_
                        refine so_go C0 4 (pc' := 197) (lv' := [(0, .ref (B 0)), (3, .int 1), (4, .int v6), (5, .int v7)]) (st' := [.int 1]) rfl ?_
                        refine so_if_eqF C0 rfl (by decide) ?_
                        refine so_go C0 1 (pc' := 201) (lv' := [(0, .ref (B 0)), (3, .int 1), (4, .int v6), (5, .int v7)]) (st' := [.ref (B 0)]) rfl ?_
                        refine so_mget C0 hK (j := 7) (v := .ref (B 6)) (by decide) wd_5_26 rfl rfl ?_
                        refine so_go C0 1 (pc' := 206) (lv' := [(0, .ref (B 0)), (3, .int 1), (4, .int v6), (5, .int v7)]) (st' := [.int v6, .ref (B 6)]) rfl ?_
                        refine so_miald C0 hK (a := 5) (by decide) rfl rfl (by decide) rfl (fun v27 hv27 => ?_)
                        refine so_if_lt C0 rfl (fun h28 => ?_) (fun h28 => ?_)
                        · refine so_go C0 1 (pc' := 13) (lv' := [(0, .ref (B 0)), (3, .int 1), (4, .int v6), (5, .int v7)]) (st' := []) rfl ?_
                          exact so_sub (lv' := [(0, .ref (B 0)), (3, .int 1)]) (zpk [0, 1] rfl) (ih13 S5 1)
                        · refine so_go C0 2 (pc' := 212) (lv' := [(0, .ref (B 0)), (3, .int 1), (4, .int v6), (5, .int v7)]) (st' := [.ref (B 0), .ref (B 0)]) rfl ?_
                          refine so_mget C0 hK (j := 7) (v := .ref (B 6)) (by decide) wd_5_26 rfl rfl ?_
                          refine so_go C0 1 (pc' := 217) (lv' := [(0, .ref (B 0)), (3, .int 1), (4, .int v6), (5, .int v7)]) (st' := [.int v6, .ref (B 6), .ref (B 0)]) rfl ?_
                          refine so_miald C0 hK (a := 5) (by decide) rfl rfl (by decide) rfl (fun v29 hv29 => ?_)
                          refine so_go C0 1 (pc' := 219) (lv' := [(0, .ref (B 0)), (3, .int 1), (4, .int v6), (5, .int v7)]) (st' := [.ref (B 0), .int v29, .ref (B 0)]) rfl ?_
                          refine so_mget C0 hK (j := 7) (v := .ref (B 6)) (by decide) wd_5_26 rfl rfl ?_
                          refine so_go C0 1 (pc' := 224) (lv' := [(0, .ref (B 0)), (3, .int 1), (4, .int v6), (5, .int v7)]) (st' := [.int v7, .ref (B 6), .int v29, .ref (B 0)]) rfl ?_
                          refine so_miald C0 hK (a := 5) (by decide) rfl rfl (by decide) rfl (fun v30 hv30 => ?_)
                          refine so_oV (As := [.int v29, .int v30]) (rest := []) C0 hK hA yk_Mod_pair (c_Mod_pair S5 v29 v30) wd_5_210 rfl rfl ⟨by rw [hf]; decide, by rw [hlo]; decide⟩ (Nat.le_of_ble_eq_true rfl) (mrc hK) (fun S31 hS31 => ?_)
                          refine so_go C0 1 (pc' := 13) (lv' := [(0, .ref (B 0)), (3, .int 1), (4, .int v6), (5, .int v7)]) (st' := []) rfl ?_
                          exact so_sub (lv' := [(0, .ref (B 0)), (3, .int 1)]) (zpk [0, 1] rfl) (ih13 S31 1)
              · refine so_go C0 1 (pc' := 121) (lv' := [(0, .ref (B 0)), (3, .int v10), (4, .int v6), (5, .int v7)]) (st' := [.ref (B 0)]) rfl ?_
                refine so_mget C0 hK (j := 4) (v := .ref (B 3)) (by decide) wd_5_23 rfl rfl ?_
                refine so_go C0 1 (pc' := 126) (lv' := [(0, .ref (B 0)), (3, .int v10), (4, .int v6), (5, .int v7)]) (st' := [.int v6, .ref (B 3)]) rfl ?_
                refine so_mbald C0 hK (a := 2) (by decide) rfl rfl (by decide) rfl (fun v32 hv32 => ?_)
                refine so_go C0 1 (pc' := 128) (lv' := [(0, .ref (B 0)), (3, .int v10), (4, .int v6), (5, .int v7)]) (st' := [.int 4, .int v32]) rfl ?_
                refine so_icmp_ne C0 rfl (fun h33 => ?_) (fun h33 => ?_)
                · refine so_go C0 1 (pc' := 143) (lv' := [(0, .ref (B 0)), (3, .int v10), (4, .int v6), (5, .int v7)]) (st' := [.int v10]) rfl ?_
                  refine so_if_eq C0 rfl (fun h34 => ?_) (fun h34 => ?_)
                  · refine so_go C0 1 (pc' := 13) (lv' := [(0, .ref (B 0)), (3, .int v10), (4, .int v6), (5, .int v7)]) (st' := []) rfl ?_
                    exact so_sub (lv' := [(0, .ref (B 0)), (3, .int v10)]) (zpk [0, 1] rfl) (ih13 S5 v10)
                  · refine so_go C0 3 (pc' := 151) (lv' := [(0, .ref (B 0)), (3, .int v10), (4, .int v6), (5, .int v7)]) (st' := [.int v7, .int v6, .ref (B 0)]) rfl ?_
                    refine so_op (As := [.int v6, .int v7]) (rest := []) C0 hK hA yk_Mod_areOne (c_Mod_areOne S5 v6 v7) wd_5_226 rfl rfl ⟨by rw [hf]; decide, by rw [hlo]; decide⟩ (Nat.le_of_ble_eq_true rfl) (mrc hK) (fun v35 hv35 => ?_)
                    refine so_if_eq C0 rfl (fun h36 => ?_) (fun h36 => ?_)
                    · refine so_go C0 3 (pc' := 197) (lv' := [(0, .ref (B 0)), (3, .int 0), (4, .int v6), (5, .int v7)]) (st' := [.int 0]) rfl ?_
                      refine so_if_eqT C0 rfl (by decide) ?_
                      refine so_go C0 1 (pc' := 13) (lv' := [(0, .ref (B 0)), (3, .int 0), (4, .int v6), (5, .int v7)]) (st' := []) rfl ?_
                      exact so_sub (lv' := [(0, .ref (B 0)), (3, .int 0)]) (zpk [0, 1] rfl) (ih13 S5 0)
                    · refine so_go C0 1 (pc' := 158) (lv' := [(0, .ref (B 0)), (3, .int v10), (4, .int v6), (5, .int v7)]) (st' := [.ref (B 0)]) rfl ?_
                      refine so_mget C0 hK (j := 7) (v := .ref (B 6)) (by decide) wd_5_26 rfl rfl ?_
                      refine so_go C0 1 (pc' := 163) (lv' := [(0, .ref (B 0)), (3, .int v10), (4, .int v6), (5, .int v7)]) (st' := [.int v6, .ref (B 6)]) rfl ?_
                      refine so_miald C0 hK (a := 5) (by decide) rfl rfl (by decide) rfl (fun v37 hv37 => ?_)
                      refine so_if_ge C0 rfl (fun h38 => ?_) (fun h38 => ?_)
                      · refine so_go C0 2 (pc' := 173) (lv' := [(0, .ref (B 0)), (3, .int v10), (4, .int v6), (5, .int v7)]) (st' := [.ref (B 0), .int 0]) rfl ?_
                        refine so_mget C0 hK (j := 7) (v := .ref (B 6)) (by decide) wd_5_26 rfl rfl ?_
                        refine so_go C0 1 (pc' := 178) (lv' := [(0, .ref (B 0)), (3, .int v10), (4, .int v6), (5, .int v7)]) (st' := [.int v7, .ref (B 6), .int 0]) rfl ?_
                        refine so_miald C0 hK (a := 5) (by decide) rfl rfl (by decide) rfl (fun v39 hv39 => ?_)
                        refine so_if_ge C0 rfl (fun h40 => ?_) (fun h40 => ?_)
                        · refine so_go C0 1 (pc' := 187) (lv' := [(0, .ref (B 0)), (3, .int v10), (4, .int v6), (5, .int v7)]) (st' := [.int 0, .int 0]) rfl ?_
                          refine so_icmp_neF C0 rfl (by decide) ?_
                          refine so_go C0 4 (pc' := 197) (lv' := [(0, .ref (B 0)), (3, .int 1), (4, .int v6), (5, .int v7)]) (st' := [.int 1]) rfl ?_
                          refine so_if_eqF C0 rfl (by decide) ?_
                          refine so_go C0 1 (pc' := 201) (lv' := [(0, .ref (B 0)), (3, .int 1), (4, .int v6), (5, .int v7)]) (st' := [.ref (B 0)]) rfl ?_
                          refine so_mget C0 hK (j := 7) (v := .ref (B 6)) (by decide) wd_5_26 rfl rfl ?_
                          refine so_go C0 1 (pc' := 206) (lv' := [(0, .ref (B 0)), (3, .int 1), (4, .int v6), (5, .int v7)]) (st' := [.int v6, .ref (B 6)]) rfl ?_
                          refine so_miald C0 hK (a := 5) (by decide) rfl rfl (by decide) rfl (fun v41 hv41 => ?_)
                          refine so_if_lt C0 rfl (fun h42 => ?_) (fun h42 => ?_)
                          · refine so_go C0 1 (pc' := 13) (lv' := [(0, .ref (B 0)), (3, .int 1), (4, .int v6), (5, .int v7)]) (st' := []) rfl ?_
                            exact so_sub (lv' := [(0, .ref (B 0)), (3, .int 1)]) (zpk [0, 1] rfl) (ih13 S5 1)
                          · refine so_go C0 2 (pc' := 212) (lv' := [(0, .ref (B 0)), (3, .int 1), (4, .int v6), (5, .int v7)]) (st' := [.ref (B 0), .ref (B 0)]) rfl ?_
                            refine so_mget C0 hK (j := 7) (v := .ref (B 6)) (by decide) wd_5_26 rfl rfl ?_
                            refine so_go C0 1 (pc' := 217) (lv' := [(0, .ref (B 0)), (3, .int 1), (4, .int v6), (5, .int v7)]) (st' := [.int v6, .ref (B 6), .ref (B 0)]) rfl ?_
                            refine so_miald C0 hK (a := 5) (by decide) rfl rfl (by decide) rfl (fun v43 hv43 => ?_)
                            refine so_go C0 1 (pc' := 219) (lv' := [(0, .ref (B 0)), (3, .int 1), (4, .int v6), (5, .int v7)]) (st' := [.ref (B 0), .int v43, .ref (B 0)]) rfl ?_
                            refine so_mget C0 hK (j := 7) (v := .ref (B 6)) (by decide) wd_5_26 rfl rfl ?_
                            refine so_go C0 1 (pc' := 224) (lv' := [(0, .ref (B 0)), (3, .int 1), (4, .int v6), (5, .int v7)]) (st' := [.int v7, .ref (B 6), .int v43, .ref (B 0)]) rfl ?_
                            refine so_miald C0 hK (a := 5) (by decide) rfl rfl (by decide) rfl (fun v44 hv44 => ?_)
                            refine so_oV (As := [.int v43, .int v44]) (rest := []) C0 hK hA yk_Mod_pair (c_Mod_pair S5 v43 v44) wd_5_210 rfl rfl ⟨by rw [hf]; decide, by rw [hlo]; decide⟩ (Nat.le_of_ble_eq_true rfl) (mrc hK) (fun S45 hS45 => ?_)
                            refine so_go C0 1 (pc' := 13) (lv' := [(0, .ref (B 0)), (3, .int 1), (4, .int v6), (5, .int v7)]) (st' := []) rfl ?_
                            exact so_sub (lv' := [(0, .ref (B 0)), (3, .int 1)]) (zpk [0, 1] rfl) (ih13 S45 1)
                        · refine so_go C0 2 (pc' := 187) (lv' := [(0, .ref (B 0)), (3, .int v10), (4, .int v6), (5, .int v7)]) (st' := [.int 1, .int 0]) rfl ?_
                          refine so_icmp_neT C0 rfl (by decide) ?_
                          refine so_go C0 3 (pc' := 197) (lv' := [(0, .ref (B 0)), (3, .int 0), (4, .int v6), (5, .int v7)]) (st' := [.int 0]) rfl ?_
                          refine so_if_eqT C0 rfl (by decide) ?_
                          refine so_go C0 1 (pc' := 13) (lv' := [(0, .ref (B 0)), (3, .int 0), (4, .int v6), (5, .int v7)]) (st' := []) rfl ?_
                          exact so_sub (lv' := [(0, .ref (B 0)), (3, .int 0)]) (zpk [0, 1] rfl) (ih13 S5 0)
                      · refine so_go C0 3 (pc' := 173) (lv' := [(0, .ref (B 0)), (3, .int v10), (4, .int v6), (5, .int v7)]) (st' := [.ref (B 0), .int 1]) rfl ?_
                        refine so_mget C0 hK (j := 7) (v := .ref (B 6)) (by decide) wd_5_26 rfl rfl ?_
                        refine so_go C0 1 (pc' := 178) (lv' := [(0, .ref (B 0)), (3, .int v10), (4, .int v6), (5, .int v7)]) (st' := [.int v7, .ref (B 6), .int 1]) rfl ?_
                        refine so_miald C0 hK (a := 5) (by decide) rfl rfl (by decide) rfl (fun v46 hv46 => ?_)
                        refine so_if_ge C0 rfl (fun h47 => ?_) (fun h47 => ?_)
                        · refine so_go C0 1 (pc' := 187) (lv' := [(0, .ref (B 0)), (3, .int v10), (4, .int v6), (5, .int v7)]) (st' := [.int 0, .int 1]) rfl ?_
                          refine so_icmp_neT C0 rfl (by decide) ?_
                          refine so_go C0 3 (pc' := 197) (lv' := [(0, .ref (B 0)), (3, .int 0), (4, .int v6), (5, .int v7)]) (st' := [.int 0]) rfl ?_
                          refine so_if_eqT C0 rfl (by decide) ?_
                          refine so_go C0 1 (pc' := 13) (lv' := [(0, .ref (B 0)), (3, .int 0), (4, .int v6), (5, .int v7)]) (st' := []) rfl ?_
                          exact so_sub (lv' := [(0, .ref (B 0)), (3, .int 0)]) (zpk [0, 1] rfl) (ih13 S5 0)
                        · refine so_go C0 2 (pc' := 187) (lv' := [(0, .ref (B 0)), (3, .int v10), (4, .int v6), (5, .int v7)]) (st' := [.int 1, .int 1]) rfl ?_
                          refine so_icmp_neF C0 rfl (by decide) ?_
                          refine so_go C0 4 (pc' := 197) (lv' := [(0, .ref (B 0)), (3, .int 1), (4, .int v6), (5, .int v7)]) (st' := [.int 1]) rfl ?_
                          refine so_if_eqF C0 rfl (by decide) ?_
                          refine so_go C0 1 (pc' := 201) (lv' := [(0, .ref (B 0)), (3, .int 1), (4, .int v6), (5, .int v7)]) (st' := [.ref (B 0)]) rfl ?_
                          refine so_mget C0 hK (j := 7) (v := .ref (B 6)) (by decide) wd_5_26 rfl rfl ?_
                          refine so_go C0 1 (pc' := 206) (lv' := [(0, .ref (B 0)), (3, .int 1), (4, .int v6), (5, .int v7)]) (st' := [.int v6, .ref (B 6)]) rfl ?_
                          refine so_miald C0 hK (a := 5) (by decide) rfl rfl (by decide) rfl (fun v48 hv48 => ?_)
                          refine so_if_lt C0 rfl (fun h49 => ?_) (fun h49 => ?_)
                          · refine so_go C0 1 (pc' := 13) (lv' := [(0, .ref (B 0)), (3, .int 1), (4, .int v6), (5, .int v7)]) (st' := []) rfl ?_
                            exact so_sub (lv' := [(0, .ref (B 0)), (3, .int 1)]) (zpk [0, 1] rfl) (ih13 S5 1)
                          · refine so_go C0 2 (pc' := 212) (lv' := [(0, .ref (B 0)), (3, .int 1), (4, .int v6), (5, .int v7)]) (st' := [.ref (B 0), .ref (B 0)]) rfl ?_
                            refine so_mget C0 hK (j := 7) (v := .ref (B 6)) (by decide) wd_5_26 rfl rfl ?_
                            refine so_go C0 1 (pc' := 217) (lv' := [(0, .ref (B 0)), (3, .int 1), (4, .int v6), (5, .int v7)]) (st' := [.int v6, .ref (B 6), .ref (B 0)]) rfl ?_
                            refine so_miald C0 hK (a := 5) (by decide) rfl rfl (by decide) rfl (fun v50 hv50 => ?_)
                            refine so_go C0 1 (pc' := 219) (lv' := [(0, .ref (B 0)), (3, .int 1), (4, .int v6), (5, .int v7)]) (st' := [.ref (B 0), .int v50, .ref (B 0)]) rfl ?_
                            refine so_mget C0 hK (j := 7) (v := .ref (B 6)) (by decide) wd_5_26 rfl rfl ?_
                            refine so_go C0 1 (pc' := 224) (lv' := [(0, .ref (B 0)), (3, .int 1), (4, .int v6), (5, .int v7)]) (st' := [.int v7, .ref (B 6), .int v50, .ref (B 0)]) rfl ?_
                            refine so_miald C0 hK (a := 5) (by decide) rfl rfl (by decide) rfl (fun v51 hv51 => ?_)
                            refine so_oV (As := [.int v50, .int v51]) (rest := []) C0 hK hA yk_Mod_pair (c_Mod_pair S5 v50 v51) wd_5_210 rfl rfl ⟨by rw [hf]; decide, by rw [hlo]; decide⟩ (Nat.le_of_ble_eq_true rfl) (mrc hK) (fun S52 hS52 => ?_)
                            refine so_go C0 1 (pc' := 13) (lv' := [(0, .ref (B 0)), (3, .int 1), (4, .int v6), (5, .int v7)]) (st' := []) rfl ?_
                            exact so_sub (lv' := [(0, .ref (B 0)), (3, .int 1)]) (zpk [0, 1] rfl) (ih13 S52 1)
                · refine so_go C0 3 (pc' := 136) (lv' := [(0, .ref (B 0)), (3, .int v10), (4, .int v6), (5, .int v7)]) (st' := [.int v7, .int v6, .ref (B 0)]) rfl ?_
                  refine so_oV (As := [.int v6, .int v7]) (rest := []) C0 hK hA yk_Mod_pairFields (c_Mod_pairFields S5 v6 v7) wd_5_218 rfl rfl ⟨by rw [hf]; decide, by rw [hlo]; decide⟩ (Nat.le_of_ble_eq_true rfl) (mrc hK) (fun S53 hS53 => ?_)
                  refine so_go C0 2 (pc' := 13) (lv' := [(0, .ref (B 0)), (3, .int v10), (4, .int v6), (5, .int v7)]) (st' := []) rfl ?_
                  exact so_sub (lv' := [(0, .ref (B 0)), (3, .int v10)]) (zpk [0, 1] rfl) (ih13 S53 v10)
            · refine so_go C0 1 (pc' := 80) (lv' := [(0, .ref (B 0)), (3, .int v10), (4, .int v6), (5, .int v7)]) (st' := [.ref (B 0)]) rfl ?_
              refine so_mget C0 hK (j := 4) (v := .ref (B 3)) (by decide) wd_5_23 rfl rfl ?_
              refine so_go C0 1 (pc' := 85) (lv' := [(0, .ref (B 0)), (3, .int v10), (4, .int v6), (5, .int v7)]) (st' := [.int v6, .ref (B 3)]) rfl ?_
              refine so_mbald C0 hK (a := 2) (by decide) rfl rfl (by decide) rfl (fun v54 hv54 => ?_)
              refine so_go C0 1 (pc' := 87) (lv' := [(0, .ref (B 0)), (3, .int v10), (4, .int v6), (5, .int v7)]) (st' := [.int 1, .int v54]) rfl ?_
              refine so_icmp_ne C0 rfl (fun h55 => ?_) (fun h55 => ?_)
              · refine so_go C0 1 (pc' := 117) (lv' := [(0, .ref (B 0)), (3, .int v10), (4, .int v6), (5, .int v7)]) (st' := [.int v10]) rfl ?_
                refine so_if_eq C0 rfl (fun h56 => ?_) (fun h56 => ?_)
                · refine so_go C0 1 (pc' := 143) (lv' := [(0, .ref (B 0)), (3, .int v10), (4, .int v6), (5, .int v7)]) (st' := [.int v10]) rfl ?_
                  refine so_if_eq C0 rfl (fun h57 => ?_) (fun h57 => ?_)
                  · refine so_go C0 1 (pc' := 13) (lv' := [(0, .ref (B 0)), (3, .int v10), (4, .int v6), (5, .int v7)]) (st' := []) rfl ?_
                    exact so_sub (lv' := [(0, .ref (B 0)), (3, .int v10)]) (zpk [0, 1] rfl) (ih13 S5 v10)
                  · refine so_go C0 3 (pc' := 151) (lv' := [(0, .ref (B 0)), (3, .int v10), (4, .int v6), (5, .int v7)]) (st' := [.int v7, .int v6, .ref (B 0)]) rfl ?_
                    refine so_op (As := [.int v6, .int v7]) (rest := []) C0 hK hA yk_Mod_areOne (c_Mod_areOne S5 v6 v7) wd_5_226 rfl rfl ⟨by rw [hf]; decide, by rw [hlo]; decide⟩ (Nat.le_of_ble_eq_true rfl) (mrc hK) (fun v58 hv58 => ?_)
                    refine so_if_eq C0 rfl (fun h59 => ?_) (fun h59 => ?_)
                    · refine so_go C0 3 (pc' := 197) (lv' := [(0, .ref (B 0)), (3, .int 0), (4, .int v6), (5, .int v7)]) (st' := [.int 0]) rfl ?_
                      refine so_if_eqT C0 rfl (by decide) ?_
                      refine so_go C0 1 (pc' := 13) (lv' := [(0, .ref (B 0)), (3, .int 0), (4, .int v6), (5, .int v7)]) (st' := []) rfl ?_
                      exact so_sub (lv' := [(0, .ref (B 0)), (3, .int 0)]) (zpk [0, 1] rfl) (ih13 S5 0)
                    · refine so_go C0 1 (pc' := 158) (lv' := [(0, .ref (B 0)), (3, .int v10), (4, .int v6), (5, .int v7)]) (st' := [.ref (B 0)]) rfl ?_
                      refine so_mget C0 hK (j := 7) (v := .ref (B 6)) (by decide) wd_5_26 rfl rfl ?_
                      refine so_go C0 1 (pc' := 163) (lv' := [(0, .ref (B 0)), (3, .int v10), (4, .int v6), (5, .int v7)]) (st' := [.int v6, .ref (B 6)]) rfl ?_
                      refine so_miald C0 hK (a := 5) (by decide) rfl rfl (by decide) rfl (fun v60 hv60 => ?_)
                      refine so_if_ge C0 rfl (fun h61 => ?_) (fun h61 => ?_)
                      · refine so_go C0 2 (pc' := 173) (lv' := [(0, .ref (B 0)), (3, .int v10), (4, .int v6), (5, .int v7)]) (st' := [.ref (B 0), .int 0]) rfl ?_
                        refine so_mget C0 hK (j := 7) (v := .ref (B 6)) (by decide) wd_5_26 rfl rfl ?_
                        refine so_go C0 1 (pc' := 178) (lv' := [(0, .ref (B 0)), (3, .int v10), (4, .int v6), (5, .int v7)]) (st' := [.int v7, .ref (B 6), .int 0]) rfl ?_
                        refine so_miald C0 hK (a := 5) (by decide) rfl rfl (by decide) rfl (fun v62 hv62 => ?_)
                        refine so_if_ge C0 rfl (fun h63 => ?_) (fun h63 => ?_)
                        · refine so_go C0 1 (pc' := 187) (lv' := [(0, .ref (B 0)), (3, .int v10), (4, .int v6), (5, .int v7)]) (st' := [.int 0, .int 0]) rfl ?_
                          refine so_icmp_neF C0 rfl (by decide) ?_
                          refine so_go C0 4 (pc' := 197) (lv' := [(0, .ref (B 0)), (3, .int 1), (4, .int v6), (5, .int v7)]) (st' := [.int 1]) rfl ?_
                          refine so_if_eqF C0 rfl (by decide) ?_
                          refine so_go C0 1 (pc' := 201) (lv' := [(0, .ref (B 0)), (3, .int 1), (4, .int v6), (5, .int v7)]) (st' := [.ref (B 0)]) rfl ?_
                          refine so_mget C0 hK (j := 7) (v := .ref (B 6)) (by decide) wd_5_26 rfl rfl ?_
                          refine so_go C0 1 (pc' := 206) (lv' := [(0, .ref (B 0)), (3, .int 1), (4, .int v6), (5, .int v7)]) (st' := [.int v6, .ref (B 6)]) rfl ?_
                          refine so_miald C0 hK (a := 5) (by decide) rfl rfl (by decide) rfl (fun v64 hv64 => ?_)
                          refine so_if_lt C0 rfl (fun h65 => ?_) (fun h65 => ?_)
                          · refine so_go C0 1 (pc' := 13) (lv' := [(0, .ref (B 0)), (3, .int 1), (4, .int v6), (5, .int v7)]) (st' := []) rfl ?_
                            exact so_sub (lv' := [(0, .ref (B 0)), (3, .int 1)]) (zpk [0, 1] rfl) (ih13 S5 1)
                          · refine so_go C0 2 (pc' := 212) (lv' := [(0, .ref (B 0)), (3, .int 1), (4, .int v6), (5, .int v7)]) (st' := [.ref (B 0), .ref (B 0)]) rfl ?_
                            refine so_mget C0 hK (j := 7) (v := .ref (B 6)) (by decide) wd_5_26 rfl rfl ?_
                            refine so_go C0 1 (pc' := 217) (lv' := [(0, .ref (B 0)), (3, .int 1), (4, .int v6), (5, .int v7)]) (st' := [.int v6, .ref (B 6), .ref (B 0)]) rfl ?_
                            refine so_miald C0 hK (a := 5) (by decide) rfl rfl (by decide) rfl (fun v66 hv66 => ?_)
                            refine so_go C0 1 (pc' := 219) (lv' := [(0, .ref (B 0)), (3, .int 1), (4, .int v6), (5, .int v7)]) (st' := [.ref (B 0), .int v66, .ref (B 0)]) rfl ?_
                            refine so_mget C0 hK (j := 7) (v := .ref (B 6)) (by decide) wd_5_26 rfl rfl ?_
                            refine so_go C0 1 (pc' := 224) (lv' := [(0, .ref (B 0)), (3, .int 1), (4, .int v6), (5, .int v7)]) (st' := [.int v7, .ref (B 6), .int v66, .ref (B 0)]) rfl ?_
                            refine so_miald C0 hK (a := 5) (by decide) rfl rfl (by decide) rfl (fun v67 hv67 => ?_)
                            refine so_oV (As := [.int v66, .int v67]) (rest := []) C0 hK hA yk_Mod_pair (c_Mod_pair S5 v66 v67) wd_5_210 rfl rfl ⟨by rw [hf]; decide, by rw [hlo]; decide⟩ (Nat.le_of_ble_eq_true rfl) (mrc hK) (fun S68 hS68 => ?_)
                            refine so_go C0 1 (pc' := 13) (lv' := [(0, .ref (B 0)), (3, .int 1), (4, .int v6), (5, .int v7)]) (st' := []) rfl ?_
                            exact so_sub (lv' := [(0, .ref (B 0)), (3, .int 1)]) (zpk [0, 1] rfl) (ih13 S68 1)
                        · refine so_go C0 2 (pc' := 187) (lv' := [(0, .ref (B 0)), (3, .int v10), (4, .int v6), (5, .int v7)]) (st' := [.int 1, .int 0]) rfl ?_
                          refine so_icmp_neT C0 rfl (by decide) ?_
                          refine so_go C0 3 (pc' := 197) (lv' := [(0, .ref (B 0)), (3, .int 0), (4, .int v6), (5, .int v7)]) (st' := [.int 0]) rfl ?_
                          refine so_if_eqT C0 rfl (by decide) ?_
                          refine so_go C0 1 (pc' := 13) (lv' := [(0, .ref (B 0)), (3, .int 0), (4, .int v6), (5, .int v7)]) (st' := []) rfl ?_
                          exact so_sub (lv' := [(0, .ref (B 0)), (3, .int 0)]) (zpk [0, 1] rfl) (ih13 S5 0)
                      · refine so_go C0 3 (pc' := 173) (lv' := [(0, .ref (B 0)), (3, .int v10), (4, .int v6), (5, .int v7)]) (st' := [.ref (B 0), .int 1]) rfl ?_
                        refine so_mget C0 hK (j := 7) (v := .ref (B 6)) (by decide) wd_5_26 rfl rfl ?_
                        refine so_go C0 1 (pc' := 178) (lv' := [(0, .ref (B 0)), (3, .int v10), (4, .int v6), (5, .int v7)]) (st' := [.int v7, .ref (B 6), .int 1]) rfl ?_
                        refine so_miald C0 hK (a := 5) (by decide) rfl rfl (by decide) rfl (fun v69 hv69 => ?_)
                        refine so_if_ge C0 rfl (fun h70 => ?_) (fun h70 => ?_)
                        · refine so_go C0 1 (pc' := 187) (lv' := [(0, .ref (B 0)), (3, .int v10), (4, .int v6), (5, .int v7)]) (st' := [.int 0, .int 1]) rfl ?_
                          refine so_icmp_neT C0 rfl (by decide) ?_
                          refine so_go C0 3 (pc' := 197) (lv' := [(0, .ref (B 0)), (3, .int 0), (4, .int v6), (5, .int v7)]) (st' := [.int 0]) rfl ?_
                          refine so_if_eqT C0 rfl (by decide) ?_
                          refine so_go C0 1 (pc' := 13) (lv' := [(0, .ref (B 0)), (3, .int 0), (4, .int v6), (5, .int v7)]) (st' := []) rfl ?_
                          exact so_sub (lv' := [(0, .ref (B 0)), (3, .int 0)]) (zpk [0, 1] rfl) (ih13 S5 0)
                        · refine so_go C0 2 (pc' := 187) (lv' := [(0, .ref (B 0)), (3, .int v10), (4, .int v6), (5, .int v7)]) (st' := [.int 1, .int 1]) rfl ?_
                          refine so_icmp_neF C0 rfl (by decide) ?_
                          refine so_go C0 4 (pc' := 197) (lv' := [(0, .ref (B 0)), (3, .int 1), (4, .int v6), (5, .int v7)]) (st' := [.int 1]) rfl ?_
                          refine so_if_eqF C0 rfl (by decide) ?_
                          refine so_go C0 1 (pc' := 201) (lv' := [(0, .ref (B 0)), (3, .int 1), (4, .int v6), (5, .int v7)]) (st' := [.ref (B 0)]) rfl ?_
                          refine so_mget C0 hK (j := 7) (v := .ref (B 6)) (by decide) wd_5_26 rfl rfl ?_
                          refine so_go C0 1 (pc' := 206) (lv' := [(0, .ref (B 0)), (3, .int 1), (4, .int v6), (5, .int v7)]) (st' := [.int v6, .ref (B 6)]) rfl ?_
                          refine so_miald C0 hK (a := 5) (by decide) rfl rfl (by decide) rfl (fun v71 hv71 => ?_)
                          refine so_if_lt C0 rfl (fun h72 => ?_) (fun h72 => ?_)
                          · refine so_go C0 1 (pc' := 13) (lv' := [(0, .ref (B 0)), (3, .int 1), (4, .int v6), (5, .int v7)]) (st' := []) rfl ?_
                            exact so_sub (lv' := [(0, .ref (B 0)), (3, .int 1)]) (zpk [0, 1] rfl) (ih13 S5 1)
                          · refine so_go C0 2 (pc' := 212) (lv' := [(0, .ref (B 0)), (3, .int 1), (4, .int v6), (5, .int v7)]) (st' := [.ref (B 0), .ref (B 0)]) rfl ?_
                            refine so_mget C0 hK (j := 7) (v := .ref (B 6)) (by decide) wd_5_26 rfl rfl ?_
                            refine so_go C0 1 (pc' := 217) (lv' := [(0, .ref (B 0)), (3, .int 1), (4, .int v6), (5, .int v7)]) (st' := [.int v6, .ref (B 6), .ref (B 0)]) rfl ?_
                            refine so_miald C0 hK (a := 5) (by decide) rfl rfl (by decide) rfl (fun v73 hv73 => ?_)
                            refine so_go C0 1 (pc' := 219) (lv' := [(0, .ref (B 0)), (3, .int 1), (4, .int v6), (5, .int v7)]) (st' := [.ref (B 0), .int v73, .ref (B 0)]) rfl ?_
                            refine so_mget C0 hK (j := 7) (v := .ref (B 6)) (by decide) wd_5_26 rfl rfl ?_
                            refine so_go C0 1 (pc' := 224) (lv' := [(0, .ref (B 0)), (3, .int 1), (4, .int v6), (5, .int v7)]) (st' := [.int v7, .ref (B 6), .int v73, .ref (B 0)]) rfl ?_
                            refine so_miald C0 hK (a := 5) (by decide) rfl rfl (by decide) rfl (fun v74 hv74 => ?_)
                            refine so_oV (As := [.int v73, .int v74]) (rest := []) C0 hK hA yk_Mod_pair (c_Mod_pair S5 v73 v74) wd_5_210 rfl rfl ⟨by rw [hf]; decide, by rw [hlo]; decide⟩ (Nat.le_of_ble_eq_true rfl) (mrc hK) (fun S75 hS75 => ?_)
                            refine so_go C0 1 (pc' := 13) (lv' := [(0, .ref (B 0)), (3, .int 1), (4, .int v6), (5, .int v7)]) (st' := []) rfl ?_
                            exact so_sub (lv' := [(0, .ref (B 0)), (3, .int 1)]) (zpk [0, 1] rfl) (ih13 S75 1)
                · refine so_go C0 1 (pc' := 121) (lv' := [(0, .ref (B 0)), (3, .int v10), (4, .int v6), (5, .int v7)]) (st' := [.ref (B 0)]) rfl ?_
                  refine so_mget C0 hK (j := 4) (v := .ref (B 3)) (by decide) wd_5_23 rfl rfl ?_
                  refine so_go C0 1 (pc' := 126) (lv' := [(0, .ref (B 0)), (3, .int v10), (4, .int v6), (5, .int v7)]) (st' := [.int v6, .ref (B 3)]) rfl ?_
                  refine so_mbald C0 hK (a := 2) (by decide) rfl rfl (by decide) rfl (fun v76 hv76 => ?_)
                  refine so_go C0 1 (pc' := 128) (lv' := [(0, .ref (B 0)), (3, .int v10), (4, .int v6), (5, .int v7)]) (st' := [.int 4, .int v76]) rfl ?_
                  refine so_icmp_ne C0 rfl (fun h77 => ?_) (fun h77 => ?_)
                  · refine so_go C0 1 (pc' := 143) (lv' := [(0, .ref (B 0)), (3, .int v10), (4, .int v6), (5, .int v7)]) (st' := [.int v10]) rfl ?_
                    refine so_if_eq C0 rfl (fun h78 => ?_) (fun h78 => ?_)
                    · refine so_go C0 1 (pc' := 13) (lv' := [(0, .ref (B 0)), (3, .int v10), (4, .int v6), (5, .int v7)]) (st' := []) rfl ?_
                      exact so_sub (lv' := [(0, .ref (B 0)), (3, .int v10)]) (zpk [0, 1] rfl) (ih13 S5 v10)
                    · refine so_go C0 3 (pc' := 151) (lv' := [(0, .ref (B 0)), (3, .int v10), (4, .int v6), (5, .int v7)]) (st' := [.int v7, .int v6, .ref (B 0)]) rfl ?_
                      refine so_op (As := [.int v6, .int v7]) (rest := []) C0 hK hA yk_Mod_areOne (c_Mod_areOne S5 v6 v7) wd_5_226 rfl rfl ⟨by rw [hf]; decide, by rw [hlo]; decide⟩ (Nat.le_of_ble_eq_true rfl) (mrc hK) (fun v79 hv79 => ?_)
                      refine so_if_eq C0 rfl (fun h80 => ?_) (fun h80 => ?_)
                      · refine so_go C0 3 (pc' := 197) (lv' := [(0, .ref (B 0)), (3, .int 0), (4, .int v6), (5, .int v7)]) (st' := [.int 0]) rfl ?_
                        refine so_if_eqT C0 rfl (by decide) ?_
                        refine so_go C0 1 (pc' := 13) (lv' := [(0, .ref (B 0)), (3, .int 0), (4, .int v6), (5, .int v7)]) (st' := []) rfl ?_
                        exact so_sub (lv' := [(0, .ref (B 0)), (3, .int 0)]) (zpk [0, 1] rfl) (ih13 S5 0)
                      · refine so_go C0 1 (pc' := 158) (lv' := [(0, .ref (B 0)), (3, .int v10), (4, .int v6), (5, .int v7)]) (st' := [.ref (B 0)]) rfl ?_
                        refine so_mget C0 hK (j := 7) (v := .ref (B 6)) (by decide) wd_5_26 rfl rfl ?_
                        refine so_go C0 1 (pc' := 163) (lv' := [(0, .ref (B 0)), (3, .int v10), (4, .int v6), (5, .int v7)]) (st' := [.int v6, .ref (B 6)]) rfl ?_
                        refine so_miald C0 hK (a := 5) (by decide) rfl rfl (by decide) rfl (fun v81 hv81 => ?_)
                        refine so_if_ge C0 rfl (fun h82 => ?_) (fun h82 => ?_)
                        · refine so_go C0 2 (pc' := 173) (lv' := [(0, .ref (B 0)), (3, .int v10), (4, .int v6), (5, .int v7)]) (st' := [.ref (B 0), .int 0]) rfl ?_
                          refine so_mget C0 hK (j := 7) (v := .ref (B 6)) (by decide) wd_5_26 rfl rfl ?_
                          refine so_go C0 1 (pc' := 178) (lv' := [(0, .ref (B 0)), (3, .int v10), (4, .int v6), (5, .int v7)]) (st' := [.int v7, .ref (B 6), .int 0]) rfl ?_
                          refine so_miald C0 hK (a := 5) (by decide) rfl rfl (by decide) rfl (fun v83 hv83 => ?_)
                          refine so_if_ge C0 rfl (fun h84 => ?_) (fun h84 => ?_)
                          · refine so_go C0 1 (pc' := 187) (lv' := [(0, .ref (B 0)), (3, .int v10), (4, .int v6), (5, .int v7)]) (st' := [.int 0, .int 0]) rfl ?_
                            refine so_icmp_neF C0 rfl (by decide) ?_
                            refine so_go C0 4 (pc' := 197) (lv' := [(0, .ref (B 0)), (3, .int 1), (4, .int v6), (5, .int v7)]) (st' := [.int 1]) rfl ?_
                            refine so_if_eqF C0 rfl (by decide) ?_
                            refine so_go C0 1 (pc' := 201) (lv' := [(0, .ref (B 0)), (3, .int 1), (4, .int v6), (5, .int v7)]) (st' := [.ref (B 0)]) rfl ?_
                            refine so_mget C0 hK (j := 7) (v := .ref (B 6)) (by decide) wd_5_26 rfl rfl ?_
                            refine so_go C0 1 (pc' := 206) (lv' := [(0, .ref (B 0)), (3, .int 1), (4, .int v6), (5, .int v7)]) (st' := [.int v6, .ref (B 6)]) rfl ?_
                            refine so_miald C0 hK (a := 5) (by decide) rfl rfl (by decide) rfl (fun v85 hv85 => ?_)
                            refine so_if_lt C0 rfl (fun h86 => ?_) (fun h86 => ?_)
                            · refine so_go C0 1 (pc' := 13) (lv' := [(0, .ref (B 0)), (3, .int 1), (4, .int v6), (5, .int v7)]) (st' := []) rfl ?_
                              exact so_sub (lv' := [(0, .ref (B 0)), (3, .int 1)]) (zpk [0, 1] rfl) (ih13 S5 1)
                            · refine so_go C0 2 (pc' := 212) (lv' := [(0, .ref (B 0)), (3, .int 1), (4, .int v6), (5, .int v7)]) (st' := [.ref (B 0), .ref (B 0)]) rfl ?_
                              refine so_mget C0 hK (j := 7) (v := .ref (B 6)) (by decide) wd_5_26 rfl rfl ?_
                              refine so_go C0 1 (pc' := 217) (lv' := [(0, .ref (B 0)), (3, .int 1), (4, .int v6), (5, .int v7)]) (st' := [.int v6, .ref (B 6), .ref (B 0)]) rfl ?_
                              refine so_miald C0 hK (a := 5) (by decide) rfl rfl (by decide) rfl (fun v87 hv87 => ?_)
                              refine so_go C0 1 (pc' := 219) (lv' := [(0, .ref (B 0)), (3, .int 1), (4, .int v6), (5, .int v7)]) (st' := [.ref (B 0), .int v87, .ref (B 0)]) rfl ?_
                              refine so_mget C0 hK (j := 7) (v := .ref (B 6)) (by decide) wd_5_26 rfl rfl ?_
                              refine so_go C0 1 (pc' := 224) (lv' := [(0, .ref (B 0)), (3, .int 1), (4, .int v6), (5, .int v7)]) (st' := [.int v7, .ref (B 6), .int v87, .ref (B 0)]) rfl ?_
                              refine so_miald C0 hK (a := 5) (by decide) rfl rfl (by decide) rfl (fun v88 hv88 => ?_)
                              refine so_oV (As := [.int v87, .int v88]) (rest := []) C0 hK hA yk_Mod_pair (c_Mod_pair S5 v87 v88) wd_5_210 rfl rfl ⟨by rw [hf]; decide, by rw [hlo]; decide⟩ (Nat.le_of_ble_eq_true rfl) (mrc hK) (fun S89 hS89 => ?_)
                              refine so_go C0 1 (pc' := 13) (lv' := [(0, .ref (B 0)), (3, .int 1), (4, .int v6), (5, .int v7)]) (st' := []) rfl ?_
                              exact so_sub (lv' := [(0, .ref (B 0)), (3, .int 1)]) (zpk [0, 1] rfl) (ih13 S89 1)
                          · refine so_go C0 2 (pc' := 187) (lv' := [(0, .ref (B 0)), (3, .int v10), (4, .int v6), (5, .int v7)]) (st' := [.int 1, .int 0]) rfl ?_
                            refine so_icmp_neT C0 rfl (by decide) ?_
                            refine so_go C0 3 (pc' := 197) (lv' := [(0, .ref (B 0)), (3, .int 0), (4, .int v6), (5, .int v7)]) (st' := [.int 0]) rfl ?_
                            refine so_if_eqT C0 rfl (by decide) ?_
                            refine so_go C0 1 (pc' := 13) (lv' := [(0, .ref (B 0)), (3, .int 0), (4, .int v6), (5, .int v7)]) (st' := []) rfl ?_
                            exact so_sub (lv' := [(0, .ref (B 0)), (3, .int 0)]) (zpk [0, 1] rfl) (ih13 S5 0)
                        · refine so_go C0 3 (pc' := 173) (lv' := [(0, .ref (B 0)), (3, .int v10), (4, .int v6), (5, .int v7)]) (st' := [.ref (B 0), .int 1]) rfl ?_
                          refine so_mget C0 hK (j := 7) (v := .ref (B 6)) (by decide) wd_5_26 rfl rfl ?_
                          refine so_go C0 1 (pc' := 178) (lv' := [(0, .ref (B 0)), (3, .int v10), (4, .int v6), (5, .int v7)]) (st' := [.int v7, .ref (B 6), .int 1]) rfl ?_
                          refine so_miald C0 hK (a := 5) (by decide) rfl rfl (by decide) rfl (fun v90 hv90 => ?_)
                          refine so_if_ge C0 rfl (fun h91 => ?_) (fun h91 => ?_)
                          · refine so_go C0 1 (pc' := 187) (lv' := [(0, .ref (B 0)), (3, .int v10), (4, .int v6), (5, .int v7)]) (st' := [.int 0, .int 1]) rfl ?_
                            refine so_icmp_neT C0 rfl (by decide) ?_
                            refine so_go C0 3 (pc' := 197) (lv' := [(0, .ref (B 0)), (3, .int 0), (4, .int v6), (5, .int v7)]) (st' := [.int 0]) rfl ?_
                            refine so_if_eqT C0 rfl (by decide) ?_
                            refine so_go C0 1 (pc' := 13) (lv' := [(0, .ref (B 0)), (3, .int 0), (4, .int v6), (5, .int v7)]) (st' := []) rfl ?_
                            exact so_sub (lv' := [(0, .ref (B 0)), (3, .int 0)]) (zpk [0, 1] rfl) (ih13 S5 0)
                          · refine so_go C0 2 (pc' := 187) (lv' := [(0, .ref (B 0)), (3, .int v10), (4, .int v6), (5, .int v7)]) (st' := [.int 1, .int 1]) rfl ?_
                            refine so_icmp_neF C0 rfl (by decide) ?_
                            refine so_go C0 4 (pc' := 197) (lv' := [(0, .ref (B 0)), (3, .int 1), (4, .int v6), (5, .int v7)]) (st' := [.int 1]) rfl ?_
                            refine so_if_eqF C0 rfl (by decide) ?_
                            refine so_go C0 1 (pc' := 201) (lv' := [(0, .ref (B 0)), (3, .int 1), (4, .int v6), (5, .int v7)]) (st' := [.ref (B 0)]) rfl ?_
                            refine so_mget C0 hK (j := 7) (v := .ref (B 6)) (by decide) wd_5_26 rfl rfl ?_
                            refine so_go C0 1 (pc' := 206) (lv' := [(0, .ref (B 0)), (3, .int 1), (4, .int v6), (5, .int v7)]) (st' := [.int v6, .ref (B 6)]) rfl ?_
                            refine so_miald C0 hK (a := 5) (by decide) rfl rfl (by decide) rfl (fun v92 hv92 => ?_)
                            refine so_if_lt C0 rfl (fun h93 => ?_) (fun h93 => ?_)
                            · refine so_go C0 1 (pc' := 13) (lv' := [(0, .ref (B 0)), (3, .int 1), (4, .int v6), (5, .int v7)]) (st' := []) rfl ?_
                              exact so_sub (lv' := [(0, .ref (B 0)), (3, .int 1)]) (zpk [0, 1] rfl) (ih13 S5 1)
                            · refine so_go C0 2 (pc' := 212) (lv' := [(0, .ref (B 0)), (3, .int 1), (4, .int v6), (5, .int v7)]) (st' := [.ref (B 0), .ref (B 0)]) rfl ?_
                              refine so_mget C0 hK (j := 7) (v := .ref (B 6)) (by decide) wd_5_26 rfl rfl ?_
                              refine so_go C0 1 (pc' := 217) (lv' := [(0, .ref (B 0)), (3, .int 1), (4, .int v6), (5, .int v7)]) (st' := [.int v6, .ref (B 6), .ref (B 0)]) rfl ?_
                              refine so_miald C0 hK (a := 5) (by decide) rfl rfl (by decide) rfl (fun v94 hv94 => ?_)
                              refine so_go C0 1 (pc' := 219) (lv' := [(0, .ref (B 0)), (3, .int 1), (4, .int v6), (5, .int v7)]) (st' := [.ref (B 0), .int v94, .ref (B 0)]) rfl ?_
                              refine so_mget C0 hK (j := 7) (v := .ref (B 6)) (by decide) wd_5_26 rfl rfl ?_
                              refine so_go C0 1 (pc' := 224) (lv' := [(0, .ref (B 0)), (3, .int 1), (4, .int v6), (5, .int v7)]) (st' := [.int v7, .ref (B 6), .int v94, .ref (B 0)]) rfl ?_
                              refine so_miald C0 hK (a := 5) (by decide) rfl rfl (by decide) rfl (fun v95 hv95 => ?_)
                              refine so_oV (As := [.int v94, .int v95]) (rest := []) C0 hK hA yk_Mod_pair (c_Mod_pair S5 v94 v95) wd_5_210 rfl rfl ⟨by rw [hf]; decide, by rw [hlo]; decide⟩ (Nat.le_of_ble_eq_true rfl) (mrc hK) (fun S96 hS96 => ?_)
                              refine so_go C0 1 (pc' := 13) (lv' := [(0, .ref (B 0)), (3, .int 1), (4, .int v6), (5, .int v7)]) (st' := []) rfl ?_
                              exact so_sub (lv' := [(0, .ref (B 0)), (3, .int 1)]) (zpk [0, 1] rfl) (ih13 S96 1)
                  · refine so_go C0 3 (pc' := 136) (lv' := [(0, .ref (B 0)), (3, .int v10), (4, .int v6), (5, .int v7)]) (st' := [.int v7, .int v6, .ref (B 0)]) rfl ?_
                    refine so_oV (As := [.int v6, .int v7]) (rest := []) C0 hK hA yk_Mod_pairFields (c_Mod_pairFields S5 v6 v7) wd_5_218 rfl rfl ⟨by rw [hf]; decide, by rw [hlo]; decide⟩ (Nat.le_of_ble_eq_true rfl) (mrc hK) (fun S97 hS97 => ?_)
                    refine so_go C0 2 (pc' := 13) (lv' := [(0, .ref (B 0)), (3, .int v10), (4, .int v6), (5, .int v7)]) (st' := []) rfl ?_
                    exact so_sub (lv' := [(0, .ref (B 0)), (3, .int v10)]) (zpk [0, 1] rfl) (ih13 S97 v10)
              · refine so_go C0 1 (pc' := 91) (lv' := [(0, .ref (B 0)), (3, .int v10), (4, .int v6), (5, .int v7)]) (st' := [.ref (B 0)]) rfl ?_
                refine so_mget C0 hK (j := 6) (v := .ref (B 5)) (by decide) wd_5_25 rfl rfl ?_
                refine so_go C0 1 (pc' := 96) (lv' := [(0, .ref (B 0)), (3, .int v10), (4, .int v6), (5, .int v7)]) (st' := [.int v6, .ref (B 5)]) rfl ?_
                refine so_miald C0 hK (a := 4) (by decide) rfl rfl (by decide) rfl (fun v98 hv98 => ?_)
                refine so_go C0 1 (pc' := 98) (lv' := [(0, .ref (B 0)), (3, .int v10), (4, .int v6), (5, .int v7)]) (st' := [.ref (B 0), .int v98]) rfl ?_
                refine so_mget C0 hK (j := 6) (v := .ref (B 5)) (by decide) wd_5_25 rfl rfl ?_
                refine so_go C0 1 (pc' := 103) (lv' := [(0, .ref (B 0)), (3, .int v10), (4, .int v6), (5, .int v7)]) (st' := [.int v7, .ref (B 5), .int v98]) rfl ?_
                refine so_miald C0 hK (a := 4) (by decide) rfl rfl (by decide) rfl (fun v99 hv99 => ?_)
                refine so_icmp_ne C0 rfl (fun h100 => ?_) (fun h100 => ?_)
                · refine so_go C0 4 (pc' := 13) (lv' := [(0, .ref (B 0)), (3, .int 0), (4, .int v6), (5, .int v7)]) (st' := []) rfl ?_
                  exact so_sub (lv' := [(0, .ref (B 0)), (3, .int 0)]) (zpk [0, 1] rfl) (ih13 S5 0)
                · refine so_go C0 5 (pc' := 13) (lv' := [(0, .ref (B 0)), (3, .int 1), (4, .int v6), (5, .int v7)]) (st' := []) rfl ?_
                  exact so_sub (lv' := [(0, .ref (B 0)), (3, .int 1)]) (zpk [0, 1] rfl) (ih13 S5 1)
  have K : mSO p l e R s m args below meth c 6 A D cA B S 0 (lv_args 0 [.ref (B 0), .int a1, .int a2]) [] zFi (f_Mod_matches S a1 a2) := by
    unfold f_Mod_matches
    refine so_go C0 2 (pc' := 2) (lv' := [(0, .ref (B 0)), (1, .int a1), (2, .int a2)]) (st' := [.int 0, .ref (B 0)]) rfl ?_
    refine so_mput C0 hK (j := 42) (q := 11) (ty := .int) (by decide) (Nat.le_of_ble_eq_true rfl) rfl (by decide +kernel) rfl rfl wd_5_61 rfl rfl ?_
    refine so_st (fun S1 hS1 => ?_)
    refine so_go C0 3 (pc' := 8) (lv' := [(0, .ref (B 0)), (1, .int a1), (2, .int a2)]) (st' := [.int a2, .int a1, .ref (B 0)]) rfl ?_
    refine so_oV (As := [.int a1, .int a2]) (rest := []) C0 hK hA yk_Mod_pair (c_Mod_pair S1 a1 a2) wd_5_210 rfl rfl ⟨by rw [hf]; decide, by rw [hlo]; decide⟩ (Nat.le_of_ble_eq_true rfl) (mrc hK) (fun S2 hS2 => ?_)
    refine so_go C0 2 (pc' := 13) (lv' := [(0, .ref (B 0)), (1, .int a1), (2, .int a2), (3, .int 1)]) (st' := []) rfl ?_
    exact so_sub (lv' := [(0, .ref (B 0)), (3, .int 1)]) (zpk [0, 3] rfl) (lp13 zbig S2 1)
  exact K r hr
def f_Mod_isValue (S : zM) (a1 : Int32) : Option (Int32) :=
  if (f_Mod_isPattern S a1) = 0 then
    some 0
  else
    m_rd 16384 (S.1 8) a1 fun v2 =>
    if v2 = 0 then
      some 0
    else
      some 1
set_option maxHeartbeats 1000000 in
set_option maxRecDepth 20000 in
theorem c_Mod_isValue (S : zM) (a1 : Int32) : ∀ r, f_Mod_isValue S a1 = some r → zMet l y_Mod_isValue (zw y_Mod_isValue prog_13_method_18_code 2 (some Jvm.ClassFile.FieldType.boolean)) 1 21 [.ref (B 0), .int a1] D zcl (ztys cA) A (mRep D cA B A) (fun _ => 0) (fun _ => 0) S ((zFp S) r) := by
  intro r hr
  refine zMet_of ⟨Nat.le_refl _, Nat.le_refl _⟩ (by decide) tk_Mod_isValue (Nat.le_of_ble_eq_true rfl) ?_
  intro p e R s m args below meth c hf hlo C0 hK hA
  have K : mSO p l e R s m args below meth c 2 A D cA B S 0 (lv_args 0 [.ref (B 0), .int a1]) [] (zFp S) (f_Mod_isValue S a1) := by
    unfold f_Mod_isValue
    refine so_go C0 2 (pc' := 2) (lv' := [(0, .ref (B 0)), (1, .int a1)]) (st' := [.int a1, .ref (B 0)]) rfl ?_
    refine so_cp (As := [.int a1]) (rest := []) C0 hK hA yk_Mod_isPattern (c_Mod_isPattern S a1) wd_5_182 rfl rfl ⟨by rw [hf]; decide, by rw [hlo]; decide⟩ (Nat.le_of_ble_eq_true rfl) (mrc hK) ?_
    refine so_if_eq C0 rfl (fun h1 => ?_) (fun h1 => ?_)
    · refine so_go C0 1 (pc' := 22) (lv' := [(0, .ref (B 0)), (1, .int a1)]) (st' := [.int 0]) rfl ?_
      exact so_retz C0 rfl rfl rfl
    · refine so_go C0 1 (pc' := 9) (lv' := [(0, .ref (B 0)), (1, .int a1)]) (st' := [.ref (B 0)]) rfl ?_
      refine so_mget C0 hK (j := 10) (v := .ref (B 9)) (by decide) wd_5_29 rfl rfl ?_
      refine so_go C0 1 (pc' := 13) (lv' := [(0, .ref (B 0)), (1, .int a1)]) (st' := [.int a1, .ref (B 9)]) rfl ?_
      refine so_mzald C0 hK (a := 8) (by decide) rfl rfl (by decide) rfl (fun v2 hv2 => ?_)
      refine so_if_eq C0 rfl (fun h3 => ?_) (fun h3 => ?_)
      · refine so_go C0 1 (pc' := 22) (lv' := [(0, .ref (B 0)), (1, .int a1)]) (st' := [.int 0]) rfl ?_
        exact so_retz C0 rfl rfl rfl
      · refine so_go C0 2 (pc' := 22) (lv' := [(0, .ref (B 0)), (1, .int a1)]) (st' := [.int 1]) rfl ?_
        exact so_retz C0 rfl rfl rfl
  exact K r hr
def f_Mod_first_L12 : Nat → zM → Int32 → Int32 → Option (zM × Int32)
  | 0, _, _, _ => none
  | n + 1, S, x1, x2 =>
    if (S.2.2 4) ≤ x2 then
      some (S, (-1))
    else
      m_rd 1024 (S.1 13) x2 fun v4 =>
      zob2 (f_Mod_matches S v4 x1) fun S5 v6 =>
      if v6 = 0 then
        f_Mod_first_L12 n S5 x1 (x2 + 1)
      else
        some (S5, x2)
def f_Mod_first (S : zM) (a1 : Int32) : Option (zM × Int32) :=
  zob (f_Mod_isValue S a1) fun v1 =>
  if ¬ v1 = 0 then
    f_Mod_first_L12 zbig S a1 0
  else
    some (S, (-1))
set_option maxHeartbeats 1000000 in
set_option maxRecDepth 20000 in
theorem c_Mod_first (S : zM) (a1 : Int32) : ∀ r, f_Mod_first S a1 = some r → zMet l y_Mod_first (zw y_Mod_first prog_13_method_19_code 3 (some Jvm.ClassFile.FieldType.int)) 3 73 [.ref (B 0), .int a1] D zcl (ztys cA) A (mRep D cA B A) (fun _ => 0) (fun _ => 0) S (zFi r) := by
  intro r hr
  refine zMet_of ⟨Nat.le_refl _, Nat.le_refl _⟩ (by decide) tk_Mod_first (Nat.le_of_ble_eq_true rfl) ?_
  intro p e R s m args below meth c hf hlo C0 hK hA
  have lp12 : ∀ (n : Nat) (S : zM) (x1 : Int32) (x2 : Int32), mSO p l e R s m args below meth c 3 A D cA B S 12 [(0, .ref (B 0)), (1, .int x1), (2, .int x2)] [] zFi (f_Mod_first_L12 n S x1 x2) := by
    intro n
    induction n with
    | zero =>
      intro S x1 x2
      rw [f_Mod_first_L12]
      exact so_none
    | succ n ih12 =>
      intro S x1 x2
      rw [f_Mod_first_L12]
      refine so_go C0 2 (pc' := 14) (lv' := [(0, .ref (B 0)), (1, .int x1), (2, .int x2)]) (st' := [.ref (B 0), .int x2]) rfl ?_
      refine so_mget C0 hK (j := 17) (v := .int (S.2.2 4)) (by decide) wd_5_36 rfl rfl ?_
      refine so_icmp_ge C0 rfl (fun h3 => ?_) (fun h3 => ?_)
      · refine so_go C0 1 (pc' := 43) (lv' := [(0, .ref (B 0)), (1, .int x1), (2, .int x2)]) (st' := [.int (-1)]) rfl ?_
        exact so_reti C0 rfl rfl
      · refine so_go C0 2 (pc' := 22) (lv' := [(0, .ref (B 0)), (1, .int x1), (2, .int x2)]) (st' := [.ref (B 0), .ref (B 0)]) rfl ?_
        refine so_mget C0 hK (j := 18) (v := .ref (B 14)) (by decide) wd_5_37 rfl rfl ?_
        refine so_go C0 1 (pc' := 26) (lv' := [(0, .ref (B 0)), (1, .int x1), (2, .int x2)]) (st' := [.int x2, .ref (B 14), .ref (B 0)]) rfl ?_
        refine so_miald C0 hK (a := 13) (by decide) rfl rfl (by decide) rfl (fun v4 hv4 => ?_)
        refine so_go C0 1 (pc' := 28) (lv' := [(0, .ref (B 0)), (1, .int x1), (2, .int x2)]) (st' := [.int x1, .int v4, .ref (B 0)]) rfl ?_
        refine so_oi (As := [.int v4, .int x1]) (rest := []) C0 hK hA yk_Mod_matches (c_Mod_matches S v4 x1) wd_5_206 rfl rfl ⟨by rw [hf]; decide, by rw [hlo]; decide⟩ (Nat.le_of_ble_eq_true rfl) (mrc hK) (fun S5 v6 hv6 => ?_)
        refine so_if_eq C0 rfl (fun h7 => ?_) (fun h7 => ?_)
        · refine so_go C0 2 (pc' := 12) (lv' := [(0, .ref (B 0)), (1, .int x1), (2, .int (x2 + 1))]) (st' := []) rfl ?_
          exact so_sub (lv' := [(0, .ref (B 0)), (1, .int x1), (2, .int (x2 + 1))]) (zpk [0, 1, 2] rfl) (ih12 S5 x1 (x2 + 1))
        · refine so_go C0 1 (pc' := 35) (lv' := [(0, .ref (B 0)), (1, .int x1), (2, .int x2)]) (st' := [.int x2]) rfl ?_
          exact so_reti C0 rfl rfl
  have K : mSO p l e R s m args below meth c 3 A D cA B S 0 (lv_args 0 [.ref (B 0), .int a1]) [] zFi (f_Mod_first S a1) := by
    unfold f_Mod_first
    refine so_go C0 2 (pc' := 2) (lv' := [(0, .ref (B 0)), (1, .int a1)]) (st' := [.int a1, .ref (B 0)]) rfl ?_
    refine so_op (As := [.int a1]) (rest := []) C0 hK hA yk_Mod_isValue (c_Mod_isValue S a1) wd_5_202 rfl rfl ⟨by rw [hf]; decide, by rw [hlo]; decide⟩ (Nat.le_of_ble_eq_true rfl) (mrc hK) (fun v1 hv1 => ?_)
    refine so_if_ne C0 rfl (fun h2 => ?_) (fun h2 => ?_)
    · refine so_go C0 2 (pc' := 12) (lv' := [(0, .ref (B 0)), (1, .int a1), (2, .int 0)]) (st' := []) rfl ?_
      exact so_sub (lv' := [(0, .ref (B 0)), (1, .int a1), (2, .int 0)]) (zpk [0, 1, 2] rfl) (lp12 zbig S a1 0)
    · refine so_go C0 1 (pc' := 9) (lv' := [(0, .ref (B 0)), (1, .int a1)]) (st' := [.int (-1)]) rfl ?_
      exact so_reti C0 rfl rfl
  exact K r hr
def f_Mod_fits_L8 : Nat → zM → Int32 → Int32 → Int32 → Option (zM × Int32)
  | 0, _, _, _, _ => none
  | n + 1, S, x1, x2, x3 =>
    if (S.2.2 4) ≤ x3 then
      some (S, (z_b x2))
    else
      if x2 = 0 then
        some (S, (z_b x2))
      else
        m_rd 1024 (S.1 13) x3 fun v4 =>
        zob2 (f_Mod_goTogether S v4 x1) fun S5 v6 =>
        f_Mod_fits_L8 n S5 x1 v6 (x3 + 1)
def f_Mod_fits (S : zM) (a1 : Int32) : Option (zM × Int32) :=
  zob (f_Mod_isValue S a1) fun v1 =>
  f_Mod_fits_L8 zbig S a1 v1 0
set_option maxHeartbeats 1000000 in
set_option maxRecDepth 20000 in
theorem c_Mod_fits (S : zM) (a1 : Int32) : ∀ r, f_Mod_fits S a1 = some r → zMet l y_Mod_fits (zw y_Mod_fits prog_13_method_20_code 4 (some Jvm.ClassFile.FieldType.boolean)) 3 74 [.ref (B 0), .int a1] D zcl (ztys cA) A (mRep D cA B A) (fun _ => 0) (fun _ => 0) S (zFi r) := by
  intro r hr
  refine zMet_of ⟨Nat.le_refl _, Nat.le_refl _⟩ (by decide) tk_Mod_fits (Nat.le_of_ble_eq_true rfl) ?_
  intro p e R s m args below meth c hf hlo C0 hK hA
  have lp8 : ∀ (n : Nat) (S : zM) (x1 : Int32) (x2 : Int32) (x3 : Int32), mSO p l e R s m args below meth c 4 A D cA B S 8 [(0, .ref (B 0)), (1, .int x1), (2, .int x2), (3, .int x3)] [] zFi (f_Mod_fits_L8 n S x1 x2 x3) := by
    intro n
    induction n with
    | zero =>
      intro S x1 x2 x3
      rw [f_Mod_fits_L8]
      exact so_none
    | succ n ih8 =>
      intro S x1 x2 x3
      rw [f_Mod_fits_L8]
      refine so_go C0 2 (pc' := 10) (lv' := [(0, .ref (B 0)), (1, .int x1), (2, .int x2), (3, .int x3)]) (st' := [.ref (B 0), .int x3]) rfl ?_
      refine so_mget C0 hK (j := 17) (v := .int (S.2.2 4)) (by decide) wd_5_36 rfl rfl ?_
      refine so_icmp_ge C0 rfl (fun h2 => ?_) (fun h2 => ?_)
      · refine so_go C0 1 (pc' := 39) (lv' := [(0, .ref (B 0)), (1, .int x1), (2, .int x2), (3, .int x3)]) (st' := [.int x2]) rfl ?_
        exact so_retb C0 rfl rfl
      · refine so_go C0 1 (pc' := 17) (lv' := [(0, .ref (B 0)), (1, .int x1), (2, .int x2), (3, .int x3)]) (st' := [.int x2]) rfl ?_
        refine so_if_eq C0 rfl (fun h3 => ?_) (fun h3 => ?_)
        · refine so_go C0 1 (pc' := 39) (lv' := [(0, .ref (B 0)), (1, .int x1), (2, .int x2), (3, .int x3)]) (st' := [.int x2]) rfl ?_
          exact so_retb C0 rfl rfl
        · refine so_go C0 2 (pc' := 22) (lv' := [(0, .ref (B 0)), (1, .int x1), (2, .int x2), (3, .int x3)]) (st' := [.ref (B 0), .ref (B 0)]) rfl ?_
          refine so_mget C0 hK (j := 18) (v := .ref (B 14)) (by decide) wd_5_37 rfl rfl ?_
          refine so_go C0 1 (pc' := 26) (lv' := [(0, .ref (B 0)), (1, .int x1), (2, .int x2), (3, .int x3)]) (st' := [.int x3, .ref (B 14), .ref (B 0)]) rfl ?_
          refine so_miald C0 hK (a := 13) (by decide) rfl rfl (by decide) rfl (fun v4 hv4 => ?_)
          refine so_go C0 1 (pc' := 28) (lv' := [(0, .ref (B 0)), (1, .int x1), (2, .int x2), (3, .int x3)]) (st' := [.int x1, .int v4, .ref (B 0)]) rfl ?_
          refine so_oi (As := [.int v4, .int x1]) (rest := []) C0 hK hA yk_Mod_goTogether (c_Mod_goTogether S v4 x1) wd_5_234 rfl rfl ⟨by rw [hf]; decide, by rw [hlo]; decide⟩ (Nat.le_of_ble_eq_true rfl) (mrc hK) (fun S5 v6 hv6 => ?_)
          refine so_go C0 3 (pc' := 8) (lv' := [(0, .ref (B 0)), (1, .int x1), (2, .int v6), (3, .int (x3 + 1))]) (st' := []) rfl ?_
          exact so_sub (lv' := [(0, .ref (B 0)), (1, .int x1), (2, .int v6), (3, .int (x3 + 1))]) (zpk [0, 1, 2, 3] rfl) (ih8 S5 x1 v6 (x3 + 1))
  have K : mSO p l e R s m args below meth c 4 A D cA B S 0 (lv_args 0 [.ref (B 0), .int a1]) [] zFi (f_Mod_fits S a1) := by
    unfold f_Mod_fits
    refine so_go C0 2 (pc' := 2) (lv' := [(0, .ref (B 0)), (1, .int a1)]) (st' := [.int a1, .ref (B 0)]) rfl ?_
    refine so_op (As := [.int a1]) (rest := []) C0 hK hA yk_Mod_isValue (c_Mod_isValue S a1) wd_5_202 rfl rfl ⟨by rw [hf]; decide, by rw [hlo]; decide⟩ (Nat.le_of_ble_eq_true rfl) (mrc hK) (fun v1 hv1 => ?_)
    refine so_go C0 3 (pc' := 8) (lv' := [(0, .ref (B 0)), (1, .int a1), (2, .int v1), (3, .int 0)]) (st' := []) rfl ?_
    exact so_sub (lv' := [(0, .ref (B 0)), (1, .int a1), (2, .int v1), (3, .int 0)]) (zpk [0, 1, 2, 3] rfl) (lp8 zbig S a1 v1 0)
  exact K r hr
def f_Mod_childOf_L8 : Nat → zM → Int64 → Int32 → Option (Int32)
  | 0, _, _, _ => none
  | n + 1, S, x2, x4 =>
    if x4 < 0 then
      some x4
    else
      m_rdl 16386 (S.2.1 19) x4 fun v3 =>
      if (lg_cmp v3 x2) = 0 then
        some x4
      else
        m_rd 16386 (S.1 21) x4 fun v5 =>
        f_Mod_childOf_L8 n S x2 v5
def f_Mod_childOf (S : zM) (a1 : Int32) (a2 : Int64) : Option (Int32) :=
  m_rd 16386 (S.1 20) a1 fun v1 =>
  f_Mod_childOf_L8 zbig S a2 v1
set_option maxHeartbeats 1000000 in
set_option maxRecDepth 20000 in
theorem c_Mod_childOf (S : zM) (a1 : Int32) (a2 : Int64) : ∀ r, f_Mod_childOf S a1 a2 = some r → zMet l y_Mod_childOf (zw y_Mod_childOf prog_13_method_57_code 5 (some Jvm.ClassFile.FieldType.int)) 0 0 [.ref (B 0), .int a1, .long a2] D zcl (ztys cA) A (mRep D cA B A) (fun _ => 0) (fun _ => 0) S ((zFp S) r) := by
  intro r hr
  refine zMet_of ⟨Nat.le_refl _, Nat.le_refl _⟩ (by decide) tk_Mod_childOf (Nat.le_of_ble_eq_true rfl) ?_
  intro p e R s m args below meth c hf hlo C0 hK hA
  have lp8 : ∀ (n : Nat) (x2 : Int64) (x4 : Int32), mSO p l e R s m args below meth c 5 A D cA B S 8 [(0, .ref (B 0)), (2, .long x2), (4, .int x4)] [] (zFp S) (f_Mod_childOf_L8 n S x2 x4) := by
    intro n
    induction n with
    | zero =>
      intro x2 x4
      rw [f_Mod_childOf_L8]
      exact so_none
    | succ n ih8 =>
      intro x2 x4
      rw [f_Mod_childOf_L8]
      refine so_go C0 1 (pc' := 10) (lv' := [(0, .ref (B 0)), (2, .long x2), (4, .int x4)]) (st' := [.int x4]) rfl ?_
      refine so_if_lt C0 rfl (fun h2 => ?_) (fun h2 => ?_)
      · refine so_go C0 1 (pc' := 39) (lv' := [(0, .ref (B 0)), (2, .long x2), (4, .int x4)]) (st' := [.int x4]) rfl ?_
        exact so_reti C0 rfl rfl
      · refine so_go C0 1 (pc' := 14) (lv' := [(0, .ref (B 0)), (2, .long x2), (4, .int x4)]) (st' := [.ref (B 0)]) rfl ?_
        refine so_mget C0 hK (j := 26) (v := .ref (B 20)) (by decide) wd_5_45 rfl rfl ?_
        refine so_go C0 1 (pc' := 19) (lv' := [(0, .ref (B 0)), (2, .long x2), (4, .int x4)]) (st' := [.int x4, .ref (B 20)]) rfl ?_
        refine so_mlald C0 hK (a := 19) (by decide) rfl rfl (by decide) rfl (fun v3 hv3 => ?_)
        refine so_go C0 2 (pc' := 22) (lv' := [(0, .ref (B 0)), (2, .long x2), (4, .int x4)]) (st' := [.int (lg_cmp v3 x2)]) rfl ?_
        refine so_if_eq C0 rfl (fun h4 => ?_) (fun h4 => ?_)
        · refine so_go C0 1 (pc' := 39) (lv' := [(0, .ref (B 0)), (2, .long x2), (4, .int x4)]) (st' := [.int x4]) rfl ?_
          exact so_reti C0 rfl rfl
        · refine so_go C0 1 (pc' := 26) (lv' := [(0, .ref (B 0)), (2, .long x2), (4, .int x4)]) (st' := [.ref (B 0)]) rfl ?_
          refine so_mget C0 hK (j := 28) (v := .ref (B 22)) (by decide) wd_5_47 rfl rfl ?_
          refine so_go C0 1 (pc' := 31) (lv' := [(0, .ref (B 0)), (2, .long x2), (4, .int x4)]) (st' := [.int x4, .ref (B 22)]) rfl ?_
          refine so_miald C0 hK (a := 21) (by decide) rfl rfl (by decide) rfl (fun v5 hv5 => ?_)
          refine so_go C0 2 (pc' := 8) (lv' := [(0, .ref (B 0)), (2, .long x2), (4, .int v5)]) (st' := []) rfl ?_
          exact so_sub (lv' := [(0, .ref (B 0)), (2, .long x2), (4, .int v5)]) (zpk [0, 1, 2] rfl) (ih8 x2 v5)
  have K : mSO p l e R s m args below meth c 5 A D cA B S 0 (lv_args 0 [.ref (B 0), .int a1, .long a2]) [] (zFp S) (f_Mod_childOf S a1 a2) := by
    unfold f_Mod_childOf
    refine so_go C0 1 (pc' := 1) (lv' := [(0, .ref (B 0)), (1, .int a1), (2, .long a2)]) (st' := [.ref (B 0)]) rfl ?_
    refine so_mget C0 hK (j := 27) (v := .ref (B 21)) (by decide) wd_5_46 rfl rfl ?_
    refine so_go C0 1 (pc' := 5) (lv' := [(0, .ref (B 0)), (1, .int a1), (2, .long a2)]) (st' := [.int a1, .ref (B 21)]) rfl ?_
    refine so_miald C0 hK (a := 20) (by decide) rfl rfl (by decide) rfl (fun v1 hv1 => ?_)
    refine so_go C0 1 (pc' := 8) (lv' := [(0, .ref (B 0)), (1, .int a1), (2, .long a2), (4, .int v1)]) (st' := []) rfl ?_
    exact so_sub (lv' := [(0, .ref (B 0)), (2, .long a2), (4, .int v1)]) (zpk [0, 2, 3] rfl) (lp8 zbig a2 v1)
  exact K r hr
def f_Mod_placeBelow (S : zM) (a1 : Int32) (a2 : Int32) (a3 : Int64) : Option (zM × Int32) :=
  zob (f_Mod_childOf S a1 a3) fun v1 =>
  if v1 < 0 then
    m_wr 16386 (S.2.2 6) (m_set S 17 (Int32.toNatClampNeg (S.2.2 6)) a1) fun S3 =>
    m_wr 16386 (S3.2.2 6) (m_set S3 18 (Int32.toNatClampNeg (S3.2.2 6)) a2) fun S4 =>
    m_wr 16386 (S4.2.2 6) (m_setl S4 19 (Int32.toNatClampNeg (S4.2.2 6)) a3) fun S5 =>
    m_wr 16386 (S5.2.2 6) (m_set S5 20 (Int32.toNatClampNeg (S5.2.2 6)) (-1)) fun S6 =>
    m_rd 16386 (S6.1 20) a1 fun v7 =>
    m_wr 16386 (S6.2.2 6) (m_set S6 21 (Int32.toNatClampNeg (S6.2.2 6)) v7) fun S8 =>
    m_wr 16386 (S8.2.2 6) (m_set S8 22 (Int32.toNatClampNeg (S8.2.2 6)) 0) fun S9 =>
    m_wr 16386 a1 (m_set S9 20 (Int32.toNatClampNeg a1) (S9.2.2 6)) fun S10 =>
    zbind (m_sc S10 6 ((S10.2.2 6) + 1)) fun S11 =>
    some (S11, ((S11.2.2 6) - 1))
  else
    some (S, v1)
set_option maxHeartbeats 1000000 in
set_option maxRecDepth 20000 in
theorem c_Mod_placeBelow (S : zM) (a1 : Int32) (a2 : Int32) (a3 : Int64) : ∀ r, f_Mod_placeBelow S a1 a2 a3 = some r → zMet l y_Mod_placeBelow (zw y_Mod_placeBelow prog_13_method_21_code 6 (some Jvm.ClassFile.FieldType.int)) 1 24 [.ref (B 0), .int a1, .int a2, .long a3] D zcl (ztys cA) A (mRep D cA B A) (fun _ => 0) (fun _ => 0) S (zFi r) := by
  intro r hr
  refine zMet_of ⟨Nat.le_refl _, Nat.le_refl _⟩ (by decide) tk_Mod_placeBelow (Nat.le_of_ble_eq_true rfl) ?_
  intro p e R s m args below meth c hf hlo C0 hK hA
  have K : mSO p l e R s m args below meth c 6 A D cA B S 0 (lv_args 0 [.ref (B 0), .int a1, .int a2, .long a3]) [] zFi (f_Mod_placeBelow S a1 a2 a3) := by
    unfold f_Mod_placeBelow
    refine so_go C0 3 (pc' := 3) (lv' := [(0, .ref (B 0)), (1, .int a1), (2, .int a2), (3, .long a3)]) (st' := [.long a3, .int a1, .ref (B 0)]) rfl ?_
    refine so_op (As := [.int a1, .long a3]) (rest := []) C0 hK hA yk_Mod_childOf (c_Mod_childOf S a1 a3) wd_6_10 rfl rfl ⟨by rw [hf]; decide, by rw [hlo]; decide⟩ (Nat.le_of_ble_eq_true rfl) (mrc hK) (fun v1 hv1 => ?_)
    refine so_go C0 2 (pc' := 10) (lv' := [(0, .ref (B 0)), (1, .int a1), (2, .int a2), (3, .long a3), (5, .int v1)]) (st' := [.int v1]) rfl ?_
    refine so_if_lt C0 rfl (fun h2 => ?_) (fun h2 => ?_)
    · refine so_go C0 1 (pc' := 17) (lv' := [(0, .ref (B 0)), (1, .int a1), (2, .int a2), (3, .long a3), (5, .int v1)]) (st' := [.ref (B 0)]) rfl ?_
      refine so_mget C0 hK (j := 24) (v := .ref (B 18)) (by decide) wd_5_43 rfl rfl ?_
      refine so_go C0 1 (pc' := 21) (lv' := [(0, .ref (B 0)), (1, .int a1), (2, .int a2), (3, .long a3), (5, .int v1)]) (st' := [.ref (B 0), .ref (B 18)]) rfl ?_
      refine so_mget C0 hK (j := 23) (v := .int (S.2.2 6)) (by decide) wd_5_42 rfl rfl ?_
      refine so_go C0 1 (pc' := 25) (lv' := [(0, .ref (B 0)), (1, .int a1), (2, .int a2), (3, .long a3), (5, .int v1)]) (st' := [.int a1, .int (S.2.2 6), .ref (B 18)]) rfl ?_
      refine so_miast C0 hK (a := 17) (by decide) rfl rfl (by decide) rfl (fun S3 hS3 => ?_)
      refine so_go C0 1 (pc' := 27) (lv' := [(0, .ref (B 0)), (1, .int a1), (2, .int a2), (3, .long a3), (5, .int v1)]) (st' := [.ref (B 0)]) rfl ?_
      refine so_mget C0 hK (j := 25) (v := .ref (B 19)) (by decide) wd_5_44 rfl rfl ?_
      refine so_go C0 1 (pc' := 31) (lv' := [(0, .ref (B 0)), (1, .int a1), (2, .int a2), (3, .long a3), (5, .int v1)]) (st' := [.ref (B 0), .ref (B 19)]) rfl ?_
      refine so_mget C0 hK (j := 23) (v := .int (S3.2.2 6)) (by decide) wd_5_42 rfl rfl ?_
      refine so_go C0 1 (pc' := 35) (lv' := [(0, .ref (B 0)), (1, .int a1), (2, .int a2), (3, .long a3), (5, .int v1)]) (st' := [.int a2, .int (S3.2.2 6), .ref (B 19)]) rfl ?_
      refine so_miast C0 hK (a := 18) (by decide) rfl rfl (by decide) rfl (fun S4 hS4 => ?_)
      refine so_go C0 1 (pc' := 37) (lv' := [(0, .ref (B 0)), (1, .int a1), (2, .int a2), (3, .long a3), (5, .int v1)]) (st' := [.ref (B 0)]) rfl ?_
      refine so_mget C0 hK (j := 26) (v := .ref (B 20)) (by decide) wd_5_45 rfl rfl ?_
      refine so_go C0 1 (pc' := 41) (lv' := [(0, .ref (B 0)), (1, .int a1), (2, .int a2), (3, .long a3), (5, .int v1)]) (st' := [.ref (B 0), .ref (B 20)]) rfl ?_
      refine so_mget C0 hK (j := 23) (v := .int (S4.2.2 6)) (by decide) wd_5_42 rfl rfl ?_
      refine so_go C0 1 (pc' := 45) (lv' := [(0, .ref (B 0)), (1, .int a1), (2, .int a2), (3, .long a3), (5, .int v1)]) (st' := [.long a3, .int (S4.2.2 6), .ref (B 20)]) rfl ?_
      refine so_mlast C0 hK (a := 19) (by decide) rfl rfl (by decide) rfl (fun S5 hS5 => ?_)
      refine so_go C0 1 (pc' := 47) (lv' := [(0, .ref (B 0)), (1, .int a1), (2, .int a2), (3, .long a3), (5, .int v1)]) (st' := [.ref (B 0)]) rfl ?_
      refine so_mget C0 hK (j := 27) (v := .ref (B 21)) (by decide) wd_5_46 rfl rfl ?_
      refine so_go C0 1 (pc' := 51) (lv' := [(0, .ref (B 0)), (1, .int a1), (2, .int a2), (3, .long a3), (5, .int v1)]) (st' := [.ref (B 0), .ref (B 21)]) rfl ?_
      refine so_mget C0 hK (j := 23) (v := .int (S5.2.2 6)) (by decide) wd_5_42 rfl rfl ?_
      refine so_go C0 1 (pc' := 55) (lv' := [(0, .ref (B 0)), (1, .int a1), (2, .int a2), (3, .long a3), (5, .int v1)]) (st' := [.int (-1), .int (S5.2.2 6), .ref (B 21)]) rfl ?_
      refine so_miast C0 hK (a := 20) (by decide) rfl rfl (by decide) rfl (fun S6 hS6 => ?_)
      refine so_go C0 1 (pc' := 57) (lv' := [(0, .ref (B 0)), (1, .int a1), (2, .int a2), (3, .long a3), (5, .int v1)]) (st' := [.ref (B 0)]) rfl ?_
      refine so_mget C0 hK (j := 28) (v := .ref (B 22)) (by decide) wd_5_47 rfl rfl ?_
      refine so_go C0 1 (pc' := 61) (lv' := [(0, .ref (B 0)), (1, .int a1), (2, .int a2), (3, .long a3), (5, .int v1)]) (st' := [.ref (B 0), .ref (B 22)]) rfl ?_
      refine so_mget C0 hK (j := 23) (v := .int (S6.2.2 6)) (by decide) wd_5_42 rfl rfl ?_
      refine so_go C0 1 (pc' := 65) (lv' := [(0, .ref (B 0)), (1, .int a1), (2, .int a2), (3, .long a3), (5, .int v1)]) (st' := [.ref (B 0), .int (S6.2.2 6), .ref (B 22)]) rfl ?_
      refine so_mget C0 hK (j := 27) (v := .ref (B 21)) (by decide) wd_5_46 rfl rfl ?_
      refine so_go C0 1 (pc' := 69) (lv' := [(0, .ref (B 0)), (1, .int a1), (2, .int a2), (3, .long a3), (5, .int v1)]) (st' := [.int a1, .ref (B 21), .int (S6.2.2 6), .ref (B 22)]) rfl ?_
      refine so_miald C0 hK (a := 20) (by decide) rfl rfl (by decide) rfl (fun v7 hv7 => ?_)
      refine so_miast C0 hK (a := 21) (by decide) rfl rfl (by decide) rfl (fun S8 hS8 => ?_)
      refine so_go C0 1 (pc' := 72) (lv' := [(0, .ref (B 0)), (1, .int a1), (2, .int a2), (3, .long a3), (5, .int v1)]) (st' := [.ref (B 0)]) rfl ?_
      refine so_mget C0 hK (j := 29) (v := .ref (B 23)) (by decide) wd_5_48 rfl rfl ?_
      refine so_go C0 1 (pc' := 76) (lv' := [(0, .ref (B 0)), (1, .int a1), (2, .int a2), (3, .long a3), (5, .int v1)]) (st' := [.ref (B 0), .ref (B 23)]) rfl ?_
      refine so_mget C0 hK (j := 23) (v := .int (S8.2.2 6)) (by decide) wd_5_42 rfl rfl ?_
      refine so_go C0 1 (pc' := 80) (lv' := [(0, .ref (B 0)), (1, .int a1), (2, .int a2), (3, .long a3), (5, .int v1)]) (st' := [.int 0, .int (S8.2.2 6), .ref (B 23)]) rfl ?_
      refine so_miast C0 hK (a := 22) (by decide) rfl rfl (by decide) rfl (fun S9 hS9 => ?_)
      refine so_go C0 1 (pc' := 82) (lv' := [(0, .ref (B 0)), (1, .int a1), (2, .int a2), (3, .long a3), (5, .int v1)]) (st' := [.ref (B 0)]) rfl ?_
      refine so_mget C0 hK (j := 27) (v := .ref (B 21)) (by decide) wd_5_46 rfl rfl ?_
      refine so_go C0 2 (pc' := 87) (lv' := [(0, .ref (B 0)), (1, .int a1), (2, .int a2), (3, .long a3), (5, .int v1)]) (st' := [.ref (B 0), .int a1, .ref (B 21)]) rfl ?_
      refine so_mget C0 hK (j := 23) (v := .int (S9.2.2 6)) (by decide) wd_5_42 rfl rfl ?_
      refine so_miast C0 hK (a := 20) (by decide) rfl rfl (by decide) rfl (fun S10 hS10 => ?_)
      refine so_go C0 2 (pc' := 93) (lv' := [(0, .ref (B 0)), (1, .int a1), (2, .int a2), (3, .long a3), (5, .int v1)]) (st' := [.ref (B 0), .ref (B 0)]) rfl ?_
      refine so_mget C0 hK (j := 23) (v := .int (S10.2.2 6)) (by decide) wd_5_42 rfl rfl ?_
      refine so_go C0 2 (pc' := 98) (lv' := [(0, .ref (B 0)), (1, .int a1), (2, .int a2), (3, .long a3), (5, .int v1)]) (st' := [.int ((S10.2.2 6) + 1), .ref (B 0)]) rfl ?_
      refine so_mput C0 hK (j := 23) (q := 6) (ty := .int) (by decide) (Nat.le_of_ble_eq_true rfl) rfl (by decide +kernel) rfl rfl wd_5_42 rfl rfl ?_
      refine so_st (fun S11 hS11 => ?_)
      refine so_go C0 1 (pc' := 102) (lv' := [(0, .ref (B 0)), (1, .int a1), (2, .int a2), (3, .long a3), (5, .int v1)]) (st' := [.ref (B 0)]) rfl ?_
      refine so_mget C0 hK (j := 23) (v := .int (S11.2.2 6)) (by decide) wd_5_42 rfl rfl ?_
      refine so_go C0 2 (pc' := 107) (lv' := [(0, .ref (B 0)), (1, .int a1), (2, .int a2), (3, .long a3), (5, .int v1)]) (st' := [.int ((S11.2.2 6) - 1)]) rfl ?_
      exact so_reti C0 rfl rfl
    · refine so_go C0 1 (pc' := 15) (lv' := [(0, .ref (B 0)), (1, .int a1), (2, .int a2), (3, .long a3), (5, .int v1)]) (st' := [.int v1]) rfl ?_
      exact so_reti C0 rfl rfl
  exact K r hr
def f_Mod_inside (S : zM) (a1 : Int32) (a2 : Int64) : Option (Int64) :=
  m_rd 16384 (S.1 2) a1 fun v1 =>
  if ¬ v1 = 2 then
    some (1000 + a2)
  else
    some (200 + a2)
set_option maxHeartbeats 1000000 in
set_option maxRecDepth 20000 in
theorem c_Mod_inside (S : zM) (a1 : Int32) (a2 : Int64) : ∀ r, f_Mod_inside S a1 a2 = some r → zMet l y_Mod_inside (zw y_Mod_inside prog_13_method_56_code 4 (some Jvm.ClassFile.FieldType.long)) 0 0 [.ref (B 0), .int a1, .long a2] D zcl (ztys cA) A (mRep D cA B A) (fun _ => 0) (fun _ => 0) S ((zFpl S) r) := by
  intro r hr
  refine zMet_of ⟨Nat.le_refl _, Nat.le_refl _⟩ (by decide) tk_Mod_inside (Nat.le_of_ble_eq_true rfl) ?_
  intro p e R s m args below meth c hf hlo C0 hK hA
  have K : mSO p l e R s m args below meth c 4 A D cA B S 0 (lv_args 0 [.ref (B 0), .int a1, .long a2]) [] (zFpl S) (f_Mod_inside S a1 a2) := by
    unfold f_Mod_inside
    refine so_go C0 1 (pc' := 1) (lv' := [(0, .ref (B 0)), (1, .int a1), (2, .long a2)]) (st' := [.ref (B 0)]) rfl ?_
    refine so_mget C0 hK (j := 4) (v := .ref (B 3)) (by decide) wd_5_23 rfl rfl ?_
    refine so_go C0 1 (pc' := 5) (lv' := [(0, .ref (B 0)), (1, .int a1), (2, .long a2)]) (st' := [.int a1, .ref (B 3)]) rfl ?_
    refine so_mbald C0 hK (a := 2) (by decide) rfl rfl (by decide) rfl (fun v1 hv1 => ?_)
    refine so_go C0 1 (pc' := 7) (lv' := [(0, .ref (B 0)), (1, .int a1), (2, .long a2)]) (st' := [.int 2, .int v1]) rfl ?_
    refine so_icmp_ne C0 rfl (fun h2 => ?_) (fun h2 => ?_)
    · refine so_ldc2 C0 wd_6_23 rfl ?_
      refine so_go C0 2 (pc' := 21) (lv' := [(0, .ref (B 0)), (1, .int a1), (2, .long a2)]) (st' := [.long (1000 + a2)]) rfl ?_
      exact so_retl C0 rfl rfl
    · refine so_ldc2 C0 wd_6_22 rfl ?_
      refine so_go C0 3 (pc' := 21) (lv' := [(0, .ref (B 0)), (1, .int a1), (2, .long a2)]) (st' := [.long (200 + a2)]) rfl ?_
      exact so_retl C0 rfl rfl
  exact K r hr
def f_Mod_numberOf (S : zM) (a1 : Int32) : Option (Int64) :=
  m_rd 16384 (S.1 2) a1 fun v1 =>
  if ¬ v1 = 3 then
    m_rd 16384 (S.1 4) a1 fun v3 =>
    some v3.toInt64
  else
    m_rd 16384 (S.1 3) a1 fun v4 =>
    some v4.toInt64
set_option maxHeartbeats 1000000 in
set_option maxRecDepth 20000 in
theorem c_Mod_numberOf (S : zM) (a1 : Int32) : ∀ r, f_Mod_numberOf S a1 = some r → zMet l y_Mod_numberOf (zw y_Mod_numberOf prog_13_method_30_code 2 (some Jvm.ClassFile.FieldType.long)) 0 0 [.ref (B 0), .int a1] D zcl (ztys cA) A (mRep D cA B A) (fun _ => 0) (fun _ => 0) S ((zFpl S) r) := by
  intro r hr
  refine zMet_of ⟨Nat.le_refl _, Nat.le_refl _⟩ (by decide) tk_Mod_numberOf (Nat.le_of_ble_eq_true rfl) ?_
  intro p e R s m args below meth c hf hlo C0 hK hA
  have K : mSO p l e R s m args below meth c 2 A D cA B S 0 (lv_args 0 [.ref (B 0), .int a1]) [] (zFpl S) (f_Mod_numberOf S a1) := by
    unfold f_Mod_numberOf
    refine so_go C0 1 (pc' := 1) (lv' := [(0, .ref (B 0)), (1, .int a1)]) (st' := [.ref (B 0)]) rfl ?_
    refine so_mget C0 hK (j := 4) (v := .ref (B 3)) (by decide) wd_5_23 rfl rfl ?_
    refine so_go C0 1 (pc' := 5) (lv' := [(0, .ref (B 0)), (1, .int a1)]) (st' := [.int a1, .ref (B 3)]) rfl ?_
    refine so_mbald C0 hK (a := 2) (by decide) rfl rfl (by decide) rfl (fun v1 hv1 => ?_)
    refine so_go C0 1 (pc' := 7) (lv' := [(0, .ref (B 0)), (1, .int a1)]) (st' := [.int 3, .int v1]) rfl ?_
    refine so_icmp_ne C0 rfl (fun h2 => ?_) (fun h2 => ?_)
    · refine so_go C0 1 (pc' := 21) (lv' := [(0, .ref (B 0)), (1, .int a1)]) (st' := [.ref (B 0)]) rfl ?_
      refine so_mget C0 hK (j := 6) (v := .ref (B 5)) (by decide) wd_5_25 rfl rfl ?_
      refine so_go C0 1 (pc' := 25) (lv' := [(0, .ref (B 0)), (1, .int a1)]) (st' := [.int a1, .ref (B 5)]) rfl ?_
      refine so_miald C0 hK (a := 4) (by decide) rfl rfl (by decide) rfl (fun v3 hv3 => ?_)
      refine so_go C0 1 (pc' := 27) (lv' := [(0, .ref (B 0)), (1, .int a1)]) (st' := [.long v3.toInt64]) rfl ?_
      exact so_retl C0 rfl rfl
    · refine so_go C0 1 (pc' := 11) (lv' := [(0, .ref (B 0)), (1, .int a1)]) (st' := [.ref (B 0)]) rfl ?_
      refine so_mget C0 hK (j := 5) (v := .ref (B 4)) (by decide) wd_5_24 rfl rfl ?_
      refine so_go C0 1 (pc' := 15) (lv' := [(0, .ref (B 0)), (1, .int a1)]) (st' := [.int a1, .ref (B 4)]) rfl ?_
      refine so_miald C0 hK (a := 3) (by decide) rfl rfl (by decide) rfl (fun v4 hv4 => ?_)
      refine so_go C0 2 (pc' := 27) (lv' := [(0, .ref (B 0)), (1, .int a1)]) (st' := [.long v4.toInt64]) rfl ?_
      exact so_retl C0 rfl rfl
  exact K r hr
def f_Mod_ask_L38 : Nat → zM → Int32 → Int32 → Int32 → Option (zM)
  | 0, _, _, _, _ => none
  | n + 1, S, x1, x2, x3 =>
    m_rd 16384 (S.1 5) x1 fun v22 =>
    if x3 < v22 then
      some S
    else
      m_rd 16384 (S.1 10) x3 fun v24 =>
      m_rd 16384 (S.1 9) x3 fun v25 =>
      m_rd 16384 (S.1 9) x3 fun v26 =>
      zob2 (f_Mod_placeBelow S x2 (v25 + 1) (v26 + 1).toInt64) fun S27 v28 =>
      zob (f_Mod_pair S27 v24 v28) fun S29 =>
      f_Mod_ask_L38 n S29 x1 x2 (x3 + (-1))
def f_Mod_ask (S : zM) (a1 : Int32) (a2 : Int32) : Option (zM) :=
  m_rd 16384 (S.1 2) a1 fun v1 =>
  if ¬ v1 = 4 then
    m_rd 16384 (S.1 2) a1 fun v3 =>
    if v3 = 0 then
      some S
    else
      m_rd 1025 (S.1 14) ((S.2.2 4) + 1) fun v5 =>
      m_wr 16385 v5 (m_set S 15 (Int32.toNatClampNeg v5) a2) fun S6 =>
      m_wr 16385 v5 (m_set S6 16 (Int32.toNatClampNeg v5) a1) fun S7 =>
      m_wr 1025 ((S7.2.2 4) + 1) (m_set S7 14 (Int32.toNatClampNeg ((S7.2.2 4) + 1)) (v5 + 1)) fun S8 =>
      m_rd 16384 (S8.1 5) a1 fun v9 =>
      if v9 < 0 then
        some S8
      else
        m_rd 16384 (S8.1 5) a1 fun v11 =>
        zob (f_Mod_numberOf S8 a1) fun v12 =>
        zob (f_Mod_inside S8 a1 v12) fun v13 =>
        zob2 (f_Mod_placeBelow S8 a2 1 v13) fun S14 v15 =>
        zob (f_Mod_pair S14 v11 v15) fun S16 =>
        some S16
  else
    m_rd 16384 (S.1 3) a1 fun v17 =>
    m_wr 16386 a2 (m_set S 22 (Int32.toNatClampNeg a2) v17) fun S18 =>
    m_rd 16384 (S18.1 5) a1 fun v19 =>
    m_rd 16384 (S18.1 6) a1 fun v20 =>
    zbind ((v19 + v20) - 1) fun v21 =>
    f_Mod_ask_L38 zbig S18 a1 a2 v21
set_option maxHeartbeats 1000000 in
set_option maxRecDepth 20000 in
theorem c_Mod_ask (S : zM) (a1 : Int32) (a2 : Int32) : ∀ r, f_Mod_ask S a1 a2 = some r → zMet l y_Mod_ask (zw y_Mod_ask prog_13_method_23_code 4 none) 2 49 [.ref (B 0), .int a1, .int a2] D zcl (ztys cA) A (mRep D cA B A) (fun _ => 0) (fun _ => 0) S (zFv r) := by
  intro r hr
  refine zMet_of ⟨Nat.le_refl _, Nat.le_refl _⟩ (by decide) tk_Mod_ask (Nat.le_of_ble_eq_true rfl) ?_
  intro p e R s m args below meth c hf hlo C0 hK hA
  have lp38 : ∀ (n : Nat) (S : zM) (x1 : Int32) (x2 : Int32) (x3 : Int32), mSO p l e R s m args below meth c 4 A D cA B S 38 [(0, .ref (B 0)), (1, .int x1), (2, .int x2), (3, .int x3)] [] zFv (f_Mod_ask_L38 n S x1 x2 x3) := by
    intro n
    induction n with
    | zero =>
      intro S x1 x2 x3
      rw [f_Mod_ask_L38]
      exact so_none
    | succ n ih38 =>
      intro S x1 x2 x3
      rw [f_Mod_ask_L38]
      refine so_go C0 2 (pc' := 40) (lv' := [(0, .ref (B 0)), (1, .int x1), (2, .int x2), (3, .int x3)]) (st' := [.ref (B 0), .int x3]) rfl ?_
      refine so_mget C0 hK (j := 7) (v := .ref (B 6)) (by decide) wd_5_26 rfl rfl ?_
      refine so_go C0 1 (pc' := 44) (lv' := [(0, .ref (B 0)), (1, .int x1), (2, .int x2), (3, .int x3)]) (st' := [.int x1, .ref (B 6), .int x3]) rfl ?_
      refine so_miald C0 hK (a := 5) (by decide) rfl rfl (by decide) rfl (fun v22 hv22 => ?_)
      refine so_icmp_lt C0 rfl (fun h23 => ?_) (fun h23 => ?_)
      · refine so_go C0 1 (pc' := 173) (lv' := [(0, .ref (B 0)), (1, .int x1), (2, .int x2), (3, .int x3)]) (st' := []) rfl ?_
        exact so_retv C0 rfl rfl
      · refine so_go C0 2 (pc' := 50) (lv' := [(0, .ref (B 0)), (1, .int x1), (2, .int x2), (3, .int x3)]) (st' := [.ref (B 0), .ref (B 0)]) rfl ?_
        refine so_mget C0 hK (j := 13) (v := .ref (B 11)) (by decide) wd_5_32 rfl rfl ?_
        refine so_go C0 1 (pc' := 54) (lv' := [(0, .ref (B 0)), (1, .int x1), (2, .int x2), (3, .int x3)]) (st' := [.int x3, .ref (B 11), .ref (B 0)]) rfl ?_
        refine so_msald C0 hK (a := 10) (by decide) rfl rfl (by decide) rfl (fun v24 hv24 => ?_)
        refine so_go C0 3 (pc' := 58) (lv' := [(0, .ref (B 0)), (1, .int x1), (2, .int x2), (3, .int x3)]) (st' := [.ref (B 0), .int x2, .ref (B 0), .int v24, .ref (B 0)]) rfl ?_
        refine so_mget C0 hK (j := 12) (v := .ref (B 10)) (by decide) wd_5_31 rfl rfl ?_
        refine so_go C0 1 (pc' := 62) (lv' := [(0, .ref (B 0)), (1, .int x1), (2, .int x2), (3, .int x3)]) (st' := [.int x3, .ref (B 10), .int x2, .ref (B 0), .int v24, .ref (B 0)]) rfl ?_
        refine so_msald C0 hK (a := 9) (by decide) rfl rfl (by decide) rfl (fun v25 hv25 => ?_)
        refine so_go C0 3 (pc' := 66) (lv' := [(0, .ref (B 0)), (1, .int x1), (2, .int x2), (3, .int x3)]) (st' := [.ref (B 0), .int (v25 + 1), .int x2, .ref (B 0), .int v24, .ref (B 0)]) rfl ?_
        refine so_mget C0 hK (j := 12) (v := .ref (B 10)) (by decide) wd_5_31 rfl rfl ?_
        refine so_go C0 1 (pc' := 70) (lv' := [(0, .ref (B 0)), (1, .int x1), (2, .int x2), (3, .int x3)]) (st' := [.int x3, .ref (B 10), .int (v25 + 1), .int x2, .ref (B 0), .int v24, .ref (B 0)]) rfl ?_
        refine so_msald C0 hK (a := 9) (by decide) rfl rfl (by decide) rfl (fun v26 hv26 => ?_)
        refine so_go C0 3 (pc' := 74) (lv' := [(0, .ref (B 0)), (1, .int x1), (2, .int x2), (3, .int x3)]) (st' := [.long ((v26 + 1).toInt64), .int (v25 + 1), .int x2, .ref (B 0), .int v24, .ref (B 0)]) rfl ?_
        refine so_oi (As := [.int x2, .int (v25 + 1), .long ((v26 + 1).toInt64)]) (rest := [.int v24, .ref (B 0)]) C0 hK hA yk_Mod_placeBelow (c_Mod_placeBelow S x2 (v25 + 1) ((v26 + 1).toInt64)) wd_6_6 rfl rfl ⟨by rw [hf]; decide, by rw [hlo]; decide⟩ (Nat.le_of_ble_eq_true rfl) (mrc hK) (fun S27 v28 hv28 => ?_)
        refine so_oV (As := [.int v24, .int v28]) (rest := []) C0 hK hA yk_Mod_pair (c_Mod_pair S27 v24 v28) wd_5_210 rfl rfl ⟨by rw [hf]; decide, by rw [hlo]; decide⟩ (Nat.le_of_ble_eq_true rfl) (mrc hK) (fun S29 hS29 => ?_)
        refine so_go C0 2 (pc' := 38) (lv' := [(0, .ref (B 0)), (1, .int x1), (2, .int x2), (3, .int (x3 + (-1)))]) (st' := []) rfl ?_
        exact so_sub (lv' := [(0, .ref (B 0)), (1, .int x1), (2, .int x2), (3, .int (x3 + (-1)))]) (zpk [0, 1, 2, 3] rfl) (ih38 S29 x1 x2 (x3 + (-1)))
  have K : mSO p l e R s m args below meth c 4 A D cA B S 0 (lv_args 0 [.ref (B 0), .int a1, .int a2]) [] zFv (f_Mod_ask S a1 a2) := by
    unfold f_Mod_ask
    refine so_go C0 1 (pc' := 1) (lv' := [(0, .ref (B 0)), (1, .int a1), (2, .int a2)]) (st' := [.ref (B 0)]) rfl ?_
    refine so_mget C0 hK (j := 4) (v := .ref (B 3)) (by decide) wd_5_23 rfl rfl ?_
    refine so_go C0 1 (pc' := 5) (lv' := [(0, .ref (B 0)), (1, .int a1), (2, .int a2)]) (st' := [.int a1, .ref (B 3)]) rfl ?_
    refine so_mbald C0 hK (a := 2) (by decide) rfl rfl (by decide) rfl (fun v1 hv1 => ?_)
    refine so_go C0 1 (pc' := 7) (lv' := [(0, .ref (B 0)), (1, .int a1), (2, .int a2)]) (st' := [.int 4, .int v1]) rfl ?_
    refine so_icmp_ne C0 rfl (fun h2 => ?_) (fun h2 => ?_)
    · refine so_go C0 1 (pc' := 90) (lv' := [(0, .ref (B 0)), (1, .int a1), (2, .int a2)]) (st' := [.ref (B 0)]) rfl ?_
      refine so_mget C0 hK (j := 4) (v := .ref (B 3)) (by decide) wd_5_23 rfl rfl ?_
      refine so_go C0 1 (pc' := 94) (lv' := [(0, .ref (B 0)), (1, .int a1), (2, .int a2)]) (st' := [.int a1, .ref (B 3)]) rfl ?_
      refine so_mbald C0 hK (a := 2) (by decide) rfl rfl (by decide) rfl (fun v3 hv3 => ?_)
      refine so_if_eq C0 rfl (fun h4 => ?_) (fun h4 => ?_)
      · exact so_retv C0 rfl rfl
      · refine so_go C0 1 (pc' := 99) (lv' := [(0, .ref (B 0)), (1, .int a1), (2, .int a2)]) (st' := [.ref (B 0)]) rfl ?_
        refine so_mget C0 hK (j := 19) (v := .ref (B 15)) (by decide) wd_5_38 rfl rfl ?_
        refine so_go C0 1 (pc' := 103) (lv' := [(0, .ref (B 0)), (1, .int a1), (2, .int a2)]) (st' := [.ref (B 0), .ref (B 15)]) rfl ?_
        refine so_mget C0 hK (j := 17) (v := .int (S.2.2 4)) (by decide) wd_5_36 rfl rfl ?_
        refine so_go C0 2 (pc' := 108) (lv' := [(0, .ref (B 0)), (1, .int a1), (2, .int a2)]) (st' := [.int ((S.2.2 4) + 1), .ref (B 15)]) rfl ?_
        refine so_miald C0 hK (a := 14) (by decide) rfl rfl (by decide) rfl (fun v5 hv5 => ?_)
        refine so_go C0 2 (pc' := 111) (lv' := [(0, .ref (B 0)), (1, .int a1), (2, .int a2), (3, .int v5)]) (st' := [.ref (B 0)]) rfl ?_
        refine so_mget C0 hK (j := 21) (v := .ref (B 16)) (by decide) wd_5_40 rfl rfl ?_
        refine so_go C0 2 (pc' := 116) (lv' := [(0, .ref (B 0)), (1, .int a1), (2, .int a2), (3, .int v5)]) (st' := [.int a2, .int v5, .ref (B 16)]) rfl ?_
        refine so_miast C0 hK (a := 15) (by decide) rfl rfl (by decide) rfl (fun S6 hS6 => ?_)
        refine so_go C0 1 (pc' := 118) (lv' := [(0, .ref (B 0)), (1, .int a1), (2, .int a2), (3, .int v5)]) (st' := [.ref (B 0)]) rfl ?_
        refine so_mget C0 hK (j := 22) (v := .ref (B 17)) (by decide) wd_5_41 rfl rfl ?_
        refine so_go C0 2 (pc' := 123) (lv' := [(0, .ref (B 0)), (1, .int a1), (2, .int a2), (3, .int v5)]) (st' := [.int a1, .int v5, .ref (B 17)]) rfl ?_
        refine so_miast C0 hK (a := 16) (by decide) rfl rfl (by decide) rfl (fun S7 hS7 => ?_)
        refine so_go C0 1 (pc' := 125) (lv' := [(0, .ref (B 0)), (1, .int a1), (2, .int a2), (3, .int v5)]) (st' := [.ref (B 0)]) rfl ?_
        refine so_mget C0 hK (j := 19) (v := .ref (B 15)) (by decide) wd_5_38 rfl rfl ?_
        refine so_go C0 1 (pc' := 129) (lv' := [(0, .ref (B 0)), (1, .int a1), (2, .int a2), (3, .int v5)]) (st' := [.ref (B 0), .ref (B 15)]) rfl ?_
        refine so_mget C0 hK (j := 17) (v := .int (S7.2.2 4)) (by decide) wd_5_36 rfl rfl ?_
        refine so_go C0 5 (pc' := 137) (lv' := [(0, .ref (B 0)), (1, .int a1), (2, .int a2), (3, .int v5)]) (st' := [.int (v5 + 1), .int ((S7.2.2 4) + 1), .ref (B 15)]) rfl ?_
        refine so_miast C0 hK (a := 14) (by decide) rfl rfl (by decide) rfl (fun S8 hS8 => ?_)
        refine so_go C0 1 (pc' := 139) (lv' := [(0, .ref (B 0)), (1, .int a1), (2, .int a2), (3, .int v5)]) (st' := [.ref (B 0)]) rfl ?_
        refine so_mget C0 hK (j := 7) (v := .ref (B 6)) (by decide) wd_5_26 rfl rfl ?_
        refine so_go C0 1 (pc' := 143) (lv' := [(0, .ref (B 0)), (1, .int a1), (2, .int a2), (3, .int v5)]) (st' := [.int a1, .ref (B 6)]) rfl ?_
        refine so_miald C0 hK (a := 5) (by decide) rfl rfl (by decide) rfl (fun v9 hv9 => ?_)
        refine so_if_lt C0 rfl (fun h10 => ?_) (fun h10 => ?_)
        · exact so_retv C0 rfl rfl
        · refine so_go C0 2 (pc' := 149) (lv' := [(0, .ref (B 0)), (1, .int a1), (2, .int a2), (3, .int v5)]) (st' := [.ref (B 0), .ref (B 0)]) rfl ?_
          refine so_mget C0 hK (j := 7) (v := .ref (B 6)) (by decide) wd_5_26 rfl rfl ?_
          refine so_go C0 1 (pc' := 153) (lv' := [(0, .ref (B 0)), (1, .int a1), (2, .int a2), (3, .int v5)]) (st' := [.int a1, .ref (B 6), .ref (B 0)]) rfl ?_
          refine so_miald C0 hK (a := 5) (by decide) rfl rfl (by decide) rfl (fun v11 hv11 => ?_)
          refine so_go C0 7 (pc' := 161) (lv' := [(0, .ref (B 0)), (1, .int a1), (2, .int a2), (3, .int v5)]) (st' := [.int a1, .ref (B 0), .int a1, .ref (B 0), .int 1, .int a2, .ref (B 0), .int v11, .ref (B 0)]) rfl ?_
          refine so_opl (As := [.int a1]) (rest := [.int a1, .ref (B 0), .int 1, .int a2, .ref (B 0), .int v11, .ref (B 0)]) C0 hK hA yk_Mod_numberOf (c_Mod_numberOf S8 a1) wd_6_14 rfl rfl ⟨by rw [hf]; decide, by rw [hlo]; decide⟩ (Nat.le_of_ble_eq_true rfl) (mrc hK) (fun v12 hv12 => ?_)
          refine so_opl (As := [.int a1, .long v12]) (rest := [.int 1, .int a2, .ref (B 0), .int v11, .ref (B 0)]) C0 hK hA yk_Mod_inside (c_Mod_inside S8 a1 v12) wd_6_18 rfl rfl ⟨by rw [hf]; decide, by rw [hlo]; decide⟩ (Nat.le_of_ble_eq_true rfl) (mrc hK) (fun v13 hv13 => ?_)
          refine so_oi (As := [.int a2, .int 1, .long v13]) (rest := [.int v11, .ref (B 0)]) C0 hK hA yk_Mod_placeBelow (c_Mod_placeBelow S8 a2 1 v13) wd_6_6 rfl rfl ⟨by rw [hf]; decide, by rw [hlo]; decide⟩ (Nat.le_of_ble_eq_true rfl) (mrc hK) (fun S14 v15 hv15 => ?_)
          refine so_oV (As := [.int v11, .int v15]) (rest := []) C0 hK hA yk_Mod_pair (c_Mod_pair S14 v11 v15) wd_5_210 rfl rfl ⟨by rw [hf]; decide, by rw [hlo]; decide⟩ (Nat.le_of_ble_eq_true rfl) (mrc hK) (fun S16 hS16 => ?_)
          exact so_retv C0 rfl rfl
    · refine so_go C0 1 (pc' := 11) (lv' := [(0, .ref (B 0)), (1, .int a1), (2, .int a2)]) (st' := [.ref (B 0)]) rfl ?_
      refine so_mget C0 hK (j := 29) (v := .ref (B 23)) (by decide) wd_5_48 rfl rfl ?_
      refine so_go C0 2 (pc' := 16) (lv' := [(0, .ref (B 0)), (1, .int a1), (2, .int a2)]) (st' := [.ref (B 0), .int a2, .ref (B 23)]) rfl ?_
      refine so_mget C0 hK (j := 5) (v := .ref (B 4)) (by decide) wd_5_24 rfl rfl ?_
      refine so_go C0 1 (pc' := 20) (lv' := [(0, .ref (B 0)), (1, .int a1), (2, .int a2)]) (st' := [.int a1, .ref (B 4), .int a2, .ref (B 23)]) rfl ?_
      refine so_miald C0 hK (a := 3) (by decide) rfl rfl (by decide) rfl (fun v17 hv17 => ?_)
      refine so_miast C0 hK (a := 22) (by decide) rfl rfl (by decide) rfl (fun S18 hS18 => ?_)
      refine so_go C0 1 (pc' := 23) (lv' := [(0, .ref (B 0)), (1, .int a1), (2, .int a2)]) (st' := [.ref (B 0)]) rfl ?_
      refine so_mget C0 hK (j := 7) (v := .ref (B 6)) (by decide) wd_5_26 rfl rfl ?_
      refine so_go C0 1 (pc' := 27) (lv' := [(0, .ref (B 0)), (1, .int a1), (2, .int a2)]) (st' := [.int a1, .ref (B 6)]) rfl ?_
      refine so_miald C0 hK (a := 5) (by decide) rfl rfl (by decide) rfl (fun v19 hv19 => ?_)
      refine so_go C0 1 (pc' := 29) (lv' := [(0, .ref (B 0)), (1, .int a1), (2, .int a2)]) (st' := [.ref (B 0), .int v19]) rfl ?_
      refine so_mget C0 hK (j := 8) (v := .ref (B 7)) (by decide) wd_5_27 rfl rfl ?_
      refine so_go C0 1 (pc' := 33) (lv' := [(0, .ref (B 0)), (1, .int a1), (2, .int a2)]) (st' := [.int a1, .ref (B 7), .int v19]) rfl ?_
      refine so_msald C0 hK (a := 6) (by decide) rfl rfl (by decide) rfl (fun v20 hv20 => ?_)
      refine so_go C0 3 (pc' := 37) (lv' := [(0, .ref (B 0)), (1, .int a1), (2, .int a2)]) (st' := [.int ((v19 + v20) - 1)]) rfl ?_
      refine so_nm (V := .int) (fun v21 hv21 => ?_)
      refine so_go C0 1 (pc' := 38) (lv' := [(0, .ref (B 0)), (1, .int a1), (2, .int a2), (3, .int v21)]) (st' := []) rfl ?_
      exact so_sub (lv' := [(0, .ref (B 0)), (1, .int a1), (2, .int a2), (3, .int v21)]) (zpk [0, 1, 2, 3] rfl) (lp38 zbig S18 a1 a2 v21)
  exact K r hr
end ZN
