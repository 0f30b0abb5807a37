-- by program: the methods of RuleTree, as functions, and that the code does them
section ZM
variable {cA : Nat → ClassId} {G : Nat → Nat} {A : Nat → Prop} {D : va_G} {l : Launch}
def f_Tre_family (S : zS) (a1 : Int32) (a2 : Int64) : zS × Int32 :=
  if a1 < 1 then
    (S, (-1))
  else
    if a1 ≤ 64 then
      if 64 ≤ a1 then
        zbind2 (f_Fam_add S a1 a2) fun S4 v5 =>
        (S4, v5)
      else
        if (lg_cmp (z_lushr a2 a1) 0) = 0 then
          zbind2 (f_Fam_add S a1 a2) fun S7 v8 =>
          (S7, v8)
        else
          (S, (-1))
    else
      (S, (-1))
theorem mo_Tre_family (S : zS) (a1 : Int32) (a2 : Int64) : zmo S (f_Tre_family S a1 a2).1 := by
  unfold f_Tre_family
  exact (mo_if (g := Prod.fst) zmo_rf (mo_if (g := Prod.fst) (mo_if (g := Prod.fst) (mo_b2 (g := Prod.fst) (mo_Fam_add S a1 a2) fun S4 v5 => zmo_rf) (mo_if (g := Prod.fst) (mo_b2 (g := Prod.fst) (mo_Fam_add S a1 a2) fun S7 v8 => zmo_rf) zmo_rf)) zmo_rf))
set_option maxHeartbeats 1000000 in
set_option maxRecDepth 20000 in
theorem c_Tre_family (S : zS) (a1 : Int32) (a2 : Int64) : zMet l y_Tre_family (zw y_Tre_family prog_1_method_2_code 4 (some Jvm.ClassFile.FieldType.int)) 4 107 [.ref (G 0), .int a1, .long a2] D zcl (ztys cA) A (zRep D cA G A) zfc zfs S (zFi (f_Tre_family S a1 a2)) := by
  refine zMet_of (mo_Fi (mo_Tre_family S a1 a2)) (by decide) tk_Tre_family (Nat.le_of_ble_eq_true rfl) ?_
  intro p e R s m args below meth c hf hlo C0 hK hA
  unfold f_Tre_family
  refine sw_go C0 2 (pc' := 2) (lv' := [(0, .ref (G 0)), (1, .int a1), (2, .long a2)]) (st' := [.int 1, .int a1]) rfl ?_
  refine sw_icmp_lt zFi C0 rfl (fun h1 => ?_) (fun h1 => ?_)
  · refine sw_go C0 1 (pc' := 12) (lv' := [(0, .ref (G 0)), (1, .int a1), (2, .long a2)]) (st' := [.int (-1)]) rfl ?_
    exact sw_reti C0 rfl rfl
  · refine sw_go C0 2 (pc' := 8) (lv' := [(0, .ref (G 0)), (1, .int a1), (2, .long a2)]) (st' := [.int 64, .int a1]) rfl ?_
    refine sw_icmp_le zFi C0 rfl (fun h2 => ?_) (fun h2 => ?_)
    · refine sw_go C0 2 (pc' := 16) (lv' := [(0, .ref (G 0)), (1, .int a1), (2, .long a2)]) (st' := [.int 64, .int a1]) rfl ?_
      refine sw_icmp_ge zFi C0 rfl (fun h3 => ?_) (fun h3 => ?_)
      · refine sw_go C0 1 (pc' := 30) (lv' := [(0, .ref (G 0)), (1, .int a1), (2, .long a2)]) (st' := [.ref (G 0)]) rfl ?_
        refine sw_getf C0 hK (o := 0) (j := 0) (v := .ref (G 1)) (by decide) rfl i_Tre (by decide) wd_2_81 rfl rfl ?_
        refine sw_go C0 2 (pc' := 35) (lv' := [(0, .ref (G 0)), (1, .int a1), (2, .long a2)]) (st' := [.long a2, .int a1, .ref (G 1)]) rfl ?_
        refine sw_ci zFi (As := [.int a1, .long a2]) (rest := []) C0 hK hA yk_Fam_add (c_Fam_add S a1 a2) wd_2_122 rfl rfl ⟨by rw [hf]; decide, by rw [hlo]; decide⟩ (Nat.le_of_ble_eq_true rfl) (zrc_obj (o := 1) hK (by decide) rfl) (fun S4 v5 hv5 => ?_)
        exact sw_reti C0 rfl rfl
      · refine sw_go C0 5 (pc' := 24) (lv' := [(0, .ref (G 0)), (1, .int a1), (2, .long a2)]) (st' := [.int (lg_cmp (z_lushr a2 a1) 0)]) rfl ?_
        refine sw_if_eq zFi C0 rfl (fun h6 => ?_) (fun h6 => ?_)
        · refine sw_go C0 1 (pc' := 30) (lv' := [(0, .ref (G 0)), (1, .int a1), (2, .long a2)]) (st' := [.ref (G 0)]) rfl ?_
          refine sw_getf C0 hK (o := 0) (j := 0) (v := .ref (G 1)) (by decide) rfl i_Tre (by decide) wd_2_81 rfl rfl ?_
          refine sw_go C0 2 (pc' := 35) (lv' := [(0, .ref (G 0)), (1, .int a1), (2, .long a2)]) (st' := [.long a2, .int a1, .ref (G 1)]) rfl ?_
          refine sw_ci zFi (As := [.int a1, .long a2]) (rest := []) C0 hK hA yk_Fam_add (c_Fam_add S a1 a2) wd_2_122 rfl rfl ⟨by rw [hf]; decide, by rw [hlo]; decide⟩ (Nat.le_of_ble_eq_true rfl) (zrc_obj (o := 1) hK (by decide) rfl) (fun S7 v8 hv8 => ?_)
          exact sw_reti C0 rfl rfl
        · refine sw_go C0 1 (pc' := 28) (lv' := [(0, .ref (G 0)), (1, .int a1), (2, .long a2)]) (st' := [.int (-1)]) rfl ?_
          exact sw_reti C0 rfl rfl
    · refine sw_go C0 1 (pc' := 12) (lv' := [(0, .ref (G 0)), (1, .int a1), (2, .long a2)]) (st' := [.int (-1)]) rfl ?_
      exact sw_reti C0 rfl rfl
def f_Tre_any (S : zS) : zS × Int32 :=
  zbind2 (f_Pat_addPlain S 0 0 0 (-1)) fun S1 v2 =>
  (S1, v2)
theorem mo_Tre_any (S : zS) : zmo S (f_Tre_any S).1 := by
  unfold f_Tre_any
  exact (mo_b2 (g := Prod.fst) (mo_Pat_addPlain S 0 0 0 (-1)) fun S1 v2 => zmo_rf)
set_option maxHeartbeats 1000000 in
set_option maxRecDepth 20000 in
theorem c_Tre_any (S : zS) : zMet l y_Tre_any (zw y_Tre_any prog_1_method_3_code 1 (some Jvm.ClassFile.FieldType.int)) 4 109 [.ref (G 0)] D zcl (ztys cA) A (zRep D cA G A) zfc zfs S (zFi (f_Tre_any S)) := by
  refine zMet_of (mo_Fi (mo_Tre_any S)) (by decide) tk_Tre_any (Nat.le_of_ble_eq_true rfl) ?_
  intro p e R s m args below meth c hf hlo C0 hK hA
  unfold f_Tre_any
  refine sw_go C0 1 (pc' := 1) (lv' := [(0, .ref (G 0))]) (st' := [.ref (G 0)]) rfl ?_
  refine sw_getf C0 hK (o := 0) (j := 1) (v := .ref (G 2)) (by decide) rfl i_Tre (by decide) wd_2_82 rfl rfl ?_
  refine sw_go C0 4 (pc' := 8) (lv' := [(0, .ref (G 0))]) (st' := [.int (-1), .int 0, .int 0, .int 0, .ref (G 2)]) rfl ?_
  refine sw_ci zFi (As := [.int 0, .int 0, .int 0, .int (-1)]) (rest := []) C0 hK hA yk_Pat_addPlain (c_Pat_addPlain S 0 0 0 (-1)) wd_2_135 rfl rfl ⟨by rw [hf]; decide, by rw [hlo]; decide⟩ (Nat.le_of_ble_eq_true rfl) (zrc_obj (o := 2) hK (by decide) rfl) (fun S1 v2 hv2 => ?_)
  exact sw_reti C0 rfl rfl
def f_Tre_constant (S : zS) (a1 : Int32) (a2 : Int32) : zS × Int32 :=
  if a1 < 0 then
    (S, (-1))
  else
    if a1 < 4 then
      if ¬ a1 = 2 then
        zbind2 (f_Pat_addPlain S 1 a1 a2 (-1)) fun S4 v5 =>
        (S4, v5)
      else
        if a2 < 0 then
          (S, (-1))
        else
          if a2 < 256 then
            zbind2 (f_Pat_addPlain S 1 a1 a2 (-1)) fun S8 v9 =>
            (S8, v9)
          else
            (S, (-1))
    else
      (S, (-1))
theorem mo_Tre_constant (S : zS) (a1 : Int32) (a2 : Int32) : zmo S (f_Tre_constant S a1 a2).1 := by
  unfold f_Tre_constant
  exact (mo_if (g := Prod.fst) zmo_rf (mo_if (g := Prod.fst) (mo_if (g := Prod.fst) (mo_b2 (g := Prod.fst) (mo_Pat_addPlain S 1 a1 a2 (-1)) fun S4 v5 => zmo_rf) (mo_if (g := Prod.fst) zmo_rf (mo_if (g := Prod.fst) (mo_b2 (g := Prod.fst) (mo_Pat_addPlain S 1 a1 a2 (-1)) fun S8 v9 => zmo_rf) zmo_rf))) zmo_rf))
set_option maxHeartbeats 1000000 in
set_option maxRecDepth 20000 in
theorem c_Tre_constant (S : zS) (a1 : Int32) (a2 : Int32) : zMet l y_Tre_constant (zw y_Tre_constant prog_1_method_4_code 3 (some Jvm.ClassFile.FieldType.int)) 4 109 [.ref (G 0), .int a1, .int a2] D zcl (ztys cA) A (zRep D cA G A) zfc zfs S (zFi (f_Tre_constant S a1 a2)) := by
  refine zMet_of (mo_Fi (mo_Tre_constant S a1 a2)) (by decide) tk_Tre_constant (Nat.le_of_ble_eq_true rfl) ?_
  intro p e R s m args below meth c hf hlo C0 hK hA
  unfold f_Tre_constant
  refine sw_go C0 1 (pc' := 1) (lv' := [(0, .ref (G 0)), (1, .int a1), (2, .int a2)]) (st' := [.int a1]) rfl ?_
  refine sw_if_lt zFi C0 rfl (fun h1 => ?_) (fun h1 => ?_)
  · refine sw_go C0 1 (pc' := 10) (lv' := [(0, .ref (G 0)), (1, .int a1), (2, .int a2)]) (st' := [.int (-1)]) rfl ?_
    exact sw_reti C0 rfl rfl
  · refine sw_go C0 2 (pc' := 6) (lv' := [(0, .ref (G 0)), (1, .int a1), (2, .int a2)]) (st' := [.int 4, .int a1]) rfl ?_
    refine sw_icmp_lt zFi C0 rfl (fun h2 => ?_) (fun h2 => ?_)
    · refine sw_go C0 2 (pc' := 13) (lv' := [(0, .ref (G 0)), (1, .int a1), (2, .int a2)]) (st' := [.int 2, .int a1]) rfl ?_
      refine sw_icmp_ne zFi C0 rfl (fun h3 => ?_) (fun h3 => ?_)
      · refine sw_go C0 1 (pc' := 30) (lv' := [(0, .ref (G 0)), (1, .int a1), (2, .int a2)]) (st' := [.ref (G 0)]) rfl ?_
        refine sw_getf C0 hK (o := 0) (j := 1) (v := .ref (G 2)) (by decide) rfl i_Tre (by decide) wd_2_82 rfl rfl ?_
        refine sw_go C0 4 (pc' := 37) (lv' := [(0, .ref (G 0)), (1, .int a1), (2, .int a2)]) (st' := [.int (-1), .int a2, .int a1, .int 1, .ref (G 2)]) rfl ?_
        refine sw_ci zFi (As := [.int 1, .int a1, .int a2, .int (-1)]) (rest := []) C0 hK hA yk_Pat_addPlain (c_Pat_addPlain S 1 a1 a2 (-1)) wd_2_135 rfl rfl ⟨by rw [hf]; decide, by rw [hlo]; decide⟩ (Nat.le_of_ble_eq_true rfl) (zrc_obj (o := 2) hK (by decide) rfl) (fun S4 v5 hv5 => ?_)
        exact sw_reti C0 rfl rfl
      · refine sw_go C0 1 (pc' := 17) (lv' := [(0, .ref (G 0)), (1, .int a1), (2, .int a2)]) (st' := [.int a2]) rfl ?_
        refine sw_if_lt zFi C0 rfl (fun h6 => ?_) (fun h6 => ?_)
        · refine sw_go C0 1 (pc' := 28) (lv' := [(0, .ref (G 0)), (1, .int a1), (2, .int a2)]) (st' := [.int (-1)]) rfl ?_
          exact sw_reti C0 rfl rfl
        · refine sw_go C0 2 (pc' := 24) (lv' := [(0, .ref (G 0)), (1, .int a1), (2, .int a2)]) (st' := [.int 256, .int a2]) rfl ?_
          refine sw_icmp_lt zFi C0 rfl (fun h7 => ?_) (fun h7 => ?_)
          · refine sw_go C0 1 (pc' := 30) (lv' := [(0, .ref (G 0)), (1, .int a1), (2, .int a2)]) (st' := [.ref (G 0)]) rfl ?_
            refine sw_getf C0 hK (o := 0) (j := 1) (v := .ref (G 2)) (by decide) rfl i_Tre (by decide) wd_2_82 rfl rfl ?_
            refine sw_go C0 4 (pc' := 37) (lv' := [(0, .ref (G 0)), (1, .int a1), (2, .int a2)]) (st' := [.int (-1), .int a2, .int a1, .int 1, .ref (G 2)]) rfl ?_
            refine sw_ci zFi (As := [.int 1, .int a1, .int a2, .int (-1)]) (rest := []) C0 hK hA yk_Pat_addPlain (c_Pat_addPlain S 1 a1 a2 (-1)) wd_2_135 rfl rfl ⟨by rw [hf]; decide, by rw [hlo]; decide⟩ (Nat.le_of_ble_eq_true rfl) (zrc_obj (o := 2) hK (by decide) rfl) (fun S8 v9 hv9 => ?_)
            exact sw_reti C0 rfl rfl
          · refine sw_go C0 1 (pc' := 28) (lv' := [(0, .ref (G 0)), (1, .int a1), (2, .int a2)]) (st' := [.int (-1)]) rfl ?_
            exact sw_reti C0 rfl rfl
    · refine sw_go C0 1 (pc' := 10) (lv' := [(0, .ref (G 0)), (1, .int a1), (2, .int a2)]) (st' := [.int (-1)]) rfl ?_
      exact sw_reti C0 rfl rfl
def f_Tre_built (S : zS) (a1 : Int32) (a2 : Int32) (a3 : Int32) : zS × Int32 :=
  if ¬ (f_Fam_hasTag S a1 a2) = 0 then
    if (f_Fam_takesArgument S a1 a2) = 0 then
      if ¬ a3 = (-1) then
        (S, (-1))
      else
        zbind2 (f_Pat_addPlain S 2 a1 a2 a3) fun S4 v5 =>
        (S4, v5)
    else
      zbind (f_Pat_has S a3) fun v6 =>
      if v6 = 0 then
        (S, (-1))
      else
        zbind2 (f_Pat_addPlain S 2 a1 a2 a3) fun S8 v9 =>
        (S8, v9)
  else
    (S, (-1))
theorem mo_Tre_built (S : zS) (a1 : Int32) (a2 : Int32) (a3 : Int32) : zmo S (f_Tre_built S a1 a2 a3).1 := by
  unfold f_Tre_built
  exact (mo_if (g := Prod.fst) (mo_if (g := Prod.fst) (mo_if (g := Prod.fst) zmo_rf (mo_b2 (g := Prod.fst) (mo_Pat_addPlain S 2 a1 a2 a3) fun S4 v5 => zmo_rf)) (mo_n (g := Prod.fst) fun v6 => (mo_if (g := Prod.fst) zmo_rf (mo_b2 (g := Prod.fst) (mo_Pat_addPlain S 2 a1 a2 a3) fun S8 v9 => zmo_rf)))) zmo_rf)
set_option maxHeartbeats 1000000 in
set_option maxRecDepth 20000 in
theorem c_Tre_built (S : zS) (a1 : Int32) (a2 : Int32) (a3 : Int32) : zMet l y_Tre_built (zw y_Tre_built prog_1_method_5_code 5 (some Jvm.ClassFile.FieldType.int)) 4 109 [.ref (G 0), .int a1, .int a2, .int a3] D zcl (ztys cA) A (zRep D cA G A) zfc zfs S (zFi (f_Tre_built S a1 a2 a3)) := by
  refine zMet_of (mo_Fi (mo_Tre_built S a1 a2 a3)) (by decide) tk_Tre_built (Nat.le_of_ble_eq_true rfl) ?_
  intro p e R s m args below meth c hf hlo C0 hK hA
  unfold f_Tre_built
  refine sw_go C0 1 (pc' := 1) (lv' := [(0, .ref (G 0)), (1, .int a1), (2, .int a2), (3, .int a3)]) (st' := [.ref (G 0)]) rfl ?_
  refine sw_getf C0 hK (o := 0) (j := 0) (v := .ref (G 1)) (by decide) rfl i_Tre (by decide) wd_2_81 rfl rfl ?_
  refine sw_go C0 2 (pc' := 6) (lv' := [(0, .ref (G 0)), (1, .int a1), (2, .int a2), (3, .int a3)]) (st' := [.int a2, .int a1, .ref (G 1)]) rfl ?_
  refine sw_cp (As := [.int a1, .int a2]) (rest := []) C0 hK hA yk_Fam_hasTag (c_Fam_hasTag S a1 a2) wd_2_161 rfl rfl ⟨by rw [hf]; decide, by rw [hlo]; decide⟩ (Nat.le_of_ble_eq_true rfl) (zrc_obj (o := 1) hK (by decide) rfl) ?_
  refine sw_if_ne zFi C0 rfl (fun h1 => ?_) (fun h1 => ?_)
  · refine sw_go C0 1 (pc' := 15) (lv' := [(0, .ref (G 0)), (1, .int a1), (2, .int a2), (3, .int a3)]) (st' := [.ref (G 0)]) rfl ?_
    refine sw_getf C0 hK (o := 0) (j := 0) (v := .ref (G 1)) (by decide) rfl i_Tre (by decide) wd_2_81 rfl rfl ?_
    refine sw_go C0 2 (pc' := 20) (lv' := [(0, .ref (G 0)), (1, .int a1), (2, .int a2), (3, .int a3)]) (st' := [.int a2, .int a1, .ref (G 1)]) rfl ?_
    refine sw_cp (As := [.int a1, .int a2]) (rest := []) C0 hK hA yk_Fam_takesArgument (c_Fam_takesArgument S a1 a2) wd_2_166 rfl rfl ⟨by rw [hf]; decide, by rw [hlo]; decide⟩ (Nat.le_of_ble_eq_true rfl) (zrc_obj (o := 1) hK (by decide) rfl) ?_
    refine sw_if_eq zFi C0 rfl (fun h2 => ?_) (fun h2 => ?_)
    · refine sw_go C0 2 (pc' := 39) (lv' := [(0, .ref (G 0)), (1, .int a1), (2, .int a2), (3, .int a3)]) (st' := [.int (-1), .int a3]) rfl ?_
      refine sw_icmp_ne zFi C0 rfl (fun h3 => ?_) (fun h3 => ?_)
      · refine sw_go C0 3 (pc' := 51) (lv' := [(0, .ref (G 0)), (1, .int a1), (2, .int a2), (3, .int a3), (4, .int 0)]) (st' := [.int 0]) rfl ?_
        refine sw_if_eqT C0 rfl (by decide) ?_
        refine sw_go C0 1 (pc' := 69) (lv' := [(0, .ref (G 0)), (1, .int a1), (2, .int a2), (3, .int a3), (4, .int 0)]) (st' := [.int (-1)]) rfl ?_
        exact sw_reti C0 rfl rfl
      · refine sw_go C0 4 (pc' := 51) (lv' := [(0, .ref (G 0)), (1, .int a1), (2, .int a2), (3, .int a3), (4, .int 1)]) (st' := [.int 1]) rfl ?_
        refine sw_if_eqF C0 rfl (by decide) ?_
        refine sw_go C0 1 (pc' := 55) (lv' := [(0, .ref (G 0)), (1, .int a1), (2, .int a2), (3, .int a3), (4, .int 1)]) (st' := [.ref (G 0)]) rfl ?_
        refine sw_getf C0 hK (o := 0) (j := 1) (v := .ref (G 2)) (by decide) rfl i_Tre (by decide) wd_2_82 rfl rfl ?_
        refine sw_go C0 4 (pc' := 62) (lv' := [(0, .ref (G 0)), (1, .int a1), (2, .int a2), (3, .int a3), (4, .int 1)]) (st' := [.int a3, .int a2, .int a1, .int 2, .ref (G 2)]) rfl ?_
        refine sw_ci zFi (As := [.int 2, .int a1, .int a2, .int a3]) (rest := []) C0 hK hA yk_Pat_addPlain (c_Pat_addPlain S 2 a1 a2 a3) wd_2_135 rfl rfl ⟨by rw [hf]; decide, by rw [hlo]; decide⟩ (Nat.le_of_ble_eq_true rfl) (zrc_obj (o := 2) hK (by decide) rfl) (fun S4 v5 hv5 => ?_)
        refine sw_go C0 1 (pc' := 69) (lv' := [(0, .ref (G 0)), (1, .int a1), (2, .int a2), (3, .int a3), (4, .int 1)]) (st' := [.int v5]) rfl ?_
        exact sw_reti C0 rfl rfl
    · refine sw_go C0 1 (pc' := 27) (lv' := [(0, .ref (G 0)), (1, .int a1), (2, .int a2), (3, .int a3)]) (st' := [.ref (G 0)]) rfl ?_
      refine sw_getf C0 hK (o := 0) (j := 1) (v := .ref (G 2)) (by decide) rfl i_Tre (by decide) wd_2_82 rfl rfl ?_
      refine sw_go C0 1 (pc' := 31) (lv' := [(0, .ref (G 0)), (1, .int a1), (2, .int a2), (3, .int a3)]) (st' := [.int a3, .ref (G 2)]) rfl ?_
      refine sw_cp (As := [.int a3]) (rest := []) C0 hK hA yk_Pat_has (c_Pat_has S a3) wd_2_171 rfl rfl ⟨by rw [hf]; decide, by rw [hlo]; decide⟩ (Nat.le_of_ble_eq_true rfl) (zrc_obj (o := 2) hK (by decide) rfl) ?_
      refine sw_go C0 1 (pc' := 47) (lv' := [(0, .ref (G 0)), (1, .int a1), (2, .int a2), (3, .int a3)]) (st' := [.int (f_Pat_has S a3)]) rfl ?_
      refine sw_nm zFi (V := .int) (fun v6 hv6 => ?_)
      refine sw_go C0 2 (pc' := 51) (lv' := [(0, .ref (G 0)), (1, .int a1), (2, .int a2), (3, .int a3), (4, .int v6)]) (st' := [.int v6]) rfl ?_
      refine sw_if_eq zFi C0 rfl (fun h7 => ?_) (fun h7 => ?_)
      · refine sw_go C0 1 (pc' := 69) (lv' := [(0, .ref (G 0)), (1, .int a1), (2, .int a2), (3, .int a3), (4, .int v6)]) (st' := [.int (-1)]) rfl ?_
        exact sw_reti C0 rfl rfl
      · refine sw_go C0 1 (pc' := 55) (lv' := [(0, .ref (G 0)), (1, .int a1), (2, .int a2), (3, .int a3), (4, .int v6)]) (st' := [.ref (G 0)]) rfl ?_
        refine sw_getf C0 hK (o := 0) (j := 1) (v := .ref (G 2)) (by decide) rfl i_Tre (by decide) wd_2_82 rfl rfl ?_
        refine sw_go C0 4 (pc' := 62) (lv' := [(0, .ref (G 0)), (1, .int a1), (2, .int a2), (3, .int a3), (4, .int v6)]) (st' := [.int a3, .int a2, .int a1, .int 2, .ref (G 2)]) rfl ?_
        refine sw_ci zFi (As := [.int 2, .int a1, .int a2, .int a3]) (rest := []) C0 hK hA yk_Pat_addPlain (c_Pat_addPlain S 2 a1 a2 a3) wd_2_135 rfl rfl ⟨by rw [hf]; decide, by rw [hlo]; decide⟩ (Nat.le_of_ble_eq_true rfl) (zrc_obj (o := 2) hK (by decide) rfl) (fun S8 v9 hv9 => ?_)
        refine sw_go C0 1 (pc' := 69) (lv' := [(0, .ref (G 0)), (1, .int a1), (2, .int a2), (3, .int a3), (4, .int v6)]) (st' := [.int v9]) rfl ?_
        exact sw_reti C0 rfl rfl
  · refine sw_go C0 1 (pc' := 13) (lv' := [(0, .ref (G 0)), (1, .int a1), (2, .int a2), (3, .int a3)]) (st' := [.int (-1)]) rfl ?_
    exact sw_reti C0 rfl rfl
def f_Tre_name (S : zS) (a1 : Int32) (a2 : Int32) : zS × Int32 :=
  if a1 < 0 then
    (S, (-1))
  else
    if a2 = (-1) then
      zbind2 (f_Pat_addPlain S 3 0 a1 a2) fun S3 v4 =>
      (S3, v4)
    else
      if ¬ (f_Pat_has S a2) = 0 then
        zbind2 (f_Pat_addPlain S 3 0 a1 a2) fun S6 v7 =>
        (S6, v7)
      else
        (S, (-1))
theorem mo_Tre_name (S : zS) (a1 : Int32) (a2 : Int32) : zmo S (f_Tre_name S a1 a2).1 := by
  unfold f_Tre_name
  exact (mo_if (g := Prod.fst) zmo_rf (mo_if (g := Prod.fst) (mo_b2 (g := Prod.fst) (mo_Pat_addPlain S 3 0 a1 a2) fun S3 v4 => zmo_rf) (mo_if (g := Prod.fst) (mo_b2 (g := Prod.fst) (mo_Pat_addPlain S 3 0 a1 a2) fun S6 v7 => zmo_rf) zmo_rf)))
set_option maxHeartbeats 1000000 in
set_option maxRecDepth 20000 in
theorem c_Tre_name (S : zS) (a1 : Int32) (a2 : Int32) : zMet l y_Tre_name (zw y_Tre_name prog_1_method_6_code 3 (some Jvm.ClassFile.FieldType.int)) 4 109 [.ref (G 0), .int a1, .int a2] D zcl (ztys cA) A (zRep D cA G A) zfc zfs S (zFi (f_Tre_name S a1 a2)) := by
  refine zMet_of (mo_Fi (mo_Tre_name S a1 a2)) (by decide) tk_Tre_name (Nat.le_of_ble_eq_true rfl) ?_
  intro p e R s m args below meth c hf hlo C0 hK hA
  unfold f_Tre_name
  refine sw_go C0 1 (pc' := 1) (lv' := [(0, .ref (G 0)), (1, .int a1), (2, .int a2)]) (st' := [.int a1]) rfl ?_
  refine sw_if_lt zFi C0 rfl (fun h1 => ?_) (fun h1 => ?_)
  · refine sw_go C0 1 (pc' := 21) (lv' := [(0, .ref (G 0)), (1, .int a1), (2, .int a2)]) (st' := [.int (-1)]) rfl ?_
    exact sw_reti C0 rfl rfl
  · refine sw_go C0 2 (pc' := 6) (lv' := [(0, .ref (G 0)), (1, .int a1), (2, .int a2)]) (st' := [.int (-1), .int a2]) rfl ?_
    refine sw_icmp_eq zFi C0 rfl (fun h2 => ?_) (fun h2 => ?_)
    · refine sw_go C0 1 (pc' := 23) (lv' := [(0, .ref (G 0)), (1, .int a1), (2, .int a2)]) (st' := [.ref (G 0)]) rfl ?_
      refine sw_getf C0 hK (o := 0) (j := 1) (v := .ref (G 2)) (by decide) rfl i_Tre (by decide) wd_2_82 rfl rfl ?_
      refine sw_go C0 4 (pc' := 30) (lv' := [(0, .ref (G 0)), (1, .int a1), (2, .int a2)]) (st' := [.int a2, .int a1, .int 0, .int 3, .ref (G 2)]) rfl ?_
      refine sw_ci zFi (As := [.int 3, .int 0, .int a1, .int a2]) (rest := []) C0 hK hA yk_Pat_addPlain (c_Pat_addPlain S 3 0 a1 a2) wd_2_135 rfl rfl ⟨by rw [hf]; decide, by rw [hlo]; decide⟩ (Nat.le_of_ble_eq_true rfl) (zrc_obj (o := 2) hK (by decide) rfl) (fun S3 v4 hv4 => ?_)
      exact sw_reti C0 rfl rfl
    · refine sw_go C0 1 (pc' := 10) (lv' := [(0, .ref (G 0)), (1, .int a1), (2, .int a2)]) (st' := [.ref (G 0)]) rfl ?_
      refine sw_getf C0 hK (o := 0) (j := 1) (v := .ref (G 2)) (by decide) rfl i_Tre (by decide) wd_2_82 rfl rfl ?_
      refine sw_go C0 1 (pc' := 14) (lv' := [(0, .ref (G 0)), (1, .int a1), (2, .int a2)]) (st' := [.int a2, .ref (G 2)]) rfl ?_
      refine sw_cp (As := [.int a2]) (rest := []) C0 hK hA yk_Pat_has (c_Pat_has S a2) wd_2_171 rfl rfl ⟨by rw [hf]; decide, by rw [hlo]; decide⟩ (Nat.le_of_ble_eq_true rfl) (zrc_obj (o := 2) hK (by decide) rfl) ?_
      refine sw_if_ne zFi C0 rfl (fun h5 => ?_) (fun h5 => ?_)
      · refine sw_go C0 1 (pc' := 23) (lv' := [(0, .ref (G 0)), (1, .int a1), (2, .int a2)]) (st' := [.ref (G 0)]) rfl ?_
        refine sw_getf C0 hK (o := 0) (j := 1) (v := .ref (G 2)) (by decide) rfl i_Tre (by decide) wd_2_82 rfl rfl ?_
        refine sw_go C0 4 (pc' := 30) (lv' := [(0, .ref (G 0)), (1, .int a1), (2, .int a2)]) (st' := [.int a2, .int a1, .int 0, .int 3, .ref (G 2)]) rfl ?_
        refine sw_ci zFi (As := [.int 3, .int 0, .int a1, .int a2]) (rest := []) C0 hK hA yk_Pat_addPlain (c_Pat_addPlain S 3 0 a1 a2) wd_2_135 rfl rfl ⟨by rw [hf]; decide, by rw [hlo]; decide⟩ (Nat.le_of_ble_eq_true rfl) (zrc_obj (o := 2) hK (by decide) rfl) (fun S6 v7 hv7 => ?_)
        exact sw_reti C0 rfl rfl
      · refine sw_go C0 1 (pc' := 21) (lv' := [(0, .ref (G 0)), (1, .int a1), (2, .int a2)]) (st' := [.int (-1)]) rfl ?_
        exact sw_reti C0 rfl rfl
def f_Tre_push (S : zS) (a1 : Int32) (a2 : Int32) : zS × Int32 :=
  if (f_Pat_has S a2) = 0 then
    (S, (-1))
  else
    if a1 < 0 then
      (S, (-1))
    else
      if 128 ≤ a1 then
        (S, (-1))
      else
        if (f_Psh_at S a1) = (-1) then
          zbind (f_Psh_put S a1 a2) fun S5 =>
          (S5, (f_Psh_many S5))
        else
          (S, (-1))
theorem mo_Tre_push (S : zS) (a1 : Int32) (a2 : Int32) : zmo S (f_Tre_push S a1 a2).1 := by
  unfold f_Tre_push
  exact (mo_if (g := Prod.fst) zmo_rf (mo_if (g := Prod.fst) zmo_rf (mo_if (g := Prod.fst) zmo_rf (mo_if (g := Prod.fst) (mo_b (g := Prod.fst) (mo_Psh_put S a1 a2) fun S5 => zmo_rf) zmo_rf))))
set_option maxHeartbeats 1000000 in
set_option maxRecDepth 20000 in
theorem c_Tre_push (S : zS) (a1 : Int32) (a2 : Int32) : zMet l y_Tre_push (zw y_Tre_push prog_1_method_7_code 3 (some Jvm.ClassFile.FieldType.int)) 2 44 [.ref (G 0), .int a1, .int a2] D zcl (ztys cA) A (zRep D cA G A) zfc zfs S (zFi (f_Tre_push S a1 a2)) := by
  refine zMet_of (mo_Fi (mo_Tre_push S a1 a2)) (by decide) tk_Tre_push (Nat.le_of_ble_eq_true rfl) ?_
  intro p e R s m args below meth c hf hlo C0 hK hA
  unfold f_Tre_push
  refine sw_go C0 1 (pc' := 1) (lv' := [(0, .ref (G 0)), (1, .int a1), (2, .int a2)]) (st' := [.ref (G 0)]) rfl ?_
  refine sw_getf C0 hK (o := 0) (j := 1) (v := .ref (G 2)) (by decide) rfl i_Tre (by decide) wd_2_82 rfl rfl ?_
  refine sw_go C0 1 (pc' := 5) (lv' := [(0, .ref (G 0)), (1, .int a1), (2, .int a2)]) (st' := [.int a2, .ref (G 2)]) rfl ?_
  refine sw_cp (As := [.int a2]) (rest := []) C0 hK hA yk_Pat_has (c_Pat_has S a2) wd_2_171 rfl rfl ⟨by rw [hf]; decide, by rw [hlo]; decide⟩ (Nat.le_of_ble_eq_true rfl) (zrc_obj (o := 2) hK (by decide) rfl) ?_
  refine sw_if_eq zFi C0 rfl (fun h1 => ?_) (fun h1 => ?_)
  · refine sw_go C0 1 (pc' := 35) (lv' := [(0, .ref (G 0)), (1, .int a1), (2, .int a2)]) (st' := [.int (-1)]) rfl ?_
    exact sw_reti C0 rfl rfl
  · refine sw_go C0 1 (pc' := 12) (lv' := [(0, .ref (G 0)), (1, .int a1), (2, .int a2)]) (st' := [.int a1]) rfl ?_
    refine sw_if_lt zFi C0 rfl (fun h2 => ?_) (fun h2 => ?_)
    · refine sw_go C0 1 (pc' := 35) (lv' := [(0, .ref (G 0)), (1, .int a1), (2, .int a2)]) (st' := [.int (-1)]) rfl ?_
      exact sw_reti C0 rfl rfl
    · refine sw_go C0 2 (pc' := 19) (lv' := [(0, .ref (G 0)), (1, .int a1), (2, .int a2)]) (st' := [.int 128, .int a1]) rfl ?_
      refine sw_icmp_ge zFi C0 rfl (fun h3 => ?_) (fun h3 => ?_)
      · refine sw_go C0 1 (pc' := 35) (lv' := [(0, .ref (G 0)), (1, .int a1), (2, .int a2)]) (st' := [.int (-1)]) rfl ?_
        exact sw_reti C0 rfl rfl
      · refine sw_go C0 1 (pc' := 23) (lv' := [(0, .ref (G 0)), (1, .int a1), (2, .int a2)]) (st' := [.ref (G 0)]) rfl ?_
        refine sw_getf C0 hK (o := 0) (j := 2) (v := .ref (G 3)) (by decide) rfl i_Tre (by decide) wd_2_83 rfl rfl ?_
        refine sw_go C0 1 (pc' := 27) (lv' := [(0, .ref (G 0)), (1, .int a1), (2, .int a2)]) (st' := [.int a1, .ref (G 3)]) rfl ?_
        refine sw_cp (As := [.int a1]) (rest := []) C0 hK hA yk_Psh_at (c_Psh_at S a1) wd_2_183 rfl rfl ⟨by rw [hf]; decide, by rw [hlo]; decide⟩ (Nat.le_of_ble_eq_true rfl) (zrc_obj (o := 3) hK (by decide) rfl) ?_
        refine sw_go C0 1 (pc' := 31) (lv' := [(0, .ref (G 0)), (1, .int a1), (2, .int a2)]) (st' := [.int (-1), .int (f_Psh_at S a1)]) rfl ?_
        refine sw_icmp_eq zFi C0 rfl (fun h4 => ?_) (fun h4 => ?_)
        · refine sw_go C0 1 (pc' := 37) (lv' := [(0, .ref (G 0)), (1, .int a1), (2, .int a2)]) (st' := [.ref (G 0)]) rfl ?_
          refine sw_getf C0 hK (o := 0) (j := 2) (v := .ref (G 3)) (by decide) rfl i_Tre (by decide) wd_2_83 rfl rfl ?_
          refine sw_go C0 2 (pc' := 42) (lv' := [(0, .ref (G 0)), (1, .int a1), (2, .int a2)]) (st' := [.int a2, .int a1, .ref (G 3)]) rfl ?_
          refine sw_cV zFi (As := [.int a1, .int a2]) (rest := []) C0 hK hA yk_Psh_put (c_Psh_put S a1 a2) wd_2_188 rfl rfl ⟨by rw [hf]; decide, by rw [hlo]; decide⟩ (Nat.le_of_ble_eq_true rfl) (zrc_obj (o := 3) hK (by decide) rfl) (fun S5 hS5 => ?_)
          refine sw_go C0 1 (pc' := 46) (lv' := [(0, .ref (G 0)), (1, .int a1), (2, .int a2)]) (st' := [.ref (G 0)]) rfl ?_
          refine sw_getf C0 hK (o := 0) (j := 2) (v := .ref (G 3)) (by decide) rfl i_Tre (by decide) wd_2_83 rfl rfl ?_
          refine sw_cp (As := []) (rest := []) C0 hK hA yk_Psh_many (c_Psh_many S5) wd_2_196 rfl rfl ⟨by rw [hf]; decide, by rw [hlo]; decide⟩ (Nat.le_of_ble_eq_true rfl) (zrc_obj (o := 3) hK (by decide) rfl) ?_
          exact sw_reti C0 rfl rfl
        · refine sw_go C0 1 (pc' := 35) (lv' := [(0, .ref (G 0)), (1, .int a1), (2, .int a2)]) (st' := [.int (-1)]) rfl ?_
          exact sw_reti C0 rfl rfl
def f_Tre_record (S : zS) (a1 : Int32) : Option (zS × Int32) :=
  if a1 < 0 then
    some (S, (-1))
  else
    if 128 < a1 then
      some (S, (-1))
    else
      zob (f_Psh_reachesTo S a1) fun v3 =>
      if v3 = 0 then
        zob2 (f_Pat_addRecord S a1) fun S5 v6 =>
        if v6 = (-2) then
          some (S5, v6)
        else
          zbind (f_Psh_empty S5) fun S8 =>
          some (S8, v6)
      else
        some (S, (-1))
theorem mo_Tre_record (S : zS) (a1 : Int32) : zmO Prod.fst S (f_Tre_record S a1) := by
  unfold f_Tre_record
  exact (mO_if (g := Prod.fst) (mO_s zmo_rf) (mO_if (g := Prod.fst) (mO_s zmo_rf) (mO_on (g := Prod.fst) fun v3 => (mO_if (g := Prod.fst) (mO_ob2 (g := Prod.fst) (mo_Pat_addRecord S a1) fun S5 v6 => (mO_if (g := Prod.fst) (mO_s zmo_rf) (mO_b (g := Prod.fst) (mo_Psh_empty S5) fun S8 => (mO_s zmo_rf)))) (mO_s zmo_rf)))))
set_option maxHeartbeats 1000000 in
set_option maxRecDepth 20000 in
theorem c_Tre_record (S : zS) (a1 : Int32) : ∀ r, f_Tre_record S a1 = some r → zMet l y_Tre_record (zw y_Tre_record prog_1_method_8_code 3 (some Jvm.ClassFile.FieldType.int)) 5 130 [.ref (G 0), .int a1] D zcl (ztys cA) A (zRep D cA G A) zfc zfs S (zFi r) := by
  intro r hr
  refine zMet_of (mo_Fi (mo_Tre_record S a1 r hr)) (by decide) tk_Tre_record (Nat.le_of_ble_eq_true rfl) ?_
  intro p e R s m args below meth c hf hlo C0 hK hA
  have K : zSO p l e R s m args below meth c 3 A D cA G S 0 (lv_args 0 [.ref (G 0), .int a1]) [] zFi (f_Tre_record S a1) := by
    unfold f_Tre_record
    refine so_go C0 1 (pc' := 1) (lv' := [(0, .ref (G 0)), (1, .int a1)]) (st' := [.int a1]) rfl ?_
    refine so_if_lt C0 rfl (fun h1 => ?_) (fun h1 => ?_)
    · refine so_go C0 1 (pc' := 23) (lv' := [(0, .ref (G 0)), (1, .int a1)]) (st' := [.int (-1)]) rfl ?_
      exact so_reti C0 rfl rfl
    · refine so_go C0 2 (pc' := 8) (lv' := [(0, .ref (G 0)), (1, .int a1)]) (st' := [.int 128, .int a1]) rfl ?_
      refine so_icmp_gt C0 rfl (fun h2 => ?_) (fun h2 => ?_)
      · refine so_go C0 1 (pc' := 23) (lv' := [(0, .ref (G 0)), (1, .int a1)]) (st' := [.int (-1)]) rfl ?_
        exact so_reti C0 rfl rfl
      · refine so_go C0 1 (pc' := 12) (lv' := [(0, .ref (G 0)), (1, .int a1)]) (st' := [.ref (G 0)]) rfl ?_
        refine so_getf C0 hK (o := 0) (j := 2) (v := .ref (G 3)) (by decide) rfl i_Tre (by decide) wd_2_83 rfl rfl ?_
        refine so_go C0 1 (pc' := 16) (lv' := [(0, .ref (G 0)), (1, .int a1)]) (st' := [.int a1, .ref (G 3)]) rfl ?_
        refine so_op (As := [.int a1]) (rest := []) C0 hK hA yk_Psh_reachesTo (c_Psh_reachesTo S a1) wd_2_204 rfl rfl ⟨by rw [hf]; decide, by rw [hlo]; decide⟩ (Nat.le_of_ble_eq_true rfl) (zrc_obj (o := 3) hK (by decide) rfl) (fun v3 hv3 => ?_)
        refine so_if_eq C0 rfl (fun h4 => ?_) (fun h4 => ?_)
        · refine so_go C0 1 (pc' := 25) (lv' := [(0, .ref (G 0)), (1, .int a1)]) (st' := [.ref (G 0)]) rfl ?_
          refine so_getf C0 hK (o := 0) (j := 1) (v := .ref (G 2)) (by decide) rfl i_Tre (by decide) wd_2_82 rfl rfl ?_
          refine so_go C0 2 (pc' := 30) (lv' := [(0, .ref (G 0)), (1, .int a1)]) (st' := [.ref (G 0), .int a1, .ref (G 2)]) rfl ?_
          refine so_getf C0 hK (o := 0) (j := 2) (v := .ref (G 3)) (by decide) rfl i_Tre (by decide) wd_2_83 rfl rfl ?_
          refine so_oi (As := [.int a1, .ref (G 3)]) (rest := []) C0 hK hA yk_Pat_addRecord (c_Pat_addRecord S a1) wd_2_208 rfl rfl ⟨by rw [hf]; decide, by rw [hlo]; decide⟩ (Nat.le_of_ble_eq_true rfl) (zrc_obj (o := 2) hK (by decide) rfl) (fun S5 v6 hv6 => ?_)
          refine so_go C0 3 (pc' := 40) (lv' := [(0, .ref (G 0)), (1, .int a1), (2, .int v6)]) (st' := [.int (-2), .int v6]) rfl ?_
          refine so_icmp_eq C0 rfl (fun h7 => ?_) (fun h7 => ?_)
          · refine so_go C0 1 (pc' := 51) (lv' := [(0, .ref (G 0)), (1, .int a1), (2, .int v6)]) (st' := [.int v6]) rfl ?_
            exact so_reti C0 rfl rfl
          · refine so_go C0 1 (pc' := 44) (lv' := [(0, .ref (G 0)), (1, .int a1), (2, .int v6)]) (st' := [.ref (G 0)]) rfl ?_
            refine so_getf C0 hK (o := 0) (j := 2) (v := .ref (G 3)) (by decide) rfl i_Tre (by decide) wd_2_83 rfl rfl ?_
            refine so_cV (As := []) (rest := []) C0 hK hA yk_Psh_empty (c_Psh_empty S5) wd_2_226 rfl rfl ⟨by rw [hf]; decide, by rw [hlo]; decide⟩ (Nat.le_of_ble_eq_true rfl) (zrc_obj (o := 3) hK (by decide) rfl) (fun S8 hS8 => ?_)
            refine so_go C0 1 (pc' := 51) (lv' := [(0, .ref (G 0)), (1, .int a1), (2, .int v6)]) (st' := [.int v6]) rfl ?_
            exact so_reti C0 rfl rfl
        · refine so_go C0 1 (pc' := 23) (lv' := [(0, .ref (G 0)), (1, .int a1)]) (st' := [.int (-1)]) rfl ?_
          exact so_reti C0 rfl rfl
  exact K r hr
def f_Tre_rule (S : zS) (a1 : Int32) : Option (zS × Int32) :=
  if (f_Pat_has S a1) = 0 then
    some (S, (-1))
  else
    zob2 (f_Pai_goWith S a1) fun S2 v3 =>
    if ¬ v3 = 0 then
      zbind ((S2.2.2.1 0) + (f_Pat_weight S2 a1)) fun v5 =>
      if 1024 ≤ (r_size S2 12) then
        some (S2, (-2))
      else
        if v5 ≤ 16384 then
          zbind2 (r_add S2 12 a1) fun S8 v9 =>
          zbind (z_sc S8 0 v5) fun S10 =>
          zob (f_Par_lay S10 v9 a1) fun S11 =>
          zbind (z_sc S11 1 0) fun S12 =>
          some (S12, v9)
        else
          some (S2, (-2))
    else
      some (S2, (-1))
theorem mo_Tre_rule (S : zS) (a1 : Int32) : zmO Prod.fst S (f_Tre_rule S a1) := by
  unfold f_Tre_rule
  exact (mO_if (g := Prod.fst) (mO_s zmo_rf) (mO_ob2 (g := Prod.fst) (mo_Pai_goWith S a1) fun S2 v3 => (mO_if (g := Prod.fst) (mO_n (g := Prod.fst) fun v5 => (mO_if (g := Prod.fst) (mO_s zmo_rf) (mO_if (g := Prod.fst) (mO_b2 (g := Prod.fst) (r_add_mono (by decide) a1) fun S8 v9 => (mO_b (g := Prod.fst) mo_z_sc fun S10 => (mO_ob (g := Prod.fst) (mo_Par_lay S10 v9 a1) fun S11 => (mO_b (g := Prod.fst) mo_z_sc fun S12 => (mO_s zmo_rf))))) (mO_s zmo_rf)))) (mO_s zmo_rf))))
set_option maxHeartbeats 1000000 in
set_option maxRecDepth 20000 in
theorem c_Tre_rule (S : zS) (a1 : Int32) : ∀ r, f_Tre_rule S a1 = some r → zMet l y_Tre_rule (zw y_Tre_rule prog_1_method_9_code 4 (some Jvm.ClassFile.FieldType.int)) 7 184 [.ref (G 0), .int a1] D zcl (ztys cA) A (zRep D cA G A) zfc zfs S (zFi r) := by
  intro r hr
  refine zMet_of (mo_Fi (mo_Tre_rule S a1 r hr)) (by decide) tk_Tre_rule (Nat.le_of_ble_eq_true rfl) ?_
  intro p e R s m args below meth c hf hlo C0 hK hA
  have K : zSO p l e R s m args below meth c 4 A D cA G S 0 (lv_args 0 [.ref (G 0), .int a1]) [] zFi (f_Tre_rule S a1) := by
    unfold f_Tre_rule
    refine so_go C0 1 (pc' := 1) (lv' := [(0, .ref (G 0)), (1, .int a1)]) (st' := [.ref (G 0)]) rfl ?_
    refine so_getf C0 hK (o := 0) (j := 1) (v := .ref (G 2)) (by decide) rfl i_Tre (by decide) wd_2_82 rfl rfl ?_
    refine so_go C0 1 (pc' := 5) (lv' := [(0, .ref (G 0)), (1, .int a1)]) (st' := [.int a1, .ref (G 2)]) rfl ?_
    refine so_cp (As := [.int a1]) (rest := []) C0 hK hA yk_Pat_has (c_Pat_has S a1) wd_2_171 rfl rfl ⟨by rw [hf]; decide, by rw [hlo]; decide⟩ (Nat.le_of_ble_eq_true rfl) (zrc_obj (o := 2) hK (by decide) rfl) ?_
    refine so_if_eq C0 rfl (fun h1 => ?_) (fun h1 => ?_)
    · refine so_go C0 1 (pc' := 27) (lv' := [(0, .ref (G 0)), (1, .int a1)]) (st' := [.int (-1)]) rfl ?_
      exact so_reti C0 rfl rfl
    · refine so_go C0 1 (pc' := 12) (lv' := [(0, .ref (G 0)), (1, .int a1)]) (st' := [.ref (G 0)]) rfl ?_
      refine so_getf C0 hK (o := 0) (j := 3) (v := .ref (G 4)) (by decide) rfl i_Tre (by decide) wd_2_84 rfl rfl ?_
      refine so_go C0 1 (pc' := 16) (lv' := [(0, .ref (G 0)), (1, .int a1)]) (st' := [.ref (G 0), .ref (G 4)]) rfl ?_
      refine so_getf C0 hK (o := 0) (j := 4) (v := .ref (G 23)) (by decide) rfl i_Tre (by decide) wd_2_85 rfl rfl ?_
      refine so_go C0 1 (pc' := 20) (lv' := [(0, .ref (G 0)), (1, .int a1)]) (st' := [.int a1, .ref (G 23), .ref (G 4)]) rfl ?_
      refine so_oi (As := [.ref (G 23), .int a1]) (rest := []) C0 hK hA yk_Pai_goWith (c_Pai_goWith S a1) wd_2_234 rfl rfl ⟨by rw [hf]; decide, by rw [hlo]; decide⟩ (Nat.le_of_ble_eq_true rfl) (zrc_obj (o := 4) hK (by decide) rfl) (fun S2 v3 hv3 => ?_)
      refine so_if_ne C0 rfl (fun h4 => ?_) (fun h4 => ?_)
      · refine so_go C0 1 (pc' := 29) (lv' := [(0, .ref (G 0)), (1, .int a1)]) (st' := [.ref (G 0)]) rfl ?_
        refine so_getf C0 hK (o := 0) (j := 10) (v := .int (S2.2.2.1 0)) (by decide) rfl i_Tre (by decide) wd_2_91 rfl rfl ?_
        refine so_go C0 1 (pc' := 33) (lv' := [(0, .ref (G 0)), (1, .int a1)]) (st' := [.ref (G 0), .int (S2.2.2.1 0)]) rfl ?_
        refine so_getf C0 hK (o := 0) (j := 1) (v := .ref (G 2)) (by decide) rfl i_Tre (by decide) wd_2_82 rfl rfl ?_
        refine so_go C0 1 (pc' := 37) (lv' := [(0, .ref (G 0)), (1, .int a1)]) (st' := [.int a1, .ref (G 2), .int (S2.2.2.1 0)]) rfl ?_
        refine so_cp (As := [.int a1]) (rest := [.int (S2.2.2.1 0)]) C0 hK hA yk_Pat_weight (c_Pat_weight S2 a1) wd_3_54 rfl rfl ⟨by rw [hf]; decide, by rw [hlo]; decide⟩ (Nat.le_of_ble_eq_true rfl) (zrc_obj (o := 2) hK (by decide) rfl) ?_
        refine so_go C0 1 (pc' := 41) (lv' := [(0, .ref (G 0)), (1, .int a1)]) (st' := [.int ((S2.2.2.1 0) + (f_Pat_weight S2 a1))]) rfl ?_
        refine so_nm (V := .int) (fun v5 hv5 => ?_)
        refine so_go C0 2 (pc' := 43) (lv' := [(0, .ref (G 0)), (1, .int a1), (2, .int v5)]) (st' := [.ref (G 0)]) rfl ?_
        refine so_getf C0 hK (o := 0) (j := 4) (v := .ref (G 23)) (by decide) rfl i_Tre (by decide) wd_2_85 rfl rfl ?_
        refine so_cp (As := []) (rest := []) C0 hK hA yk_Row_size (c_Row_size 12 (by decide)) wd_3_58 rfl rfl ⟨by rw [hf]; decide, by rw [hlo]; decide⟩ (Nat.le_of_ble_eq_true rfl) (zrc_row (k := 12) hK (by decide)) ?_
        refine so_go C0 1 (pc' := 52) (lv' := [(0, .ref (G 0)), (1, .int a1), (2, .int v5)]) (st' := [.int 1024, .int (r_size S2 12)]) rfl ?_
        refine so_icmp_ge C0 rfl (fun h6 => ?_) (fun h6 => ?_)
        · refine so_go C0 1 (pc' := 64) (lv' := [(0, .ref (G 0)), (1, .int a1), (2, .int v5)]) (st' := [.int (-2)]) rfl ?_
          exact so_reti C0 rfl rfl
        · refine so_go C0 2 (pc' := 59) (lv' := [(0, .ref (G 0)), (1, .int a1), (2, .int v5)]) (st' := [.int 16384, .int v5]) rfl ?_
          refine so_icmp_le C0 rfl (fun h7 => ?_) (fun h7 => ?_)
          · refine so_go C0 1 (pc' := 66) (lv' := [(0, .ref (G 0)), (1, .int a1), (2, .int v5)]) (st' := [.ref (G 0)]) rfl ?_
            refine so_getf C0 hK (o := 0) (j := 4) (v := .ref (G 23)) (by decide) rfl i_Tre (by decide) wd_2_85 rfl rfl ?_
            refine so_go C0 1 (pc' := 70) (lv' := [(0, .ref (G 0)), (1, .int a1), (2, .int v5)]) (st' := [.int a1, .ref (G 23)]) rfl ?_
            refine so_ci (As := [.int a1]) (rest := []) C0 hK hA yk_Row_add (c_Row_add 12 (by decide) a1) wd_3_59 rfl rfl ⟨by rw [hf]; decide, by rw [hlo]; decide⟩ (Nat.le_of_ble_eq_true rfl) (zrc_row (k := 12) hK (by decide)) (fun S8 v9 hv9 => ?_)
            refine so_go C0 3 (pc' := 76) (lv' := [(0, .ref (G 0)), (1, .int a1), (2, .int v5), (3, .int v9)]) (st' := [.int v5, .ref (G 0)]) rfl ?_
            refine so_putf C0 hK (o := 0) (j := 10) (q := 0) (by decide) (by decide) rfl rfl i_Tre t_Tre_ok n_Tre (by decide) (Nat.le_of_ble_eq_true rfl) rfl (by decide +kernel) wd_2_91 rfl rfl ?_
            refine so_st (fun S10 hS10 => ?_)
            refine so_go C0 1 (pc' := 80) (lv' := [(0, .ref (G 0)), (1, .int a1), (2, .int v5), (3, .int v9)]) (st' := [.ref (G 0)]) rfl ?_
            refine so_getf C0 hK (o := 0) (j := 5) (v := .ref (G 5)) (by decide) rfl i_Tre (by decide) wd_2_86 rfl rfl ?_
            refine so_go C0 2 (pc' := 85) (lv' := [(0, .ref (G 0)), (1, .int a1), (2, .int v5), (3, .int v9)]) (st' := [.int a1, .int v9, .ref (G 5)]) rfl ?_
            refine so_oV (As := [.int v9, .int a1]) (rest := []) C0 hK hA yk_Par_lay (c_Par_lay S10 v9 a1) wd_3_60 rfl rfl ⟨by rw [hf]; decide, by rw [hlo]; decide⟩ (Nat.le_of_ble_eq_true rfl) (zrc_obj (o := 5) hK (by decide) rfl) (fun S11 hS11 => ?_)
            refine so_go C0 2 (pc' := 90) (lv' := [(0, .ref (G 0)), (1, .int a1), (2, .int v5), (3, .int v9)]) (st' := [.int 0, .ref (G 0)]) rfl ?_
            refine so_putf C0 hK (o := 0) (j := 11) (q := 1) (by decide) (by decide) rfl rfl i_Tre t_Tre_ok n_Tre (by decide) (Nat.le_of_ble_eq_true rfl) rfl (by decide +kernel) wd_2_92 rfl rfl ?_
            refine so_st (fun S12 hS12 => ?_)
            refine so_go C0 1 (pc' := 94) (lv' := [(0, .ref (G 0)), (1, .int a1), (2, .int v5), (3, .int v9)]) (st' := [.int v9]) rfl ?_
            exact so_reti C0 rfl rfl
          · refine so_go C0 1 (pc' := 64) (lv' := [(0, .ref (G 0)), (1, .int a1), (2, .int v5)]) (st' := [.int (-2)]) rfl ?_
            exact so_reti C0 rfl rfl
      · refine so_go C0 1 (pc' := 27) (lv' := [(0, .ref (G 0)), (1, .int a1)]) (st' := [.int (-1)]) rfl ?_
        exact so_reti C0 rfl rfl
  exact K r hr
def f_Tre_dropRules (S : zS) : zS :=
  zbind (r_emp S 12) fun S1 =>
  zbind (z_sc S1 0 0) fun S2 =>
  zbind (f_Par_empty S2) fun S3 =>
  zbind (z_sc S3 1 0) fun S4 =>
  S4
theorem mo_Tre_dropRules (S : zS) : zmo S (f_Tre_dropRules S) := by
  unfold f_Tre_dropRules
  exact (mo_b (g := (fun x => x)) mo_r_emp fun S1 => (mo_b (g := (fun x => x)) mo_z_sc fun S2 => (mo_b (g := (fun x => x)) (mo_Par_empty S2) fun S3 => (mo_b (g := (fun x => x)) mo_z_sc fun S4 => zmo_rf))))
set_option maxHeartbeats 1000000 in
set_option maxRecDepth 20000 in
theorem c_Tre_dropRules (S : zS) : zMet l y_Tre_dropRules (zw y_Tre_dropRules prog_1_method_22_code 1 none) 5 125 [.ref (G 0)] D zcl (ztys cA) A (zRep D cA G A) zfc zfs S (zFv (f_Tre_dropRules S)) := by
  refine zMet_of (mo_Fv (mo_Tre_dropRules S)) (by decide) tk_Tre_dropRules (Nat.le_of_ble_eq_true rfl) ?_
  intro p e R s m args below meth c hf hlo C0 hK hA
  unfold f_Tre_dropRules
  refine sw_go C0 1 (pc' := 1) (lv' := [(0, .ref (G 0))]) (st' := [.ref (G 0)]) rfl ?_
  refine sw_getf C0 hK (o := 0) (j := 4) (v := .ref (G 23)) (by decide) rfl i_Tre (by decide) wd_2_85 rfl rfl ?_
  refine sw_cV zFv (As := []) (rest := []) C0 hK hA yk_Row_empty (c_Row_empty 12 (by decide)) wd_3_121 rfl rfl ⟨by rw [hf]; decide, by rw [hlo]; decide⟩ (Nat.le_of_ble_eq_true rfl) (zrc_row (k := 12) hK (by decide)) (fun S1 hS1 => ?_)
  refine sw_go C0 2 (pc' := 9) (lv' := [(0, .ref (G 0))]) (st' := [.int 0, .ref (G 0)]) rfl ?_
  refine sw_putf C0 hK (o := 0) (j := 10) (q := 0) (by decide) (by decide) rfl rfl i_Tre t_Tre_ok n_Tre (by decide) (Nat.le_of_ble_eq_true rfl) rfl (by decide +kernel) wd_2_91 rfl rfl ?_
  refine sw_st zFv (fun S2 hS2 => ?_)
  refine sw_go C0 1 (pc' := 13) (lv' := [(0, .ref (G 0))]) (st' := [.ref (G 0)]) rfl ?_
  refine sw_getf C0 hK (o := 0) (j := 5) (v := .ref (G 5)) (by decide) rfl i_Tre (by decide) wd_2_86 rfl rfl ?_
  refine sw_cV zFv (As := []) (rest := []) C0 hK hA yk_Par_empty (c_Par_empty S2) wd_3_122 rfl rfl ⟨by rw [hf]; decide, by rw [hlo]; decide⟩ (Nat.le_of_ble_eq_true rfl) (zrc_obj (o := 5) hK (by decide) rfl) (fun S3 hS3 => ?_)
  refine sw_go C0 2 (pc' := 21) (lv' := [(0, .ref (G 0))]) (st' := [.int 0, .ref (G 0)]) rfl ?_
  refine sw_putf C0 hK (o := 0) (j := 11) (q := 1) (by decide) (by decide) rfl rfl i_Tre t_Tre_ok n_Tre (by decide) (Nat.le_of_ble_eq_true rfl) rfl (by decide +kernel) wd_2_92 rfl rfl ?_
  refine sw_st zFv (fun S4 hS4 => ?_)
  exact sw_retv C0 rfl rfl
def f_Tre_clear (S : zS) : zS × Int32 :=
  zbind (r_size S 12) fun v1 =>
  zbind (f_Tre_dropRules S) fun S2 =>
  (S2, v1)
theorem mo_Tre_clear (S : zS) : zmo S (f_Tre_clear S).1 := by
  unfold f_Tre_clear
  exact (mo_n (g := Prod.fst) fun v1 => (mo_b (g := Prod.fst) (mo_Tre_dropRules S) fun S2 => zmo_rf))
set_option maxHeartbeats 1000000 in
set_option maxRecDepth 20000 in
theorem c_Tre_clear (S : zS) : zMet l y_Tre_clear (zw y_Tre_clear prog_1_method_10_code 2 (some Jvm.ClassFile.FieldType.int)) 6 145 [.ref (G 0)] D zcl (ztys cA) A (zRep D cA G A) zfc zfs S (zFi (f_Tre_clear S)) := by
  refine zMet_of (mo_Fi (mo_Tre_clear S)) (by decide) tk_Tre_clear (Nat.le_of_ble_eq_true rfl) ?_
  intro p e R s m args below meth c hf hlo C0 hK hA
  unfold f_Tre_clear
  refine sw_go C0 1 (pc' := 1) (lv' := [(0, .ref (G 0))]) (st' := [.ref (G 0)]) rfl ?_
  refine sw_getf C0 hK (o := 0) (j := 4) (v := .ref (G 23)) (by decide) rfl i_Tre (by decide) wd_2_85 rfl rfl ?_
  refine sw_cp (As := []) (rest := []) C0 hK hA yk_Row_size (c_Row_size 12 (by decide)) wd_3_58 rfl rfl ⟨by rw [hf]; decide, by rw [hlo]; decide⟩ (Nat.le_of_ble_eq_true rfl) (zrc_row (k := 12) hK (by decide)) ?_
  refine sw_nm zFi (V := .int) (fun v1 hv1 => ?_)
  refine sw_go C0 2 (pc' := 9) (lv' := [(0, .ref (G 0)), (1, .int v1)]) (st' := [.ref (G 0)]) rfl ?_
  refine sw_cV zFi (As := []) (rest := []) C0 hK hA yk_Tre_dropRules (c_Tre_dropRules S) wd_3_117 rfl rfl ⟨by rw [hf]; decide, by rw [hlo]; decide⟩ (Nat.le_of_ble_eq_true rfl) (zrc_obj (o := 0) hK (by decide) rfl) (fun S2 hS2 => ?_)
  refine sw_go C0 1 (pc' := 13) (lv' := [(0, .ref (G 0)), (1, .int v1)]) (st' := [.int v1]) rfl ?_
  exact sw_reti C0 rfl rfl
def f_Tre_forget (S : zS) : zS × Int32 :=
  zbind (f_Pat_size S) fun v1 =>
  zbind (f_Tre_dropRules S) fun S2 =>
  zbind (f_Fam_empty S2) fun S3 =>
  zbind (f_Pat_empty S3) fun S4 =>
  zbind (f_Psh_empty S4) fun S5 =>
  (S5, v1)
theorem mo_Tre_forget (S : zS) : zmo S (f_Tre_forget S).1 := by
  unfold f_Tre_forget
  exact (mo_n (g := Prod.fst) fun v1 => (mo_b (g := Prod.fst) (mo_Tre_dropRules S) fun S2 => (mo_b (g := Prod.fst) (mo_Fam_empty S2) fun S3 => (mo_b (g := Prod.fst) (mo_Pat_empty S3) fun S4 => (mo_b (g := Prod.fst) (mo_Psh_empty S4) fun S5 => zmo_rf)))))
set_option maxHeartbeats 1000000 in
set_option maxRecDepth 20000 in
theorem c_Tre_forget (S : zS) : zMet l y_Tre_forget (zw y_Tre_forget prog_1_method_11_code 2 (some Jvm.ClassFile.FieldType.int)) 6 145 [.ref (G 0)] D zcl (ztys cA) A (zRep D cA G A) zfc zfs S (zFi (f_Tre_forget S)) := by
  refine zMet_of (mo_Fi (mo_Tre_forget S)) (by decide) tk_Tre_forget (Nat.le_of_ble_eq_true rfl) ?_
  intro p e R s m args below meth c hf hlo C0 hK hA
  unfold f_Tre_forget
  refine sw_go C0 1 (pc' := 1) (lv' := [(0, .ref (G 0))]) (st' := [.ref (G 0)]) rfl ?_
  refine sw_getf C0 hK (o := 0) (j := 1) (v := .ref (G 2)) (by decide) rfl i_Tre (by decide) wd_2_82 rfl rfl ?_
  refine sw_cp (As := []) (rest := []) C0 hK hA yk_Pat_size (c_Pat_size S) wd_3_130 rfl rfl ⟨by rw [hf]; decide, by rw [hlo]; decide⟩ (Nat.le_of_ble_eq_true rfl) (zrc_obj (o := 2) hK (by decide) rfl) ?_
  refine sw_nm zFi (V := .int) (fun v1 hv1 => ?_)
  refine sw_go C0 2 (pc' := 9) (lv' := [(0, .ref (G 0)), (1, .int v1)]) (st' := [.ref (G 0)]) rfl ?_
  refine sw_cV zFi (As := []) (rest := []) C0 hK hA yk_Tre_dropRules (c_Tre_dropRules S) wd_3_117 rfl rfl ⟨by rw [hf]; decide, by rw [hlo]; decide⟩ (Nat.le_of_ble_eq_true rfl) (zrc_obj (o := 0) hK (by decide) rfl) (fun S2 hS2 => ?_)
  refine sw_go C0 1 (pc' := 13) (lv' := [(0, .ref (G 0)), (1, .int v1)]) (st' := [.ref (G 0)]) rfl ?_
  refine sw_getf C0 hK (o := 0) (j := 0) (v := .ref (G 1)) (by decide) rfl i_Tre (by decide) wd_2_81 rfl rfl ?_
  refine sw_cV zFi (As := []) (rest := []) C0 hK hA yk_Fam_empty (c_Fam_empty S2) wd_3_134 rfl rfl ⟨by rw [hf]; decide, by rw [hlo]; decide⟩ (Nat.le_of_ble_eq_true rfl) (zrc_obj (o := 1) hK (by decide) rfl) (fun S3 hS3 => ?_)
  refine sw_go C0 1 (pc' := 20) (lv' := [(0, .ref (G 0)), (1, .int v1)]) (st' := [.ref (G 0)]) rfl ?_
  refine sw_getf C0 hK (o := 0) (j := 1) (v := .ref (G 2)) (by decide) rfl i_Tre (by decide) wd_2_82 rfl rfl ?_
  refine sw_cV zFi (As := []) (rest := []) C0 hK hA yk_Pat_empty (c_Pat_empty S3) wd_3_139 rfl rfl ⟨by rw [hf]; decide, by rw [hlo]; decide⟩ (Nat.le_of_ble_eq_true rfl) (zrc_obj (o := 2) hK (by decide) rfl) (fun S4 hS4 => ?_)
  refine sw_go C0 1 (pc' := 27) (lv' := [(0, .ref (G 0)), (1, .int v1)]) (st' := [.ref (G 0)]) rfl ?_
  refine sw_getf C0 hK (o := 0) (j := 2) (v := .ref (G 3)) (by decide) rfl i_Tre (by decide) wd_2_83 rfl rfl ?_
  refine sw_cV zFi (As := []) (rest := []) C0 hK hA yk_Psh_empty (c_Psh_empty S4) wd_2_226 rfl rfl ⟨by rw [hf]; decide, by rw [hlo]; decide⟩ (Nat.le_of_ble_eq_true rfl) (zrc_obj (o := 3) hK (by decide) rfl) (fun S5 hS5 => ?_)
  refine sw_go C0 1 (pc' := 34) (lv' := [(0, .ref (G 0)), (1, .int v1)]) (st' := [.int v1]) rfl ?_
  exact sw_reti C0 rfl rfl
def f_Tre_hasTree (S : zS) : Int32 :=
  if (S.2.2.1 1) ≤ 0 then
    0
  else
    1
set_option maxHeartbeats 1000000 in
set_option maxRecDepth 20000 in
theorem c_Tre_hasTree (S : zS) : zMet l y_Tre_hasTree (zw y_Tre_hasTree prog_1_method_21_code 1 (some Jvm.ClassFile.FieldType.boolean)) 0 0 [.ref (G 0)] D zcl (ztys cA) A (zRep D cA G A) zfc zfs S ((zFp S) (f_Tre_hasTree S)) := by
  refine zMet_of ⟨Nat.le_refl _, Nat.le_refl _⟩ (by decide) tk_Tre_hasTree (Nat.le_of_ble_eq_true rfl) ?_
  intro p e R s m args below meth c hf hlo C0 hK hA
  unfold f_Tre_hasTree
  refine sw_go C0 1 (pc' := 1) (lv' := [(0, .ref (G 0))]) (st' := [.ref (G 0)]) rfl ?_
  refine sw_getf C0 hK (o := 0) (j := 11) (v := .int (S.2.2.1 1)) (by decide) rfl i_Tre (by decide) wd_2_92 rfl rfl ?_
  refine sw_if_le (zFp S) C0 rfl (fun h1 => ?_) (fun h1 => ?_)
  · refine sw_go C0 1 (pc' := 12) (lv' := [(0, .ref (G 0))]) (st' := [.int 0]) rfl ?_
    exact sw_retz C0 rfl rfl rfl
  · refine sw_go C0 2 (pc' := 12) (lv' := [(0, .ref (G 0))]) (st' := [.int 1]) rfl ?_
    exact sw_retz C0 rfl rfl rfl
def f_Tre_grow (S : zS) : Option (zS × Int32) :=
  if ¬ (S.2.2.1 1) = 0 then
    some (S, (S.2.2.1 1))
  else
    zob2 (f_Grw_make S (r_size S 12)) fun S2 v3 =>
    zbind (z_sc S2 1 v3) fun S4 =>
    if (f_Tre_hasTree S4) = 0 then
      some (S4, (S4.2.2.1 1))
    else
      zob (f_Gap_find S4) fun S6 =>
      some (S6, (S6.2.2.1 1))
theorem mo_Tre_grow (S : zS) : zmO Prod.fst S (f_Tre_grow S) := by
  unfold f_Tre_grow
  exact (mO_if (g := Prod.fst) (mO_s zmo_rf) (mO_ob2 (g := Prod.fst) (mo_Grw_make S (r_size S 12)) fun S2 v3 => (mO_b (g := Prod.fst) mo_z_sc fun S4 => (mO_if (g := Prod.fst) (mO_s zmo_rf) (mO_ob (g := Prod.fst) (mo_Gap_find S4) fun S6 => (mO_s zmo_rf))))))
set_option maxHeartbeats 1000000 in
set_option maxRecDepth 20000 in
theorem c_Tre_grow (S : zS) : ∀ r, f_Tre_grow S = some r → zMet l y_Tre_grow (zw y_Tre_grow prog_1_method_12_code 1 (some Jvm.ClassFile.FieldType.int)) 6 157 [.ref (G 0)] D zcl (ztys cA) A (zRep D cA G A) zfc zfs S (zFi r) := by
  intro r hr
  refine zMet_of (mo_Fi (mo_Tre_grow S r hr)) (by decide) tk_Tre_grow (Nat.le_of_ble_eq_true rfl) ?_
  intro p e R s m args below meth c hf hlo C0 hK hA
  have K : zSO p l e R s m args below meth c 1 A D cA G S 0 (lv_args 0 [.ref (G 0)]) [] zFi (f_Tre_grow S) := by
    unfold f_Tre_grow
    refine so_go C0 1 (pc' := 1) (lv' := [(0, .ref (G 0))]) (st' := [.ref (G 0)]) rfl ?_
    refine so_getf C0 hK (o := 0) (j := 11) (v := .int (S.2.2.1 1)) (by decide) rfl i_Tre (by decide) wd_2_92 rfl rfl ?_
    refine so_if_ne C0 rfl (fun h1 => ?_) (fun h1 => ?_)
    · refine so_go C0 1 (pc' := 40) (lv' := [(0, .ref (G 0))]) (st' := [.ref (G 0)]) rfl ?_
      refine so_getf C0 hK (o := 0) (j := 11) (v := .int (S.2.2.1 1)) (by decide) rfl i_Tre (by decide) wd_2_92 rfl rfl ?_
      exact so_reti C0 rfl rfl
    · refine so_go C0 2 (pc' := 9) (lv' := [(0, .ref (G 0))]) (st' := [.ref (G 0), .ref (G 0)]) rfl ?_
      refine so_getf C0 hK (o := 0) (j := 7) (v := .ref (G 7)) (by decide) rfl i_Tre (by decide) wd_2_88 rfl rfl ?_
      refine so_go C0 1 (pc' := 13) (lv' := [(0, .ref (G 0))]) (st' := [.ref (G 0), .ref (G 7), .ref (G 0)]) rfl ?_
      refine so_getf C0 hK (o := 0) (j := 4) (v := .ref (G 23)) (by decide) rfl i_Tre (by decide) wd_2_85 rfl rfl ?_
      refine so_cp (As := []) (rest := [.ref (G 7), .ref (G 0)]) C0 hK hA yk_Row_size (c_Row_size 12 (by decide)) wd_3_58 rfl rfl ⟨by rw [hf]; decide, by rw [hlo]; decide⟩ (Nat.le_of_ble_eq_true rfl) (zrc_row (k := 12) hK (by decide)) ?_
      refine so_oi (As := [.int (r_size S 12)]) (rest := [.ref (G 0)]) C0 hK hA yk_Grw_make (c_Grw_make S (r_size S 12)) wd_3_148 rfl rfl ⟨by rw [hf]; decide, by rw [hlo]; decide⟩ (Nat.le_of_ble_eq_true rfl) (zrc_obj (o := 7) hK (by decide) rfl) (fun S2 v3 hv3 => ?_)
      refine so_putf C0 hK (o := 0) (j := 11) (q := 1) (by decide) (by decide) rfl rfl i_Tre t_Tre_ok n_Tre (by decide) (Nat.le_of_ble_eq_true rfl) rfl (by decide +kernel) wd_2_92 rfl rfl ?_
      refine so_st (fun S4 hS4 => ?_)
      refine so_go C0 1 (pc' := 26) (lv' := [(0, .ref (G 0))]) (st' := [.ref (G 0)]) rfl ?_
      refine so_cp (As := []) (rest := []) C0 hK hA yk_Tre_hasTree (c_Tre_hasTree S4) wd_4_69 rfl rfl ⟨by rw [hf]; decide, by rw [hlo]; decide⟩ (Nat.le_of_ble_eq_true rfl) (zrc_obj (o := 0) hK (by decide) rfl) ?_
      refine so_if_eq C0 rfl (fun h5 => ?_) (fun h5 => ?_)
      · refine so_go C0 1 (pc' := 40) (lv' := [(0, .ref (G 0))]) (st' := [.ref (G 0)]) rfl ?_
        refine so_getf C0 hK (o := 0) (j := 11) (v := .int (S4.2.2.1 1)) (by decide) rfl i_Tre (by decide) wd_2_92 rfl rfl ?_
        exact so_reti C0 rfl rfl
      · refine so_go C0 1 (pc' := 33) (lv' := [(0, .ref (G 0))]) (st' := [.ref (G 0)]) rfl ?_
        refine so_getf C0 hK (o := 0) (j := 9) (v := .ref (G 9)) (by decide) rfl i_Tre (by decide) wd_2_90 rfl rfl ?_
        refine so_oV (As := []) (rest := []) C0 hK hA yk_Gap_find (c_Gap_find S4) wd_4_73 rfl rfl ⟨by rw [hf]; decide, by rw [hlo]; decide⟩ (Nat.le_of_ble_eq_true rfl) (zrc_obj (o := 9) hK (by decide) rfl) (fun S6 hS6 => ?_)
        refine so_go C0 1 (pc' := 40) (lv' := [(0, .ref (G 0))]) (st' := [.ref (G 0)]) rfl ?_
        refine so_getf C0 hK (o := 0) (j := 11) (v := .int (S6.2.2.1 1)) (by decide) rfl i_Tre (by decide) wd_2_92 rfl rfl ?_
        exact so_reti C0 rfl rfl
  exact K r hr
def f_Tre_run (S : zS) (a1 : Int32) : Option (zS × Int32) :=
  if (f_Tre_hasTree S) = 0 then
    some (S, (-1))
  else
    if (f_Pat_isValue S a1) = 0 then
      some (S, (-1))
    else
      zob2 (f_Wlk_walk S a1) fun S3 v4 =>
      some (S3, v4)
theorem mo_Tre_run (S : zS) (a1 : Int32) : zmO Prod.fst S (f_Tre_run S a1) := by
  unfold f_Tre_run
  exact (mO_if (g := Prod.fst) (mO_s zmo_rf) (mO_if (g := Prod.fst) (mO_s zmo_rf) (mO_ob2 (g := Prod.fst) (mo_Wlk_walk S a1) fun S3 v4 => (mO_s zmo_rf))))
set_option maxHeartbeats 1000000 in
set_option maxRecDepth 20000 in
theorem c_Tre_run (S : zS) (a1 : Int32) : ∀ r, f_Tre_run S a1 = some r → zMet l y_Tre_run (zw y_Tre_run prog_1_method_13_code 2 (some Jvm.ClassFile.FieldType.int)) 6 155 [.ref (G 0), .int a1] D zcl (ztys cA) A (zRep D cA G A) zfc zfs S (zFi r) := by
  intro r hr
  refine zMet_of (mo_Fi (mo_Tre_run S a1 r hr)) (by decide) tk_Tre_run (Nat.le_of_ble_eq_true rfl) ?_
  intro p e R s m args below meth c hf hlo C0 hK hA
  have K : zSO p l e R s m args below meth c 2 A D cA G S 0 (lv_args 0 [.ref (G 0), .int a1]) [] zFi (f_Tre_run S a1) := by
    unfold f_Tre_run
    refine so_go C0 1 (pc' := 1) (lv' := [(0, .ref (G 0)), (1, .int a1)]) (st' := [.ref (G 0)]) rfl ?_
    refine so_cp (As := []) (rest := []) C0 hK hA yk_Tre_hasTree (c_Tre_hasTree S) wd_4_69 rfl rfl ⟨by rw [hf]; decide, by rw [hlo]; decide⟩ (Nat.le_of_ble_eq_true rfl) (zrc_obj (o := 0) hK (by decide) rfl) ?_
    refine so_if_eq C0 rfl (fun h1 => ?_) (fun h1 => ?_)
    · refine so_go C0 1 (pc' := 30) (lv' := [(0, .ref (G 0)), (1, .int a1)]) (st' := [.int (-1)]) rfl ?_
      exact so_reti C0 rfl rfl
    · refine so_go C0 1 (pc' := 8) (lv' := [(0, .ref (G 0)), (1, .int a1)]) (st' := [.ref (G 0)]) rfl ?_
      refine so_getf C0 hK (o := 0) (j := 1) (v := .ref (G 2)) (by decide) rfl i_Tre (by decide) wd_2_82 rfl rfl ?_
      refine so_go C0 1 (pc' := 12) (lv' := [(0, .ref (G 0)), (1, .int a1)]) (st' := [.int a1, .ref (G 2)]) rfl ?_
      refine so_cp (As := [.int a1]) (rest := []) C0 hK hA yk_Pat_isValue (c_Pat_isValue S a1) wd_4_121 rfl rfl ⟨by rw [hf]; decide, by rw [hlo]; decide⟩ (Nat.le_of_ble_eq_true rfl) (zrc_obj (o := 2) hK (by decide) rfl) ?_
      refine so_if_eq C0 rfl (fun h2 => ?_) (fun h2 => ?_)
      · refine so_go C0 1 (pc' := 30) (lv' := [(0, .ref (G 0)), (1, .int a1)]) (st' := [.int (-1)]) rfl ?_
        exact so_reti C0 rfl rfl
      · refine so_go C0 1 (pc' := 19) (lv' := [(0, .ref (G 0)), (1, .int a1)]) (st' := [.ref (G 0)]) rfl ?_
        refine so_getf C0 hK (o := 0) (j := 8) (v := .ref (G 8)) (by decide) rfl i_Tre (by decide) wd_2_89 rfl rfl ?_
        refine so_go C0 1 (pc' := 23) (lv' := [(0, .ref (G 0)), (1, .int a1)]) (st' := [.int a1, .ref (G 8)]) rfl ?_
        refine so_oi (As := [.int a1]) (rest := []) C0 hK hA yk_Wlk_walk (c_Wlk_walk S a1) wd_4_122 rfl rfl ⟨by rw [hf]; decide, by rw [hlo]; decide⟩ (Nat.le_of_ble_eq_true rfl) (zrc_obj (o := 8) hK (by decide) rfl) (fun S3 v4 hv4 => ?_)
        refine so_go C0 1 (pc' := 30) (lv' := [(0, .ref (G 0)), (1, .int a1)]) (st' := [.int v4]) rfl ?_
        exact so_reti C0 rfl rfl
  exact K r hr
def f_Tre_looks (S : zS) (a1 : Int32) : Option (zS × Int32) :=
  if (f_Tre_hasTree S) = 0 then
    some (S, (-1))
  else
    if ¬ (f_Pat_isValue S a1) = 0 then
      zob2 (f_Wlk_walk S a1) fun S3 v4 =>
      if ¬ v4 = (-3) then
        some (S3, (f_Wlk_looked S3))
      else
        some (S3, (-1))
    else
      some (S, (-1))
theorem mo_Tre_looks (S : zS) (a1 : Int32) : zmO Prod.fst S (f_Tre_looks S a1) := by
  unfold f_Tre_looks
  exact (mO_if (g := Prod.fst) (mO_s zmo_rf) (mO_if (g := Prod.fst) (mO_ob2 (g := Prod.fst) (mo_Wlk_walk S a1) fun S3 v4 => (mO_if (g := Prod.fst) (mO_s zmo_rf) (mO_s zmo_rf))) (mO_s zmo_rf)))
set_option maxHeartbeats 1000000 in
set_option maxRecDepth 20000 in
theorem c_Tre_looks (S : zS) (a1 : Int32) : ∀ r, f_Tre_looks S a1 = some r → zMet l y_Tre_looks (zw y_Tre_looks prog_1_method_14_code 2 (some Jvm.ClassFile.FieldType.int)) 6 155 [.ref (G 0), .int a1] D zcl (ztys cA) A (zRep D cA G A) zfc zfs S (zFi r) := by
  intro r hr
  refine zMet_of (mo_Fi (mo_Tre_looks S a1 r hr)) (by decide) tk_Tre_looks (Nat.le_of_ble_eq_true rfl) ?_
  intro p e R s m args below meth c hf hlo C0 hK hA
  have K : zSO p l e R s m args below meth c 2 A D cA G S 0 (lv_args 0 [.ref (G 0), .int a1]) [] zFi (f_Tre_looks S a1) := by
    unfold f_Tre_looks
    refine so_go C0 1 (pc' := 1) (lv' := [(0, .ref (G 0)), (1, .int a1)]) (st' := [.ref (G 0)]) rfl ?_
    refine so_cp (As := []) (rest := []) C0 hK hA yk_Tre_hasTree (c_Tre_hasTree S) wd_4_69 rfl rfl ⟨by rw [hf]; decide, by rw [hlo]; decide⟩ (Nat.le_of_ble_eq_true rfl) (zrc_obj (o := 0) hK (by decide) rfl) ?_
    refine so_if_eq C0 rfl (fun h1 => ?_) (fun h1 => ?_)
    · refine so_go C0 1 (pc' := 19) (lv' := [(0, .ref (G 0)), (1, .int a1)]) (st' := [.int (-1)]) rfl ?_
      exact so_reti C0 rfl rfl
    · refine so_go C0 1 (pc' := 8) (lv' := [(0, .ref (G 0)), (1, .int a1)]) (st' := [.ref (G 0)]) rfl ?_
      refine so_getf C0 hK (o := 0) (j := 1) (v := .ref (G 2)) (by decide) rfl i_Tre (by decide) wd_2_82 rfl rfl ?_
      refine so_go C0 1 (pc' := 12) (lv' := [(0, .ref (G 0)), (1, .int a1)]) (st' := [.int a1, .ref (G 2)]) rfl ?_
      refine so_cp (As := [.int a1]) (rest := []) C0 hK hA yk_Pat_isValue (c_Pat_isValue S a1) wd_4_121 rfl rfl ⟨by rw [hf]; decide, by rw [hlo]; decide⟩ (Nat.le_of_ble_eq_true rfl) (zrc_obj (o := 2) hK (by decide) rfl) ?_
      refine so_if_ne C0 rfl (fun h2 => ?_) (fun h2 => ?_)
      · refine so_go C0 1 (pc' := 21) (lv' := [(0, .ref (G 0)), (1, .int a1)]) (st' := [.ref (G 0)]) rfl ?_
        refine so_getf C0 hK (o := 0) (j := 8) (v := .ref (G 8)) (by decide) rfl i_Tre (by decide) wd_2_89 rfl rfl ?_
        refine so_go C0 1 (pc' := 25) (lv' := [(0, .ref (G 0)), (1, .int a1)]) (st' := [.int a1, .ref (G 8)]) rfl ?_
        refine so_oi (As := [.int a1]) (rest := []) C0 hK hA yk_Wlk_walk (c_Wlk_walk S a1) wd_4_122 rfl rfl ⟨by rw [hf]; decide, by rw [hlo]; decide⟩ (Nat.le_of_ble_eq_true rfl) (zrc_obj (o := 8) hK (by decide) rfl) (fun S3 v4 hv4 => ?_)
        refine so_go C0 1 (pc' := 30) (lv' := [(0, .ref (G 0)), (1, .int a1)]) (st' := [.int (-3), .int v4]) rfl ?_
        refine so_icmp_ne C0 rfl (fun h5 => ?_) (fun h5 => ?_)
        · refine so_go C0 1 (pc' := 38) (lv' := [(0, .ref (G 0)), (1, .int a1)]) (st' := [.ref (G 0)]) rfl ?_
          refine so_getf C0 hK (o := 0) (j := 8) (v := .ref (G 8)) (by decide) rfl i_Tre (by decide) wd_2_89 rfl rfl ?_
          refine so_cp (As := []) (rest := []) C0 hK hA yk_Wlk_looked (c_Wlk_looked S3) wd_4_181 rfl rfl ⟨by rw [hf]; decide, by rw [hlo]; decide⟩ (Nat.le_of_ble_eq_true rfl) (zrc_obj (o := 8) hK (by decide) rfl) ?_
          exact so_reti C0 rfl rfl
        · refine so_go C0 2 (pc' := 44) (lv' := [(0, .ref (G 0)), (1, .int a1)]) (st' := [.int (-1)]) rfl ?_
          exact so_reti C0 rfl rfl
      · refine so_go C0 1 (pc' := 19) (lv' := [(0, .ref (G 0)), (1, .int a1)]) (st' := [.int (-1)]) rfl ?_
        exact so_reti C0 rfl rfl
  exact K r hr
def f_Tre_first_L15 : Nat → zS → Int32 → Int32 → Option (zS × Int32)
  | 0, _, _, _ => none
  | n + 1, S, x1, x2 =>
    if (r_size S 12) ≤ x2 then
      some (S, (-1))
    else
      zob2 (f_Pai_match S (r_at S 12 x2) x1) fun S3 v4 =>
      if v4 = 0 then
        f_Tre_first_L15 n S3 x1 (x2 + 1)
      else
        some (S3, x2)
def f_Tre_first (S : zS) (a1 : Int32) : Option (zS × Int32) :=
  if ¬ (f_Pat_isValue S a1) = 0 then
    f_Tre_first_L15 zbig S a1 0
  else
    some (S, (-1))
theorem mo_Tre_first (S : zS) (a1 : Int32) : zmO Prod.fst S (f_Tre_first S a1) := by
  have lp15 : ∀ (n : Nat) (S : zS) (x1 : Int32) (x2 : Int32), zmO Prod.fst S (f_Tre_first_L15 n S x1 x2) := by
    intro n
    induction n with
    | zero =>
      intro S x1 x2
      rw [f_Tre_first_L15]
      exact mO_0
    | succ n ih15 =>
      intro S x1 x2
      rw [f_Tre_first_L15]
      exact (mO_if (g := Prod.fst) (mO_s zmo_rf) (mO_ob2 (g := Prod.fst) (mo_Pai_match S (r_at S 12 x2) x1) fun S3 v4 => (mO_if (g := Prod.fst) (ih15 S3 x1 (x2 + 1)) (mO_s zmo_rf))))
  unfold f_Tre_first
  exact (mO_if (g := Prod.fst) (lp15 zbig S a1 0) (mO_s zmo_rf))
set_option maxHeartbeats 1000000 in
set_option maxRecDepth 20000 in
theorem c_Tre_first (S : zS) (a1 : Int32) : ∀ r, f_Tre_first S a1 = some r → zMet l y_Tre_first (zw y_Tre_first prog_1_method_15_code 3 (some Jvm.ClassFile.FieldType.int)) 7 182 [.ref (G 0), .int a1] D zcl (ztys cA) A (zRep D cA G A) zfc zfs S (zFi r) := by
  intro r hr
  refine zMet_of (mo_Fi (mo_Tre_first S a1 r hr)) (by decide) tk_Tre_first (Nat.le_of_ble_eq_true rfl) ?_
  intro p e R s m args below meth c hf hlo C0 hK hA
  have lp15 : ∀ (n : Nat) (S : zS) (x1 : Int32) (x2 : Int32), zSO p l e R s m args below meth c 3 A D cA G S 15 [(0, .ref (G 0)), (1, .int x1), (2, .int x2)] [] zFi (f_Tre_first_L15 n S x1 x2) := by
    intro n
    induction n with
    | zero =>
      intro S x1 x2
      rw [f_Tre_first_L15]
      exact so_none
    | succ n ih15 =>
      intro S x1 x2
      rw [f_Tre_first_L15]
      refine so_go C0 2 (pc' := 17) (lv' := [(0, .ref (G 0)), (1, .int x1), (2, .int x2)]) (st' := [.ref (G 0), .int x2]) rfl ?_
      refine so_getf C0 hK (o := 0) (j := 4) (v := .ref (G 23)) (by decide) rfl i_Tre (by decide) wd_2_85 rfl rfl ?_
      refine so_cp (As := []) (rest := [.int x2]) C0 hK hA yk_Row_size (c_Row_size 12 (by decide)) wd_3_58 rfl rfl ⟨by rw [hf]; decide, by rw [hlo]; decide⟩ (Nat.le_of_ble_eq_true rfl) (zrc_row (k := 12) hK (by decide)) ?_
      refine so_icmp_ge C0 rfl (fun h2 => ?_) (fun h2 => ?_)
      · refine so_go C0 1 (pc' := 54) (lv' := [(0, .ref (G 0)), (1, .int x1), (2, .int x2)]) (st' := [.int (-1)]) rfl ?_
        exact so_reti C0 rfl rfl
      · refine so_go C0 1 (pc' := 27) (lv' := [(0, .ref (G 0)), (1, .int x1), (2, .int x2)]) (st' := [.ref (G 0)]) rfl ?_
        refine so_getf C0 hK (o := 0) (j := 3) (v := .ref (G 4)) (by decide) rfl i_Tre (by decide) wd_2_84 rfl rfl ?_
        refine so_go C0 1 (pc' := 31) (lv' := [(0, .ref (G 0)), (1, .int x1), (2, .int x2)]) (st' := [.ref (G 0), .ref (G 4)]) rfl ?_
        refine so_getf C0 hK (o := 0) (j := 4) (v := .ref (G 23)) (by decide) rfl i_Tre (by decide) wd_2_85 rfl rfl ?_
        refine so_go C0 1 (pc' := 35) (lv' := [(0, .ref (G 0)), (1, .int x1), (2, .int x2)]) (st' := [.int x2, .ref (G 23), .ref (G 4)]) rfl ?_
        refine so_cp (As := [.int x2]) (rest := [.ref (G 4)]) C0 hK hA yk_Row_at (c_Row_at 12 (by decide) x2) wd_4_189 rfl rfl ⟨by rw [hf]; decide, by rw [hlo]; decide⟩ (Nat.le_of_ble_eq_true rfl) (zrc_row (k := 12) hK (by decide)) ?_
        refine so_go C0 1 (pc' := 39) (lv' := [(0, .ref (G 0)), (1, .int x1), (2, .int x2)]) (st' := [.int x1, .int (r_at S 12 x2), .ref (G 4)]) rfl ?_
        refine so_oi (As := [.int (r_at S 12 x2), .int x1]) (rest := []) C0 hK hA yk_Pai_match (c_Pai_match S (r_at S 12 x2) x1) wd_4_190 rfl rfl ⟨by rw [hf]; decide, by rw [hlo]; decide⟩ (Nat.le_of_ble_eq_true rfl) (zrc_obj (o := 4) hK (by decide) rfl) (fun S3 v4 hv4 => ?_)
        refine so_if_eq C0 rfl (fun h5 => ?_) (fun h5 => ?_)
        · refine so_go C0 2 (pc' := 15) (lv' := [(0, .ref (G 0)), (1, .int x1), (2, .int (x2 + 1))]) (st' := []) rfl ?_
          exact so_sub (lv' := [(0, .ref (G 0)), (1, .int x1), (2, .int (x2 + 1))]) (zpk [0, 1, 2] rfl) (ih15 S3 x1 (x2 + 1))
        · refine so_go C0 1 (pc' := 46) (lv' := [(0, .ref (G 0)), (1, .int x1), (2, .int x2)]) (st' := [.int x2]) rfl ?_
          exact so_reti C0 rfl rfl
  have K : zSO p l e R s m args below meth c 3 A D cA G S 0 (lv_args 0 [.ref (G 0), .int a1]) [] zFi (f_Tre_first S a1) := by
    unfold f_Tre_first
    refine so_go C0 1 (pc' := 1) (lv' := [(0, .ref (G 0)), (1, .int a1)]) (st' := [.ref (G 0)]) rfl ?_
    refine so_getf C0 hK (o := 0) (j := 1) (v := .ref (G 2)) (by decide) rfl i_Tre (by decide) wd_2_82 rfl rfl ?_
    refine so_go C0 1 (pc' := 5) (lv' := [(0, .ref (G 0)), (1, .int a1)]) (st' := [.int a1, .ref (G 2)]) rfl ?_
    refine so_cp (As := [.int a1]) (rest := []) C0 hK hA yk_Pat_isValue (c_Pat_isValue S a1) wd_4_121 rfl rfl ⟨by rw [hf]; decide, by rw [hlo]; decide⟩ (Nat.le_of_ble_eq_true rfl) (zrc_obj (o := 2) hK (by decide) rfl) ?_
    refine so_if_ne C0 rfl (fun h1 => ?_) (fun h1 => ?_)
    · refine so_go C0 2 (pc' := 15) (lv' := [(0, .ref (G 0)), (1, .int a1), (2, .int 0)]) (st' := []) rfl ?_
      exact so_sub (lv' := [(0, .ref (G 0)), (1, .int a1), (2, .int 0)]) (zpk [0, 1, 2] rfl) (lp15 zbig S a1 0)
    · refine so_go C0 1 (pc' := 12) (lv' := [(0, .ref (G 0)), (1, .int a1)]) (st' := [.int (-1)]) rfl ?_
      exact so_reti C0 rfl rfl
  exact K r hr
def f_Tre_fits (S : zS) (a1 : Int32) : Option (zS × Int32) :=
  if (f_Pat_isValue S a1) = 0 then
    some (S, 0)
  else
    zob2 (f_Pai_goWith S a1) fun S2 v3 =>
    if v3 = 0 then
      some (S2, 0)
    else
      some (S2, 1)
theorem mo_Tre_fits (S : zS) (a1 : Int32) : zmO Prod.fst S (f_Tre_fits S a1) := by
  unfold f_Tre_fits
  exact (mO_if (g := Prod.fst) (mO_s zmo_rf) (mO_ob2 (g := Prod.fst) (mo_Pai_goWith S a1) fun S2 v3 => (mO_if (g := Prod.fst) (mO_s zmo_rf) (mO_s zmo_rf))))
set_option maxHeartbeats 1000000 in
set_option maxRecDepth 20000 in
theorem c_Tre_fits (S : zS) (a1 : Int32) : ∀ r, f_Tre_fits S a1 = some r → zMet l y_Tre_fits (zw y_Tre_fits prog_1_method_16_code 2 (some Jvm.ClassFile.FieldType.boolean)) 7 184 [.ref (G 0), .int a1] D zcl (ztys cA) A (zRep D cA G A) zfc zfs S (zFi r) := by
  intro r hr
  refine zMet_of (mo_Fi (mo_Tre_fits S a1 r hr)) (by decide) tk_Tre_fits (Nat.le_of_ble_eq_true rfl) ?_
  intro p e R s m args below meth c hf hlo C0 hK hA
  have K : zSO p l e R s m args below meth c 2 A D cA G S 0 (lv_args 0 [.ref (G 0), .int a1]) [] zFi (f_Tre_fits S a1) := by
    unfold f_Tre_fits
    refine so_go C0 1 (pc' := 1) (lv' := [(0, .ref (G 0)), (1, .int a1)]) (st' := [.ref (G 0)]) rfl ?_
    refine so_getf C0 hK (o := 0) (j := 1) (v := .ref (G 2)) (by decide) rfl i_Tre (by decide) wd_2_82 rfl rfl ?_
    refine so_go C0 1 (pc' := 5) (lv' := [(0, .ref (G 0)), (1, .int a1)]) (st' := [.int a1, .ref (G 2)]) rfl ?_
    refine so_cp (As := [.int a1]) (rest := []) C0 hK hA yk_Pat_isValue (c_Pat_isValue S a1) wd_4_121 rfl rfl ⟨by rw [hf]; decide, by rw [hlo]; decide⟩ (Nat.le_of_ble_eq_true rfl) (zrc_obj (o := 2) hK (by decide) rfl) ?_
    refine so_if_eq C0 rfl (fun h1 => ?_) (fun h1 => ?_)
    · refine so_go C0 1 (pc' := 31) (lv' := [(0, .ref (G 0)), (1, .int a1)]) (st' := [.int 0]) rfl ?_
      exact so_retz C0 rfl rfl rfl
    · refine so_go C0 1 (pc' := 12) (lv' := [(0, .ref (G 0)), (1, .int a1)]) (st' := [.ref (G 0)]) rfl ?_
      refine so_getf C0 hK (o := 0) (j := 3) (v := .ref (G 4)) (by decide) rfl i_Tre (by decide) wd_2_84 rfl rfl ?_
      refine so_go C0 1 (pc' := 16) (lv' := [(0, .ref (G 0)), (1, .int a1)]) (st' := [.ref (G 0), .ref (G 4)]) rfl ?_
      refine so_getf C0 hK (o := 0) (j := 4) (v := .ref (G 23)) (by decide) rfl i_Tre (by decide) wd_2_85 rfl rfl ?_
      refine so_go C0 1 (pc' := 20) (lv' := [(0, .ref (G 0)), (1, .int a1)]) (st' := [.int a1, .ref (G 23), .ref (G 4)]) rfl ?_
      refine so_oi (As := [.ref (G 23), .int a1]) (rest := []) C0 hK hA yk_Pai_goWith (c_Pai_goWith S a1) wd_2_234 rfl rfl ⟨by rw [hf]; decide, by rw [hlo]; decide⟩ (Nat.le_of_ble_eq_true rfl) (zrc_obj (o := 4) hK (by decide) rfl) (fun S2 v3 hv3 => ?_)
      refine so_if_eq C0 rfl (fun h4 => ?_) (fun h4 => ?_)
      · refine so_go C0 1 (pc' := 31) (lv' := [(0, .ref (G 0)), (1, .int a1)]) (st' := [.int 0]) rfl ?_
        exact so_retz C0 rfl rfl rfl
      · refine so_go C0 2 (pc' := 31) (lv' := [(0, .ref (G 0)), (1, .int a1)]) (st' := [.int 1]) rfl ?_
        exact so_retz C0 rfl rfl rfl
  exact K r hr
def f_Tre_ends (S : zS) (a1 : Int32) : Option (Int32) :=
  if (f_Tre_hasTree S) = 0 then
    some (-1)
  else
    if a1 < (-1) then
      some (-1)
    else
      if a1 < (r_size S 12) then
        zob (f_Nod_endsWith S a1) fun v4 =>
        some v4
      else
        some (-1)
set_option maxHeartbeats 1000000 in
set_option maxRecDepth 20000 in
theorem c_Tre_ends (S : zS) (a1 : Int32) : ∀ r, f_Tre_ends S a1 = some r → zMet l y_Tre_ends (zw y_Tre_ends prog_1_method_17_code 2 (some Jvm.ClassFile.FieldType.int)) 3 66 [.ref (G 0), .int a1] D zcl (ztys cA) A (zRep D cA G A) zfc zfs S ((zFp S) r) := by
  intro r hr
  refine zMet_of ⟨Nat.le_refl _, Nat.le_refl _⟩ (by decide) tk_Tre_ends (Nat.le_of_ble_eq_true rfl) ?_
  intro p e R s m args below meth c hf hlo C0 hK hA
  have K : zSO p l e R s m args below meth c 2 A D cA G S 0 (lv_args 0 [.ref (G 0), .int a1]) [] (zFp S) (f_Tre_ends S a1) := by
    unfold f_Tre_ends
    refine so_go C0 1 (pc' := 1) (lv' := [(0, .ref (G 0)), (1, .int a1)]) (st' := [.ref (G 0)]) rfl ?_
    refine so_cp (As := []) (rest := []) C0 hK hA yk_Tre_hasTree (c_Tre_hasTree S) wd_4_69 rfl rfl ⟨by rw [hf]; decide, by rw [hlo]; decide⟩ (Nat.le_of_ble_eq_true rfl) (zrc_obj (o := 0) hK (by decide) rfl) ?_
    refine so_if_eq C0 rfl (fun h1 => ?_) (fun h1 => ?_)
    · refine so_go C0 1 (pc' := 24) (lv' := [(0, .ref (G 0)), (1, .int a1)]) (st' := [.int (-1)]) rfl ?_
      exact so_reti C0 rfl rfl
    · refine so_go C0 2 (pc' := 9) (lv' := [(0, .ref (G 0)), (1, .int a1)]) (st' := [.int (-1), .int a1]) rfl ?_
      refine so_icmp_lt C0 rfl (fun h2 => ?_) (fun h2 => ?_)
      · refine so_go C0 1 (pc' := 24) (lv' := [(0, .ref (G 0)), (1, .int a1)]) (st' := [.int (-1)]) rfl ?_
        exact so_reti C0 rfl rfl
      · refine so_go C0 2 (pc' := 14) (lv' := [(0, .ref (G 0)), (1, .int a1)]) (st' := [.ref (G 0), .int a1]) rfl ?_
        refine so_getf C0 hK (o := 0) (j := 4) (v := .ref (G 23)) (by decide) rfl i_Tre (by decide) wd_2_85 rfl rfl ?_
        refine so_cp (As := []) (rest := [.int a1]) C0 hK hA yk_Row_size (c_Row_size 12 (by decide)) wd_3_58 rfl rfl ⟨by rw [hf]; decide, by rw [hlo]; decide⟩ (Nat.le_of_ble_eq_true rfl) (zrc_row (k := 12) hK (by decide)) ?_
        refine so_icmp_lt C0 rfl (fun h3 => ?_) (fun h3 => ?_)
        · refine so_go C0 1 (pc' := 26) (lv' := [(0, .ref (G 0)), (1, .int a1)]) (st' := [.ref (G 0)]) rfl ?_
          refine so_getf C0 hK (o := 0) (j := 6) (v := .ref (G 6)) (by decide) rfl i_Tre (by decide) wd_2_87 rfl rfl ?_
          refine so_go C0 1 (pc' := 30) (lv' := [(0, .ref (G 0)), (1, .int a1)]) (st' := [.int a1, .ref (G 6)]) rfl ?_
          refine so_op (As := [.int a1]) (rest := []) C0 hK hA yk_Nod_endsWith (c_Nod_endsWith S a1) wd_4_202 rfl rfl ⟨by rw [hf]; decide, by rw [hlo]; decide⟩ (Nat.le_of_ble_eq_true rfl) (zrc_obj (o := 6) hK (by decide) rfl) (fun v4 hv4 => ?_)
          exact so_reti C0 rfl rfl
        · refine so_go C0 1 (pc' := 24) (lv' := [(0, .ref (G 0)), (1, .int a1)]) (st' := [.int (-1)]) rfl ?_
          exact so_reti C0 rfl rfl
  exact K r hr
def f_Tre_depth (S : zS) : Option (Int32) :=
  if (f_Tre_hasTree S) = 0 then
    some (-1)
  else
    zob (f_Nod_deepest S) fun v2 =>
    some v2
set_option maxHeartbeats 1000000 in
set_option maxRecDepth 20000 in
theorem c_Tre_depth (S : zS) : ∀ r, f_Tre_depth S = some r → zMet l y_Tre_depth (zw y_Tre_depth prog_1_method_18_code 1 (some Jvm.ClassFile.FieldType.int)) 2 43 [.ref (G 0)] D zcl (ztys cA) A (zRep D cA G A) zfc zfs S ((zFp S) r) := by
  intro r hr
  refine zMet_of ⟨Nat.le_refl _, Nat.le_refl _⟩ (by decide) tk_Tre_depth (Nat.le_of_ble_eq_true rfl) ?_
  intro p e R s m args below meth c hf hlo C0 hK hA
  have K : zSO p l e R s m args below meth c 1 A D cA G S 0 (lv_args 0 [.ref (G 0)]) [] (zFp S) (f_Tre_depth S) := by
    unfold f_Tre_depth
    refine so_go C0 1 (pc' := 1) (lv' := [(0, .ref (G 0))]) (st' := [.ref (G 0)]) rfl ?_
    refine so_cp (As := []) (rest := []) C0 hK hA yk_Tre_hasTree (c_Tre_hasTree S) wd_4_69 rfl rfl ⟨by rw [hf]; decide, by rw [hlo]; decide⟩ (Nat.le_of_ble_eq_true rfl) (zrc_obj (o := 0) hK (by decide) rfl) ?_
    refine so_if_eq C0 rfl (fun h1 => ?_) (fun h1 => ?_)
    · refine so_go C0 1 (pc' := 18) (lv' := [(0, .ref (G 0))]) (st' := [.int (-1)]) rfl ?_
      exact so_reti C0 rfl rfl
    · refine so_go C0 1 (pc' := 8) (lv' := [(0, .ref (G 0))]) (st' := [.ref (G 0)]) rfl ?_
      refine so_getf C0 hK (o := 0) (j := 6) (v := .ref (G 6)) (by decide) rfl i_Tre (by decide) wd_2_87 rfl rfl ?_
      refine so_op (As := []) (rest := []) C0 hK hA yk_Nod_deepest (c_Nod_deepest S) wd_4_210 rfl rfl ⟨by rw [hf]; decide, by rw [hlo]; decide⟩ (Nat.le_of_ble_eq_true rfl) (zrc_obj (o := 6) hK (by decide) rfl) (fun v2 hv2 => ?_)
      refine so_go C0 1 (pc' := 18) (lv' := [(0, .ref (G 0))]) (st' := [.int v2]) rfl ?_
      exact so_reti C0 rfl rfl
  exact K r hr
def f_Tre_missing (S : zS) (a1 : Int64) (a2 : Int32) : Option (Int32) :=
  if (f_Tre_hasTree S) = 0 then
    some (-1)
  else
    zob (f_Gap_tell S a1 a2) fun v2 =>
    some v2
set_option maxHeartbeats 1000000 in
set_option maxRecDepth 20000 in
theorem c_Tre_missing (S : zS) (a1 : Int64) (a2 : Int32) : ∀ r, f_Tre_missing S a1 a2 = some r → zMet l y_Tre_missing (zw y_Tre_missing prog_1_method_19_code 4 (some Jvm.ClassFile.FieldType.int)) 6 142 [.ref (G 0), .long a1, .int a2] D zcl (ztys cA) A (zRep D cA G A) zfc zfs S ((zFp S) r) := by
  intro r hr
  refine zMet_of ⟨Nat.le_refl _, Nat.le_refl _⟩ (by decide) tk_Tre_missing (Nat.le_of_ble_eq_true rfl) ?_
  intro p e R s m args below meth c hf hlo C0 hK hA
  have K : zSO p l e R s m args below meth c 4 A D cA G S 0 (lv_args 0 [.ref (G 0), .long a1, .int a2]) [] (zFp S) (f_Tre_missing S a1 a2) := by
    unfold f_Tre_missing
    refine so_go C0 1 (pc' := 1) (lv' := [(0, .ref (G 0)), (1, .long a1), (3, .int a2)]) (st' := [.ref (G 0)]) rfl ?_
    refine so_cp (As := []) (rest := []) C0 hK hA yk_Tre_hasTree (c_Tre_hasTree S) wd_4_69 rfl rfl ⟨by rw [hf]; decide, by rw [hlo]; decide⟩ (Nat.le_of_ble_eq_true rfl) (zrc_obj (o := 0) hK (by decide) rfl) ?_
    refine so_if_eq C0 rfl (fun h1 => ?_) (fun h1 => ?_)
    · refine so_go C0 1 (pc' := 20) (lv' := [(0, .ref (G 0)), (1, .long a1), (3, .int a2)]) (st' := [.int (-1)]) rfl ?_
      exact so_reti C0 rfl rfl
    · refine so_go C0 1 (pc' := 8) (lv' := [(0, .ref (G 0)), (1, .long a1), (3, .int a2)]) (st' := [.ref (G 0)]) rfl ?_
      refine so_getf C0 hK (o := 0) (j := 9) (v := .ref (G 9)) (by decide) rfl i_Tre (by decide) wd_2_90 rfl rfl ?_
      refine so_go C0 2 (pc' := 13) (lv' := [(0, .ref (G 0)), (1, .long a1), (3, .int a2)]) (st' := [.int a2, .long a1, .ref (G 9)]) rfl ?_
      refine so_op (As := [.long a1, .int a2]) (rest := []) C0 hK hA yk_Gap_tell (c_Gap_tell S a1 a2) wd_4_219 rfl rfl ⟨by rw [hf]; decide, by rw [hlo]; decide⟩ (Nat.le_of_ble_eq_true rfl) (zrc_obj (o := 9) hK (by decide) rfl) (fun v2 hv2 => ?_)
      refine so_go C0 1 (pc' := 20) (lv' := [(0, .ref (G 0)), (1, .long a1), (3, .int a2)]) (st' := [.int v2]) rfl ?_
      exact so_reti C0 rfl rfl
  exact K r hr
def f_Tre_count (S : zS) (a1 : Int32) : Int32 :=
  if a1 = 0 then
    (f_Fam_size S)
  else
  if a1 = 1 then
    (f_Pat_size S)
  else
  if a1 = 2 then
    (f_Psh_many S)
  else
  if a1 = 3 then
    (r_size S 12)
  else
  if a1 = 4 then
    if (f_Tre_hasTree S) = 0 then
      0
    else
      (S.2.2.1 1)
  else
    (-1)
end ZM
