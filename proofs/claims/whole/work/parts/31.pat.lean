-- by program: the methods of RuleTree$Patterns, as functions, and that the code does them
section ZM
variable {cA : Nat → ClassId} {G : Nat → Nat} {A : Nat → Prop} {D : va_G} {l : Launch}
def f_Pat_hasRoom (S : zS) (a1 : Int32) : Int32 :=
  if 16384 ≤ (r_size S 1) then
    0
  else
    if 10000 < a1 then
      0
    else
      1
set_option maxHeartbeats 1000000 in
set_option maxRecDepth 20000 in
theorem c_Pat_hasRoom (S : zS) (a1 : Int32) : zMet l y_Pat_hasRoom (zw y_Pat_hasRoom prog_8_method_16_code 2 (some Jvm.ClassFile.FieldType.boolean)) 1 20 [.ref (G 2), .int a1] D zcl (ztys cA) A (zRep D cA G A) zfc zfs S ((zFp S) (f_Pat_hasRoom S a1)) := by
  refine zMet_of ⟨Nat.le_refl _, Nat.le_refl _⟩ (by decide) tk_Pat_hasRoom (Nat.le_of_ble_eq_true rfl) ?_
  intro p e R s m args below meth c hf hlo C0 hK hA
  unfold f_Pat_hasRoom
  refine sw_go C0 1 (pc' := 1) (lv' := [(0, .ref (G 2)), (1, .int a1)]) (st' := [.ref (G 2)]) rfl ?_
  refine sw_getf C0 hK (o := 2) (j := 0) (v := .ref (G 12)) (by decide) rfl i_Pat (by decide) wd_1_60 rfl rfl ?_
  refine sw_cp (As := []) (rest := []) C0 hK hA yk_Row_size (c_Row_size 1 (by decide)) wd_2_147 rfl rfl ⟨by rw [hf]; decide, by rw [hlo]; decide⟩ (Nat.le_of_ble_eq_true rfl) (zrc_row (k := 1) hK (by decide)) ?_
  refine sw_go C0 1 (pc' := 10) (lv' := [(0, .ref (G 2)), (1, .int a1)]) (st' := [.int 16384, .int (r_size S 1)]) rfl ?_
  refine sw_icmp_ge (zFp S) C0 rfl (fun h1 => ?_) (fun h1 => ?_)
  · refine sw_go C0 1 (pc' := 25) (lv' := [(0, .ref (G 2)), (1, .int a1)]) (st' := [.int 0]) rfl ?_
    exact sw_retz C0 rfl rfl rfl
  · refine sw_go C0 2 (pc' := 17) (lv' := [(0, .ref (G 2)), (1, .int a1)]) (st' := [.int 10000, .int a1]) rfl ?_
    refine sw_icmp_gt (zFp S) C0 rfl (fun h2 => ?_) (fun h2 => ?_)
    · refine sw_go C0 1 (pc' := 25) (lv' := [(0, .ref (G 2)), (1, .int a1)]) (st' := [.int 0]) rfl ?_
      exact sw_retz C0 rfl rfl rfl
    · refine sw_go C0 2 (pc' := 25) (lv' := [(0, .ref (G 2)), (1, .int a1)]) (st' := [.int 1]) rfl ?_
      exact sw_retz C0 rfl rfl rfl
def f_Pat_isValue (S : zS) (a1 : Int32) : Int32 :=
  if ¬ (r_at S 7 a1) = 1 then
    0
  else
    1
set_option maxHeartbeats 1000000 in
set_option maxRecDepth 20000 in
theorem c_Pat_isValue (S : zS) (a1 : Int32) : zMet l y_Pat_isValue (zw y_Pat_isValue prog_8_method_8_code 2 (some Jvm.ClassFile.FieldType.boolean)) 1 21 [.ref (G 2), .int a1] D zcl (ztys cA) A (zRep D cA G A) zfc zfs S ((zFp S) (f_Pat_isValue S a1)) := by
  refine zMet_of ⟨Nat.le_refl _, Nat.le_refl _⟩ (by decide) tk_Pat_isValue (Nat.le_of_ble_eq_true rfl) ?_
  intro p e R s m args below meth c hf hlo C0 hK hA
  unfold f_Pat_isValue
  refine sw_go C0 1 (pc' := 1) (lv' := [(0, .ref (G 2)), (1, .int a1)]) (st' := [.ref (G 2)]) rfl ?_
  refine sw_getf C0 hK (o := 2) (j := 6) (v := .ref (G 18)) (by decide) rfl i_Pat (by decide) wd_1_66 rfl rfl ?_
  refine sw_go C0 1 (pc' := 5) (lv' := [(0, .ref (G 2)), (1, .int a1)]) (st' := [.int a1, .ref (G 18)]) rfl ?_
  refine sw_cp (As := [.int a1]) (rest := []) C0 hK hA yk_Row_at (c_Row_at 7 (by decide) a1) wd_2_139 rfl rfl ⟨by rw [hf]; decide, by rw [hlo]; decide⟩ (Nat.le_of_ble_eq_true rfl) (zrc_row (k := 7) hK (by decide)) ?_
  refine sw_go C0 1 (pc' := 9) (lv' := [(0, .ref (G 2)), (1, .int a1)]) (st' := [.int 1, .int (r_at S 7 a1)]) rfl ?_
  refine sw_icmp_ne (zFp S) C0 rfl (fun h1 => ?_) (fun h1 => ?_)
  · refine sw_go C0 1 (pc' := 17) (lv' := [(0, .ref (G 2)), (1, .int a1)]) (st' := [.int 0]) rfl ?_
    exact sw_retz C0 rfl rfl rfl
  · refine sw_go C0 2 (pc' := 17) (lv' := [(0, .ref (G 2)), (1, .int a1)]) (st' := [.int 1]) rfl ?_
    exact sw_retz C0 rfl rfl rfl
def f_Pat_addPlain (S : zS) (a1 : Int32) (a2 : Int32) (a3 : Int32) (a4 : Int32) : zS × Int32 :=
  if ¬ a4 = (-1) then
    zbind (1 + (r_at S 6 a4)) fun v2 =>
    if ¬ (f_Pat_hasRoom S v2) = 0 then
      if a1 = 0 then
        zbind2 (r_add S 2 a2) fun S5 v6 =>
        zbind2 (r_add S5 3 a3) fun S7 v8 =>
        zbind2 (r_add S7 4 a4) fun S9 v10 =>
        zbind2 (r_add S9 5 0) fun S11 v12 =>
        zbind2 (r_add S11 6 v2) fun S13 v14 =>
        zbind2 (r_add S13 7 0) fun S15 v16 =>
        zbind2 (r_add S15 1 a1) fun S17 v18 =>
        (S17, v18)
      else
        if a4 = (-1) then
          zbind2 (r_add S 2 a2) fun S20 v21 =>
          zbind2 (r_add S20 3 a3) fun S22 v23 =>
          zbind2 (r_add S22 4 a4) fun S24 v25 =>
          zbind2 (r_add S24 5 0) fun S26 v27 =>
          zbind2 (r_add S26 6 v2) fun S28 v29 =>
          zbind2 (r_add S28 7 1) fun S30 v31 =>
          zbind2 (r_add S30 1 a1) fun S32 v33 =>
          (S32, v33)
        else
          if (f_Pat_isValue S a4) = 0 then
            zbind2 (r_add S 2 a2) fun S35 v36 =>
            zbind2 (r_add S35 3 a3) fun S37 v38 =>
            zbind2 (r_add S37 4 a4) fun S39 v40 =>
            zbind2 (r_add S39 5 0) fun S41 v42 =>
            zbind2 (r_add S41 6 v2) fun S43 v44 =>
            zbind2 (r_add S43 7 0) fun S45 v46 =>
            zbind2 (r_add S45 1 a1) fun S47 v48 =>
            (S47, v48)
          else
            zbind2 (r_add S 2 a2) fun S49 v50 =>
            zbind2 (r_add S49 3 a3) fun S51 v52 =>
            zbind2 (r_add S51 4 a4) fun S53 v54 =>
            zbind2 (r_add S53 5 0) fun S55 v56 =>
            zbind2 (r_add S55 6 v2) fun S57 v58 =>
            zbind2 (r_add S57 7 1) fun S59 v60 =>
            zbind2 (r_add S59 1 a1) fun S61 v62 =>
            (S61, v62)
    else
      (S, (-2))
  else
    if ¬ (f_Pat_hasRoom S 1) = 0 then
      if a1 = 0 then
        zbind2 (r_add S 2 a2) fun S65 v66 =>
        zbind2 (r_add S65 3 a3) fun S67 v68 =>
        zbind2 (r_add S67 4 a4) fun S69 v70 =>
        zbind2 (r_add S69 5 0) fun S71 v72 =>
        zbind2 (r_add S71 6 1) fun S73 v74 =>
        zbind2 (r_add S73 7 0) fun S75 v76 =>
        zbind2 (r_add S75 1 a1) fun S77 v78 =>
        (S77, v78)
      else
        if a4 = (-1) then
          zbind2 (r_add S 2 a2) fun S80 v81 =>
          zbind2 (r_add S80 3 a3) fun S82 v83 =>
          zbind2 (r_add S82 4 a4) fun S84 v85 =>
          zbind2 (r_add S84 5 0) fun S86 v87 =>
          zbind2 (r_add S86 6 1) fun S88 v89 =>
          zbind2 (r_add S88 7 1) fun S90 v91 =>
          zbind2 (r_add S90 1 a1) fun S92 v93 =>
          (S92, v93)
        else
          if (f_Pat_isValue S a4) = 0 then
            zbind2 (r_add S 2 a2) fun S95 v96 =>
            zbind2 (r_add S95 3 a3) fun S97 v98 =>
            zbind2 (r_add S97 4 a4) fun S99 v100 =>
            zbind2 (r_add S99 5 0) fun S101 v102 =>
            zbind2 (r_add S101 6 1) fun S103 v104 =>
            zbind2 (r_add S103 7 0) fun S105 v106 =>
            zbind2 (r_add S105 1 a1) fun S107 v108 =>
            (S107, v108)
          else
            zbind2 (r_add S 2 a2) fun S109 v110 =>
            zbind2 (r_add S109 3 a3) fun S111 v112 =>
            zbind2 (r_add S111 4 a4) fun S113 v114 =>
            zbind2 (r_add S113 5 0) fun S115 v116 =>
            zbind2 (r_add S115 6 1) fun S117 v118 =>
            zbind2 (r_add S117 7 1) fun S119 v120 =>
            zbind2 (r_add S119 1 a1) fun S121 v122 =>
            (S121, v122)
    else
      (S, (-2))
theorem mo_Pat_addPlain (S : zS) (a1 : Int32) (a2 : Int32) (a3 : Int32) (a4 : Int32) : zmo S (f_Pat_addPlain S a1 a2 a3 a4).1 := by
  unfold f_Pat_addPlain
  exact (mo_if (g := Prod.fst) (mo_n (g := Prod.fst) fun v2 => (mo_if (g := Prod.fst) (mo_if (g := Prod.fst) (mo_b2 (g := Prod.fst) (r_add_mono (by decide) a2) fun S5 v6 => (mo_b2 (g := Prod.fst) (r_add_mono (by decide) a3) fun S7 v8 => (mo_b2 (g := Prod.fst) (r_add_mono (by decide) a4) fun S9 v10 => (mo_b2 (g := Prod.fst) (r_add_mono (by decide) 0) fun S11 v12 => (mo_b2 (g := Prod.fst) (r_add_mono (by decide) v2) fun S13 v14 => (mo_b2 (g := Prod.fst) (r_add_mono (by decide) 0) fun S15 v16 => (mo_b2 (g := Prod.fst) (r_add_mono (by decide) a1) fun S17 v18 => zmo_rf))))))) (mo_if (g := Prod.fst) (mo_b2 (g := Prod.fst) (r_add_mono (by decide) a2) fun S20 v21 => (mo_b2 (g := Prod.fst) (r_add_mono (by decide) a3) fun S22 v23 => (mo_b2 (g := Prod.fst) (r_add_mono (by decide) a4) fun S24 v25 => (mo_b2 (g := Prod.fst) (r_add_mono (by decide) 0) fun S26 v27 => (mo_b2 (g := Prod.fst) (r_add_mono (by decide) v2) fun S28 v29 => (mo_b2 (g := Prod.fst) (r_add_mono (by decide) 1) fun S30 v31 => (mo_b2 (g := Prod.fst) (r_add_mono (by decide) a1) fun S32 v33 => zmo_rf))))))) (mo_if (g := Prod.fst) (mo_b2 (g := Prod.fst) (r_add_mono (by decide) a2) fun S35 v36 => (mo_b2 (g := Prod.fst) (r_add_mono (by decide) a3) fun S37 v38 => (mo_b2 (g := Prod.fst) (r_add_mono (by decide) a4) fun S39 v40 => (mo_b2 (g := Prod.fst) (r_add_mono (by decide) 0) fun S41 v42 => (mo_b2 (g := Prod.fst) (r_add_mono (by decide) v2) fun S43 v44 => (mo_b2 (g := Prod.fst) (r_add_mono (by decide) 0) fun S45 v46 => (mo_b2 (g := Prod.fst) (r_add_mono (by decide) a1) fun S47 v48 => zmo_rf))))))) (mo_b2 (g := Prod.fst) (r_add_mono (by decide) a2) fun S49 v50 => (mo_b2 (g := Prod.fst) (r_add_mono (by decide) a3) fun S51 v52 => (mo_b2 (g := Prod.fst) (r_add_mono (by decide) a4) fun S53 v54 => (mo_b2 (g := Prod.fst) (r_add_mono (by decide) 0) fun S55 v56 => (mo_b2 (g := Prod.fst) (r_add_mono (by decide) v2) fun S57 v58 => (mo_b2 (g := Prod.fst) (r_add_mono (by decide) 1) fun S59 v60 => (mo_b2 (g := Prod.fst) (r_add_mono (by decide) a1) fun S61 v62 => zmo_rf)))))))))) zmo_rf)) (mo_if (g := Prod.fst) (mo_if (g := Prod.fst) (mo_b2 (g := Prod.fst) (r_add_mono (by decide) a2) fun S65 v66 => (mo_b2 (g := Prod.fst) (r_add_mono (by decide) a3) fun S67 v68 => (mo_b2 (g := Prod.fst) (r_add_mono (by decide) a4) fun S69 v70 => (mo_b2 (g := Prod.fst) (r_add_mono (by decide) 0) fun S71 v72 => (mo_b2 (g := Prod.fst) (r_add_mono (by decide) 1) fun S73 v74 => (mo_b2 (g := Prod.fst) (r_add_mono (by decide) 0) fun S75 v76 => (mo_b2 (g := Prod.fst) (r_add_mono (by decide) a1) fun S77 v78 => zmo_rf))))))) (mo_if (g := Prod.fst) (mo_b2 (g := Prod.fst) (r_add_mono (by decide) a2) fun S80 v81 => (mo_b2 (g := Prod.fst) (r_add_mono (by decide) a3) fun S82 v83 => (mo_b2 (g := Prod.fst) (r_add_mono (by decide) a4) fun S84 v85 => (mo_b2 (g := Prod.fst) (r_add_mono (by decide) 0) fun S86 v87 => (mo_b2 (g := Prod.fst) (r_add_mono (by decide) 1) fun S88 v89 => (mo_b2 (g := Prod.fst) (r_add_mono (by decide) 1) fun S90 v91 => (mo_b2 (g := Prod.fst) (r_add_mono (by decide) a1) fun S92 v93 => zmo_rf))))))) (mo_if (g := Prod.fst) (mo_b2 (g := Prod.fst) (r_add_mono (by decide) a2) fun S95 v96 => (mo_b2 (g := Prod.fst) (r_add_mono (by decide) a3) fun S97 v98 => (mo_b2 (g := Prod.fst) (r_add_mono (by decide) a4) fun S99 v100 => (mo_b2 (g := Prod.fst) (r_add_mono (by decide) 0) fun S101 v102 => (mo_b2 (g := Prod.fst) (r_add_mono (by decide) 1) fun S103 v104 => (mo_b2 (g := Prod.fst) (r_add_mono (by decide) 0) fun S105 v106 => (mo_b2 (g := Prod.fst) (r_add_mono (by decide) a1) fun S107 v108 => zmo_rf))))))) (mo_b2 (g := Prod.fst) (r_add_mono (by decide) a2) fun S109 v110 => (mo_b2 (g := Prod.fst) (r_add_mono (by decide) a3) fun S111 v112 => (mo_b2 (g := Prod.fst) (r_add_mono (by decide) a4) fun S113 v114 => (mo_b2 (g := Prod.fst) (r_add_mono (by decide) 0) fun S115 v116 => (mo_b2 (g := Prod.fst) (r_add_mono (by decide) 1) fun S117 v118 => (mo_b2 (g := Prod.fst) (r_add_mono (by decide) 1) fun S119 v120 => (mo_b2 (g := Prod.fst) (r_add_mono (by decide) a1) fun S121 v122 => zmo_rf)))))))))) zmo_rf))
set_option maxHeartbeats 1000000 in
set_option maxRecDepth 20000 in
theorem c_Pat_addPlain (S : zS) (a1 : Int32) (a2 : Int32) (a3 : Int32) (a4 : Int32) : zMet l y_Pat_addPlain (zw y_Pat_addPlain prog_8_method_13_code 7 (some Jvm.ClassFile.FieldType.int)) 3 83 [.ref (G 2), .int a1, .int a2, .int a3, .int a4] D zcl (ztys cA) A (zRep D cA G A) zfc zfs S (zFi (f_Pat_addPlain S a1 a2 a3 a4)) := by
  refine zMet_of (mo_Fi (mo_Pat_addPlain S a1 a2 a3 a4)) (by decide) tk_Pat_addPlain (Nat.le_of_ble_eq_true rfl) ?_
  intro p e R s m args below meth c hf hlo C0 hK hA
  unfold f_Pat_addPlain
  refine sw_go C0 2 (pc' := 3) (lv' := [(0, .ref (G 2)), (1, .int a1), (2, .int a2), (3, .int a3), (4, .int a4)]) (st' := [.int (-1), .int a4]) rfl ?_
  refine sw_icmp_ne zFi C0 rfl (fun h1 => ?_) (fun h1 => ?_)
  · refine sw_go C0 2 (pc' := 12) (lv' := [(0, .ref (G 2)), (1, .int a1), (2, .int a2), (3, .int a3), (4, .int a4)]) (st' := [.ref (G 2), .int 1]) rfl ?_
    refine sw_getf C0 hK (o := 2) (j := 5) (v := .ref (G 17)) (by decide) rfl i_Pat (by decide) wd_1_65 rfl rfl ?_
    refine sw_go C0 1 (pc' := 17) (lv' := [(0, .ref (G 2)), (1, .int a1), (2, .int a2), (3, .int a3), (4, .int a4)]) (st' := [.int a4, .ref (G 17), .int 1]) rfl ?_
    refine sw_cp (As := [.int a4]) (rest := [.int 1]) C0 hK hA yk_Row_at (c_Row_at 6 (by decide) a4) wd_2_139 rfl rfl ⟨by rw [hf]; decide, by rw [hlo]; decide⟩ (Nat.le_of_ble_eq_true rfl) (zrc_row (k := 6) hK (by decide)) ?_
    refine sw_go C0 1 (pc' := 21) (lv' := [(0, .ref (G 2)), (1, .int a1), (2, .int a2), (3, .int a3), (4, .int a4)]) (st' := [.int (1 + (r_at S 6 a4))]) rfl ?_
    refine sw_nm zFi (V := .int) (fun v2 hv2 => ?_)
    refine sw_go C0 3 (pc' := 26) (lv' := [(0, .ref (G 2)), (1, .int a1), (2, .int a2), (3, .int a3), (4, .int a4), (5, .int v2)]) (st' := [.int v2, .ref (G 2)]) rfl ?_
    refine sw_cp (As := [.int v2]) (rest := []) C0 hK hA yk_Pat_hasRoom (c_Pat_hasRoom S v2) wd_2_143 rfl rfl ⟨by rw [hf]; decide, by rw [hlo]; decide⟩ (Nat.le_of_ble_eq_true rfl) (zrc_obj (o := 2) hK (by decide) rfl) ?_
    refine sw_if_ne zFi C0 rfl (fun h3 => ?_) (fun h3 => ?_)
    · refine sw_go C0 1 (pc' := 36) (lv' := [(0, .ref (G 2)), (1, .int a1), (2, .int a2), (3, .int a3), (4, .int a4), (5, .int v2)]) (st' := [.int a1]) rfl ?_
      refine sw_if_eq zFi C0 rfl (fun h4 => ?_) (fun h4 => ?_)
      · refine sw_go C0 3 (pc' := 62) (lv' := [(0, .ref (G 2)), (1, .int a1), (2, .int a2), (3, .int a3), (4, .int a4), (5, .int v2), (6, .int 0)]) (st' := [.ref (G 2)]) rfl ?_
        refine sw_getf C0 hK (o := 2) (j := 1) (v := .ref (G 13)) (by decide) rfl i_Pat (by decide) wd_1_61 rfl rfl ?_
        refine sw_go C0 1 (pc' := 66) (lv' := [(0, .ref (G 2)), (1, .int a1), (2, .int a2), (3, .int a3), (4, .int a4), (5, .int v2), (6, .int 0)]) (st' := [.int a2, .ref (G 13)]) rfl ?_
        refine sw_ci zFi (As := [.int a2]) (rest := []) C0 hK hA yk_Row_add (c_Row_add 2 (by decide) a2) wd_2_152 rfl rfl ⟨by rw [hf]; decide, by rw [hlo]; decide⟩ (Nat.le_of_ble_eq_true rfl) (zrc_row (k := 2) hK (by decide)) (fun S5 v6 hv6 => ?_)
        refine sw_go C0 2 (pc' := 71) (lv' := [(0, .ref (G 2)), (1, .int a1), (2, .int a2), (3, .int a3), (4, .int a4), (5, .int v2), (6, .int 0)]) (st' := [.ref (G 2)]) rfl ?_
        refine sw_getf C0 hK (o := 2) (j := 2) (v := .ref (G 14)) (by decide) rfl i_Pat (by decide) wd_1_62 rfl rfl ?_
        refine sw_go C0 1 (pc' := 75) (lv' := [(0, .ref (G 2)), (1, .int a1), (2, .int a2), (3, .int a3), (4, .int a4), (5, .int v2), (6, .int 0)]) (st' := [.int a3, .ref (G 14)]) rfl ?_
        refine sw_ci zFi (As := [.int a3]) (rest := []) C0 hK hA yk_Row_add (c_Row_add 3 (by decide) a3) wd_2_152 rfl rfl ⟨by rw [hf]; decide, by rw [hlo]; decide⟩ (Nat.le_of_ble_eq_true rfl) (zrc_row (k := 3) hK (by decide)) (fun S7 v8 hv8 => ?_)
        refine sw_go C0 2 (pc' := 80) (lv' := [(0, .ref (G 2)), (1, .int a1), (2, .int a2), (3, .int a3), (4, .int a4), (5, .int v2), (6, .int 0)]) (st' := [.ref (G 2)]) rfl ?_
        refine sw_getf C0 hK (o := 2) (j := 3) (v := .ref (G 15)) (by decide) rfl i_Pat (by decide) wd_1_63 rfl rfl ?_
        refine sw_go C0 1 (pc' := 85) (lv' := [(0, .ref (G 2)), (1, .int a1), (2, .int a2), (3, .int a3), (4, .int a4), (5, .int v2), (6, .int 0)]) (st' := [.int a4, .ref (G 15)]) rfl ?_
        refine sw_ci zFi (As := [.int a4]) (rest := []) C0 hK hA yk_Row_add (c_Row_add 4 (by decide) a4) wd_2_152 rfl rfl ⟨by rw [hf]; decide, by rw [hlo]; decide⟩ (Nat.le_of_ble_eq_true rfl) (zrc_row (k := 4) hK (by decide)) (fun S9 v10 hv10 => ?_)
        refine sw_go C0 2 (pc' := 90) (lv' := [(0, .ref (G 2)), (1, .int a1), (2, .int a2), (3, .int a3), (4, .int a4), (5, .int v2), (6, .int 0)]) (st' := [.ref (G 2)]) rfl ?_
        refine sw_getf C0 hK (o := 2) (j := 4) (v := .ref (G 16)) (by decide) rfl i_Pat (by decide) wd_1_64 rfl rfl ?_
        refine sw_go C0 1 (pc' := 94) (lv' := [(0, .ref (G 2)), (1, .int a1), (2, .int a2), (3, .int a3), (4, .int a4), (5, .int v2), (6, .int 0)]) (st' := [.int 0, .ref (G 16)]) rfl ?_
        refine sw_ci zFi (As := [.int 0]) (rest := []) C0 hK hA yk_Row_add (c_Row_add 5 (by decide) 0) wd_2_152 rfl rfl ⟨by rw [hf]; decide, by rw [hlo]; decide⟩ (Nat.le_of_ble_eq_true rfl) (zrc_row (k := 5) hK (by decide)) (fun S11 v12 hv12 => ?_)
        refine sw_go C0 2 (pc' := 99) (lv' := [(0, .ref (G 2)), (1, .int a1), (2, .int a2), (3, .int a3), (4, .int a4), (5, .int v2), (6, .int 0)]) (st' := [.ref (G 2)]) rfl ?_
        refine sw_getf C0 hK (o := 2) (j := 5) (v := .ref (G 17)) (by decide) rfl i_Pat (by decide) wd_1_65 rfl rfl ?_
        refine sw_go C0 1 (pc' := 104) (lv' := [(0, .ref (G 2)), (1, .int a1), (2, .int a2), (3, .int a3), (4, .int a4), (5, .int v2), (6, .int 0)]) (st' := [.int v2, .ref (G 17)]) rfl ?_
        refine sw_ci zFi (As := [.int v2]) (rest := []) C0 hK hA yk_Row_add (c_Row_add 6 (by decide) v2) wd_2_152 rfl rfl ⟨by rw [hf]; decide, by rw [hlo]; decide⟩ (Nat.le_of_ble_eq_true rfl) (zrc_row (k := 6) hK (by decide)) (fun S13 v14 hv14 => ?_)
        refine sw_go C0 2 (pc' := 109) (lv' := [(0, .ref (G 2)), (1, .int a1), (2, .int a2), (3, .int a3), (4, .int a4), (5, .int v2), (6, .int 0)]) (st' := [.ref (G 2)]) rfl ?_
        refine sw_getf C0 hK (o := 2) (j := 6) (v := .ref (G 18)) (by decide) rfl i_Pat (by decide) wd_1_66 rfl rfl ?_
        refine sw_go C0 1 (pc' := 114) (lv' := [(0, .ref (G 2)), (1, .int a1), (2, .int a2), (3, .int a3), (4, .int a4), (5, .int v2), (6, .int 0)]) (st' := [.int 0, .ref (G 18)]) rfl ?_
        refine sw_if_eqT C0 rfl (by decide) ?_
        refine sw_go C0 1 (pc' := 122) (lv' := [(0, .ref (G 2)), (1, .int a1), (2, .int a2), (3, .int a3), (4, .int a4), (5, .int v2), (6, .int 0)]) (st' := [.int 0, .ref (G 18)]) rfl ?_
        refine sw_ci zFi (As := [.int 0]) (rest := []) C0 hK hA yk_Row_add (c_Row_add 7 (by decide) 0) wd_2_152 rfl rfl ⟨by rw [hf]; decide, by rw [hlo]; decide⟩ (Nat.le_of_ble_eq_true rfl) (zrc_row (k := 7) hK (by decide)) (fun S15 v16 hv16 => ?_)
        refine sw_go C0 2 (pc' := 127) (lv' := [(0, .ref (G 2)), (1, .int a1), (2, .int a2), (3, .int a3), (4, .int a4), (5, .int v2), (6, .int 0)]) (st' := [.ref (G 2)]) rfl ?_
        refine sw_getf C0 hK (o := 2) (j := 0) (v := .ref (G 12)) (by decide) rfl i_Pat (by decide) wd_1_60 rfl rfl ?_
        refine sw_go C0 1 (pc' := 131) (lv' := [(0, .ref (G 2)), (1, .int a1), (2, .int a2), (3, .int a3), (4, .int a4), (5, .int v2), (6, .int 0)]) (st' := [.int a1, .ref (G 12)]) rfl ?_
        refine sw_ci zFi (As := [.int a1]) (rest := []) C0 hK hA yk_Row_add (c_Row_add 1 (by decide) a1) wd_2_152 rfl rfl ⟨by rw [hf]; decide, by rw [hlo]; decide⟩ (Nat.le_of_ble_eq_true rfl) (zrc_row (k := 1) hK (by decide)) (fun S17 v18 hv18 => ?_)
        exact sw_reti C0 rfl rfl
      · refine sw_go C0 2 (pc' := 42) (lv' := [(0, .ref (G 2)), (1, .int a1), (2, .int a2), (3, .int a3), (4, .int a4), (5, .int v2)]) (st' := [.int (-1), .int a4]) rfl ?_
        refine sw_icmp_eq zFi C0 rfl (fun h19 => ?_) (fun h19 => ?_)
        · refine sw_go C0 4 (pc' := 62) (lv' := [(0, .ref (G 2)), (1, .int a1), (2, .int a2), (3, .int a3), (4, .int a4), (5, .int v2), (6, .int 1)]) (st' := [.ref (G 2)]) rfl ?_
          refine sw_getf C0 hK (o := 2) (j := 1) (v := .ref (G 13)) (by decide) rfl i_Pat (by decide) wd_1_61 rfl rfl ?_
          refine sw_go C0 1 (pc' := 66) (lv' := [(0, .ref (G 2)), (1, .int a1), (2, .int a2), (3, .int a3), (4, .int a4), (5, .int v2), (6, .int 1)]) (st' := [.int a2, .ref (G 13)]) rfl ?_
          refine sw_ci zFi (As := [.int a2]) (rest := []) C0 hK hA yk_Row_add (c_Row_add 2 (by decide) a2) wd_2_152 rfl rfl ⟨by rw [hf]; decide, by rw [hlo]; decide⟩ (Nat.le_of_ble_eq_true rfl) (zrc_row (k := 2) hK (by decide)) (fun S20 v21 hv21 => ?_)
          refine sw_go C0 2 (pc' := 71) (lv' := [(0, .ref (G 2)), (1, .int a1), (2, .int a2), (3, .int a3), (4, .int a4), (5, .int v2), (6, .int 1)]) (st' := [.ref (G 2)]) rfl ?_
          refine sw_getf C0 hK (o := 2) (j := 2) (v := .ref (G 14)) (by decide) rfl i_Pat (by decide) wd_1_62 rfl rfl ?_
          refine sw_go C0 1 (pc' := 75) (lv' := [(0, .ref (G 2)), (1, .int a1), (2, .int a2), (3, .int a3), (4, .int a4), (5, .int v2), (6, .int 1)]) (st' := [.int a3, .ref (G 14)]) rfl ?_
          refine sw_ci zFi (As := [.int a3]) (rest := []) C0 hK hA yk_Row_add (c_Row_add 3 (by decide) a3) wd_2_152 rfl rfl ⟨by rw [hf]; decide, by rw [hlo]; decide⟩ (Nat.le_of_ble_eq_true rfl) (zrc_row (k := 3) hK (by decide)) (fun S22 v23 hv23 => ?_)
          refine sw_go C0 2 (pc' := 80) (lv' := [(0, .ref (G 2)), (1, .int a1), (2, .int a2), (3, .int a3), (4, .int a4), (5, .int v2), (6, .int 1)]) (st' := [.ref (G 2)]) rfl ?_
          refine sw_getf C0 hK (o := 2) (j := 3) (v := .ref (G 15)) (by decide) rfl i_Pat (by decide) wd_1_63 rfl rfl ?_
          refine sw_go C0 1 (pc' := 85) (lv' := [(0, .ref (G 2)), (1, .int a1), (2, .int a2), (3, .int a3), (4, .int a4), (5, .int v2), (6, .int 1)]) (st' := [.int a4, .ref (G 15)]) rfl ?_
          refine sw_ci zFi (As := [.int a4]) (rest := []) C0 hK hA yk_Row_add (c_Row_add 4 (by decide) a4) wd_2_152 rfl rfl ⟨by rw [hf]; decide, by rw [hlo]; decide⟩ (Nat.le_of_ble_eq_true rfl) (zrc_row (k := 4) hK (by decide)) (fun S24 v25 hv25 => ?_)
          refine sw_go C0 2 (pc' := 90) (lv' := [(0, .ref (G 2)), (1, .int a1), (2, .int a2), (3, .int a3), (4, .int a4), (5, .int v2), (6, .int 1)]) (st' := [.ref (G 2)]) rfl ?_
          refine sw_getf C0 hK (o := 2) (j := 4) (v := .ref (G 16)) (by decide) rfl i_Pat (by decide) wd_1_64 rfl rfl ?_
          refine sw_go C0 1 (pc' := 94) (lv' := [(0, .ref (G 2)), (1, .int a1), (2, .int a2), (3, .int a3), (4, .int a4), (5, .int v2), (6, .int 1)]) (st' := [.int 0, .ref (G 16)]) rfl ?_
          refine sw_ci zFi (As := [.int 0]) (rest := []) C0 hK hA yk_Row_add (c_Row_add 5 (by decide) 0) wd_2_152 rfl rfl ⟨by rw [hf]; decide, by rw [hlo]; decide⟩ (Nat.le_of_ble_eq_true rfl) (zrc_row (k := 5) hK (by decide)) (fun S26 v27 hv27 => ?_)
          refine sw_go C0 2 (pc' := 99) (lv' := [(0, .ref (G 2)), (1, .int a1), (2, .int a2), (3, .int a3), (4, .int a4), (5, .int v2), (6, .int 1)]) (st' := [.ref (G 2)]) rfl ?_
          refine sw_getf C0 hK (o := 2) (j := 5) (v := .ref (G 17)) (by decide) rfl i_Pat (by decide) wd_1_65 rfl rfl ?_
          refine sw_go C0 1 (pc' := 104) (lv' := [(0, .ref (G 2)), (1, .int a1), (2, .int a2), (3, .int a3), (4, .int a4), (5, .int v2), (6, .int 1)]) (st' := [.int v2, .ref (G 17)]) rfl ?_
          refine sw_ci zFi (As := [.int v2]) (rest := []) C0 hK hA yk_Row_add (c_Row_add 6 (by decide) v2) wd_2_152 rfl rfl ⟨by rw [hf]; decide, by rw [hlo]; decide⟩ (Nat.le_of_ble_eq_true rfl) (zrc_row (k := 6) hK (by decide)) (fun S28 v29 hv29 => ?_)
          refine sw_go C0 2 (pc' := 109) (lv' := [(0, .ref (G 2)), (1, .int a1), (2, .int a2), (3, .int a3), (4, .int a4), (5, .int v2), (6, .int 1)]) (st' := [.ref (G 2)]) rfl ?_
          refine sw_getf C0 hK (o := 2) (j := 6) (v := .ref (G 18)) (by decide) rfl i_Pat (by decide) wd_1_66 rfl rfl ?_
          refine sw_go C0 1 (pc' := 114) (lv' := [(0, .ref (G 2)), (1, .int a1), (2, .int a2), (3, .int a3), (4, .int a4), (5, .int v2), (6, .int 1)]) (st' := [.int 1, .ref (G 18)]) rfl ?_
          refine sw_if_eqF C0 rfl (by decide) ?_
          refine sw_go C0 2 (pc' := 122) (lv' := [(0, .ref (G 2)), (1, .int a1), (2, .int a2), (3, .int a3), (4, .int a4), (5, .int v2), (6, .int 1)]) (st' := [.int 1, .ref (G 18)]) rfl ?_
          refine sw_ci zFi (As := [.int 1]) (rest := []) C0 hK hA yk_Row_add (c_Row_add 7 (by decide) 1) wd_2_152 rfl rfl ⟨by rw [hf]; decide, by rw [hlo]; decide⟩ (Nat.le_of_ble_eq_true rfl) (zrc_row (k := 7) hK (by decide)) (fun S30 v31 hv31 => ?_)
          refine sw_go C0 2 (pc' := 127) (lv' := [(0, .ref (G 2)), (1, .int a1), (2, .int a2), (3, .int a3), (4, .int a4), (5, .int v2), (6, .int 1)]) (st' := [.ref (G 2)]) rfl ?_
          refine sw_getf C0 hK (o := 2) (j := 0) (v := .ref (G 12)) (by decide) rfl i_Pat (by decide) wd_1_60 rfl rfl ?_
          refine sw_go C0 1 (pc' := 131) (lv' := [(0, .ref (G 2)), (1, .int a1), (2, .int a2), (3, .int a3), (4, .int a4), (5, .int v2), (6, .int 1)]) (st' := [.int a1, .ref (G 12)]) rfl ?_
          refine sw_ci zFi (As := [.int a1]) (rest := []) C0 hK hA yk_Row_add (c_Row_add 1 (by decide) a1) wd_2_152 rfl rfl ⟨by rw [hf]; decide, by rw [hlo]; decide⟩ (Nat.le_of_ble_eq_true rfl) (zrc_row (k := 1) hK (by decide)) (fun S32 v33 hv33 => ?_)
          exact sw_reti C0 rfl rfl
        · refine sw_go C0 2 (pc' := 48) (lv' := [(0, .ref (G 2)), (1, .int a1), (2, .int a2), (3, .int a3), (4, .int a4), (5, .int v2)]) (st' := [.int a4, .ref (G 2)]) rfl ?_
          refine sw_cp (As := [.int a4]) (rest := []) C0 hK hA yk_Pat_isValue (c_Pat_isValue S a4) wd_2_148 rfl rfl ⟨by rw [hf]; decide, by rw [hlo]; decide⟩ (Nat.le_of_ble_eq_true rfl) (zrc_obj (o := 2) hK (by decide) rfl) ?_
          refine sw_if_eq zFi C0 rfl (fun h34 => ?_) (fun h34 => ?_)
          · refine sw_go C0 3 (pc' := 62) (lv' := [(0, .ref (G 2)), (1, .int a1), (2, .int a2), (3, .int a3), (4, .int a4), (5, .int v2), (6, .int 0)]) (st' := [.ref (G 2)]) rfl ?_
            refine sw_getf C0 hK (o := 2) (j := 1) (v := .ref (G 13)) (by decide) rfl i_Pat (by decide) wd_1_61 rfl rfl ?_
            refine sw_go C0 1 (pc' := 66) (lv' := [(0, .ref (G 2)), (1, .int a1), (2, .int a2), (3, .int a3), (4, .int a4), (5, .int v2), (6, .int 0)]) (st' := [.int a2, .ref (G 13)]) rfl ?_
            refine sw_ci zFi (As := [.int a2]) (rest := []) C0 hK hA yk_Row_add (c_Row_add 2 (by decide) a2) wd_2_152 rfl rfl ⟨by rw [hf]; decide, by rw [hlo]; decide⟩ (Nat.le_of_ble_eq_true rfl) (zrc_row (k := 2) hK (by decide)) (fun S35 v36 hv36 => ?_)
            refine sw_go C0 2 (pc' := 71) (lv' := [(0, .ref (G 2)), (1, .int a1), (2, .int a2), (3, .int a3), (4, .int a4), (5, .int v2), (6, .int 0)]) (st' := [.ref (G 2)]) rfl ?_
            refine sw_getf C0 hK (o := 2) (j := 2) (v := .ref (G 14)) (by decide) rfl i_Pat (by decide) wd_1_62 rfl rfl ?_
            refine sw_go C0 1 (pc' := 75) (lv' := [(0, .ref (G 2)), (1, .int a1), (2, .int a2), (3, .int a3), (4, .int a4), (5, .int v2), (6, .int 0)]) (st' := [.int a3, .ref (G 14)]) rfl ?_
            refine sw_ci zFi (As := [.int a3]) (rest := []) C0 hK hA yk_Row_add (c_Row_add 3 (by decide) a3) wd_2_152 rfl rfl ⟨by rw [hf]; decide, by rw [hlo]; decide⟩ (Nat.le_of_ble_eq_true rfl) (zrc_row (k := 3) hK (by decide)) (fun S37 v38 hv38 => ?_)
            refine sw_go C0 2 (pc' := 80) (lv' := [(0, .ref (G 2)), (1, .int a1), (2, .int a2), (3, .int a3), (4, .int a4), (5, .int v2), (6, .int 0)]) (st' := [.ref (G 2)]) rfl ?_
            refine sw_getf C0 hK (o := 2) (j := 3) (v := .ref (G 15)) (by decide) rfl i_Pat (by decide) wd_1_63 rfl rfl ?_
            refine sw_go C0 1 (pc' := 85) (lv' := [(0, .ref (G 2)), (1, .int a1), (2, .int a2), (3, .int a3), (4, .int a4), (5, .int v2), (6, .int 0)]) (st' := [.int a4, .ref (G 15)]) rfl ?_
            refine sw_ci zFi (As := [.int a4]) (rest := []) C0 hK hA yk_Row_add (c_Row_add 4 (by decide) a4) wd_2_152 rfl rfl ⟨by rw [hf]; decide, by rw [hlo]; decide⟩ (Nat.le_of_ble_eq_true rfl) (zrc_row (k := 4) hK (by decide)) (fun S39 v40 hv40 => ?_)
            refine sw_go C0 2 (pc' := 90) (lv' := [(0, .ref (G 2)), (1, .int a1), (2, .int a2), (3, .int a3), (4, .int a4), (5, .int v2), (6, .int 0)]) (st' := [.ref (G 2)]) rfl ?_
            refine sw_getf C0 hK (o := 2) (j := 4) (v := .ref (G 16)) (by decide) rfl i_Pat (by decide) wd_1_64 rfl rfl ?_
            refine sw_go C0 1 (pc' := 94) (lv' := [(0, .ref (G 2)), (1, .int a1), (2, .int a2), (3, .int a3), (4, .int a4), (5, .int v2), (6, .int 0)]) (st' := [.int 0, .ref (G 16)]) rfl ?_
            refine sw_ci zFi (As := [.int 0]) (rest := []) C0 hK hA yk_Row_add (c_Row_add 5 (by decide) 0) wd_2_152 rfl rfl ⟨by rw [hf]; decide, by rw [hlo]; decide⟩ (Nat.le_of_ble_eq_true rfl) (zrc_row (k := 5) hK (by decide)) (fun S41 v42 hv42 => ?_)
            refine sw_go C0 2 (pc' := 99) (lv' := [(0, .ref (G 2)), (1, .int a1), (2, .int a2), (3, .int a3), (4, .int a4), (5, .int v2), (6, .int 0)]) (st' := [.ref (G 2)]) rfl ?_
            refine sw_getf C0 hK (o := 2) (j := 5) (v := .ref (G 17)) (by decide) rfl i_Pat (by decide) wd_1_65 rfl rfl ?_
            refine sw_go C0 1 (pc' := 104) (lv' := [(0, .ref (G 2)), (1, .int a1), (2, .int a2), (3, .int a3), (4, .int a4), (5, .int v2), (6, .int 0)]) (st' := [.int v2, .ref (G 17)]) rfl ?_
            refine sw_ci zFi (As := [.int v2]) (rest := []) C0 hK hA yk_Row_add (c_Row_add 6 (by decide) v2) wd_2_152 rfl rfl ⟨by rw [hf]; decide, by rw [hlo]; decide⟩ (Nat.le_of_ble_eq_true rfl) (zrc_row (k := 6) hK (by decide)) (fun S43 v44 hv44 => ?_)
            refine sw_go C0 2 (pc' := 109) (lv' := [(0, .ref (G 2)), (1, .int a1), (2, .int a2), (3, .int a3), (4, .int a4), (5, .int v2), (6, .int 0)]) (st' := [.ref (G 2)]) rfl ?_
            refine sw_getf C0 hK (o := 2) (j := 6) (v := .ref (G 18)) (by decide) rfl i_Pat (by decide) wd_1_66 rfl rfl ?_
            refine sw_go C0 1 (pc' := 114) (lv' := [(0, .ref (G 2)), (1, .int a1), (2, .int a2), (3, .int a3), (4, .int a4), (5, .int v2), (6, .int 0)]) (st' := [.int 0, .ref (G 18)]) rfl ?_
            refine sw_if_eqT C0 rfl (by decide) ?_
            refine sw_go C0 1 (pc' := 122) (lv' := [(0, .ref (G 2)), (1, .int a1), (2, .int a2), (3, .int a3), (4, .int a4), (5, .int v2), (6, .int 0)]) (st' := [.int 0, .ref (G 18)]) rfl ?_
            refine sw_ci zFi (As := [.int 0]) (rest := []) C0 hK hA yk_Row_add (c_Row_add 7 (by decide) 0) wd_2_152 rfl rfl ⟨by rw [hf]; decide, by rw [hlo]; decide⟩ (Nat.le_of_ble_eq_true rfl) (zrc_row (k := 7) hK (by decide)) (fun S45 v46 hv46 => ?_)
            refine sw_go C0 2 (pc' := 127) (lv' := [(0, .ref (G 2)), (1, .int a1), (2, .int a2), (3, .int a3), (4, .int a4), (5, .int v2), (6, .int 0)]) (st' := [.ref (G 2)]) rfl ?_
            refine sw_getf C0 hK (o := 2) (j := 0) (v := .ref (G 12)) (by decide) rfl i_Pat (by decide) wd_1_60 rfl rfl ?_
            refine sw_go C0 1 (pc' := 131) (lv' := [(0, .ref (G 2)), (1, .int a1), (2, .int a2), (3, .int a3), (4, .int a4), (5, .int v2), (6, .int 0)]) (st' := [.int a1, .ref (G 12)]) rfl ?_
            refine sw_ci zFi (As := [.int a1]) (rest := []) C0 hK hA yk_Row_add (c_Row_add 1 (by decide) a1) wd_2_152 rfl rfl ⟨by rw [hf]; decide, by rw [hlo]; decide⟩ (Nat.le_of_ble_eq_true rfl) (zrc_row (k := 1) hK (by decide)) (fun S47 v48 hv48 => ?_)
            exact sw_reti C0 rfl rfl
          · refine sw_go C0 4 (pc' := 62) (lv' := [(0, .ref (G 2)), (1, .int a1), (2, .int a2), (3, .int a3), (4, .int a4), (5, .int v2), (6, .int 1)]) (st' := [.ref (G 2)]) rfl ?_
            refine sw_getf C0 hK (o := 2) (j := 1) (v := .ref (G 13)) (by decide) rfl i_Pat (by decide) wd_1_61 rfl rfl ?_
            refine sw_go C0 1 (pc' := 66) (lv' := [(0, .ref (G 2)), (1, .int a1), (2, .int a2), (3, .int a3), (4, .int a4), (5, .int v2), (6, .int 1)]) (st' := [.int a2, .ref (G 13)]) rfl ?_
            refine sw_ci zFi (As := [.int a2]) (rest := []) C0 hK hA yk_Row_add (c_Row_add 2 (by decide) a2) wd_2_152 rfl rfl ⟨by rw [hf]; decide, by rw [hlo]; decide⟩ (Nat.le_of_ble_eq_true rfl) (zrc_row (k := 2) hK (by decide)) (fun S49 v50 hv50 => ?_)
            refine sw_go C0 2 (pc' := 71) (lv' := [(0, .ref (G 2)), (1, .int a1), (2, .int a2), (3, .int a3), (4, .int a4), (5, .int v2), (6, .int 1)]) (st' := [.ref (G 2)]) rfl ?_
            refine sw_getf C0 hK (o := 2) (j := 2) (v := .ref (G 14)) (by decide) rfl i_Pat (by decide) wd_1_62 rfl rfl ?_
            refine sw_go C0 1 (pc' := 75) (lv' := [(0, .ref (G 2)), (1, .int a1), (2, .int a2), (3, .int a3), (4, .int a4), (5, .int v2), (6, .int 1)]) (st' := [.int a3, .ref (G 14)]) rfl ?_
            refine sw_ci zFi (As := [.int a3]) (rest := []) C0 hK hA yk_Row_add (c_Row_add 3 (by decide) a3) wd_2_152 rfl rfl ⟨by rw [hf]; decide, by rw [hlo]; decide⟩ (Nat.le_of_ble_eq_true rfl) (zrc_row (k := 3) hK (by decide)) (fun S51 v52 hv52 => ?_)
            refine sw_go C0 2 (pc' := 80) (lv' := [(0, .ref (G 2)), (1, .int a1), (2, .int a2), (3, .int a3), (4, .int a4), (5, .int v2), (6, .int 1)]) (st' := [.ref (G 2)]) rfl ?_
            refine sw_getf C0 hK (o := 2) (j := 3) (v := .ref (G 15)) (by decide) rfl i_Pat (by decide) wd_1_63 rfl rfl ?_
            refine sw_go C0 1 (pc' := 85) (lv' := [(0, .ref (G 2)), (1, .int a1), (2, .int a2), (3, .int a3), (4, .int a4), (5, .int v2), (6, .int 1)]) (st' := [.int a4, .ref (G 15)]) rfl ?_
            refine sw_ci zFi (As := [.int a4]) (rest := []) C0 hK hA yk_Row_add (c_Row_add 4 (by decide) a4) wd_2_152 rfl rfl ⟨by rw [hf]; decide, by rw [hlo]; decide⟩ (Nat.le_of_ble_eq_true rfl) (zrc_row (k := 4) hK (by decide)) (fun S53 v54 hv54 => ?_)
            refine sw_go C0 2 (pc' := 90) (lv' := [(0, .ref (G 2)), (1, .int a1), (2, .int a2), (3, .int a3), (4, .int a4), (5, .int v2), (6, .int 1)]) (st' := [.ref (G 2)]) rfl ?_
            refine sw_getf C0 hK (o := 2) (j := 4) (v := .ref (G 16)) (by decide) rfl i_Pat (by decide) wd_1_64 rfl rfl ?_
            refine sw_go C0 1 (pc' := 94) (lv' := [(0, .ref (G 2)), (1, .int a1), (2, .int a2), (3, .int a3), (4, .int a4), (5, .int v2), (6, .int 1)]) (st' := [.int 0, .ref (G 16)]) rfl ?_
            refine sw_ci zFi (As := [.int 0]) (rest := []) C0 hK hA yk_Row_add (c_Row_add 5 (by decide) 0) wd_2_152 rfl rfl ⟨by rw [hf]; decide, by rw [hlo]; decide⟩ (Nat.le_of_ble_eq_true rfl) (zrc_row (k := 5) hK (by decide)) (fun S55 v56 hv56 => ?_)
            refine sw_go C0 2 (pc' := 99) (lv' := [(0, .ref (G 2)), (1, .int a1), (2, .int a2), (3, .int a3), (4, .int a4), (5, .int v2), (6, .int 1)]) (st' := [.ref (G 2)]) rfl ?_
            refine sw_getf C0 hK (o := 2) (j := 5) (v := .ref (G 17)) (by decide) rfl i_Pat (by decide) wd_1_65 rfl rfl ?_
            refine sw_go C0 1 (pc' := 104) (lv' := [(0, .ref (G 2)), (1, .int a1), (2, .int a2), (3, .int a3), (4, .int a4), (5, .int v2), (6, .int 1)]) (st' := [.int v2, .ref (G 17)]) rfl ?_
            refine sw_ci zFi (As := [.int v2]) (rest := []) C0 hK hA yk_Row_add (c_Row_add 6 (by decide) v2) wd_2_152 rfl rfl ⟨by rw [hf]; decide, by rw [hlo]; decide⟩ (Nat.le_of_ble_eq_true rfl) (zrc_row (k := 6) hK (by decide)) (fun S57 v58 hv58 => ?_)
            refine sw_go C0 2 (pc' := 109) (lv' := [(0, .ref (G 2)), (1, .int a1), (2, .int a2), (3, .int a3), (4, .int a4), (5, .int v2), (6, .int 1)]) (st' := [.ref (G 2)]) rfl ?_
            refine sw_getf C0 hK (o := 2) (j := 6) (v := .ref (G 18)) (by decide) rfl i_Pat (by decide) wd_1_66 rfl rfl ?_
            refine sw_go C0 1 (pc' := 114) (lv' := [(0, .ref (G 2)), (1, .int a1), (2, .int a2), (3, .int a3), (4, .int a4), (5, .int v2), (6, .int 1)]) (st' := [.int 1, .ref (G 18)]) rfl ?_
            refine sw_if_eqF C0 rfl (by decide) ?_
            refine sw_go C0 2 (pc' := 122) (lv' := [(0, .ref (G 2)), (1, .int a1), (2, .int a2), (3, .int a3), (4, .int a4), (5, .int v2), (6, .int 1)]) (st' := [.int 1, .ref (G 18)]) rfl ?_
            refine sw_ci zFi (As := [.int 1]) (rest := []) C0 hK hA yk_Row_add (c_Row_add 7 (by decide) 1) wd_2_152 rfl rfl ⟨by rw [hf]; decide, by rw [hlo]; decide⟩ (Nat.le_of_ble_eq_true rfl) (zrc_row (k := 7) hK (by decide)) (fun S59 v60 hv60 => ?_)
            refine sw_go C0 2 (pc' := 127) (lv' := [(0, .ref (G 2)), (1, .int a1), (2, .int a2), (3, .int a3), (4, .int a4), (5, .int v2), (6, .int 1)]) (st' := [.ref (G 2)]) rfl ?_
            refine sw_getf C0 hK (o := 2) (j := 0) (v := .ref (G 12)) (by decide) rfl i_Pat (by decide) wd_1_60 rfl rfl ?_
            refine sw_go C0 1 (pc' := 131) (lv' := [(0, .ref (G 2)), (1, .int a1), (2, .int a2), (3, .int a3), (4, .int a4), (5, .int v2), (6, .int 1)]) (st' := [.int a1, .ref (G 12)]) rfl ?_
            refine sw_ci zFi (As := [.int a1]) (rest := []) C0 hK hA yk_Row_add (c_Row_add 1 (by decide) a1) wd_2_152 rfl rfl ⟨by rw [hf]; decide, by rw [hlo]; decide⟩ (Nat.le_of_ble_eq_true rfl) (zrc_row (k := 1) hK (by decide)) (fun S61 v62 hv62 => ?_)
            exact sw_reti C0 rfl rfl
    · refine sw_go C0 1 (pc' := 34) (lv' := [(0, .ref (G 2)), (1, .int a1), (2, .int a2), (3, .int a3), (4, .int a4), (5, .int v2)]) (st' := [.int (-2)]) rfl ?_
      exact sw_reti C0 rfl rfl
  · refine sw_go C0 5 (pc' := 26) (lv' := [(0, .ref (G 2)), (1, .int a1), (2, .int a2), (3, .int a3), (4, .int a4), (5, .int 1)]) (st' := [.int 1, .ref (G 2)]) rfl ?_
    refine sw_cp (As := [.int 1]) (rest := []) C0 hK hA yk_Pat_hasRoom (c_Pat_hasRoom S 1) wd_2_143 rfl rfl ⟨by rw [hf]; decide, by rw [hlo]; decide⟩ (Nat.le_of_ble_eq_true rfl) (zrc_obj (o := 2) hK (by decide) rfl) ?_
    refine sw_if_ne zFi C0 rfl (fun h63 => ?_) (fun h63 => ?_)
    · refine sw_go C0 1 (pc' := 36) (lv' := [(0, .ref (G 2)), (1, .int a1), (2, .int a2), (3, .int a3), (4, .int a4), (5, .int 1)]) (st' := [.int a1]) rfl ?_
      refine sw_if_eq zFi C0 rfl (fun h64 => ?_) (fun h64 => ?_)
      · refine sw_go C0 3 (pc' := 62) (lv' := [(0, .ref (G 2)), (1, .int a1), (2, .int a2), (3, .int a3), (4, .int a4), (5, .int 1), (6, .int 0)]) (st' := [.ref (G 2)]) rfl ?_
        refine sw_getf C0 hK (o := 2) (j := 1) (v := .ref (G 13)) (by decide) rfl i_Pat (by decide) wd_1_61 rfl rfl ?_
        refine sw_go C0 1 (pc' := 66) (lv' := [(0, .ref (G 2)), (1, .int a1), (2, .int a2), (3, .int a3), (4, .int a4), (5, .int 1), (6, .int 0)]) (st' := [.int a2, .ref (G 13)]) rfl ?_
        refine sw_ci zFi (As := [.int a2]) (rest := []) C0 hK hA yk_Row_add (c_Row_add 2 (by decide) a2) wd_2_152 rfl rfl ⟨by rw [hf]; decide, by rw [hlo]; decide⟩ (Nat.le_of_ble_eq_true rfl) (zrc_row (k := 2) hK (by decide)) (fun S65 v66 hv66 => ?_)
        refine sw_go C0 2 (pc' := 71) (lv' := [(0, .ref (G 2)), (1, .int a1), (2, .int a2), (3, .int a3), (4, .int a4), (5, .int 1), (6, .int 0)]) (st' := [.ref (G 2)]) rfl ?_
        refine sw_getf C0 hK (o := 2) (j := 2) (v := .ref (G 14)) (by decide) rfl i_Pat (by decide) wd_1_62 rfl rfl ?_
        refine sw_go C0 1 (pc' := 75) (lv' := [(0, .ref (G 2)), (1, .int a1), (2, .int a2), (3, .int a3), (4, .int a4), (5, .int 1), (6, .int 0)]) (st' := [.int a3, .ref (G 14)]) rfl ?_
        refine sw_ci zFi (As := [.int a3]) (rest := []) C0 hK hA yk_Row_add (c_Row_add 3 (by decide) a3) wd_2_152 rfl rfl ⟨by rw [hf]; decide, by rw [hlo]; decide⟩ (Nat.le_of_ble_eq_true rfl) (zrc_row (k := 3) hK (by decide)) (fun S67 v68 hv68 => ?_)
        refine sw_go C0 2 (pc' := 80) (lv' := [(0, .ref (G 2)), (1, .int a1), (2, .int a2), (3, .int a3), (4, .int a4), (5, .int 1), (6, .int 0)]) (st' := [.ref (G 2)]) rfl ?_
        refine sw_getf C0 hK (o := 2) (j := 3) (v := .ref (G 15)) (by decide) rfl i_Pat (by decide) wd_1_63 rfl rfl ?_
        refine sw_go C0 1 (pc' := 85) (lv' := [(0, .ref (G 2)), (1, .int a1), (2, .int a2), (3, .int a3), (4, .int a4), (5, .int 1), (6, .int 0)]) (st' := [.int a4, .ref (G 15)]) rfl ?_
        refine sw_ci zFi (As := [.int a4]) (rest := []) C0 hK hA yk_Row_add (c_Row_add 4 (by decide) a4) wd_2_152 rfl rfl ⟨by rw [hf]; decide, by rw [hlo]; decide⟩ (Nat.le_of_ble_eq_true rfl) (zrc_row (k := 4) hK (by decide)) (fun S69 v70 hv70 => ?_)
        refine sw_go C0 2 (pc' := 90) (lv' := [(0, .ref (G 2)), (1, .int a1), (2, .int a2), (3, .int a3), (4, .int a4), (5, .int 1), (6, .int 0)]) (st' := [.ref (G 2)]) rfl ?_
        refine sw_getf C0 hK (o := 2) (j := 4) (v := .ref (G 16)) (by decide) rfl i_Pat (by decide) wd_1_64 rfl rfl ?_
        refine sw_go C0 1 (pc' := 94) (lv' := [(0, .ref (G 2)), (1, .int a1), (2, .int a2), (3, .int a3), (4, .int a4), (5, .int 1), (6, .int 0)]) (st' := [.int 0, .ref (G 16)]) rfl ?_
        refine sw_ci zFi (As := [.int 0]) (rest := []) C0 hK hA yk_Row_add (c_Row_add 5 (by decide) 0) wd_2_152 rfl rfl ⟨by rw [hf]; decide, by rw [hlo]; decide⟩ (Nat.le_of_ble_eq_true rfl) (zrc_row (k := 5) hK (by decide)) (fun S71 v72 hv72 => ?_)
        refine sw_go C0 2 (pc' := 99) (lv' := [(0, .ref (G 2)), (1, .int a1), (2, .int a2), (3, .int a3), (4, .int a4), (5, .int 1), (6, .int 0)]) (st' := [.ref (G 2)]) rfl ?_
        refine sw_getf C0 hK (o := 2) (j := 5) (v := .ref (G 17)) (by decide) rfl i_Pat (by decide) wd_1_65 rfl rfl ?_
        refine sw_go C0 1 (pc' := 104) (lv' := [(0, .ref (G 2)), (1, .int a1), (2, .int a2), (3, .int a3), (4, .int a4), (5, .int 1), (6, .int 0)]) (st' := [.int 1, .ref (G 17)]) rfl ?_
        refine sw_ci zFi (As := [.int 1]) (rest := []) C0 hK hA yk_Row_add (c_Row_add 6 (by decide) 1) wd_2_152 rfl rfl ⟨by rw [hf]; decide, by rw [hlo]; decide⟩ (Nat.le_of_ble_eq_true rfl) (zrc_row (k := 6) hK (by decide)) (fun S73 v74 hv74 => ?_)
        refine sw_go C0 2 (pc' := 109) (lv' := [(0, .ref (G 2)), (1, .int a1), (2, .int a2), (3, .int a3), (4, .int a4), (5, .int 1), (6, .int 0)]) (st' := [.ref (G 2)]) rfl ?_
        refine sw_getf C0 hK (o := 2) (j := 6) (v := .ref (G 18)) (by decide) rfl i_Pat (by decide) wd_1_66 rfl rfl ?_
        refine sw_go C0 1 (pc' := 114) (lv' := [(0, .ref (G 2)), (1, .int a1), (2, .int a2), (3, .int a3), (4, .int a4), (5, .int 1), (6, .int 0)]) (st' := [.int 0, .ref (G 18)]) rfl ?_
        refine sw_if_eqT C0 rfl (by decide) ?_
        refine sw_go C0 1 (pc' := 122) (lv' := [(0, .ref (G 2)), (1, .int a1), (2, .int a2), (3, .int a3), (4, .int a4), (5, .int 1), (6, .int 0)]) (st' := [.int 0, .ref (G 18)]) rfl ?_
        refine sw_ci zFi (As := [.int 0]) (rest := []) C0 hK hA yk_Row_add (c_Row_add 7 (by decide) 0) wd_2_152 rfl rfl ⟨by rw [hf]; decide, by rw [hlo]; decide⟩ (Nat.le_of_ble_eq_true rfl) (zrc_row (k := 7) hK (by decide)) (fun S75 v76 hv76 => ?_)
        refine sw_go C0 2 (pc' := 127) (lv' := [(0, .ref (G 2)), (1, .int a1), (2, .int a2), (3, .int a3), (4, .int a4), (5, .int 1), (6, .int 0)]) (st' := [.ref (G 2)]) rfl ?_
        refine sw_getf C0 hK (o := 2) (j := 0) (v := .ref (G 12)) (by decide) rfl i_Pat (by decide) wd_1_60 rfl rfl ?_
        refine sw_go C0 1 (pc' := 131) (lv' := [(0, .ref (G 2)), (1, .int a1), (2, .int a2), (3, .int a3), (4, .int a4), (5, .int 1), (6, .int 0)]) (st' := [.int a1, .ref (G 12)]) rfl ?_
        refine sw_ci zFi (As := [.int a1]) (rest := []) C0 hK hA yk_Row_add (c_Row_add 1 (by decide) a1) wd_2_152 rfl rfl ⟨by rw [hf]; decide, by rw [hlo]; decide⟩ (Nat.le_of_ble_eq_true rfl) (zrc_row (k := 1) hK (by decide)) (fun S77 v78 hv78 => ?_)
        exact sw_reti C0 rfl rfl
      · refine sw_go C0 2 (pc' := 42) (lv' := [(0, .ref (G 2)), (1, .int a1), (2, .int a2), (3, .int a3), (4, .int a4), (5, .int 1)]) (st' := [.int (-1), .int a4]) rfl ?_
        refine sw_icmp_eq zFi C0 rfl (fun h79 => ?_) (fun h79 => ?_)
        · refine sw_go C0 4 (pc' := 62) (lv' := [(0, .ref (G 2)), (1, .int a1), (2, .int a2), (3, .int a3), (4, .int a4), (5, .int 1), (6, .int 1)]) (st' := [.ref (G 2)]) rfl ?_
          refine sw_getf C0 hK (o := 2) (j := 1) (v := .ref (G 13)) (by decide) rfl i_Pat (by decide) wd_1_61 rfl rfl ?_
          refine sw_go C0 1 (pc' := 66) (lv' := [(0, .ref (G 2)), (1, .int a1), (2, .int a2), (3, .int a3), (4, .int a4), (5, .int 1), (6, .int 1)]) (st' := [.int a2, .ref (G 13)]) rfl ?_
          refine sw_ci zFi (As := [.int a2]) (rest := []) C0 hK hA yk_Row_add (c_Row_add 2 (by decide) a2) wd_2_152 rfl rfl ⟨by rw [hf]; decide, by rw [hlo]; decide⟩ (Nat.le_of_ble_eq_true rfl) (zrc_row (k := 2) hK (by decide)) (fun S80 v81 hv81 => ?_)
          refine sw_go C0 2 (pc' := 71) (lv' := [(0, .ref (G 2)), (1, .int a1), (2, .int a2), (3, .int a3), (4, .int a4), (5, .int 1), (6, .int 1)]) (st' := [.ref (G 2)]) rfl ?_
          refine sw_getf C0 hK (o := 2) (j := 2) (v := .ref (G 14)) (by decide) rfl i_Pat (by decide) wd_1_62 rfl rfl ?_
          refine sw_go C0 1 (pc' := 75) (lv' := [(0, .ref (G 2)), (1, .int a1), (2, .int a2), (3, .int a3), (4, .int a4), (5, .int 1), (6, .int 1)]) (st' := [.int a3, .ref (G 14)]) rfl ?_
          refine sw_ci zFi (As := [.int a3]) (rest := []) C0 hK hA yk_Row_add (c_Row_add 3 (by decide) a3) wd_2_152 rfl rfl ⟨by rw [hf]; decide, by rw [hlo]; decide⟩ (Nat.le_of_ble_eq_true rfl) (zrc_row (k := 3) hK (by decide)) (fun S82 v83 hv83 => ?_)
          refine sw_go C0 2 (pc' := 80) (lv' := [(0, .ref (G 2)), (1, .int a1), (2, .int a2), (3, .int a3), (4, .int a4), (5, .int 1), (6, .int 1)]) (st' := [.ref (G 2)]) rfl ?_
          refine sw_getf C0 hK (o := 2) (j := 3) (v := .ref (G 15)) (by decide) rfl i_Pat (by decide) wd_1_63 rfl rfl ?_
          refine sw_go C0 1 (pc' := 85) (lv' := [(0, .ref (G 2)), (1, .int a1), (2, .int a2), (3, .int a3), (4, .int a4), (5, .int 1), (6, .int 1)]) (st' := [.int a4, .ref (G 15)]) rfl ?_
          refine sw_ci zFi (As := [.int a4]) (rest := []) C0 hK hA yk_Row_add (c_Row_add 4 (by decide) a4) wd_2_152 rfl rfl ⟨by rw [hf]; decide, by rw [hlo]; decide⟩ (Nat.le_of_ble_eq_true rfl) (zrc_row (k := 4) hK (by decide)) (fun S84 v85 hv85 => ?_)
          refine sw_go C0 2 (pc' := 90) (lv' := [(0, .ref (G 2)), (1, .int a1), (2, .int a2), (3, .int a3), (4, .int a4), (5, .int 1), (6, .int 1)]) (st' := [.ref (G 2)]) rfl ?_
          refine sw_getf C0 hK (o := 2) (j := 4) (v := .ref (G 16)) (by decide) rfl i_Pat (by decide) wd_1_64 rfl rfl ?_
          refine sw_go C0 1 (pc' := 94) (lv' := [(0, .ref (G 2)), (1, .int a1), (2, .int a2), (3, .int a3), (4, .int a4), (5, .int 1), (6, .int 1)]) (st' := [.int 0, .ref (G 16)]) rfl ?_
          refine sw_ci zFi (As := [.int 0]) (rest := []) C0 hK hA yk_Row_add (c_Row_add 5 (by decide) 0) wd_2_152 rfl rfl ⟨by rw [hf]; decide, by rw [hlo]; decide⟩ (Nat.le_of_ble_eq_true rfl) (zrc_row (k := 5) hK (by decide)) (fun S86 v87 hv87 => ?_)
          refine sw_go C0 2 (pc' := 99) (lv' := [(0, .ref (G 2)), (1, .int a1), (2, .int a2), (3, .int a3), (4, .int a4), (5, .int 1), (6, .int 1)]) (st' := [.ref (G 2)]) rfl ?_
          refine sw_getf C0 hK (o := 2) (j := 5) (v := .ref (G 17)) (by decide) rfl i_Pat (by decide) wd_1_65 rfl rfl ?_
          refine sw_go C0 1 (pc' := 104) (lv' := [(0, .ref (G 2)), (1, .int a1), (2, .int a2), (3, .int a3), (4, .int a4), (5, .int 1), (6, .int 1)]) (st' := [.int 1, .ref (G 17)]) rfl ?_
          refine sw_ci zFi (As := [.int 1]) (rest := []) C0 hK hA yk_Row_add (c_Row_add 6 (by decide) 1) wd_2_152 rfl rfl ⟨by rw [hf]; decide, by rw [hlo]; decide⟩ (Nat.le_of_ble_eq_true rfl) (zrc_row (k := 6) hK (by decide)) (fun S88 v89 hv89 => ?_)
          refine sw_go C0 2 (pc' := 109) (lv' := [(0, .ref (G 2)), (1, .int a1), (2, .int a2), (3, .int a3), (4, .int a4), (5, .int 1), (6, .int 1)]) (st' := [.ref (G 2)]) rfl ?_
          refine sw_getf C0 hK (o := 2) (j := 6) (v := .ref (G 18)) (by decide) rfl i_Pat (by decide) wd_1_66 rfl rfl ?_
          refine sw_go C0 1 (pc' := 114) (lv' := [(0, .ref (G 2)), (1, .int a1), (2, .int a2), (3, .int a3), (4, .int a4), (5, .int 1), (6, .int 1)]) (st' := [.int 1, .ref (G 18)]) rfl ?_
          refine sw_if_eqF C0 rfl (by decide) ?_
          refine sw_go C0 2 (pc' := 122) (lv' := [(0, .ref (G 2)), (1, .int a1), (2, .int a2), (3, .int a3), (4, .int a4), (5, .int 1), (6, .int 1)]) (st' := [.int 1, .ref (G 18)]) rfl ?_
          refine sw_ci zFi (As := [.int 1]) (rest := []) C0 hK hA yk_Row_add (c_Row_add 7 (by decide) 1) wd_2_152 rfl rfl ⟨by rw [hf]; decide, by rw [hlo]; decide⟩ (Nat.le_of_ble_eq_true rfl) (zrc_row (k := 7) hK (by decide)) (fun S90 v91 hv91 => ?_)
          refine sw_go C0 2 (pc' := 127) (lv' := [(0, .ref (G 2)), (1, .int a1), (2, .int a2), (3, .int a3), (4, .int a4), (5, .int 1), (6, .int 1)]) (st' := [.ref (G 2)]) rfl ?_
          refine sw_getf C0 hK (o := 2) (j := 0) (v := .ref (G 12)) (by decide) rfl i_Pat (by decide) wd_1_60 rfl rfl ?_
          refine sw_go C0 1 (pc' := 131) (lv' := [(0, .ref (G 2)), (1, .int a1), (2, .int a2), (3, .int a3), (4, .int a4), (5, .int 1), (6, .int 1)]) (st' := [.int a1, .ref (G 12)]) rfl ?_
          refine sw_ci zFi (As := [.int a1]) (rest := []) C0 hK hA yk_Row_add (c_Row_add 1 (by decide) a1) wd_2_152 rfl rfl ⟨by rw [hf]; decide, by rw [hlo]; decide⟩ (Nat.le_of_ble_eq_true rfl) (zrc_row (k := 1) hK (by decide)) (fun S92 v93 hv93 => ?_)
          exact sw_reti C0 rfl rfl
        · refine sw_go C0 2 (pc' := 48) (lv' := [(0, .ref (G 2)), (1, .int a1), (2, .int a2), (3, .int a3), (4, .int a4), (5, .int 1)]) (st' := [.int a4, .ref (G 2)]) rfl ?_
          refine sw_cp (As := [.int a4]) (rest := []) C0 hK hA yk_Pat_isValue (c_Pat_isValue S a4) wd_2_148 rfl rfl ⟨by rw [hf]; decide, by rw [hlo]; decide⟩ (Nat.le_of_ble_eq_true rfl) (zrc_obj (o := 2) hK (by decide) rfl) ?_
          refine sw_if_eq zFi C0 rfl (fun h94 => ?_) (fun h94 => ?_)
          · refine sw_go C0 3 (pc' := 62) (lv' := [(0, .ref (G 2)), (1, .int a1), (2, .int a2), (3, .int a3), (4, .int a4), (5, .int 1), (6, .int 0)]) (st' := [.ref (G 2)]) rfl ?_
            refine sw_getf C0 hK (o := 2) (j := 1) (v := .ref (G 13)) (by decide) rfl i_Pat (by decide) wd_1_61 rfl rfl ?_
            refine sw_go C0 1 (pc' := 66) (lv' := [(0, .ref (G 2)), (1, .int a1), (2, .int a2), (3, .int a3), (4, .int a4), (5, .int 1), (6, .int 0)]) (st' := [.int a2, .ref (G 13)]) rfl ?_
            refine sw_ci zFi (As := [.int a2]) (rest := []) C0 hK hA yk_Row_add (c_Row_add 2 (by decide) a2) wd_2_152 rfl rfl ⟨by rw [hf]; decide, by rw [hlo]; decide⟩ (Nat.le_of_ble_eq_true rfl) (zrc_row (k := 2) hK (by decide)) (fun S95 v96 hv96 => ?_)
            refine sw_go C0 2 (pc' := 71) (lv' := [(0, .ref (G 2)), (1, .int a1), (2, .int a2), (3, .int a3), (4, .int a4), (5, .int 1), (6, .int 0)]) (st' := [.ref (G 2)]) rfl ?_
            refine sw_getf C0 hK (o := 2) (j := 2) (v := .ref (G 14)) (by decide) rfl i_Pat (by decide) wd_1_62 rfl rfl ?_
            refine sw_go C0 1 (pc' := 75) (lv' := [(0, .ref (G 2)), (1, .int a1), (2, .int a2), (3, .int a3), (4, .int a4), (5, .int 1), (6, .int 0)]) (st' := [.int a3, .ref (G 14)]) rfl ?_
            refine sw_ci zFi (As := [.int a3]) (rest := []) C0 hK hA yk_Row_add (c_Row_add 3 (by decide) a3) wd_2_152 rfl rfl ⟨by rw [hf]; decide, by rw [hlo]; decide⟩ (Nat.le_of_ble_eq_true rfl) (zrc_row (k := 3) hK (by decide)) (fun S97 v98 hv98 => ?_)
            refine sw_go C0 2 (pc' := 80) (lv' := [(0, .ref (G 2)), (1, .int a1), (2, .int a2), (3, .int a3), (4, .int a4), (5, .int 1), (6, .int 0)]) (st' := [.ref (G 2)]) rfl ?_
            refine sw_getf C0 hK (o := 2) (j := 3) (v := .ref (G 15)) (by decide) rfl i_Pat (by decide) wd_1_63 rfl rfl ?_
            refine sw_go C0 1 (pc' := 85) (lv' := [(0, .ref (G 2)), (1, .int a1), (2, .int a2), (3, .int a3), (4, .int a4), (5, .int 1), (6, .int 0)]) (st' := [.int a4, .ref (G 15)]) rfl ?_
            refine sw_ci zFi (As := [.int a4]) (rest := []) C0 hK hA yk_Row_add (c_Row_add 4 (by decide) a4) wd_2_152 rfl rfl ⟨by rw [hf]; decide, by rw [hlo]; decide⟩ (Nat.le_of_ble_eq_true rfl) (zrc_row (k := 4) hK (by decide)) (fun S99 v100 hv100 => ?_)
            refine sw_go C0 2 (pc' := 90) (lv' := [(0, .ref (G 2)), (1, .int a1), (2, .int a2), (3, .int a3), (4, .int a4), (5, .int 1), (6, .int 0)]) (st' := [.ref (G 2)]) rfl ?_
            refine sw_getf C0 hK (o := 2) (j := 4) (v := .ref (G 16)) (by decide) rfl i_Pat (by decide) wd_1_64 rfl rfl ?_
            refine sw_go C0 1 (pc' := 94) (lv' := [(0, .ref (G 2)), (1, .int a1), (2, .int a2), (3, .int a3), (4, .int a4), (5, .int 1), (6, .int 0)]) (st' := [.int 0, .ref (G 16)]) rfl ?_
            refine sw_ci zFi (As := [.int 0]) (rest := []) C0 hK hA yk_Row_add (c_Row_add 5 (by decide) 0) wd_2_152 rfl rfl ⟨by rw [hf]; decide, by rw [hlo]; decide⟩ (Nat.le_of_ble_eq_true rfl) (zrc_row (k := 5) hK (by decide)) (fun S101 v102 hv102 => ?_)
            refine sw_go C0 2 (pc' := 99) (lv' := [(0, .ref (G 2)), (1, .int a1), (2, .int a2), (3, .int a3), (4, .int a4), (5, .int 1), (6, .int 0)]) (st' := [.ref (G 2)]) rfl ?_
            refine sw_getf C0 hK (o := 2) (j := 5) (v := .ref (G 17)) (by decide) rfl i_Pat (by decide) wd_1_65 rfl rfl ?_
            refine sw_go C0 1 (pc' := 104) (lv' := [(0, .ref (G 2)), (1, .int a1), (2, .int a2), (3, .int a3), (4, .int a4), (5, .int 1), (6, .int 0)]) (st' := [.int 1, .ref (G 17)]) rfl ?_
            refine sw_ci zFi (As := [.int 1]) (rest := []) C0 hK hA yk_Row_add (c_Row_add 6 (by decide) 1) wd_2_152 rfl rfl ⟨by rw [hf]; decide, by rw [hlo]; decide⟩ (Nat.le_of_ble_eq_true rfl) (zrc_row (k := 6) hK (by decide)) (fun S103 v104 hv104 => ?_)
            refine sw_go C0 2 (pc' := 109) (lv' := [(0, .ref (G 2)), (1, .int a1), (2, .int a2), (3, .int a3), (4, .int a4), (5, .int 1), (6, .int 0)]) (st' := [.ref (G 2)]) rfl ?_
            refine sw_getf C0 hK (o := 2) (j := 6) (v := .ref (G 18)) (by decide) rfl i_Pat (by decide) wd_1_66 rfl rfl ?_
            refine sw_go C0 1 (pc' := 114) (lv' := [(0, .ref (G 2)), (1, .int a1), (2, .int a2), (3, .int a3), (4, .int a4), (5, .int 1), (6, .int 0)]) (st' := [.int 0, .ref (G 18)]) rfl ?_
            refine sw_if_eqT C0 rfl (by decide) ?_
            refine sw_go C0 1 (pc' := 122) (lv' := [(0, .ref (G 2)), (1, .int a1), (2, .int a2), (3, .int a3), (4, .int a4), (5, .int 1), (6, .int 0)]) (st' := [.int 0, .ref (G 18)]) rfl ?_
            refine sw_ci zFi (As := [.int 0]) (rest := []) C0 hK hA yk_Row_add (c_Row_add 7 (by decide) 0) wd_2_152 rfl rfl ⟨by rw [hf]; decide, by rw [hlo]; decide⟩ (Nat.le_of_ble_eq_true rfl) (zrc_row (k := 7) hK (by decide)) (fun S105 v106 hv106 => ?_)
            refine sw_go C0 2 (pc' := 127) (lv' := [(0, .ref (G 2)), (1, .int a1), (2, .int a2), (3, .int a3), (4, .int a4), (5, .int 1), (6, .int 0)]) (st' := [.ref (G 2)]) rfl ?_
            refine sw_getf C0 hK (o := 2) (j := 0) (v := .ref (G 12)) (by decide) rfl i_Pat (by decide) wd_1_60 rfl rfl ?_
            refine sw_go C0 1 (pc' := 131) (lv' := [(0, .ref (G 2)), (1, .int a1), (2, .int a2), (3, .int a3), (4, .int a4), (5, .int 1), (6, .int 0)]) (st' := [.int a1, .ref (G 12)]) rfl ?_
            refine sw_ci zFi (As := [.int a1]) (rest := []) C0 hK hA yk_Row_add (c_Row_add 1 (by decide) a1) wd_2_152 rfl rfl ⟨by rw [hf]; decide, by rw [hlo]; decide⟩ (Nat.le_of_ble_eq_true rfl) (zrc_row (k := 1) hK (by decide)) (fun S107 v108 hv108 => ?_)
            exact sw_reti C0 rfl rfl
          · refine sw_go C0 4 (pc' := 62) (lv' := [(0, .ref (G 2)), (1, .int a1), (2, .int a2), (3, .int a3), (4, .int a4), (5, .int 1), (6, .int 1)]) (st' := [.ref (G 2)]) rfl ?_
            refine sw_getf C0 hK (o := 2) (j := 1) (v := .ref (G 13)) (by decide) rfl i_Pat (by decide) wd_1_61 rfl rfl ?_
            refine sw_go C0 1 (pc' := 66) (lv' := [(0, .ref (G 2)), (1, .int a1), (2, .int a2), (3, .int a3), (4, .int a4), (5, .int 1), (6, .int 1)]) (st' := [.int a2, .ref (G 13)]) rfl ?_
            refine sw_ci zFi (As := [.int a2]) (rest := []) C0 hK hA yk_Row_add (c_Row_add 2 (by decide) a2) wd_2_152 rfl rfl ⟨by rw [hf]; decide, by rw [hlo]; decide⟩ (Nat.le_of_ble_eq_true rfl) (zrc_row (k := 2) hK (by decide)) (fun S109 v110 hv110 => ?_)
            refine sw_go C0 2 (pc' := 71) (lv' := [(0, .ref (G 2)), (1, .int a1), (2, .int a2), (3, .int a3), (4, .int a4), (5, .int 1), (6, .int 1)]) (st' := [.ref (G 2)]) rfl ?_
            refine sw_getf C0 hK (o := 2) (j := 2) (v := .ref (G 14)) (by decide) rfl i_Pat (by decide) wd_1_62 rfl rfl ?_
            refine sw_go C0 1 (pc' := 75) (lv' := [(0, .ref (G 2)), (1, .int a1), (2, .int a2), (3, .int a3), (4, .int a4), (5, .int 1), (6, .int 1)]) (st' := [.int a3, .ref (G 14)]) rfl ?_
            refine sw_ci zFi (As := [.int a3]) (rest := []) C0 hK hA yk_Row_add (c_Row_add 3 (by decide) a3) wd_2_152 rfl rfl ⟨by rw [hf]; decide, by rw [hlo]; decide⟩ (Nat.le_of_ble_eq_true rfl) (zrc_row (k := 3) hK (by decide)) (fun S111 v112 hv112 => ?_)
            refine sw_go C0 2 (pc' := 80) (lv' := [(0, .ref (G 2)), (1, .int a1), (2, .int a2), (3, .int a3), (4, .int a4), (5, .int 1), (6, .int 1)]) (st' := [.ref (G 2)]) rfl ?_
            refine sw_getf C0 hK (o := 2) (j := 3) (v := .ref (G 15)) (by decide) rfl i_Pat (by decide) wd_1_63 rfl rfl ?_
            refine sw_go C0 1 (pc' := 85) (lv' := [(0, .ref (G 2)), (1, .int a1), (2, .int a2), (3, .int a3), (4, .int a4), (5, .int 1), (6, .int 1)]) (st' := [.int a4, .ref (G 15)]) rfl ?_
            refine sw_ci zFi (As := [.int a4]) (rest := []) C0 hK hA yk_Row_add (c_Row_add 4 (by decide) a4) wd_2_152 rfl rfl ⟨by rw [hf]; decide, by rw [hlo]; decide⟩ (Nat.le_of_ble_eq_true rfl) (zrc_row (k := 4) hK (by decide)) (fun S113 v114 hv114 => ?_)
            refine sw_go C0 2 (pc' := 90) (lv' := [(0, .ref (G 2)), (1, .int a1), (2, .int a2), (3, .int a3), (4, .int a4), (5, .int 1), (6, .int 1)]) (st' := [.ref (G 2)]) rfl ?_
            refine sw_getf C0 hK (o := 2) (j := 4) (v := .ref (G 16)) (by decide) rfl i_Pat (by decide) wd_1_64 rfl rfl ?_
            refine sw_go C0 1 (pc' := 94) (lv' := [(0, .ref (G 2)), (1, .int a1), (2, .int a2), (3, .int a3), (4, .int a4), (5, .int 1), (6, .int 1)]) (st' := [.int 0, .ref (G 16)]) rfl ?_
            refine sw_ci zFi (As := [.int 0]) (rest := []) C0 hK hA yk_Row_add (c_Row_add 5 (by decide) 0) wd_2_152 rfl rfl ⟨by rw [hf]; decide, by rw [hlo]; decide⟩ (Nat.le_of_ble_eq_true rfl) (zrc_row (k := 5) hK (by decide)) (fun S115 v116 hv116 => ?_)
            refine sw_go C0 2 (pc' := 99) (lv' := [(0, .ref (G 2)), (1, .int a1), (2, .int a2), (3, .int a3), (4, .int a4), (5, .int 1), (6, .int 1)]) (st' := [.ref (G 2)]) rfl ?_
            refine sw_getf C0 hK (o := 2) (j := 5) (v := .ref (G 17)) (by decide) rfl i_Pat (by decide) wd_1_65 rfl rfl ?_
            refine sw_go C0 1 (pc' := 104) (lv' := [(0, .ref (G 2)), (1, .int a1), (2, .int a2), (3, .int a3), (4, .int a4), (5, .int 1), (6, .int 1)]) (st' := [.int 1, .ref (G 17)]) rfl ?_
            refine sw_ci zFi (As := [.int 1]) (rest := []) C0 hK hA yk_Row_add (c_Row_add 6 (by decide) 1) wd_2_152 rfl rfl ⟨by rw [hf]; decide, by rw [hlo]; decide⟩ (Nat.le_of_ble_eq_true rfl) (zrc_row (k := 6) hK (by decide)) (fun S117 v118 hv118 => ?_)
            refine sw_go C0 2 (pc' := 109) (lv' := [(0, .ref (G 2)), (1, .int a1), (2, .int a2), (3, .int a3), (4, .int a4), (5, .int 1), (6, .int 1)]) (st' := [.ref (G 2)]) rfl ?_
            refine sw_getf C0 hK (o := 2) (j := 6) (v := .ref (G 18)) (by decide) rfl i_Pat (by decide) wd_1_66 rfl rfl ?_
            refine sw_go C0 1 (pc' := 114) (lv' := [(0, .ref (G 2)), (1, .int a1), (2, .int a2), (3, .int a3), (4, .int a4), (5, .int 1), (6, .int 1)]) (st' := [.int 1, .ref (G 18)]) rfl ?_
            refine sw_if_eqF C0 rfl (by decide) ?_
            refine sw_go C0 2 (pc' := 122) (lv' := [(0, .ref (G 2)), (1, .int a1), (2, .int a2), (3, .int a3), (4, .int a4), (5, .int 1), (6, .int 1)]) (st' := [.int 1, .ref (G 18)]) rfl ?_
            refine sw_ci zFi (As := [.int 1]) (rest := []) C0 hK hA yk_Row_add (c_Row_add 7 (by decide) 1) wd_2_152 rfl rfl ⟨by rw [hf]; decide, by rw [hlo]; decide⟩ (Nat.le_of_ble_eq_true rfl) (zrc_row (k := 7) hK (by decide)) (fun S119 v120 hv120 => ?_)
            refine sw_go C0 2 (pc' := 127) (lv' := [(0, .ref (G 2)), (1, .int a1), (2, .int a2), (3, .int a3), (4, .int a4), (5, .int 1), (6, .int 1)]) (st' := [.ref (G 2)]) rfl ?_
            refine sw_getf C0 hK (o := 2) (j := 0) (v := .ref (G 12)) (by decide) rfl i_Pat (by decide) wd_1_60 rfl rfl ?_
            refine sw_go C0 1 (pc' := 131) (lv' := [(0, .ref (G 2)), (1, .int a1), (2, .int a2), (3, .int a3), (4, .int a4), (5, .int 1), (6, .int 1)]) (st' := [.int a1, .ref (G 12)]) rfl ?_
            refine sw_ci zFi (As := [.int a1]) (rest := []) C0 hK hA yk_Row_add (c_Row_add 1 (by decide) a1) wd_2_152 rfl rfl ⟨by rw [hf]; decide, by rw [hlo]; decide⟩ (Nat.le_of_ble_eq_true rfl) (zrc_row (k := 1) hK (by decide)) (fun S121 v122 hv122 => ?_)
            exact sw_reti C0 rfl rfl
    · refine sw_go C0 1 (pc' := 34) (lv' := [(0, .ref (G 2)), (1, .int a1), (2, .int a2), (3, .int a3), (4, .int a4), (5, .int 1)]) (st' := [.int (-2)]) rfl ?_
      exact sw_reti C0 rfl rfl
def f_Pat_has (S : zS) (a1 : Int32) : Int32 :=
  if a1 < 0 then
    0
  else
    if (r_size S 1) ≤ a1 then
      0
    else
      1
set_option maxHeartbeats 1000000 in
set_option maxRecDepth 20000 in
theorem c_Pat_has (S : zS) (a1 : Int32) : zMet l y_Pat_has (zw y_Pat_has prog_8_method_3_code 2 (some Jvm.ClassFile.FieldType.boolean)) 1 20 [.ref (G 2), .int a1] D zcl (ztys cA) A (zRep D cA G A) zfc zfs S ((zFp S) (f_Pat_has S a1)) := by
  refine zMet_of ⟨Nat.le_refl _, Nat.le_refl _⟩ (by decide) tk_Pat_has (Nat.le_of_ble_eq_true rfl) ?_
  intro p e R s m args below meth c hf hlo C0 hK hA
  unfold f_Pat_has
  refine sw_go C0 1 (pc' := 1) (lv' := [(0, .ref (G 2)), (1, .int a1)]) (st' := [.int a1]) rfl ?_
  refine sw_if_lt (zFp S) C0 rfl (fun h1 => ?_) (fun h1 => ?_)
  · refine sw_go C0 1 (pc' := 20) (lv' := [(0, .ref (G 2)), (1, .int a1)]) (st' := [.int 0]) rfl ?_
    exact sw_retz C0 rfl rfl rfl
  · refine sw_go C0 2 (pc' := 6) (lv' := [(0, .ref (G 2)), (1, .int a1)]) (st' := [.ref (G 2), .int a1]) rfl ?_
    refine sw_getf C0 hK (o := 2) (j := 0) (v := .ref (G 12)) (by decide) rfl i_Pat (by decide) wd_1_60 rfl rfl ?_
    refine sw_cp (As := []) (rest := [.int a1]) C0 hK hA yk_Row_size (c_Row_size 1 (by decide)) wd_2_147 rfl rfl ⟨by rw [hf]; decide, by rw [hlo]; decide⟩ (Nat.le_of_ble_eq_true rfl) (zrc_row (k := 1) hK (by decide)) ?_
    refine sw_icmp_ge (zFp S) C0 rfl (fun h2 => ?_) (fun h2 => ?_)
    · refine sw_go C0 1 (pc' := 20) (lv' := [(0, .ref (G 2)), (1, .int a1)]) (st' := [.int 0]) rfl ?_
      exact sw_retz C0 rfl rfl rfl
    · refine sw_go C0 2 (pc' := 20) (lv' := [(0, .ref (G 2)), (1, .int a1)]) (st' := [.int 1]) rfl ?_
      exact sw_retz C0 rfl rfl rfl
def f_Pat_addFields_L2 : Nat → zS → Int32 → Int32 → Option (zS)
  | 0, _, _, _ => none
  | n + 1, S, x1, x3 =>
    if x1 ≤ x3 then
      some S
    else
      if (f_Psh_at S x3) = (-1) then
        f_Pat_addFields_L2 n S x1 (x3 + 1)
      else
        zbind2 (r_add S 8 x3) fun S3 v4 =>
        zbind2 (r_add S3 9 (f_Psh_at S3 x3)) fun S5 v6 =>
        f_Pat_addFields_L2 n S5 x1 (x3 + 1)
def f_Pat_addFields (S : zS) (a1 : Int32) : Option (zS) :=
  f_Pat_addFields_L2 zbig S a1 0
theorem mo_Pat_addFields (S : zS) (a1 : Int32) : zmO (fun x => x) S (f_Pat_addFields S a1) := by
  have lp2 : ∀ (n : Nat) (S : zS) (x1 : Int32) (x3 : Int32), zmO (fun x => x) S (f_Pat_addFields_L2 n S x1 x3) := by
    intro n
    induction n with
    | zero =>
      intro S x1 x3
      rw [f_Pat_addFields_L2]
      exact mO_0
    | succ n ih2 =>
      intro S x1 x3
      rw [f_Pat_addFields_L2]
      exact (mO_if (g := (fun x => x)) (mO_s zmo_rf) (mO_if (g := (fun x => x)) (ih2 S x1 (x3 + 1)) (mO_b2 (g := (fun x => x)) (r_add_mono (by decide) x3) fun S3 v4 => (mO_b2 (g := (fun x => x)) (r_add_mono (by decide) (f_Psh_at S3 x3)) fun S5 v6 => (ih2 S5 x1 (x3 + 1))))))
  unfold f_Pat_addFields
  exact (lp2 zbig S a1 0)
set_option maxHeartbeats 1000000 in
set_option maxRecDepth 20000 in
theorem c_Pat_addFields (S : zS) (a1 : Int32) : ∀ r, f_Pat_addFields S a1 = some r → zMet l y_Pat_addFields (zw y_Pat_addFields prog_8_method_19_code 4 none) 3 83 [.ref (G 2), .int a1, .ref (G 3)] D zcl (ztys cA) A (zRep D cA G A) zfc zfs S (zFv r) := by
  intro r hr
  refine zMet_of (mo_Fv (mo_Pat_addFields S a1 r hr)) (by decide) tk_Pat_addFields (Nat.le_of_ble_eq_true rfl) ?_
  intro p e R s m args below meth c hf hlo C0 hK hA
  have lp2 : ∀ (n : Nat) (S : zS) (x1 : Int32) (x3 : Int32), zSO p l e R s m args below meth c 4 A D cA G S 2 [(0, .ref (G 2)), (1, .int x1), (2, .ref (G 3)), (3, .int x3)] [] zFv (f_Pat_addFields_L2 n S x1 x3) := by
    intro n
    induction n with
    | zero =>
      intro S x1 x3
      rw [f_Pat_addFields_L2]
      exact so_none
    | succ n ih2 =>
      intro S x1 x3
      rw [f_Pat_addFields_L2]
      refine so_go C0 2 (pc' := 4) (lv' := [(0, .ref (G 2)), (1, .int x1), (2, .ref (G 3)), (3, .int x3)]) (st' := [.int x1, .int x3]) rfl ?_
      refine so_icmp_ge C0 rfl (fun h1 => ?_) (fun h1 => ?_)
      · exact so_retv C0 rfl rfl
      · refine so_go C0 2 (pc' := 9) (lv' := [(0, .ref (G 2)), (1, .int x1), (2, .ref (G 3)), (3, .int x3)]) (st' := [.int x3, .ref (G 3)]) rfl ?_
        refine so_cp (As := [.int x3]) (rest := []) C0 hK hA yk_Psh_at (c_Psh_at S x3) wd_2_216 rfl rfl ⟨by rw [hf]; decide, by rw [hlo]; decide⟩ (Nat.le_of_ble_eq_true rfl) (zrc_obj (o := 3) hK (by decide) rfl) ?_
        refine so_go C0 1 (pc' := 13) (lv' := [(0, .ref (G 2)), (1, .int x1), (2, .ref (G 3)), (3, .int x3)]) (st' := [.int (-1), .int (f_Psh_at S x3)]) rfl ?_
        refine so_icmp_eq C0 rfl (fun h2 => ?_) (fun h2 => ?_)
        · refine so_go C0 2 (pc' := 2) (lv' := [(0, .ref (G 2)), (1, .int x1), (2, .ref (G 3)), (3, .int (x3 + 1))]) (st' := []) rfl ?_
          exact so_sub (lv' := [(0, .ref (G 2)), (1, .int x1), (2, .ref (G 3)), (3, .int (x3 + 1))]) (zpk [0, 1, 2, 3] rfl) (ih2 S x1 (x3 + 1))
        · refine so_go C0 1 (pc' := 17) (lv' := [(0, .ref (G 2)), (1, .int x1), (2, .ref (G 3)), (3, .int x3)]) (st' := [.ref (G 2)]) rfl ?_
          refine so_getf C0 hK (o := 2) (j := 7) (v := .ref (G 19)) (by decide) rfl i_Pat (by decide) wd_1_67 rfl rfl ?_
          refine so_go C0 1 (pc' := 21) (lv' := [(0, .ref (G 2)), (1, .int x1), (2, .ref (G 3)), (3, .int x3)]) (st' := [.int x3, .ref (G 19)]) rfl ?_
          refine so_ci (As := [.int x3]) (rest := []) C0 hK hA yk_Row_add (c_Row_add 8 (by decide) x3) wd_2_152 rfl rfl ⟨by rw [hf]; decide, by rw [hlo]; decide⟩ (Nat.le_of_ble_eq_true rfl) (zrc_row (k := 8) hK (by decide)) (fun S3 v4 hv4 => ?_)
          refine so_go C0 2 (pc' := 26) (lv' := [(0, .ref (G 2)), (1, .int x1), (2, .ref (G 3)), (3, .int x3)]) (st' := [.ref (G 2)]) rfl ?_
          refine so_getf C0 hK (o := 2) (j := 8) (v := .ref (G 20)) (by decide) rfl i_Pat (by decide) wd_1_68 rfl rfl ?_
          refine so_go C0 2 (pc' := 31) (lv' := [(0, .ref (G 2)), (1, .int x1), (2, .ref (G 3)), (3, .int x3)]) (st' := [.int x3, .ref (G 3), .ref (G 20)]) rfl ?_
          refine so_cp (As := [.int x3]) (rest := [.ref (G 20)]) C0 hK hA yk_Psh_at (c_Psh_at S3 x3) wd_2_216 rfl rfl ⟨by rw [hf]; decide, by rw [hlo]; decide⟩ (Nat.le_of_ble_eq_true rfl) (zrc_obj (o := 3) hK (by decide) rfl) ?_
          refine so_ci (As := [.int (f_Psh_at S3 x3)]) (rest := []) C0 hK hA yk_Row_add (c_Row_add 9 (by decide) (f_Psh_at S3 x3)) wd_2_152 rfl rfl ⟨by rw [hf]; decide, by rw [hlo]; decide⟩ (Nat.le_of_ble_eq_true rfl) (zrc_row (k := 9) hK (by decide)) (fun S5 v6 hv6 => ?_)
          refine so_go C0 3 (pc' := 2) (lv' := [(0, .ref (G 2)), (1, .int x1), (2, .ref (G 3)), (3, .int (x3 + 1))]) (st' := []) rfl ?_
          exact so_sub (lv' := [(0, .ref (G 2)), (1, .int x1), (2, .ref (G 3)), (3, .int (x3 + 1))]) (zpk [0, 1, 2, 3] rfl) (ih2 S5 x1 (x3 + 1))
  have K : zSO p l e R s m args below meth c 4 A D cA G S 0 (lv_args 0 [.ref (G 2), .int a1, .ref (G 3)]) [] zFv (f_Pat_addFields S a1) := by
    unfold f_Pat_addFields
    refine so_go C0 2 (pc' := 2) (lv' := [(0, .ref (G 2)), (1, .int a1), (2, .ref (G 3)), (3, .int 0)]) (st' := []) rfl ?_
    exact so_sub (lv' := [(0, .ref (G 2)), (1, .int a1), (2, .ref (G 3)), (3, .int 0)]) (zpk [0, 1, 2, 3] rfl) (lp2 zbig S a1 0)
  exact K r hr
def f_Pat_isFull_L2 : Nat → zS → Int32 → Int32 → Option (Int32)
  | 0, _, _, _ => none
  | n + 1, S, x1, x3 =>
    if x1 ≤ x3 then
      some 1
    else
      if ¬ (f_Pat_isValue S (f_Psh_at S x3)) = 0 then
        f_Pat_isFull_L2 n S x1 (x3 + 1)
      else
        some 0
def f_Pat_isFull (S : zS) (a1 : Int32) : Option (Int32) :=
  f_Pat_isFull_L2 zbig S a1 0
set_option maxHeartbeats 1000000 in
set_option maxRecDepth 20000 in
theorem c_Pat_isFull (S : zS) (a1 : Int32) : ∀ r, f_Pat_isFull S a1 = some r → zMet l y_Pat_isFull (zw y_Pat_isFull prog_8_method_18_code 4 (some Jvm.ClassFile.FieldType.boolean)) 2 42 [.ref (G 2), .int a1, .ref (G 3)] D zcl (ztys cA) A (zRep D cA G A) zfc zfs S ((zFp S) r) := by
  intro r hr
  refine zMet_of ⟨Nat.le_refl _, Nat.le_refl _⟩ (by decide) tk_Pat_isFull (Nat.le_of_ble_eq_true rfl) ?_
  intro p e R s m args below meth c hf hlo C0 hK hA
  have lp2 : ∀ (n : Nat) (x1 : Int32) (x3 : Int32), zSO p l e R s m args below meth c 4 A D cA G S 2 [(0, .ref (G 2)), (1, .int x1), (2, .ref (G 3)), (3, .int x3)] [] (zFp S) (f_Pat_isFull_L2 n S x1 x3) := by
    intro n
    induction n with
    | zero =>
      intro x1 x3
      rw [f_Pat_isFull_L2]
      exact so_none
    | succ n ih2 =>
      intro x1 x3
      rw [f_Pat_isFull_L2]
      refine so_go C0 2 (pc' := 4) (lv' := [(0, .ref (G 2)), (1, .int x1), (2, .ref (G 3)), (3, .int x3)]) (st' := [.int x1, .int x3]) rfl ?_
      refine so_icmp_ge C0 rfl (fun h1 => ?_) (fun h1 => ?_)
      · refine so_go C0 1 (pc' := 28) (lv' := [(0, .ref (G 2)), (1, .int x1), (2, .ref (G 3)), (3, .int x3)]) (st' := [.int 1]) rfl ?_
        exact so_retz C0 rfl rfl rfl
      · refine so_go C0 3 (pc' := 10) (lv' := [(0, .ref (G 2)), (1, .int x1), (2, .ref (G 3)), (3, .int x3)]) (st' := [.int x3, .ref (G 3), .ref (G 2)]) rfl ?_
        refine so_cp (As := [.int x3]) (rest := [.ref (G 2)]) C0 hK hA yk_Psh_at (c_Psh_at S x3) wd_2_216 rfl rfl ⟨by rw [hf]; decide, by rw [hlo]; decide⟩ (Nat.le_of_ble_eq_true rfl) (zrc_obj (o := 3) hK (by decide) rfl) ?_
        refine so_cp (As := [.int (f_Psh_at S x3)]) (rest := []) C0 hK hA yk_Pat_isValue (c_Pat_isValue S (f_Psh_at S x3)) wd_2_148 rfl rfl ⟨by rw [hf]; decide, by rw [hlo]; decide⟩ (Nat.le_of_ble_eq_true rfl) (zrc_obj (o := 2) hK (by decide) rfl) ?_
        refine so_if_ne C0 rfl (fun h2 => ?_) (fun h2 => ?_)
        · refine so_go C0 2 (pc' := 2) (lv' := [(0, .ref (G 2)), (1, .int x1), (2, .ref (G 3)), (3, .int (x3 + 1))]) (st' := []) rfl ?_
          exact so_sub (lv' := [(0, .ref (G 2)), (1, .int x1), (2, .ref (G 3)), (3, .int (x3 + 1))]) (zpk [0, 1, 2, 3] rfl) (ih2 x1 (x3 + 1))
        · refine so_go C0 1 (pc' := 20) (lv' := [(0, .ref (G 2)), (1, .int x1), (2, .ref (G 3)), (3, .int x3)]) (st' := [.int 0]) rfl ?_
          exact so_retz C0 rfl rfl rfl
  have K : zSO p l e R s m args below meth c 4 A D cA G S 0 (lv_args 0 [.ref (G 2), .int a1, .ref (G 3)]) [] (zFp S) (f_Pat_isFull S a1) := by
    unfold f_Pat_isFull
    refine so_go C0 2 (pc' := 2) (lv' := [(0, .ref (G 2)), (1, .int a1), (2, .ref (G 3)), (3, .int 0)]) (st' := []) rfl ?_
    exact so_sub (lv' := [(0, .ref (G 2)), (1, .int a1), (2, .ref (G 3)), (3, .int 0)]) (zpk [0, 1, 2, 3] rfl) (lp2 zbig a1 0)
  exact K r hr
def f_Pat_recordWeight_L5 : Nat → zS → Int32 → Int32 → Int32 → Option (Int32)
  | 0, _, _, _, _ => none
  | n + 1, S, x1, x3, x4 =>
    if x1 ≤ x4 then
      some x3
    else
      zbind (f_Psh_at S x4) fun v2 =>
      if ¬ v2 = (-1) then
        zbind (x3 + (r_at S 6 v2)) fun v4 =>
        f_Pat_recordWeight_L5 n S x1 v4 (x4 + 1)
      else
        zbind (x3 + 0) fun v5 =>
        f_Pat_recordWeight_L5 n S x1 v5 (x4 + 1)
def f_Pat_recordWeight (S : zS) (a1 : Int32) : Option (Int32) :=
  f_Pat_recordWeight_L5 zbig S a1 1 0
set_option maxHeartbeats 1000000 in
set_option maxRecDepth 20000 in
theorem c_Pat_recordWeight (S : zS) (a1 : Int32) : ∀ r, f_Pat_recordWeight S a1 = some r → zMet l y_Pat_recordWeight (zw y_Pat_recordWeight prog_8_method_17_code 6 (some Jvm.ClassFile.FieldType.int)) 2 42 [.ref (G 2), .int a1, .ref (G 3)] D zcl (ztys cA) A (zRep D cA G A) zfc zfs S ((zFp S) r) := by
  intro r hr
  refine zMet_of ⟨Nat.le_refl _, Nat.le_refl _⟩ (by decide) tk_Pat_recordWeight (Nat.le_of_ble_eq_true rfl) ?_
  intro p e R s m args below meth c hf hlo C0 hK hA
  have lp5 : ∀ (n : Nat) (x1 : Int32) (x3 : Int32) (x4 : Int32), zSO p l e R s m args below meth c 6 A D cA G S 5 [(0, .ref (G 2)), (1, .int x1), (2, .ref (G 3)), (3, .int x3), (4, .int x4)] [] (zFp S) (f_Pat_recordWeight_L5 n S x1 x3 x4) := by
    intro n
    induction n with
    | zero =>
      intro x1 x3 x4
      rw [f_Pat_recordWeight_L5]
      exact so_none
    | succ n ih5 =>
      intro x1 x3 x4
      rw [f_Pat_recordWeight_L5]
      refine so_go C0 2 (pc' := 8) (lv' := [(0, .ref (G 2)), (1, .int x1), (2, .ref (G 3)), (3, .int x3), (4, .int x4)]) (st' := [.int x1, .int x4]) rfl ?_
      refine so_icmp_ge C0 rfl (fun h1 => ?_) (fun h1 => ?_)
      · refine so_go C0 1 (pc' := 48) (lv' := [(0, .ref (G 2)), (1, .int x1), (2, .ref (G 3)), (3, .int x3), (4, .int x4)]) (st' := [.int x3]) rfl ?_
        exact so_reti C0 rfl rfl
      · refine so_go C0 2 (pc' := 14) (lv' := [(0, .ref (G 2)), (1, .int x1), (2, .ref (G 3)), (3, .int x3), (4, .int x4)]) (st' := [.int x4, .ref (G 3)]) rfl ?_
        refine so_cp (As := [.int x4]) (rest := []) C0 hK hA yk_Psh_at (c_Psh_at S x4) wd_2_216 rfl rfl ⟨by rw [hf]; decide, by rw [hlo]; decide⟩ (Nat.le_of_ble_eq_true rfl) (zrc_obj (o := 3) hK (by decide) rfl) ?_
        refine so_nm (V := .int) (fun v2 hv2 => ?_)
        refine so_go C0 4 (pc' := 23) (lv' := [(0, .ref (G 2)), (1, .int x1), (2, .ref (G 3)), (3, .int x3), (4, .int x4), (5, .int v2)]) (st' := [.int (-1), .int v2, .int x3]) rfl ?_
        refine so_icmp_ne C0 rfl (fun h3 => ?_) (fun h3 => ?_)
        · refine so_go C0 1 (pc' := 31) (lv' := [(0, .ref (G 2)), (1, .int x1), (2, .ref (G 3)), (3, .int x3), (4, .int x4), (5, .int v2)]) (st' := [.ref (G 2), .int x3]) rfl ?_
          refine so_getf C0 hK (o := 2) (j := 5) (v := .ref (G 17)) (by decide) rfl i_Pat (by decide) wd_1_65 rfl rfl ?_
          refine so_go C0 1 (pc' := 36) (lv' := [(0, .ref (G 2)), (1, .int x1), (2, .ref (G 3)), (3, .int x3), (4, .int x4), (5, .int v2)]) (st' := [.int v2, .ref (G 17), .int x3]) rfl ?_
          refine so_cp (As := [.int v2]) (rest := [.int x3]) C0 hK hA yk_Row_at (c_Row_at 6 (by decide) v2) wd_2_139 rfl rfl ⟨by rw [hf]; decide, by rw [hlo]; decide⟩ (Nat.le_of_ble_eq_true rfl) (zrc_row (k := 6) hK (by decide)) ?_
          refine so_go C0 1 (pc' := 40) (lv' := [(0, .ref (G 2)), (1, .int x1), (2, .ref (G 3)), (3, .int x3), (4, .int x4), (5, .int v2)]) (st' := [.int (x3 + (r_at S 6 v2))]) rfl ?_
          refine so_nm (V := .int) (fun v4 hv4 => ?_)
          refine so_go C0 3 (pc' := 5) (lv' := [(0, .ref (G 2)), (1, .int x1), (2, .ref (G 3)), (3, .int v4), (4, .int (x4 + 1)), (5, .int v2)]) (st' := []) rfl ?_
          exact so_sub (lv' := [(0, .ref (G 2)), (1, .int x1), (2, .ref (G 3)), (3, .int v4), (4, .int (x4 + 1))]) (zpk [0, 1, 2, 3, 4] rfl) (ih5 x1 v4 (x4 + 1))
        · refine so_go C0 3 (pc' := 40) (lv' := [(0, .ref (G 2)), (1, .int x1), (2, .ref (G 3)), (3, .int x3), (4, .int x4), (5, .int v2)]) (st' := [.int (x3 + 0)]) rfl ?_
          refine so_nm (V := .int) (fun v5 hv5 => ?_)
          refine so_go C0 3 (pc' := 5) (lv' := [(0, .ref (G 2)), (1, .int x1), (2, .ref (G 3)), (3, .int v5), (4, .int (x4 + 1)), (5, .int v2)]) (st' := []) rfl ?_
          exact so_sub (lv' := [(0, .ref (G 2)), (1, .int x1), (2, .ref (G 3)), (3, .int v5), (4, .int (x4 + 1))]) (zpk [0, 1, 2, 3, 4] rfl) (ih5 x1 v5 (x4 + 1))
  have K : zSO p l e R s m args below meth c 6 A D cA G S 0 (lv_args 0 [.ref (G 2), .int a1, .ref (G 3)]) [] (zFp S) (f_Pat_recordWeight S a1) := by
    unfold f_Pat_recordWeight
    refine so_go C0 4 (pc' := 5) (lv' := [(0, .ref (G 2)), (1, .int a1), (2, .ref (G 3)), (3, .int 1), (4, .int 0)]) (st' := []) rfl ?_
    exact so_sub (lv' := [(0, .ref (G 2)), (1, .int a1), (2, .ref (G 3)), (3, .int 1), (4, .int 0)]) (zpk [0, 1, 2, 3, 4] rfl) (lp5 zbig a1 1 0)
  exact K r hr
def f_Pat_addRecord (S : zS) (a1 : Int32) : Option (zS × Int32) :=
  zob (f_Pat_recordWeight S a1) fun v1 =>
  if ¬ (f_Pat_hasRoom S v1) = 0 then
    zob (f_Pat_isFull S a1) fun v3 =>
    zbind2 (r_add S 2 a1) fun S4 v5 =>
    zbind2 (r_add S4 3 0) fun S6 v7 =>
    zbind2 (r_add S6 4 (r_size S6 8)) fun S8 v9 =>
    zbind2 (r_add S8 5 (f_Psh_many S8)) fun S10 v11 =>
    zbind2 (r_add S10 6 v1) fun S12 v13 =>
    if v3 = 0 then
      zbind2 (r_add S12 7 0) fun S15 v16 =>
      zob (f_Pat_addFields S15 a1) fun S17 =>
      zbind2 (r_add S17 1 4) fun S18 v19 =>
      some (S18, v19)
    else
      zbind2 (r_add S12 7 1) fun S20 v21 =>
      zob (f_Pat_addFields S20 a1) fun S22 =>
      zbind2 (r_add S22 1 4) fun S23 v24 =>
      some (S23, v24)
  else
    some (S, (-2))
theorem mo_Pat_addRecord (S : zS) (a1 : Int32) : zmO Prod.fst S (f_Pat_addRecord S a1) := by
  unfold f_Pat_addRecord
  exact (mO_on (g := Prod.fst) fun v1 => (mO_if (g := Prod.fst) (mO_on (g := Prod.fst) fun v3 => (mO_b2 (g := Prod.fst) (r_add_mono (by decide) a1) fun S4 v5 => (mO_b2 (g := Prod.fst) (r_add_mono (by decide) 0) fun S6 v7 => (mO_b2 (g := Prod.fst) (r_add_mono (by decide) (r_size S6 8)) fun S8 v9 => (mO_b2 (g := Prod.fst) (r_add_mono (by decide) (f_Psh_many S8)) fun S10 v11 => (mO_b2 (g := Prod.fst) (r_add_mono (by decide) v1) fun S12 v13 => (mO_if (g := Prod.fst) (mO_b2 (g := Prod.fst) (r_add_mono (by decide) 0) fun S15 v16 => (mO_ob (g := Prod.fst) (mo_Pat_addFields S15 a1) fun S17 => (mO_b2 (g := Prod.fst) (r_add_mono (by decide) 4) fun S18 v19 => (mO_s zmo_rf)))) (mO_b2 (g := Prod.fst) (r_add_mono (by decide) 1) fun S20 v21 => (mO_ob (g := Prod.fst) (mo_Pat_addFields S20 a1) fun S22 => (mO_b2 (g := Prod.fst) (r_add_mono (by decide) 4) fun S23 v24 => (mO_s zmo_rf))))))))))) (mO_s zmo_rf)))
set_option maxHeartbeats 1000000 in
set_option maxRecDepth 20000 in
theorem c_Pat_addRecord (S : zS) (a1 : Int32) : ∀ r, f_Pat_addRecord S a1 = some r → zMet l y_Pat_addRecord (zw y_Pat_addRecord prog_8_method_14_code 5 (some Jvm.ClassFile.FieldType.int)) 4 106 [.ref (G 2), .int a1, .ref (G 3)] D zcl (ztys cA) A (zRep D cA G A) zfc zfs S (zFi r) := by
  intro r hr
  refine zMet_of (mo_Fi (mo_Pat_addRecord S a1 r hr)) (by decide) tk_Pat_addRecord (Nat.le_of_ble_eq_true rfl) ?_
  intro p e R s m args below meth c hf hlo C0 hK hA
  have K : zSO p l e R s m args below meth c 5 A D cA G S 0 (lv_args 0 [.ref (G 2), .int a1, .ref (G 3)]) [] zFi (f_Pat_addRecord S a1) := by
    unfold f_Pat_addRecord
    refine so_go C0 3 (pc' := 3) (lv' := [(0, .ref (G 2)), (1, .int a1), (2, .ref (G 3))]) (st' := [.ref (G 3), .int a1, .ref (G 2)]) rfl ?_
    refine so_op (As := [.int a1, .ref (G 3)]) (rest := []) C0 hK hA yk_Pat_recordWeight (c_Pat_recordWeight S a1) wd_2_212 rfl rfl ⟨by rw [hf]; decide, by rw [hlo]; decide⟩ (Nat.le_of_ble_eq_true rfl) (zrc_obj (o := 2) hK (by decide) rfl) (fun v1 hv1 => ?_)
    refine so_go C0 3 (pc' := 9) (lv' := [(0, .ref (G 2)), (1, .int a1), (2, .ref (G 3)), (3, .int v1)]) (st' := [.int v1, .ref (G 2)]) rfl ?_
    refine so_cp (As := [.int v1]) (rest := []) C0 hK hA yk_Pat_hasRoom (c_Pat_hasRoom S v1) wd_2_143 rfl rfl ⟨by rw [hf]; decide, by rw [hlo]; decide⟩ (Nat.le_of_ble_eq_true rfl) (zrc_obj (o := 2) hK (by decide) rfl) ?_
    refine so_if_ne C0 rfl (fun h2 => ?_) (fun h2 => ?_)
    · refine so_go C0 3 (pc' := 21) (lv' := [(0, .ref (G 2)), (1, .int a1), (2, .ref (G 3)), (3, .int v1)]) (st' := [.ref (G 3), .int a1, .ref (G 2)]) rfl ?_
      refine so_op (As := [.int a1, .ref (G 3)]) (rest := []) C0 hK hA yk_Pat_isFull (c_Pat_isFull S a1) wd_2_217 rfl rfl ⟨by rw [hf]; decide, by rw [hlo]; decide⟩ (Nat.le_of_ble_eq_true rfl) (zrc_obj (o := 2) hK (by decide) rfl) (fun v3 hv3 => ?_)
      refine so_go C0 2 (pc' := 27) (lv' := [(0, .ref (G 2)), (1, .int a1), (2, .ref (G 3)), (3, .int v1), (4, .int v3)]) (st' := [.ref (G 2)]) rfl ?_
      refine so_getf C0 hK (o := 2) (j := 1) (v := .ref (G 13)) (by decide) rfl i_Pat (by decide) wd_1_61 rfl rfl ?_
      refine so_go C0 1 (pc' := 31) (lv' := [(0, .ref (G 2)), (1, .int a1), (2, .ref (G 3)), (3, .int v1), (4, .int v3)]) (st' := [.int a1, .ref (G 13)]) rfl ?_
      refine so_ci (As := [.int a1]) (rest := []) C0 hK hA yk_Row_add (c_Row_add 2 (by decide) a1) wd_2_152 rfl rfl ⟨by rw [hf]; decide, by rw [hlo]; decide⟩ (Nat.le_of_ble_eq_true rfl) (zrc_row (k := 2) hK (by decide)) (fun S4 v5 hv5 => ?_)
      refine so_go C0 2 (pc' := 36) (lv' := [(0, .ref (G 2)), (1, .int a1), (2, .ref (G 3)), (3, .int v1), (4, .int v3)]) (st' := [.ref (G 2)]) rfl ?_
      refine so_getf C0 hK (o := 2) (j := 2) (v := .ref (G 14)) (by decide) rfl i_Pat (by decide) wd_1_62 rfl rfl ?_
      refine so_go C0 1 (pc' := 40) (lv' := [(0, .ref (G 2)), (1, .int a1), (2, .ref (G 3)), (3, .int v1), (4, .int v3)]) (st' := [.int 0, .ref (G 14)]) rfl ?_
      refine so_ci (As := [.int 0]) (rest := []) C0 hK hA yk_Row_add (c_Row_add 3 (by decide) 0) wd_2_152 rfl rfl ⟨by rw [hf]; decide, by rw [hlo]; decide⟩ (Nat.le_of_ble_eq_true rfl) (zrc_row (k := 3) hK (by decide)) (fun S6 v7 hv7 => ?_)
      refine so_go C0 2 (pc' := 45) (lv' := [(0, .ref (G 2)), (1, .int a1), (2, .ref (G 3)), (3, .int v1), (4, .int v3)]) (st' := [.ref (G 2)]) rfl ?_
      refine so_getf C0 hK (o := 2) (j := 3) (v := .ref (G 15)) (by decide) rfl i_Pat (by decide) wd_1_63 rfl rfl ?_
      refine so_go C0 1 (pc' := 49) (lv' := [(0, .ref (G 2)), (1, .int a1), (2, .ref (G 3)), (3, .int v1), (4, .int v3)]) (st' := [.ref (G 2), .ref (G 15)]) rfl ?_
      refine so_getf C0 hK (o := 2) (j := 7) (v := .ref (G 19)) (by decide) rfl i_Pat (by decide) wd_1_67 rfl rfl ?_
      refine so_cp (As := []) (rest := [.ref (G 15)]) C0 hK hA yk_Row_size (c_Row_size 8 (by decide)) wd_2_147 rfl rfl ⟨by rw [hf]; decide, by rw [hlo]; decide⟩ (Nat.le_of_ble_eq_true rfl) (zrc_row (k := 8) hK (by decide)) ?_
      refine so_ci (As := [.int (r_size S6 8)]) (rest := []) C0 hK hA yk_Row_add (c_Row_add 4 (by decide) (r_size S6 8)) wd_2_152 rfl rfl ⟨by rw [hf]; decide, by rw [hlo]; decide⟩ (Nat.le_of_ble_eq_true rfl) (zrc_row (k := 4) hK (by decide)) (fun S8 v9 hv9 => ?_)
      refine so_go C0 2 (pc' := 60) (lv' := [(0, .ref (G 2)), (1, .int a1), (2, .ref (G 3)), (3, .int v1), (4, .int v3)]) (st' := [.ref (G 2)]) rfl ?_
      refine so_getf C0 hK (o := 2) (j := 4) (v := .ref (G 16)) (by decide) rfl i_Pat (by decide) wd_1_64 rfl rfl ?_
      refine so_go C0 1 (pc' := 64) (lv' := [(0, .ref (G 2)), (1, .int a1), (2, .ref (G 3)), (3, .int v1), (4, .int v3)]) (st' := [.ref (G 3), .ref (G 16)]) rfl ?_
      refine so_cp (As := []) (rest := [.ref (G 16)]) C0 hK hA yk_Psh_many (c_Psh_many S8) wd_2_221 rfl rfl ⟨by rw [hf]; decide, by rw [hlo]; decide⟩ (Nat.le_of_ble_eq_true rfl) (zrc_obj (o := 3) hK (by decide) rfl) ?_
      refine so_ci (As := [.int (f_Psh_many S8)]) (rest := []) C0 hK hA yk_Row_add (c_Row_add 5 (by decide) (f_Psh_many S8)) wd_2_152 rfl rfl ⟨by rw [hf]; decide, by rw [hlo]; decide⟩ (Nat.le_of_ble_eq_true rfl) (zrc_row (k := 5) hK (by decide)) (fun S10 v11 hv11 => ?_)
      refine so_go C0 2 (pc' := 72) (lv' := [(0, .ref (G 2)), (1, .int a1), (2, .ref (G 3)), (3, .int v1), (4, .int v3)]) (st' := [.ref (G 2)]) rfl ?_
      refine so_getf C0 hK (o := 2) (j := 5) (v := .ref (G 17)) (by decide) rfl i_Pat (by decide) wd_1_65 rfl rfl ?_
      refine so_go C0 1 (pc' := 76) (lv' := [(0, .ref (G 2)), (1, .int a1), (2, .ref (G 3)), (3, .int v1), (4, .int v3)]) (st' := [.int v1, .ref (G 17)]) rfl ?_
      refine so_ci (As := [.int v1]) (rest := []) C0 hK hA yk_Row_add (c_Row_add 6 (by decide) v1) wd_2_152 rfl rfl ⟨by rw [hf]; decide, by rw [hlo]; decide⟩ (Nat.le_of_ble_eq_true rfl) (zrc_row (k := 6) hK (by decide)) (fun S12 v13 hv13 => ?_)
      refine so_go C0 2 (pc' := 81) (lv' := [(0, .ref (G 2)), (1, .int a1), (2, .ref (G 3)), (3, .int v1), (4, .int v3)]) (st' := [.ref (G 2)]) rfl ?_
      refine so_getf C0 hK (o := 2) (j := 6) (v := .ref (G 18)) (by decide) rfl i_Pat (by decide) wd_1_66 rfl rfl ?_
      refine so_go C0 1 (pc' := 86) (lv' := [(0, .ref (G 2)), (1, .int a1), (2, .ref (G 3)), (3, .int v1), (4, .int v3)]) (st' := [.int v3, .ref (G 18)]) rfl ?_
      refine so_if_eq C0 rfl (fun h14 => ?_) (fun h14 => ?_)
      · refine so_go C0 1 (pc' := 94) (lv' := [(0, .ref (G 2)), (1, .int a1), (2, .ref (G 3)), (3, .int v1), (4, .int v3)]) (st' := [.int 0, .ref (G 18)]) rfl ?_
        refine so_ci (As := [.int 0]) (rest := []) C0 hK hA yk_Row_add (c_Row_add 7 (by decide) 0) wd_2_152 rfl rfl ⟨by rw [hf]; decide, by rw [hlo]; decide⟩ (Nat.le_of_ble_eq_true rfl) (zrc_row (k := 7) hK (by decide)) (fun S15 v16 hv16 => ?_)
        refine so_go C0 4 (pc' := 101) (lv' := [(0, .ref (G 2)), (1, .int a1), (2, .ref (G 3)), (3, .int v1), (4, .int v3)]) (st' := [.ref (G 3), .int a1, .ref (G 2)]) rfl ?_
        refine so_oV (As := [.int a1, .ref (G 3)]) (rest := []) C0 hK hA yk_Pat_addFields (c_Pat_addFields S15 a1) wd_2_222 rfl rfl ⟨by rw [hf]; decide, by rw [hlo]; decide⟩ (Nat.le_of_ble_eq_true rfl) (zrc_obj (o := 2) hK (by decide) rfl) (fun S17 hS17 => ?_)
        refine so_go C0 1 (pc' := 105) (lv' := [(0, .ref (G 2)), (1, .int a1), (2, .ref (G 3)), (3, .int v1), (4, .int v3)]) (st' := [.ref (G 2)]) rfl ?_
        refine so_getf C0 hK (o := 2) (j := 0) (v := .ref (G 12)) (by decide) rfl i_Pat (by decide) wd_1_60 rfl rfl ?_
        refine so_go C0 1 (pc' := 109) (lv' := [(0, .ref (G 2)), (1, .int a1), (2, .ref (G 3)), (3, .int v1), (4, .int v3)]) (st' := [.int 4, .ref (G 12)]) rfl ?_
        refine so_ci (As := [.int 4]) (rest := []) C0 hK hA yk_Row_add (c_Row_add 1 (by decide) 4) wd_2_152 rfl rfl ⟨by rw [hf]; decide, by rw [hlo]; decide⟩ (Nat.le_of_ble_eq_true rfl) (zrc_row (k := 1) hK (by decide)) (fun S18 v19 hv19 => ?_)
        exact so_reti C0 rfl rfl
      · refine so_go C0 2 (pc' := 94) (lv' := [(0, .ref (G 2)), (1, .int a1), (2, .ref (G 3)), (3, .int v1), (4, .int v3)]) (st' := [.int 1, .ref (G 18)]) rfl ?_
        refine so_ci (As := [.int 1]) (rest := []) C0 hK hA yk_Row_add (c_Row_add 7 (by decide) 1) wd_2_152 rfl rfl ⟨by rw [hf]; decide, by rw [hlo]; decide⟩ (Nat.le_of_ble_eq_true rfl) (zrc_row (k := 7) hK (by decide)) (fun S20 v21 hv21 => ?_)
        refine so_go C0 4 (pc' := 101) (lv' := [(0, .ref (G 2)), (1, .int a1), (2, .ref (G 3)), (3, .int v1), (4, .int v3)]) (st' := [.ref (G 3), .int a1, .ref (G 2)]) rfl ?_
        refine so_oV (As := [.int a1, .ref (G 3)]) (rest := []) C0 hK hA yk_Pat_addFields (c_Pat_addFields S20 a1) wd_2_222 rfl rfl ⟨by rw [hf]; decide, by rw [hlo]; decide⟩ (Nat.le_of_ble_eq_true rfl) (zrc_obj (o := 2) hK (by decide) rfl) (fun S22 hS22 => ?_)
        refine so_go C0 1 (pc' := 105) (lv' := [(0, .ref (G 2)), (1, .int a1), (2, .ref (G 3)), (3, .int v1), (4, .int v3)]) (st' := [.ref (G 2)]) rfl ?_
        refine so_getf C0 hK (o := 2) (j := 0) (v := .ref (G 12)) (by decide) rfl i_Pat (by decide) wd_1_60 rfl rfl ?_
        refine so_go C0 1 (pc' := 109) (lv' := [(0, .ref (G 2)), (1, .int a1), (2, .ref (G 3)), (3, .int v1), (4, .int v3)]) (st' := [.int 4, .ref (G 12)]) rfl ?_
        refine so_ci (As := [.int 4]) (rest := []) C0 hK hA yk_Row_add (c_Row_add 1 (by decide) 4) wd_2_152 rfl rfl ⟨by rw [hf]; decide, by rw [hlo]; decide⟩ (Nat.le_of_ble_eq_true rfl) (zrc_row (k := 1) hK (by decide)) (fun S23 v24 hv24 => ?_)
        exact so_reti C0 rfl rfl
    · refine so_go C0 1 (pc' := 17) (lv' := [(0, .ref (G 2)), (1, .int a1), (2, .ref (G 3)), (3, .int v1)]) (st' := [.int (-2)]) rfl ?_
      exact so_reti C0 rfl rfl
  exact K r hr
def f_Pat_fieldNumber (S : zS) (a1 : Int32) (a2 : Int32) : Int32 :=
  (r_at S 8 ((r_at S 4 a1) + a2))
set_option maxHeartbeats 1000000 in
set_option maxRecDepth 20000 in
theorem c_Pat_fieldNumber (S : zS) (a1 : Int32) (a2 : Int32) : zMet l y_Pat_fieldNumber (zw y_Pat_fieldNumber prog_8_method_11_code 3 (some Jvm.ClassFile.FieldType.int)) 1 21 [.ref (G 2), .int a1, .int a2] D zcl (ztys cA) A (zRep D cA G A) zfc zfs S ((zFp S) (f_Pat_fieldNumber S a1 a2)) := by
  refine zMet_of ⟨Nat.le_refl _, Nat.le_refl _⟩ (by decide) tk_Pat_fieldNumber (Nat.le_of_ble_eq_true rfl) ?_
  intro p e R s m args below meth c hf hlo C0 hK hA
  unfold f_Pat_fieldNumber
  refine sw_go C0 1 (pc' := 1) (lv' := [(0, .ref (G 2)), (1, .int a1), (2, .int a2)]) (st' := [.ref (G 2)]) rfl ?_
  refine sw_getf C0 hK (o := 2) (j := 7) (v := .ref (G 19)) (by decide) rfl i_Pat (by decide) wd_1_67 rfl rfl ?_
  refine sw_go C0 1 (pc' := 5) (lv' := [(0, .ref (G 2)), (1, .int a1), (2, .int a2)]) (st' := [.ref (G 2), .ref (G 19)]) rfl ?_
  refine sw_getf C0 hK (o := 2) (j := 3) (v := .ref (G 15)) (by decide) rfl i_Pat (by decide) wd_1_63 rfl rfl ?_
  refine sw_go C0 1 (pc' := 9) (lv' := [(0, .ref (G 2)), (1, .int a1), (2, .int a2)]) (st' := [.int a1, .ref (G 15), .ref (G 19)]) rfl ?_
  refine sw_cp (As := [.int a1]) (rest := [.ref (G 19)]) C0 hK hA yk_Row_at (c_Row_at 4 (by decide) a1) wd_2_139 rfl rfl ⟨by rw [hf]; decide, by rw [hlo]; decide⟩ (Nat.le_of_ble_eq_true rfl) (zrc_row (k := 4) hK (by decide)) ?_
  refine sw_go C0 2 (pc' := 14) (lv' := [(0, .ref (G 2)), (1, .int a1), (2, .int a2)]) (st' := [.int ((r_at S 4 a1) + a2), .ref (G 19)]) rfl ?_
  refine sw_cp (As := [.int ((r_at S 4 a1) + a2)]) (rest := []) C0 hK hA yk_Row_at (c_Row_at 8 (by decide) ((r_at S 4 a1) + a2)) wd_2_139 rfl rfl ⟨by rw [hf]; decide, by rw [hlo]; decide⟩ (Nat.le_of_ble_eq_true rfl) (zrc_row (k := 8) hK (by decide)) ?_
  exact sw_reti C0 rfl rfl
def f_Pat_fieldPattern (S : zS) (a1 : Int32) (a2 : Int32) : Int32 :=
  (r_at S 9 ((r_at S 4 a1) + a2))
set_option maxHeartbeats 1000000 in
set_option maxRecDepth 20000 in
theorem c_Pat_fieldPattern (S : zS) (a1 : Int32) (a2 : Int32) : zMet l y_Pat_fieldPattern (zw y_Pat_fieldPattern prog_8_method_12_code 3 (some Jvm.ClassFile.FieldType.int)) 1 21 [.ref (G 2), .int a1, .int a2] D zcl (ztys cA) A (zRep D cA G A) zfc zfs S ((zFp S) (f_Pat_fieldPattern S a1 a2)) := by
  refine zMet_of ⟨Nat.le_refl _, Nat.le_refl _⟩ (by decide) tk_Pat_fieldPattern (Nat.le_of_ble_eq_true rfl) ?_
  intro p e R s m args below meth c hf hlo C0 hK hA
  unfold f_Pat_fieldPattern
  refine sw_go C0 1 (pc' := 1) (lv' := [(0, .ref (G 2)), (1, .int a1), (2, .int a2)]) (st' := [.ref (G 2)]) rfl ?_
  refine sw_getf C0 hK (o := 2) (j := 8) (v := .ref (G 20)) (by decide) rfl i_Pat (by decide) wd_1_68 rfl rfl ?_
  refine sw_go C0 1 (pc' := 5) (lv' := [(0, .ref (G 2)), (1, .int a1), (2, .int a2)]) (st' := [.ref (G 2), .ref (G 20)]) rfl ?_
  refine sw_getf C0 hK (o := 2) (j := 3) (v := .ref (G 15)) (by decide) rfl i_Pat (by decide) wd_1_63 rfl rfl ?_
  refine sw_go C0 1 (pc' := 9) (lv' := [(0, .ref (G 2)), (1, .int a1), (2, .int a2)]) (st' := [.int a1, .ref (G 15), .ref (G 20)]) rfl ?_
  refine sw_cp (As := [.int a1]) (rest := [.ref (G 20)]) C0 hK hA yk_Row_at (c_Row_at 4 (by decide) a1) wd_2_139 rfl rfl ⟨by rw [hf]; decide, by rw [hlo]; decide⟩ (Nat.le_of_ble_eq_true rfl) (zrc_row (k := 4) hK (by decide)) ?_
  refine sw_go C0 2 (pc' := 14) (lv' := [(0, .ref (G 2)), (1, .int a1), (2, .int a2)]) (st' := [.int ((r_at S 4 a1) + a2), .ref (G 20)]) rfl ?_
  refine sw_cp (As := [.int ((r_at S 4 a1) + a2)]) (rest := []) C0 hK hA yk_Row_at (c_Row_at 9 (by decide) ((r_at S 4 a1) + a2)) wd_2_139 rfl rfl ⟨by rw [hf]; decide, by rw [hlo]; decide⟩ (Nat.le_of_ble_eq_true rfl) (zrc_row (k := 9) hK (by decide)) ?_
  exact sw_reti C0 rfl rfl
def f_Pat_width (S : zS) (a1 : Int32) : Int32 :=
  (r_at S 5 a1)
set_option maxHeartbeats 1000000 in
set_option maxRecDepth 20000 in
theorem c_Pat_width (S : zS) (a1 : Int32) : zMet l y_Pat_width (zw y_Pat_width prog_8_method_10_code 2 (some Jvm.ClassFile.FieldType.int)) 1 21 [.ref (G 2), .int a1] D zcl (ztys cA) A (zRep D cA G A) zfc zfs S ((zFp S) (f_Pat_width S a1)) := by
  refine zMet_of ⟨Nat.le_refl _, Nat.le_refl _⟩ (by decide) tk_Pat_width (Nat.le_of_ble_eq_true rfl) ?_
  intro p e R s m args below meth c hf hlo C0 hK hA
  unfold f_Pat_width
  refine sw_go C0 1 (pc' := 1) (lv' := [(0, .ref (G 2)), (1, .int a1)]) (st' := [.ref (G 2)]) rfl ?_
  refine sw_getf C0 hK (o := 2) (j := 4) (v := .ref (G 16)) (by decide) rfl i_Pat (by decide) wd_1_64 rfl rfl ?_
  refine sw_go C0 1 (pc' := 5) (lv' := [(0, .ref (G 2)), (1, .int a1)]) (st' := [.int a1, .ref (G 16)]) rfl ?_
  refine sw_cp (As := [.int a1]) (rest := []) C0 hK hA yk_Row_at (c_Row_at 5 (by decide) a1) wd_2_139 rfl rfl ⟨by rw [hf]; decide, by rw [hlo]; decide⟩ (Nat.le_of_ble_eq_true rfl) (zrc_row (k := 5) hK (by decide)) ?_
  exact sw_reti C0 rfl rfl
def f_Pat_argument (S : zS) (a1 : Int32) : Int32 :=
  zbind (r_at S 1 a1) fun v1 =>
  if v1 = 2 then
    (r_at S 4 a1)
  else
    if ¬ v1 = 3 then
      (-1)
    else
      (r_at S 4 a1)
set_option maxHeartbeats 1000000 in
set_option maxRecDepth 20000 in
theorem c_Pat_argument (S : zS) (a1 : Int32) : zMet l y_Pat_argument (zw y_Pat_argument prog_8_method_9_code 3 (some Jvm.ClassFile.FieldType.int)) 1 21 [.ref (G 2), .int a1] D zcl (ztys cA) A (zRep D cA G A) zfc zfs S ((zFp S) (f_Pat_argument S a1)) := by
  refine zMet_of ⟨Nat.le_refl _, Nat.le_refl _⟩ (by decide) tk_Pat_argument (Nat.le_of_ble_eq_true rfl) ?_
  intro p e R s m args below meth c hf hlo C0 hK hA
  unfold f_Pat_argument
  refine sw_go C0 1 (pc' := 1) (lv' := [(0, .ref (G 2)), (1, .int a1)]) (st' := [.ref (G 2)]) rfl ?_
  refine sw_getf C0 hK (o := 2) (j := 0) (v := .ref (G 12)) (by decide) rfl i_Pat (by decide) wd_1_60 rfl rfl ?_
  refine sw_go C0 1 (pc' := 5) (lv' := [(0, .ref (G 2)), (1, .int a1)]) (st' := [.int a1, .ref (G 12)]) rfl ?_
  refine sw_cp (As := [.int a1]) (rest := []) C0 hK hA yk_Row_at (c_Row_at 1 (by decide) a1) wd_2_139 rfl rfl ⟨by rw [hf]; decide, by rw [hlo]; decide⟩ (Nat.le_of_ble_eq_true rfl) (zrc_row (k := 1) hK (by decide)) ?_
  refine sw_nm (zFp S) (V := .int) (fun v1 hv1 => ?_)
  refine sw_go C0 3 (pc' := 11) (lv' := [(0, .ref (G 2)), (1, .int a1), (2, .int v1)]) (st' := [.int 2, .int v1]) rfl ?_
  refine sw_icmp_eq (zFp S) C0 rfl (fun h2 => ?_) (fun h2 => ?_)
  · refine sw_go C0 1 (pc' := 20) (lv' := [(0, .ref (G 2)), (1, .int a1), (2, .int v1)]) (st' := [.ref (G 2)]) rfl ?_
    refine sw_getf C0 hK (o := 2) (j := 3) (v := .ref (G 15)) (by decide) rfl i_Pat (by decide) wd_1_63 rfl rfl ?_
    refine sw_go C0 1 (pc' := 24) (lv' := [(0, .ref (G 2)), (1, .int a1), (2, .int v1)]) (st' := [.int a1, .ref (G 15)]) rfl ?_
    refine sw_cp (As := [.int a1]) (rest := []) C0 hK hA yk_Row_at (c_Row_at 4 (by decide) a1) wd_2_139 rfl rfl ⟨by rw [hf]; decide, by rw [hlo]; decide⟩ (Nat.le_of_ble_eq_true rfl) (zrc_row (k := 4) hK (by decide)) ?_
    refine sw_go C0 1 (pc' := 31) (lv' := [(0, .ref (G 2)), (1, .int a1), (2, .int v1)]) (st' := [.int (r_at S 4 a1)]) rfl ?_
    exact sw_reti C0 rfl rfl
  · refine sw_go C0 2 (pc' := 16) (lv' := [(0, .ref (G 2)), (1, .int a1), (2, .int v1)]) (st' := [.int 3, .int v1]) rfl ?_
    refine sw_icmp_ne (zFp S) C0 rfl (fun h3 => ?_) (fun h3 => ?_)
    · refine sw_go C0 1 (pc' := 31) (lv' := [(0, .ref (G 2)), (1, .int a1), (2, .int v1)]) (st' := [.int (-1)]) rfl ?_
      exact sw_reti C0 rfl rfl
    · refine sw_go C0 1 (pc' := 20) (lv' := [(0, .ref (G 2)), (1, .int a1), (2, .int v1)]) (st' := [.ref (G 2)]) rfl ?_
      refine sw_getf C0 hK (o := 2) (j := 3) (v := .ref (G 15)) (by decide) rfl i_Pat (by decide) wd_1_63 rfl rfl ?_
      refine sw_go C0 1 (pc' := 24) (lv' := [(0, .ref (G 2)), (1, .int a1), (2, .int v1)]) (st' := [.int a1, .ref (G 15)]) rfl ?_
      refine sw_cp (As := [.int a1]) (rest := []) C0 hK hA yk_Row_at (c_Row_at 4 (by decide) a1) wd_2_139 rfl rfl ⟨by rw [hf]; decide, by rw [hlo]; decide⟩ (Nat.le_of_ble_eq_true rfl) (zrc_row (k := 4) hK (by decide)) ?_
      refine sw_go C0 1 (pc' := 31) (lv' := [(0, .ref (G 2)), (1, .int a1), (2, .int v1)]) (st' := [.int (r_at S 4 a1)]) rfl ?_
      exact sw_reti C0 rfl rfl
def f_Pat_shape (S : zS) (a1 : Int32) : Int32 :=
  (r_at S 1 a1)
set_option maxHeartbeats 1000000 in
set_option maxRecDepth 20000 in
theorem c_Pat_shape (S : zS) (a1 : Int32) : zMet l y_Pat_shape (zw y_Pat_shape prog_8_method_4_code 2 (some Jvm.ClassFile.FieldType.int)) 1 21 [.ref (G 2), .int a1] D zcl (ztys cA) A (zRep D cA G A) zfc zfs S ((zFp S) (f_Pat_shape S a1)) := by
  refine zMet_of ⟨Nat.le_refl _, Nat.le_refl _⟩ (by decide) tk_Pat_shape (Nat.le_of_ble_eq_true rfl) ?_
  intro p e R s m args below meth c hf hlo C0 hK hA
  unfold f_Pat_shape
  refine sw_go C0 1 (pc' := 1) (lv' := [(0, .ref (G 2)), (1, .int a1)]) (st' := [.ref (G 2)]) rfl ?_
  refine sw_getf C0 hK (o := 2) (j := 0) (v := .ref (G 12)) (by decide) rfl i_Pat (by decide) wd_1_60 rfl rfl ?_
  refine sw_go C0 1 (pc' := 5) (lv' := [(0, .ref (G 2)), (1, .int a1)]) (st' := [.int a1, .ref (G 12)]) rfl ?_
  refine sw_cp (As := [.int a1]) (rest := []) C0 hK hA yk_Row_at (c_Row_at 1 (by decide) a1) wd_2_139 rfl rfl ⟨by rw [hf]; decide, by rw [hlo]; decide⟩ (Nat.le_of_ble_eq_true rfl) (zrc_row (k := 1) hK (by decide)) ?_
  exact sw_reti C0 rfl rfl
def f_Pat_sort (S : zS) (a1 : Int32) : Int32 :=
  (r_at S 2 a1)
set_option maxHeartbeats 1000000 in
set_option maxRecDepth 20000 in
theorem c_Pat_sort (S : zS) (a1 : Int32) : zMet l y_Pat_sort (zw y_Pat_sort prog_8_method_5_code 2 (some Jvm.ClassFile.FieldType.int)) 1 21 [.ref (G 2), .int a1] D zcl (ztys cA) A (zRep D cA G A) zfc zfs S ((zFp S) (f_Pat_sort S a1)) := by
  refine zMet_of ⟨Nat.le_refl _, Nat.le_refl _⟩ (by decide) tk_Pat_sort (Nat.le_of_ble_eq_true rfl) ?_
  intro p e R s m args below meth c hf hlo C0 hK hA
  unfold f_Pat_sort
  refine sw_go C0 1 (pc' := 1) (lv' := [(0, .ref (G 2)), (1, .int a1)]) (st' := [.ref (G 2)]) rfl ?_
  refine sw_getf C0 hK (o := 2) (j := 1) (v := .ref (G 13)) (by decide) rfl i_Pat (by decide) wd_1_61 rfl rfl ?_
  refine sw_go C0 1 (pc' := 5) (lv' := [(0, .ref (G 2)), (1, .int a1)]) (st' := [.int a1, .ref (G 13)]) rfl ?_
  refine sw_cp (As := [.int a1]) (rest := []) C0 hK hA yk_Row_at (c_Row_at 2 (by decide) a1) wd_2_139 rfl rfl ⟨by rw [hf]; decide, by rw [hlo]; decide⟩ (Nat.le_of_ble_eq_true rfl) (zrc_row (k := 2) hK (by decide)) ?_
  exact sw_reti C0 rfl rfl
def f_Pat_mark (S : zS) (a1 : Int32) : Int32 :=
  (r_at S 3 a1)
set_option maxHeartbeats 1000000 in
set_option maxRecDepth 20000 in
theorem c_Pat_mark (S : zS) (a1 : Int32) : zMet l y_Pat_mark (zw y_Pat_mark prog_8_method_6_code 2 (some Jvm.ClassFile.FieldType.int)) 1 21 [.ref (G 2), .int a1] D zcl (ztys cA) A (zRep D cA G A) zfc zfs S ((zFp S) (f_Pat_mark S a1)) := by
  refine zMet_of ⟨Nat.le_refl _, Nat.le_refl _⟩ (by decide) tk_Pat_mark (Nat.le_of_ble_eq_true rfl) ?_
  intro p e R s m args below meth c hf hlo C0 hK hA
  unfold f_Pat_mark
  refine sw_go C0 1 (pc' := 1) (lv' := [(0, .ref (G 2)), (1, .int a1)]) (st' := [.ref (G 2)]) rfl ?_
  refine sw_getf C0 hK (o := 2) (j := 2) (v := .ref (G 14)) (by decide) rfl i_Pat (by decide) wd_1_62 rfl rfl ?_
  refine sw_go C0 1 (pc' := 5) (lv' := [(0, .ref (G 2)), (1, .int a1)]) (st' := [.int a1, .ref (G 14)]) rfl ?_
  refine sw_cp (As := [.int a1]) (rest := []) C0 hK hA yk_Row_at (c_Row_at 3 (by decide) a1) wd_2_139 rfl rfl ⟨by rw [hf]; decide, by rw [hlo]; decide⟩ (Nat.le_of_ble_eq_true rfl) (zrc_row (k := 3) hK (by decide)) ?_
  exact sw_reti C0 rfl rfl
def f_Pat_weight (S : zS) (a1 : Int32) : Int32 :=
  (r_at S 6 a1)
set_option maxHeartbeats 1000000 in
set_option maxRecDepth 20000 in
theorem c_Pat_weight (S : zS) (a1 : Int32) : zMet l y_Pat_weight (zw y_Pat_weight prog_8_method_7_code 2 (some Jvm.ClassFile.FieldType.int)) 1 21 [.ref (G 2), .int a1] D zcl (ztys cA) A (zRep D cA G A) zfc zfs S ((zFp S) (f_Pat_weight S a1)) := by
  refine zMet_of ⟨Nat.le_refl _, Nat.le_refl _⟩ (by decide) tk_Pat_weight (Nat.le_of_ble_eq_true rfl) ?_
  intro p e R s m args below meth c hf hlo C0 hK hA
  unfold f_Pat_weight
  refine sw_go C0 1 (pc' := 1) (lv' := [(0, .ref (G 2)), (1, .int a1)]) (st' := [.ref (G 2)]) rfl ?_
  refine sw_getf C0 hK (o := 2) (j := 5) (v := .ref (G 17)) (by decide) rfl i_Pat (by decide) wd_1_65 rfl rfl ?_
  refine sw_go C0 1 (pc' := 5) (lv' := [(0, .ref (G 2)), (1, .int a1)]) (st' := [.int a1, .ref (G 17)]) rfl ?_
  refine sw_cp (As := [.int a1]) (rest := []) C0 hK hA yk_Row_at (c_Row_at 6 (by decide) a1) wd_2_139 rfl rfl ⟨by rw [hf]; decide, by rw [hlo]; decide⟩ (Nat.le_of_ble_eq_true rfl) (zrc_row (k := 6) hK (by decide)) ?_
  exact sw_reti C0 rfl rfl
def f_Pat_empty (S : zS) : zS :=
  zbind (r_emp S 1) fun S1 =>
  zbind (r_emp S1 2) fun S2 =>
  zbind (r_emp S2 3) fun S3 =>
  zbind (r_emp S3 4) fun S4 =>
  zbind (r_emp S4 5) fun S5 =>
  zbind (r_emp S5 6) fun S6 =>
  zbind (r_emp S6 7) fun S7 =>
  zbind (r_emp S7 8) fun S8 =>
  zbind (r_emp S8 9) fun S9 =>
  S9
theorem mo_Pat_empty (S : zS) : zmo S (f_Pat_empty S) := by
  unfold f_Pat_empty
  exact (mo_b (g := (fun x => x)) mo_r_emp fun S1 => (mo_b (g := (fun x => x)) mo_r_emp fun S2 => (mo_b (g := (fun x => x)) mo_r_emp fun S3 => (mo_b (g := (fun x => x)) mo_r_emp fun S4 => (mo_b (g := (fun x => x)) mo_r_emp fun S5 => (mo_b (g := (fun x => x)) mo_r_emp fun S6 => (mo_b (g := (fun x => x)) mo_r_emp fun S7 => (mo_b (g := (fun x => x)) mo_r_emp fun S8 => (mo_b (g := (fun x => x)) mo_r_emp fun S9 => zmo_rf)))))))))
set_option maxHeartbeats 1000000 in
set_option maxRecDepth 20000 in
theorem c_Pat_empty (S : zS) : zMet l y_Pat_empty (zw y_Pat_empty prog_8_method_15_code 1 none) 1 20 [.ref (G 2)] D zcl (ztys cA) A (zRep D cA G A) zfc zfs S (zFv (f_Pat_empty S)) := by
  refine zMet_of (mo_Fv (mo_Pat_empty S)) (by decide) tk_Pat_empty (Nat.le_of_ble_eq_true rfl) ?_
  intro p e R s m args below meth c hf hlo C0 hK hA
  unfold f_Pat_empty
  refine sw_go C0 1 (pc' := 1) (lv' := [(0, .ref (G 2))]) (st' := [.ref (G 2)]) rfl ?_
  refine sw_getf C0 hK (o := 2) (j := 0) (v := .ref (G 12)) (by decide) rfl i_Pat (by decide) wd_1_60 rfl rfl ?_
  refine sw_cV zFv (As := []) (rest := []) C0 hK hA yk_Row_empty (c_Row_empty 1 (by decide)) wd_3_143 rfl rfl ⟨by rw [hf]; decide, by rw [hlo]; decide⟩ (Nat.le_of_ble_eq_true rfl) (zrc_row (k := 1) hK (by decide)) (fun S1 hS1 => ?_)
  refine sw_go C0 1 (pc' := 8) (lv' := [(0, .ref (G 2))]) (st' := [.ref (G 2)]) rfl ?_
  refine sw_getf C0 hK (o := 2) (j := 1) (v := .ref (G 13)) (by decide) rfl i_Pat (by decide) wd_1_61 rfl rfl ?_
  refine sw_cV zFv (As := []) (rest := []) C0 hK hA yk_Row_empty (c_Row_empty 2 (by decide)) wd_3_143 rfl rfl ⟨by rw [hf]; decide, by rw [hlo]; decide⟩ (Nat.le_of_ble_eq_true rfl) (zrc_row (k := 2) hK (by decide)) (fun S2 hS2 => ?_)
  refine sw_go C0 1 (pc' := 15) (lv' := [(0, .ref (G 2))]) (st' := [.ref (G 2)]) rfl ?_
  refine sw_getf C0 hK (o := 2) (j := 2) (v := .ref (G 14)) (by decide) rfl i_Pat (by decide) wd_1_62 rfl rfl ?_
  refine sw_cV zFv (As := []) (rest := []) C0 hK hA yk_Row_empty (c_Row_empty 3 (by decide)) wd_3_143 rfl rfl ⟨by rw [hf]; decide, by rw [hlo]; decide⟩ (Nat.le_of_ble_eq_true rfl) (zrc_row (k := 3) hK (by decide)) (fun S3 hS3 => ?_)
  refine sw_go C0 1 (pc' := 22) (lv' := [(0, .ref (G 2))]) (st' := [.ref (G 2)]) rfl ?_
  refine sw_getf C0 hK (o := 2) (j := 3) (v := .ref (G 15)) (by decide) rfl i_Pat (by decide) wd_1_63 rfl rfl ?_
  refine sw_cV zFv (As := []) (rest := []) C0 hK hA yk_Row_empty (c_Row_empty 4 (by decide)) wd_3_143 rfl rfl ⟨by rw [hf]; decide, by rw [hlo]; decide⟩ (Nat.le_of_ble_eq_true rfl) (zrc_row (k := 4) hK (by decide)) (fun S4 hS4 => ?_)
  refine sw_go C0 1 (pc' := 29) (lv' := [(0, .ref (G 2))]) (st' := [.ref (G 2)]) rfl ?_
  refine sw_getf C0 hK (o := 2) (j := 4) (v := .ref (G 16)) (by decide) rfl i_Pat (by decide) wd_1_64 rfl rfl ?_
  refine sw_cV zFv (As := []) (rest := []) C0 hK hA yk_Row_empty (c_Row_empty 5 (by decide)) wd_3_143 rfl rfl ⟨by rw [hf]; decide, by rw [hlo]; decide⟩ (Nat.le_of_ble_eq_true rfl) (zrc_row (k := 5) hK (by decide)) (fun S5 hS5 => ?_)
  refine sw_go C0 1 (pc' := 36) (lv' := [(0, .ref (G 2))]) (st' := [.ref (G 2)]) rfl ?_
  refine sw_getf C0 hK (o := 2) (j := 5) (v := .ref (G 17)) (by decide) rfl i_Pat (by decide) wd_1_65 rfl rfl ?_
  refine sw_cV zFv (As := []) (rest := []) C0 hK hA yk_Row_empty (c_Row_empty 6 (by decide)) wd_3_143 rfl rfl ⟨by rw [hf]; decide, by rw [hlo]; decide⟩ (Nat.le_of_ble_eq_true rfl) (zrc_row (k := 6) hK (by decide)) (fun S6 hS6 => ?_)
  refine sw_go C0 1 (pc' := 43) (lv' := [(0, .ref (G 2))]) (st' := [.ref (G 2)]) rfl ?_
  refine sw_getf C0 hK (o := 2) (j := 6) (v := .ref (G 18)) (by decide) rfl i_Pat (by decide) wd_1_66 rfl rfl ?_
  refine sw_cV zFv (As := []) (rest := []) C0 hK hA yk_Row_empty (c_Row_empty 7 (by decide)) wd_3_143 rfl rfl ⟨by rw [hf]; decide, by rw [hlo]; decide⟩ (Nat.le_of_ble_eq_true rfl) (zrc_row (k := 7) hK (by decide)) (fun S7 hS7 => ?_)
  refine sw_go C0 1 (pc' := 50) (lv' := [(0, .ref (G 2))]) (st' := [.ref (G 2)]) rfl ?_
  refine sw_getf C0 hK (o := 2) (j := 7) (v := .ref (G 19)) (by decide) rfl i_Pat (by decide) wd_1_67 rfl rfl ?_
  refine sw_cV zFv (As := []) (rest := []) C0 hK hA yk_Row_empty (c_Row_empty 8 (by decide)) wd_3_143 rfl rfl ⟨by rw [hf]; decide, by rw [hlo]; decide⟩ (Nat.le_of_ble_eq_true rfl) (zrc_row (k := 8) hK (by decide)) (fun S8 hS8 => ?_)
  refine sw_go C0 1 (pc' := 57) (lv' := [(0, .ref (G 2))]) (st' := [.ref (G 2)]) rfl ?_
  refine sw_getf C0 hK (o := 2) (j := 8) (v := .ref (G 20)) (by decide) rfl i_Pat (by decide) wd_1_68 rfl rfl ?_
  refine sw_cV zFv (As := []) (rest := []) C0 hK hA yk_Row_empty (c_Row_empty 9 (by decide)) wd_3_143 rfl rfl ⟨by rw [hf]; decide, by rw [hlo]; decide⟩ (Nat.le_of_ble_eq_true rfl) (zrc_row (k := 9) hK (by decide)) (fun S9 hS9 => ?_)
  exact sw_retv C0 rfl rfl
def f_Pat_size (S : zS) : Int32 :=
  (r_size S 1)
set_option maxHeartbeats 1000000 in
set_option maxRecDepth 20000 in
theorem c_Pat_size (S : zS) : zMet l y_Pat_size (zw y_Pat_size prog_8_method_2_code 1 (some Jvm.ClassFile.FieldType.int)) 1 20 [.ref (G 2)] D zcl (ztys cA) A (zRep D cA G A) zfc zfs S ((zFp S) (f_Pat_size S)) := by
  refine zMet_of ⟨Nat.le_refl _, Nat.le_refl _⟩ (by decide) tk_Pat_size (Nat.le_of_ble_eq_true rfl) ?_
  intro p e R s m args below meth c hf hlo C0 hK hA
  unfold f_Pat_size
  refine sw_go C0 1 (pc' := 1) (lv' := [(0, .ref (G 2))]) (st' := [.ref (G 2)]) rfl ?_
  refine sw_getf C0 hK (o := 2) (j := 0) (v := .ref (G 12)) (by decide) rfl i_Pat (by decide) wd_1_60 rfl rfl ?_
  refine sw_cp (As := []) (rest := []) C0 hK hA yk_Row_size (c_Row_size 1 (by decide)) wd_2_147 rfl rfl ⟨by rw [hf]; decide, by rw [hlo]; decide⟩ (Nat.le_of_ble_eq_true rfl) (zrc_row (k := 1) hK (by decide)) ?_
  exact sw_reti C0 rfl rfl
end ZM
