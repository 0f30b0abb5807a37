-- by program: the methods of RuleTree$Families, RuleTree$Pushed, as functions, and that the code does them
section ZM
variable {cA : Nat → ClassId} {G : Nat → Nat} {A : Nat → Prop} {D : va_G} {l : Launch}
def f_Fam_add (S : zS) (a1 : Int32) (a2 : Int64) : zS × Int32 :=
  zbind (r_size S 0) fun v1 =>
  if v1 < 0 then
    (S, (-2))
  else
    if v1 < 1024 then
      zbind (z_lg S v1.toNatClampNeg a2) fun S4 =>
      zbind2 (r_add S4 0 a1) fun S5 v6 =>
      (S5, v6)
    else
      (S, (-2))
theorem mo_Fam_add (S : zS) (a1 : Int32) (a2 : Int64) : zmo S (f_Fam_add S a1 a2).1 := by
  unfold f_Fam_add
  exact (mo_n (g := Prod.fst) fun v1 => (mo_if (g := Prod.fst) zmo_rf (mo_if (g := Prod.fst) (mo_b (g := Prod.fst) mo_z_lg fun S4 => (mo_b2 (g := Prod.fst) (r_add_mono (by decide) a1) fun S5 v6 => zmo_rf)) zmo_rf)))
set_option maxHeartbeats 1000000 in
set_option maxRecDepth 20000 in
theorem c_Fam_add (S : zS) (a1 : Int32) (a2 : Int64) : zMet l y_Fam_add (zw y_Fam_add prog_2_method_3_code 5 (some Jvm.ClassFile.FieldType.int)) 3 83 [.ref (G 1), .int a1, .long a2] D zcl (ztys cA) A (zRep D cA G A) zfc zfs S (zFi (f_Fam_add S a1 a2)) := by
  refine zMet_of (mo_Fi (mo_Fam_add S a1 a2)) (by decide) tk_Fam_add (Nat.le_of_ble_eq_true rfl) ?_
  intro p e R s m args below meth c hf hlo C0 hK hA
  unfold f_Fam_add
  refine sw_go C0 1 (pc' := 1) (lv' := [(0, .ref (G 1)), (1, .int a1), (2, .long a2)]) (st' := [.ref (G 1)]) rfl ?_
  refine sw_getf C0 hK (o := 1) (j := 0) (v := .ref (G 11)) (by decide) rfl i_Fam (by decide) wd_1_44 rfl rfl ?_
  refine sw_cp (As := []) (rest := []) C0 hK hA yk_Row_size (c_Row_size 0 (by decide)) wd_2_126 rfl rfl ⟨by rw [hf]; decide, by rw [hlo]; decide⟩ (Nat.le_of_ble_eq_true rfl) (zrc_row (k := 0) hK (by decide)) ?_
  refine sw_nm zFi (V := .int) (fun v1 hv1 => ?_)
  refine sw_go C0 2 (pc' := 11) (lv' := [(0, .ref (G 1)), (1, .int a1), (2, .long a2), (4, .int v1)]) (st' := [.int v1]) rfl ?_
  refine sw_if_lt zFi C0 rfl (fun h2 => ?_) (fun h2 => ?_)
  · refine sw_go C0 1 (pc' := 26) (lv' := [(0, .ref (G 1)), (1, .int a1), (2, .long a2), (4, .int v1)]) (st' := [.int (-2)]) rfl ?_
    exact sw_reti C0 rfl rfl
  · refine sw_go C0 2 (pc' := 17) (lv' := [(0, .ref (G 1)), (1, .int a1), (2, .long a2), (4, .int v1)]) (st' := [.ref (G 1), .int v1]) rfl ?_
    refine sw_getf C0 hK (o := 1) (j := 1) (v := .ref (G 10)) (by decide) rfl i_Fam (by decide) wd_1_45 rfl rfl ?_
    refine sw_laln C0 hK rfl ?_
    refine sw_icmp_lt zFi C0 rfl (fun h3 => ?_) (fun h3 => ?_)
    · refine sw_go C0 1 (pc' := 28) (lv' := [(0, .ref (G 1)), (1, .int a1), (2, .long a2), (4, .int v1)]) (st' := [.ref (G 1)]) rfl ?_
      refine sw_getf C0 hK (o := 1) (j := 1) (v := .ref (G 10)) (by decide) rfl i_Fam (by decide) wd_1_45 rfl rfl ?_
      refine sw_go C0 2 (pc' := 34) (lv' := [(0, .ref (G 1)), (1, .int a1), (2, .long a2), (4, .int v1)]) (st' := [.long a2, .int v1, .ref (G 10)]) rfl ?_
      refine sw_last C0 hK (by assumption) (by first | assumption | exact Int32.not_le.mp (by assumption)) rfl ?_
      refine sw_st zFi (fun S4 hS4 => ?_)
      refine sw_go C0 1 (pc' := 36) (lv' := [(0, .ref (G 1)), (1, .int a1), (2, .long a2), (4, .int v1)]) (st' := [.ref (G 1)]) rfl ?_
      refine sw_getf C0 hK (o := 1) (j := 0) (v := .ref (G 11)) (by decide) rfl i_Fam (by decide) wd_1_44 rfl rfl ?_
      refine sw_go C0 1 (pc' := 40) (lv' := [(0, .ref (G 1)), (1, .int a1), (2, .long a2), (4, .int v1)]) (st' := [.int a1, .ref (G 11)]) rfl ?_
      refine sw_ci zFi (As := [.int a1]) (rest := []) C0 hK hA yk_Row_add (c_Row_add 0 (by decide) a1) wd_2_130 rfl rfl ⟨by rw [hf]; decide, by rw [hlo]; decide⟩ (Nat.le_of_ble_eq_true rfl) (zrc_row (k := 0) hK (by decide)) (fun S5 v6 hv6 => ?_)
      exact sw_reti C0 rfl rfl
    · refine sw_go C0 1 (pc' := 26) (lv' := [(0, .ref (G 1)), (1, .int a1), (2, .long a2), (4, .int v1)]) (st' := [.int (-2)]) rfl ?_
      exact sw_reti C0 rfl rfl
def f_Fam_hasTag (S : zS) (a1 : Int32) (a2 : Int32) : Int32 :=
  if a2 < 0 then
    0
  else
    if (r_at S 0 a1) ≤ a2 then
      0
    else
      1
set_option maxHeartbeats 1000000 in
set_option maxRecDepth 20000 in
theorem c_Fam_hasTag (S : zS) (a1 : Int32) (a2 : Int32) : zMet l y_Fam_hasTag (zw y_Fam_hasTag prog_2_method_5_code 3 (some Jvm.ClassFile.FieldType.boolean)) 1 21 [.ref (G 1), .int a1, .int a2] D zcl (ztys cA) A (zRep D cA G A) zfc zfs S ((zFp S) (f_Fam_hasTag S a1 a2)) := by
  refine zMet_of ⟨Nat.le_refl _, Nat.le_refl _⟩ (by decide) tk_Fam_hasTag (Nat.le_of_ble_eq_true rfl) ?_
  intro p e R s m args below meth c hf hlo C0 hK hA
  unfold f_Fam_hasTag
  refine sw_go C0 1 (pc' := 1) (lv' := [(0, .ref (G 1)), (1, .int a1), (2, .int a2)]) (st' := [.int a2]) rfl ?_
  refine sw_if_lt (zFp S) C0 rfl (fun h1 => ?_) (fun h1 => ?_)
  · refine sw_go C0 1 (pc' := 21) (lv' := [(0, .ref (G 1)), (1, .int a1), (2, .int a2)]) (st' := [.int 0]) rfl ?_
    exact sw_retz C0 rfl rfl rfl
  · refine sw_go C0 2 (pc' := 6) (lv' := [(0, .ref (G 1)), (1, .int a1), (2, .int a2)]) (st' := [.ref (G 1), .int a2]) rfl ?_
    refine sw_getf C0 hK (o := 1) (j := 0) (v := .ref (G 11)) (by decide) rfl i_Fam (by decide) wd_1_44 rfl rfl ?_
    refine sw_go C0 1 (pc' := 10) (lv' := [(0, .ref (G 1)), (1, .int a1), (2, .int a2)]) (st' := [.int a1, .ref (G 11), .int a2]) rfl ?_
    refine sw_cp (As := [.int a1]) (rest := [.int a2]) C0 hK hA yk_Row_at (c_Row_at 0 (by decide) a1) wd_2_165 rfl rfl ⟨by rw [hf]; decide, by rw [hlo]; decide⟩ (Nat.le_of_ble_eq_true rfl) (zrc_row (k := 0) hK (by decide)) ?_
    refine sw_icmp_ge (zFp S) C0 rfl (fun h2 => ?_) (fun h2 => ?_)
    · refine sw_go C0 1 (pc' := 21) (lv' := [(0, .ref (G 1)), (1, .int a1), (2, .int a2)]) (st' := [.int 0]) rfl ?_
      exact sw_retz C0 rfl rfl rfl
    · refine sw_go C0 2 (pc' := 21) (lv' := [(0, .ref (G 1)), (1, .int a1), (2, .int a2)]) (st' := [.int 1]) rfl ?_
      exact sw_retz C0 rfl rfl rfl
def f_Fam_takesArgument (S : zS) (a1 : Int32) (a2 : Int32) : Int32 :=
  if (f_Fam_hasTag S a1 a2) = 0 then
    0
  else
    if a1 < 0 then
      0
    else
      if 1024 ≤ a1 then
        0
      else
        if (lg_cmp ((z_lushr (S.2.2.2 a1.toNatClampNeg) a2) &&& 1) 0) = 0 then
          0
        else
          1
set_option maxHeartbeats 1000000 in
set_option maxRecDepth 20000 in
theorem c_Fam_takesArgument (S : zS) (a1 : Int32) (a2 : Int32) : zMet l y_Fam_takesArgument (zw y_Fam_takesArgument prog_2_method_6_code 3 (some Jvm.ClassFile.FieldType.boolean)) 2 43 [.ref (G 1), .int a1, .int a2] D zcl (ztys cA) A (zRep D cA G A) zfc zfs S ((zFp S) (f_Fam_takesArgument S a1 a2)) := by
  refine zMet_of ⟨Nat.le_refl _, Nat.le_refl _⟩ (by decide) tk_Fam_takesArgument (Nat.le_of_ble_eq_true rfl) ?_
  intro p e R s m args below meth c hf hlo C0 hK hA
  unfold f_Fam_takesArgument
  refine sw_go C0 3 (pc' := 3) (lv' := [(0, .ref (G 1)), (1, .int a1), (2, .int a2)]) (st' := [.int a2, .int a1, .ref (G 1)]) rfl ?_
  refine sw_cp (As := [.int a1, .int a2]) (rest := []) C0 hK hA yk_Fam_hasTag (c_Fam_hasTag S a1 a2) wd_2_170 rfl rfl ⟨by rw [hf]; decide, by rw [hlo]; decide⟩ (Nat.le_of_ble_eq_true rfl) (zrc_obj (o := 1) hK (by decide) rfl) ?_
  refine sw_if_eq (zFp S) C0 rfl (fun h1 => ?_) (fun h1 => ?_)
  · refine sw_go C0 1 (pc' := 42) (lv' := [(0, .ref (G 1)), (1, .int a1), (2, .int a2)]) (st' := [.int 0]) rfl ?_
    exact sw_retz C0 rfl rfl rfl
  · refine sw_go C0 1 (pc' := 10) (lv' := [(0, .ref (G 1)), (1, .int a1), (2, .int a2)]) (st' := [.int a1]) rfl ?_
    refine sw_if_lt (zFp S) C0 rfl (fun h2 => ?_) (fun h2 => ?_)
    · refine sw_go C0 1 (pc' := 42) (lv' := [(0, .ref (G 1)), (1, .int a1), (2, .int a2)]) (st' := [.int 0]) rfl ?_
      exact sw_retz C0 rfl rfl rfl
    · refine sw_go C0 2 (pc' := 15) (lv' := [(0, .ref (G 1)), (1, .int a1), (2, .int a2)]) (st' := [.ref (G 1), .int a1]) rfl ?_
      refine sw_getf C0 hK (o := 1) (j := 1) (v := .ref (G 10)) (by decide) rfl i_Fam (by decide) wd_1_45 rfl rfl ?_
      refine sw_laln C0 hK rfl ?_
      refine sw_icmp_ge (zFp S) C0 rfl (fun h3 => ?_) (fun h3 => ?_)
      · refine sw_go C0 1 (pc' := 42) (lv' := [(0, .ref (G 1)), (1, .int a1), (2, .int a2)]) (st' := [.int 0]) rfl ?_
        exact sw_retz C0 rfl rfl rfl
      · refine sw_go C0 1 (pc' := 23) (lv' := [(0, .ref (G 1)), (1, .int a1), (2, .int a2)]) (st' := [.ref (G 1)]) rfl ?_
        refine sw_getf C0 hK (o := 1) (j := 1) (v := .ref (G 10)) (by decide) rfl i_Fam (by decide) wd_1_45 rfl rfl ?_
        refine sw_go C0 1 (pc' := 27) (lv' := [(0, .ref (G 1)), (1, .int a1), (2, .int a2)]) (st' := [.int a1, .ref (G 10)]) rfl ?_
        refine sw_lald C0 hK (by assumption) (by first | assumption | exact Int32.not_le.mp (by assumption)) rfl ?_
        refine sw_go C0 6 (pc' := 34) (lv' := [(0, .ref (G 1)), (1, .int a1), (2, .int a2)]) (st' := [.int (lg_cmp ((z_lushr (S.2.2.2 a1.toNatClampNeg) a2) &&& 1) 0)]) rfl ?_
        refine sw_if_eq (zFp S) C0 rfl (fun h4 => ?_) (fun h4 => ?_)
        · refine sw_go C0 1 (pc' := 42) (lv' := [(0, .ref (G 1)), (1, .int a1), (2, .int a2)]) (st' := [.int 0]) rfl ?_
          exact sw_retz C0 rfl rfl rfl
        · refine sw_go C0 2 (pc' := 42) (lv' := [(0, .ref (G 1)), (1, .int a1), (2, .int a2)]) (st' := [.int 1]) rfl ?_
          exact sw_retz C0 rfl rfl rfl
def f_Psh_at (S : zS) (a1 : Int32) : Int32 :=
  (r_at S 10 a1)
set_option maxHeartbeats 1000000 in
set_option maxRecDepth 20000 in
theorem c_Psh_at (S : zS) (a1 : Int32) : zMet l y_Psh_at (zw y_Psh_at prog_9_method_3_code 2 (some Jvm.ClassFile.FieldType.int)) 1 21 [.ref (G 3), .int a1] D zcl (ztys cA) A (zRep D cA G A) zfc zfs S ((zFp S) (f_Psh_at S a1)) := by
  refine zMet_of ⟨Nat.le_refl _, Nat.le_refl _⟩ (by decide) tk_Psh_at (Nat.le_of_ble_eq_true rfl) ?_
  intro p e R s m args below meth c hf hlo C0 hK hA
  unfold f_Psh_at
  refine sw_go C0 1 (pc' := 1) (lv' := [(0, .ref (G 3)), (1, .int a1)]) (st' := [.ref (G 3)]) rfl ?_
  refine sw_getf C0 hK (o := 3) (j := 0) (v := .ref (G 21)) (by decide) rfl i_Psh (by decide) wd_1_121 rfl rfl ?_
  refine sw_go C0 1 (pc' := 5) (lv' := [(0, .ref (G 3)), (1, .int a1)]) (st' := [.int a1, .ref (G 21)]) rfl ?_
  refine sw_cp (As := [.int a1]) (rest := []) C0 hK hA yk_Row_at (c_Row_at 10 (by decide) a1) wd_2_187 rfl rfl ⟨by rw [hf]; decide, by rw [hlo]; decide⟩ (Nat.le_of_ble_eq_true rfl) (zrc_row (k := 10) hK (by decide)) ?_
  exact sw_reti C0 rfl rfl
def f_Psh_many (S : zS) : Int32 :=
  (S.2.2.1 2)
set_option maxHeartbeats 1000000 in
set_option maxRecDepth 20000 in
theorem c_Psh_many (S : zS) : zMet l y_Psh_many (zw y_Psh_many prog_9_method_2_code 1 (some Jvm.ClassFile.FieldType.int)) 0 0 [.ref (G 3)] D zcl (ztys cA) A (zRep D cA G A) zfc zfs S ((zFp S) (f_Psh_many S)) := by
  refine zMet_of ⟨Nat.le_refl _, Nat.le_refl _⟩ (by decide) tk_Psh_many (Nat.le_of_ble_eq_true rfl) ?_
  intro p e R s m args below meth c hf hlo C0 hK hA
  unfold f_Psh_many
  refine sw_go C0 1 (pc' := 1) (lv' := [(0, .ref (G 3))]) (st' := [.ref (G 3)]) rfl ?_
  refine sw_getf C0 hK (o := 3) (j := 1) (v := .int (S.2.2.1 2)) (by decide) rfl i_Psh (by decide) wd_1_122 rfl rfl ?_
  exact sw_reti C0 rfl rfl
def f_Psh_put (S : zS) (a1 : Int32) (a2 : Int32) : zS :=
  zbind (r_set S 10 a1 a2) fun S1 =>
  zbind (z_sc S1 2 ((S1.2.2.1 2) + 1)) fun S2 =>
  S2
theorem mo_Psh_put (S : zS) (a1 : Int32) (a2 : Int32) : zmo S (f_Psh_put S a1 a2) := by
  unfold f_Psh_put
  exact (mo_b (g := (fun x => x)) mo_r_set fun S1 => (mo_b (g := (fun x => x)) mo_z_sc fun S2 => zmo_rf))
set_option maxHeartbeats 1000000 in
set_option maxRecDepth 20000 in
theorem c_Psh_put (S : zS) (a1 : Int32) (a2 : Int32) : zMet l y_Psh_put (zw y_Psh_put prog_9_method_4_code 3 none) 1 22 [.ref (G 3), .int a1, .int a2] D zcl (ztys cA) A (zRep D cA G A) zfc zfs S (zFv (f_Psh_put S a1 a2)) := by
  refine zMet_of (mo_Fv (mo_Psh_put S a1 a2)) (by decide) tk_Psh_put (Nat.le_of_ble_eq_true rfl) ?_
  intro p e R s m args below meth c hf hlo C0 hK hA
  unfold f_Psh_put
  refine sw_go C0 1 (pc' := 1) (lv' := [(0, .ref (G 3)), (1, .int a1), (2, .int a2)]) (st' := [.ref (G 3)]) rfl ?_
  refine sw_getf C0 hK (o := 3) (j := 0) (v := .ref (G 21)) (by decide) rfl i_Psh (by decide) wd_1_121 rfl rfl ?_
  refine sw_go C0 2 (pc' := 6) (lv' := [(0, .ref (G 3)), (1, .int a1), (2, .int a2)]) (st' := [.int a2, .int a1, .ref (G 21)]) rfl ?_
  refine sw_cV zFv (As := [.int a1, .int a2]) (rest := []) C0 hK hA yk_Row_set (c_Row_set 10 (by decide) a1 a2) wd_2_192 rfl rfl ⟨by rw [hf]; decide, by rw [hlo]; decide⟩ (Nat.le_of_ble_eq_true rfl) (zrc_row (k := 10) hK (by decide)) (fun S1 hS1 => ?_)
  refine sw_go C0 2 (pc' := 11) (lv' := [(0, .ref (G 3)), (1, .int a1), (2, .int a2)]) (st' := [.ref (G 3), .ref (G 3)]) rfl ?_
  refine sw_getf C0 hK (o := 3) (j := 1) (v := .int (S1.2.2.1 2)) (by decide) rfl i_Psh (by decide) wd_1_122 rfl rfl ?_
  refine sw_go C0 2 (pc' := 16) (lv' := [(0, .ref (G 3)), (1, .int a1), (2, .int a2)]) (st' := [.int ((S1.2.2.1 2) + 1), .ref (G 3)]) rfl ?_
  refine sw_putf C0 hK (o := 3) (j := 1) (q := 2) (by decide) (by decide) rfl rfl i_Psh t_Psh_ok n_Psh (by decide) (Nat.le_of_ble_eq_true rfl) rfl (by decide +kernel) wd_1_122 rfl rfl ?_
  refine sw_st zFv (fun S2 hS2 => ?_)
  exact sw_retv C0 rfl rfl
def f_Psh_empty (S : zS) : zS :=
  zbind (r_fill S 10 128 (-1)) fun S1 =>
  zbind (z_sc S1 2 0) fun S2 =>
  S2
theorem mo_Psh_empty (S : zS) : zmo S (f_Psh_empty S) := by
  unfold f_Psh_empty
  exact (mo_b (g := (fun x => x)) (z_fl_mono (by decide) _ _) fun S1 => (mo_b (g := (fun x => x)) mo_z_sc fun S2 => zmo_rf))
set_option maxHeartbeats 1000000 in
set_option maxRecDepth 20000 in
theorem c_Psh_empty (S : zS) : zMet l y_Psh_empty (zw y_Psh_empty prog_9_method_6_code 1 none) 4 106 [.ref (G 3)] D zcl (ztys cA) A (zRep D cA G A) zfc zfs S (zFv (f_Psh_empty S)) := by
  refine zMet_of (mo_Fv (mo_Psh_empty S)) (by decide) tk_Psh_empty (Nat.le_of_ble_eq_true rfl) ?_
  intro p e R s m args below meth c hf hlo C0 hK hA
  unfold f_Psh_empty
  refine sw_go C0 1 (pc' := 1) (lv' := [(0, .ref (G 3))]) (st' := [.ref (G 3)]) rfl ?_
  refine sw_getf C0 hK (o := 3) (j := 0) (v := .ref (G 21)) (by decide) rfl i_Psh (by decide) wd_1_121 rfl rfl ?_
  refine sw_go C0 2 (pc' := 8) (lv' := [(0, .ref (G 3))]) (st' := [.int (-1), .int 128, .ref (G 21)]) rfl ?_
  refine sw_cV zFv (As := [.int 128, .int (-1)]) (rest := []) C0 hK hA yk_Row_refill (c_Row_refill 10 (by decide) 128 (-1)) wd_1_96 rfl rfl ⟨by rw [hf]; decide, by rw [hlo]; decide⟩ (Nat.le_of_ble_eq_true rfl) (zrc_row (k := 10) hK (by decide)) (fun S1 hS1 => ?_)
  refine sw_go C0 2 (pc' := 13) (lv' := [(0, .ref (G 3))]) (st' := [.int 0, .ref (G 3)]) rfl ?_
  refine sw_putf C0 hK (o := 3) (j := 1) (q := 2) (by decide) (by decide) rfl rfl i_Psh t_Psh_ok n_Psh (by decide) (Nat.le_of_ble_eq_true rfl) rfl (by decide +kernel) wd_1_122 rfl rfl ?_
  refine sw_st zFv (fun S2 hS2 => ?_)
  exact sw_retv C0 rfl rfl
def f_Psh_reachesTo_L2 : Nat → zS → Int32 → Option (Int32)
  | 0, _, _ => none
  | n + 1, S, x2 =>
    if 128 ≤ x2 then
      some 0
    else
      if (r_at S 10 x2) = (-1) then
        f_Psh_reachesTo_L2 n S (x2 + 1)
      else
        some 1
def f_Psh_reachesTo (S : zS) (a1 : Int32) : Option (Int32) :=
  f_Psh_reachesTo_L2 zbig S a1
set_option maxHeartbeats 1000000 in
set_option maxRecDepth 20000 in
theorem c_Psh_reachesTo (S : zS) (a1 : Int32) : ∀ r, f_Psh_reachesTo S a1 = some r → zMet l y_Psh_reachesTo (zw y_Psh_reachesTo prog_9_method_5_code 3 (some Jvm.ClassFile.FieldType.boolean)) 1 21 [.ref (G 3), .int a1] D zcl (ztys cA) A (zRep D cA G A) zfc zfs S ((zFp S) r) := by
  intro r hr
  refine zMet_of ⟨Nat.le_refl _, Nat.le_refl _⟩ (by decide) tk_Psh_reachesTo (Nat.le_of_ble_eq_true rfl) ?_
  intro p e R s m args below meth c hf hlo C0 hK hA
  have lp2 : ∀ (n : Nat) (x2 : Int32), zSO p l e R s m args below meth c 3 A D cA G S 2 [(0, .ref (G 3)), (2, .int x2)] [] (zFp S) (f_Psh_reachesTo_L2 n S x2) := by
    intro n
    induction n with
    | zero =>
      intro x2
      rw [f_Psh_reachesTo_L2]
      exact so_none
    | succ n ih2 =>
      intro x2
      rw [f_Psh_reachesTo_L2]
      refine so_go C0 2 (pc' := 6) (lv' := [(0, .ref (G 3)), (2, .int x2)]) (st' := [.int 128, .int x2]) rfl ?_
      refine so_icmp_ge C0 rfl (fun h1 => ?_) (fun h1 => ?_)
      · refine so_go C0 1 (pc' := 30) (lv' := [(0, .ref (G 3)), (2, .int x2)]) (st' := [.int 0]) rfl ?_
        exact so_retz C0 rfl rfl rfl
      · refine so_go C0 1 (pc' := 10) (lv' := [(0, .ref (G 3)), (2, .int x2)]) (st' := [.ref (G 3)]) rfl ?_
        refine so_getf C0 hK (o := 3) (j := 0) (v := .ref (G 21)) (by decide) rfl i_Psh (by decide) wd_1_121 rfl rfl ?_
        refine so_go C0 1 (pc' := 14) (lv' := [(0, .ref (G 3)), (2, .int x2)]) (st' := [.int x2, .ref (G 21)]) rfl ?_
        refine so_cp (As := [.int x2]) (rest := []) C0 hK hA yk_Row_at (c_Row_at 10 (by decide) x2) wd_2_187 rfl rfl ⟨by rw [hf]; decide, by rw [hlo]; decide⟩ (Nat.le_of_ble_eq_true rfl) (zrc_row (k := 10) hK (by decide)) ?_
        refine so_go C0 1 (pc' := 18) (lv' := [(0, .ref (G 3)), (2, .int x2)]) (st' := [.int (-1), .int (r_at S 10 x2)]) rfl ?_
        refine so_icmp_eq C0 rfl (fun h2 => ?_) (fun h2 => ?_)
        · refine so_go C0 2 (pc' := 2) (lv' := [(0, .ref (G 3)), (2, .int (x2 + 1))]) (st' := []) rfl ?_
          exact so_sub (lv' := [(0, .ref (G 3)), (2, .int (x2 + 1))]) (zpk [0, 1] rfl) (ih2 (x2 + 1))
        · refine so_go C0 1 (pc' := 22) (lv' := [(0, .ref (G 3)), (2, .int x2)]) (st' := [.int 1]) rfl ?_
          exact so_retz C0 rfl rfl rfl
  have K : zSO p l e R s m args below meth c 3 A D cA G S 0 (lv_args 0 [.ref (G 3), .int a1]) [] (zFp S) (f_Psh_reachesTo S a1) := by
    unfold f_Psh_reachesTo
    refine so_go C0 2 (pc' := 2) (lv' := [(0, .ref (G 3)), (1, .int a1), (2, .int a1)]) (st' := []) rfl ?_
    exact so_sub (lv' := [(0, .ref (G 3)), (2, .int a1)]) (zpk [0, 2] rfl) (lp2 zbig a1)
  exact K r hr
def f_Fam_empty (S : zS) : zS :=
  zbind (r_emp S 0) fun S1 =>
  S1
theorem mo_Fam_empty (S : zS) : zmo S (f_Fam_empty S) := by
  unfold f_Fam_empty
  exact (mo_b (g := (fun x => x)) mo_r_emp fun S1 => zmo_rf)
set_option maxHeartbeats 1000000 in
set_option maxRecDepth 20000 in
theorem c_Fam_empty (S : zS) : zMet l y_Fam_empty (zw y_Fam_empty prog_2_method_7_code 1 none) 1 20 [.ref (G 1)] D zcl (ztys cA) A (zRep D cA G A) zfc zfs S (zFv (f_Fam_empty S)) := by
  refine zMet_of (mo_Fv (mo_Fam_empty S)) (by decide) tk_Fam_empty (Nat.le_of_ble_eq_true rfl) ?_
  intro p e R s m args below meth c hf hlo C0 hK hA
  unfold f_Fam_empty
  refine sw_go C0 1 (pc' := 1) (lv' := [(0, .ref (G 1))]) (st' := [.ref (G 1)]) rfl ?_
  refine sw_getf C0 hK (o := 1) (j := 0) (v := .ref (G 11)) (by decide) rfl i_Fam (by decide) wd_1_44 rfl rfl ?_
  refine sw_cV zFv (As := []) (rest := []) C0 hK hA yk_Row_empty (c_Row_empty 0 (by decide)) wd_3_138 rfl rfl ⟨by rw [hf]; decide, by rw [hlo]; decide⟩ (Nat.le_of_ble_eq_true rfl) (zrc_row (k := 0) hK (by decide)) (fun S1 hS1 => ?_)
  exact sw_retv C0 rfl rfl
def f_Fam_tags (S : zS) (a1 : Int32) : Int32 :=
  (r_at S 0 a1)
set_option maxHeartbeats 1000000 in
set_option maxRecDepth 20000 in
theorem c_Fam_tags (S : zS) (a1 : Int32) : zMet l y_Fam_tags (zw y_Fam_tags prog_2_method_4_code 2 (some Jvm.ClassFile.FieldType.int)) 1 21 [.ref (G 1), .int a1] D zcl (ztys cA) A (zRep D cA G A) zfc zfs S ((zFp S) (f_Fam_tags S a1)) := by
  refine zMet_of ⟨Nat.le_refl _, Nat.le_refl _⟩ (by decide) tk_Fam_tags (Nat.le_of_ble_eq_true rfl) ?_
  intro p e R s m args below meth c hf hlo C0 hK hA
  unfold f_Fam_tags
  refine sw_go C0 1 (pc' := 1) (lv' := [(0, .ref (G 1)), (1, .int a1)]) (st' := [.ref (G 1)]) rfl ?_
  refine sw_getf C0 hK (o := 1) (j := 0) (v := .ref (G 11)) (by decide) rfl i_Fam (by decide) wd_1_44 rfl rfl ?_
  refine sw_go C0 1 (pc' := 5) (lv' := [(0, .ref (G 1)), (1, .int a1)]) (st' := [.int a1, .ref (G 11)]) rfl ?_
  refine sw_cp (As := [.int a1]) (rest := []) C0 hK hA yk_Row_at (c_Row_at 0 (by decide) a1) wd_2_165 rfl rfl ⟨by rw [hf]; decide, by rw [hlo]; decide⟩ (Nat.le_of_ble_eq_true rfl) (zrc_row (k := 0) hK (by decide)) ?_
  exact sw_reti C0 rfl rfl
def f_Fam_size (S : zS) : Int32 :=
  (r_size S 0)
set_option maxHeartbeats 1000000 in
set_option maxRecDepth 20000 in
theorem c_Fam_size (S : zS) : zMet l y_Fam_size (zw y_Fam_size prog_2_method_2_code 1 (some Jvm.ClassFile.FieldType.int)) 1 20 [.ref (G 1)] D zcl (ztys cA) A (zRep D cA G A) zfc zfs S ((zFp S) (f_Fam_size S)) := by
  refine zMet_of ⟨Nat.le_refl _, Nat.le_refl _⟩ (by decide) tk_Fam_size (Nat.le_of_ble_eq_true rfl) ?_
  intro p e R s m args below meth c hf hlo C0 hK hA
  unfold f_Fam_size
  refine sw_go C0 1 (pc' := 1) (lv' := [(0, .ref (G 1))]) (st' := [.ref (G 1)]) rfl ?_
  refine sw_getf C0 hK (o := 1) (j := 0) (v := .ref (G 11)) (by decide) rfl i_Fam (by decide) wd_1_44 rfl rfl ?_
  refine sw_cp (As := []) (rest := []) C0 hK hA yk_Row_size (c_Row_size 0 (by decide)) wd_2_126 rfl rfl ⟨by rw [hf]; decide, by rw [hlo]; decide⟩ (Nat.le_of_ble_eq_true rfl) (zrc_row (k := 0) hK (by decide)) ?_
  exact sw_reti C0 rfl rfl
end ZM
