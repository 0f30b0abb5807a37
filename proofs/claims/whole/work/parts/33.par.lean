-- by program: the methods of RuleTree$Parts, as functions, and that the code does them
section ZM
variable {cA : Nat → ClassId} {G : Nat → Nat} {A : Nat → Prop} {D : va_G} {l : Launch}
def f_Par_addPart (S : zS) (a1 : Int32) (a2 : Int32) : zS × Int32 :=
  zbind2 (r_add S 14 0) fun S1 v2 =>
  zbind2 (r_add S1 15 a1) fun S3 v4 =>
  zbind2 (r_add S3 16 a2) fun S5 v6 =>
  zbind2 (r_add S5 17 (-1)) fun S7 v8 =>
  zbind2 (r_add S7 13 0) fun S9 v10 =>
  (S9, v10)
theorem mo_Par_addPart (S : zS) (a1 : Int32) (a2 : Int32) : zmo S (f_Par_addPart S a1 a2).1 := by
  unfold f_Par_addPart
  exact (mo_b2 (g := Prod.fst) (r_add_mono (by decide) 0) fun S1 v2 => (mo_b2 (g := Prod.fst) (r_add_mono (by decide) a1) fun S3 v4 => (mo_b2 (g := Prod.fst) (r_add_mono (by decide) a2) fun S5 v6 => (mo_b2 (g := Prod.fst) (r_add_mono (by decide) (-1)) fun S7 v8 => (mo_b2 (g := Prod.fst) (r_add_mono (by decide) 0) fun S9 v10 => zmo_rf)))))
set_option maxHeartbeats 1000000 in
set_option maxRecDepth 20000 in
theorem c_Par_addPart (S : zS) (a1 : Int32) (a2 : Int32) : zMet l y_Par_addPart (zw y_Par_addPart prog_7_method_31_code 3 (some Jvm.ClassFile.FieldType.int)) 3 83 [.ref (G 5), .int a1, .int a2] D zcl (ztys cA) A (zRep D cA G A) zfc zfs S (zFi (f_Par_addPart S a1 a2)) := by
  refine zMet_of (mo_Fi (mo_Par_addPart S a1 a2)) (by decide) tk_Par_addPart (Nat.le_of_ble_eq_true rfl) ?_
  intro p e R s m args below meth c hf hlo C0 hK hA
  unfold f_Par_addPart
  refine sw_go C0 1 (pc' := 1) (lv' := [(0, .ref (G 5)), (1, .int a1), (2, .int a2)]) (st' := [.ref (G 5)]) rfl ?_
  refine sw_getf C0 hK (o := 5) (j := 2) (v := .ref (G 25)) (by decide) rfl i_Par (by decide) wd_1_160 rfl rfl ?_
  refine sw_go C0 1 (pc' := 5) (lv' := [(0, .ref (G 5)), (1, .int a1), (2, .int a2)]) (st' := [.int 0, .ref (G 25)]) rfl ?_
  refine sw_ci zFi (As := [.int 0]) (rest := []) C0 hK hA yk_Row_add (c_Row_add 14 (by decide) 0) wd_1_157 rfl rfl ⟨by rw [hf]; decide, by rw [hlo]; decide⟩ (Nat.le_of_ble_eq_true rfl) (zrc_row (k := 14) hK (by decide)) (fun S1 v2 hv2 => ?_)
  refine sw_go C0 2 (pc' := 10) (lv' := [(0, .ref (G 5)), (1, .int a1), (2, .int a2)]) (st' := [.ref (G 5)]) rfl ?_
  refine sw_getf C0 hK (o := 5) (j := 3) (v := .ref (G 26)) (by decide) rfl i_Par (by decide) wd_1_161 rfl rfl ?_
  refine sw_go C0 1 (pc' := 14) (lv' := [(0, .ref (G 5)), (1, .int a1), (2, .int a2)]) (st' := [.int a1, .ref (G 26)]) rfl ?_
  refine sw_ci zFi (As := [.int a1]) (rest := []) C0 hK hA yk_Row_add (c_Row_add 15 (by decide) a1) wd_1_157 rfl rfl ⟨by rw [hf]; decide, by rw [hlo]; decide⟩ (Nat.le_of_ble_eq_true rfl) (zrc_row (k := 15) hK (by decide)) (fun S3 v4 hv4 => ?_)
  refine sw_go C0 2 (pc' := 19) (lv' := [(0, .ref (G 5)), (1, .int a1), (2, .int a2)]) (st' := [.ref (G 5)]) rfl ?_
  refine sw_getf C0 hK (o := 5) (j := 4) (v := .ref (G 27)) (by decide) rfl i_Par (by decide) wd_1_162 rfl rfl ?_
  refine sw_go C0 1 (pc' := 23) (lv' := [(0, .ref (G 5)), (1, .int a1), (2, .int a2)]) (st' := [.int a2, .ref (G 27)]) rfl ?_
  refine sw_ci zFi (As := [.int a2]) (rest := []) C0 hK hA yk_Row_add (c_Row_add 16 (by decide) a2) wd_1_157 rfl rfl ⟨by rw [hf]; decide, by rw [hlo]; decide⟩ (Nat.le_of_ble_eq_true rfl) (zrc_row (k := 16) hK (by decide)) (fun S5 v6 hv6 => ?_)
  refine sw_go C0 2 (pc' := 28) (lv' := [(0, .ref (G 5)), (1, .int a1), (2, .int a2)]) (st' := [.ref (G 5)]) rfl ?_
  refine sw_getf C0 hK (o := 5) (j := 5) (v := .ref (G 28)) (by decide) rfl i_Par (by decide) wd_1_163 rfl rfl ?_
  refine sw_go C0 1 (pc' := 32) (lv' := [(0, .ref (G 5)), (1, .int a1), (2, .int a2)]) (st' := [.int (-1), .ref (G 28)]) rfl ?_
  refine sw_ci zFi (As := [.int (-1)]) (rest := []) C0 hK hA yk_Row_add (c_Row_add 17 (by decide) (-1)) wd_1_157 rfl rfl ⟨by rw [hf]; decide, by rw [hlo]; decide⟩ (Nat.le_of_ble_eq_true rfl) (zrc_row (k := 17) hK (by decide)) (fun S7 v8 hv8 => ?_)
  refine sw_go C0 2 (pc' := 37) (lv' := [(0, .ref (G 5)), (1, .int a1), (2, .int a2)]) (st' := [.ref (G 5)]) rfl ?_
  refine sw_getf C0 hK (o := 5) (j := 1) (v := .ref (G 24)) (by decide) rfl i_Par (by decide) wd_1_159 rfl rfl ?_
  refine sw_go C0 1 (pc' := 41) (lv' := [(0, .ref (G 5)), (1, .int a1), (2, .int a2)]) (st' := [.int 0, .ref (G 24)]) rfl ?_
  refine sw_ci zFi (As := [.int 0]) (rest := []) C0 hK hA yk_Row_add (c_Row_add 13 (by decide) 0) wd_1_157 rfl rfl ⟨by rw [hf]; decide, by rw [hlo]; decide⟩ (Nat.le_of_ble_eq_true rfl) (zrc_row (k := 13) hK (by decide)) (fun S9 v10 hv10 => ?_)
  exact sw_reti C0 rfl rfl
def f_Par_childFor (S : zS) (a1 : Int32) (a2 : Int32) : zS × Int32 :=
  if ¬ (r_at S 20 a2) = (-1) then
    (S, (r_at S 20 a2))
  else
    zbind2 (f_Par_addPart S a1 a2) fun S2 v3 =>
    zbind (r_set S2 20 a2 v3) fun S4 =>
    (S4, (r_at S4 20 a2))
theorem mo_Par_childFor (S : zS) (a1 : Int32) (a2 : Int32) : zmo S (f_Par_childFor S a1 a2).1 := by
  unfold f_Par_childFor
  exact (mo_if (g := Prod.fst) zmo_rf (mo_b2 (g := Prod.fst) (mo_Par_addPart S a1 a2) fun S2 v3 => (mo_b (g := Prod.fst) mo_r_set fun S4 => zmo_rf)))
set_option maxHeartbeats 1000000 in
set_option maxRecDepth 20000 in
theorem c_Par_childFor (S : zS) (a1 : Int32) (a2 : Int32) : zMet l y_Par_childFor (zw y_Par_childFor prog_7_method_30_code 3 (some Jvm.ClassFile.FieldType.int)) 4 105 [.ref (G 5), .int a1, .int a2] D zcl (ztys cA) A (zRep D cA G A) zfc zfs S (zFi (f_Par_childFor S a1 a2)) := by
  refine zMet_of (mo_Fi (mo_Par_childFor S a1 a2)) (by decide) tk_Par_childFor (Nat.le_of_ble_eq_true rfl) ?_
  intro p e R s m args below meth c hf hlo C0 hK hA
  unfold f_Par_childFor
  refine sw_go C0 1 (pc' := 1) (lv' := [(0, .ref (G 5)), (1, .int a1), (2, .int a2)]) (st' := [.ref (G 5)]) rfl ?_
  refine sw_getf C0 hK (o := 5) (j := 8) (v := .ref (G 31)) (by decide) rfl i_Par (by decide) wd_1_166 rfl rfl ?_
  refine sw_go C0 1 (pc' := 5) (lv' := [(0, .ref (G 5)), (1, .int a1), (2, .int a2)]) (st' := [.int a2, .ref (G 31)]) rfl ?_
  refine sw_cp (As := [.int a2]) (rest := []) C0 hK hA yk_Row_at (c_Row_at 20 (by decide) a2) wd_3_93 rfl rfl ⟨by rw [hf]; decide, by rw [hlo]; decide⟩ (Nat.le_of_ble_eq_true rfl) (zrc_row (k := 20) hK (by decide)) ?_
  refine sw_go C0 1 (pc' := 9) (lv' := [(0, .ref (G 5)), (1, .int a1), (2, .int a2)]) (st' := [.int (-1), .int (r_at S 20 a2)]) rfl ?_
  refine sw_icmp_ne zFi C0 rfl (fun h1 => ?_) (fun h1 => ?_)
  · refine sw_go C0 1 (pc' := 27) (lv' := [(0, .ref (G 5)), (1, .int a1), (2, .int a2)]) (st' := [.ref (G 5)]) rfl ?_
    refine sw_getf C0 hK (o := 5) (j := 8) (v := .ref (G 31)) (by decide) rfl i_Par (by decide) wd_1_166 rfl rfl ?_
    refine sw_go C0 1 (pc' := 31) (lv' := [(0, .ref (G 5)), (1, .int a1), (2, .int a2)]) (st' := [.int a2, .ref (G 31)]) rfl ?_
    refine sw_cp (As := [.int a2]) (rest := []) C0 hK hA yk_Row_at (c_Row_at 20 (by decide) a2) wd_3_93 rfl rfl ⟨by rw [hf]; decide, by rw [hlo]; decide⟩ (Nat.le_of_ble_eq_true rfl) (zrc_row (k := 20) hK (by decide)) ?_
    exact sw_reti C0 rfl rfl
  · refine sw_go C0 1 (pc' := 13) (lv' := [(0, .ref (G 5)), (1, .int a1), (2, .int a2)]) (st' := [.ref (G 5)]) rfl ?_
    refine sw_getf C0 hK (o := 5) (j := 8) (v := .ref (G 31)) (by decide) rfl i_Par (by decide) wd_1_166 rfl rfl ?_
    refine sw_go C0 4 (pc' := 20) (lv' := [(0, .ref (G 5)), (1, .int a1), (2, .int a2)]) (st' := [.int a2, .int a1, .ref (G 5), .int a2, .ref (G 31)]) rfl ?_
    refine sw_ci zFi (As := [.int a1, .int a2]) (rest := [.int a2, .ref (G 31)]) C0 hK hA yk_Par_addPart (c_Par_addPart S a1 a2) wd_1_153 rfl rfl ⟨by rw [hf]; decide, by rw [hlo]; decide⟩ (Nat.le_of_ble_eq_true rfl) (zrc_obj (o := 5) hK (by decide) rfl) (fun S2 v3 hv3 => ?_)
    refine sw_cV zFi (As := [.int a2, .int v3]) (rest := []) C0 hK hA yk_Row_set (c_Row_set 20 (by decide) a2 v3) wd_3_81 rfl rfl ⟨by rw [hf]; decide, by rw [hlo]; decide⟩ (Nat.le_of_ble_eq_true rfl) (zrc_row (k := 20) hK (by decide)) (fun S4 hS4 => ?_)
    refine sw_go C0 1 (pc' := 27) (lv' := [(0, .ref (G 5)), (1, .int a1), (2, .int a2)]) (st' := [.ref (G 5)]) rfl ?_
    refine sw_getf C0 hK (o := 5) (j := 8) (v := .ref (G 31)) (by decide) rfl i_Par (by decide) wd_1_166 rfl rfl ?_
    refine sw_go C0 1 (pc' := 31) (lv' := [(0, .ref (G 5)), (1, .int a1), (2, .int a2)]) (st' := [.int a2, .ref (G 31)]) rfl ?_
    refine sw_cp (As := [.int a2]) (rest := []) C0 hK hA yk_Row_at (c_Row_at 20 (by decide) a2) wd_3_93 rfl rfl ⟨by rw [hf]; decide, by rw [hlo]; decide⟩ (Nat.le_of_ble_eq_true rfl) (zrc_row (k := 20) hK (by decide)) ?_
    exact sw_reti C0 rfl rfl
def f_Par_edgeAfter (S : zS) (a1 : Int32) (a2 : Int32) : Int32 :=
  if ¬ a2 = (-1) then
    (r_at S 19 a2)
  else
    (r_at S 17 a1)
set_option maxHeartbeats 1000000 in
set_option maxRecDepth 20000 in
theorem c_Par_edgeAfter (S : zS) (a1 : Int32) (a2 : Int32) : zMet l y_Par_edgeAfter (zw y_Par_edgeAfter prog_7_method_28_code 3 (some Jvm.ClassFile.FieldType.int)) 1 21 [.ref (G 5), .int a1, .int a2] D zcl (ztys cA) A (zRep D cA G A) zfc zfs S ((zFp S) (f_Par_edgeAfter S a1 a2)) := by
  refine zMet_of ⟨Nat.le_refl _, Nat.le_refl _⟩ (by decide) tk_Par_edgeAfter (Nat.le_of_ble_eq_true rfl) ?_
  intro p e R s m args below meth c hf hlo C0 hK hA
  unfold f_Par_edgeAfter
  refine sw_go C0 2 (pc' := 2) (lv' := [(0, .ref (G 5)), (1, .int a1), (2, .int a2)]) (st' := [.int (-1), .int a2]) rfl ?_
  refine sw_icmp_ne (zFp S) C0 rfl (fun h1 => ?_) (fun h1 => ?_)
  · refine sw_go C0 1 (pc' := 17) (lv' := [(0, .ref (G 5)), (1, .int a1), (2, .int a2)]) (st' := [.ref (G 5)]) rfl ?_
    refine sw_getf C0 hK (o := 5) (j := 7) (v := .ref (G 30)) (by decide) rfl i_Par (by decide) wd_1_165 rfl rfl ?_
    refine sw_go C0 1 (pc' := 21) (lv' := [(0, .ref (G 5)), (1, .int a1), (2, .int a2)]) (st' := [.int a2, .ref (G 30)]) rfl ?_
    refine sw_cp (As := [.int a2]) (rest := []) C0 hK hA yk_Row_at (c_Row_at 19 (by decide) a2) wd_3_93 rfl rfl ⟨by rw [hf]; decide, by rw [hlo]; decide⟩ (Nat.le_of_ble_eq_true rfl) (zrc_row (k := 19) hK (by decide)) ?_
    exact sw_reti C0 rfl rfl
  · refine sw_go C0 1 (pc' := 6) (lv' := [(0, .ref (G 5)), (1, .int a1), (2, .int a2)]) (st' := [.ref (G 5)]) rfl ?_
    refine sw_getf C0 hK (o := 5) (j := 5) (v := .ref (G 28)) (by decide) rfl i_Par (by decide) wd_1_163 rfl rfl ?_
    refine sw_go C0 1 (pc' := 10) (lv' := [(0, .ref (G 5)), (1, .int a1), (2, .int a2)]) (st' := [.int a1, .ref (G 28)]) rfl ?_
    refine sw_cp (As := [.int a1]) (rest := []) C0 hK hA yk_Row_at (c_Row_at 17 (by decide) a1) wd_3_93 rfl rfl ⟨by rw [hf]; decide, by rw [hlo]; decide⟩ (Nat.le_of_ble_eq_true rfl) (zrc_row (k := 17) hK (by decide)) ?_
    refine sw_go C0 1 (pc' := 24) (lv' := [(0, .ref (G 5)), (1, .int a1), (2, .int a2)]) (st' := [.int (r_at S 17 a1)]) rfl ?_
    exact sw_reti C0 rfl rfl
def f_Par_addEdge (S : zS) (a1 : Int32) (a2 : Int32) (a3 : Int32) : zS × Int32 :=
  zbind2 (r_add S 19 (f_Par_edgeAfter S a1 a2)) fun S1 v2 =>
  zbind2 (r_add S1 20 (-1)) fun S3 v4 =>
  zbind2 (r_add S3 21 (-1)) fun S5 v6 =>
  zbind2 (r_add S5 18 a3) fun S7 v8 =>
  if ¬ a2 = (-1) then
    zbind (r_set S7 19 a2 v8) fun S10 =>
    (S10, v8)
  else
    zbind (r_set S7 17 a1 v8) fun S11 =>
    (S11, v8)
theorem mo_Par_addEdge (S : zS) (a1 : Int32) (a2 : Int32) (a3 : Int32) : zmo S (f_Par_addEdge S a1 a2 a3).1 := by
  unfold f_Par_addEdge
  exact (mo_b2 (g := Prod.fst) (r_add_mono (by decide) (f_Par_edgeAfter S a1 a2)) fun S1 v2 => (mo_b2 (g := Prod.fst) (r_add_mono (by decide) (-1)) fun S3 v4 => (mo_b2 (g := Prod.fst) (r_add_mono (by decide) (-1)) fun S5 v6 => (mo_b2 (g := Prod.fst) (r_add_mono (by decide) a3) fun S7 v8 => (mo_if (g := Prod.fst) (mo_b (g := Prod.fst) mo_r_set fun S10 => zmo_rf) (mo_b (g := Prod.fst) mo_r_set fun S11 => zmo_rf))))))
set_option maxHeartbeats 1000000 in
set_option maxRecDepth 20000 in
theorem c_Par_addEdge (S : zS) (a1 : Int32) (a2 : Int32) (a3 : Int32) : zMet l y_Par_addEdge (zw y_Par_addEdge prog_7_method_29_code 5 (some Jvm.ClassFile.FieldType.int)) 3 83 [.ref (G 5), .int a1, .int a2, .int a3] D zcl (ztys cA) A (zRep D cA G A) zfc zfs S (zFi (f_Par_addEdge S a1 a2 a3)) := by
  refine zMet_of (mo_Fi (mo_Par_addEdge S a1 a2 a3)) (by decide) tk_Par_addEdge (Nat.le_of_ble_eq_true rfl) ?_
  intro p e R s m args below meth c hf hlo C0 hK hA
  unfold f_Par_addEdge
  refine sw_go C0 1 (pc' := 1) (lv' := [(0, .ref (G 5)), (1, .int a1), (2, .int a2), (3, .int a3)]) (st' := [.ref (G 5)]) rfl ?_
  refine sw_getf C0 hK (o := 5) (j := 7) (v := .ref (G 30)) (by decide) rfl i_Par (by decide) wd_1_165 rfl rfl ?_
  refine sw_go C0 3 (pc' := 7) (lv' := [(0, .ref (G 5)), (1, .int a1), (2, .int a2), (3, .int a3)]) (st' := [.int a2, .int a1, .ref (G 5), .ref (G 30)]) rfl ?_
  refine sw_cp (As := [.int a1, .int a2]) (rest := [.ref (G 30)]) C0 hK hA yk_Par_edgeAfter (c_Par_edgeAfter S a1 a2) wd_3_94 rfl rfl ⟨by rw [hf]; decide, by rw [hlo]; decide⟩ (Nat.le_of_ble_eq_true rfl) (zrc_obj (o := 5) hK (by decide) rfl) ?_
  refine sw_ci zFi (As := [.int (f_Par_edgeAfter S a1 a2)]) (rest := []) C0 hK hA yk_Row_add (c_Row_add 19 (by decide) (f_Par_edgeAfter S a1 a2)) wd_1_157 rfl rfl ⟨by rw [hf]; decide, by rw [hlo]; decide⟩ (Nat.le_of_ble_eq_true rfl) (zrc_row (k := 19) hK (by decide)) (fun S1 v2 hv2 => ?_)
  refine sw_go C0 2 (pc' := 15) (lv' := [(0, .ref (G 5)), (1, .int a1), (2, .int a2), (3, .int a3)]) (st' := [.ref (G 5)]) rfl ?_
  refine sw_getf C0 hK (o := 5) (j := 8) (v := .ref (G 31)) (by decide) rfl i_Par (by decide) wd_1_166 rfl rfl ?_
  refine sw_go C0 1 (pc' := 19) (lv' := [(0, .ref (G 5)), (1, .int a1), (2, .int a2), (3, .int a3)]) (st' := [.int (-1), .ref (G 31)]) rfl ?_
  refine sw_ci zFi (As := [.int (-1)]) (rest := []) C0 hK hA yk_Row_add (c_Row_add 20 (by decide) (-1)) wd_1_157 rfl rfl ⟨by rw [hf]; decide, by rw [hlo]; decide⟩ (Nat.le_of_ble_eq_true rfl) (zrc_row (k := 20) hK (by decide)) (fun S3 v4 hv4 => ?_)
  refine sw_go C0 2 (pc' := 24) (lv' := [(0, .ref (G 5)), (1, .int a1), (2, .int a2), (3, .int a3)]) (st' := [.ref (G 5)]) rfl ?_
  refine sw_getf C0 hK (o := 5) (j := 9) (v := .ref (G 32)) (by decide) rfl i_Par (by decide) wd_1_167 rfl rfl ?_
  refine sw_go C0 1 (pc' := 28) (lv' := [(0, .ref (G 5)), (1, .int a1), (2, .int a2), (3, .int a3)]) (st' := [.int (-1), .ref (G 32)]) rfl ?_
  refine sw_ci zFi (As := [.int (-1)]) (rest := []) C0 hK hA yk_Row_add (c_Row_add 21 (by decide) (-1)) wd_1_157 rfl rfl ⟨by rw [hf]; decide, by rw [hlo]; decide⟩ (Nat.le_of_ble_eq_true rfl) (zrc_row (k := 21) hK (by decide)) (fun S5 v6 hv6 => ?_)
  refine sw_go C0 2 (pc' := 33) (lv' := [(0, .ref (G 5)), (1, .int a1), (2, .int a2), (3, .int a3)]) (st' := [.ref (G 5)]) rfl ?_
  refine sw_getf C0 hK (o := 5) (j := 6) (v := .ref (G 29)) (by decide) rfl i_Par (by decide) wd_1_164 rfl rfl ?_
  refine sw_go C0 1 (pc' := 37) (lv' := [(0, .ref (G 5)), (1, .int a1), (2, .int a2), (3, .int a3)]) (st' := [.int a3, .ref (G 29)]) rfl ?_
  refine sw_ci zFi (As := [.int a3]) (rest := []) C0 hK hA yk_Row_add (c_Row_add 18 (by decide) a3) wd_1_157 rfl rfl ⟨by rw [hf]; decide, by rw [hlo]; decide⟩ (Nat.le_of_ble_eq_true rfl) (zrc_row (k := 18) hK (by decide)) (fun S7 v8 hv8 => ?_)
  refine sw_go C0 3 (pc' := 44) (lv' := [(0, .ref (G 5)), (1, .int a1), (2, .int a2), (3, .int a3), (4, .int v8)]) (st' := [.int (-1), .int a2]) rfl ?_
  refine sw_icmp_ne zFi C0 rfl (fun h9 => ?_) (fun h9 => ?_)
  · refine sw_go C0 1 (pc' := 61) (lv' := [(0, .ref (G 5)), (1, .int a1), (2, .int a2), (3, .int a3), (4, .int v8)]) (st' := [.ref (G 5)]) rfl ?_
    refine sw_getf C0 hK (o := 5) (j := 7) (v := .ref (G 30)) (by decide) rfl i_Par (by decide) wd_1_165 rfl rfl ?_
    refine sw_go C0 2 (pc' := 67) (lv' := [(0, .ref (G 5)), (1, .int a1), (2, .int a2), (3, .int a3), (4, .int v8)]) (st' := [.int v8, .int a2, .ref (G 30)]) rfl ?_
    refine sw_cV zFi (As := [.int a2, .int v8]) (rest := []) C0 hK hA yk_Row_set (c_Row_set 19 (by decide) a2 v8) wd_3_81 rfl rfl ⟨by rw [hf]; decide, by rw [hlo]; decide⟩ (Nat.le_of_ble_eq_true rfl) (zrc_row (k := 19) hK (by decide)) (fun S10 hS10 => ?_)
    refine sw_go C0 1 (pc' := 72) (lv' := [(0, .ref (G 5)), (1, .int a1), (2, .int a2), (3, .int a3), (4, .int v8)]) (st' := [.int v8]) rfl ?_
    exact sw_reti C0 rfl rfl
  · refine sw_go C0 1 (pc' := 48) (lv' := [(0, .ref (G 5)), (1, .int a1), (2, .int a2), (3, .int a3), (4, .int v8)]) (st' := [.ref (G 5)]) rfl ?_
    refine sw_getf C0 hK (o := 5) (j := 5) (v := .ref (G 28)) (by decide) rfl i_Par (by decide) wd_1_163 rfl rfl ?_
    refine sw_go C0 2 (pc' := 54) (lv' := [(0, .ref (G 5)), (1, .int a1), (2, .int a2), (3, .int a3), (4, .int v8)]) (st' := [.int v8, .int a1, .ref (G 28)]) rfl ?_
    refine sw_cV zFi (As := [.int a1, .int v8]) (rest := []) C0 hK hA yk_Row_set (c_Row_set 17 (by decide) a1 v8) wd_3_81 rfl rfl ⟨by rw [hf]; decide, by rw [hlo]; decide⟩ (Nat.le_of_ble_eq_true rfl) (zrc_row (k := 17) hK (by decide)) (fun S11 hS11 => ?_)
    refine sw_go C0 2 (pc' := 72) (lv' := [(0, .ref (G 5)), (1, .int a1), (2, .int a2), (3, .int a3), (4, .int v8)]) (st' := [.int v8]) rfl ?_
    exact sw_reti C0 rfl rfl
def f_Par_lastBelow_L21 : Nat → zS → Int32 → Int32 → Int32 → Int32 → Option (Int32)
  | 0, _, _, _, _, _ => none
  | n + 1, S, x2, x3, x4, x5 =>
    if x5 ≤ 0 then
      some x3
    else
      if x4 = (-1) then
        some x3
      else
        if x2 ≤ (r_at S 18 x4) then
          some x3
        else
          zbind (r_at S 19 x4) fun v6 =>
          f_Par_lastBelow_L21 n S x2 x4 v6 (x5 + (-1))
def f_Par_lastBelow (S : zS) (a1 : Int32) (a2 : Int32) : Option (Int32) :=
  zbind (r_at S 17 a1) fun v1 =>
  zbind (r_size S 18) fun v2 =>
  f_Par_lastBelow_L21 zbig S a2 (-1) v1 v2
set_option maxHeartbeats 1000000 in
set_option maxRecDepth 20000 in
theorem c_Par_lastBelow (S : zS) (a1 : Int32) (a2 : Int32) : ∀ r, f_Par_lastBelow S a1 a2 = some r → zMet l y_Par_lastBelow (zw y_Par_lastBelow prog_7_method_27_code 6 (some Jvm.ClassFile.FieldType.int)) 1 21 [.ref (G 5), .int a1, .int a2] D zcl (ztys cA) A (zRep D cA G A) zfc zfs S ((zFp S) r) := by
  intro r hr
  refine zMet_of ⟨Nat.le_refl _, Nat.le_refl _⟩ (by decide) tk_Par_lastBelow (Nat.le_of_ble_eq_true rfl) ?_
  intro p e R s m args below meth c hf hlo C0 hK hA
  have lp21 : ∀ (n : Nat) (x2 : Int32) (x3 : Int32) (x4 : Int32) (x5 : Int32), zSO p l e R s m args below meth c 6 A D cA G S 21 [(0, .ref (G 5)), (2, .int x2), (3, .int x3), (4, .int x4), (5, .int x5)] [] (zFp S) (f_Par_lastBelow_L21 n S x2 x3 x4 x5) := by
    intro n
    induction n with
    | zero =>
      intro x2 x3 x4 x5
      rw [f_Par_lastBelow_L21]
      exact so_none
    | succ n ih21 =>
      intro x2 x3 x4 x5
      rw [f_Par_lastBelow_L21]
      refine so_go C0 1 (pc' := 23) (lv' := [(0, .ref (G 5)), (2, .int x2), (3, .int x3), (4, .int x4), (5, .int x5)]) (st' := [.int x5]) rfl ?_
      refine so_if_le C0 rfl (fun h3 => ?_) (fun h3 => ?_)
      · refine so_go C0 1 (pc' := 66) (lv' := [(0, .ref (G 5)), (2, .int x2), (3, .int x3), (4, .int x4), (5, .int x5)]) (st' := [.int x3]) rfl ?_
        exact so_reti C0 rfl rfl
      · refine so_go C0 2 (pc' := 29) (lv' := [(0, .ref (G 5)), (2, .int x2), (3, .int x3), (4, .int x4), (5, .int x5)]) (st' := [.int (-1), .int x4]) rfl ?_
        refine so_icmp_eq C0 rfl (fun h4 => ?_) (fun h4 => ?_)
        · refine so_go C0 1 (pc' := 66) (lv' := [(0, .ref (G 5)), (2, .int x2), (3, .int x3), (4, .int x4), (5, .int x5)]) (st' := [.int x3]) rfl ?_
          exact so_reti C0 rfl rfl
        · refine so_go C0 1 (pc' := 33) (lv' := [(0, .ref (G 5)), (2, .int x2), (3, .int x3), (4, .int x4), (5, .int x5)]) (st' := [.ref (G 5)]) rfl ?_
          refine so_getf C0 hK (o := 5) (j := 6) (v := .ref (G 29)) (by decide) rfl i_Par (by decide) wd_1_164 rfl rfl ?_
          refine so_go C0 1 (pc' := 38) (lv' := [(0, .ref (G 5)), (2, .int x2), (3, .int x3), (4, .int x4), (5, .int x5)]) (st' := [.int x4, .ref (G 29)]) rfl ?_
          refine so_cp (As := [.int x4]) (rest := []) C0 hK hA yk_Row_at (c_Row_at 18 (by decide) x4) wd_3_93 rfl rfl ⟨by rw [hf]; decide, by rw [hlo]; decide⟩ (Nat.le_of_ble_eq_true rfl) (zrc_row (k := 18) hK (by decide)) ?_
          refine so_go C0 1 (pc' := 42) (lv' := [(0, .ref (G 5)), (2, .int x2), (3, .int x3), (4, .int x4), (5, .int x5)]) (st' := [.int x2, .int (r_at S 18 x4)]) rfl ?_
          refine so_icmp_ge C0 rfl (fun h5 => ?_) (fun h5 => ?_)
          · refine so_go C0 1 (pc' := 66) (lv' := [(0, .ref (G 5)), (2, .int x2), (3, .int x3), (4, .int x4), (5, .int x5)]) (st' := [.int x3]) rfl ?_
            exact so_reti C0 rfl rfl
          · refine so_go C0 3 (pc' := 49) (lv' := [(0, .ref (G 5)), (2, .int x2), (3, .int x4), (4, .int x4), (5, .int x5)]) (st' := [.ref (G 5)]) rfl ?_
            refine so_getf C0 hK (o := 5) (j := 7) (v := .ref (G 30)) (by decide) rfl i_Par (by decide) wd_1_165 rfl rfl ?_
            refine so_go C0 1 (pc' := 54) (lv' := [(0, .ref (G 5)), (2, .int x2), (3, .int x4), (4, .int x4), (5, .int x5)]) (st' := [.int x4, .ref (G 30)]) rfl ?_
            refine so_cp (As := [.int x4]) (rest := []) C0 hK hA yk_Row_at (c_Row_at 19 (by decide) x4) wd_3_93 rfl rfl ⟨by rw [hf]; decide, by rw [hlo]; decide⟩ (Nat.le_of_ble_eq_true rfl) (zrc_row (k := 19) hK (by decide)) ?_
            refine so_nm (V := .int) (fun v6 hv6 => ?_)
            refine so_go C0 3 (pc' := 21) (lv' := [(0, .ref (G 5)), (2, .int x2), (3, .int x4), (4, .int v6), (5, .int (x5 + (-1)))]) (st' := []) rfl ?_
            exact so_sub (lv' := [(0, .ref (G 5)), (2, .int x2), (3, .int x4), (4, .int v6), (5, .int (x5 + (-1)))]) (zpk [0, 1, 2, 3, 4] rfl) (ih21 x2 x4 v6 (x5 + (-1)))
  have K : zSO p l e R s m args below meth c 6 A D cA G S 0 (lv_args 0 [.ref (G 5), .int a1, .int a2]) [] (zFp S) (f_Par_lastBelow S a1 a2) := by
    unfold f_Par_lastBelow
    refine so_go C0 3 (pc' := 3) (lv' := [(0, .ref (G 5)), (1, .int a1), (2, .int a2), (3, .int (-1))]) (st' := [.ref (G 5)]) rfl ?_
    refine so_getf C0 hK (o := 5) (j := 5) (v := .ref (G 28)) (by decide) rfl i_Par (by decide) wd_1_163 rfl rfl ?_
    refine so_go C0 1 (pc' := 7) (lv' := [(0, .ref (G 5)), (1, .int a1), (2, .int a2), (3, .int (-1))]) (st' := [.int a1, .ref (G 28)]) rfl ?_
    refine so_cp (As := [.int a1]) (rest := []) C0 hK hA yk_Row_at (c_Row_at 17 (by decide) a1) wd_3_93 rfl rfl ⟨by rw [hf]; decide, by rw [hlo]; decide⟩ (Nat.le_of_ble_eq_true rfl) (zrc_row (k := 17) hK (by decide)) ?_
    refine so_nm (V := .int) (fun v1 hv1 => ?_)
    refine so_go C0 2 (pc' := 13) (lv' := [(0, .ref (G 5)), (1, .int a1), (2, .int a2), (3, .int (-1)), (4, .int v1)]) (st' := [.ref (G 5)]) rfl ?_
    refine so_getf C0 hK (o := 5) (j := 6) (v := .ref (G 29)) (by decide) rfl i_Par (by decide) wd_1_164 rfl rfl ?_
    refine so_cp (As := []) (rest := []) C0 hK hA yk_Row_size (c_Row_size 18 (by decide)) wd_3_64 rfl rfl ⟨by rw [hf]; decide, by rw [hlo]; decide⟩ (Nat.le_of_ble_eq_true rfl) (zrc_row (k := 18) hK (by decide)) ?_
    refine so_nm (V := .int) (fun v2 hv2 => ?_)
    refine so_go C0 1 (pc' := 21) (lv' := [(0, .ref (G 5)), (1, .int a1), (2, .int a2), (3, .int (-1)), (4, .int v1), (5, .int v2)]) (st' := []) rfl ?_
    exact so_sub (lv' := [(0, .ref (G 5)), (2, .int a2), (3, .int (-1)), (4, .int v1), (5, .int v2)]) (zpk [0, 2, 3, 4, 5] rfl) (lp21 zbig a2 (-1) v1 v2)
  exact K r hr
def f_Par_edgeFor (S : zS) (a1 : Int32) (a2 : Int32) : Option (zS × Int32) :=
  zob (f_Par_lastBelow S a1 a2) fun v1 =>
  zbind (f_Par_edgeAfter S a1 v1) fun v2 =>
  if v2 = (-1) then
    zbind2 (f_Par_addEdge S a1 v1 a2) fun S4 v5 =>
    some (S4, v5)
  else
    if ¬ (r_at S 18 v2) = a2 then
      zbind2 (f_Par_addEdge S a1 v1 a2) fun S7 v8 =>
      some (S7, v8)
    else
      some (S, v2)
theorem mo_Par_edgeFor (S : zS) (a1 : Int32) (a2 : Int32) : zmO Prod.fst S (f_Par_edgeFor S a1 a2) := by
  unfold f_Par_edgeFor
  exact (mO_on (g := Prod.fst) fun v1 => (mO_n (g := Prod.fst) fun v2 => (mO_if (g := Prod.fst) (mO_b2 (g := Prod.fst) (mo_Par_addEdge S a1 v1 a2) fun S4 v5 => (mO_s zmo_rf)) (mO_if (g := Prod.fst) (mO_b2 (g := Prod.fst) (mo_Par_addEdge S a1 v1 a2) fun S7 v8 => (mO_s zmo_rf)) (mO_s zmo_rf)))))
set_option maxHeartbeats 1000000 in
set_option maxRecDepth 20000 in
theorem c_Par_edgeFor (S : zS) (a1 : Int32) (a2 : Int32) : ∀ r, f_Par_edgeFor S a1 a2 = some r → zMet l y_Par_edgeFor (zw y_Par_edgeFor prog_7_method_26_code 6 (some Jvm.ClassFile.FieldType.int)) 4 107 [.ref (G 5), .int a1, .int a2] D zcl (ztys cA) A (zRep D cA G A) zfc zfs S (zFi r) := by
  intro r hr
  refine zMet_of (mo_Fi (mo_Par_edgeFor S a1 a2 r hr)) (by decide) tk_Par_edgeFor (Nat.le_of_ble_eq_true rfl) ?_
  intro p e R s m args below meth c hf hlo C0 hK hA
  have K : zSO p l e R s m args below meth c 6 A D cA G S 0 (lv_args 0 [.ref (G 5), .int a1, .int a2]) [] zFi (f_Par_edgeFor S a1 a2) := by
    unfold f_Par_edgeFor
    refine so_go C0 3 (pc' := 3) (lv' := [(0, .ref (G 5)), (1, .int a1), (2, .int a2)]) (st' := [.int a2, .int a1, .ref (G 5)]) rfl ?_
    refine so_op (As := [.int a1, .int a2]) (rest := []) C0 hK hA yk_Par_lastBelow (c_Par_lastBelow S a1 a2) wd_3_89 rfl rfl ⟨by rw [hf]; decide, by rw [hlo]; decide⟩ (Nat.le_of_ble_eq_true rfl) (zrc_obj (o := 5) hK (by decide) rfl) (fun v1 hv1 => ?_)
    refine so_go C0 4 (pc' := 10) (lv' := [(0, .ref (G 5)), (1, .int a1), (2, .int a2), (3, .int v1)]) (st' := [.int v1, .int a1, .ref (G 5)]) rfl ?_
    refine so_cp (As := [.int a1, .int v1]) (rest := []) C0 hK hA yk_Par_edgeAfter (c_Par_edgeAfter S a1 v1) wd_3_94 rfl rfl ⟨by rw [hf]; decide, by rw [hlo]; decide⟩ (Nat.le_of_ble_eq_true rfl) (zrc_obj (o := 5) hK (by decide) rfl) ?_
    refine so_nm (V := .int) (fun v2 hv2 => ?_)
    refine so_go C0 3 (pc' := 18) (lv' := [(0, .ref (G 5)), (1, .int a1), (2, .int a2), (3, .int v1), (4, .int v2)]) (st' := [.int (-1), .int v2]) rfl ?_
    refine so_icmp_eq C0 rfl (fun h3 => ?_) (fun h3 => ?_)
    · refine so_go C0 3 (pc' := 43) (lv' := [(0, .ref (G 5)), (1, .int a1), (2, .int a2), (3, .int v1), (4, .int v2), (5, .int 0)]) (st' := [.int 0]) rfl ?_
      refine so_if_eqT C0 rfl (by decide) ?_
      refine so_go C0 4 (pc' := 55) (lv' := [(0, .ref (G 5)), (1, .int a1), (2, .int a2), (3, .int v1), (4, .int v2), (5, .int 0)]) (st' := [.int a2, .int v1, .int a1, .ref (G 5)]) rfl ?_
      refine so_ci (As := [.int a1, .int v1, .int a2]) (rest := []) C0 hK hA yk_Par_addEdge (c_Par_addEdge S a1 v1 a2) wd_3_98 rfl rfl ⟨by rw [hf]; decide, by rw [hlo]; decide⟩ (Nat.le_of_ble_eq_true rfl) (zrc_obj (o := 5) hK (by decide) rfl) (fun S4 v5 hv5 => ?_)
      exact so_reti C0 rfl rfl
    · refine so_go C0 1 (pc' := 22) (lv' := [(0, .ref (G 5)), (1, .int a1), (2, .int a2), (3, .int v1), (4, .int v2)]) (st' := [.ref (G 5)]) rfl ?_
      refine so_getf C0 hK (o := 5) (j := 6) (v := .ref (G 29)) (by decide) rfl i_Par (by decide) wd_1_164 rfl rfl ?_
      refine so_go C0 1 (pc' := 27) (lv' := [(0, .ref (G 5)), (1, .int a1), (2, .int a2), (3, .int v1), (4, .int v2)]) (st' := [.int v2, .ref (G 29)]) rfl ?_
      refine so_cp (As := [.int v2]) (rest := []) C0 hK hA yk_Row_at (c_Row_at 18 (by decide) v2) wd_3_93 rfl rfl ⟨by rw [hf]; decide, by rw [hlo]; decide⟩ (Nat.le_of_ble_eq_true rfl) (zrc_row (k := 18) hK (by decide)) ?_
      refine so_go C0 1 (pc' := 31) (lv' := [(0, .ref (G 5)), (1, .int a1), (2, .int a2), (3, .int v1), (4, .int v2)]) (st' := [.int a2, .int (r_at S 18 v2)]) rfl ?_
      refine so_icmp_ne C0 rfl (fun h6 => ?_) (fun h6 => ?_)
      · refine so_go C0 3 (pc' := 43) (lv' := [(0, .ref (G 5)), (1, .int a1), (2, .int a2), (3, .int v1), (4, .int v2), (5, .int 0)]) (st' := [.int 0]) rfl ?_
        refine so_if_eqT C0 rfl (by decide) ?_
        refine so_go C0 4 (pc' := 55) (lv' := [(0, .ref (G 5)), (1, .int a1), (2, .int a2), (3, .int v1), (4, .int v2), (5, .int 0)]) (st' := [.int a2, .int v1, .int a1, .ref (G 5)]) rfl ?_
        refine so_ci (As := [.int a1, .int v1, .int a2]) (rest := []) C0 hK hA yk_Par_addEdge (c_Par_addEdge S a1 v1 a2) wd_3_98 rfl rfl ⟨by rw [hf]; decide, by rw [hlo]; decide⟩ (Nat.le_of_ble_eq_true rfl) (zrc_obj (o := 5) hK (by decide) rfl) (fun S7 v8 hv8 => ?_)
        exact so_reti C0 rfl rfl
      · refine so_go C0 4 (pc' := 43) (lv' := [(0, .ref (G 5)), (1, .int a1), (2, .int a2), (3, .int v1), (4, .int v2), (5, .int 1)]) (st' := [.int 1]) rfl ?_
        refine so_if_eqF C0 rfl (by decide) ?_
        refine so_go C0 2 (pc' := 58) (lv' := [(0, .ref (G 5)), (1, .int a1), (2, .int a2), (3, .int v1), (4, .int v2), (5, .int 1)]) (st' := [.int v2]) rfl ?_
        exact so_reti C0 rfl rfl
  exact K r hr
def f_Par_putOpen (S : zS) (a1 : Int32) (a2 : Int32) : zS :=
  zbind2 (r_add S 26 a1) fun S1 v2 =>
  zbind2 (r_add S1 26 a2) fun S3 v4 =>
  S3
theorem mo_Par_putOpen (S : zS) (a1 : Int32) (a2 : Int32) : zmo S (f_Par_putOpen S a1 a2) := by
  unfold f_Par_putOpen
  exact (mo_b2 (g := (fun x => x)) (r_add_mono (by decide) a1) fun S1 v2 => (mo_b2 (g := (fun x => x)) (r_add_mono (by decide) a2) fun S3 v4 => zmo_rf))
set_option maxHeartbeats 1000000 in
set_option maxRecDepth 20000 in
theorem c_Par_putOpen (S : zS) (a1 : Int32) (a2 : Int32) : zMet l y_Par_putOpen (zw y_Par_putOpen prog_7_method_22_code 3 none) 3 83 [.ref (G 5), .int a1, .int a2] D zcl (ztys cA) A (zRep D cA G A) zfc zfs S (zFv (f_Par_putOpen S a1 a2)) := by
  refine zMet_of (mo_Fv (mo_Par_putOpen S a1 a2)) (by decide) tk_Par_putOpen (Nat.le_of_ble_eq_true rfl) ?_
  intro p e R s m args below meth c hf hlo C0 hK hA
  unfold f_Par_putOpen
  refine sw_go C0 1 (pc' := 1) (lv' := [(0, .ref (G 5)), (1, .int a1), (2, .int a2)]) (st' := [.ref (G 5)]) rfl ?_
  refine sw_getf C0 hK (o := 5) (j := 14) (v := .ref (G 37)) (by decide) rfl i_Par (by decide) wd_1_172 rfl rfl ?_
  refine sw_go C0 1 (pc' := 5) (lv' := [(0, .ref (G 5)), (1, .int a1), (2, .int a2)]) (st' := [.int a1, .ref (G 37)]) rfl ?_
  refine sw_ci zFv (As := [.int a1]) (rest := []) C0 hK hA yk_Row_add (c_Row_add 26 (by decide) a1) wd_1_157 rfl rfl ⟨by rw [hf]; decide, by rw [hlo]; decide⟩ (Nat.le_of_ble_eq_true rfl) (zrc_row (k := 26) hK (by decide)) (fun S1 v2 hv2 => ?_)
  refine sw_go C0 2 (pc' := 10) (lv' := [(0, .ref (G 5)), (1, .int a1), (2, .int a2)]) (st' := [.ref (G 5)]) rfl ?_
  refine sw_getf C0 hK (o := 5) (j := 14) (v := .ref (G 37)) (by decide) rfl i_Par (by decide) wd_1_172 rfl rfl ?_
  refine sw_go C0 1 (pc' := 14) (lv' := [(0, .ref (G 5)), (1, .int a1), (2, .int a2)]) (st' := [.int a2, .ref (G 37)]) rfl ?_
  refine sw_ci zFv (As := [.int a2]) (rest := []) C0 hK hA yk_Row_add (c_Row_add 26 (by decide) a2) wd_1_157 rfl rfl ⟨by rw [hf]; decide, by rw [hlo]; decide⟩ (Nat.le_of_ble_eq_true rfl) (zrc_row (k := 26) hK (by decide)) (fun S3 v4 hv4 => ?_)
  refine sw_go C0 1 (pc' := 18) (lv' := [(0, .ref (G 5)), (1, .int a1), (2, .int a2)]) (st' := []) rfl ?_
  exact sw_retv C0 rfl rfl
def f_Par_setSort (S : zS) (a1 : Int32) (a2 : Int32) : zS :=
  zbind (r_set S 13 a1 (f_Pat_shape S a2)) fun S1 =>
  zbind (r_set S1 14 a1 (f_Pat_sort S1 a2)) fun S2 =>
  S2
theorem mo_Par_setSort (S : zS) (a1 : Int32) (a2 : Int32) : zmo S (f_Par_setSort S a1 a2) := by
  unfold f_Par_setSort
  exact (mo_b (g := (fun x => x)) mo_r_set fun S1 => (mo_b (g := (fun x => x)) mo_r_set fun S2 => zmo_rf))
set_option maxHeartbeats 1000000 in
set_option maxRecDepth 20000 in
theorem c_Par_setSort (S : zS) (a1 : Int32) (a2 : Int32) : zMet l y_Par_setSort (zw y_Par_setSort prog_7_method_25_code 3 none) 2 42 [.ref (G 5), .int a1, .int a2] D zcl (ztys cA) A (zRep D cA G A) zfc zfs S (zFv (f_Par_setSort S a1 a2)) := by
  refine zMet_of (mo_Fv (mo_Par_setSort S a1 a2)) (by decide) tk_Par_setSort (Nat.le_of_ble_eq_true rfl) ?_
  intro p e R s m args below meth c hf hlo C0 hK hA
  unfold f_Par_setSort
  refine sw_go C0 1 (pc' := 1) (lv' := [(0, .ref (G 5)), (1, .int a1), (2, .int a2)]) (st' := [.ref (G 5)]) rfl ?_
  refine sw_getf C0 hK (o := 5) (j := 1) (v := .ref (G 24)) (by decide) rfl i_Par (by decide) wd_1_159 rfl rfl ?_
  refine sw_go C0 2 (pc' := 6) (lv' := [(0, .ref (G 5)), (1, .int a1), (2, .int a2)]) (st' := [.ref (G 5), .int a1, .ref (G 24)]) rfl ?_
  refine sw_getf C0 hK (o := 5) (j := 0) (v := .ref (G 2)) (by decide) rfl i_Par (by decide) wd_1_158 rfl rfl ?_
  refine sw_go C0 1 (pc' := 10) (lv' := [(0, .ref (G 5)), (1, .int a1), (2, .int a2)]) (st' := [.int a2, .ref (G 2), .int a1, .ref (G 24)]) rfl ?_
  refine sw_cp (As := [.int a2]) (rest := [.int a1, .ref (G 24)]) C0 hK hA yk_Pat_shape (c_Pat_shape S a2) wd_3_72 rfl rfl ⟨by rw [hf]; decide, by rw [hlo]; decide⟩ (Nat.le_of_ble_eq_true rfl) (zrc_obj (o := 2) hK (by decide) rfl) ?_
  refine sw_cV zFv (As := [.int a1, .int (f_Pat_shape S a2)]) (rest := []) C0 hK hA yk_Row_set (c_Row_set 13 (by decide) a1 (f_Pat_shape S a2)) wd_3_81 rfl rfl ⟨by rw [hf]; decide, by rw [hlo]; decide⟩ (Nat.le_of_ble_eq_true rfl) (zrc_row (k := 13) hK (by decide)) (fun S1 hS1 => ?_)
  refine sw_go C0 1 (pc' := 17) (lv' := [(0, .ref (G 5)), (1, .int a1), (2, .int a2)]) (st' := [.ref (G 5)]) rfl ?_
  refine sw_getf C0 hK (o := 5) (j := 2) (v := .ref (G 25)) (by decide) rfl i_Par (by decide) wd_1_160 rfl rfl ?_
  refine sw_go C0 2 (pc' := 22) (lv' := [(0, .ref (G 5)), (1, .int a1), (2, .int a2)]) (st' := [.ref (G 5), .int a1, .ref (G 25)]) rfl ?_
  refine sw_getf C0 hK (o := 5) (j := 0) (v := .ref (G 2)) (by decide) rfl i_Par (by decide) wd_1_158 rfl rfl ?_
  refine sw_go C0 1 (pc' := 26) (lv' := [(0, .ref (G 5)), (1, .int a1), (2, .int a2)]) (st' := [.int a2, .ref (G 2), .int a1, .ref (G 25)]) rfl ?_
  refine sw_cp (As := [.int a2]) (rest := [.int a1, .ref (G 25)]) C0 hK hA yk_Pat_sort (c_Pat_sort S1 a2) wd_3_82 rfl rfl ⟨by rw [hf]; decide, by rw [hlo]; decide⟩ (Nat.le_of_ble_eq_true rfl) (zrc_obj (o := 2) hK (by decide) rfl) ?_
  refine sw_cV zFv (As := [.int a1, .int (f_Pat_sort S1 a2)]) (rest := []) C0 hK hA yk_Row_set (c_Row_set 14 (by decide) a1 (f_Pat_sort S1 a2)) wd_3_81 rfl rfl ⟨by rw [hf]; decide, by rw [hlo]; decide⟩ (Nat.le_of_ble_eq_true rfl) (zrc_row (k := 14) hK (by decide)) (fun S2 hS2 => ?_)
  exact sw_retv C0 rfl rfl
def f_Par_layAsk (S : zS) (a1 : Int32) (a2 : Int32) (a3 : Int32) : Option (zS) :=
  zbind (f_Par_setSort S a3 a2) fun S1 =>
  zob2 (f_Par_edgeFor S1 a3 (f_Pat_mark S1 a2)) fun S2 v3 =>
  zbind2 (r_add S2 22 a1) fun S4 v5 =>
  zbind2 (r_add S4 23 a3) fun S6 v7 =>
  zbind2 (r_add S6 24 (r_at S6 21 v3)) fun S8 v9 =>
  zbind (r_set S8 21 v3 ((r_size S8 22) - 1)) fun S10 =>
  zbind (f_Pat_argument S10 a2) fun v11 =>
  if v11 = (-1) then
    some S10
  else
    zbind2 (f_Par_childFor S10 a3 v3) fun S13 v14 =>
    zbind (f_Par_putOpen S13 v11 v14) fun S15 =>
    some S15
theorem mo_Par_layAsk (S : zS) (a1 : Int32) (a2 : Int32) (a3 : Int32) : zmO (fun x => x) S (f_Par_layAsk S a1 a2 a3) := by
  unfold f_Par_layAsk
  exact (mO_b (g := (fun x => x)) (mo_Par_setSort S a3 a2) fun S1 => (mO_ob2 (g := (fun x => x)) (mo_Par_edgeFor S1 a3 (f_Pat_mark S1 a2)) fun S2 v3 => (mO_b2 (g := (fun x => x)) (r_add_mono (by decide) a1) fun S4 v5 => (mO_b2 (g := (fun x => x)) (r_add_mono (by decide) a3) fun S6 v7 => (mO_b2 (g := (fun x => x)) (r_add_mono (by decide) (r_at S6 21 v3)) fun S8 v9 => (mO_b (g := (fun x => x)) mo_r_set fun S10 => (mO_n (g := (fun x => x)) fun v11 => (mO_if (g := (fun x => x)) (mO_s zmo_rf) (mO_b2 (g := (fun x => x)) (mo_Par_childFor S10 a3 v3) fun S13 v14 => (mO_b (g := (fun x => x)) (mo_Par_putOpen S13 v11 v14) fun S15 => (mO_s zmo_rf)))))))))))
set_option maxHeartbeats 1000000 in
set_option maxRecDepth 20000 in
theorem c_Par_layAsk (S : zS) (a1 : Int32) (a2 : Int32) (a3 : Int32) : ∀ r, f_Par_layAsk S a1 a2 a3 = some r → zMet l y_Par_layAsk (zw y_Par_layAsk prog_7_method_24_code 6 none) 5 132 [.ref (G 5), .int a1, .int a2, .int a3] D zcl (ztys cA) A (zRep D cA G A) zfc zfs S (zFv r) := by
  intro r hr
  refine zMet_of (mo_Fv (mo_Par_layAsk S a1 a2 a3 r hr)) (by decide) tk_Par_layAsk (Nat.le_of_ble_eq_true rfl) ?_
  intro p e R s m args below meth c hf hlo C0 hK hA
  have K : zSO p l e R s m args below meth c 6 A D cA G S 0 (lv_args 0 [.ref (G 5), .int a1, .int a2, .int a3]) [] zFv (f_Par_layAsk S a1 a2 a3) := by
    unfold f_Par_layAsk
    refine so_go C0 3 (pc' := 3) (lv' := [(0, .ref (G 5)), (1, .int a1), (2, .int a2), (3, .int a3)]) (st' := [.int a2, .int a3, .ref (G 5)]) rfl ?_
    refine so_cV (As := [.int a3, .int a2]) (rest := []) C0 hK hA yk_Par_setSort (c_Par_setSort S a3 a2) wd_3_77 rfl rfl ⟨by rw [hf]; decide, by rw [hlo]; decide⟩ (Nat.le_of_ble_eq_true rfl) (zrc_obj (o := 5) hK (by decide) rfl) (fun S1 hS1 => ?_)
    refine so_go C0 3 (pc' := 9) (lv' := [(0, .ref (G 5)), (1, .int a1), (2, .int a2), (3, .int a3)]) (st' := [.ref (G 5), .int a3, .ref (G 5)]) rfl ?_
    refine so_getf C0 hK (o := 5) (j := 0) (v := .ref (G 2)) (by decide) rfl i_Par (by decide) wd_1_158 rfl rfl ?_
    refine so_go C0 1 (pc' := 13) (lv' := [(0, .ref (G 5)), (1, .int a1), (2, .int a2), (3, .int a3)]) (st' := [.int a2, .ref (G 2), .int a3, .ref (G 5)]) rfl ?_
    refine so_cp (As := [.int a2]) (rest := [.int a3, .ref (G 5)]) C0 hK hA yk_Pat_mark (c_Pat_mark S1 a2) wd_3_111 rfl rfl ⟨by rw [hf]; decide, by rw [hlo]; decide⟩ (Nat.le_of_ble_eq_true rfl) (zrc_obj (o := 2) hK (by decide) rfl) ?_
    refine so_oi (As := [.int a3, .int (f_Pat_mark S1 a2)]) (rest := []) C0 hK hA yk_Par_edgeFor (c_Par_edgeFor S1 a3 (f_Pat_mark S1 a2)) wd_3_85 rfl rfl ⟨by rw [hf]; decide, by rw [hlo]; decide⟩ (Nat.le_of_ble_eq_true rfl) (zrc_obj (o := 5) hK (by decide) rfl) (fun S2 v3 hv3 => ?_)
    refine so_go C0 2 (pc' := 22) (lv' := [(0, .ref (G 5)), (1, .int a1), (2, .int a2), (3, .int a3), (4, .int v3)]) (st' := [.ref (G 5)]) rfl ?_
    refine so_getf C0 hK (o := 5) (j := 10) (v := .ref (G 33)) (by decide) rfl i_Par (by decide) wd_1_168 rfl rfl ?_
    refine so_go C0 1 (pc' := 26) (lv' := [(0, .ref (G 5)), (1, .int a1), (2, .int a2), (3, .int a3), (4, .int v3)]) (st' := [.int a1, .ref (G 33)]) rfl ?_
    refine so_ci (As := [.int a1]) (rest := []) C0 hK hA yk_Row_add (c_Row_add 22 (by decide) a1) wd_1_157 rfl rfl ⟨by rw [hf]; decide, by rw [hlo]; decide⟩ (Nat.le_of_ble_eq_true rfl) (zrc_row (k := 22) hK (by decide)) (fun S4 v5 hv5 => ?_)
    refine so_go C0 2 (pc' := 31) (lv' := [(0, .ref (G 5)), (1, .int a1), (2, .int a2), (3, .int a3), (4, .int v3)]) (st' := [.ref (G 5)]) rfl ?_
    refine so_getf C0 hK (o := 5) (j := 11) (v := .ref (G 34)) (by decide) rfl i_Par (by decide) wd_1_169 rfl rfl ?_
    refine so_go C0 1 (pc' := 35) (lv' := [(0, .ref (G 5)), (1, .int a1), (2, .int a2), (3, .int a3), (4, .int v3)]) (st' := [.int a3, .ref (G 34)]) rfl ?_
    refine so_ci (As := [.int a3]) (rest := []) C0 hK hA yk_Row_add (c_Row_add 23 (by decide) a3) wd_1_157 rfl rfl ⟨by rw [hf]; decide, by rw [hlo]; decide⟩ (Nat.le_of_ble_eq_true rfl) (zrc_row (k := 23) hK (by decide)) (fun S6 v7 hv7 => ?_)
    refine so_go C0 2 (pc' := 40) (lv' := [(0, .ref (G 5)), (1, .int a1), (2, .int a2), (3, .int a3), (4, .int v3)]) (st' := [.ref (G 5)]) rfl ?_
    refine so_getf C0 hK (o := 5) (j := 12) (v := .ref (G 35)) (by decide) rfl i_Par (by decide) wd_1_170 rfl rfl ?_
    refine so_go C0 1 (pc' := 44) (lv' := [(0, .ref (G 5)), (1, .int a1), (2, .int a2), (3, .int a3), (4, .int v3)]) (st' := [.ref (G 5), .ref (G 35)]) rfl ?_
    refine so_getf C0 hK (o := 5) (j := 9) (v := .ref (G 32)) (by decide) rfl i_Par (by decide) wd_1_167 rfl rfl ?_
    refine so_go C0 1 (pc' := 49) (lv' := [(0, .ref (G 5)), (1, .int a1), (2, .int a2), (3, .int a3), (4, .int v3)]) (st' := [.int v3, .ref (G 32), .ref (G 35)]) rfl ?_
    refine so_cp (As := [.int v3]) (rest := [.ref (G 35)]) C0 hK hA yk_Row_at (c_Row_at 21 (by decide) v3) wd_3_93 rfl rfl ⟨by rw [hf]; decide, by rw [hlo]; decide⟩ (Nat.le_of_ble_eq_true rfl) (zrc_row (k := 21) hK (by decide)) ?_
    refine so_ci (As := [.int (r_at S6 21 v3)]) (rest := []) C0 hK hA yk_Row_add (c_Row_add 24 (by decide) (r_at S6 21 v3)) wd_1_157 rfl rfl ⟨by rw [hf]; decide, by rw [hlo]; decide⟩ (Nat.le_of_ble_eq_true rfl) (zrc_row (k := 24) hK (by decide)) (fun S8 v9 hv9 => ?_)
    refine so_go C0 2 (pc' := 57) (lv' := [(0, .ref (G 5)), (1, .int a1), (2, .int a2), (3, .int a3), (4, .int v3)]) (st' := [.ref (G 5)]) rfl ?_
    refine so_getf C0 hK (o := 5) (j := 9) (v := .ref (G 32)) (by decide) rfl i_Par (by decide) wd_1_167 rfl rfl ?_
    refine so_go C0 2 (pc' := 63) (lv' := [(0, .ref (G 5)), (1, .int a1), (2, .int a2), (3, .int a3), (4, .int v3)]) (st' := [.ref (G 5), .int v3, .ref (G 32)]) rfl ?_
    refine so_getf C0 hK (o := 5) (j := 10) (v := .ref (G 33)) (by decide) rfl i_Par (by decide) wd_1_168 rfl rfl ?_
    refine so_cp (As := []) (rest := [.int v3, .ref (G 32)]) C0 hK hA yk_Row_size (c_Row_size 22 (by decide)) wd_3_64 rfl rfl ⟨by rw [hf]; decide, by rw [hlo]; decide⟩ (Nat.le_of_ble_eq_true rfl) (zrc_row (k := 22) hK (by decide)) ?_
    refine so_go C0 2 (pc' := 71) (lv' := [(0, .ref (G 5)), (1, .int a1), (2, .int a2), (3, .int a3), (4, .int v3)]) (st' := [.int ((r_size S8 22) - 1), .int v3, .ref (G 32)]) rfl ?_
    refine so_cV (As := [.int v3, .int ((r_size S8 22) - 1)]) (rest := []) C0 hK hA yk_Row_set (c_Row_set 21 (by decide) v3 ((r_size S8 22) - 1)) wd_3_81 rfl rfl ⟨by rw [hf]; decide, by rw [hlo]; decide⟩ (Nat.le_of_ble_eq_true rfl) (zrc_row (k := 21) hK (by decide)) (fun S10 hS10 => ?_)
    refine so_go C0 1 (pc' := 75) (lv' := [(0, .ref (G 5)), (1, .int a1), (2, .int a2), (3, .int a3), (4, .int v3)]) (st' := [.ref (G 5)]) rfl ?_
    refine so_getf C0 hK (o := 5) (j := 0) (v := .ref (G 2)) (by decide) rfl i_Par (by decide) wd_1_158 rfl rfl ?_
    refine so_go C0 1 (pc' := 79) (lv' := [(0, .ref (G 5)), (1, .int a1), (2, .int a2), (3, .int a3), (4, .int v3)]) (st' := [.int a2, .ref (G 2)]) rfl ?_
    refine so_cp (As := [.int a2]) (rest := []) C0 hK hA yk_Pat_argument (c_Pat_argument S10 a2) wd_3_112 rfl rfl ⟨by rw [hf]; decide, by rw [hlo]; decide⟩ (Nat.le_of_ble_eq_true rfl) (zrc_obj (o := 2) hK (by decide) rfl) ?_
    refine so_nm (V := .int) (fun v11 hv11 => ?_)
    refine so_go C0 3 (pc' := 87) (lv' := [(0, .ref (G 5)), (1, .int a1), (2, .int a2), (3, .int a3), (4, .int v3), (5, .int v11)]) (st' := [.int (-1), .int v11]) rfl ?_
    refine so_icmp_eq C0 rfl (fun h12 => ?_) (fun h12 => ?_)
    · exact so_retv C0 rfl rfl
    · refine so_go C0 5 (pc' := 97) (lv' := [(0, .ref (G 5)), (1, .int a1), (2, .int a2), (3, .int a3), (4, .int v3), (5, .int v11)]) (st' := [.int v3, .int a3, .ref (G 5), .int v11, .ref (G 5)]) rfl ?_
      refine so_ci (As := [.int a3, .int v3]) (rest := [.int v11, .ref (G 5)]) C0 hK hA yk_Par_childFor (c_Par_childFor S10 a3 v3) wd_3_103 rfl rfl ⟨by rw [hf]; decide, by rw [hlo]; decide⟩ (Nat.le_of_ble_eq_true rfl) (zrc_obj (o := 5) hK (by decide) rfl) (fun S13 v14 hv14 => ?_)
      refine so_cV (As := [.int v11, .int v14]) (rest := []) C0 hK hA yk_Par_putOpen (c_Par_putOpen S13 v11 v14) wd_3_66 rfl rfl ⟨by rw [hf]; decide, by rw [hlo]; decide⟩ (Nat.le_of_ble_eq_true rfl) (zrc_obj (o := 5) hK (by decide) rfl) (fun S15 hS15 => ?_)
      exact so_retv C0 rfl rfl
  exact K r hr
def f_Par_layRecord_L17 : Nat → zS → Int32 → Int32 → Int32 → Option (zS)
  | 0, _, _, _, _ => none
  | n + 1, S, x1, x2, x3 =>
    if x3 < 0 then
      some S
    else
      zob2 (f_Par_edgeFor S x2 (f_Pat_fieldNumber S x1 x3)) fun S4 v5 =>
      zbind2 (f_Par_childFor S4 x2 v5) fun S6 v7 =>
      zbind (f_Par_putOpen S6 (f_Pat_fieldPattern S4 x1 x3) v7) fun S8 =>
      f_Par_layRecord_L17 n S8 x1 x2 (x3 + (-1))
def f_Par_layRecord (S : zS) (a1 : Int32) (a2 : Int32) : Option (zS) :=
  zbind (f_Par_setSort S a2 a1) fun S1 =>
  zbind ((f_Pat_width S1 a1) - 1) fun v2 =>
  f_Par_layRecord_L17 zbig S1 a1 a2 v2
theorem mo_Par_layRecord (S : zS) (a1 : Int32) (a2 : Int32) : zmO (fun x => x) S (f_Par_layRecord S a1 a2) := by
  have lp17 : ∀ (n : Nat) (S : zS) (x1 : Int32) (x2 : Int32) (x3 : Int32), zmO (fun x => x) S (f_Par_layRecord_L17 n S x1 x2 x3) := by
    intro n
    induction n with
    | zero =>
      intro S x1 x2 x3
      rw [f_Par_layRecord_L17]
      exact mO_0
    | succ n ih17 =>
      intro S x1 x2 x3
      rw [f_Par_layRecord_L17]
      exact (mO_if (g := (fun x => x)) (mO_s zmo_rf) (mO_ob2 (g := (fun x => x)) (mo_Par_edgeFor S x2 (f_Pat_fieldNumber S x1 x3)) fun S4 v5 => (mO_b2 (g := (fun x => x)) (mo_Par_childFor S4 x2 v5) fun S6 v7 => (mO_b (g := (fun x => x)) (mo_Par_putOpen S6 (f_Pat_fieldPattern S4 x1 x3) v7) fun S8 => (ih17 S8 x1 x2 (x3 + (-1)))))))
  unfold f_Par_layRecord
  exact (mO_b (g := (fun x => x)) (mo_Par_setSort S a2 a1) fun S1 => (mO_n (g := (fun x => x)) fun v2 => (lp17 zbig S1 a1 a2 v2)))
set_option maxHeartbeats 1000000 in
set_option maxRecDepth 20000 in
theorem c_Par_layRecord (S : zS) (a1 : Int32) (a2 : Int32) : ∀ r, f_Par_layRecord S a1 a2 = some r → zMet l y_Par_layRecord (zw y_Par_layRecord prog_7_method_23_code 5 none) 5 132 [.ref (G 5), .int a1, .int a2] D zcl (ztys cA) A (zRep D cA G A) zfc zfs S (zFv r) := by
  intro r hr
  refine zMet_of (mo_Fv (mo_Par_layRecord S a1 a2 r hr)) (by decide) tk_Par_layRecord (Nat.le_of_ble_eq_true rfl) ?_
  intro p e R s m args below meth c hf hlo C0 hK hA
  have lp17 : ∀ (n : Nat) (S : zS) (x1 : Int32) (x2 : Int32) (x3 : Int32), zSO p l e R s m args below meth c 5 A D cA G S 17 [(0, .ref (G 5)), (1, .int x1), (2, .int x2), (3, .int x3)] [] zFv (f_Par_layRecord_L17 n S x1 x2 x3) := by
    intro n
    induction n with
    | zero =>
      intro S x1 x2 x3
      rw [f_Par_layRecord_L17]
      exact so_none
    | succ n ih17 =>
      intro S x1 x2 x3
      rw [f_Par_layRecord_L17]
      refine so_go C0 1 (pc' := 18) (lv' := [(0, .ref (G 5)), (1, .int x1), (2, .int x2), (3, .int x3)]) (st' := [.int x3]) rfl ?_
      refine so_if_lt C0 rfl (fun h3 => ?_) (fun h3 => ?_)
      · exact so_retv C0 rfl rfl
      · refine so_go C0 3 (pc' := 24) (lv' := [(0, .ref (G 5)), (1, .int x1), (2, .int x2), (3, .int x3)]) (st' := [.ref (G 5), .int x2, .ref (G 5)]) rfl ?_
        refine so_getf C0 hK (o := 5) (j := 0) (v := .ref (G 2)) (by decide) rfl i_Par (by decide) wd_1_158 rfl rfl ?_
        refine so_go C0 2 (pc' := 29) (lv' := [(0, .ref (G 5)), (1, .int x1), (2, .int x2), (3, .int x3)]) (st' := [.int x3, .int x1, .ref (G 2), .int x2, .ref (G 5)]) rfl ?_
        refine so_cp (As := [.int x1, .int x3]) (rest := [.int x2, .ref (G 5)]) C0 hK hA yk_Pat_fieldNumber (c_Pat_fieldNumber S x1 x3) wd_3_84 rfl rfl ⟨by rw [hf]; decide, by rw [hlo]; decide⟩ (Nat.le_of_ble_eq_true rfl) (zrc_obj (o := 2) hK (by decide) rfl) ?_
        refine so_oi (As := [.int x2, .int (f_Pat_fieldNumber S x1 x3)]) (rest := []) C0 hK hA yk_Par_edgeFor (c_Par_edgeFor S x2 (f_Pat_fieldNumber S x1 x3)) wd_3_85 rfl rfl ⟨by rw [hf]; decide, by rw [hlo]; decide⟩ (Nat.le_of_ble_eq_true rfl) (zrc_obj (o := 5) hK (by decide) rfl) (fun S4 v5 hv5 => ?_)
        refine so_go C0 3 (pc' := 39) (lv' := [(0, .ref (G 5)), (1, .int x1), (2, .int x2), (3, .int x3), (4, .int v5)]) (st' := [.ref (G 5), .ref (G 5)]) rfl ?_
        refine so_getf C0 hK (o := 5) (j := 0) (v := .ref (G 2)) (by decide) rfl i_Par (by decide) wd_1_158 rfl rfl ?_
        refine so_go C0 2 (pc' := 44) (lv' := [(0, .ref (G 5)), (1, .int x1), (2, .int x2), (3, .int x3), (4, .int v5)]) (st' := [.int x3, .int x1, .ref (G 2), .ref (G 5)]) rfl ?_
        refine so_cp (As := [.int x1, .int x3]) (rest := [.ref (G 5)]) C0 hK hA yk_Pat_fieldPattern (c_Pat_fieldPattern S4 x1 x3) wd_3_102 rfl rfl ⟨by rw [hf]; decide, by rw [hlo]; decide⟩ (Nat.le_of_ble_eq_true rfl) (zrc_obj (o := 2) hK (by decide) rfl) ?_
        refine so_go C0 3 (pc' := 51) (lv' := [(0, .ref (G 5)), (1, .int x1), (2, .int x2), (3, .int x3), (4, .int v5)]) (st' := [.int v5, .int x2, .ref (G 5), .int (f_Pat_fieldPattern S4 x1 x3), .ref (G 5)]) rfl ?_
        refine so_ci (As := [.int x2, .int v5]) (rest := [.int (f_Pat_fieldPattern S4 x1 x3), .ref (G 5)]) C0 hK hA yk_Par_childFor (c_Par_childFor S4 x2 v5) wd_3_103 rfl rfl ⟨by rw [hf]; decide, by rw [hlo]; decide⟩ (Nat.le_of_ble_eq_true rfl) (zrc_obj (o := 5) hK (by decide) rfl) (fun S6 v7 hv7 => ?_)
        refine so_cV (As := [.int (f_Pat_fieldPattern S4 x1 x3), .int v7]) (rest := []) C0 hK hA yk_Par_putOpen (c_Par_putOpen S6 (f_Pat_fieldPattern S4 x1 x3) v7) wd_3_66 rfl rfl ⟨by rw [hf]; decide, by rw [hlo]; decide⟩ (Nat.le_of_ble_eq_true rfl) (zrc_obj (o := 5) hK (by decide) rfl) (fun S8 hS8 => ?_)
        refine so_go C0 2 (pc' := 17) (lv' := [(0, .ref (G 5)), (1, .int x1), (2, .int x2), (3, .int (x3 + (-1))), (4, .int v5)]) (st' := []) rfl ?_
        exact so_sub (lv' := [(0, .ref (G 5)), (1, .int x1), (2, .int x2), (3, .int (x3 + (-1)))]) (zpk [0, 1, 2, 3] rfl) (ih17 S8 x1 x2 (x3 + (-1)))
  have K : zSO p l e R s m args below meth c 5 A D cA G S 0 (lv_args 0 [.ref (G 5), .int a1, .int a2]) [] zFv (f_Par_layRecord S a1 a2) := by
    unfold f_Par_layRecord
    refine so_go C0 3 (pc' := 3) (lv' := [(0, .ref (G 5)), (1, .int a1), (2, .int a2)]) (st' := [.int a1, .int a2, .ref (G 5)]) rfl ?_
    refine so_cV (As := [.int a2, .int a1]) (rest := []) C0 hK hA yk_Par_setSort (c_Par_setSort S a2 a1) wd_3_77 rfl rfl ⟨by rw [hf]; decide, by rw [hlo]; decide⟩ (Nat.le_of_ble_eq_true rfl) (zrc_obj (o := 5) hK (by decide) rfl) (fun S1 hS1 => ?_)
    refine so_go C0 1 (pc' := 7) (lv' := [(0, .ref (G 5)), (1, .int a1), (2, .int a2)]) (st' := [.ref (G 5)]) rfl ?_
    refine so_getf C0 hK (o := 5) (j := 0) (v := .ref (G 2)) (by decide) rfl i_Par (by decide) wd_1_158 rfl rfl ?_
    refine so_go C0 1 (pc' := 11) (lv' := [(0, .ref (G 5)), (1, .int a1), (2, .int a2)]) (st' := [.int a1, .ref (G 2)]) rfl ?_
    refine so_cp (As := [.int a1]) (rest := []) C0 hK hA yk_Pat_width (c_Pat_width S1 a1) wd_3_83 rfl rfl ⟨by rw [hf]; decide, by rw [hlo]; decide⟩ (Nat.le_of_ble_eq_true rfl) (zrc_obj (o := 2) hK (by decide) rfl) ?_
    refine so_go C0 2 (pc' := 16) (lv' := [(0, .ref (G 5)), (1, .int a1), (2, .int a2)]) (st' := [.int ((f_Pat_width S1 a1) - 1)]) rfl ?_
    refine so_nm (V := .int) (fun v2 hv2 => ?_)
    refine so_go C0 1 (pc' := 17) (lv' := [(0, .ref (G 5)), (1, .int a1), (2, .int a2), (3, .int v2)]) (st' := []) rfl ?_
    exact so_sub (lv' := [(0, .ref (G 5)), (1, .int a1), (2, .int a2), (3, .int v2)]) (zpk [0, 1, 2, 3] rfl) (lp17 zbig S1 a1 a2 v2)
  exact K r hr
def f_Par_lay_L30 : Nat → zS → Int32 → Int32 → Option (zS)
  | 0, _, _, _ => none
  | n + 1, S, x1, x3 =>
    if (r_size S 26) ≤ 0 then
      some S
    else
      if 1000000 ≤ x3 then
        some S
      else
        zbind2 (r_take S 26) fun S7 v8 =>
        zbind2 (r_take S7 26) fun S9 v10 =>
        if ¬ (f_Pat_shape S9 v10) = 4 then
          if (f_Pat_shape S9 v10) = 0 then
            f_Par_lay_L30 n S9 x1 (x3 + 1)
          else
            zob (f_Par_layAsk S9 x1 v10 v8) fun S13 =>
            f_Par_lay_L30 n S13 x1 (x3 + 1)
        else
          zob (f_Par_layRecord S9 v10 v8) fun S14 =>
          f_Par_lay_L30 n S14 x1 (x3 + 1)
def f_Par_lay (S : zS) (a1 : Int32) (a2 : Int32) : Option (zS) :=
  zbind2 (r_add S 25 (r_size S 22)) fun S1 v2 =>
  zbind (r_emp S1 26) fun S3 =>
  zbind (f_Par_putOpen S3 a2 0) fun S4 =>
  f_Par_lay_L30 zbig S4 a1 0
theorem mo_Par_lay (S : zS) (a1 : Int32) (a2 : Int32) : zmO (fun x => x) S (f_Par_lay S a1 a2) := by
  have lp30 : ∀ (n : Nat) (S : zS) (x1 : Int32) (x3 : Int32), zmO (fun x => x) S (f_Par_lay_L30 n S x1 x3) := by
    intro n
    induction n with
    | zero =>
      intro S x1 x3
      rw [f_Par_lay_L30]
      exact mO_0
    | succ n ih30 =>
      intro S x1 x3
      rw [f_Par_lay_L30]
      exact (mO_if (g := (fun x => x)) (mO_s zmo_rf) (mO_if (g := (fun x => x)) (mO_s zmo_rf) (mO_b2 (g := (fun x => x)) mo_r_take fun S7 v8 => (mO_b2 (g := (fun x => x)) mo_r_take fun S9 v10 => (mO_if (g := (fun x => x)) (mO_if (g := (fun x => x)) (ih30 S9 x1 (x3 + 1)) (mO_ob (g := (fun x => x)) (mo_Par_layAsk S9 x1 v10 v8) fun S13 => (ih30 S13 x1 (x3 + 1)))) (mO_ob (g := (fun x => x)) (mo_Par_layRecord S9 v10 v8) fun S14 => (ih30 S14 x1 (x3 + 1))))))))
  unfold f_Par_lay
  exact (mO_b2 (g := (fun x => x)) (r_add_mono (by decide) (r_size S 22)) fun S1 v2 => (mO_b (g := (fun x => x)) mo_r_emp fun S3 => (mO_b (g := (fun x => x)) (mo_Par_putOpen S3 a2 0) fun S4 => (lp30 zbig S4 a1 0))))
set_option maxHeartbeats 1000000 in
set_option maxRecDepth 20000 in
theorem c_Par_lay (S : zS) (a1 : Int32) (a2 : Int32) : ∀ r, f_Par_lay S a1 a2 = some r → zMet l y_Par_lay (zw y_Par_lay prog_7_method_20_code 6 none) 6 157 [.ref (G 5), .int a1, .int a2] D zcl (ztys cA) A (zRep D cA G A) zfc zfs S (zFv r) := by
  intro r hr
  refine zMet_of (mo_Fv (mo_Par_lay S a1 a2 r hr)) (by decide) tk_Par_lay (Nat.le_of_ble_eq_true rfl) ?_
  intro p e R s m args below meth c hf hlo C0 hK hA
  have lp30 : ∀ (n : Nat) (S : zS) (x1 : Int32) (x3 : Int32), zSO p l e R s m args below meth c 6 A D cA G S 30 [(0, .ref (G 5)), (1, .int x1), (3, .int x3)] [] zFv (f_Par_lay_L30 n S x1 x3) := by
    intro n
    induction n with
    | zero =>
      intro S x1 x3
      rw [f_Par_lay_L30]
      exact so_none
    | succ n ih30 =>
      intro S x1 x3
      rw [f_Par_lay_L30]
      refine so_go C0 1 (pc' := 31) (lv' := [(0, .ref (G 5)), (1, .int x1), (3, .int x3)]) (st' := [.ref (G 5)]) rfl ?_
      refine so_getf C0 hK (o := 5) (j := 14) (v := .ref (G 37)) (by decide) rfl i_Par (by decide) wd_1_172 rfl rfl ?_
      refine so_cp (As := []) (rest := []) C0 hK hA yk_Row_size (c_Row_size 26 (by decide)) wd_3_64 rfl rfl ⟨by rw [hf]; decide, by rw [hlo]; decide⟩ (Nat.le_of_ble_eq_true rfl) (zrc_row (k := 26) hK (by decide)) ?_
      refine so_if_le C0 rfl (fun h5 => ?_) (fun h5 => ?_)
      · exact so_retv C0 rfl rfl
      · refine so_go C0 1 (pc' := 41) (lv' := [(0, .ref (G 5)), (1, .int x1), (3, .int x3)]) (st' := [.int x3]) rfl ?_
        refine so_ldc C0 wd_3_70 rfl ?_
        refine so_icmp_ge C0 rfl (fun h6 => ?_) (fun h6 => ?_)
        · exact so_retv C0 rfl rfl
        · refine so_go C0 1 (pc' := 47) (lv' := [(0, .ref (G 5)), (1, .int x1), (3, .int x3)]) (st' := [.ref (G 5)]) rfl ?_
          refine so_getf C0 hK (o := 5) (j := 14) (v := .ref (G 37)) (by decide) rfl i_Par (by decide) wd_1_172 rfl rfl ?_
          refine so_ci (As := []) (rest := []) C0 hK hA yk_Row_take (c_Row_take 26 (by decide)) wd_3_71 rfl rfl ⟨by rw [hf]; decide, by rw [hlo]; decide⟩ (Nat.le_of_ble_eq_true rfl) (zrc_row (k := 26) hK (by decide)) (fun S7 v8 hv8 => ?_)
          refine so_go C0 2 (pc' := 56) (lv' := [(0, .ref (G 5)), (1, .int x1), (3, .int x3), (4, .int v8)]) (st' := [.ref (G 5)]) rfl ?_
          refine so_getf C0 hK (o := 5) (j := 14) (v := .ref (G 37)) (by decide) rfl i_Par (by decide) wd_1_172 rfl rfl ?_
          refine so_ci (As := []) (rest := []) C0 hK hA yk_Row_take (c_Row_take 26 (by decide)) wd_3_71 rfl rfl ⟨by rw [hf]; decide, by rw [hlo]; decide⟩ (Nat.le_of_ble_eq_true rfl) (zrc_row (k := 26) hK (by decide)) (fun S9 v10 hv10 => ?_)
          refine so_go C0 2 (pc' := 65) (lv' := [(0, .ref (G 5)), (1, .int x1), (3, .int x3), (4, .int v8), (5, .int v10)]) (st' := [.ref (G 5)]) rfl ?_
          refine so_getf C0 hK (o := 5) (j := 0) (v := .ref (G 2)) (by decide) rfl i_Par (by decide) wd_1_158 rfl rfl ?_
          refine so_go C0 1 (pc' := 70) (lv' := [(0, .ref (G 5)), (1, .int x1), (3, .int x3), (4, .int v8), (5, .int v10)]) (st' := [.int v10, .ref (G 2)]) rfl ?_
          refine so_cp (As := [.int v10]) (rest := []) C0 hK hA yk_Pat_shape (c_Pat_shape S9 v10) wd_3_72 rfl rfl ⟨by rw [hf]; decide, by rw [hlo]; decide⟩ (Nat.le_of_ble_eq_true rfl) (zrc_obj (o := 2) hK (by decide) rfl) ?_
          refine so_go C0 1 (pc' := 74) (lv' := [(0, .ref (G 5)), (1, .int x1), (3, .int x3), (4, .int v8), (5, .int v10)]) (st' := [.int 4, .int (f_Pat_shape S9 v10)]) rfl ?_
          refine so_icmp_ne C0 rfl (fun h11 => ?_) (fun h11 => ?_)
          · refine so_go C0 1 (pc' := 89) (lv' := [(0, .ref (G 5)), (1, .int x1), (3, .int x3), (4, .int v8), (5, .int v10)]) (st' := [.ref (G 5)]) rfl ?_
            refine so_getf C0 hK (o := 5) (j := 0) (v := .ref (G 2)) (by decide) rfl i_Par (by decide) wd_1_158 rfl rfl ?_
            refine so_go C0 1 (pc' := 94) (lv' := [(0, .ref (G 5)), (1, .int x1), (3, .int x3), (4, .int v8), (5, .int v10)]) (st' := [.int v10, .ref (G 2)]) rfl ?_
            refine so_cp (As := [.int v10]) (rest := []) C0 hK hA yk_Pat_shape (c_Pat_shape S9 v10) wd_3_72 rfl rfl ⟨by rw [hf]; decide, by rw [hlo]; decide⟩ (Nat.le_of_ble_eq_true rfl) (zrc_obj (o := 2) hK (by decide) rfl) ?_
            refine so_if_eq C0 rfl (fun h12 => ?_) (fun h12 => ?_)
            · refine so_go C0 2 (pc' := 30) (lv' := [(0, .ref (G 5)), (1, .int x1), (3, .int (x3 + 1)), (4, .int v8), (5, .int v10)]) (st' := []) rfl ?_
              exact so_sub (lv' := [(0, .ref (G 5)), (1, .int x1), (3, .int (x3 + 1))]) (zpk [0, 1, 2] rfl) (ih30 S9 x1 (x3 + 1))
            · refine so_go C0 4 (pc' := 106) (lv' := [(0, .ref (G 5)), (1, .int x1), (3, .int x3), (4, .int v8), (5, .int v10)]) (st' := [.int v8, .int v10, .int x1, .ref (G 5)]) rfl ?_
              refine so_oV (As := [.int x1, .int v10, .int v8]) (rest := []) C0 hK hA yk_Par_layAsk (c_Par_layAsk S9 x1 v10 v8) wd_3_107 rfl rfl ⟨by rw [hf]; decide, by rw [hlo]; decide⟩ (Nat.le_of_ble_eq_true rfl) (zrc_obj (o := 5) hK (by decide) rfl) (fun S13 hS13 => ?_)
              refine so_go C0 2 (pc' := 30) (lv' := [(0, .ref (G 5)), (1, .int x1), (3, .int (x3 + 1)), (4, .int v8), (5, .int v10)]) (st' := []) rfl ?_
              exact so_sub (lv' := [(0, .ref (G 5)), (1, .int x1), (3, .int (x3 + 1))]) (zpk [0, 1, 2] rfl) (ih30 S13 x1 (x3 + 1))
          · refine so_go C0 3 (pc' := 82) (lv' := [(0, .ref (G 5)), (1, .int x1), (3, .int x3), (4, .int v8), (5, .int v10)]) (st' := [.int v8, .int v10, .ref (G 5)]) rfl ?_
            refine so_oV (As := [.int v10, .int v8]) (rest := []) C0 hK hA yk_Par_layRecord (c_Par_layRecord S9 v10 v8) wd_3_73 rfl rfl ⟨by rw [hf]; decide, by rw [hlo]; decide⟩ (Nat.le_of_ble_eq_true rfl) (zrc_obj (o := 5) hK (by decide) rfl) (fun S14 hS14 => ?_)
            refine so_go C0 3 (pc' := 30) (lv' := [(0, .ref (G 5)), (1, .int x1), (3, .int (x3 + 1)), (4, .int v8), (5, .int v10)]) (st' := []) rfl ?_
            exact so_sub (lv' := [(0, .ref (G 5)), (1, .int x1), (3, .int (x3 + 1))]) (zpk [0, 1, 2] rfl) (ih30 S14 x1 (x3 + 1))
  have K : zSO p l e R s m args below meth c 6 A D cA G S 0 (lv_args 0 [.ref (G 5), .int a1, .int a2]) [] zFv (f_Par_lay S a1 a2) := by
    unfold f_Par_lay
    refine so_go C0 1 (pc' := 1) (lv' := [(0, .ref (G 5)), (1, .int a1), (2, .int a2)]) (st' := [.ref (G 5)]) rfl ?_
    refine so_getf C0 hK (o := 5) (j := 13) (v := .ref (G 36)) (by decide) rfl i_Par (by decide) wd_1_171 rfl rfl ?_
    refine so_go C0 1 (pc' := 5) (lv' := [(0, .ref (G 5)), (1, .int a1), (2, .int a2)]) (st' := [.ref (G 5), .ref (G 36)]) rfl ?_
    refine so_getf C0 hK (o := 5) (j := 10) (v := .ref (G 33)) (by decide) rfl i_Par (by decide) wd_1_168 rfl rfl ?_
    refine so_cp (As := []) (rest := [.ref (G 36)]) C0 hK hA yk_Row_size (c_Row_size 22 (by decide)) wd_3_64 rfl rfl ⟨by rw [hf]; decide, by rw [hlo]; decide⟩ (Nat.le_of_ble_eq_true rfl) (zrc_row (k := 22) hK (by decide)) ?_
    refine so_ci (As := [.int (r_size S 22)]) (rest := []) C0 hK hA yk_Row_add (c_Row_add 25 (by decide) (r_size S 22)) wd_1_157 rfl rfl ⟨by rw [hf]; decide, by rw [hlo]; decide⟩ (Nat.le_of_ble_eq_true rfl) (zrc_row (k := 25) hK (by decide)) (fun S1 v2 hv2 => ?_)
    refine so_go C0 2 (pc' := 16) (lv' := [(0, .ref (G 5)), (1, .int a1), (2, .int a2)]) (st' := [.ref (G 5)]) rfl ?_
    refine so_getf C0 hK (o := 5) (j := 14) (v := .ref (G 37)) (by decide) rfl i_Par (by decide) wd_1_172 rfl rfl ?_
    refine so_cV (As := []) (rest := []) C0 hK hA yk_Row_empty (c_Row_empty 26 (by decide)) wd_3_65 rfl rfl ⟨by rw [hf]; decide, by rw [hlo]; decide⟩ (Nat.le_of_ble_eq_true rfl) (zrc_row (k := 26) hK (by decide)) (fun S3 hS3 => ?_)
    refine so_go C0 3 (pc' := 25) (lv' := [(0, .ref (G 5)), (1, .int a1), (2, .int a2)]) (st' := [.int 0, .int a2, .ref (G 5)]) rfl ?_
    refine so_cV (As := [.int a2, .int 0]) (rest := []) C0 hK hA yk_Par_putOpen (c_Par_putOpen S3 a2 0) wd_3_66 rfl rfl ⟨by rw [hf]; decide, by rw [hlo]; decide⟩ (Nat.le_of_ble_eq_true rfl) (zrc_obj (o := 5) hK (by decide) rfl) (fun S4 hS4 => ?_)
    refine so_go C0 2 (pc' := 30) (lv' := [(0, .ref (G 5)), (1, .int a1), (2, .int a2), (3, .int 0)]) (st' := []) rfl ?_
    exact so_sub (lv' := [(0, .ref (G 5)), (1, .int a1), (3, .int 0)]) (zpk [0, 1, 3] rfl) (lp30 zbig S4 a1 0)
  exact K r hr
def f_Par_empty (S : zS) : zS :=
  zbind (r_emp S 13) fun S1 =>
  zbind (r_emp S1 14) fun S2 =>
  zbind (r_emp S2 15) fun S3 =>
  zbind (r_emp S3 16) fun S4 =>
  zbind (r_emp S4 17) fun S5 =>
  zbind (r_emp S5 18) fun S6 =>
  zbind (r_emp S6 19) fun S7 =>
  zbind (r_emp S7 20) fun S8 =>
  zbind (r_emp S8 21) fun S9 =>
  zbind (r_emp S9 22) fun S10 =>
  zbind (r_emp S10 23) fun S11 =>
  zbind (r_emp S11 24) fun S12 =>
  zbind (r_emp S12 25) fun S13 =>
  zbind2 (f_Par_addPart S13 (-1) (-1)) fun S14 v15 =>
  S14
theorem mo_Par_empty (S : zS) : zmo S (f_Par_empty S) := by
  unfold f_Par_empty
  exact (mo_b (g := (fun x => x)) mo_r_emp fun S1 => (mo_b (g := (fun x => x)) mo_r_emp fun S2 => (mo_b (g := (fun x => x)) mo_r_emp fun S3 => (mo_b (g := (fun x => x)) mo_r_emp fun S4 => (mo_b (g := (fun x => x)) mo_r_emp fun S5 => (mo_b (g := (fun x => x)) mo_r_emp fun S6 => (mo_b (g := (fun x => x)) mo_r_emp fun S7 => (mo_b (g := (fun x => x)) mo_r_emp fun S8 => (mo_b (g := (fun x => x)) mo_r_emp fun S9 => (mo_b (g := (fun x => x)) mo_r_emp fun S10 => (mo_b (g := (fun x => x)) mo_r_emp fun S11 => (mo_b (g := (fun x => x)) mo_r_emp fun S12 => (mo_b (g := (fun x => x)) mo_r_emp fun S13 => (mo_b2 (g := (fun x => x)) (mo_Par_addPart S13 (-1) (-1)) fun S14 v15 => zmo_rf))))))))))))))
set_option maxHeartbeats 1000000 in
set_option maxRecDepth 20000 in
theorem c_Par_empty (S : zS) : zMet l y_Par_empty (zw y_Par_empty prog_7_method_21_code 1 none) 4 105 [.ref (G 5)] D zcl (ztys cA) A (zRep D cA G A) zfc zfs S (zFv (f_Par_empty S)) := by
  refine zMet_of (mo_Fv (mo_Par_empty S)) (by decide) tk_Par_empty (Nat.le_of_ble_eq_true rfl) ?_
  intro p e R s m args below meth c hf hlo C0 hK hA
  unfold f_Par_empty
  refine sw_go C0 1 (pc' := 1) (lv' := [(0, .ref (G 5))]) (st' := [.ref (G 5)]) rfl ?_
  refine sw_getf C0 hK (o := 5) (j := 1) (v := .ref (G 24)) (by decide) rfl i_Par (by decide) wd_1_159 rfl rfl ?_
  refine sw_cV zFv (As := []) (rest := []) C0 hK hA yk_Row_empty (c_Row_empty 13 (by decide)) wd_3_65 rfl rfl ⟨by rw [hf]; decide, by rw [hlo]; decide⟩ (Nat.le_of_ble_eq_true rfl) (zrc_row (k := 13) hK (by decide)) (fun S1 hS1 => ?_)
  refine sw_go C0 1 (pc' := 8) (lv' := [(0, .ref (G 5))]) (st' := [.ref (G 5)]) rfl ?_
  refine sw_getf C0 hK (o := 5) (j := 2) (v := .ref (G 25)) (by decide) rfl i_Par (by decide) wd_1_160 rfl rfl ?_
  refine sw_cV zFv (As := []) (rest := []) C0 hK hA yk_Row_empty (c_Row_empty 14 (by decide)) wd_3_65 rfl rfl ⟨by rw [hf]; decide, by rw [hlo]; decide⟩ (Nat.le_of_ble_eq_true rfl) (zrc_row (k := 14) hK (by decide)) (fun S2 hS2 => ?_)
  refine sw_go C0 1 (pc' := 15) (lv' := [(0, .ref (G 5))]) (st' := [.ref (G 5)]) rfl ?_
  refine sw_getf C0 hK (o := 5) (j := 3) (v := .ref (G 26)) (by decide) rfl i_Par (by decide) wd_1_161 rfl rfl ?_
  refine sw_cV zFv (As := []) (rest := []) C0 hK hA yk_Row_empty (c_Row_empty 15 (by decide)) wd_3_65 rfl rfl ⟨by rw [hf]; decide, by rw [hlo]; decide⟩ (Nat.le_of_ble_eq_true rfl) (zrc_row (k := 15) hK (by decide)) (fun S3 hS3 => ?_)
  refine sw_go C0 1 (pc' := 22) (lv' := [(0, .ref (G 5))]) (st' := [.ref (G 5)]) rfl ?_
  refine sw_getf C0 hK (o := 5) (j := 4) (v := .ref (G 27)) (by decide) rfl i_Par (by decide) wd_1_162 rfl rfl ?_
  refine sw_cV zFv (As := []) (rest := []) C0 hK hA yk_Row_empty (c_Row_empty 16 (by decide)) wd_3_65 rfl rfl ⟨by rw [hf]; decide, by rw [hlo]; decide⟩ (Nat.le_of_ble_eq_true rfl) (zrc_row (k := 16) hK (by decide)) (fun S4 hS4 => ?_)
  refine sw_go C0 1 (pc' := 29) (lv' := [(0, .ref (G 5))]) (st' := [.ref (G 5)]) rfl ?_
  refine sw_getf C0 hK (o := 5) (j := 5) (v := .ref (G 28)) (by decide) rfl i_Par (by decide) wd_1_163 rfl rfl ?_
  refine sw_cV zFv (As := []) (rest := []) C0 hK hA yk_Row_empty (c_Row_empty 17 (by decide)) wd_3_65 rfl rfl ⟨by rw [hf]; decide, by rw [hlo]; decide⟩ (Nat.le_of_ble_eq_true rfl) (zrc_row (k := 17) hK (by decide)) (fun S5 hS5 => ?_)
  refine sw_go C0 1 (pc' := 36) (lv' := [(0, .ref (G 5))]) (st' := [.ref (G 5)]) rfl ?_
  refine sw_getf C0 hK (o := 5) (j := 6) (v := .ref (G 29)) (by decide) rfl i_Par (by decide) wd_1_164 rfl rfl ?_
  refine sw_cV zFv (As := []) (rest := []) C0 hK hA yk_Row_empty (c_Row_empty 18 (by decide)) wd_3_65 rfl rfl ⟨by rw [hf]; decide, by rw [hlo]; decide⟩ (Nat.le_of_ble_eq_true rfl) (zrc_row (k := 18) hK (by decide)) (fun S6 hS6 => ?_)
  refine sw_go C0 1 (pc' := 43) (lv' := [(0, .ref (G 5))]) (st' := [.ref (G 5)]) rfl ?_
  refine sw_getf C0 hK (o := 5) (j := 7) (v := .ref (G 30)) (by decide) rfl i_Par (by decide) wd_1_165 rfl rfl ?_
  refine sw_cV zFv (As := []) (rest := []) C0 hK hA yk_Row_empty (c_Row_empty 19 (by decide)) wd_3_65 rfl rfl ⟨by rw [hf]; decide, by rw [hlo]; decide⟩ (Nat.le_of_ble_eq_true rfl) (zrc_row (k := 19) hK (by decide)) (fun S7 hS7 => ?_)
  refine sw_go C0 1 (pc' := 50) (lv' := [(0, .ref (G 5))]) (st' := [.ref (G 5)]) rfl ?_
  refine sw_getf C0 hK (o := 5) (j := 8) (v := .ref (G 31)) (by decide) rfl i_Par (by decide) wd_1_166 rfl rfl ?_
  refine sw_cV zFv (As := []) (rest := []) C0 hK hA yk_Row_empty (c_Row_empty 20 (by decide)) wd_3_65 rfl rfl ⟨by rw [hf]; decide, by rw [hlo]; decide⟩ (Nat.le_of_ble_eq_true rfl) (zrc_row (k := 20) hK (by decide)) (fun S8 hS8 => ?_)
  refine sw_go C0 1 (pc' := 57) (lv' := [(0, .ref (G 5))]) (st' := [.ref (G 5)]) rfl ?_
  refine sw_getf C0 hK (o := 5) (j := 9) (v := .ref (G 32)) (by decide) rfl i_Par (by decide) wd_1_167 rfl rfl ?_
  refine sw_cV zFv (As := []) (rest := []) C0 hK hA yk_Row_empty (c_Row_empty 21 (by decide)) wd_3_65 rfl rfl ⟨by rw [hf]; decide, by rw [hlo]; decide⟩ (Nat.le_of_ble_eq_true rfl) (zrc_row (k := 21) hK (by decide)) (fun S9 hS9 => ?_)
  refine sw_go C0 1 (pc' := 64) (lv' := [(0, .ref (G 5))]) (st' := [.ref (G 5)]) rfl ?_
  refine sw_getf C0 hK (o := 5) (j := 10) (v := .ref (G 33)) (by decide) rfl i_Par (by decide) wd_1_168 rfl rfl ?_
  refine sw_cV zFv (As := []) (rest := []) C0 hK hA yk_Row_empty (c_Row_empty 22 (by decide)) wd_3_65 rfl rfl ⟨by rw [hf]; decide, by rw [hlo]; decide⟩ (Nat.le_of_ble_eq_true rfl) (zrc_row (k := 22) hK (by decide)) (fun S10 hS10 => ?_)
  refine sw_go C0 1 (pc' := 71) (lv' := [(0, .ref (G 5))]) (st' := [.ref (G 5)]) rfl ?_
  refine sw_getf C0 hK (o := 5) (j := 11) (v := .ref (G 34)) (by decide) rfl i_Par (by decide) wd_1_169 rfl rfl ?_
  refine sw_cV zFv (As := []) (rest := []) C0 hK hA yk_Row_empty (c_Row_empty 23 (by decide)) wd_3_65 rfl rfl ⟨by rw [hf]; decide, by rw [hlo]; decide⟩ (Nat.le_of_ble_eq_true rfl) (zrc_row (k := 23) hK (by decide)) (fun S11 hS11 => ?_)
  refine sw_go C0 1 (pc' := 78) (lv' := [(0, .ref (G 5))]) (st' := [.ref (G 5)]) rfl ?_
  refine sw_getf C0 hK (o := 5) (j := 12) (v := .ref (G 35)) (by decide) rfl i_Par (by decide) wd_1_170 rfl rfl ?_
  refine sw_cV zFv (As := []) (rest := []) C0 hK hA yk_Row_empty (c_Row_empty 24 (by decide)) wd_3_65 rfl rfl ⟨by rw [hf]; decide, by rw [hlo]; decide⟩ (Nat.le_of_ble_eq_true rfl) (zrc_row (k := 24) hK (by decide)) (fun S12 hS12 => ?_)
  refine sw_go C0 1 (pc' := 85) (lv' := [(0, .ref (G 5))]) (st' := [.ref (G 5)]) rfl ?_
  refine sw_getf C0 hK (o := 5) (j := 13) (v := .ref (G 36)) (by decide) rfl i_Par (by decide) wd_1_171 rfl rfl ?_
  refine sw_cV zFv (As := []) (rest := []) C0 hK hA yk_Row_empty (c_Row_empty 25 (by decide)) wd_3_65 rfl rfl ⟨by rw [hf]; decide, by rw [hlo]; decide⟩ (Nat.le_of_ble_eq_true rfl) (zrc_row (k := 25) hK (by decide)) (fun S13 hS13 => ?_)
  refine sw_go C0 3 (pc' := 94) (lv' := [(0, .ref (G 5))]) (st' := [.int (-1), .int (-1), .ref (G 5)]) rfl ?_
  refine sw_ci zFv (As := [.int (-1), .int (-1)]) (rest := []) C0 hK hA yk_Par_addPart (c_Par_addPart S13 (-1) (-1)) wd_1_153 rfl rfl ⟨by rw [hf]; decide, by rw [hlo]; decide⟩ (Nat.le_of_ble_eq_true rfl) (zrc_obj (o := 5) hK (by decide) rfl) (fun S14 v15 hv15 => ?_)
  refine sw_go C0 1 (pc' := 98) (lv' := [(0, .ref (G 5))]) (st' := []) rfl ?_
  exact sw_retv C0 rfl rfl
def f_Par_label (S : zS) (a1 : Int32) : Int32 :=
  (r_at S 18 a1)
set_option maxHeartbeats 1000000 in
set_option maxRecDepth 20000 in
theorem c_Par_label (S : zS) (a1 : Int32) : zMet l y_Par_label (zw y_Par_label prog_7_method_10_code 2 (some Jvm.ClassFile.FieldType.int)) 1 21 [.ref (G 5), .int a1] D zcl (ztys cA) A (zRep D cA G A) zfc zfs S ((zFp S) (f_Par_label S a1)) := by
  refine zMet_of ⟨Nat.le_refl _, Nat.le_refl _⟩ (by decide) tk_Par_label (Nat.le_of_ble_eq_true rfl) ?_
  intro p e R s m args below meth c hf hlo C0 hK hA
  unfold f_Par_label
  refine sw_go C0 1 (pc' := 1) (lv' := [(0, .ref (G 5)), (1, .int a1)]) (st' := [.ref (G 5)]) rfl ?_
  refine sw_getf C0 hK (o := 5) (j := 6) (v := .ref (G 29)) (by decide) rfl i_Par (by decide) wd_1_164 rfl rfl ?_
  refine sw_go C0 1 (pc' := 5) (lv' := [(0, .ref (G 5)), (1, .int a1)]) (st' := [.int a1, .ref (G 29)]) rfl ?_
  refine sw_cp (As := [.int a1]) (rest := []) C0 hK hA yk_Row_at (c_Row_at 18 (by decide) a1) wd_3_93 rfl rfl ⟨by rw [hf]; decide, by rw [hlo]; decide⟩ (Nat.le_of_ble_eq_true rfl) (zrc_row (k := 18) hK (by decide)) ?_
  exact sw_reti C0 rfl rfl
def f_Par_shape (S : zS) (a1 : Int32) : Int32 :=
  (r_at S 13 a1)
set_option maxHeartbeats 1000000 in
set_option maxRecDepth 20000 in
theorem c_Par_shape (S : zS) (a1 : Int32) : zMet l y_Par_shape (zw y_Par_shape prog_7_method_3_code 2 (some Jvm.ClassFile.FieldType.int)) 1 21 [.ref (G 5), .int a1] D zcl (ztys cA) A (zRep D cA G A) zfc zfs S ((zFp S) (f_Par_shape S a1)) := by
  refine zMet_of ⟨Nat.le_refl _, Nat.le_refl _⟩ (by decide) tk_Par_shape (Nat.le_of_ble_eq_true rfl) ?_
  intro p e R s m args below meth c hf hlo C0 hK hA
  unfold f_Par_shape
  refine sw_go C0 1 (pc' := 1) (lv' := [(0, .ref (G 5)), (1, .int a1)]) (st' := [.ref (G 5)]) rfl ?_
  refine sw_getf C0 hK (o := 5) (j := 1) (v := .ref (G 24)) (by decide) rfl i_Par (by decide) wd_1_159 rfl rfl ?_
  refine sw_go C0 1 (pc' := 5) (lv' := [(0, .ref (G 5)), (1, .int a1)]) (st' := [.int a1, .ref (G 24)]) rfl ?_
  refine sw_cp (As := [.int a1]) (rest := []) C0 hK hA yk_Row_at (c_Row_at 13 (by decide) a1) wd_3_93 rfl rfl ⟨by rw [hf]; decide, by rw [hlo]; decide⟩ (Nat.le_of_ble_eq_true rfl) (zrc_row (k := 13) hK (by decide)) ?_
  exact sw_reti C0 rfl rfl
def f_Par_size (S : zS) : Int32 :=
  (r_size S 13)
set_option maxHeartbeats 1000000 in
set_option maxRecDepth 20000 in
theorem c_Par_size (S : zS) : zMet l y_Par_size (zw y_Par_size prog_7_method_2_code 1 (some Jvm.ClassFile.FieldType.int)) 1 20 [.ref (G 5)] D zcl (ztys cA) A (zRep D cA G A) zfc zfs S ((zFp S) (f_Par_size S)) := by
  refine zMet_of ⟨Nat.le_refl _, Nat.le_refl _⟩ (by decide) tk_Par_size (Nat.le_of_ble_eq_true rfl) ?_
  intro p e R s m args below meth c hf hlo C0 hK hA
  unfold f_Par_size
  refine sw_go C0 1 (pc' := 1) (lv' := [(0, .ref (G 5))]) (st' := [.ref (G 5)]) rfl ?_
  refine sw_getf C0 hK (o := 5) (j := 1) (v := .ref (G 24)) (by decide) rfl i_Par (by decide) wd_1_159 rfl rfl ?_
  refine sw_cp (As := []) (rest := []) C0 hK hA yk_Row_size (c_Row_size 13 (by decide)) wd_3_64 rfl rfl ⟨by rw [hf]; decide, by rw [hlo]; decide⟩ (Nat.le_of_ble_eq_true rfl) (zrc_row (k := 13) hK (by decide)) ?_
  exact sw_reti C0 rfl rfl
def f_Par_upper (S : zS) (a1 : Int32) : Int32 :=
  (r_at S 15 a1)
set_option maxHeartbeats 1000000 in
set_option maxRecDepth 20000 in
theorem c_Par_upper (S : zS) (a1 : Int32) : zMet l y_Par_upper (zw y_Par_upper prog_7_method_5_code 2 (some Jvm.ClassFile.FieldType.int)) 1 21 [.ref (G 5), .int a1] D zcl (ztys cA) A (zRep D cA G A) zfc zfs S ((zFp S) (f_Par_upper S a1)) := by
  refine zMet_of ⟨Nat.le_refl _, Nat.le_refl _⟩ (by decide) tk_Par_upper (Nat.le_of_ble_eq_true rfl) ?_
  intro p e R s m args below meth c hf hlo C0 hK hA
  unfold f_Par_upper
  refine sw_go C0 1 (pc' := 1) (lv' := [(0, .ref (G 5)), (1, .int a1)]) (st' := [.ref (G 5)]) rfl ?_
  refine sw_getf C0 hK (o := 5) (j := 3) (v := .ref (G 26)) (by decide) rfl i_Par (by decide) wd_1_161 rfl rfl ?_
  refine sw_go C0 1 (pc' := 5) (lv' := [(0, .ref (G 5)), (1, .int a1)]) (st' := [.int a1, .ref (G 26)]) rfl ?_
  refine sw_cp (As := [.int a1]) (rest := []) C0 hK hA yk_Row_at (c_Row_at 15 (by decide) a1) wd_3_93 rfl rfl ⟨by rw [hf]; decide, by rw [hlo]; decide⟩ (Nat.le_of_ble_eq_true rfl) (zrc_row (k := 15) hK (by decide)) ?_
  exact sw_reti C0 rfl rfl
def f_Par_askPart (S : zS) (a1 : Int32) : Int32 :=
  (r_at S 23 a1)
set_option maxHeartbeats 1000000 in
set_option maxRecDepth 20000 in
theorem c_Par_askPart (S : zS) (a1 : Int32) : zMet l y_Par_askPart (zw y_Par_askPart prog_7_method_17_code 2 (some Jvm.ClassFile.FieldType.int)) 1 21 [.ref (G 5), .int a1] D zcl (ztys cA) A (zRep D cA G A) zfc zfs S ((zFp S) (f_Par_askPart S a1)) := by
  refine zMet_of ⟨Nat.le_refl _, Nat.le_refl _⟩ (by decide) tk_Par_askPart (Nat.le_of_ble_eq_true rfl) ?_
  intro p e R s m args below meth c hf hlo C0 hK hA
  unfold f_Par_askPart
  refine sw_go C0 1 (pc' := 1) (lv' := [(0, .ref (G 5)), (1, .int a1)]) (st' := [.ref (G 5)]) rfl ?_
  refine sw_getf C0 hK (o := 5) (j := 11) (v := .ref (G 34)) (by decide) rfl i_Par (by decide) wd_1_169 rfl rfl ?_
  refine sw_go C0 1 (pc' := 5) (lv' := [(0, .ref (G 5)), (1, .int a1)]) (st' := [.int a1, .ref (G 34)]) rfl ?_
  refine sw_cp (As := [.int a1]) (rest := []) C0 hK hA yk_Row_at (c_Row_at 23 (by decide) a1) wd_3_93 rfl rfl ⟨by rw [hf]; decide, by rw [hlo]; decide⟩ (Nat.le_of_ble_eq_true rfl) (zrc_row (k := 23) hK (by decide)) ?_
  exact sw_reti C0 rfl rfl
def f_Par_stopOf (S : zS) (a1 : Int32) : Int32 :=
  if (r_size S 25) ≤ (a1 + 1) then
    (r_size S 22)
  else
    (r_at S 25 (a1 + 1))
set_option maxHeartbeats 1000000 in
set_option maxRecDepth 20000 in
theorem c_Par_stopOf (S : zS) (a1 : Int32) : zMet l y_Par_stopOf (zw y_Par_stopOf prog_7_method_19_code 2 (some Jvm.ClassFile.FieldType.int)) 1 21 [.ref (G 5), .int a1] D zcl (ztys cA) A (zRep D cA G A) zfc zfs S ((zFp S) (f_Par_stopOf S a1)) := by
  refine zMet_of ⟨Nat.le_refl _, Nat.le_refl _⟩ (by decide) tk_Par_stopOf (Nat.le_of_ble_eq_true rfl) ?_
  intro p e R s m args below meth c hf hlo C0 hK hA
  unfold f_Par_stopOf
  refine sw_go C0 4 (pc' := 4) (lv' := [(0, .ref (G 5)), (1, .int a1)]) (st' := [.ref (G 5), .int (a1 + 1)]) rfl ?_
  refine sw_getf C0 hK (o := 5) (j := 13) (v := .ref (G 36)) (by decide) rfl i_Par (by decide) wd_1_171 rfl rfl ?_
  refine sw_cp (As := []) (rest := [.int (a1 + 1)]) C0 hK hA yk_Row_size (c_Row_size 25 (by decide)) wd_3_64 rfl rfl ⟨by rw [hf]; decide, by rw [hlo]; decide⟩ (Nat.le_of_ble_eq_true rfl) (zrc_row (k := 25) hK (by decide)) ?_
  refine sw_icmp_ge (zFp S) C0 rfl (fun h1 => ?_) (fun h1 => ?_)
  · refine sw_go C0 1 (pc' := 27) (lv' := [(0, .ref (G 5)), (1, .int a1)]) (st' := [.ref (G 5)]) rfl ?_
    refine sw_getf C0 hK (o := 5) (j := 10) (v := .ref (G 33)) (by decide) rfl i_Par (by decide) wd_1_168 rfl rfl ?_
    refine sw_cp (As := []) (rest := []) C0 hK hA yk_Row_size (c_Row_size 22 (by decide)) wd_3_64 rfl rfl ⟨by rw [hf]; decide, by rw [hlo]; decide⟩ (Nat.le_of_ble_eq_true rfl) (zrc_row (k := 22) hK (by decide)) ?_
    exact sw_reti C0 rfl rfl
  · refine sw_go C0 1 (pc' := 14) (lv' := [(0, .ref (G 5)), (1, .int a1)]) (st' := [.ref (G 5)]) rfl ?_
    refine sw_getf C0 hK (o := 5) (j := 13) (v := .ref (G 36)) (by decide) rfl i_Par (by decide) wd_1_171 rfl rfl ?_
    refine sw_go C0 3 (pc' := 20) (lv' := [(0, .ref (G 5)), (1, .int a1)]) (st' := [.int (a1 + 1), .ref (G 36)]) rfl ?_
    refine sw_cp (As := [.int (a1 + 1)]) (rest := []) C0 hK hA yk_Row_at (c_Row_at 25 (by decide) (a1 + 1)) wd_3_93 rfl rfl ⟨by rw [hf]; decide, by rw [hlo]; decide⟩ (Nat.le_of_ble_eq_true rfl) (zrc_row (k := 25) hK (by decide)) ?_
    refine sw_go C0 1 (pc' := 33) (lv' := [(0, .ref (G 5)), (1, .int a1)]) (st' := [.int (r_at S 25 (a1 + 1))]) rfl ?_
    exact sw_reti C0 rfl rfl
def f_Par_askRule (S : zS) (a1 : Int32) : Int32 :=
  (r_at S 22 a1)
set_option maxHeartbeats 1000000 in
set_option maxRecDepth 20000 in
theorem c_Par_askRule (S : zS) (a1 : Int32) : zMet l y_Par_askRule (zw y_Par_askRule prog_7_method_16_code 2 (some Jvm.ClassFile.FieldType.int)) 1 21 [.ref (G 5), .int a1] D zcl (ztys cA) A (zRep D cA G A) zfc zfs S ((zFp S) (f_Par_askRule S a1)) := by
  refine zMet_of ⟨Nat.le_refl _, Nat.le_refl _⟩ (by decide) tk_Par_askRule (Nat.le_of_ble_eq_true rfl) ?_
  intro p e R s m args below meth c hf hlo C0 hK hA
  unfold f_Par_askRule
  refine sw_go C0 1 (pc' := 1) (lv' := [(0, .ref (G 5)), (1, .int a1)]) (st' := [.ref (G 5)]) rfl ?_
  refine sw_getf C0 hK (o := 5) (j := 10) (v := .ref (G 33)) (by decide) rfl i_Par (by decide) wd_1_168 rfl rfl ?_
  refine sw_go C0 1 (pc' := 5) (lv' := [(0, .ref (G 5)), (1, .int a1)]) (st' := [.int a1, .ref (G 33)]) rfl ?_
  refine sw_cp (As := [.int a1]) (rest := []) C0 hK hA yk_Row_at (c_Row_at 22 (by decide) a1) wd_3_93 rfl rfl ⟨by rw [hf]; decide, by rw [hlo]; decide⟩ (Nat.le_of_ble_eq_true rfl) (zrc_row (k := 22) hK (by decide)) ?_
  exact sw_reti C0 rfl rfl
def f_Par_asks (S : zS) : Int32 :=
  (r_size S 22)
set_option maxHeartbeats 1000000 in
set_option maxRecDepth 20000 in
theorem c_Par_asks (S : zS) : zMet l y_Par_asks (zw y_Par_asks prog_7_method_13_code 1 (some Jvm.ClassFile.FieldType.int)) 1 20 [.ref (G 5)] D zcl (ztys cA) A (zRep D cA G A) zfc zfs S ((zFp S) (f_Par_asks S)) := by
  refine zMet_of ⟨Nat.le_refl _, Nat.le_refl _⟩ (by decide) tk_Par_asks (Nat.le_of_ble_eq_true rfl) ?_
  intro p e R s m args below meth c hf hlo C0 hK hA
  unfold f_Par_asks
  refine sw_go C0 1 (pc' := 1) (lv' := [(0, .ref (G 5))]) (st' := [.ref (G 5)]) rfl ?_
  refine sw_getf C0 hK (o := 5) (j := 10) (v := .ref (G 33)) (by decide) rfl i_Par (by decide) wd_1_168 rfl rfl ?_
  refine sw_cp (As := []) (rest := []) C0 hK hA yk_Row_size (c_Row_size 22 (by decide)) wd_3_64 rfl rfl ⟨by rw [hf]; decide, by rw [hlo]; decide⟩ (Nat.le_of_ble_eq_true rfl) (zrc_row (k := 22) hK (by decide)) ?_
  exact sw_reti C0 rfl rfl
def f_Par_firstAsk (S : zS) (a1 : Int32) : Int32 :=
  (r_at S 21 a1)
set_option maxHeartbeats 1000000 in
set_option maxRecDepth 20000 in
theorem c_Par_firstAsk (S : zS) (a1 : Int32) : zMet l y_Par_firstAsk (zw y_Par_firstAsk prog_7_method_14_code 2 (some Jvm.ClassFile.FieldType.int)) 1 21 [.ref (G 5), .int a1] D zcl (ztys cA) A (zRep D cA G A) zfc zfs S ((zFp S) (f_Par_firstAsk S a1)) := by
  refine zMet_of ⟨Nat.le_refl _, Nat.le_refl _⟩ (by decide) tk_Par_firstAsk (Nat.le_of_ble_eq_true rfl) ?_
  intro p e R s m args below meth c hf hlo C0 hK hA
  unfold f_Par_firstAsk
  refine sw_go C0 1 (pc' := 1) (lv' := [(0, .ref (G 5)), (1, .int a1)]) (st' := [.ref (G 5)]) rfl ?_
  refine sw_getf C0 hK (o := 5) (j := 9) (v := .ref (G 32)) (by decide) rfl i_Par (by decide) wd_1_167 rfl rfl ?_
  refine sw_go C0 1 (pc' := 5) (lv' := [(0, .ref (G 5)), (1, .int a1)]) (st' := [.int a1, .ref (G 32)]) rfl ?_
  refine sw_cp (As := [.int a1]) (rest := []) C0 hK hA yk_Row_at (c_Row_at 21 (by decide) a1) wd_3_93 rfl rfl ⟨by rw [hf]; decide, by rw [hlo]; decide⟩ (Nat.le_of_ble_eq_true rfl) (zrc_row (k := 21) hK (by decide)) ?_
  exact sw_reti C0 rfl rfl
def f_Par_nextAsk (S : zS) (a1 : Int32) : Int32 :=
  (r_at S 24 a1)
set_option maxHeartbeats 1000000 in
set_option maxRecDepth 20000 in
theorem c_Par_nextAsk (S : zS) (a1 : Int32) : zMet l y_Par_nextAsk (zw y_Par_nextAsk prog_7_method_15_code 2 (some Jvm.ClassFile.FieldType.int)) 1 21 [.ref (G 5), .int a1] D zcl (ztys cA) A (zRep D cA G A) zfc zfs S ((zFp S) (f_Par_nextAsk S a1)) := by
  refine zMet_of ⟨Nat.le_refl _, Nat.le_refl _⟩ (by decide) tk_Par_nextAsk (Nat.le_of_ble_eq_true rfl) ?_
  intro p e R s m args below meth c hf hlo C0 hK hA
  unfold f_Par_nextAsk
  refine sw_go C0 1 (pc' := 1) (lv' := [(0, .ref (G 5)), (1, .int a1)]) (st' := [.ref (G 5)]) rfl ?_
  refine sw_getf C0 hK (o := 5) (j := 12) (v := .ref (G 35)) (by decide) rfl i_Par (by decide) wd_1_170 rfl rfl ?_
  refine sw_go C0 1 (pc' := 5) (lv' := [(0, .ref (G 5)), (1, .int a1)]) (st' := [.int a1, .ref (G 35)]) rfl ?_
  refine sw_cp (As := [.int a1]) (rest := []) C0 hK hA yk_Row_at (c_Row_at 24 (by decide) a1) wd_3_93 rfl rfl ⟨by rw [hf]; decide, by rw [hlo]; decide⟩ (Nat.le_of_ble_eq_true rfl) (zrc_row (k := 24) hK (by decide)) ?_
  exact sw_reti C0 rfl rfl
def f_Par_edges (S : zS) : Int32 :=
  (r_size S 18)
set_option maxHeartbeats 1000000 in
set_option maxRecDepth 20000 in
theorem c_Par_edges (S : zS) : zMet l y_Par_edges (zw y_Par_edges prog_7_method_7_code 1 (some Jvm.ClassFile.FieldType.int)) 1 20 [.ref (G 5)] D zcl (ztys cA) A (zRep D cA G A) zfc zfs S ((zFp S) (f_Par_edges S)) := by
  refine zMet_of ⟨Nat.le_refl _, Nat.le_refl _⟩ (by decide) tk_Par_edges (Nat.le_of_ble_eq_true rfl) ?_
  intro p e R s m args below meth c hf hlo C0 hK hA
  unfold f_Par_edges
  refine sw_go C0 1 (pc' := 1) (lv' := [(0, .ref (G 5))]) (st' := [.ref (G 5)]) rfl ?_
  refine sw_getf C0 hK (o := 5) (j := 6) (v := .ref (G 29)) (by decide) rfl i_Par (by decide) wd_1_164 rfl rfl ?_
  refine sw_cp (As := []) (rest := []) C0 hK hA yk_Row_size (c_Row_size 18 (by decide)) wd_3_64 rfl rfl ⟨by rw [hf]; decide, by rw [hlo]; decide⟩ (Nat.le_of_ble_eq_true rfl) (zrc_row (k := 18) hK (by decide)) ?_
  exact sw_reti C0 rfl rfl
def f_Par_firstEdge (S : zS) (a1 : Int32) : Int32 :=
  (r_at S 17 a1)
set_option maxHeartbeats 1000000 in
set_option maxRecDepth 20000 in
theorem c_Par_firstEdge (S : zS) (a1 : Int32) : zMet l y_Par_firstEdge (zw y_Par_firstEdge prog_7_method_8_code 2 (some Jvm.ClassFile.FieldType.int)) 1 21 [.ref (G 5), .int a1] D zcl (ztys cA) A (zRep D cA G A) zfc zfs S ((zFp S) (f_Par_firstEdge S a1)) := by
  refine zMet_of ⟨Nat.le_refl _, Nat.le_refl _⟩ (by decide) tk_Par_firstEdge (Nat.le_of_ble_eq_true rfl) ?_
  intro p e R s m args below meth c hf hlo C0 hK hA
  unfold f_Par_firstEdge
  refine sw_go C0 1 (pc' := 1) (lv' := [(0, .ref (G 5)), (1, .int a1)]) (st' := [.ref (G 5)]) rfl ?_
  refine sw_getf C0 hK (o := 5) (j := 5) (v := .ref (G 28)) (by decide) rfl i_Par (by decide) wd_1_163 rfl rfl ?_
  refine sw_go C0 1 (pc' := 5) (lv' := [(0, .ref (G 5)), (1, .int a1)]) (st' := [.int a1, .ref (G 28)]) rfl ?_
  refine sw_cp (As := [.int a1]) (rest := []) C0 hK hA yk_Row_at (c_Row_at 17 (by decide) a1) wd_3_93 rfl rfl ⟨by rw [hf]; decide, by rw [hlo]; decide⟩ (Nat.le_of_ble_eq_true rfl) (zrc_row (k := 17) hK (by decide)) ?_
  exact sw_reti C0 rfl rfl
def f_Par_nextEdge (S : zS) (a1 : Int32) : Int32 :=
  (r_at S 19 a1)
set_option maxHeartbeats 1000000 in
set_option maxRecDepth 20000 in
theorem c_Par_nextEdge (S : zS) (a1 : Int32) : zMet l y_Par_nextEdge (zw y_Par_nextEdge prog_7_method_9_code 2 (some Jvm.ClassFile.FieldType.int)) 1 21 [.ref (G 5), .int a1] D zcl (ztys cA) A (zRep D cA G A) zfc zfs S ((zFp S) (f_Par_nextEdge S a1)) := by
  refine zMet_of ⟨Nat.le_refl _, Nat.le_refl _⟩ (by decide) tk_Par_nextEdge (Nat.le_of_ble_eq_true rfl) ?_
  intro p e R s m args below meth c hf hlo C0 hK hA
  unfold f_Par_nextEdge
  refine sw_go C0 1 (pc' := 1) (lv' := [(0, .ref (G 5)), (1, .int a1)]) (st' := [.ref (G 5)]) rfl ?_
  refine sw_getf C0 hK (o := 5) (j := 7) (v := .ref (G 30)) (by decide) rfl i_Par (by decide) wd_1_165 rfl rfl ?_
  refine sw_go C0 1 (pc' := 5) (lv' := [(0, .ref (G 5)), (1, .int a1)]) (st' := [.int a1, .ref (G 30)]) rfl ?_
  refine sw_cp (As := [.int a1]) (rest := []) C0 hK hA yk_Row_at (c_Row_at 19 (by decide) a1) wd_3_93 rfl rfl ⟨by rw [hf]; decide, by rw [hlo]; decide⟩ (Nat.le_of_ble_eq_true rfl) (zrc_row (k := 19) hK (by decide)) ?_
  exact sw_reti C0 rfl rfl
def f_Par_startOf (S : zS) (a1 : Int32) : Int32 :=
  (r_at S 25 a1)
set_option maxHeartbeats 1000000 in
set_option maxRecDepth 20000 in
theorem c_Par_startOf (S : zS) (a1 : Int32) : zMet l y_Par_startOf (zw y_Par_startOf prog_7_method_18_code 2 (some Jvm.ClassFile.FieldType.int)) 1 21 [.ref (G 5), .int a1] D zcl (ztys cA) A (zRep D cA G A) zfc zfs S ((zFp S) (f_Par_startOf S a1)) := by
  refine zMet_of ⟨Nat.le_refl _, Nat.le_refl _⟩ (by decide) tk_Par_startOf (Nat.le_of_ble_eq_true rfl) ?_
  intro p e R s m args below meth c hf hlo C0 hK hA
  unfold f_Par_startOf
  refine sw_go C0 1 (pc' := 1) (lv' := [(0, .ref (G 5)), (1, .int a1)]) (st' := [.ref (G 5)]) rfl ?_
  refine sw_getf C0 hK (o := 5) (j := 13) (v := .ref (G 36)) (by decide) rfl i_Par (by decide) wd_1_171 rfl rfl ?_
  refine sw_go C0 1 (pc' := 5) (lv' := [(0, .ref (G 5)), (1, .int a1)]) (st' := [.int a1, .ref (G 36)]) rfl ?_
  refine sw_cp (As := [.int a1]) (rest := []) C0 hK hA yk_Row_at (c_Row_at 25 (by decide) a1) wd_3_93 rfl rfl ⟨by rw [hf]; decide, by rw [hlo]; decide⟩ (Nat.le_of_ble_eq_true rfl) (zrc_row (k := 25) hK (by decide)) ?_
  exact sw_reti C0 rfl rfl
def f_Par_sort (S : zS) (a1 : Int32) : Int32 :=
  (r_at S 14 a1)
set_option maxHeartbeats 1000000 in
set_option maxRecDepth 20000 in
theorem c_Par_sort (S : zS) (a1 : Int32) : zMet l y_Par_sort (zw y_Par_sort prog_7_method_4_code 2 (some Jvm.ClassFile.FieldType.int)) 1 21 [.ref (G 5), .int a1] D zcl (ztys cA) A (zRep D cA G A) zfc zfs S ((zFp S) (f_Par_sort S a1)) := by
  refine zMet_of ⟨Nat.le_refl _, Nat.le_refl _⟩ (by decide) tk_Par_sort (Nat.le_of_ble_eq_true rfl) ?_
  intro p e R s m args below meth c hf hlo C0 hK hA
  unfold f_Par_sort
  refine sw_go C0 1 (pc' := 1) (lv' := [(0, .ref (G 5)), (1, .int a1)]) (st' := [.ref (G 5)]) rfl ?_
  refine sw_getf C0 hK (o := 5) (j := 2) (v := .ref (G 25)) (by decide) rfl i_Par (by decide) wd_1_160 rfl rfl ?_
  refine sw_go C0 1 (pc' := 5) (lv' := [(0, .ref (G 5)), (1, .int a1)]) (st' := [.int a1, .ref (G 25)]) rfl ?_
  refine sw_cp (As := [.int a1]) (rest := []) C0 hK hA yk_Row_at (c_Row_at 14 (by decide) a1) wd_3_93 rfl rfl ⟨by rw [hf]; decide, by rw [hlo]; decide⟩ (Nat.le_of_ble_eq_true rfl) (zrc_row (k := 14) hK (by decide)) ?_
  exact sw_reti C0 rfl rfl
def f_Par_child (S : zS) (a1 : Int32) : Int32 :=
  (r_at S 20 a1)
set_option maxHeartbeats 1000000 in
set_option maxRecDepth 20000 in
theorem c_Par_child (S : zS) (a1 : Int32) : zMet l y_Par_child (zw y_Par_child prog_7_method_11_code 2 (some Jvm.ClassFile.FieldType.int)) 1 21 [.ref (G 5), .int a1] D zcl (ztys cA) A (zRep D cA G A) zfc zfs S ((zFp S) (f_Par_child S a1)) := by
  refine zMet_of ⟨Nat.le_refl _, Nat.le_refl _⟩ (by decide) tk_Par_child (Nat.le_of_ble_eq_true rfl) ?_
  intro p e R s m args below meth c hf hlo C0 hK hA
  unfold f_Par_child
  refine sw_go C0 1 (pc' := 1) (lv' := [(0, .ref (G 5)), (1, .int a1)]) (st' := [.ref (G 5)]) rfl ?_
  refine sw_getf C0 hK (o := 5) (j := 8) (v := .ref (G 31)) (by decide) rfl i_Par (by decide) wd_1_166 rfl rfl ?_
  refine sw_go C0 1 (pc' := 5) (lv' := [(0, .ref (G 5)), (1, .int a1)]) (st' := [.int a1, .ref (G 31)]) rfl ?_
  refine sw_cp (As := [.int a1]) (rest := []) C0 hK hA yk_Row_at (c_Row_at 20 (by decide) a1) wd_3_93 rfl rfl ⟨by rw [hf]; decide, by rw [hlo]; decide⟩ (Nat.le_of_ble_eq_true rfl) (zrc_row (k := 20) hK (by decide)) ?_
  exact sw_reti C0 rfl rfl
def f_Par_upperEdge (S : zS) (a1 : Int32) : Int32 :=
  (r_at S 16 a1)
set_option maxHeartbeats 1000000 in
set_option maxRecDepth 20000 in
theorem c_Par_upperEdge (S : zS) (a1 : Int32) : zMet l y_Par_upperEdge (zw y_Par_upperEdge prog_7_method_6_code 2 (some Jvm.ClassFile.FieldType.int)) 1 21 [.ref (G 5), .int a1] D zcl (ztys cA) A (zRep D cA G A) zfc zfs S ((zFp S) (f_Par_upperEdge S a1)) := by
  refine zMet_of ⟨Nat.le_refl _, Nat.le_refl _⟩ (by decide) tk_Par_upperEdge (Nat.le_of_ble_eq_true rfl) ?_
  intro p e R s m args below meth c hf hlo C0 hK hA
  unfold f_Par_upperEdge
  refine sw_go C0 1 (pc' := 1) (lv' := [(0, .ref (G 5)), (1, .int a1)]) (st' := [.ref (G 5)]) rfl ?_
  refine sw_getf C0 hK (o := 5) (j := 4) (v := .ref (G 27)) (by decide) rfl i_Par (by decide) wd_1_162 rfl rfl ?_
  refine sw_go C0 1 (pc' := 5) (lv' := [(0, .ref (G 5)), (1, .int a1)]) (st' := [.int a1, .ref (G 27)]) rfl ?_
  refine sw_cp (As := [.int a1]) (rest := []) C0 hK hA yk_Row_at (c_Row_at 16 (by decide) a1) wd_3_93 rfl rfl ⟨by rw [hf]; decide, by rw [hlo]; decide⟩ (Nat.le_of_ble_eq_true rfl) (zrc_row (k := 16) hK (by decide)) ?_
  exact sw_reti C0 rfl rfl
def f_Par_edgeOf (S : zS) (a1 : Int32) (a2 : Int32) : Option (Int32) :=
  zob (f_Par_lastBelow S a1 a2) fun v1 =>
  zbind (f_Par_edgeAfter S a1 v1) fun v2 =>
  if v2 = (-1) then
    some (-1)
  else
    if ¬ (r_at S 18 v2) = a2 then
      some (-1)
    else
      some v2
set_option maxHeartbeats 1000000 in
set_option maxRecDepth 20000 in
theorem c_Par_edgeOf (S : zS) (a1 : Int32) (a2 : Int32) : ∀ r, f_Par_edgeOf S a1 a2 = some r → zMet l y_Par_edgeOf (zw y_Par_edgeOf prog_7_method_12_code 4 (some Jvm.ClassFile.FieldType.int)) 2 46 [.ref (G 5), .int a1, .int a2] D zcl (ztys cA) A (zRep D cA G A) zfc zfs S ((zFp S) r) := by
  intro r hr
  refine zMet_of ⟨Nat.le_refl _, Nat.le_refl _⟩ (by decide) tk_Par_edgeOf (Nat.le_of_ble_eq_true rfl) ?_
  intro p e R s m args below meth c hf hlo C0 hK hA
  have K : zSO p l e R s m args below meth c 4 A D cA G S 0 (lv_args 0 [.ref (G 5), .int a1, .int a2]) [] (zFp S) (f_Par_edgeOf S a1 a2) := by
    unfold f_Par_edgeOf
    refine so_go C0 5 (pc' := 5) (lv' := [(0, .ref (G 5)), (1, .int a1), (2, .int a2)]) (st' := [.int a2, .int a1, .ref (G 5), .int a1, .ref (G 5)]) rfl ?_
    refine so_op (As := [.int a1, .int a2]) (rest := [.int a1, .ref (G 5)]) C0 hK hA yk_Par_lastBelow (c_Par_lastBelow S a1 a2) wd_3_89 rfl rfl ⟨by rw [hf]; decide, by rw [hlo]; decide⟩ (Nat.le_of_ble_eq_true rfl) (zrc_obj (o := 5) hK (by decide) rfl) (fun v1 hv1 => ?_)
    refine so_cp (As := [.int a1, .int v1]) (rest := []) C0 hK hA yk_Par_edgeAfter (c_Par_edgeAfter S a1 v1) wd_3_94 rfl rfl ⟨by rw [hf]; decide, by rw [hlo]; decide⟩ (Nat.le_of_ble_eq_true rfl) (zrc_obj (o := 5) hK (by decide) rfl) ?_
    refine so_nm (V := .int) (fun v2 hv2 => ?_)
    refine so_go C0 3 (pc' := 14) (lv' := [(0, .ref (G 5)), (1, .int a1), (2, .int a2), (3, .int v2)]) (st' := [.int (-1), .int v2]) rfl ?_
    refine so_icmp_eq C0 rfl (fun h3 => ?_) (fun h3 => ?_)
    · refine so_go C0 1 (pc' := 34) (lv' := [(0, .ref (G 5)), (1, .int a1), (2, .int a2), (3, .int v2)]) (st' := [.int (-1)]) rfl ?_
      exact so_reti C0 rfl rfl
    · refine so_go C0 1 (pc' := 18) (lv' := [(0, .ref (G 5)), (1, .int a1), (2, .int a2), (3, .int v2)]) (st' := [.ref (G 5)]) rfl ?_
      refine so_getf C0 hK (o := 5) (j := 6) (v := .ref (G 29)) (by decide) rfl i_Par (by decide) wd_1_164 rfl rfl ?_
      refine so_go C0 1 (pc' := 22) (lv' := [(0, .ref (G 5)), (1, .int a1), (2, .int a2), (3, .int v2)]) (st' := [.int v2, .ref (G 29)]) rfl ?_
      refine so_cp (As := [.int v2]) (rest := []) C0 hK hA yk_Row_at (c_Row_at 18 (by decide) v2) wd_3_93 rfl rfl ⟨by rw [hf]; decide, by rw [hlo]; decide⟩ (Nat.le_of_ble_eq_true rfl) (zrc_row (k := 18) hK (by decide)) ?_
      refine so_go C0 1 (pc' := 26) (lv' := [(0, .ref (G 5)), (1, .int a1), (2, .int a2), (3, .int v2)]) (st' := [.int a2, .int (r_at S 18 v2)]) rfl ?_
      refine so_icmp_ne C0 rfl (fun h4 => ?_) (fun h4 => ?_)
      · refine so_go C0 1 (pc' := 34) (lv' := [(0, .ref (G 5)), (1, .int a1), (2, .int a2), (3, .int v2)]) (st' := [.int (-1)]) rfl ?_
        exact so_reti C0 rfl rfl
      · refine so_go C0 2 (pc' := 34) (lv' := [(0, .ref (G 5)), (1, .int a1), (2, .int a2), (3, .int v2)]) (st' := [.int v2]) rfl ?_
        exact so_reti C0 rfl rfl
  exact K r hr
end ZM
