-- by program: the methods of RuleTree$Nodes, as functions, and that the code does them
section ZM
variable {cA : Nat → ClassId} {G : Nat → Nat} {A : Nat → Prop} {D : va_G} {l : Launch}
def f_Nod_edge (S : zS) (a1 : Int32) : Int32 :=
  (r_at S 31 a1)
set_option maxHeartbeats 1000000 in
set_option maxRecDepth 20000 in
theorem c_Nod_edge (S : zS) (a1 : Int32) : zMet l y_Nod_edge (zw y_Nod_edge prog_5_method_10_code 2 (some Jvm.ClassFile.FieldType.int)) 1 21 [.ref (G 6), .int a1] D zcl (ztys cA) A (zRep D cA G A) zfc zfs S ((zFp S) (f_Nod_edge S a1)) := by
  refine zMet_of ⟨Nat.le_refl _, Nat.le_refl _⟩ (by decide) tk_Nod_edge (Nat.le_of_ble_eq_true rfl) ?_
  intro p e R s m args below meth c hf hlo C0 hK hA
  unfold f_Nod_edge
  refine sw_go C0 1 (pc' := 1) (lv' := [(0, .ref (G 6)), (1, .int a1)]) (st' := [.ref (G 6)]) rfl ?_
  refine sw_getf C0 hK (o := 6) (j := 4) (v := .ref (G 42)) (by decide) rfl i_Nod (by decide) wd_1_216 rfl rfl ?_
  refine sw_go C0 1 (pc' := 5) (lv' := [(0, .ref (G 6)), (1, .int a1)]) (st' := [.int a1, .ref (G 42)]) rfl ?_
  refine sw_cp (As := [.int a1]) (rest := []) C0 hK hA yk_Row_at (c_Row_at 31 (by decide) a1) wd_3_174 rfl rfl ⟨by rw [hf]; decide, by rw [hlo]; decide⟩ (Nat.le_of_ble_eq_true rfl) (zrc_row (k := 31) hK (by decide)) ?_
  exact sw_reti C0 rfl rfl
def f_Nod_firstBranch (S : zS) (a1 : Int32) : Int32 :=
  (r_at S 32 a1)
set_option maxHeartbeats 1000000 in
set_option maxRecDepth 20000 in
theorem c_Nod_firstBranch (S : zS) (a1 : Int32) : zMet l y_Nod_firstBranch (zw y_Nod_firstBranch prog_5_method_11_code 2 (some Jvm.ClassFile.FieldType.int)) 1 21 [.ref (G 6), .int a1] D zcl (ztys cA) A (zRep D cA G A) zfc zfs S ((zFp S) (f_Nod_firstBranch S a1)) := by
  refine zMet_of ⟨Nat.le_refl _, Nat.le_refl _⟩ (by decide) tk_Nod_firstBranch (Nat.le_of_ble_eq_true rfl) ?_
  intro p e R s m args below meth c hf hlo C0 hK hA
  unfold f_Nod_firstBranch
  refine sw_go C0 1 (pc' := 1) (lv' := [(0, .ref (G 6)), (1, .int a1)]) (st' := [.ref (G 6)]) rfl ?_
  refine sw_getf C0 hK (o := 6) (j := 5) (v := .ref (G 43)) (by decide) rfl i_Nod (by decide) wd_1_217 rfl rfl ?_
  refine sw_go C0 1 (pc' := 5) (lv' := [(0, .ref (G 6)), (1, .int a1)]) (st' := [.int a1, .ref (G 43)]) rfl ?_
  refine sw_cp (As := [.int a1]) (rest := []) C0 hK hA yk_Row_at (c_Row_at 32 (by decide) a1) wd_3_174 rfl rfl ⟨by rw [hf]; decide, by rw [hlo]; decide⟩ (Nat.le_of_ble_eq_true rfl) (zrc_row (k := 32) hK (by decide)) ?_
  exact sw_reti C0 rfl rfl
def f_Nod_nextBranch (S : zS) (a1 : Int32) : Int32 :=
  (r_at S 34 a1)
set_option maxHeartbeats 1000000 in
set_option maxRecDepth 20000 in
theorem c_Nod_nextBranch (S : zS) (a1 : Int32) : zMet l y_Nod_nextBranch (zw y_Nod_nextBranch prog_5_method_13_code 2 (some Jvm.ClassFile.FieldType.int)) 1 21 [.ref (G 6), .int a1] D zcl (ztys cA) A (zRep D cA G A) zfc zfs S ((zFp S) (f_Nod_nextBranch S a1)) := by
  refine zMet_of ⟨Nat.le_refl _, Nat.le_refl _⟩ (by decide) tk_Nod_nextBranch (Nat.le_of_ble_eq_true rfl) ?_
  intro p e R s m args below meth c hf hlo C0 hK hA
  unfold f_Nod_nextBranch
  refine sw_go C0 1 (pc' := 1) (lv' := [(0, .ref (G 6)), (1, .int a1)]) (st' := [.ref (G 6)]) rfl ?_
  refine sw_getf C0 hK (o := 6) (j := 7) (v := .ref (G 45)) (by decide) rfl i_Nod (by decide) wd_1_219 rfl rfl ?_
  refine sw_go C0 1 (pc' := 5) (lv' := [(0, .ref (G 6)), (1, .int a1)]) (st' := [.int a1, .ref (G 45)]) rfl ?_
  refine sw_cp (As := [.int a1]) (rest := []) C0 hK hA yk_Row_at (c_Row_at 34 (by decide) a1) wd_3_174 rfl rfl ⟨by rw [hf]; decide, by rw [hlo]; decide⟩ (Nat.le_of_ble_eq_true rfl) (zrc_row (k := 34) hK (by decide)) ?_
  exact sw_reti C0 rfl rfl
def f_Nod_size (S : zS) : Int32 :=
  (r_size S 27)
set_option maxHeartbeats 1000000 in
set_option maxRecDepth 20000 in
theorem c_Nod_size (S : zS) : zMet l y_Nod_size (zw y_Nod_size prog_5_method_2_code 1 (some Jvm.ClassFile.FieldType.int)) 1 20 [.ref (G 6)] D zcl (ztys cA) A (zRep D cA G A) zfc zfs S ((zFp S) (f_Nod_size S)) := by
  refine zMet_of ⟨Nat.le_refl _, Nat.le_refl _⟩ (by decide) tk_Nod_size (Nat.le_of_ble_eq_true rfl) ?_
  intro p e R s m args below meth c hf hlo C0 hK hA
  unfold f_Nod_size
  refine sw_go C0 1 (pc' := 1) (lv' := [(0, .ref (G 6))]) (st' := [.ref (G 6)]) rfl ?_
  refine sw_getf C0 hK (o := 6) (j := 0) (v := .ref (G 38)) (by decide) rfl i_Nod (by decide) wd_1_212 rfl rfl ?_
  refine sw_cp (As := []) (rest := []) C0 hK hA yk_Row_size (c_Row_size 27 (by decide)) wd_4_19 rfl rfl ⟨by rw [hf]; decide, by rw [hlo]; decide⟩ (Nat.le_of_ble_eq_true rfl) (zrc_row (k := 27) hK (by decide)) ?_
  exact sw_reti C0 rfl rfl
def f_Nod_part (S : zS) (a1 : Int32) : Int32 :=
  (r_at S 27 a1)
set_option maxHeartbeats 1000000 in
set_option maxRecDepth 20000 in
theorem c_Nod_part (S : zS) (a1 : Int32) : zMet l y_Nod_part (zw y_Nod_part prog_5_method_6_code 2 (some Jvm.ClassFile.FieldType.int)) 1 21 [.ref (G 6), .int a1] D zcl (ztys cA) A (zRep D cA G A) zfc zfs S ((zFp S) (f_Nod_part S a1)) := by
  refine zMet_of ⟨Nat.le_refl _, Nat.le_refl _⟩ (by decide) tk_Nod_part (Nat.le_of_ble_eq_true rfl) ?_
  intro p e R s m args below meth c hf hlo C0 hK hA
  unfold f_Nod_part
  refine sw_go C0 1 (pc' := 1) (lv' := [(0, .ref (G 6)), (1, .int a1)]) (st' := [.ref (G 6)]) rfl ?_
  refine sw_getf C0 hK (o := 6) (j := 0) (v := .ref (G 38)) (by decide) rfl i_Nod (by decide) wd_1_212 rfl rfl ?_
  refine sw_go C0 1 (pc' := 5) (lv' := [(0, .ref (G 6)), (1, .int a1)]) (st' := [.int a1, .ref (G 38)]) rfl ?_
  refine sw_cp (As := [.int a1]) (rest := []) C0 hK hA yk_Row_at (c_Row_at 27 (by decide) a1) wd_3_174 rfl rfl ⟨by rw [hf]; decide, by rw [hlo]; decide⟩ (Nat.le_of_ble_eq_true rfl) (zrc_row (k := 27) hK (by decide)) ?_
  exact sw_reti C0 rfl rfl
def f_Nod_isEndWith (S : zS) (a1 : Int32) (a2 : Int32) : Int32 :=
  if ¬ (r_at S 27 a1) = (-1) then
    0
  else
    if ¬ (r_at S 28 a1) = a2 then
      0
    else
      1
set_option maxHeartbeats 1000000 in
set_option maxRecDepth 20000 in
theorem c_Nod_isEndWith (S : zS) (a1 : Int32) (a2 : Int32) : zMet l y_Nod_isEndWith (zw y_Nod_isEndWith prog_5_method_18_code 3 (some Jvm.ClassFile.FieldType.boolean)) 1 21 [.ref (G 6), .int a1, .int a2] D zcl (ztys cA) A (zRep D cA G A) zfc zfs S ((zFp S) (f_Nod_isEndWith S a1 a2)) := by
  refine zMet_of ⟨Nat.le_refl _, Nat.le_refl _⟩ (by decide) tk_Nod_isEndWith (Nat.le_of_ble_eq_true rfl) ?_
  intro p e R s m args below meth c hf hlo C0 hK hA
  unfold f_Nod_isEndWith
  refine sw_go C0 1 (pc' := 1) (lv' := [(0, .ref (G 6)), (1, .int a1), (2, .int a2)]) (st' := [.ref (G 6)]) rfl ?_
  refine sw_getf C0 hK (o := 6) (j := 0) (v := .ref (G 38)) (by decide) rfl i_Nod (by decide) wd_1_212 rfl rfl ?_
  refine sw_go C0 1 (pc' := 5) (lv' := [(0, .ref (G 6)), (1, .int a1), (2, .int a2)]) (st' := [.int a1, .ref (G 38)]) rfl ?_
  refine sw_cp (As := [.int a1]) (rest := []) C0 hK hA yk_Row_at (c_Row_at 27 (by decide) a1) wd_3_174 rfl rfl ⟨by rw [hf]; decide, by rw [hlo]; decide⟩ (Nat.le_of_ble_eq_true rfl) (zrc_row (k := 27) hK (by decide)) ?_
  refine sw_go C0 1 (pc' := 9) (lv' := [(0, .ref (G 6)), (1, .int a1), (2, .int a2)]) (st' := [.int (-1), .int (r_at S 27 a1)]) rfl ?_
  refine sw_icmp_ne (zFp S) C0 rfl (fun h1 => ?_) (fun h1 => ?_)
  · refine sw_go C0 1 (pc' := 29) (lv' := [(0, .ref (G 6)), (1, .int a1), (2, .int a2)]) (st' := [.int 0]) rfl ?_
    exact sw_retz C0 rfl rfl rfl
  · refine sw_go C0 1 (pc' := 13) (lv' := [(0, .ref (G 6)), (1, .int a1), (2, .int a2)]) (st' := [.ref (G 6)]) rfl ?_
    refine sw_getf C0 hK (o := 6) (j := 1) (v := .ref (G 39)) (by decide) rfl i_Nod (by decide) wd_1_213 rfl rfl ?_
    refine sw_go C0 1 (pc' := 17) (lv' := [(0, .ref (G 6)), (1, .int a1), (2, .int a2)]) (st' := [.int a1, .ref (G 39)]) rfl ?_
    refine sw_cp (As := [.int a1]) (rest := []) C0 hK hA yk_Row_at (c_Row_at 28 (by decide) a1) wd_3_174 rfl rfl ⟨by rw [hf]; decide, by rw [hlo]; decide⟩ (Nat.le_of_ble_eq_true rfl) (zrc_row (k := 28) hK (by decide)) ?_
    refine sw_go C0 1 (pc' := 21) (lv' := [(0, .ref (G 6)), (1, .int a1), (2, .int a2)]) (st' := [.int a2, .int (r_at S 28 a1)]) rfl ?_
    refine sw_icmp_ne (zFp S) C0 rfl (fun h2 => ?_) (fun h2 => ?_)
    · refine sw_go C0 1 (pc' := 29) (lv' := [(0, .ref (G 6)), (1, .int a1), (2, .int a2)]) (st' := [.int 0]) rfl ?_
      exact sw_retz C0 rfl rfl rfl
    · refine sw_go C0 2 (pc' := 29) (lv' := [(0, .ref (G 6)), (1, .int a1), (2, .int a2)]) (st' := [.int 1]) rfl ?_
      exact sw_retz C0 rfl rfl rfl
def f_Nod_firstEndWith_L2 : Nat → zS → Int32 → Int32 → Option (Int32)
  | 0, _, _, _ => none
  | n + 1, S, x1, x2 =>
    if (r_size S 27) ≤ x2 then
      some (-1)
    else
      if (f_Nod_isEndWith S x2 x1) = 0 then
        f_Nod_firstEndWith_L2 n S x1 (x2 + 1)
      else
        some x2
def f_Nod_firstEndWith (S : zS) (a1 : Int32) : Option (Int32) :=
  f_Nod_firstEndWith_L2 zbig S a1 0
set_option maxHeartbeats 1000000 in
set_option maxRecDepth 20000 in
theorem c_Nod_firstEndWith (S : zS) (a1 : Int32) : ∀ r, f_Nod_firstEndWith S a1 = some r → zMet l y_Nod_firstEndWith (zw y_Nod_firstEndWith prog_5_method_16_code 3 (some Jvm.ClassFile.FieldType.int)) 2 43 [.ref (G 6), .int a1] D zcl (ztys cA) A (zRep D cA G A) zfc zfs S ((zFp S) r) := by
  intro r hr
  refine zMet_of ⟨Nat.le_refl _, Nat.le_refl _⟩ (by decide) tk_Nod_firstEndWith (Nat.le_of_ble_eq_true rfl) ?_
  intro p e R s m args below meth c hf hlo C0 hK hA
  have lp2 : ∀ (n : Nat) (x1 : Int32) (x2 : Int32), zSO p l e R s m args below meth c 3 A D cA G S 2 [(0, .ref (G 6)), (1, .int x1), (2, .int x2)] [] (zFp S) (f_Nod_firstEndWith_L2 n S x1 x2) := by
    intro n
    induction n with
    | zero =>
      intro x1 x2
      rw [f_Nod_firstEndWith_L2]
      exact so_none
    | succ n ih2 =>
      intro x1 x2
      rw [f_Nod_firstEndWith_L2]
      refine so_go C0 2 (pc' := 4) (lv' := [(0, .ref (G 6)), (1, .int x1), (2, .int x2)]) (st' := [.ref (G 6), .int x2]) rfl ?_
      refine so_getf C0 hK (o := 6) (j := 0) (v := .ref (G 38)) (by decide) rfl i_Nod (by decide) wd_1_212 rfl rfl ?_
      refine so_cp (As := []) (rest := [.int x2]) C0 hK hA yk_Row_size (c_Row_size 27 (by decide)) wd_4_19 rfl rfl ⟨by rw [hf]; decide, by rw [hlo]; decide⟩ (Nat.le_of_ble_eq_true rfl) (zrc_row (k := 27) hK (by decide)) ?_
      refine so_icmp_ge C0 rfl (fun h1 => ?_) (fun h1 => ?_)
      · refine so_go C0 1 (pc' := 31) (lv' := [(0, .ref (G 6)), (1, .int x1), (2, .int x2)]) (st' := [.int (-1)]) rfl ?_
        exact so_reti C0 rfl rfl
      · refine so_go C0 3 (pc' := 16) (lv' := [(0, .ref (G 6)), (1, .int x1), (2, .int x2)]) (st' := [.int x1, .int x2, .ref (G 6)]) rfl ?_
        refine so_cp (As := [.int x2, .int x1]) (rest := []) C0 hK hA yk_Nod_isEndWith (c_Nod_isEndWith S x2 x1) wd_4_83 rfl rfl ⟨by rw [hf]; decide, by rw [hlo]; decide⟩ (Nat.le_of_ble_eq_true rfl) (zrc_obj (o := 6) hK (by decide) rfl) ?_
        refine so_if_eq C0 rfl (fun h2 => ?_) (fun h2 => ?_)
        · refine so_go C0 2 (pc' := 2) (lv' := [(0, .ref (G 6)), (1, .int x1), (2, .int (x2 + 1))]) (st' := []) rfl ?_
          exact so_sub (lv' := [(0, .ref (G 6)), (1, .int x1), (2, .int (x2 + 1))]) (zpk [0, 1, 2] rfl) (ih2 x1 (x2 + 1))
        · refine so_go C0 1 (pc' := 23) (lv' := [(0, .ref (G 6)), (1, .int x1), (2, .int x2)]) (st' := [.int x2]) rfl ?_
          exact so_reti C0 rfl rfl
  have K : zSO p l e R s m args below meth c 3 A D cA G S 0 (lv_args 0 [.ref (G 6), .int a1]) [] (zFp S) (f_Nod_firstEndWith S a1) := by
    unfold f_Nod_firstEndWith
    refine so_go C0 2 (pc' := 2) (lv' := [(0, .ref (G 6)), (1, .int a1), (2, .int 0)]) (st' := []) rfl ?_
    exact so_sub (lv' := [(0, .ref (G 6)), (1, .int a1), (2, .int 0)]) (zpk [0, 1, 2] rfl) (lp2 zbig a1 0)
  exact K r hr
def f_Nod_upper (S : zS) (a1 : Int32) : Int32 :=
  (r_at S 30 a1)
set_option maxHeartbeats 1000000 in
set_option maxRecDepth 20000 in
theorem c_Nod_upper (S : zS) (a1 : Int32) : zMet l y_Nod_upper (zw y_Nod_upper prog_5_method_9_code 2 (some Jvm.ClassFile.FieldType.int)) 1 21 [.ref (G 6), .int a1] D zcl (ztys cA) A (zRep D cA G A) zfc zfs S ((zFp S) (f_Nod_upper S a1)) := by
  refine zMet_of ⟨Nat.le_refl _, Nat.le_refl _⟩ (by decide) tk_Nod_upper (Nat.le_of_ble_eq_true rfl) ?_
  intro p e R s m args below meth c hf hlo C0 hK hA
  unfold f_Nod_upper
  refine sw_go C0 1 (pc' := 1) (lv' := [(0, .ref (G 6)), (1, .int a1)]) (st' := [.ref (G 6)]) rfl ?_
  refine sw_getf C0 hK (o := 6) (j := 3) (v := .ref (G 41)) (by decide) rfl i_Nod (by decide) wd_1_215 rfl rfl ?_
  refine sw_go C0 1 (pc' := 5) (lv' := [(0, .ref (G 6)), (1, .int a1)]) (st' := [.int a1, .ref (G 41)]) rfl ?_
  refine sw_cp (As := [.int a1]) (rest := []) C0 hK hA yk_Row_at (c_Row_at 30 (by decide) a1) wd_3_174 rfl rfl ⟨by rw [hf]; decide, by rw [hlo]; decide⟩ (Nat.le_of_ble_eq_true rfl) (zrc_row (k := 30) hK (by decide)) ?_
  exact sw_reti C0 rfl rfl
def f_Nod_hang (S : zS) (a1 : Int32) (a2 : Int32) : zS :=
  if ¬ (r_at S 33 a1) = (-1) then
    zbind (r_set S 34 (r_at S 33 a1) a2) fun S2 =>
    zbind (r_set S2 33 a1 a2) fun S3 =>
    zbind (r_set S3 35 a1 ((r_at S3 35 a1) + 1)) fun S4 =>
    S4
  else
    zbind (r_set S 32 a1 a2) fun S5 =>
    zbind (r_set S5 33 a1 a2) fun S6 =>
    zbind (r_set S6 35 a1 ((r_at S6 35 a1) + 1)) fun S7 =>
    S7
theorem mo_Nod_hang (S : zS) (a1 : Int32) (a2 : Int32) : zmo S (f_Nod_hang S a1 a2) := by
  unfold f_Nod_hang
  exact (mo_if (g := (fun x => x)) (mo_b (g := (fun x => x)) mo_r_set fun S2 => (mo_b (g := (fun x => x)) mo_r_set fun S3 => (mo_b (g := (fun x => x)) mo_r_set fun S4 => zmo_rf))) (mo_b (g := (fun x => x)) mo_r_set fun S5 => (mo_b (g := (fun x => x)) mo_r_set fun S6 => (mo_b (g := (fun x => x)) mo_r_set fun S7 => zmo_rf))))
set_option maxHeartbeats 1000000 in
set_option maxRecDepth 20000 in
theorem c_Nod_hang (S : zS) (a1 : Int32) (a2 : Int32) : zMet l y_Nod_hang (zw y_Nod_hang prog_5_method_19_code 3 none) 1 22 [.ref (G 6), .int a1, .int a2] D zcl (ztys cA) A (zRep D cA G A) zfc zfs S (zFv (f_Nod_hang S a1 a2)) := by
  refine zMet_of (mo_Fv (mo_Nod_hang S a1 a2)) (by decide) tk_Nod_hang (Nat.le_of_ble_eq_true rfl) ?_
  intro p e R s m args below meth c hf hlo C0 hK hA
  unfold f_Nod_hang
  refine sw_go C0 1 (pc' := 1) (lv' := [(0, .ref (G 6)), (1, .int a1), (2, .int a2)]) (st' := [.ref (G 6)]) rfl ?_
  refine sw_getf C0 hK (o := 6) (j := 6) (v := .ref (G 44)) (by decide) rfl i_Nod (by decide) wd_1_218 rfl rfl ?_
  refine sw_go C0 1 (pc' := 5) (lv' := [(0, .ref (G 6)), (1, .int a1), (2, .int a2)]) (st' := [.int a1, .ref (G 44)]) rfl ?_
  refine sw_cp (As := [.int a1]) (rest := []) C0 hK hA yk_Row_at (c_Row_at 33 (by decide) a1) wd_3_174 rfl rfl ⟨by rw [hf]; decide, by rw [hlo]; decide⟩ (Nat.le_of_ble_eq_true rfl) (zrc_row (k := 33) hK (by decide)) ?_
  refine sw_go C0 1 (pc' := 9) (lv' := [(0, .ref (G 6)), (1, .int a1), (2, .int a2)]) (st' := [.int (-1), .int (r_at S 33 a1)]) rfl ?_
  refine sw_icmp_ne zFv C0 rfl (fun h1 => ?_) (fun h1 => ?_)
  · refine sw_go C0 1 (pc' := 25) (lv' := [(0, .ref (G 6)), (1, .int a1), (2, .int a2)]) (st' := [.ref (G 6)]) rfl ?_
    refine sw_getf C0 hK (o := 6) (j := 7) (v := .ref (G 45)) (by decide) rfl i_Nod (by decide) wd_1_219 rfl rfl ?_
    refine sw_go C0 1 (pc' := 29) (lv' := [(0, .ref (G 6)), (1, .int a1), (2, .int a2)]) (st' := [.ref (G 6), .ref (G 45)]) rfl ?_
    refine sw_getf C0 hK (o := 6) (j := 6) (v := .ref (G 44)) (by decide) rfl i_Nod (by decide) wd_1_218 rfl rfl ?_
    refine sw_go C0 1 (pc' := 33) (lv' := [(0, .ref (G 6)), (1, .int a1), (2, .int a2)]) (st' := [.int a1, .ref (G 44), .ref (G 45)]) rfl ?_
    refine sw_cp (As := [.int a1]) (rest := [.ref (G 45)]) C0 hK hA yk_Row_at (c_Row_at 33 (by decide) a1) wd_3_174 rfl rfl ⟨by rw [hf]; decide, by rw [hlo]; decide⟩ (Nat.le_of_ble_eq_true rfl) (zrc_row (k := 33) hK (by decide)) ?_
    refine sw_go C0 1 (pc' := 37) (lv' := [(0, .ref (G 6)), (1, .int a1), (2, .int a2)]) (st' := [.int a2, .int (r_at S 33 a1), .ref (G 45)]) rfl ?_
    refine sw_cV zFv (As := [.int (r_at S 33 a1), .int a2]) (rest := []) C0 hK hA yk_Row_set (c_Row_set 34 (by decide) (r_at S 33 a1) a2) wd_3_218 rfl rfl ⟨by rw [hf]; decide, by rw [hlo]; decide⟩ (Nat.le_of_ble_eq_true rfl) (zrc_row (k := 34) hK (by decide)) (fun S2 hS2 => ?_)
    refine sw_go C0 1 (pc' := 41) (lv' := [(0, .ref (G 6)), (1, .int a1), (2, .int a2)]) (st' := [.ref (G 6)]) rfl ?_
    refine sw_getf C0 hK (o := 6) (j := 6) (v := .ref (G 44)) (by decide) rfl i_Nod (by decide) wd_1_218 rfl rfl ?_
    refine sw_go C0 2 (pc' := 46) (lv' := [(0, .ref (G 6)), (1, .int a1), (2, .int a2)]) (st' := [.int a2, .int a1, .ref (G 44)]) rfl ?_
    refine sw_cV zFv (As := [.int a1, .int a2]) (rest := []) C0 hK hA yk_Row_set (c_Row_set 33 (by decide) a1 a2) wd_3_218 rfl rfl ⟨by rw [hf]; decide, by rw [hlo]; decide⟩ (Nat.le_of_ble_eq_true rfl) (zrc_row (k := 33) hK (by decide)) (fun S3 hS3 => ?_)
    refine sw_go C0 1 (pc' := 50) (lv' := [(0, .ref (G 6)), (1, .int a1), (2, .int a2)]) (st' := [.ref (G 6)]) rfl ?_
    refine sw_getf C0 hK (o := 6) (j := 8) (v := .ref (G 46)) (by decide) rfl i_Nod (by decide) wd_1_220 rfl rfl ?_
    refine sw_go C0 2 (pc' := 55) (lv' := [(0, .ref (G 6)), (1, .int a1), (2, .int a2)]) (st' := [.ref (G 6), .int a1, .ref (G 46)]) rfl ?_
    refine sw_getf C0 hK (o := 6) (j := 8) (v := .ref (G 46)) (by decide) rfl i_Nod (by decide) wd_1_220 rfl rfl ?_
    refine sw_go C0 1 (pc' := 59) (lv' := [(0, .ref (G 6)), (1, .int a1), (2, .int a2)]) (st' := [.int a1, .ref (G 46), .int a1, .ref (G 46)]) rfl ?_
    refine sw_cp (As := [.int a1]) (rest := [.int a1, .ref (G 46)]) C0 hK hA yk_Row_at (c_Row_at 35 (by decide) a1) wd_3_174 rfl rfl ⟨by rw [hf]; decide, by rw [hlo]; decide⟩ (Nat.le_of_ble_eq_true rfl) (zrc_row (k := 35) hK (by decide)) ?_
    refine sw_go C0 2 (pc' := 64) (lv' := [(0, .ref (G 6)), (1, .int a1), (2, .int a2)]) (st' := [.int ((r_at S3 35 a1) + 1), .int a1, .ref (G 46)]) rfl ?_
    refine sw_cV zFv (As := [.int a1, .int ((r_at S3 35 a1) + 1)]) (rest := []) C0 hK hA yk_Row_set (c_Row_set 35 (by decide) a1 ((r_at S3 35 a1) + 1)) wd_3_218 rfl rfl ⟨by rw [hf]; decide, by rw [hlo]; decide⟩ (Nat.le_of_ble_eq_true rfl) (zrc_row (k := 35) hK (by decide)) (fun S4 hS4 => ?_)
    exact sw_retv C0 rfl rfl
  · refine sw_go C0 1 (pc' := 13) (lv' := [(0, .ref (G 6)), (1, .int a1), (2, .int a2)]) (st' := [.ref (G 6)]) rfl ?_
    refine sw_getf C0 hK (o := 6) (j := 5) (v := .ref (G 43)) (by decide) rfl i_Nod (by decide) wd_1_217 rfl rfl ?_
    refine sw_go C0 2 (pc' := 18) (lv' := [(0, .ref (G 6)), (1, .int a1), (2, .int a2)]) (st' := [.int a2, .int a1, .ref (G 43)]) rfl ?_
    refine sw_cV zFv (As := [.int a1, .int a2]) (rest := []) C0 hK hA yk_Row_set (c_Row_set 32 (by decide) a1 a2) wd_3_218 rfl rfl ⟨by rw [hf]; decide, by rw [hlo]; decide⟩ (Nat.le_of_ble_eq_true rfl) (zrc_row (k := 32) hK (by decide)) (fun S5 hS5 => ?_)
    refine sw_go C0 2 (pc' := 41) (lv' := [(0, .ref (G 6)), (1, .int a1), (2, .int a2)]) (st' := [.ref (G 6)]) rfl ?_
    refine sw_getf C0 hK (o := 6) (j := 6) (v := .ref (G 44)) (by decide) rfl i_Nod (by decide) wd_1_218 rfl rfl ?_
    refine sw_go C0 2 (pc' := 46) (lv' := [(0, .ref (G 6)), (1, .int a1), (2, .int a2)]) (st' := [.int a2, .int a1, .ref (G 44)]) rfl ?_
    refine sw_cV zFv (As := [.int a1, .int a2]) (rest := []) C0 hK hA yk_Row_set (c_Row_set 33 (by decide) a1 a2) wd_3_218 rfl rfl ⟨by rw [hf]; decide, by rw [hlo]; decide⟩ (Nat.le_of_ble_eq_true rfl) (zrc_row (k := 33) hK (by decide)) (fun S6 hS6 => ?_)
    refine sw_go C0 1 (pc' := 50) (lv' := [(0, .ref (G 6)), (1, .int a1), (2, .int a2)]) (st' := [.ref (G 6)]) rfl ?_
    refine sw_getf C0 hK (o := 6) (j := 8) (v := .ref (G 46)) (by decide) rfl i_Nod (by decide) wd_1_220 rfl rfl ?_
    refine sw_go C0 2 (pc' := 55) (lv' := [(0, .ref (G 6)), (1, .int a1), (2, .int a2)]) (st' := [.ref (G 6), .int a1, .ref (G 46)]) rfl ?_
    refine sw_getf C0 hK (o := 6) (j := 8) (v := .ref (G 46)) (by decide) rfl i_Nod (by decide) wd_1_220 rfl rfl ?_
    refine sw_go C0 1 (pc' := 59) (lv' := [(0, .ref (G 6)), (1, .int a1), (2, .int a2)]) (st' := [.int a1, .ref (G 46), .int a1, .ref (G 46)]) rfl ?_
    refine sw_cp (As := [.int a1]) (rest := [.int a1, .ref (G 46)]) C0 hK hA yk_Row_at (c_Row_at 35 (by decide) a1) wd_3_174 rfl rfl ⟨by rw [hf]; decide, by rw [hlo]; decide⟩ (Nat.le_of_ble_eq_true rfl) (zrc_row (k := 35) hK (by decide)) ?_
    refine sw_go C0 2 (pc' := 64) (lv' := [(0, .ref (G 6)), (1, .int a1), (2, .int a2)]) (st' := [.int ((r_at S6 35 a1) + 1), .int a1, .ref (G 46)]) rfl ?_
    refine sw_cV zFv (As := [.int a1, .int ((r_at S6 35 a1) + 1)]) (rest := []) C0 hK hA yk_Row_set (c_Row_set 35 (by decide) a1 ((r_at S6 35 a1) + 1)) wd_3_218 rfl rfl ⟨by rw [hf]; decide, by rw [hlo]; decide⟩ (Nat.le_of_ble_eq_true rfl) (zrc_row (k := 35) hK (by decide)) (fun S7 hS7 => ?_)
    exact sw_retv C0 rfl rfl
def f_Nod_add (S : zS) (a1 : Int32) (a2 : Int32) : zS × Int32 :=
  zbind2 (r_add S 28 (-1)) fun S1 v2 =>
  zbind2 (r_add S1 29 (-1)) fun S3 v4 =>
  zbind2 (r_add S3 30 a1) fun S5 v6 =>
  zbind2 (r_add S5 31 a2) fun S7 v8 =>
  zbind2 (r_add S7 32 (-1)) fun S9 v10 =>
  zbind2 (r_add S9 33 (-1)) fun S11 v12 =>
  zbind2 (r_add S11 34 (-1)) fun S13 v14 =>
  zbind2 (r_add S13 35 0) fun S15 v16 =>
  if ¬ a1 = (-1) then
    zbind2 (r_add S15 36 ((r_at S15 36 a1) + 1)) fun S18 v19 =>
    zbind2 (r_add S18 27 (-1)) fun S20 v21 =>
    if a1 = (-1) then
      (S20, v21)
    else
      zbind (f_Nod_hang S20 a1 v21) fun S23 =>
      (S23, v21)
  else
    zbind2 (r_add S15 36 0) fun S24 v25 =>
    zbind2 (r_add S24 27 (-1)) fun S26 v27 =>
    if a1 = (-1) then
      (S26, v27)
    else
      zbind (f_Nod_hang S26 a1 v27) fun S29 =>
      (S29, v27)
theorem mo_Nod_add (S : zS) (a1 : Int32) (a2 : Int32) : zmo S (f_Nod_add S a1 a2).1 := by
  unfold f_Nod_add
  exact (mo_b2 (g := Prod.fst) (r_add_mono (by decide) (-1)) fun S1 v2 => (mo_b2 (g := Prod.fst) (r_add_mono (by decide) (-1)) fun S3 v4 => (mo_b2 (g := Prod.fst) (r_add_mono (by decide) a1) fun S5 v6 => (mo_b2 (g := Prod.fst) (r_add_mono (by decide) a2) fun S7 v8 => (mo_b2 (g := Prod.fst) (r_add_mono (by decide) (-1)) fun S9 v10 => (mo_b2 (g := Prod.fst) (r_add_mono (by decide) (-1)) fun S11 v12 => (mo_b2 (g := Prod.fst) (r_add_mono (by decide) (-1)) fun S13 v14 => (mo_b2 (g := Prod.fst) (r_add_mono (by decide) 0) fun S15 v16 => (mo_if (g := Prod.fst) (mo_b2 (g := Prod.fst) (r_add_mono (by decide) ((r_at S15 36 a1) + 1)) fun S18 v19 => (mo_b2 (g := Prod.fst) (r_add_mono (by decide) (-1)) fun S20 v21 => (mo_if (g := Prod.fst) zmo_rf (mo_b (g := Prod.fst) (mo_Nod_hang S20 a1 v21) fun S23 => zmo_rf)))) (mo_b2 (g := Prod.fst) (r_add_mono (by decide) 0) fun S24 v25 => (mo_b2 (g := Prod.fst) (r_add_mono (by decide) (-1)) fun S26 v27 => (mo_if (g := Prod.fst) zmo_rf (mo_b (g := Prod.fst) (mo_Nod_hang S26 a1 v27) fun S29 => zmo_rf)))))))))))))
set_option maxHeartbeats 1000000 in
set_option maxRecDepth 20000 in
theorem c_Nod_add (S : zS) (a1 : Int32) (a2 : Int32) : zMet l y_Nod_add (zw y_Nod_add prog_5_method_4_code 4 (some Jvm.ClassFile.FieldType.int)) 3 83 [.ref (G 6), .int a1, .int a2] D zcl (ztys cA) A (zRep D cA G A) zfc zfs S (zFi (f_Nod_add S a1 a2)) := by
  refine zMet_of (mo_Fi (mo_Nod_add S a1 a2)) (by decide) tk_Nod_add (Nat.le_of_ble_eq_true rfl) ?_
  intro p e R s m args below meth c hf hlo C0 hK hA
  unfold f_Nod_add
  refine sw_go C0 1 (pc' := 1) (lv' := [(0, .ref (G 6)), (1, .int a1), (2, .int a2)]) (st' := [.ref (G 6)]) rfl ?_
  refine sw_getf C0 hK (o := 6) (j := 1) (v := .ref (G 39)) (by decide) rfl i_Nod (by decide) wd_1_213 rfl rfl ?_
  refine sw_go C0 1 (pc' := 5) (lv' := [(0, .ref (G 6)), (1, .int a1), (2, .int a2)]) (st' := [.int (-1), .ref (G 39)]) rfl ?_
  refine sw_ci zFi (As := [.int (-1)]) (rest := []) C0 hK hA yk_Row_add (c_Row_add 28 (by decide) (-1)) wd_3_213 rfl rfl ⟨by rw [hf]; decide, by rw [hlo]; decide⟩ (Nat.le_of_ble_eq_true rfl) (zrc_row (k := 28) hK (by decide)) (fun S1 v2 hv2 => ?_)
  refine sw_go C0 2 (pc' := 10) (lv' := [(0, .ref (G 6)), (1, .int a1), (2, .int a2)]) (st' := [.ref (G 6)]) rfl ?_
  refine sw_getf C0 hK (o := 6) (j := 2) (v := .ref (G 40)) (by decide) rfl i_Nod (by decide) wd_1_214 rfl rfl ?_
  refine sw_go C0 1 (pc' := 14) (lv' := [(0, .ref (G 6)), (1, .int a1), (2, .int a2)]) (st' := [.int (-1), .ref (G 40)]) rfl ?_
  refine sw_ci zFi (As := [.int (-1)]) (rest := []) C0 hK hA yk_Row_add (c_Row_add 29 (by decide) (-1)) wd_3_213 rfl rfl ⟨by rw [hf]; decide, by rw [hlo]; decide⟩ (Nat.le_of_ble_eq_true rfl) (zrc_row (k := 29) hK (by decide)) (fun S3 v4 hv4 => ?_)
  refine sw_go C0 2 (pc' := 19) (lv' := [(0, .ref (G 6)), (1, .int a1), (2, .int a2)]) (st' := [.ref (G 6)]) rfl ?_
  refine sw_getf C0 hK (o := 6) (j := 3) (v := .ref (G 41)) (by decide) rfl i_Nod (by decide) wd_1_215 rfl rfl ?_
  refine sw_go C0 1 (pc' := 23) (lv' := [(0, .ref (G 6)), (1, .int a1), (2, .int a2)]) (st' := [.int a1, .ref (G 41)]) rfl ?_
  refine sw_ci zFi (As := [.int a1]) (rest := []) C0 hK hA yk_Row_add (c_Row_add 30 (by decide) a1) wd_3_213 rfl rfl ⟨by rw [hf]; decide, by rw [hlo]; decide⟩ (Nat.le_of_ble_eq_true rfl) (zrc_row (k := 30) hK (by decide)) (fun S5 v6 hv6 => ?_)
  refine sw_go C0 2 (pc' := 28) (lv' := [(0, .ref (G 6)), (1, .int a1), (2, .int a2)]) (st' := [.ref (G 6)]) rfl ?_
  refine sw_getf C0 hK (o := 6) (j := 4) (v := .ref (G 42)) (by decide) rfl i_Nod (by decide) wd_1_216 rfl rfl ?_
  refine sw_go C0 1 (pc' := 32) (lv' := [(0, .ref (G 6)), (1, .int a1), (2, .int a2)]) (st' := [.int a2, .ref (G 42)]) rfl ?_
  refine sw_ci zFi (As := [.int a2]) (rest := []) C0 hK hA yk_Row_add (c_Row_add 31 (by decide) a2) wd_3_213 rfl rfl ⟨by rw [hf]; decide, by rw [hlo]; decide⟩ (Nat.le_of_ble_eq_true rfl) (zrc_row (k := 31) hK (by decide)) (fun S7 v8 hv8 => ?_)
  refine sw_go C0 2 (pc' := 37) (lv' := [(0, .ref (G 6)), (1, .int a1), (2, .int a2)]) (st' := [.ref (G 6)]) rfl ?_
  refine sw_getf C0 hK (o := 6) (j := 5) (v := .ref (G 43)) (by decide) rfl i_Nod (by decide) wd_1_217 rfl rfl ?_
  refine sw_go C0 1 (pc' := 41) (lv' := [(0, .ref (G 6)), (1, .int a1), (2, .int a2)]) (st' := [.int (-1), .ref (G 43)]) rfl ?_
  refine sw_ci zFi (As := [.int (-1)]) (rest := []) C0 hK hA yk_Row_add (c_Row_add 32 (by decide) (-1)) wd_3_213 rfl rfl ⟨by rw [hf]; decide, by rw [hlo]; decide⟩ (Nat.le_of_ble_eq_true rfl) (zrc_row (k := 32) hK (by decide)) (fun S9 v10 hv10 => ?_)
  refine sw_go C0 2 (pc' := 46) (lv' := [(0, .ref (G 6)), (1, .int a1), (2, .int a2)]) (st' := [.ref (G 6)]) rfl ?_
  refine sw_getf C0 hK (o := 6) (j := 6) (v := .ref (G 44)) (by decide) rfl i_Nod (by decide) wd_1_218 rfl rfl ?_
  refine sw_go C0 1 (pc' := 50) (lv' := [(0, .ref (G 6)), (1, .int a1), (2, .int a2)]) (st' := [.int (-1), .ref (G 44)]) rfl ?_
  refine sw_ci zFi (As := [.int (-1)]) (rest := []) C0 hK hA yk_Row_add (c_Row_add 33 (by decide) (-1)) wd_3_213 rfl rfl ⟨by rw [hf]; decide, by rw [hlo]; decide⟩ (Nat.le_of_ble_eq_true rfl) (zrc_row (k := 33) hK (by decide)) (fun S11 v12 hv12 => ?_)
  refine sw_go C0 2 (pc' := 55) (lv' := [(0, .ref (G 6)), (1, .int a1), (2, .int a2)]) (st' := [.ref (G 6)]) rfl ?_
  refine sw_getf C0 hK (o := 6) (j := 7) (v := .ref (G 45)) (by decide) rfl i_Nod (by decide) wd_1_219 rfl rfl ?_
  refine sw_go C0 1 (pc' := 59) (lv' := [(0, .ref (G 6)), (1, .int a1), (2, .int a2)]) (st' := [.int (-1), .ref (G 45)]) rfl ?_
  refine sw_ci zFi (As := [.int (-1)]) (rest := []) C0 hK hA yk_Row_add (c_Row_add 34 (by decide) (-1)) wd_3_213 rfl rfl ⟨by rw [hf]; decide, by rw [hlo]; decide⟩ (Nat.le_of_ble_eq_true rfl) (zrc_row (k := 34) hK (by decide)) (fun S13 v14 hv14 => ?_)
  refine sw_go C0 2 (pc' := 64) (lv' := [(0, .ref (G 6)), (1, .int a1), (2, .int a2)]) (st' := [.ref (G 6)]) rfl ?_
  refine sw_getf C0 hK (o := 6) (j := 8) (v := .ref (G 46)) (by decide) rfl i_Nod (by decide) wd_1_220 rfl rfl ?_
  refine sw_go C0 1 (pc' := 68) (lv' := [(0, .ref (G 6)), (1, .int a1), (2, .int a2)]) (st' := [.int 0, .ref (G 46)]) rfl ?_
  refine sw_ci zFi (As := [.int 0]) (rest := []) C0 hK hA yk_Row_add (c_Row_add 35 (by decide) 0) wd_3_213 rfl rfl ⟨by rw [hf]; decide, by rw [hlo]; decide⟩ (Nat.le_of_ble_eq_true rfl) (zrc_row (k := 35) hK (by decide)) (fun S15 v16 hv16 => ?_)
  refine sw_go C0 2 (pc' := 73) (lv' := [(0, .ref (G 6)), (1, .int a1), (2, .int a2)]) (st' := [.ref (G 6)]) rfl ?_
  refine sw_getf C0 hK (o := 6) (j := 9) (v := .ref (G 47)) (by decide) rfl i_Nod (by decide) wd_1_221 rfl rfl ?_
  refine sw_go C0 2 (pc' := 78) (lv' := [(0, .ref (G 6)), (1, .int a1), (2, .int a2)]) (st' := [.int (-1), .int a1, .ref (G 47)]) rfl ?_
  refine sw_icmp_ne zFi C0 rfl (fun h17 => ?_) (fun h17 => ?_)
  · refine sw_go C0 1 (pc' := 86) (lv' := [(0, .ref (G 6)), (1, .int a1), (2, .int a2)]) (st' := [.ref (G 6), .ref (G 47)]) rfl ?_
    refine sw_getf C0 hK (o := 6) (j := 9) (v := .ref (G 47)) (by decide) rfl i_Nod (by decide) wd_1_221 rfl rfl ?_
    refine sw_go C0 1 (pc' := 90) (lv' := [(0, .ref (G 6)), (1, .int a1), (2, .int a2)]) (st' := [.int a1, .ref (G 47), .ref (G 47)]) rfl ?_
    refine sw_cp (As := [.int a1]) (rest := [.ref (G 47)]) C0 hK hA yk_Row_at (c_Row_at 36 (by decide) a1) wd_3_174 rfl rfl ⟨by rw [hf]; decide, by rw [hlo]; decide⟩ (Nat.le_of_ble_eq_true rfl) (zrc_row (k := 36) hK (by decide)) ?_
    refine sw_go C0 2 (pc' := 95) (lv' := [(0, .ref (G 6)), (1, .int a1), (2, .int a2)]) (st' := [.int ((r_at S15 36 a1) + 1), .ref (G 47)]) rfl ?_
    refine sw_ci zFi (As := [.int ((r_at S15 36 a1) + 1)]) (rest := []) C0 hK hA yk_Row_add (c_Row_add 36 (by decide) ((r_at S15 36 a1) + 1)) wd_3_213 rfl rfl ⟨by rw [hf]; decide, by rw [hlo]; decide⟩ (Nat.le_of_ble_eq_true rfl) (zrc_row (k := 36) hK (by decide)) (fun S18 v19 hv19 => ?_)
    refine sw_go C0 2 (pc' := 100) (lv' := [(0, .ref (G 6)), (1, .int a1), (2, .int a2)]) (st' := [.ref (G 6)]) rfl ?_
    refine sw_getf C0 hK (o := 6) (j := 0) (v := .ref (G 38)) (by decide) rfl i_Nod (by decide) wd_1_212 rfl rfl ?_
    refine sw_go C0 1 (pc' := 104) (lv' := [(0, .ref (G 6)), (1, .int a1), (2, .int a2)]) (st' := [.int (-1), .ref (G 38)]) rfl ?_
    refine sw_ci zFi (As := [.int (-1)]) (rest := []) C0 hK hA yk_Row_add (c_Row_add 27 (by decide) (-1)) wd_3_213 rfl rfl ⟨by rw [hf]; decide, by rw [hlo]; decide⟩ (Nat.le_of_ble_eq_true rfl) (zrc_row (k := 27) hK (by decide)) (fun S20 v21 hv21 => ?_)
    refine sw_go C0 3 (pc' := 110) (lv' := [(0, .ref (G 6)), (1, .int a1), (2, .int a2), (3, .int v21)]) (st' := [.int (-1), .int a1]) rfl ?_
    refine sw_icmp_eq zFi C0 rfl (fun h22 => ?_) (fun h22 => ?_)
    · refine sw_go C0 1 (pc' := 120) (lv' := [(0, .ref (G 6)), (1, .int a1), (2, .int a2), (3, .int v21)]) (st' := [.int v21]) rfl ?_
      exact sw_reti C0 rfl rfl
    · refine sw_go C0 3 (pc' := 116) (lv' := [(0, .ref (G 6)), (1, .int a1), (2, .int a2), (3, .int v21)]) (st' := [.int v21, .int a1, .ref (G 6)]) rfl ?_
      refine sw_cV zFi (As := [.int a1, .int v21]) (rest := []) C0 hK hA yk_Nod_hang (c_Nod_hang S20 a1 v21) wd_3_214 rfl rfl ⟨by rw [hf]; decide, by rw [hlo]; decide⟩ (Nat.le_of_ble_eq_true rfl) (zrc_obj (o := 6) hK (by decide) rfl) (fun S23 hS23 => ?_)
      refine sw_go C0 1 (pc' := 120) (lv' := [(0, .ref (G 6)), (1, .int a1), (2, .int a2), (3, .int v21)]) (st' := [.int v21]) rfl ?_
      exact sw_reti C0 rfl rfl
  · refine sw_go C0 2 (pc' := 95) (lv' := [(0, .ref (G 6)), (1, .int a1), (2, .int a2)]) (st' := [.int 0, .ref (G 47)]) rfl ?_
    refine sw_ci zFi (As := [.int 0]) (rest := []) C0 hK hA yk_Row_add (c_Row_add 36 (by decide) 0) wd_3_213 rfl rfl ⟨by rw [hf]; decide, by rw [hlo]; decide⟩ (Nat.le_of_ble_eq_true rfl) (zrc_row (k := 36) hK (by decide)) (fun S24 v25 hv25 => ?_)
    refine sw_go C0 2 (pc' := 100) (lv' := [(0, .ref (G 6)), (1, .int a1), (2, .int a2)]) (st' := [.ref (G 6)]) rfl ?_
    refine sw_getf C0 hK (o := 6) (j := 0) (v := .ref (G 38)) (by decide) rfl i_Nod (by decide) wd_1_212 rfl rfl ?_
    refine sw_go C0 1 (pc' := 104) (lv' := [(0, .ref (G 6)), (1, .int a1), (2, .int a2)]) (st' := [.int (-1), .ref (G 38)]) rfl ?_
    refine sw_ci zFi (As := [.int (-1)]) (rest := []) C0 hK hA yk_Row_add (c_Row_add 27 (by decide) (-1)) wd_3_213 rfl rfl ⟨by rw [hf]; decide, by rw [hlo]; decide⟩ (Nat.le_of_ble_eq_true rfl) (zrc_row (k := 27) hK (by decide)) (fun S26 v27 hv27 => ?_)
    refine sw_go C0 3 (pc' := 110) (lv' := [(0, .ref (G 6)), (1, .int a1), (2, .int a2), (3, .int v27)]) (st' := [.int (-1), .int a1]) rfl ?_
    refine sw_icmp_eq zFi C0 rfl (fun h28 => ?_) (fun h28 => ?_)
    · refine sw_go C0 1 (pc' := 120) (lv' := [(0, .ref (G 6)), (1, .int a1), (2, .int a2), (3, .int v27)]) (st' := [.int v27]) rfl ?_
      exact sw_reti C0 rfl rfl
    · refine sw_go C0 3 (pc' := 116) (lv' := [(0, .ref (G 6)), (1, .int a1), (2, .int a2), (3, .int v27)]) (st' := [.int v27, .int a1, .ref (G 6)]) rfl ?_
      refine sw_cV zFi (As := [.int a1, .int v27]) (rest := []) C0 hK hA yk_Nod_hang (c_Nod_hang S26 a1 v27) wd_3_214 rfl rfl ⟨by rw [hf]; decide, by rw [hlo]; decide⟩ (Nat.le_of_ble_eq_true rfl) (zrc_obj (o := 6) hK (by decide) rfl) (fun S29 hS29 => ?_)
      refine sw_go C0 1 (pc' := 120) (lv' := [(0, .ref (G 6)), (1, .int a1), (2, .int a2), (3, .int v27)]) (st' := [.int v27]) rfl ?_
      exact sw_reti C0 rfl rfl
def f_Nod_ask (S : zS) (a1 : Int32) : Int32 :=
  (r_at S 29 a1)
set_option maxHeartbeats 1000000 in
set_option maxRecDepth 20000 in
theorem c_Nod_ask (S : zS) (a1 : Int32) : zMet l y_Nod_ask (zw y_Nod_ask prog_5_method_8_code 2 (some Jvm.ClassFile.FieldType.int)) 1 21 [.ref (G 6), .int a1] D zcl (ztys cA) A (zRep D cA G A) zfc zfs S ((zFp S) (f_Nod_ask S a1)) := by
  refine zMet_of ⟨Nat.le_refl _, Nat.le_refl _⟩ (by decide) tk_Nod_ask (Nat.le_of_ble_eq_true rfl) ?_
  intro p e R s m args below meth c hf hlo C0 hK hA
  unfold f_Nod_ask
  refine sw_go C0 1 (pc' := 1) (lv' := [(0, .ref (G 6)), (1, .int a1)]) (st' := [.ref (G 6)]) rfl ?_
  refine sw_getf C0 hK (o := 6) (j := 2) (v := .ref (G 40)) (by decide) rfl i_Nod (by decide) wd_1_214 rfl rfl ?_
  refine sw_go C0 1 (pc' := 5) (lv' := [(0, .ref (G 6)), (1, .int a1)]) (st' := [.int a1, .ref (G 40)]) rfl ?_
  refine sw_cp (As := [.int a1]) (rest := []) C0 hK hA yk_Row_at (c_Row_at 29 (by decide) a1) wd_3_174 rfl rfl ⟨by rw [hf]; decide, by rw [hlo]; decide⟩ (Nat.le_of_ble_eq_true rfl) (zrc_row (k := 29) hK (by decide)) ?_
  exact sw_reti C0 rfl rfl
def f_Nod_ruleAt (S : zS) (a1 : Int32) : Int32 :=
  (r_at S 28 a1)
set_option maxHeartbeats 1000000 in
set_option maxRecDepth 20000 in
theorem c_Nod_ruleAt (S : zS) (a1 : Int32) : zMet l y_Nod_ruleAt (zw y_Nod_ruleAt prog_5_method_7_code 2 (some Jvm.ClassFile.FieldType.int)) 1 21 [.ref (G 6), .int a1] D zcl (ztys cA) A (zRep D cA G A) zfc zfs S ((zFp S) (f_Nod_ruleAt S a1)) := by
  refine zMet_of ⟨Nat.le_refl _, Nat.le_refl _⟩ (by decide) tk_Nod_ruleAt (Nat.le_of_ble_eq_true rfl) ?_
  intro p e R s m args below meth c hf hlo C0 hK hA
  unfold f_Nod_ruleAt
  refine sw_go C0 1 (pc' := 1) (lv' := [(0, .ref (G 6)), (1, .int a1)]) (st' := [.ref (G 6)]) rfl ?_
  refine sw_getf C0 hK (o := 6) (j := 1) (v := .ref (G 39)) (by decide) rfl i_Nod (by decide) wd_1_213 rfl rfl ?_
  refine sw_go C0 1 (pc' := 5) (lv' := [(0, .ref (G 6)), (1, .int a1)]) (st' := [.int a1, .ref (G 39)]) rfl ?_
  refine sw_cp (As := [.int a1]) (rest := []) C0 hK hA yk_Row_at (c_Row_at 28 (by decide) a1) wd_3_174 rfl rfl ⟨by rw [hf]; decide, by rw [hlo]; decide⟩ (Nat.le_of_ble_eq_true rfl) (zrc_row (k := 28) hK (by decide)) ?_
  exact sw_reti C0 rfl rfl
def f_Nod_settle (S : zS) (a1 : Int32) (a2 : Int32) (a3 : Int32) (a4 : Int32) : zS :=
  zbind (r_set S 28 a1 a2) fun S1 =>
  zbind (r_set S1 29 a1 a3) fun S2 =>
  zbind (r_set S2 27 a1 a4) fun S3 =>
  S3
theorem mo_Nod_settle (S : zS) (a1 : Int32) (a2 : Int32) (a3 : Int32) (a4 : Int32) : zmo S (f_Nod_settle S a1 a2 a3 a4) := by
  unfold f_Nod_settle
  exact (mo_b (g := (fun x => x)) mo_r_set fun S1 => (mo_b (g := (fun x => x)) mo_r_set fun S2 => (mo_b (g := (fun x => x)) mo_r_set fun S3 => zmo_rf)))
set_option maxHeartbeats 1000000 in
set_option maxRecDepth 20000 in
theorem c_Nod_settle (S : zS) (a1 : Int32) (a2 : Int32) (a3 : Int32) (a4 : Int32) : zMet l y_Nod_settle (zw y_Nod_settle prog_5_method_5_code 5 none) 1 22 [.ref (G 6), .int a1, .int a2, .int a3, .int a4] D zcl (ztys cA) A (zRep D cA G A) zfc zfs S (zFv (f_Nod_settle S a1 a2 a3 a4)) := by
  refine zMet_of (mo_Fv (mo_Nod_settle S a1 a2 a3 a4)) (by decide) tk_Nod_settle (Nat.le_of_ble_eq_true rfl) ?_
  intro p e R s m args below meth c hf hlo C0 hK hA
  unfold f_Nod_settle
  refine sw_go C0 1 (pc' := 1) (lv' := [(0, .ref (G 6)), (1, .int a1), (2, .int a2), (3, .int a3), (4, .int a4)]) (st' := [.ref (G 6)]) rfl ?_
  refine sw_getf C0 hK (o := 6) (j := 1) (v := .ref (G 39)) (by decide) rfl i_Nod (by decide) wd_1_213 rfl rfl ?_
  refine sw_go C0 2 (pc' := 6) (lv' := [(0, .ref (G 6)), (1, .int a1), (2, .int a2), (3, .int a3), (4, .int a4)]) (st' := [.int a2, .int a1, .ref (G 39)]) rfl ?_
  refine sw_cV zFv (As := [.int a1, .int a2]) (rest := []) C0 hK hA yk_Row_set (c_Row_set 28 (by decide) a1 a2) wd_3_218 rfl rfl ⟨by rw [hf]; decide, by rw [hlo]; decide⟩ (Nat.le_of_ble_eq_true rfl) (zrc_row (k := 28) hK (by decide)) (fun S1 hS1 => ?_)
  refine sw_go C0 1 (pc' := 10) (lv' := [(0, .ref (G 6)), (1, .int a1), (2, .int a2), (3, .int a3), (4, .int a4)]) (st' := [.ref (G 6)]) rfl ?_
  refine sw_getf C0 hK (o := 6) (j := 2) (v := .ref (G 40)) (by decide) rfl i_Nod (by decide) wd_1_214 rfl rfl ?_
  refine sw_go C0 2 (pc' := 15) (lv' := [(0, .ref (G 6)), (1, .int a1), (2, .int a2), (3, .int a3), (4, .int a4)]) (st' := [.int a3, .int a1, .ref (G 40)]) rfl ?_
  refine sw_cV zFv (As := [.int a1, .int a3]) (rest := []) C0 hK hA yk_Row_set (c_Row_set 29 (by decide) a1 a3) wd_3_218 rfl rfl ⟨by rw [hf]; decide, by rw [hlo]; decide⟩ (Nat.le_of_ble_eq_true rfl) (zrc_row (k := 29) hK (by decide)) (fun S2 hS2 => ?_)
  refine sw_go C0 1 (pc' := 19) (lv' := [(0, .ref (G 6)), (1, .int a1), (2, .int a2), (3, .int a3), (4, .int a4)]) (st' := [.ref (G 6)]) rfl ?_
  refine sw_getf C0 hK (o := 6) (j := 0) (v := .ref (G 38)) (by decide) rfl i_Nod (by decide) wd_1_212 rfl rfl ?_
  refine sw_go C0 2 (pc' := 25) (lv' := [(0, .ref (G 6)), (1, .int a1), (2, .int a2), (3, .int a3), (4, .int a4)]) (st' := [.int a4, .int a1, .ref (G 38)]) rfl ?_
  refine sw_cV zFv (As := [.int a1, .int a4]) (rest := []) C0 hK hA yk_Row_set (c_Row_set 27 (by decide) a1 a4) wd_3_218 rfl rfl ⟨by rw [hf]; decide, by rw [hlo]; decide⟩ (Nat.le_of_ble_eq_true rfl) (zrc_row (k := 27) hK (by decide)) (fun S3 hS3 => ?_)
  exact sw_retv C0 rfl rfl
def f_Nod_lastBranch (S : zS) (a1 : Int32) : Int32 :=
  (r_at S 33 a1)
set_option maxHeartbeats 1000000 in
set_option maxRecDepth 20000 in
theorem c_Nod_lastBranch (S : zS) (a1 : Int32) : zMet l y_Nod_lastBranch (zw y_Nod_lastBranch prog_5_method_12_code 2 (some Jvm.ClassFile.FieldType.int)) 1 21 [.ref (G 6), .int a1] D zcl (ztys cA) A (zRep D cA G A) zfc zfs S ((zFp S) (f_Nod_lastBranch S a1)) := by
  refine zMet_of ⟨Nat.le_refl _, Nat.le_refl _⟩ (by decide) tk_Nod_lastBranch (Nat.le_of_ble_eq_true rfl) ?_
  intro p e R s m args below meth c hf hlo C0 hK hA
  unfold f_Nod_lastBranch
  refine sw_go C0 1 (pc' := 1) (lv' := [(0, .ref (G 6)), (1, .int a1)]) (st' := [.ref (G 6)]) rfl ?_
  refine sw_getf C0 hK (o := 6) (j := 6) (v := .ref (G 44)) (by decide) rfl i_Nod (by decide) wd_1_218 rfl rfl ?_
  refine sw_go C0 1 (pc' := 5) (lv' := [(0, .ref (G 6)), (1, .int a1)]) (st' := [.int a1, .ref (G 44)]) rfl ?_
  refine sw_cp (As := [.int a1]) (rest := []) C0 hK hA yk_Row_at (c_Row_at 33 (by decide) a1) wd_3_174 rfl rfl ⟨by rw [hf]; decide, by rw [hlo]; decide⟩ (Nat.le_of_ble_eq_true rfl) (zrc_row (k := 33) hK (by decide)) ?_
  exact sw_reti C0 rfl rfl
def f_Nod_branches (S : zS) (a1 : Int32) : Int32 :=
  (r_at S 35 a1)
set_option maxHeartbeats 1000000 in
set_option maxRecDepth 20000 in
theorem c_Nod_branches (S : zS) (a1 : Int32) : zMet l y_Nod_branches (zw y_Nod_branches prog_5_method_14_code 2 (some Jvm.ClassFile.FieldType.int)) 1 21 [.ref (G 6), .int a1] D zcl (ztys cA) A (zRep D cA G A) zfc zfs S ((zFp S) (f_Nod_branches S a1)) := by
  refine zMet_of ⟨Nat.le_refl _, Nat.le_refl _⟩ (by decide) tk_Nod_branches (Nat.le_of_ble_eq_true rfl) ?_
  intro p e R s m args below meth c hf hlo C0 hK hA
  unfold f_Nod_branches
  refine sw_go C0 1 (pc' := 1) (lv' := [(0, .ref (G 6)), (1, .int a1)]) (st' := [.ref (G 6)]) rfl ?_
  refine sw_getf C0 hK (o := 6) (j := 8) (v := .ref (G 46)) (by decide) rfl i_Nod (by decide) wd_1_220 rfl rfl ?_
  refine sw_go C0 1 (pc' := 5) (lv' := [(0, .ref (G 6)), (1, .int a1)]) (st' := [.int a1, .ref (G 46)]) rfl ?_
  refine sw_cp (As := [.int a1]) (rest := []) C0 hK hA yk_Row_at (c_Row_at 35 (by decide) a1) wd_3_174 rfl rfl ⟨by rw [hf]; decide, by rw [hlo]; decide⟩ (Nat.le_of_ble_eq_true rfl) (zrc_row (k := 35) hK (by decide)) ?_
  exact sw_reti C0 rfl rfl
def f_Nod_empty (S : zS) : zS :=
  zbind (r_emp S 27) fun S1 =>
  zbind (r_emp S1 28) fun S2 =>
  zbind (r_emp S2 29) fun S3 =>
  zbind (r_emp S3 30) fun S4 =>
  zbind (r_emp S4 31) fun S5 =>
  zbind (r_emp S5 32) fun S6 =>
  zbind (r_emp S6 33) fun S7 =>
  zbind (r_emp S7 34) fun S8 =>
  zbind (r_emp S8 35) fun S9 =>
  zbind (r_emp S9 36) fun S10 =>
  S10
theorem mo_Nod_empty (S : zS) : zmo S (f_Nod_empty S) := by
  unfold f_Nod_empty
  exact (mo_b (g := (fun x => x)) mo_r_emp fun S1 => (mo_b (g := (fun x => x)) mo_r_emp fun S2 => (mo_b (g := (fun x => x)) mo_r_emp fun S3 => (mo_b (g := (fun x => x)) mo_r_emp fun S4 => (mo_b (g := (fun x => x)) mo_r_emp fun S5 => (mo_b (g := (fun x => x)) mo_r_emp fun S6 => (mo_b (g := (fun x => x)) mo_r_emp fun S7 => (mo_b (g := (fun x => x)) mo_r_emp fun S8 => (mo_b (g := (fun x => x)) mo_r_emp fun S9 => (mo_b (g := (fun x => x)) mo_r_emp fun S10 => zmo_rf))))))))))
set_option maxHeartbeats 1000000 in
set_option maxRecDepth 20000 in
theorem c_Nod_empty (S : zS) : zMet l y_Nod_empty (zw y_Nod_empty prog_5_method_3_code 1 none) 1 20 [.ref (G 6)] D zcl (ztys cA) A (zRep D cA G A) zfc zfs S (zFv (f_Nod_empty S)) := by
  refine zMet_of (mo_Fv (mo_Nod_empty S)) (by decide) tk_Nod_empty (Nat.le_of_ble_eq_true rfl) ?_
  intro p e R s m args below meth c hf hlo C0 hK hA
  unfold f_Nod_empty
  refine sw_go C0 1 (pc' := 1) (lv' := [(0, .ref (G 6))]) (st' := [.ref (G 6)]) rfl ?_
  refine sw_getf C0 hK (o := 6) (j := 0) (v := .ref (G 38)) (by decide) rfl i_Nod (by decide) wd_1_212 rfl rfl ?_
  refine sw_cV zFv (As := []) (rest := []) C0 hK hA yk_Row_empty (c_Row_empty 27 (by decide)) wd_3_161 rfl rfl ⟨by rw [hf]; decide, by rw [hlo]; decide⟩ (Nat.le_of_ble_eq_true rfl) (zrc_row (k := 27) hK (by decide)) (fun S1 hS1 => ?_)
  refine sw_go C0 1 (pc' := 8) (lv' := [(0, .ref (G 6))]) (st' := [.ref (G 6)]) rfl ?_
  refine sw_getf C0 hK (o := 6) (j := 1) (v := .ref (G 39)) (by decide) rfl i_Nod (by decide) wd_1_213 rfl rfl ?_
  refine sw_cV zFv (As := []) (rest := []) C0 hK hA yk_Row_empty (c_Row_empty 28 (by decide)) wd_3_161 rfl rfl ⟨by rw [hf]; decide, by rw [hlo]; decide⟩ (Nat.le_of_ble_eq_true rfl) (zrc_row (k := 28) hK (by decide)) (fun S2 hS2 => ?_)
  refine sw_go C0 1 (pc' := 15) (lv' := [(0, .ref (G 6))]) (st' := [.ref (G 6)]) rfl ?_
  refine sw_getf C0 hK (o := 6) (j := 2) (v := .ref (G 40)) (by decide) rfl i_Nod (by decide) wd_1_214 rfl rfl ?_
  refine sw_cV zFv (As := []) (rest := []) C0 hK hA yk_Row_empty (c_Row_empty 29 (by decide)) wd_3_161 rfl rfl ⟨by rw [hf]; decide, by rw [hlo]; decide⟩ (Nat.le_of_ble_eq_true rfl) (zrc_row (k := 29) hK (by decide)) (fun S3 hS3 => ?_)
  refine sw_go C0 1 (pc' := 22) (lv' := [(0, .ref (G 6))]) (st' := [.ref (G 6)]) rfl ?_
  refine sw_getf C0 hK (o := 6) (j := 3) (v := .ref (G 41)) (by decide) rfl i_Nod (by decide) wd_1_215 rfl rfl ?_
  refine sw_cV zFv (As := []) (rest := []) C0 hK hA yk_Row_empty (c_Row_empty 30 (by decide)) wd_3_161 rfl rfl ⟨by rw [hf]; decide, by rw [hlo]; decide⟩ (Nat.le_of_ble_eq_true rfl) (zrc_row (k := 30) hK (by decide)) (fun S4 hS4 => ?_)
  refine sw_go C0 1 (pc' := 29) (lv' := [(0, .ref (G 6))]) (st' := [.ref (G 6)]) rfl ?_
  refine sw_getf C0 hK (o := 6) (j := 4) (v := .ref (G 42)) (by decide) rfl i_Nod (by decide) wd_1_216 rfl rfl ?_
  refine sw_cV zFv (As := []) (rest := []) C0 hK hA yk_Row_empty (c_Row_empty 31 (by decide)) wd_3_161 rfl rfl ⟨by rw [hf]; decide, by rw [hlo]; decide⟩ (Nat.le_of_ble_eq_true rfl) (zrc_row (k := 31) hK (by decide)) (fun S5 hS5 => ?_)
  refine sw_go C0 1 (pc' := 36) (lv' := [(0, .ref (G 6))]) (st' := [.ref (G 6)]) rfl ?_
  refine sw_getf C0 hK (o := 6) (j := 5) (v := .ref (G 43)) (by decide) rfl i_Nod (by decide) wd_1_217 rfl rfl ?_
  refine sw_cV zFv (As := []) (rest := []) C0 hK hA yk_Row_empty (c_Row_empty 32 (by decide)) wd_3_161 rfl rfl ⟨by rw [hf]; decide, by rw [hlo]; decide⟩ (Nat.le_of_ble_eq_true rfl) (zrc_row (k := 32) hK (by decide)) (fun S6 hS6 => ?_)
  refine sw_go C0 1 (pc' := 43) (lv' := [(0, .ref (G 6))]) (st' := [.ref (G 6)]) rfl ?_
  refine sw_getf C0 hK (o := 6) (j := 6) (v := .ref (G 44)) (by decide) rfl i_Nod (by decide) wd_1_218 rfl rfl ?_
  refine sw_cV zFv (As := []) (rest := []) C0 hK hA yk_Row_empty (c_Row_empty 33 (by decide)) wd_3_161 rfl rfl ⟨by rw [hf]; decide, by rw [hlo]; decide⟩ (Nat.le_of_ble_eq_true rfl) (zrc_row (k := 33) hK (by decide)) (fun S7 hS7 => ?_)
  refine sw_go C0 1 (pc' := 50) (lv' := [(0, .ref (G 6))]) (st' := [.ref (G 6)]) rfl ?_
  refine sw_getf C0 hK (o := 6) (j := 7) (v := .ref (G 45)) (by decide) rfl i_Nod (by decide) wd_1_219 rfl rfl ?_
  refine sw_cV zFv (As := []) (rest := []) C0 hK hA yk_Row_empty (c_Row_empty 34 (by decide)) wd_3_161 rfl rfl ⟨by rw [hf]; decide, by rw [hlo]; decide⟩ (Nat.le_of_ble_eq_true rfl) (zrc_row (k := 34) hK (by decide)) (fun S8 hS8 => ?_)
  refine sw_go C0 1 (pc' := 57) (lv' := [(0, .ref (G 6))]) (st' := [.ref (G 6)]) rfl ?_
  refine sw_getf C0 hK (o := 6) (j := 8) (v := .ref (G 46)) (by decide) rfl i_Nod (by decide) wd_1_220 rfl rfl ?_
  refine sw_cV zFv (As := []) (rest := []) C0 hK hA yk_Row_empty (c_Row_empty 35 (by decide)) wd_3_161 rfl rfl ⟨by rw [hf]; decide, by rw [hlo]; decide⟩ (Nat.le_of_ble_eq_true rfl) (zrc_row (k := 35) hK (by decide)) (fun S9 hS9 => ?_)
  refine sw_go C0 1 (pc' := 64) (lv' := [(0, .ref (G 6))]) (st' := [.ref (G 6)]) rfl ?_
  refine sw_getf C0 hK (o := 6) (j := 9) (v := .ref (G 47)) (by decide) rfl i_Nod (by decide) wd_1_221 rfl rfl ?_
  refine sw_cV zFv (As := []) (rest := []) C0 hK hA yk_Row_empty (c_Row_empty 36 (by decide)) wd_3_161 rfl rfl ⟨by rw [hf]; decide, by rw [hlo]; decide⟩ (Nat.le_of_ble_eq_true rfl) (zrc_row (k := 36) hK (by decide)) (fun S10 hS10 => ?_)
  exact sw_retv C0 rfl rfl
def f_Nod_endsWith_L4 : Nat → zS → Int32 → Int32 → Int32 → Option (Int32)
  | 0, _, _, _, _ => none
  | n + 1, S, x1, x2, x3 =>
    if (r_size S 27) ≤ x3 then
      some x2
    else
      if (f_Nod_isEndWith S x3 x1) = 0 then
        f_Nod_endsWith_L4 n S x1 x2 (x3 + 1)
      else
        f_Nod_endsWith_L4 n S x1 (x2 + 1) (x3 + 1)
def f_Nod_endsWith (S : zS) (a1 : Int32) : Option (Int32) :=
  f_Nod_endsWith_L4 zbig S a1 0 0
set_option maxHeartbeats 1000000 in
set_option maxRecDepth 20000 in
theorem c_Nod_endsWith (S : zS) (a1 : Int32) : ∀ r, f_Nod_endsWith S a1 = some r → zMet l y_Nod_endsWith (zw y_Nod_endsWith prog_5_method_15_code 4 (some Jvm.ClassFile.FieldType.int)) 2 43 [.ref (G 6), .int a1] D zcl (ztys cA) A (zRep D cA G A) zfc zfs S ((zFp S) r) := by
  intro r hr
  refine zMet_of ⟨Nat.le_refl _, Nat.le_refl _⟩ (by decide) tk_Nod_endsWith (Nat.le_of_ble_eq_true rfl) ?_
  intro p e R s m args below meth c hf hlo C0 hK hA
  have lp4 : ∀ (n : Nat) (x1 : Int32) (x2 : Int32) (x3 : Int32), zSO p l e R s m args below meth c 4 A D cA G S 4 [(0, .ref (G 6)), (1, .int x1), (2, .int x2), (3, .int x3)] [] (zFp S) (f_Nod_endsWith_L4 n S x1 x2 x3) := by
    intro n
    induction n with
    | zero =>
      intro x1 x2 x3
      rw [f_Nod_endsWith_L4]
      exact so_none
    | succ n ih4 =>
      intro x1 x2 x3
      rw [f_Nod_endsWith_L4]
      refine so_go C0 2 (pc' := 6) (lv' := [(0, .ref (G 6)), (1, .int x1), (2, .int x2), (3, .int x3)]) (st' := [.ref (G 6), .int x3]) rfl ?_
      refine so_getf C0 hK (o := 6) (j := 0) (v := .ref (G 38)) (by decide) rfl i_Nod (by decide) wd_1_212 rfl rfl ?_
      refine so_cp (As := []) (rest := [.int x3]) C0 hK hA yk_Row_size (c_Row_size 27 (by decide)) wd_4_19 rfl rfl ⟨by rw [hf]; decide, by rw [hlo]; decide⟩ (Nat.le_of_ble_eq_true rfl) (zrc_row (k := 27) hK (by decide)) ?_
      refine so_icmp_ge C0 rfl (fun h1 => ?_) (fun h1 => ?_)
      · refine so_go C0 1 (pc' := 34) (lv' := [(0, .ref (G 6)), (1, .int x1), (2, .int x2), (3, .int x3)]) (st' := [.int x2]) rfl ?_
        exact so_reti C0 rfl rfl
      · refine so_go C0 3 (pc' := 18) (lv' := [(0, .ref (G 6)), (1, .int x1), (2, .int x2), (3, .int x3)]) (st' := [.int x1, .int x3, .ref (G 6)]) rfl ?_
        refine so_cp (As := [.int x3, .int x1]) (rest := []) C0 hK hA yk_Nod_isEndWith (c_Nod_isEndWith S x3 x1) wd_4_83 rfl rfl ⟨by rw [hf]; decide, by rw [hlo]; decide⟩ (Nat.le_of_ble_eq_true rfl) (zrc_obj (o := 6) hK (by decide) rfl) ?_
        refine so_if_eq C0 rfl (fun h2 => ?_) (fun h2 => ?_)
        · refine so_go C0 2 (pc' := 4) (lv' := [(0, .ref (G 6)), (1, .int x1), (2, .int x2), (3, .int (x3 + 1))]) (st' := []) rfl ?_
          exact so_sub (lv' := [(0, .ref (G 6)), (1, .int x1), (2, .int x2), (3, .int (x3 + 1))]) (zpk [0, 1, 2, 3] rfl) (ih4 x1 x2 (x3 + 1))
        · refine so_go C0 3 (pc' := 4) (lv' := [(0, .ref (G 6)), (1, .int x1), (2, .int (x2 + 1)), (3, .int (x3 + 1))]) (st' := []) rfl ?_
          exact so_sub (lv' := [(0, .ref (G 6)), (1, .int x1), (2, .int (x2 + 1)), (3, .int (x3 + 1))]) (zpk [0, 1, 2, 3] rfl) (ih4 x1 (x2 + 1) (x3 + 1))
  have K : zSO p l e R s m args below meth c 4 A D cA G S 0 (lv_args 0 [.ref (G 6), .int a1]) [] (zFp S) (f_Nod_endsWith S a1) := by
    unfold f_Nod_endsWith
    refine so_go C0 4 (pc' := 4) (lv' := [(0, .ref (G 6)), (1, .int a1), (2, .int 0), (3, .int 0)]) (st' := []) rfl ?_
    exact so_sub (lv' := [(0, .ref (G 6)), (1, .int a1), (2, .int 0), (3, .int 0)]) (zpk [0, 1, 2, 3] rfl) (lp4 zbig a1 0 0)
  exact K r hr
def f_Nod_deepest_L4 : Nat → zS → Int32 → Int32 → Option (Int32)
  | 0, _, _, _ => none
  | n + 1, S, x1, x2 =>
    if (r_size S 36) ≤ x2 then
      some x1
    else
      zbind (z_max x1 (r_at S 36 x2)) fun v2 =>
      f_Nod_deepest_L4 n S v2 (x2 + 1)
def f_Nod_deepest (S : zS) : Option (Int32) :=
  f_Nod_deepest_L4 zbig S 0 0
set_option maxHeartbeats 1000000 in
set_option maxRecDepth 20000 in
theorem c_Nod_deepest (S : zS) : ∀ r, f_Nod_deepest S = some r → zMet l y_Nod_deepest (zw y_Nod_deepest prog_5_method_17_code 3 (some Jvm.ClassFile.FieldType.int)) 1 21 [.ref (G 6)] D zcl (ztys cA) A (zRep D cA G A) zfc zfs S ((zFp S) r) := by
  intro r hr
  refine zMet_of ⟨Nat.le_refl _, Nat.le_refl _⟩ (by decide) tk_Nod_deepest (Nat.le_of_ble_eq_true rfl) ?_
  intro p e R s m args below meth c hf hlo C0 hK hA
  have lp4 : ∀ (n : Nat) (x1 : Int32) (x2 : Int32), zSO p l e R s m args below meth c 3 A D cA G S 4 [(0, .ref (G 6)), (1, .int x1), (2, .int x2)] [] (zFp S) (f_Nod_deepest_L4 n S x1 x2) := by
    intro n
    induction n with
    | zero =>
      intro x1 x2
      rw [f_Nod_deepest_L4]
      exact so_none
    | succ n ih4 =>
      intro x1 x2
      rw [f_Nod_deepest_L4]
      refine so_go C0 2 (pc' := 6) (lv' := [(0, .ref (G 6)), (1, .int x1), (2, .int x2)]) (st' := [.ref (G 6), .int x2]) rfl ?_
      refine so_getf C0 hK (o := 6) (j := 9) (v := .ref (G 47)) (by decide) rfl i_Nod (by decide) wd_1_221 rfl rfl ?_
      refine so_cp (As := []) (rest := [.int x2]) C0 hK hA yk_Row_size (c_Row_size 36 (by decide)) wd_4_19 rfl rfl ⟨by rw [hf]; decide, by rw [hlo]; decide⟩ (Nat.le_of_ble_eq_true rfl) (zrc_row (k := 36) hK (by decide)) ?_
      refine so_icmp_ge C0 rfl (fun h1 => ?_) (fun h1 => ?_)
      · refine so_go C0 1 (pc' := 35) (lv' := [(0, .ref (G 6)), (1, .int x1), (2, .int x2)]) (st' := [.int x1]) rfl ?_
        exact so_reti C0 rfl rfl
      · refine so_go C0 2 (pc' := 17) (lv' := [(0, .ref (G 6)), (1, .int x1), (2, .int x2)]) (st' := [.ref (G 6), .int x1]) rfl ?_
        refine so_getf C0 hK (o := 6) (j := 9) (v := .ref (G 47)) (by decide) rfl i_Nod (by decide) wd_1_221 rfl rfl ?_
        refine so_go C0 1 (pc' := 21) (lv' := [(0, .ref (G 6)), (1, .int x1), (2, .int x2)]) (st' := [.int x2, .ref (G 47), .int x1]) rfl ?_
        refine so_cp (As := [.int x2]) (rest := [.int x1]) C0 hK hA yk_Row_at (c_Row_at 36 (by decide) x2) wd_3_174 rfl rfl ⟨by rw [hf]; decide, by rw [hlo]; decide⟩ (Nat.le_of_ble_eq_true rfl) (zrc_row (k := 36) hK (by decide)) ?_
        refine so_mmax C0 wd_4_214 (by rw [hf]; decide) (by rw [hlo]; decide) (Nat.le_of_ble_eq_true rfl) rfl ?_
        refine so_nm (V := .int) (fun v2 hv2 => ?_)
        refine so_go C0 3 (pc' := 4) (lv' := [(0, .ref (G 6)), (1, .int v2), (2, .int (x2 + 1))]) (st' := []) rfl ?_
        exact so_sub (lv' := [(0, .ref (G 6)), (1, .int v2), (2, .int (x2 + 1))]) (zpk [0, 1, 2] rfl) (ih4 v2 (x2 + 1))
  have K : zSO p l e R s m args below meth c 3 A D cA G S 0 (lv_args 0 [.ref (G 6)]) [] (zFp S) (f_Nod_deepest S) := by
    unfold f_Nod_deepest
    refine so_go C0 4 (pc' := 4) (lv' := [(0, .ref (G 6)), (1, .int 0), (2, .int 0)]) (st' := []) rfl ?_
    exact so_sub (lv' := [(0, .ref (G 6)), (1, .int 0), (2, .int 0)]) (zpk [0, 1, 2] rfl) (lp4 zbig 0 0)
  exact K r hr
end ZM
