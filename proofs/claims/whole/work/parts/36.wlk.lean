-- by program: the methods of RuleTree$Walker, as functions, and that the code does them
section ZM
variable {cA : Nat → ClassId} {G : Nat → Nat} {A : Nat → Prop} {D : va_G} {l : Launch}
def f_Wlk_branchFor_L18 : Nat → zS → Int32 → Int32 → Int32 → Option (Int32)
  | 0, _, _, _, _ => none
  | n + 1, S, x2, x3, x4 =>
    if x4 ≤ 0 then
      some (-1)
    else
      if x3 = (-1) then
        some (-1)
      else
        zbind (f_Nod_edge S x3) fun v5 =>
        if v5 = (-1) then
          some x3
        else
          if ¬ (f_Par_label S v5) = x2 then
            zbind (f_Nod_nextBranch S x3) fun v8 =>
            f_Wlk_branchFor_L18 n S x2 v8 (x4 + (-1))
          else
            some x3
def f_Wlk_branchFor (S : zS) (a1 : Int32) (a2 : Int32) : Option (Int32) :=
  zbind (f_Nod_firstBranch S a1) fun v1 =>
  zbind (f_Nod_size S) fun v2 =>
  f_Wlk_branchFor_L18 zbig S a2 v1 v2
set_option maxHeartbeats 1000000 in
set_option maxRecDepth 20000 in
theorem c_Wlk_branchFor (S : zS) (a1 : Int32) (a2 : Int32) : ∀ r, f_Wlk_branchFor S a1 a2 = some r → zMet l y_Wlk_branchFor (zw y_Wlk_branchFor prog_11_method_5_code 6 (some Jvm.ClassFile.FieldType.int)) 2 42 [.ref (G 8), .int a1, .int a2] D zcl (ztys cA) A (zRep D cA G A) zfc zfs S ((zFp S) r) := by
  intro r hr
  refine zMet_of ⟨Nat.le_refl _, Nat.le_refl _⟩ (by decide) tk_Wlk_branchFor (Nat.le_of_ble_eq_true rfl) ?_
  intro p e R s m args below meth c hf hlo C0 hK hA
  have lp18 : ∀ (n : Nat) (x2 : Int32) (x3 : Int32) (x4 : Int32), zSO p l e R s m args below meth c 6 A D cA G S 18 [(0, .ref (G 8)), (2, .int x2), (3, .int x3), (4, .int x4)] [] (zFp S) (f_Wlk_branchFor_L18 n S x2 x3 x4) := by
    intro n
    induction n with
    | zero =>
      intro x2 x3 x4
      rw [f_Wlk_branchFor_L18]
      exact so_none
    | succ n ih18 =>
      intro x2 x3 x4
      rw [f_Wlk_branchFor_L18]
      refine so_go C0 1 (pc' := 20) (lv' := [(0, .ref (G 8)), (2, .int x2), (3, .int x3), (4, .int x4)]) (st' := [.int x4]) rfl ?_
      refine so_if_le C0 rfl (fun h3 => ?_) (fun h3 => ?_)
      · refine so_go C0 1 (pc' := 75) (lv' := [(0, .ref (G 8)), (2, .int x2), (3, .int x3), (4, .int x4)]) (st' := [.int (-1)]) rfl ?_
        exact so_reti C0 rfl rfl
      · refine so_go C0 2 (pc' := 25) (lv' := [(0, .ref (G 8)), (2, .int x2), (3, .int x3), (4, .int x4)]) (st' := [.int (-1), .int x3]) rfl ?_
        refine so_icmp_eq C0 rfl (fun h4 => ?_) (fun h4 => ?_)
        · refine so_go C0 1 (pc' := 75) (lv' := [(0, .ref (G 8)), (2, .int x2), (3, .int x3), (4, .int x4)]) (st' := [.int (-1)]) rfl ?_
          exact so_reti C0 rfl rfl
        · refine so_go C0 1 (pc' := 29) (lv' := [(0, .ref (G 8)), (2, .int x2), (3, .int x3), (4, .int x4)]) (st' := [.ref (G 8)]) rfl ?_
          refine so_getf C0 hK (o := 8) (j := 2) (v := .ref (G 6)) (by decide) rfl i_Wlk (by decide) wd_2_37 rfl rfl ?_
          refine so_go C0 1 (pc' := 33) (lv' := [(0, .ref (G 8)), (2, .int x2), (3, .int x3), (4, .int x4)]) (st' := [.int x3, .ref (G 6)]) rfl ?_
          refine so_cp (As := [.int x3]) (rest := []) C0 hK hA yk_Nod_edge (c_Nod_edge S x3) wd_4_166 rfl rfl ⟨by rw [hf]; decide, by rw [hlo]; decide⟩ (Nat.le_of_ble_eq_true rfl) (zrc_obj (o := 6) hK (by decide) rfl) ?_
          refine so_nm (V := .int) (fun v5 hv5 => ?_)
          refine so_go C0 3 (pc' := 41) (lv' := [(0, .ref (G 8)), (2, .int x2), (3, .int x3), (4, .int x4), (5, .int v5)]) (st' := [.int (-1), .int v5]) rfl ?_
          refine so_icmp_eq C0 rfl (fun h6 => ?_) (fun h6 => ?_)
          · refine so_go C0 1 (pc' := 58) (lv' := [(0, .ref (G 8)), (2, .int x2), (3, .int x3), (4, .int x4), (5, .int v5)]) (st' := [.int x3]) rfl ?_
            exact so_reti C0 rfl rfl
          · refine so_go C0 1 (pc' := 45) (lv' := [(0, .ref (G 8)), (2, .int x2), (3, .int x3), (4, .int x4), (5, .int v5)]) (st' := [.ref (G 8)]) rfl ?_
            refine so_getf C0 hK (o := 8) (j := 1) (v := .ref (G 5)) (by decide) rfl i_Wlk (by decide) wd_2_36 rfl rfl ?_
            refine so_go C0 1 (pc' := 50) (lv' := [(0, .ref (G 8)), (2, .int x2), (3, .int x3), (4, .int x4), (5, .int v5)]) (st' := [.int v5, .ref (G 5)]) rfl ?_
            refine so_cp (As := [.int v5]) (rest := []) C0 hK hA yk_Par_label (c_Par_label S v5) wd_4_157 rfl rfl ⟨by rw [hf]; decide, by rw [hlo]; decide⟩ (Nat.le_of_ble_eq_true rfl) (zrc_obj (o := 5) hK (by decide) rfl) ?_
            refine so_go C0 1 (pc' := 54) (lv' := [(0, .ref (G 8)), (2, .int x2), (3, .int x3), (4, .int x4), (5, .int v5)]) (st' := [.int x2, .int (f_Par_label S v5)]) rfl ?_
            refine so_icmp_ne C0 rfl (fun h7 => ?_) (fun h7 => ?_)
            · refine so_go C0 1 (pc' := 60) (lv' := [(0, .ref (G 8)), (2, .int x2), (3, .int x3), (4, .int x4), (5, .int v5)]) (st' := [.ref (G 8)]) rfl ?_
              refine so_getf C0 hK (o := 8) (j := 2) (v := .ref (G 6)) (by decide) rfl i_Wlk (by decide) wd_2_37 rfl rfl ?_
              refine so_go C0 1 (pc' := 64) (lv' := [(0, .ref (G 8)), (2, .int x2), (3, .int x3), (4, .int x4), (5, .int v5)]) (st' := [.int x3, .ref (G 6)]) rfl ?_
              refine so_cp (As := [.int x3]) (rest := []) C0 hK hA yk_Nod_nextBranch (c_Nod_nextBranch S x3) wd_4_167 rfl rfl ⟨by rw [hf]; decide, by rw [hlo]; decide⟩ (Nat.le_of_ble_eq_true rfl) (zrc_obj (o := 6) hK (by decide) rfl) ?_
              refine so_nm (V := .int) (fun v8 hv8 => ?_)
              refine so_go C0 3 (pc' := 18) (lv' := [(0, .ref (G 8)), (2, .int x2), (3, .int v8), (4, .int (x4 + (-1))), (5, .int v5)]) (st' := []) rfl ?_
              exact so_sub (lv' := [(0, .ref (G 8)), (2, .int x2), (3, .int v8), (4, .int (x4 + (-1)))]) (zpk [0, 1, 2, 3] rfl) (ih18 x2 v8 (x4 + (-1)))
            · refine so_go C0 1 (pc' := 58) (lv' := [(0, .ref (G 8)), (2, .int x2), (3, .int x3), (4, .int x4), (5, .int v5)]) (st' := [.int x3]) rfl ?_
              exact so_reti C0 rfl rfl
  have K : zSO p l e R s m args below meth c 6 A D cA G S 0 (lv_args 0 [.ref (G 8), .int a1, .int a2]) [] (zFp S) (f_Wlk_branchFor S a1 a2) := by
    unfold f_Wlk_branchFor
    refine so_go C0 1 (pc' := 1) (lv' := [(0, .ref (G 8)), (1, .int a1), (2, .int a2)]) (st' := [.ref (G 8)]) rfl ?_
    refine so_getf C0 hK (o := 8) (j := 2) (v := .ref (G 6)) (by decide) rfl i_Wlk (by decide) wd_2_37 rfl rfl ?_
    refine so_go C0 1 (pc' := 5) (lv' := [(0, .ref (G 8)), (1, .int a1), (2, .int a2)]) (st' := [.int a1, .ref (G 6)]) rfl ?_
    refine so_cp (As := [.int a1]) (rest := []) C0 hK hA yk_Nod_firstBranch (c_Nod_firstBranch S a1) wd_4_165 rfl rfl ⟨by rw [hf]; decide, by rw [hlo]; decide⟩ (Nat.le_of_ble_eq_true rfl) (zrc_obj (o := 6) hK (by decide) rfl) ?_
    refine so_nm (V := .int) (fun v1 hv1 => ?_)
    refine so_go C0 2 (pc' := 10) (lv' := [(0, .ref (G 8)), (1, .int a1), (2, .int a2), (3, .int v1)]) (st' := [.ref (G 8)]) rfl ?_
    refine so_getf C0 hK (o := 8) (j := 2) (v := .ref (G 6)) (by decide) rfl i_Wlk (by decide) wd_2_37 rfl rfl ?_
    refine so_cp (As := []) (rest := []) C0 hK hA yk_Nod_size (c_Nod_size S) wd_4_129 rfl rfl ⟨by rw [hf]; decide, by rw [hlo]; decide⟩ (Nat.le_of_ble_eq_true rfl) (zrc_obj (o := 6) hK (by decide) rfl) ?_
    refine so_nm (V := .int) (fun v2 hv2 => ?_)
    refine so_go C0 1 (pc' := 18) (lv' := [(0, .ref (G 8)), (1, .int a1), (2, .int a2), (3, .int v1), (4, .int v2)]) (st' := []) rfl ?_
    exact so_sub (lv' := [(0, .ref (G 8)), (2, .int a2), (3, .int v1), (4, .int v2)]) (zpk [0, 2, 3, 4] rfl) (lp18 zbig a2 v1 v2)
  exact K r hr
def f_Wlk_sameArguments (S : zS) (a1 : Int32) (a2 : Int32) : Int32 :=
  if ¬ (f_Pat_argument S a1) = (-1) then
    if ¬ (f_Par_child S a2) = (-1) then
      1
    else
      0
  else
    if ¬ (f_Par_child S a2) = (-1) then
      0
    else
      1
set_option maxHeartbeats 1000000 in
set_option maxRecDepth 20000 in
theorem c_Wlk_sameArguments (S : zS) (a1 : Int32) (a2 : Int32) : zMet l y_Wlk_sameArguments (zw y_Wlk_sameArguments prog_11_method_6_code 3 (some Jvm.ClassFile.FieldType.boolean)) 2 43 [.ref (G 8), .int a1, .int a2] D zcl (ztys cA) A (zRep D cA G A) zfc zfs S ((zFp S) (f_Wlk_sameArguments S a1 a2)) := by
  refine zMet_of ⟨Nat.le_refl _, Nat.le_refl _⟩ (by decide) tk_Wlk_sameArguments (Nat.le_of_ble_eq_true rfl) ?_
  intro p e R s m args below meth c hf hlo C0 hK hA
  unfold f_Wlk_sameArguments
  refine sw_go C0 1 (pc' := 1) (lv' := [(0, .ref (G 8)), (1, .int a1), (2, .int a2)]) (st' := [.ref (G 8)]) rfl ?_
  refine sw_getf C0 hK (o := 8) (j := 0) (v := .ref (G 2)) (by decide) rfl i_Wlk (by decide) wd_2_35 rfl rfl ?_
  refine sw_go C0 1 (pc' := 5) (lv' := [(0, .ref (G 8)), (1, .int a1), (2, .int a2)]) (st' := [.int a1, .ref (G 2)]) rfl ?_
  refine sw_cp (As := [.int a1]) (rest := []) C0 hK hA yk_Pat_argument (c_Pat_argument S a1) wd_4_160 rfl rfl ⟨by rw [hf]; decide, by rw [hlo]; decide⟩ (Nat.le_of_ble_eq_true rfl) (zrc_obj (o := 2) hK (by decide) rfl) ?_
  refine sw_go C0 1 (pc' := 9) (lv' := [(0, .ref (G 8)), (1, .int a1), (2, .int a2)]) (st' := [.int (-1), .int (f_Pat_argument S a1)]) rfl ?_
  refine sw_icmp_ne (zFp S) C0 rfl (fun h1 => ?_) (fun h1 => ?_)
  · refine sw_go C0 2 (pc' := 18) (lv' := [(0, .ref (G 8)), (1, .int a1), (2, .int a2)]) (st' := [.ref (G 8), .int 0]) rfl ?_
    refine sw_getf C0 hK (o := 8) (j := 1) (v := .ref (G 5)) (by decide) rfl i_Wlk (by decide) wd_2_36 rfl rfl ?_
    refine sw_go C0 1 (pc' := 22) (lv' := [(0, .ref (G 8)), (1, .int a1), (2, .int a2)]) (st' := [.int a2, .ref (G 5), .int 0]) rfl ?_
    refine sw_cp (As := [.int a2]) (rest := [.int 0]) C0 hK hA yk_Par_child (c_Par_child S a2) wd_4_172 rfl rfl ⟨by rw [hf]; decide, by rw [hlo]; decide⟩ (Nat.le_of_ble_eq_true rfl) (zrc_obj (o := 5) hK (by decide) rfl) ?_
    refine sw_go C0 1 (pc' := 26) (lv' := [(0, .ref (G 8)), (1, .int a1), (2, .int a2)]) (st' := [.int (-1), .int (f_Par_child S a2), .int 0]) rfl ?_
    refine sw_icmp_ne (zFp S) C0 rfl (fun h2 => ?_) (fun h2 => ?_)
    · refine sw_go C0 1 (pc' := 34) (lv' := [(0, .ref (G 8)), (1, .int a1), (2, .int a2)]) (st' := [.int 0, .int 0]) rfl ?_
      refine sw_icmp_neF C0 rfl (by decide) ?_
      refine sw_go C0 2 (pc' := 42) (lv' := [(0, .ref (G 8)), (1, .int a1), (2, .int a2)]) (st' := [.int 1]) rfl ?_
      exact sw_retz C0 rfl rfl rfl
    · refine sw_go C0 2 (pc' := 34) (lv' := [(0, .ref (G 8)), (1, .int a1), (2, .int a2)]) (st' := [.int 1, .int 0]) rfl ?_
      refine sw_icmp_neT C0 rfl (by decide) ?_
      refine sw_go C0 1 (pc' := 42) (lv' := [(0, .ref (G 8)), (1, .int a1), (2, .int a2)]) (st' := [.int 0]) rfl ?_
      exact sw_retz C0 rfl rfl rfl
  · refine sw_go C0 3 (pc' := 18) (lv' := [(0, .ref (G 8)), (1, .int a1), (2, .int a2)]) (st' := [.ref (G 8), .int 1]) rfl ?_
    refine sw_getf C0 hK (o := 8) (j := 1) (v := .ref (G 5)) (by decide) rfl i_Wlk (by decide) wd_2_36 rfl rfl ?_
    refine sw_go C0 1 (pc' := 22) (lv' := [(0, .ref (G 8)), (1, .int a1), (2, .int a2)]) (st' := [.int a2, .ref (G 5), .int 1]) rfl ?_
    refine sw_cp (As := [.int a2]) (rest := [.int 1]) C0 hK hA yk_Par_child (c_Par_child S a2) wd_4_172 rfl rfl ⟨by rw [hf]; decide, by rw [hlo]; decide⟩ (Nat.le_of_ble_eq_true rfl) (zrc_obj (o := 5) hK (by decide) rfl) ?_
    refine sw_go C0 1 (pc' := 26) (lv' := [(0, .ref (G 8)), (1, .int a1), (2, .int a2)]) (st' := [.int (-1), .int (f_Par_child S a2), .int 1]) rfl ?_
    refine sw_icmp_ne (zFp S) C0 rfl (fun h3 => ?_) (fun h3 => ?_)
    · refine sw_go C0 1 (pc' := 34) (lv' := [(0, .ref (G 8)), (1, .int a1), (2, .int a2)]) (st' := [.int 0, .int 1]) rfl ?_
      refine sw_icmp_neT C0 rfl (by decide) ?_
      refine sw_go C0 1 (pc' := 42) (lv' := [(0, .ref (G 8)), (1, .int a1), (2, .int a2)]) (st' := [.int 0]) rfl ?_
      exact sw_retz C0 rfl rfl rfl
    · refine sw_go C0 2 (pc' := 34) (lv' := [(0, .ref (G 8)), (1, .int a1), (2, .int a2)]) (st' := [.int 1, .int 1]) rfl ?_
      refine sw_icmp_neF C0 rfl (by decide) ?_
      refine sw_go C0 2 (pc' := 42) (lv' := [(0, .ref (G 8)), (1, .int a1), (2, .int a2)]) (st' := [.int 1]) rfl ?_
      exact sw_retz C0 rfl rfl rfl
def f_Wlk_inner (S : zS) (a1 : Int32) (a2 : Int32) (a3 : Int32) : Int32 :=
  if ¬ (f_Pat_shape S a1) = (f_Par_shape S a2) then
    (-1)
  else
    if (f_Pat_sort S a1) = (f_Par_sort S a2) then
      zbind (f_Par_label S (f_Par_upperEdge S a3)) fun v3 =>
      if ¬ (f_Par_shape S a2) = 4 then
        if ¬ (f_Pat_mark S a1) = v3 then
          (-1)
        else
          (f_Pat_argument S a1)
      else
        (f_Pat_fieldPattern S a1 v3)
    else
      (-1)
set_option maxHeartbeats 1000000 in
set_option maxRecDepth 20000 in
theorem c_Wlk_inner (S : zS) (a1 : Int32) (a2 : Int32) (a3 : Int32) : zMet l y_Wlk_inner (zw y_Wlk_inner prog_11_method_8_code 5 (some Jvm.ClassFile.FieldType.int)) 2 43 [.ref (G 8), .int a1, .int a2, .int a3] D zcl (ztys cA) A (zRep D cA G A) zfc zfs S ((zFp S) (f_Wlk_inner S a1 a2 a3)) := by
  refine zMet_of ⟨Nat.le_refl _, Nat.le_refl _⟩ (by decide) tk_Wlk_inner (Nat.le_of_ble_eq_true rfl) ?_
  intro p e R s m args below meth c hf hlo C0 hK hA
  unfold f_Wlk_inner
  refine sw_go C0 1 (pc' := 1) (lv' := [(0, .ref (G 8)), (1, .int a1), (2, .int a2), (3, .int a3)]) (st' := [.ref (G 8)]) rfl ?_
  refine sw_getf C0 hK (o := 8) (j := 0) (v := .ref (G 2)) (by decide) rfl i_Wlk (by decide) wd_2_35 rfl rfl ?_
  refine sw_go C0 1 (pc' := 5) (lv' := [(0, .ref (G 8)), (1, .int a1), (2, .int a2), (3, .int a3)]) (st' := [.int a1, .ref (G 2)]) rfl ?_
  refine sw_cp (As := [.int a1]) (rest := []) C0 hK hA yk_Pat_shape (c_Pat_shape S a1) wd_4_149 rfl rfl ⟨by rw [hf]; decide, by rw [hlo]; decide⟩ (Nat.le_of_ble_eq_true rfl) (zrc_obj (o := 2) hK (by decide) rfl) ?_
  refine sw_go C0 1 (pc' := 9) (lv' := [(0, .ref (G 8)), (1, .int a1), (2, .int a2), (3, .int a3)]) (st' := [.ref (G 8), .int (f_Pat_shape S a1)]) rfl ?_
  refine sw_getf C0 hK (o := 8) (j := 1) (v := .ref (G 5)) (by decide) rfl i_Wlk (by decide) wd_2_36 rfl rfl ?_
  refine sw_go C0 1 (pc' := 13) (lv' := [(0, .ref (G 8)), (1, .int a1), (2, .int a2), (3, .int a3)]) (st' := [.int a2, .ref (G 5), .int (f_Pat_shape S a1)]) rfl ?_
  refine sw_cp (As := [.int a2]) (rest := [.int (f_Pat_shape S a1)]) C0 hK hA yk_Par_shape (c_Par_shape S a2) wd_4_150 rfl rfl ⟨by rw [hf]; decide, by rw [hlo]; decide⟩ (Nat.le_of_ble_eq_true rfl) (zrc_obj (o := 5) hK (by decide) rfl) ?_
  refine sw_icmp_ne (zFp S) C0 rfl (fun h1 => ?_) (fun h1 => ?_)
  · refine sw_go C0 1 (pc' := 39) (lv' := [(0, .ref (G 8)), (1, .int a1), (2, .int a2), (3, .int a3)]) (st' := [.int (-1)]) rfl ?_
    exact sw_reti C0 rfl rfl
  · refine sw_go C0 1 (pc' := 20) (lv' := [(0, .ref (G 8)), (1, .int a1), (2, .int a2), (3, .int a3)]) (st' := [.ref (G 8)]) rfl ?_
    refine sw_getf C0 hK (o := 8) (j := 0) (v := .ref (G 2)) (by decide) rfl i_Wlk (by decide) wd_2_35 rfl rfl ?_
    refine sw_go C0 1 (pc' := 24) (lv' := [(0, .ref (G 8)), (1, .int a1), (2, .int a2), (3, .int a3)]) (st' := [.int a1, .ref (G 2)]) rfl ?_
    refine sw_cp (As := [.int a1]) (rest := []) C0 hK hA yk_Pat_sort (c_Pat_sort S a1) wd_4_151 rfl rfl ⟨by rw [hf]; decide, by rw [hlo]; decide⟩ (Nat.le_of_ble_eq_true rfl) (zrc_obj (o := 2) hK (by decide) rfl) ?_
    refine sw_go C0 1 (pc' := 28) (lv' := [(0, .ref (G 8)), (1, .int a1), (2, .int a2), (3, .int a3)]) (st' := [.ref (G 8), .int (f_Pat_sort S a1)]) rfl ?_
    refine sw_getf C0 hK (o := 8) (j := 1) (v := .ref (G 5)) (by decide) rfl i_Wlk (by decide) wd_2_36 rfl rfl ?_
    refine sw_go C0 1 (pc' := 32) (lv' := [(0, .ref (G 8)), (1, .int a1), (2, .int a2), (3, .int a3)]) (st' := [.int a2, .ref (G 5), .int (f_Pat_sort S a1)]) rfl ?_
    refine sw_cp (As := [.int a2]) (rest := [.int (f_Pat_sort S a1)]) C0 hK hA yk_Par_sort (c_Par_sort S a2) wd_4_152 rfl rfl ⟨by rw [hf]; decide, by rw [hlo]; decide⟩ (Nat.le_of_ble_eq_true rfl) (zrc_obj (o := 5) hK (by decide) rfl) ?_
    refine sw_icmp_eq (zFp S) C0 rfl (fun h2 => ?_) (fun h2 => ?_)
    · refine sw_go C0 1 (pc' := 41) (lv' := [(0, .ref (G 8)), (1, .int a1), (2, .int a2), (3, .int a3)]) (st' := [.ref (G 8)]) rfl ?_
      refine sw_getf C0 hK (o := 8) (j := 1) (v := .ref (G 5)) (by decide) rfl i_Wlk (by decide) wd_2_36 rfl rfl ?_
      refine sw_go C0 1 (pc' := 45) (lv' := [(0, .ref (G 8)), (1, .int a1), (2, .int a2), (3, .int a3)]) (st' := [.ref (G 8), .ref (G 5)]) rfl ?_
      refine sw_getf C0 hK (o := 8) (j := 1) (v := .ref (G 5)) (by decide) rfl i_Wlk (by decide) wd_2_36 rfl rfl ?_
      refine sw_go C0 1 (pc' := 49) (lv' := [(0, .ref (G 8)), (1, .int a1), (2, .int a2), (3, .int a3)]) (st' := [.int a3, .ref (G 5), .ref (G 5)]) rfl ?_
      refine sw_cp (As := [.int a3]) (rest := [.ref (G 5)]) C0 hK hA yk_Par_upperEdge (c_Par_upperEdge S a3) wd_4_153 rfl rfl ⟨by rw [hf]; decide, by rw [hlo]; decide⟩ (Nat.le_of_ble_eq_true rfl) (zrc_obj (o := 5) hK (by decide) rfl) ?_
      refine sw_cp (As := [.int (f_Par_upperEdge S a3)]) (rest := []) C0 hK hA yk_Par_label (c_Par_label S (f_Par_upperEdge S a3)) wd_4_157 rfl rfl ⟨by rw [hf]; decide, by rw [hlo]; decide⟩ (Nat.le_of_ble_eq_true rfl) (zrc_obj (o := 5) hK (by decide) rfl) ?_
      refine sw_nm (zFp S) (V := .int) (fun v3 hv3 => ?_)
      refine sw_go C0 2 (pc' := 58) (lv' := [(0, .ref (G 8)), (1, .int a1), (2, .int a2), (3, .int a3), (4, .int v3)]) (st' := [.ref (G 8)]) rfl ?_
      refine sw_getf C0 hK (o := 8) (j := 1) (v := .ref (G 5)) (by decide) rfl i_Wlk (by decide) wd_2_36 rfl rfl ?_
      refine sw_go C0 1 (pc' := 62) (lv' := [(0, .ref (G 8)), (1, .int a1), (2, .int a2), (3, .int a3), (4, .int v3)]) (st' := [.int a2, .ref (G 5)]) rfl ?_
      refine sw_cp (As := [.int a2]) (rest := []) C0 hK hA yk_Par_shape (c_Par_shape S a2) wd_4_150 rfl rfl ⟨by rw [hf]; decide, by rw [hlo]; decide⟩ (Nat.le_of_ble_eq_true rfl) (zrc_obj (o := 5) hK (by decide) rfl) ?_
      refine sw_go C0 1 (pc' := 66) (lv' := [(0, .ref (G 8)), (1, .int a1), (2, .int a2), (3, .int a3), (4, .int v3)]) (st' := [.int 4, .int (f_Par_shape S a2)]) rfl ?_
      refine sw_icmp_ne (zFp S) C0 rfl (fun h4 => ?_) (fun h4 => ?_)
      · refine sw_go C0 1 (pc' := 81) (lv' := [(0, .ref (G 8)), (1, .int a1), (2, .int a2), (3, .int a3), (4, .int v3)]) (st' := [.ref (G 8)]) rfl ?_
        refine sw_getf C0 hK (o := 8) (j := 0) (v := .ref (G 2)) (by decide) rfl i_Wlk (by decide) wd_2_35 rfl rfl ?_
        refine sw_go C0 1 (pc' := 85) (lv' := [(0, .ref (G 8)), (1, .int a1), (2, .int a2), (3, .int a3), (4, .int v3)]) (st' := [.int a1, .ref (G 2)]) rfl ?_
        refine sw_cp (As := [.int a1]) (rest := []) C0 hK hA yk_Pat_mark (c_Pat_mark S a1) wd_4_159 rfl rfl ⟨by rw [hf]; decide, by rw [hlo]; decide⟩ (Nat.le_of_ble_eq_true rfl) (zrc_obj (o := 2) hK (by decide) rfl) ?_
        refine sw_go C0 1 (pc' := 90) (lv' := [(0, .ref (G 8)), (1, .int a1), (2, .int a2), (3, .int a3), (4, .int v3)]) (st' := [.int v3, .int (f_Pat_mark S a1)]) rfl ?_
        refine sw_icmp_ne (zFp S) C0 rfl (fun h5 => ?_) (fun h5 => ?_)
        · refine sw_go C0 1 (pc' := 105) (lv' := [(0, .ref (G 8)), (1, .int a1), (2, .int a2), (3, .int a3), (4, .int v3)]) (st' := [.int (-1)]) rfl ?_
          exact sw_reti C0 rfl rfl
        · refine sw_go C0 1 (pc' := 94) (lv' := [(0, .ref (G 8)), (1, .int a1), (2, .int a2), (3, .int a3), (4, .int v3)]) (st' := [.ref (G 8)]) rfl ?_
          refine sw_getf C0 hK (o := 8) (j := 0) (v := .ref (G 2)) (by decide) rfl i_Wlk (by decide) wd_2_35 rfl rfl ?_
          refine sw_go C0 1 (pc' := 98) (lv' := [(0, .ref (G 8)), (1, .int a1), (2, .int a2), (3, .int a3), (4, .int v3)]) (st' := [.int a1, .ref (G 2)]) rfl ?_
          refine sw_cp (As := [.int a1]) (rest := []) C0 hK hA yk_Pat_argument (c_Pat_argument S a1) wd_4_160 rfl rfl ⟨by rw [hf]; decide, by rw [hlo]; decide⟩ (Nat.le_of_ble_eq_true rfl) (zrc_obj (o := 2) hK (by decide) rfl) ?_
          refine sw_go C0 1 (pc' := 105) (lv' := [(0, .ref (G 8)), (1, .int a1), (2, .int a2), (3, .int a3), (4, .int v3)]) (st' := [.int (f_Pat_argument S a1)]) rfl ?_
          exact sw_reti C0 rfl rfl
      · refine sw_go C0 1 (pc' := 70) (lv' := [(0, .ref (G 8)), (1, .int a1), (2, .int a2), (3, .int a3), (4, .int v3)]) (st' := [.ref (G 8)]) rfl ?_
        refine sw_getf C0 hK (o := 8) (j := 0) (v := .ref (G 2)) (by decide) rfl i_Wlk (by decide) wd_2_35 rfl rfl ?_
        refine sw_go C0 2 (pc' := 76) (lv' := [(0, .ref (G 8)), (1, .int a1), (2, .int a2), (3, .int a3), (4, .int v3)]) (st' := [.int v3, .int a1, .ref (G 2)]) rfl ?_
        refine sw_cp (As := [.int a1, .int v3]) (rest := []) C0 hK hA yk_Pat_fieldPattern (c_Pat_fieldPattern S a1 v3) wd_4_158 rfl rfl ⟨by rw [hf]; decide, by rw [hlo]; decide⟩ (Nat.le_of_ble_eq_true rfl) (zrc_obj (o := 2) hK (by decide) rfl) ?_
        exact sw_reti C0 rfl rfl
    · refine sw_go C0 1 (pc' := 39) (lv' := [(0, .ref (G 8)), (1, .int a1), (2, .int a2), (3, .int a3)]) (st' := [.int (-1)]) rfl ?_
      exact sw_reti C0 rfl rfl
def f_Wlk_valueAt_L66 : Nat → zS → Int32 → Int32 → Int32 → Option (zS × Int32)
  | 0, _, _, _, _ => none
  | n + 1, S, x1, x2, x3 =>
    if x3 ≤ 0 then
      some (S, (r_at S 39 x1))
    else
      zbind2 (r_take S 40) fun S6 v7 =>
      zbind (r_set S6 39 v7 (f_Wlk_inner S6 (r_at S6 39 x2) x2 v7)) fun S8 =>
      f_Wlk_valueAt_L66 n S8 x1 v7 (x3 + (-1))
def f_Wlk_valueAt_L17 : Nat → zS → Int32 → Int32 → Int32 → Option (zS × Int32)
  | 0, _, _, _, _ => none
  | n + 1, S, x1, x2, x3 =>
    if x3 ≤ 0 then
      zbind (r_size S 40) fun v4 =>
      f_Wlk_valueAt_L66 zbig S x1 x2 v4
    else
      if ¬ (r_at S 39 x2) = (-4) then
        zbind (r_size S 40) fun v10 =>
        f_Wlk_valueAt_L66 zbig S x1 x2 v10
      else
        zbind2 (r_add S 40 x2) fun S11 v12 =>
        zbind (f_Par_upper S11 x2) fun v13 =>
        f_Wlk_valueAt_L17 n S11 x1 v13 (x3 + (-1))
def f_Wlk_valueAt (S : zS) (a1 : Int32) : Option (zS × Int32) :=
  zbind (r_emp S 40) fun S1 =>
  zbind (f_Par_size S1) fun v2 =>
  f_Wlk_valueAt_L17 zbig S1 a1 a1 v2
theorem mo_Wlk_valueAt (S : zS) (a1 : Int32) : zmO Prod.fst S (f_Wlk_valueAt S a1) := by
  have lp66 : ∀ (n : Nat) (S : zS) (x1 : Int32) (x2 : Int32) (x3 : Int32), zmO Prod.fst S (f_Wlk_valueAt_L66 n S x1 x2 x3) := by
    intro n
    induction n with
    | zero =>
      intro S x1 x2 x3
      rw [f_Wlk_valueAt_L66]
      exact mO_0
    | succ n ih66 =>
      intro S x1 x2 x3
      rw [f_Wlk_valueAt_L66]
      exact (mO_if (g := Prod.fst) (mO_s zmo_rf) (mO_b2 (g := Prod.fst) mo_r_take fun S6 v7 => (mO_b (g := Prod.fst) mo_r_set fun S8 => (ih66 S8 x1 v7 (x3 + (-1))))))
  have lp17 : ∀ (n : Nat) (S : zS) (x1 : Int32) (x2 : Int32) (x3 : Int32), zmO Prod.fst S (f_Wlk_valueAt_L17 n S x1 x2 x3) := by
    intro n
    induction n with
    | zero =>
      intro S x1 x2 x3
      rw [f_Wlk_valueAt_L17]
      exact mO_0
    | succ n ih17 =>
      intro S x1 x2 x3
      rw [f_Wlk_valueAt_L17]
      exact (mO_if (g := Prod.fst) (mO_n (g := Prod.fst) fun v4 => (lp66 zbig S x1 x2 v4)) (mO_if (g := Prod.fst) (mO_n (g := Prod.fst) fun v10 => (lp66 zbig S x1 x2 v10)) (mO_b2 (g := Prod.fst) (r_add_mono (by decide) x2) fun S11 v12 => (mO_n (g := Prod.fst) fun v13 => (ih17 S11 x1 v13 (x3 + (-1)))))))
  unfold f_Wlk_valueAt
  exact (mO_b (g := Prod.fst) mo_r_emp fun S1 => (mO_n (g := Prod.fst) fun v2 => (lp17 zbig S1 a1 a1 v2)))
set_option maxHeartbeats 1000000 in
set_option maxRecDepth 20000 in
theorem c_Wlk_valueAt (S : zS) (a1 : Int32) : ∀ r, f_Wlk_valueAt S a1 = some r → zMet l y_Wlk_valueAt (zw y_Wlk_valueAt prog_11_method_7_code 5 (some Jvm.ClassFile.FieldType.int)) 3 83 [.ref (G 8), .int a1] D zcl (ztys cA) A (zRep D cA G A) zfc zfs S (zFi r) := by
  intro r hr
  refine zMet_of (mo_Fi (mo_Wlk_valueAt S a1 r hr)) (by decide) tk_Wlk_valueAt (Nat.le_of_ble_eq_true rfl) ?_
  intro p e R s m args below meth c hf hlo C0 hK hA
  have lp66 : ∀ (n : Nat) (S : zS) (x1 : Int32) (x2 : Int32) (x3 : Int32), zSO p l e R s m args below meth c 5 A D cA G S 66 [(0, .ref (G 8)), (1, .int x1), (2, .int x2), (3, .int x3)] [] zFi (f_Wlk_valueAt_L66 n S x1 x2 x3) := by
    intro n
    induction n with
    | zero =>
      intro S x1 x2 x3
      rw [f_Wlk_valueAt_L66]
      exact so_none
    | succ n ih66 =>
      intro S x1 x2 x3
      rw [f_Wlk_valueAt_L66]
      refine so_go C0 1 (pc' := 67) (lv' := [(0, .ref (G 8)), (1, .int x1), (2, .int x2), (3, .int x3)]) (st' := [.int x3]) rfl ?_
      refine so_if_le C0 rfl (fun h5 => ?_) (fun h5 => ?_)
      · refine so_go C0 1 (pc' := 113) (lv' := [(0, .ref (G 8)), (1, .int x1), (2, .int x2), (3, .int x3)]) (st' := [.ref (G 8)]) rfl ?_
        refine so_getf C0 hK (o := 8) (j := 3) (v := .ref (G 50)) (by decide) rfl i_Wlk (by decide) wd_2_38 rfl rfl ?_
        refine so_go C0 1 (pc' := 117) (lv' := [(0, .ref (G 8)), (1, .int x1), (2, .int x2), (3, .int x3)]) (st' := [.int x1, .ref (G 50)]) rfl ?_
        refine so_cp (As := [.int x1]) (rest := []) C0 hK hA yk_Row_at (c_Row_at 39 (by decide) x1) wd_4_140 rfl rfl ⟨by rw [hf]; decide, by rw [hlo]; decide⟩ (Nat.le_of_ble_eq_true rfl) (zrc_row (k := 39) hK (by decide)) ?_
        exact so_reti C0 rfl rfl
      · refine so_go C0 1 (pc' := 71) (lv' := [(0, .ref (G 8)), (1, .int x1), (2, .int x2), (3, .int x3)]) (st' := [.ref (G 8)]) rfl ?_
        refine so_getf C0 hK (o := 8) (j := 4) (v := .ref (G 51)) (by decide) rfl i_Wlk (by decide) wd_2_39 rfl rfl ?_
        refine so_ci (As := []) (rest := []) C0 hK hA yk_Row_take (c_Row_take 40 (by decide)) wd_4_144 rfl rfl ⟨by rw [hf]; decide, by rw [hlo]; decide⟩ (Nat.le_of_ble_eq_true rfl) (zrc_row (k := 40) hK (by decide)) (fun S6 v7 hv7 => ?_)
        refine so_go C0 2 (pc' := 80) (lv' := [(0, .ref (G 8)), (1, .int x1), (2, .int x2), (3, .int x3), (4, .int v7)]) (st' := [.ref (G 8)]) rfl ?_
        refine so_getf C0 hK (o := 8) (j := 3) (v := .ref (G 50)) (by decide) rfl i_Wlk (by decide) wd_2_38 rfl rfl ?_
        refine so_go C0 3 (pc' := 87) (lv' := [(0, .ref (G 8)), (1, .int x1), (2, .int x2), (3, .int x3), (4, .int v7)]) (st' := [.ref (G 8), .ref (G 8), .int v7, .ref (G 50)]) rfl ?_
        refine so_getf C0 hK (o := 8) (j := 3) (v := .ref (G 50)) (by decide) rfl i_Wlk (by decide) wd_2_38 rfl rfl ?_
        refine so_go C0 1 (pc' := 91) (lv' := [(0, .ref (G 8)), (1, .int x1), (2, .int x2), (3, .int x3), (4, .int v7)]) (st' := [.int x2, .ref (G 50), .ref (G 8), .int v7, .ref (G 50)]) rfl ?_
        refine so_cp (As := [.int x2]) (rest := [.ref (G 8), .int v7, .ref (G 50)]) C0 hK hA yk_Row_at (c_Row_at 39 (by decide) x2) wd_4_140 rfl rfl ⟨by rw [hf]; decide, by rw [hlo]; decide⟩ (Nat.le_of_ble_eq_true rfl) (zrc_row (k := 39) hK (by decide)) ?_
        refine so_go C0 2 (pc' := 97) (lv' := [(0, .ref (G 8)), (1, .int x1), (2, .int x2), (3, .int x3), (4, .int v7)]) (st' := [.int v7, .int x2, .int (r_at S6 39 x2), .ref (G 8), .int v7, .ref (G 50)]) rfl ?_
        refine so_cp (As := [.int (r_at S6 39 x2), .int x2, .int v7]) (rest := [.int v7, .ref (G 50)]) C0 hK hA yk_Wlk_inner (c_Wlk_inner S6 (r_at S6 39 x2) x2 v7) wd_4_145 rfl rfl ⟨by rw [hf]; decide, by rw [hlo]; decide⟩ (Nat.le_of_ble_eq_true rfl) (zrc_obj (o := 8) hK (by decide) rfl) ?_
        refine so_cV (As := [.int v7, .int (f_Wlk_inner S6 (r_at S6 39 x2) x2 v7)]) (rest := []) C0 hK hA yk_Row_set (c_Row_set 39 (by decide) v7 (f_Wlk_inner S6 (r_at S6 39 x2) x2 v7)) wd_4_128 rfl rfl ⟨by rw [hf]; decide, by rw [hlo]; decide⟩ (Nat.le_of_ble_eq_true rfl) (zrc_row (k := 39) hK (by decide)) (fun S8 hS8 => ?_)
        refine so_go C0 4 (pc' := 66) (lv' := [(0, .ref (G 8)), (1, .int x1), (2, .int v7), (3, .int (x3 + (-1))), (4, .int v7)]) (st' := []) rfl ?_
        exact so_sub (lv' := [(0, .ref (G 8)), (1, .int x1), (2, .int v7), (3, .int (x3 + (-1)))]) (zpk [0, 1, 2, 3] rfl) (ih66 S8 x1 v7 (x3 + (-1)))
  have lp17 : ∀ (n : Nat) (S : zS) (x1 : Int32) (x2 : Int32) (x3 : Int32), zSO p l e R s m args below meth c 5 A D cA G S 17 [(0, .ref (G 8)), (1, .int x1), (2, .int x2), (3, .int x3)] [] zFi (f_Wlk_valueAt_L17 n S x1 x2 x3) := by
    intro n
    induction n with
    | zero =>
      intro S x1 x2 x3
      rw [f_Wlk_valueAt_L17]
      exact so_none
    | succ n ih17 =>
      intro S x1 x2 x3
      rw [f_Wlk_valueAt_L17]
      refine so_go C0 1 (pc' := 18) (lv' := [(0, .ref (G 8)), (1, .int x1), (2, .int x2), (3, .int x3)]) (st' := [.int x3]) rfl ?_
      refine so_if_le C0 rfl (fun h3 => ?_) (fun h3 => ?_)
      · refine so_go C0 1 (pc' := 59) (lv' := [(0, .ref (G 8)), (1, .int x1), (2, .int x2), (3, .int x3)]) (st' := [.ref (G 8)]) rfl ?_
        refine so_getf C0 hK (o := 8) (j := 4) (v := .ref (G 51)) (by decide) rfl i_Wlk (by decide) wd_2_39 rfl rfl ?_
        refine so_cp (As := []) (rest := []) C0 hK hA yk_Row_size (c_Row_size 40 (by decide)) wd_4_143 rfl rfl ⟨by rw [hf]; decide, by rw [hlo]; decide⟩ (Nat.le_of_ble_eq_true rfl) (zrc_row (k := 40) hK (by decide)) ?_
        refine so_nm (V := .int) (fun v4 hv4 => ?_)
        refine so_go C0 1 (pc' := 66) (lv' := [(0, .ref (G 8)), (1, .int x1), (2, .int x2), (3, .int v4)]) (st' := []) rfl ?_
        exact so_sub (lv' := [(0, .ref (G 8)), (1, .int x1), (2, .int x2), (3, .int v4)]) (zpk [0, 1, 2, 3] rfl) (lp66 zbig S x1 x2 v4)
      · refine so_go C0 1 (pc' := 22) (lv' := [(0, .ref (G 8)), (1, .int x1), (2, .int x2), (3, .int x3)]) (st' := [.ref (G 8)]) rfl ?_
        refine so_getf C0 hK (o := 8) (j := 3) (v := .ref (G 50)) (by decide) rfl i_Wlk (by decide) wd_2_38 rfl rfl ?_
        refine so_go C0 1 (pc' := 26) (lv' := [(0, .ref (G 8)), (1, .int x1), (2, .int x2), (3, .int x3)]) (st' := [.int x2, .ref (G 50)]) rfl ?_
        refine so_cp (As := [.int x2]) (rest := []) C0 hK hA yk_Row_at (c_Row_at 39 (by decide) x2) wd_4_140 rfl rfl ⟨by rw [hf]; decide, by rw [hlo]; decide⟩ (Nat.le_of_ble_eq_true rfl) (zrc_row (k := 39) hK (by decide)) ?_
        refine so_go C0 1 (pc' := 31) (lv' := [(0, .ref (G 8)), (1, .int x1), (2, .int x2), (3, .int x3)]) (st' := [.int (-4), .int (r_at S 39 x2)]) rfl ?_
        refine so_icmp_ne C0 rfl (fun h9 => ?_) (fun h9 => ?_)
        · refine so_go C0 1 (pc' := 59) (lv' := [(0, .ref (G 8)), (1, .int x1), (2, .int x2), (3, .int x3)]) (st' := [.ref (G 8)]) rfl ?_
          refine so_getf C0 hK (o := 8) (j := 4) (v := .ref (G 51)) (by decide) rfl i_Wlk (by decide) wd_2_39 rfl rfl ?_
          refine so_cp (As := []) (rest := []) C0 hK hA yk_Row_size (c_Row_size 40 (by decide)) wd_4_143 rfl rfl ⟨by rw [hf]; decide, by rw [hlo]; decide⟩ (Nat.le_of_ble_eq_true rfl) (zrc_row (k := 40) hK (by decide)) ?_
          refine so_nm (V := .int) (fun v10 hv10 => ?_)
          refine so_go C0 1 (pc' := 66) (lv' := [(0, .ref (G 8)), (1, .int x1), (2, .int x2), (3, .int v10)]) (st' := []) rfl ?_
          exact so_sub (lv' := [(0, .ref (G 8)), (1, .int x1), (2, .int x2), (3, .int v10)]) (zpk [0, 1, 2, 3] rfl) (lp66 zbig S x1 x2 v10)
        · refine so_go C0 1 (pc' := 35) (lv' := [(0, .ref (G 8)), (1, .int x1), (2, .int x2), (3, .int x3)]) (st' := [.ref (G 8)]) rfl ?_
          refine so_getf C0 hK (o := 8) (j := 4) (v := .ref (G 51)) (by decide) rfl i_Wlk (by decide) wd_2_39 rfl rfl ?_
          refine so_go C0 1 (pc' := 39) (lv' := [(0, .ref (G 8)), (1, .int x1), (2, .int x2), (3, .int x3)]) (st' := [.int x2, .ref (G 51)]) rfl ?_
          refine so_ci (As := [.int x2]) (rest := []) C0 hK hA yk_Row_add (c_Row_add 40 (by decide) x2) wd_4_141 rfl rfl ⟨by rw [hf]; decide, by rw [hlo]; decide⟩ (Nat.le_of_ble_eq_true rfl) (zrc_row (k := 40) hK (by decide)) (fun S11 v12 hv12 => ?_)
          refine so_go C0 2 (pc' := 44) (lv' := [(0, .ref (G 8)), (1, .int x1), (2, .int x2), (3, .int x3)]) (st' := [.ref (G 8)]) rfl ?_
          refine so_getf C0 hK (o := 8) (j := 1) (v := .ref (G 5)) (by decide) rfl i_Wlk (by decide) wd_2_36 rfl rfl ?_
          refine so_go C0 1 (pc' := 48) (lv' := [(0, .ref (G 8)), (1, .int x1), (2, .int x2), (3, .int x3)]) (st' := [.int x2, .ref (G 5)]) rfl ?_
          refine so_cp (As := [.int x2]) (rest := []) C0 hK hA yk_Par_upper (c_Par_upper S11 x2) wd_4_142 rfl rfl ⟨by rw [hf]; decide, by rw [hlo]; decide⟩ (Nat.le_of_ble_eq_true rfl) (zrc_obj (o := 5) hK (by decide) rfl) ?_
          refine so_nm (V := .int) (fun v13 hv13 => ?_)
          refine so_go C0 3 (pc' := 17) (lv' := [(0, .ref (G 8)), (1, .int x1), (2, .int v13), (3, .int (x3 + (-1)))]) (st' := []) rfl ?_
          exact so_sub (lv' := [(0, .ref (G 8)), (1, .int x1), (2, .int v13), (3, .int (x3 + (-1)))]) (zpk [0, 1, 2, 3] rfl) (ih17 S11 x1 v13 (x3 + (-1)))
  have K : zSO p l e R s m args below meth c 5 A D cA G S 0 (lv_args 0 [.ref (G 8), .int a1]) [] zFi (f_Wlk_valueAt S a1) := by
    unfold f_Wlk_valueAt
    refine so_go C0 1 (pc' := 1) (lv' := [(0, .ref (G 8)), (1, .int a1)]) (st' := [.ref (G 8)]) rfl ?_
    refine so_getf C0 hK (o := 8) (j := 4) (v := .ref (G 51)) (by decide) rfl i_Wlk (by decide) wd_2_39 rfl rfl ?_
    refine so_cV (As := []) (rest := []) C0 hK hA yk_Row_empty (c_Row_empty 40 (by decide)) wd_4_139 rfl rfl ⟨by rw [hf]; decide, by rw [hlo]; decide⟩ (Nat.le_of_ble_eq_true rfl) (zrc_row (k := 40) hK (by decide)) (fun S1 hS1 => ?_)
    refine so_go C0 3 (pc' := 10) (lv' := [(0, .ref (G 8)), (1, .int a1), (2, .int a1)]) (st' := [.ref (G 8)]) rfl ?_
    refine so_getf C0 hK (o := 8) (j := 1) (v := .ref (G 5)) (by decide) rfl i_Wlk (by decide) wd_2_36 rfl rfl ?_
    refine so_cp (As := []) (rest := []) C0 hK hA yk_Par_size (c_Par_size S1) wd_4_126 rfl rfl ⟨by rw [hf]; decide, by rw [hlo]; decide⟩ (Nat.le_of_ble_eq_true rfl) (zrc_obj (o := 5) hK (by decide) rfl) ?_
    refine so_nm (V := .int) (fun v2 hv2 => ?_)
    refine so_go C0 1 (pc' := 17) (lv' := [(0, .ref (G 8)), (1, .int a1), (2, .int a1), (3, .int v2)]) (st' := []) rfl ?_
    exact so_sub (lv' := [(0, .ref (G 8)), (1, .int a1), (2, .int a1), (3, .int v2)]) (zpk [0, 1, 2, 3] rfl) (lp17 zbig S1 a1 a1 v2)
  exact K r hr
def f_Wlk_branch (S : zS) (a1 : Int32) : Option (zS × Int32) :=
  zbind (f_Nod_part S a1) fun v1 =>
  zob2 (f_Wlk_valueAt S v1) fun S2 v3 =>
  if v3 = (-1) then
    some (S2, (-1))
  else
    if ¬ (f_Pat_shape S2 v3) = (f_Par_shape S2 v1) then
      some (S2, (-1))
    else
      if (f_Pat_sort S2 v3) = (f_Par_sort S2 v1) then
        zob (f_Wlk_branchFor S2 a1 (f_Pat_mark S2 v3)) fun v7 =>
        if ¬ (f_Nod_edge S2 v7) = (-1) then
          if (f_Wlk_sameArguments S2 v3 (f_Nod_edge S2 v7)) = 0 then
            some (S2, (-1))
          else
            some (S2, v7)
        else
          some (S2, v7)
      else
        some (S2, (-1))
theorem mo_Wlk_branch (S : zS) (a1 : Int32) : zmO Prod.fst S (f_Wlk_branch S a1) := by
  unfold f_Wlk_branch
  exact (mO_n (g := Prod.fst) fun v1 => (mO_ob2 (g := Prod.fst) (mo_Wlk_valueAt S v1) fun S2 v3 => (mO_if (g := Prod.fst) (mO_s zmo_rf) (mO_if (g := Prod.fst) (mO_s zmo_rf) (mO_if (g := Prod.fst) (mO_on (g := Prod.fst) fun v7 => (mO_if (g := Prod.fst) (mO_if (g := Prod.fst) (mO_s zmo_rf) (mO_s zmo_rf)) (mO_s zmo_rf))) (mO_s zmo_rf))))))
set_option maxHeartbeats 1000000 in
set_option maxRecDepth 20000 in
theorem c_Wlk_branch (S : zS) (a1 : Int32) : ∀ r, f_Wlk_branch S a1 = some r → zMet l y_Wlk_branch (zw y_Wlk_branch prog_11_method_4_code 6 (some Jvm.ClassFile.FieldType.int)) 4 107 [.ref (G 8), .int a1] D zcl (ztys cA) A (zRep D cA G A) zfc zfs S (zFi r) := by
  intro r hr
  refine zMet_of (mo_Fi (mo_Wlk_branch S a1 r hr)) (by decide) tk_Wlk_branch (Nat.le_of_ble_eq_true rfl) ?_
  intro p e R s m args below meth c hf hlo C0 hK hA
  have K : zSO p l e R s m args below meth c 6 A D cA G S 0 (lv_args 0 [.ref (G 8), .int a1]) [] zFi (f_Wlk_branch S a1) := by
    unfold f_Wlk_branch
    refine so_go C0 1 (pc' := 1) (lv' := [(0, .ref (G 8)), (1, .int a1)]) (st' := [.ref (G 8)]) rfl ?_
    refine so_getf C0 hK (o := 8) (j := 2) (v := .ref (G 6)) (by decide) rfl i_Wlk (by decide) wd_2_37 rfl rfl ?_
    refine so_go C0 1 (pc' := 5) (lv' := [(0, .ref (G 8)), (1, .int a1)]) (st' := [.int a1, .ref (G 6)]) rfl ?_
    refine so_cp (As := [.int a1]) (rest := []) C0 hK hA yk_Nod_part (c_Nod_part S a1) wd_4_130 rfl rfl ⟨by rw [hf]; decide, by rw [hlo]; decide⟩ (Nat.le_of_ble_eq_true rfl) (zrc_obj (o := 6) hK (by decide) rfl) ?_
    refine so_nm (V := .int) (fun v1 hv1 => ?_)
    refine so_go C0 3 (pc' := 11) (lv' := [(0, .ref (G 8)), (1, .int a1), (2, .int v1)]) (st' := [.int v1, .ref (G 8)]) rfl ?_
    refine so_oi (As := [.int v1]) (rest := []) C0 hK hA yk_Wlk_valueAt (c_Wlk_valueAt S v1) wd_4_135 rfl rfl ⟨by rw [hf]; decide, by rw [hlo]; decide⟩ (Nat.le_of_ble_eq_true rfl) (zrc_obj (o := 8) hK (by decide) rfl) (fun S2 v3 hv3 => ?_)
    refine so_go C0 3 (pc' := 17) (lv' := [(0, .ref (G 8)), (1, .int a1), (2, .int v1), (3, .int v3)]) (st' := [.int (-1), .int v3]) rfl ?_
    refine so_icmp_eq C0 rfl (fun h4 => ?_) (fun h4 => ?_)
    · refine so_go C0 1 (pc' := 59) (lv' := [(0, .ref (G 8)), (1, .int a1), (2, .int v1), (3, .int v3)]) (st' := [.int (-1)]) rfl ?_
      exact so_reti C0 rfl rfl
    · refine so_go C0 1 (pc' := 21) (lv' := [(0, .ref (G 8)), (1, .int a1), (2, .int v1), (3, .int v3)]) (st' := [.ref (G 8)]) rfl ?_
      refine so_getf C0 hK (o := 8) (j := 0) (v := .ref (G 2)) (by decide) rfl i_Wlk (by decide) wd_2_35 rfl rfl ?_
      refine so_go C0 1 (pc' := 25) (lv' := [(0, .ref (G 8)), (1, .int a1), (2, .int v1), (3, .int v3)]) (st' := [.int v3, .ref (G 2)]) rfl ?_
      refine so_cp (As := [.int v3]) (rest := []) C0 hK hA yk_Pat_shape (c_Pat_shape S2 v3) wd_4_149 rfl rfl ⟨by rw [hf]; decide, by rw [hlo]; decide⟩ (Nat.le_of_ble_eq_true rfl) (zrc_obj (o := 2) hK (by decide) rfl) ?_
      refine so_go C0 1 (pc' := 29) (lv' := [(0, .ref (G 8)), (1, .int a1), (2, .int v1), (3, .int v3)]) (st' := [.ref (G 8), .int (f_Pat_shape S2 v3)]) rfl ?_
      refine so_getf C0 hK (o := 8) (j := 1) (v := .ref (G 5)) (by decide) rfl i_Wlk (by decide) wd_2_36 rfl rfl ?_
      refine so_go C0 1 (pc' := 33) (lv' := [(0, .ref (G 8)), (1, .int a1), (2, .int v1), (3, .int v3)]) (st' := [.int v1, .ref (G 5), .int (f_Pat_shape S2 v3)]) rfl ?_
      refine so_cp (As := [.int v1]) (rest := [.int (f_Pat_shape S2 v3)]) C0 hK hA yk_Par_shape (c_Par_shape S2 v1) wd_4_150 rfl rfl ⟨by rw [hf]; decide, by rw [hlo]; decide⟩ (Nat.le_of_ble_eq_true rfl) (zrc_obj (o := 5) hK (by decide) rfl) ?_
      refine so_icmp_ne C0 rfl (fun h5 => ?_) (fun h5 => ?_)
      · refine so_go C0 1 (pc' := 59) (lv' := [(0, .ref (G 8)), (1, .int a1), (2, .int v1), (3, .int v3)]) (st' := [.int (-1)]) rfl ?_
        exact so_reti C0 rfl rfl
      · refine so_go C0 1 (pc' := 40) (lv' := [(0, .ref (G 8)), (1, .int a1), (2, .int v1), (3, .int v3)]) (st' := [.ref (G 8)]) rfl ?_
        refine so_getf C0 hK (o := 8) (j := 0) (v := .ref (G 2)) (by decide) rfl i_Wlk (by decide) wd_2_35 rfl rfl ?_
        refine so_go C0 1 (pc' := 44) (lv' := [(0, .ref (G 8)), (1, .int a1), (2, .int v1), (3, .int v3)]) (st' := [.int v3, .ref (G 2)]) rfl ?_
        refine so_cp (As := [.int v3]) (rest := []) C0 hK hA yk_Pat_sort (c_Pat_sort S2 v3) wd_4_151 rfl rfl ⟨by rw [hf]; decide, by rw [hlo]; decide⟩ (Nat.le_of_ble_eq_true rfl) (zrc_obj (o := 2) hK (by decide) rfl) ?_
        refine so_go C0 1 (pc' := 48) (lv' := [(0, .ref (G 8)), (1, .int a1), (2, .int v1), (3, .int v3)]) (st' := [.ref (G 8), .int (f_Pat_sort S2 v3)]) rfl ?_
        refine so_getf C0 hK (o := 8) (j := 1) (v := .ref (G 5)) (by decide) rfl i_Wlk (by decide) wd_2_36 rfl rfl ?_
        refine so_go C0 1 (pc' := 52) (lv' := [(0, .ref (G 8)), (1, .int a1), (2, .int v1), (3, .int v3)]) (st' := [.int v1, .ref (G 5), .int (f_Pat_sort S2 v3)]) rfl ?_
        refine so_cp (As := [.int v1]) (rest := [.int (f_Pat_sort S2 v3)]) C0 hK hA yk_Par_sort (c_Par_sort S2 v1) wd_4_152 rfl rfl ⟨by rw [hf]; decide, by rw [hlo]; decide⟩ (Nat.le_of_ble_eq_true rfl) (zrc_obj (o := 5) hK (by decide) rfl) ?_
        refine so_icmp_eq C0 rfl (fun h6 => ?_) (fun h6 => ?_)
        · refine so_go C0 3 (pc' := 63) (lv' := [(0, .ref (G 8)), (1, .int a1), (2, .int v1), (3, .int v3)]) (st' := [.ref (G 8), .int a1, .ref (G 8)]) rfl ?_
          refine so_getf C0 hK (o := 8) (j := 0) (v := .ref (G 2)) (by decide) rfl i_Wlk (by decide) wd_2_35 rfl rfl ?_
          refine so_go C0 1 (pc' := 67) (lv' := [(0, .ref (G 8)), (1, .int a1), (2, .int v1), (3, .int v3)]) (st' := [.int v3, .ref (G 2), .int a1, .ref (G 8)]) rfl ?_
          refine so_cp (As := [.int v3]) (rest := [.int a1, .ref (G 8)]) C0 hK hA yk_Pat_mark (c_Pat_mark S2 v3) wd_4_159 rfl rfl ⟨by rw [hf]; decide, by rw [hlo]; decide⟩ (Nat.le_of_ble_eq_true rfl) (zrc_obj (o := 2) hK (by decide) rfl) ?_
          refine so_op (As := [.int a1, .int (f_Pat_mark S2 v3)]) (rest := []) C0 hK hA yk_Wlk_branchFor (c_Wlk_branchFor S2 a1 (f_Pat_mark S2 v3)) wd_4_161 rfl rfl ⟨by rw [hf]; decide, by rw [hlo]; decide⟩ (Nat.le_of_ble_eq_true rfl) (zrc_obj (o := 8) hK (by decide) rfl) (fun v7 hv7 => ?_)
          refine so_go C0 2 (pc' := 76) (lv' := [(0, .ref (G 8)), (1, .int a1), (2, .int v1), (3, .int v3), (4, .int v7)]) (st' := [.ref (G 8)]) rfl ?_
          refine so_getf C0 hK (o := 8) (j := 2) (v := .ref (G 6)) (by decide) rfl i_Wlk (by decide) wd_2_37 rfl rfl ?_
          refine so_go C0 1 (pc' := 81) (lv' := [(0, .ref (G 8)), (1, .int a1), (2, .int v1), (3, .int v3), (4, .int v7)]) (st' := [.int v7, .ref (G 6)]) rfl ?_
          refine so_cp (As := [.int v7]) (rest := []) C0 hK hA yk_Nod_edge (c_Nod_edge S2 v7) wd_4_166 rfl rfl ⟨by rw [hf]; decide, by rw [hlo]; decide⟩ (Nat.le_of_ble_eq_true rfl) (zrc_obj (o := 6) hK (by decide) rfl) ?_
          refine so_go C0 1 (pc' := 85) (lv' := [(0, .ref (G 8)), (1, .int a1), (2, .int v1), (3, .int v3), (4, .int v7)]) (st' := [.int (-1), .int (f_Nod_edge S2 v7)]) rfl ?_
          refine so_icmp_ne C0 rfl (fun h8 => ?_) (fun h8 => ?_)
          · refine so_go C0 3 (pc' := 97) (lv' := [(0, .ref (G 8)), (1, .int a1), (2, .int v1), (3, .int v3), (4, .int v7), (5, .int 0)]) (st' := [.int 0]) rfl ?_
            refine so_if_neF C0 rfl (by decide) ?_
            refine so_go C0 3 (pc' := 103) (lv' := [(0, .ref (G 8)), (1, .int a1), (2, .int v1), (3, .int v3), (4, .int v7), (5, .int 0)]) (st' := [.ref (G 8), .int v3, .ref (G 8)]) rfl ?_
            refine so_getf C0 hK (o := 8) (j := 2) (v := .ref (G 6)) (by decide) rfl i_Wlk (by decide) wd_2_37 rfl rfl ?_
            refine so_go C0 1 (pc' := 108) (lv' := [(0, .ref (G 8)), (1, .int a1), (2, .int v1), (3, .int v3), (4, .int v7), (5, .int 0)]) (st' := [.int v7, .ref (G 6), .int v3, .ref (G 8)]) rfl ?_
            refine so_cp (As := [.int v7]) (rest := [.int v3, .ref (G 8)]) C0 hK hA yk_Nod_edge (c_Nod_edge S2 v7) wd_4_166 rfl rfl ⟨by rw [hf]; decide, by rw [hlo]; decide⟩ (Nat.le_of_ble_eq_true rfl) (zrc_obj (o := 6) hK (by decide) rfl) ?_
            refine so_cp (As := [.int v3, .int (f_Nod_edge S2 v7)]) (rest := []) C0 hK hA yk_Wlk_sameArguments (c_Wlk_sameArguments S2 v3 (f_Nod_edge S2 v7)) wd_4_168 rfl rfl ⟨by rw [hf]; decide, by rw [hlo]; decide⟩ (Nat.le_of_ble_eq_true rfl) (zrc_obj (o := 8) hK (by decide) rfl) ?_
            refine so_if_eq C0 rfl (fun h9 => ?_) (fun h9 => ?_)
            · refine so_go C0 1 (pc' := 123) (lv' := [(0, .ref (G 8)), (1, .int a1), (2, .int v1), (3, .int v3), (4, .int v7), (5, .int 0)]) (st' := [.int (-1)]) rfl ?_
              exact so_reti C0 rfl rfl
            · refine so_go C0 2 (pc' := 123) (lv' := [(0, .ref (G 8)), (1, .int a1), (2, .int v1), (3, .int v3), (4, .int v7), (5, .int 0)]) (st' := [.int v7]) rfl ?_
              exact so_reti C0 rfl rfl
          · refine so_go C0 4 (pc' := 97) (lv' := [(0, .ref (G 8)), (1, .int a1), (2, .int v1), (3, .int v3), (4, .int v7), (5, .int 1)]) (st' := [.int 1]) rfl ?_
            refine so_if_neT C0 rfl (by decide) ?_
            refine so_go C0 2 (pc' := 123) (lv' := [(0, .ref (G 8)), (1, .int a1), (2, .int v1), (3, .int v3), (4, .int v7), (5, .int 1)]) (st' := [.int v7]) rfl ?_
            exact so_reti C0 rfl rfl
        · refine so_go C0 1 (pc' := 59) (lv' := [(0, .ref (G 8)), (1, .int a1), (2, .int v1), (3, .int v3)]) (st' := [.int (-1)]) rfl ?_
          exact so_reti C0 rfl rfl
  exact K r hr
def f_Wlk_walk_L40 : Nat → zS → Int32 → Int32 → Option (zS × Int32)
  | 0, _, _, _ => none
  | n + 1, S, x2, x3 =>
    if x3 ≤ 0 then
      if ¬ x2 = (-1) then
        some (S, (f_Nod_ruleAt S x2))
      else
        some (S, (-3))
    else
      if x2 = (-1) then
        if ¬ x2 = (-1) then
          some (S, (f_Nod_ruleAt S x2))
        else
          some (S, (-3))
      else
        if (f_Nod_part S x2) = (-1) then
          if ¬ x2 = (-1) then
            some (S, (f_Nod_ruleAt S x2))
          else
            some (S, (-3))
        else
          zob2 (f_Wlk_branch S x2) fun S11 v12 =>
          zbind (z_sc S11 3 ((S11.2.2.1 3) + 1)) fun S13 =>
          f_Wlk_walk_L40 n S13 v12 (x3 + (-1))
def f_Wlk_walk (S : zS) (a1 : Int32) : Option (zS × Int32) :=
  zbind (r_fill S 39 (f_Par_size S) (-4)) fun S1 =>
  zbind (r_set S1 39 0 a1) fun S2 =>
  zbind (z_sc S2 3 0) fun S3 =>
  zbind (f_Nod_size S3) fun v4 =>
  f_Wlk_walk_L40 zbig S3 0 v4
theorem mo_Wlk_walk (S : zS) (a1 : Int32) : zmO Prod.fst S (f_Wlk_walk S a1) := by
  have lp40 : ∀ (n : Nat) (S : zS) (x2 : Int32) (x3 : Int32), zmO Prod.fst S (f_Wlk_walk_L40 n S x2 x3) := by
    intro n
    induction n with
    | zero =>
      intro S x2 x3
      rw [f_Wlk_walk_L40]
      exact mO_0
    | succ n ih40 =>
      intro S x2 x3
      rw [f_Wlk_walk_L40]
      exact (mO_if (g := Prod.fst) (mO_if (g := Prod.fst) (mO_s zmo_rf) (mO_s zmo_rf)) (mO_if (g := Prod.fst) (mO_if (g := Prod.fst) (mO_s zmo_rf) (mO_s zmo_rf)) (mO_if (g := Prod.fst) (mO_if (g := Prod.fst) (mO_s zmo_rf) (mO_s zmo_rf)) (mO_ob2 (g := Prod.fst) (mo_Wlk_branch S x2) fun S11 v12 => (mO_b (g := Prod.fst) mo_z_sc fun S13 => (ih40 S13 v12 (x3 + (-1))))))))
  unfold f_Wlk_walk
  exact (mO_b (g := Prod.fst) (z_fl_mono (by decide) _ _) fun S1 => (mO_b (g := Prod.fst) mo_r_set fun S2 => (mO_b (g := Prod.fst) mo_z_sc fun S3 => (mO_n (g := Prod.fst) fun v4 => (lp40 zbig S3 0 v4)))))
set_option maxHeartbeats 1000000 in
set_option maxRecDepth 20000 in
theorem c_Wlk_walk (S : zS) (a1 : Int32) : ∀ r, f_Wlk_walk S a1 = some r → zMet l y_Wlk_walk (zw y_Wlk_walk prog_11_method_3_code 4 (some Jvm.ClassFile.FieldType.int)) 5 132 [.ref (G 8), .int a1] D zcl (ztys cA) A (zRep D cA G A) zfc zfs S (zFi r) := by
  intro r hr
  refine zMet_of (mo_Fi (mo_Wlk_walk S a1 r hr)) (by decide) tk_Wlk_walk (Nat.le_of_ble_eq_true rfl) ?_
  intro p e R s m args below meth c hf hlo C0 hK hA
  have lp40 : ∀ (n : Nat) (S : zS) (x2 : Int32) (x3 : Int32), zSO p l e R s m args below meth c 4 A D cA G S 40 [(0, .ref (G 8)), (2, .int x2), (3, .int x3)] [] zFi (f_Wlk_walk_L40 n S x2 x3) := by
    intro n
    induction n with
    | zero =>
      intro S x2 x3
      rw [f_Wlk_walk_L40]
      exact so_none
    | succ n ih40 =>
      intro S x2 x3
      rw [f_Wlk_walk_L40]
      refine so_go C0 1 (pc' := 41) (lv' := [(0, .ref (G 8)), (2, .int x2), (3, .int x3)]) (st' := [.int x3]) rfl ?_
      refine so_if_le C0 rfl (fun h5 => ?_) (fun h5 => ?_)
      · refine so_go C0 2 (pc' := 85) (lv' := [(0, .ref (G 8)), (2, .int x2), (3, .int x3)]) (st' := [.int (-1), .int x2]) rfl ?_
        refine so_icmp_ne C0 rfl (fun h6 => ?_) (fun h6 => ?_)
        · refine so_go C0 1 (pc' := 94) (lv' := [(0, .ref (G 8)), (2, .int x2), (3, .int x3)]) (st' := [.ref (G 8)]) rfl ?_
          refine so_getf C0 hK (o := 8) (j := 2) (v := .ref (G 6)) (by decide) rfl i_Wlk (by decide) wd_2_37 rfl rfl ?_
          refine so_go C0 1 (pc' := 98) (lv' := [(0, .ref (G 8)), (2, .int x2), (3, .int x3)]) (st' := [.int x2, .ref (G 6)]) rfl ?_
          refine so_cp (As := [.int x2]) (rest := []) C0 hK hA yk_Nod_ruleAt (c_Nod_ruleAt S x2) wd_4_176 rfl rfl ⟨by rw [hf]; decide, by rw [hlo]; decide⟩ (Nat.le_of_ble_eq_true rfl) (zrc_obj (o := 6) hK (by decide) rfl) ?_
          exact so_reti C0 rfl rfl
        · refine so_go C0 2 (pc' := 101) (lv' := [(0, .ref (G 8)), (2, .int x2), (3, .int x3)]) (st' := [.int (-3)]) rfl ?_
          exact so_reti C0 rfl rfl
      · refine so_go C0 2 (pc' := 46) (lv' := [(0, .ref (G 8)), (2, .int x2), (3, .int x3)]) (st' := [.int (-1), .int x2]) rfl ?_
        refine so_icmp_eq C0 rfl (fun h7 => ?_) (fun h7 => ?_)
        · refine so_go C0 2 (pc' := 85) (lv' := [(0, .ref (G 8)), (2, .int x2), (3, .int x3)]) (st' := [.int (-1), .int x2]) rfl ?_
          refine so_icmp_ne C0 rfl (fun h8 => ?_) (fun h8 => ?_)
          · refine so_go C0 1 (pc' := 94) (lv' := [(0, .ref (G 8)), (2, .int x2), (3, .int x3)]) (st' := [.ref (G 8)]) rfl ?_
            refine so_getf C0 hK (o := 8) (j := 2) (v := .ref (G 6)) (by decide) rfl i_Wlk (by decide) wd_2_37 rfl rfl ?_
            refine so_go C0 1 (pc' := 98) (lv' := [(0, .ref (G 8)), (2, .int x2), (3, .int x3)]) (st' := [.int x2, .ref (G 6)]) rfl ?_
            refine so_cp (As := [.int x2]) (rest := []) C0 hK hA yk_Nod_ruleAt (c_Nod_ruleAt S x2) wd_4_176 rfl rfl ⟨by rw [hf]; decide, by rw [hlo]; decide⟩ (Nat.le_of_ble_eq_true rfl) (zrc_obj (o := 6) hK (by decide) rfl) ?_
            exact so_reti C0 rfl rfl
          · refine so_go C0 2 (pc' := 101) (lv' := [(0, .ref (G 8)), (2, .int x2), (3, .int x3)]) (st' := [.int (-3)]) rfl ?_
            exact so_reti C0 rfl rfl
        · refine so_go C0 1 (pc' := 50) (lv' := [(0, .ref (G 8)), (2, .int x2), (3, .int x3)]) (st' := [.ref (G 8)]) rfl ?_
          refine so_getf C0 hK (o := 8) (j := 2) (v := .ref (G 6)) (by decide) rfl i_Wlk (by decide) wd_2_37 rfl rfl ?_
          refine so_go C0 1 (pc' := 54) (lv' := [(0, .ref (G 8)), (2, .int x2), (3, .int x3)]) (st' := [.int x2, .ref (G 6)]) rfl ?_
          refine so_cp (As := [.int x2]) (rest := []) C0 hK hA yk_Nod_part (c_Nod_part S x2) wd_4_130 rfl rfl ⟨by rw [hf]; decide, by rw [hlo]; decide⟩ (Nat.le_of_ble_eq_true rfl) (zrc_obj (o := 6) hK (by decide) rfl) ?_
          refine so_go C0 1 (pc' := 58) (lv' := [(0, .ref (G 8)), (2, .int x2), (3, .int x3)]) (st' := [.int (-1), .int (f_Nod_part S x2)]) rfl ?_
          refine so_icmp_eq C0 rfl (fun h9 => ?_) (fun h9 => ?_)
          · refine so_go C0 2 (pc' := 85) (lv' := [(0, .ref (G 8)), (2, .int x2), (3, .int x3)]) (st' := [.int (-1), .int x2]) rfl ?_
            refine so_icmp_ne C0 rfl (fun h10 => ?_) (fun h10 => ?_)
            · refine so_go C0 1 (pc' := 94) (lv' := [(0, .ref (G 8)), (2, .int x2), (3, .int x3)]) (st' := [.ref (G 8)]) rfl ?_
              refine so_getf C0 hK (o := 8) (j := 2) (v := .ref (G 6)) (by decide) rfl i_Wlk (by decide) wd_2_37 rfl rfl ?_
              refine so_go C0 1 (pc' := 98) (lv' := [(0, .ref (G 8)), (2, .int x2), (3, .int x3)]) (st' := [.int x2, .ref (G 6)]) rfl ?_
              refine so_cp (As := [.int x2]) (rest := []) C0 hK hA yk_Nod_ruleAt (c_Nod_ruleAt S x2) wd_4_176 rfl rfl ⟨by rw [hf]; decide, by rw [hlo]; decide⟩ (Nat.le_of_ble_eq_true rfl) (zrc_obj (o := 6) hK (by decide) rfl) ?_
              exact so_reti C0 rfl rfl
            · refine so_go C0 2 (pc' := 101) (lv' := [(0, .ref (G 8)), (2, .int x2), (3, .int x3)]) (st' := [.int (-3)]) rfl ?_
              exact so_reti C0 rfl rfl
          · refine so_go C0 2 (pc' := 63) (lv' := [(0, .ref (G 8)), (2, .int x2), (3, .int x3)]) (st' := [.int x2, .ref (G 8)]) rfl ?_
            refine so_oi (As := [.int x2]) (rest := []) C0 hK hA yk_Wlk_branch (c_Wlk_branch S x2) wd_4_131 rfl rfl ⟨by rw [hf]; decide, by rw [hlo]; decide⟩ (Nat.le_of_ble_eq_true rfl) (zrc_obj (o := 8) hK (by decide) rfl) (fun S11 v12 hv12 => ?_)
            refine so_go C0 3 (pc' := 69) (lv' := [(0, .ref (G 8)), (2, .int v12), (3, .int x3)]) (st' := [.ref (G 8), .ref (G 8)]) rfl ?_
            refine so_getf C0 hK (o := 8) (j := 5) (v := .int (S11.2.2.1 3)) (by decide) rfl i_Wlk (by decide) wd_2_40 rfl rfl ?_
            refine so_go C0 2 (pc' := 74) (lv' := [(0, .ref (G 8)), (2, .int v12), (3, .int x3)]) (st' := [.int ((S11.2.2.1 3) + 1), .ref (G 8)]) rfl ?_
            refine so_putf C0 hK (o := 8) (j := 5) (q := 3) (by decide) (by decide) rfl rfl i_Wlk t_Wlk_ok n_Wlk (by decide) (Nat.le_of_ble_eq_true rfl) rfl (by decide +kernel) wd_2_40 rfl rfl ?_
            refine so_st (fun S13 hS13 => ?_)
            refine so_go C0 2 (pc' := 40) (lv' := [(0, .ref (G 8)), (2, .int v12), (3, .int (x3 + (-1)))]) (st' := []) rfl ?_
            exact so_sub (lv' := [(0, .ref (G 8)), (2, .int v12), (3, .int (x3 + (-1)))]) (zpk [0, 1, 2] rfl) (ih40 S13 v12 (x3 + (-1)))
  have K : zSO p l e R s m args below meth c 4 A D cA G S 0 (lv_args 0 [.ref (G 8), .int a1]) [] zFi (f_Wlk_walk S a1) := by
    unfold f_Wlk_walk
    refine so_go C0 1 (pc' := 1) (lv' := [(0, .ref (G 8)), (1, .int a1)]) (st' := [.ref (G 8)]) rfl ?_
    refine so_getf C0 hK (o := 8) (j := 3) (v := .ref (G 50)) (by decide) rfl i_Wlk (by decide) wd_2_38 rfl rfl ?_
    refine so_go C0 1 (pc' := 5) (lv' := [(0, .ref (G 8)), (1, .int a1)]) (st' := [.ref (G 8), .ref (G 50)]) rfl ?_
    refine so_getf C0 hK (o := 8) (j := 1) (v := .ref (G 5)) (by decide) rfl i_Wlk (by decide) wd_2_36 rfl rfl ?_
    refine so_cp (As := []) (rest := [.ref (G 50)]) C0 hK hA yk_Par_size (c_Par_size S) wd_4_126 rfl rfl ⟨by rw [hf]; decide, by rw [hlo]; decide⟩ (Nat.le_of_ble_eq_true rfl) (zrc_obj (o := 5) hK (by decide) rfl) ?_
    refine so_go C0 1 (pc' := 13) (lv' := [(0, .ref (G 8)), (1, .int a1)]) (st' := [.int (-4), .int (f_Par_size S), .ref (G 50)]) rfl ?_
    refine so_cV (As := [.int (f_Par_size S), .int (-4)]) (rest := []) C0 hK hA yk_Row_refill (c_Row_refill 39 (by decide) (f_Par_size S) (-4)) wd_4_127 rfl rfl ⟨by rw [hf]; decide, by rw [hlo]; decide⟩ (Nat.le_of_ble_eq_true rfl) (zrc_row (k := 39) hK (by decide)) (fun S1 hS1 => ?_)
    refine so_go C0 1 (pc' := 17) (lv' := [(0, .ref (G 8)), (1, .int a1)]) (st' := [.ref (G 8)]) rfl ?_
    refine so_getf C0 hK (o := 8) (j := 3) (v := .ref (G 50)) (by decide) rfl i_Wlk (by decide) wd_2_38 rfl rfl ?_
    refine so_go C0 2 (pc' := 22) (lv' := [(0, .ref (G 8)), (1, .int a1)]) (st' := [.int a1, .int 0, .ref (G 50)]) rfl ?_
    refine so_cV (As := [.int 0, .int a1]) (rest := []) C0 hK hA yk_Row_set (c_Row_set 39 (by decide) 0 a1) wd_4_128 rfl rfl ⟨by rw [hf]; decide, by rw [hlo]; decide⟩ (Nat.le_of_ble_eq_true rfl) (zrc_row (k := 39) hK (by decide)) (fun S2 hS2 => ?_)
    refine so_go C0 2 (pc' := 27) (lv' := [(0, .ref (G 8)), (1, .int a1)]) (st' := [.int 0, .ref (G 8)]) rfl ?_
    refine so_putf C0 hK (o := 8) (j := 5) (q := 3) (by decide) (by decide) rfl rfl i_Wlk t_Wlk_ok n_Wlk (by decide) (Nat.le_of_ble_eq_true rfl) rfl (by decide +kernel) wd_2_40 rfl rfl ?_
    refine so_st (fun S3 hS3 => ?_)
    refine so_go C0 3 (pc' := 33) (lv' := [(0, .ref (G 8)), (1, .int a1), (2, .int 0)]) (st' := [.ref (G 8)]) rfl ?_
    refine so_getf C0 hK (o := 8) (j := 2) (v := .ref (G 6)) (by decide) rfl i_Wlk (by decide) wd_2_37 rfl rfl ?_
    refine so_cp (As := []) (rest := []) C0 hK hA yk_Nod_size (c_Nod_size S3) wd_4_129 rfl rfl ⟨by rw [hf]; decide, by rw [hlo]; decide⟩ (Nat.le_of_ble_eq_true rfl) (zrc_obj (o := 6) hK (by decide) rfl) ?_
    refine so_nm (V := .int) (fun v4 hv4 => ?_)
    refine so_go C0 1 (pc' := 40) (lv' := [(0, .ref (G 8)), (1, .int a1), (2, .int 0), (3, .int v4)]) (st' := []) rfl ?_
    exact so_sub (lv' := [(0, .ref (G 8)), (2, .int 0), (3, .int v4)]) (zpk [0, 2, 3] rfl) (lp40 zbig S3 0 v4)
  exact K r hr
def f_Wlk_looked (S : zS) : Int32 :=
  (S.2.2.1 3)
set_option maxHeartbeats 1000000 in
set_option maxRecDepth 20000 in
theorem c_Wlk_looked (S : zS) : zMet l y_Wlk_looked (zw y_Wlk_looked prog_11_method_2_code 1 (some Jvm.ClassFile.FieldType.int)) 0 0 [.ref (G 8)] D zcl (ztys cA) A (zRep D cA G A) zfc zfs S ((zFp S) (f_Wlk_looked S)) := by
  refine zMet_of ⟨Nat.le_refl _, Nat.le_refl _⟩ (by decide) tk_Wlk_looked (Nat.le_of_ble_eq_true rfl) ?_
  intro p e R s m args below meth c hf hlo C0 hK hA
  unfold f_Wlk_looked
  refine sw_go C0 1 (pc' := 1) (lv' := [(0, .ref (G 8))]) (st' := [.ref (G 8)]) rfl ?_
  refine sw_getf C0 hK (o := 8) (j := 5) (v := .int (S.2.2.1 3)) (by decide) rfl i_Wlk (by decide) wd_2_40 rfl rfl ?_
  exact sw_reti C0 rfl rfl
end ZM
