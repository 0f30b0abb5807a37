-- by program: the methods of RuleTree$Gap, as functions, and that the code does them
section ZM
variable {cA : Nat → ClassId} {G : Nat → Nat} {A : Nat → Prop} {D : va_G} {l : Launch}
def f_Gap_leastOther_L20 : Nat → zS → Int32 → Int32 → Int32 → Option (Int32)
  | 0, _, _, _, _ => none
  | n + 1, S, x2, x3, x4 =>
    if x4 ≤ 0 then
      some x2
    else
      if x3 = (-1) then
        some x2
      else
        zbind (f_Nod_edge S x3) fun v5 =>
        if v5 = (-1) then
          zbind (f_Nod_nextBranch S x3) fun v7 =>
          f_Gap_leastOther_L20 n S x2 v7 (x4 + (-1))
        else
          if ¬ (f_Par_label S v5) = x2 then
            zbind (f_Nod_nextBranch S x3) fun v9 =>
            f_Gap_leastOther_L20 n S x2 v9 (x4 + (-1))
          else
            zbind (f_Nod_nextBranch S x3) fun v10 =>
            f_Gap_leastOther_L20 n S (x2 + 1) v10 (x4 + (-1))
def f_Gap_leastOther (S : zS) (a1 : Int32) : Option (Int32) :=
  zbind (f_Nod_firstBranch S a1) fun v1 =>
  zbind (f_Nod_size S) fun v2 =>
  f_Gap_leastOther_L20 zbig S 0 v1 v2
set_option maxHeartbeats 1000000 in
set_option maxRecDepth 20000 in
theorem c_Gap_leastOther (S : zS) (a1 : Int32) : ∀ r, f_Gap_leastOther S a1 = some r → zMet l y_Gap_leastOther (zw y_Gap_leastOther prog_3_method_5_code 6 (some Jvm.ClassFile.FieldType.int)) 2 42 [.ref (G 9), .int a1] D zcl (ztys cA) A (zRep D cA G A) zfc zfs S ((zFp S) r) := by
  intro r hr
  refine zMet_of ⟨Nat.le_refl _, Nat.le_refl _⟩ (by decide) tk_Gap_leastOther (Nat.le_of_ble_eq_true rfl) ?_
  intro p e R s m args below meth c hf hlo C0 hK hA
  have lp20 : ∀ (n : Nat) (x2 : Int32) (x3 : Int32) (x4 : Int32), zSO p l e R s m args below meth c 6 A D cA G S 20 [(0, .ref (G 9)), (2, .int x2), (3, .int x3), (4, .int x4)] [] (zFp S) (f_Gap_leastOther_L20 n S x2 x3 x4) := by
    intro n
    induction n with
    | zero =>
      intro x2 x3 x4
      rw [f_Gap_leastOther_L20]
      exact so_none
    | succ n ih20 =>
      intro x2 x3 x4
      rw [f_Gap_leastOther_L20]
      refine so_go C0 1 (pc' := 22) (lv' := [(0, .ref (G 9)), (2, .int x2), (3, .int x3), (4, .int x4)]) (st' := [.int x4]) rfl ?_
      refine so_if_le C0 rfl (fun h3 => ?_) (fun h3 => ?_)
      · refine so_go C0 1 (pc' := 78) (lv' := [(0, .ref (G 9)), (2, .int x2), (3, .int x3), (4, .int x4)]) (st' := [.int x2]) rfl ?_
        exact so_reti C0 rfl rfl
      · refine so_go C0 2 (pc' := 27) (lv' := [(0, .ref (G 9)), (2, .int x2), (3, .int x3), (4, .int x4)]) (st' := [.int (-1), .int x3]) rfl ?_
        refine so_icmp_eq C0 rfl (fun h4 => ?_) (fun h4 => ?_)
        · refine so_go C0 1 (pc' := 78) (lv' := [(0, .ref (G 9)), (2, .int x2), (3, .int x3), (4, .int x4)]) (st' := [.int x2]) rfl ?_
          exact so_reti C0 rfl rfl
        · refine so_go C0 1 (pc' := 31) (lv' := [(0, .ref (G 9)), (2, .int x2), (3, .int x3), (4, .int x4)]) (st' := [.ref (G 9)]) rfl ?_
          refine so_getf C0 hK (o := 9) (j := 2) (v := .ref (G 6)) (by decide) rfl i_Gap (by decide) wd_2_64 rfl rfl ?_
          refine so_go C0 1 (pc' := 35) (lv' := [(0, .ref (G 9)), (2, .int x2), (3, .int x3), (4, .int x4)]) (st' := [.int x3, .ref (G 6)]) rfl ?_
          refine so_cp (As := [.int x3]) (rest := []) C0 hK hA yk_Nod_edge (c_Nod_edge S x3) wd_4_89 rfl rfl ⟨by rw [hf]; decide, by rw [hlo]; decide⟩ (Nat.le_of_ble_eq_true rfl) (zrc_obj (o := 6) hK (by decide) rfl) ?_
          refine so_nm (V := .int) (fun v5 hv5 => ?_)
          refine so_go C0 3 (pc' := 43) (lv' := [(0, .ref (G 9)), (2, .int x2), (3, .int x3), (4, .int x4), (5, .int v5)]) (st' := [.int (-1), .int v5]) rfl ?_
          refine so_icmp_eq C0 rfl (fun h6 => ?_) (fun h6 => ?_)
          · refine so_go C0 1 (pc' := 63) (lv' := [(0, .ref (G 9)), (2, .int x2), (3, .int x3), (4, .int x4), (5, .int v5)]) (st' := [.ref (G 9)]) rfl ?_
            refine so_getf C0 hK (o := 9) (j := 2) (v := .ref (G 6)) (by decide) rfl i_Gap (by decide) wd_2_64 rfl rfl ?_
            refine so_go C0 1 (pc' := 67) (lv' := [(0, .ref (G 9)), (2, .int x2), (3, .int x3), (4, .int x4), (5, .int v5)]) (st' := [.int x3, .ref (G 6)]) rfl ?_
            refine so_cp (As := [.int x3]) (rest := []) C0 hK hA yk_Nod_nextBranch (c_Nod_nextBranch S x3) wd_4_109 rfl rfl ⟨by rw [hf]; decide, by rw [hlo]; decide⟩ (Nat.le_of_ble_eq_true rfl) (zrc_obj (o := 6) hK (by decide) rfl) ?_
            refine so_nm (V := .int) (fun v7 hv7 => ?_)
            refine so_go C0 3 (pc' := 20) (lv' := [(0, .ref (G 9)), (2, .int x2), (3, .int v7), (4, .int (x4 + (-1))), (5, .int v5)]) (st' := []) rfl ?_
            exact so_sub (lv' := [(0, .ref (G 9)), (2, .int x2), (3, .int v7), (4, .int (x4 + (-1)))]) (zpk [0, 1, 2, 3] rfl) (ih20 x2 v7 (x4 + (-1)))
          · refine so_go C0 1 (pc' := 47) (lv' := [(0, .ref (G 9)), (2, .int x2), (3, .int x3), (4, .int x4), (5, .int v5)]) (st' := [.ref (G 9)]) rfl ?_
            refine so_getf C0 hK (o := 9) (j := 1) (v := .ref (G 5)) (by decide) rfl i_Gap (by decide) wd_2_63 rfl rfl ?_
            refine so_go C0 1 (pc' := 52) (lv' := [(0, .ref (G 9)), (2, .int x2), (3, .int x3), (4, .int x4), (5, .int v5)]) (st' := [.int v5, .ref (G 5)]) rfl ?_
            refine so_cp (As := [.int v5]) (rest := []) C0 hK hA yk_Par_label (c_Par_label S v5) wd_4_105 rfl rfl ⟨by rw [hf]; decide, by rw [hlo]; decide⟩ (Nat.le_of_ble_eq_true rfl) (zrc_obj (o := 5) hK (by decide) rfl) ?_
            refine so_go C0 1 (pc' := 56) (lv' := [(0, .ref (G 9)), (2, .int x2), (3, .int x3), (4, .int x4), (5, .int v5)]) (st' := [.int x2, .int (f_Par_label S v5)]) rfl ?_
            refine so_icmp_ne C0 rfl (fun h8 => ?_) (fun h8 => ?_)
            · refine so_go C0 1 (pc' := 63) (lv' := [(0, .ref (G 9)), (2, .int x2), (3, .int x3), (4, .int x4), (5, .int v5)]) (st' := [.ref (G 9)]) rfl ?_
              refine so_getf C0 hK (o := 9) (j := 2) (v := .ref (G 6)) (by decide) rfl i_Gap (by decide) wd_2_64 rfl rfl ?_
              refine so_go C0 1 (pc' := 67) (lv' := [(0, .ref (G 9)), (2, .int x2), (3, .int x3), (4, .int x4), (5, .int v5)]) (st' := [.int x3, .ref (G 6)]) rfl ?_
              refine so_cp (As := [.int x3]) (rest := []) C0 hK hA yk_Nod_nextBranch (c_Nod_nextBranch S x3) wd_4_109 rfl rfl ⟨by rw [hf]; decide, by rw [hlo]; decide⟩ (Nat.le_of_ble_eq_true rfl) (zrc_obj (o := 6) hK (by decide) rfl) ?_
              refine so_nm (V := .int) (fun v9 hv9 => ?_)
              refine so_go C0 3 (pc' := 20) (lv' := [(0, .ref (G 9)), (2, .int x2), (3, .int v9), (4, .int (x4 + (-1))), (5, .int v5)]) (st' := []) rfl ?_
              exact so_sub (lv' := [(0, .ref (G 9)), (2, .int x2), (3, .int v9), (4, .int (x4 + (-1)))]) (zpk [0, 1, 2, 3] rfl) (ih20 x2 v9 (x4 + (-1)))
            · refine so_go C0 2 (pc' := 63) (lv' := [(0, .ref (G 9)), (2, .int (x2 + 1)), (3, .int x3), (4, .int x4), (5, .int v5)]) (st' := [.ref (G 9)]) rfl ?_
              refine so_getf C0 hK (o := 9) (j := 2) (v := .ref (G 6)) (by decide) rfl i_Gap (by decide) wd_2_64 rfl rfl ?_
              refine so_go C0 1 (pc' := 67) (lv' := [(0, .ref (G 9)), (2, .int (x2 + 1)), (3, .int x3), (4, .int x4), (5, .int v5)]) (st' := [.int x3, .ref (G 6)]) rfl ?_
              refine so_cp (As := [.int x3]) (rest := []) C0 hK hA yk_Nod_nextBranch (c_Nod_nextBranch S x3) wd_4_109 rfl rfl ⟨by rw [hf]; decide, by rw [hlo]; decide⟩ (Nat.le_of_ble_eq_true rfl) (zrc_obj (o := 6) hK (by decide) rfl) ?_
              refine so_nm (V := .int) (fun v10 hv10 => ?_)
              refine so_go C0 3 (pc' := 20) (lv' := [(0, .ref (G 9)), (2, .int (x2 + 1)), (3, .int v10), (4, .int (x4 + (-1))), (5, .int v5)]) (st' := []) rfl ?_
              exact so_sub (lv' := [(0, .ref (G 9)), (2, .int (x2 + 1)), (3, .int v10), (4, .int (x4 + (-1)))]) (zpk [0, 1, 2, 3] rfl) (ih20 (x2 + 1) v10 (x4 + (-1)))
  have K : zSO p l e R s m args below meth c 6 A D cA G S 0 (lv_args 0 [.ref (G 9), .int a1]) [] (zFp S) (f_Gap_leastOther S a1) := by
    unfold f_Gap_leastOther
    refine so_go C0 3 (pc' := 3) (lv' := [(0, .ref (G 9)), (1, .int a1), (2, .int 0)]) (st' := [.ref (G 9)]) rfl ?_
    refine so_getf C0 hK (o := 9) (j := 2) (v := .ref (G 6)) (by decide) rfl i_Gap (by decide) wd_2_64 rfl rfl ?_
    refine so_go C0 1 (pc' := 7) (lv' := [(0, .ref (G 9)), (1, .int a1), (2, .int 0)]) (st' := [.int a1, .ref (G 6)]) rfl ?_
    refine so_cp (As := [.int a1]) (rest := []) C0 hK hA yk_Nod_firstBranch (c_Nod_firstBranch S a1) wd_4_101 rfl rfl ⟨by rw [hf]; decide, by rw [hlo]; decide⟩ (Nat.le_of_ble_eq_true rfl) (zrc_obj (o := 6) hK (by decide) rfl) ?_
    refine so_nm (V := .int) (fun v1 hv1 => ?_)
    refine so_go C0 2 (pc' := 12) (lv' := [(0, .ref (G 9)), (1, .int a1), (2, .int 0), (3, .int v1)]) (st' := [.ref (G 9)]) rfl ?_
    refine so_getf C0 hK (o := 9) (j := 2) (v := .ref (G 6)) (by decide) rfl i_Gap (by decide) wd_2_64 rfl rfl ?_
    refine so_cp (As := []) (rest := []) C0 hK hA yk_Nod_size (c_Nod_size S) wd_4_87 rfl rfl ⟨by rw [hf]; decide, by rw [hlo]; decide⟩ (Nat.le_of_ble_eq_true rfl) (zrc_obj (o := 6) hK (by decide) rfl) ?_
    refine so_nm (V := .int) (fun v2 hv2 => ?_)
    refine so_go C0 1 (pc' := 20) (lv' := [(0, .ref (G 9)), (1, .int a1), (2, .int 0), (3, .int v1), (4, .int v2)]) (st' := []) rfl ?_
    exact so_sub (lv' := [(0, .ref (G 9)), (2, .int 0), (3, .int v1), (4, .int v2)]) (zpk [0, 2, 3, 4] rfl) (lp20 zbig 0 v1 v2)
  exact K r hr
def f_Gap_tellBranch_L73 : Nat → zS → Int32 → Int32 → Option (zS)
  | 0, _, _, _ => none
  | n + 1, S, x4, x5 =>
    if x5 ≤ 0 then
      some S
    else
      if ¬ (f_Par_shape S x4) = 4 then
        some S
      else
        zbind (r_set S 41 x4 4) fun S9 =>
        zbind (f_Par_upper S9 x4) fun v10 =>
        f_Gap_tellBranch_L73 n S9 v10 (x5 + (-1))
def f_Gap_tellBranch (S : zS) (a1 : Int32) (a2 : Int32) : Option (zS) :=
  zbind (f_Nod_part S a1) fun v1 =>
  zbind (r_set S 41 v1 (f_Par_shape S v1)) fun S2 =>
  if ¬ a2 = (-1) then
    zbind (r_set S2 42 v1 (f_Par_label S2 a2)) fun S4 =>
    zbind (f_Par_upper S4 v1) fun v5 =>
    zbind (f_Par_size S4) fun v6 =>
    f_Gap_tellBranch_L73 zbig S4 v5 v6
  else
    zob (f_Gap_leastOther S2 a1) fun v11 =>
    zbind (r_set S2 42 v1 v11) fun S12 =>
    zbind (f_Par_upper S12 v1) fun v13 =>
    zbind (f_Par_size S12) fun v14 =>
    f_Gap_tellBranch_L73 zbig S12 v13 v14
theorem mo_Gap_tellBranch (S : zS) (a1 : Int32) (a2 : Int32) : zmO (fun x => x) S (f_Gap_tellBranch S a1 a2) := by
  have lp73 : ∀ (n : Nat) (S : zS) (x4 : Int32) (x5 : Int32), zmO (fun x => x) S (f_Gap_tellBranch_L73 n S x4 x5) := by
    intro n
    induction n with
    | zero =>
      intro S x4 x5
      rw [f_Gap_tellBranch_L73]
      exact mO_0
    | succ n ih73 =>
      intro S x4 x5
      rw [f_Gap_tellBranch_L73]
      exact (mO_if (g := (fun x => x)) (mO_s zmo_rf) (mO_if (g := (fun x => x)) (mO_s zmo_rf) (mO_b (g := (fun x => x)) mo_r_set fun S9 => (mO_n (g := (fun x => x)) fun v10 => (ih73 S9 v10 (x5 + (-1)))))))
  unfold f_Gap_tellBranch
  exact (mO_n (g := (fun x => x)) fun v1 => (mO_b (g := (fun x => x)) mo_r_set fun S2 => (mO_if (g := (fun x => x)) (mO_b (g := (fun x => x)) mo_r_set fun S4 => (mO_n (g := (fun x => x)) fun v5 => (mO_n (g := (fun x => x)) fun v6 => (lp73 zbig S4 v5 v6)))) (mO_on (g := (fun x => x)) fun v11 => (mO_b (g := (fun x => x)) mo_r_set fun S12 => (mO_n (g := (fun x => x)) fun v13 => (mO_n (g := (fun x => x)) fun v14 => (lp73 zbig S12 v13 v14))))))))
set_option maxHeartbeats 1000000 in
set_option maxRecDepth 20000 in
theorem c_Gap_tellBranch (S : zS) (a1 : Int32) (a2 : Int32) : ∀ r, f_Gap_tellBranch S a1 a2 = some r → zMet l y_Gap_tellBranch (zw y_Gap_tellBranch prog_3_method_4_code 6 none) 3 67 [.ref (G 9), .int a1, .int a2] D zcl (ztys cA) A (zRep D cA G A) zfc zfs S (zFv r) := by
  intro r hr
  refine zMet_of (mo_Fv (mo_Gap_tellBranch S a1 a2 r hr)) (by decide) tk_Gap_tellBranch (Nat.le_of_ble_eq_true rfl) ?_
  intro p e R s m args below meth c hf hlo C0 hK hA
  have lp73 : ∀ (n : Nat) (S : zS) (x4 : Int32) (x5 : Int32), zSO p l e R s m args below meth c 6 A D cA G S 73 [(0, .ref (G 9)), (4, .int x4), (5, .int x5)] [] zFv (f_Gap_tellBranch_L73 n S x4 x5) := by
    intro n
    induction n with
    | zero =>
      intro S x4 x5
      rw [f_Gap_tellBranch_L73]
      exact so_none
    | succ n ih73 =>
      intro S x4 x5
      rw [f_Gap_tellBranch_L73]
      refine so_go C0 1 (pc' := 75) (lv' := [(0, .ref (G 9)), (4, .int x4), (5, .int x5)]) (st' := [.int x5]) rfl ?_
      refine so_if_le C0 rfl (fun h7 => ?_) (fun h7 => ?_)
      · exact so_retv C0 rfl rfl
      · refine so_go C0 1 (pc' := 79) (lv' := [(0, .ref (G 9)), (4, .int x4), (5, .int x5)]) (st' := [.ref (G 9)]) rfl ?_
        refine so_getf C0 hK (o := 9) (j := 1) (v := .ref (G 5)) (by decide) rfl i_Gap (by decide) wd_2_63 rfl rfl ?_
        refine so_go C0 1 (pc' := 84) (lv' := [(0, .ref (G 9)), (4, .int x4), (5, .int x5)]) (st' := [.int x4, .ref (G 5)]) rfl ?_
        refine so_cp (As := [.int x4]) (rest := []) C0 hK hA yk_Par_shape (c_Par_shape S x4) wd_4_95 rfl rfl ⟨by rw [hf]; decide, by rw [hlo]; decide⟩ (Nat.le_of_ble_eq_true rfl) (zrc_obj (o := 5) hK (by decide) rfl) ?_
        refine so_go C0 1 (pc' := 88) (lv' := [(0, .ref (G 9)), (4, .int x4), (5, .int x5)]) (st' := [.int 4, .int (f_Par_shape S x4)]) rfl ?_
        refine so_icmp_ne C0 rfl (fun h8 => ?_) (fun h8 => ?_)
        · exact so_retv C0 rfl rfl
        · refine so_go C0 1 (pc' := 92) (lv' := [(0, .ref (G 9)), (4, .int x4), (5, .int x5)]) (st' := [.ref (G 9)]) rfl ?_
          refine so_getf C0 hK (o := 9) (j := 3) (v := .ref (G 52)) (by decide) rfl i_Gap (by decide) wd_2_65 rfl rfl ?_
          refine so_go C0 2 (pc' := 98) (lv' := [(0, .ref (G 9)), (4, .int x4), (5, .int x5)]) (st' := [.int 4, .int x4, .ref (G 52)]) rfl ?_
          refine so_cV (As := [.int x4, .int 4]) (rest := []) C0 hK hA yk_Row_set (c_Row_set 41 (by decide) x4 4) wd_4_96 rfl rfl ⟨by rw [hf]; decide, by rw [hlo]; decide⟩ (Nat.le_of_ble_eq_true rfl) (zrc_row (k := 41) hK (by decide)) (fun S9 hS9 => ?_)
          refine so_go C0 1 (pc' := 102) (lv' := [(0, .ref (G 9)), (4, .int x4), (5, .int x5)]) (st' := [.ref (G 9)]) rfl ?_
          refine so_getf C0 hK (o := 9) (j := 1) (v := .ref (G 5)) (by decide) rfl i_Gap (by decide) wd_2_63 rfl rfl ?_
          refine so_go C0 1 (pc' := 107) (lv' := [(0, .ref (G 9)), (4, .int x4), (5, .int x5)]) (st' := [.int x4, .ref (G 5)]) rfl ?_
          refine so_cp (As := [.int x4]) (rest := []) C0 hK hA yk_Par_upper (c_Par_upper S9 x4) wd_4_113 rfl rfl ⟨by rw [hf]; decide, by rw [hlo]; decide⟩ (Nat.le_of_ble_eq_true rfl) (zrc_obj (o := 5) hK (by decide) rfl) ?_
          refine so_nm (V := .int) (fun v10 hv10 => ?_)
          refine so_go C0 3 (pc' := 73) (lv' := [(0, .ref (G 9)), (4, .int v10), (5, .int (x5 + (-1)))]) (st' := []) rfl ?_
          exact so_sub (lv' := [(0, .ref (G 9)), (4, .int v10), (5, .int (x5 + (-1)))]) (zpk [0, 1, 2] rfl) (ih73 S9 v10 (x5 + (-1)))
  have K : zSO p l e R s m args below meth c 6 A D cA G S 0 (lv_args 0 [.ref (G 9), .int a1, .int a2]) [] zFv (f_Gap_tellBranch S a1 a2) := by
    unfold f_Gap_tellBranch
    refine so_go C0 1 (pc' := 1) (lv' := [(0, .ref (G 9)), (1, .int a1), (2, .int a2)]) (st' := [.ref (G 9)]) rfl ?_
    refine so_getf C0 hK (o := 9) (j := 2) (v := .ref (G 6)) (by decide) rfl i_Gap (by decide) wd_2_64 rfl rfl ?_
    refine so_go C0 1 (pc' := 5) (lv' := [(0, .ref (G 9)), (1, .int a1), (2, .int a2)]) (st' := [.int a1, .ref (G 6)]) rfl ?_
    refine so_cp (As := [.int a1]) (rest := []) C0 hK hA yk_Nod_part (c_Nod_part S a1) wd_4_94 rfl rfl ⟨by rw [hf]; decide, by rw [hlo]; decide⟩ (Nat.le_of_ble_eq_true rfl) (zrc_obj (o := 6) hK (by decide) rfl) ?_
    refine so_nm (V := .int) (fun v1 hv1 => ?_)
    refine so_go C0 2 (pc' := 10) (lv' := [(0, .ref (G 9)), (1, .int a1), (2, .int a2), (3, .int v1)]) (st' := [.ref (G 9)]) rfl ?_
    refine so_getf C0 hK (o := 9) (j := 3) (v := .ref (G 52)) (by decide) rfl i_Gap (by decide) wd_2_65 rfl rfl ?_
    refine so_go C0 2 (pc' := 15) (lv' := [(0, .ref (G 9)), (1, .int a1), (2, .int a2), (3, .int v1)]) (st' := [.ref (G 9), .int v1, .ref (G 52)]) rfl ?_
    refine so_getf C0 hK (o := 9) (j := 1) (v := .ref (G 5)) (by decide) rfl i_Gap (by decide) wd_2_63 rfl rfl ?_
    refine so_go C0 1 (pc' := 19) (lv' := [(0, .ref (G 9)), (1, .int a1), (2, .int a2), (3, .int v1)]) (st' := [.int v1, .ref (G 5), .int v1, .ref (G 52)]) rfl ?_
    refine so_cp (As := [.int v1]) (rest := [.int v1, .ref (G 52)]) C0 hK hA yk_Par_shape (c_Par_shape S v1) wd_4_95 rfl rfl ⟨by rw [hf]; decide, by rw [hlo]; decide⟩ (Nat.le_of_ble_eq_true rfl) (zrc_obj (o := 5) hK (by decide) rfl) ?_
    refine so_cV (As := [.int v1, .int (f_Par_shape S v1)]) (rest := []) C0 hK hA yk_Row_set (c_Row_set 41 (by decide) v1 (f_Par_shape S v1)) wd_4_96 rfl rfl ⟨by rw [hf]; decide, by rw [hlo]; decide⟩ (Nat.le_of_ble_eq_true rfl) (zrc_row (k := 41) hK (by decide)) (fun S2 hS2 => ?_)
    refine so_go C0 1 (pc' := 26) (lv' := [(0, .ref (G 9)), (1, .int a1), (2, .int a2), (3, .int v1)]) (st' := [.ref (G 9)]) rfl ?_
    refine so_getf C0 hK (o := 9) (j := 4) (v := .ref (G 53)) (by decide) rfl i_Gap (by decide) wd_2_66 rfl rfl ?_
    refine so_go C0 3 (pc' := 32) (lv' := [(0, .ref (G 9)), (1, .int a1), (2, .int a2), (3, .int v1)]) (st' := [.int (-1), .int a2, .int v1, .ref (G 53)]) rfl ?_
    refine so_icmp_ne C0 rfl (fun h3 => ?_) (fun h3 => ?_)
    · refine so_go C0 1 (pc' := 44) (lv' := [(0, .ref (G 9)), (1, .int a1), (2, .int a2), (3, .int v1)]) (st' := [.ref (G 9), .int v1, .ref (G 53)]) rfl ?_
      refine so_getf C0 hK (o := 9) (j := 1) (v := .ref (G 5)) (by decide) rfl i_Gap (by decide) wd_2_63 rfl rfl ?_
      refine so_go C0 1 (pc' := 48) (lv' := [(0, .ref (G 9)), (1, .int a1), (2, .int a2), (3, .int v1)]) (st' := [.int a2, .ref (G 5), .int v1, .ref (G 53)]) rfl ?_
      refine so_cp (As := [.int a2]) (rest := [.int v1, .ref (G 53)]) C0 hK hA yk_Par_label (c_Par_label S2 a2) wd_4_105 rfl rfl ⟨by rw [hf]; decide, by rw [hlo]; decide⟩ (Nat.le_of_ble_eq_true rfl) (zrc_obj (o := 5) hK (by decide) rfl) ?_
      refine so_cV (As := [.int v1, .int (f_Par_label S2 a2)]) (rest := []) C0 hK hA yk_Row_set (c_Row_set 42 (by decide) v1 (f_Par_label S2 a2)) wd_4_96 rfl rfl ⟨by rw [hf]; decide, by rw [hlo]; decide⟩ (Nat.le_of_ble_eq_true rfl) (zrc_row (k := 42) hK (by decide)) (fun S4 hS4 => ?_)
      refine so_go C0 1 (pc' := 55) (lv' := [(0, .ref (G 9)), (1, .int a1), (2, .int a2), (3, .int v1)]) (st' := [.ref (G 9)]) rfl ?_
      refine so_getf C0 hK (o := 9) (j := 1) (v := .ref (G 5)) (by decide) rfl i_Gap (by decide) wd_2_63 rfl rfl ?_
      refine so_go C0 1 (pc' := 59) (lv' := [(0, .ref (G 9)), (1, .int a1), (2, .int a2), (3, .int v1)]) (st' := [.int v1, .ref (G 5)]) rfl ?_
      refine so_cp (As := [.int v1]) (rest := []) C0 hK hA yk_Par_upper (c_Par_upper S4 v1) wd_4_113 rfl rfl ⟨by rw [hf]; decide, by rw [hlo]; decide⟩ (Nat.le_of_ble_eq_true rfl) (zrc_obj (o := 5) hK (by decide) rfl) ?_
      refine so_nm (V := .int) (fun v5 hv5 => ?_)
      refine so_go C0 2 (pc' := 65) (lv' := [(0, .ref (G 9)), (1, .int a1), (2, .int a2), (3, .int v1), (4, .int v5)]) (st' := [.ref (G 9)]) rfl ?_
      refine so_getf C0 hK (o := 9) (j := 1) (v := .ref (G 5)) (by decide) rfl i_Gap (by decide) wd_2_63 rfl rfl ?_
      refine so_cp (As := []) (rest := []) C0 hK hA yk_Par_size (c_Par_size S4) wd_4_77 rfl rfl ⟨by rw [hf]; decide, by rw [hlo]; decide⟩ (Nat.le_of_ble_eq_true rfl) (zrc_obj (o := 5) hK (by decide) rfl) ?_
      refine so_nm (V := .int) (fun v6 hv6 => ?_)
      refine so_go C0 1 (pc' := 73) (lv' := [(0, .ref (G 9)), (1, .int a1), (2, .int a2), (3, .int v1), (4, .int v5), (5, .int v6)]) (st' := []) rfl ?_
      exact so_sub (lv' := [(0, .ref (G 9)), (4, .int v5), (5, .int v6)]) (zpk [0, 4, 5] rfl) (lp73 zbig S4 v5 v6)
    · refine so_go C0 2 (pc' := 37) (lv' := [(0, .ref (G 9)), (1, .int a1), (2, .int a2), (3, .int v1)]) (st' := [.int a1, .ref (G 9), .int v1, .ref (G 53)]) rfl ?_
      refine so_op (As := [.int a1]) (rest := [.int v1, .ref (G 53)]) C0 hK hA yk_Gap_leastOther (c_Gap_leastOther S2 a1) wd_4_97 rfl rfl ⟨by rw [hf]; decide, by rw [hlo]; decide⟩ (Nat.le_of_ble_eq_true rfl) (zrc_obj (o := 9) hK (by decide) rfl) (fun v11 hv11 => ?_)
      refine so_go C0 1 (pc' := 51) (lv' := [(0, .ref (G 9)), (1, .int a1), (2, .int a2), (3, .int v1)]) (st' := [.int v11, .int v1, .ref (G 53)]) rfl ?_
      refine so_cV (As := [.int v1, .int v11]) (rest := []) C0 hK hA yk_Row_set (c_Row_set 42 (by decide) v1 v11) wd_4_96 rfl rfl ⟨by rw [hf]; decide, by rw [hlo]; decide⟩ (Nat.le_of_ble_eq_true rfl) (zrc_row (k := 42) hK (by decide)) (fun S12 hS12 => ?_)
      refine so_go C0 1 (pc' := 55) (lv' := [(0, .ref (G 9)), (1, .int a1), (2, .int a2), (3, .int v1)]) (st' := [.ref (G 9)]) rfl ?_
      refine so_getf C0 hK (o := 9) (j := 1) (v := .ref (G 5)) (by decide) rfl i_Gap (by decide) wd_2_63 rfl rfl ?_
      refine so_go C0 1 (pc' := 59) (lv' := [(0, .ref (G 9)), (1, .int a1), (2, .int a2), (3, .int v1)]) (st' := [.int v1, .ref (G 5)]) rfl ?_
      refine so_cp (As := [.int v1]) (rest := []) C0 hK hA yk_Par_upper (c_Par_upper S12 v1) wd_4_113 rfl rfl ⟨by rw [hf]; decide, by rw [hlo]; decide⟩ (Nat.le_of_ble_eq_true rfl) (zrc_obj (o := 5) hK (by decide) rfl) ?_
      refine so_nm (V := .int) (fun v13 hv13 => ?_)
      refine so_go C0 2 (pc' := 65) (lv' := [(0, .ref (G 9)), (1, .int a1), (2, .int a2), (3, .int v1), (4, .int v13)]) (st' := [.ref (G 9)]) rfl ?_
      refine so_getf C0 hK (o := 9) (j := 1) (v := .ref (G 5)) (by decide) rfl i_Gap (by decide) wd_2_63 rfl rfl ?_
      refine so_cp (As := []) (rest := []) C0 hK hA yk_Par_size (c_Par_size S12) wd_4_77 rfl rfl ⟨by rw [hf]; decide, by rw [hlo]; decide⟩ (Nat.le_of_ble_eq_true rfl) (zrc_obj (o := 5) hK (by decide) rfl) ?_
      refine so_nm (V := .int) (fun v14 hv14 => ?_)
      refine so_go C0 1 (pc' := 73) (lv' := [(0, .ref (G 9)), (1, .int a1), (2, .int a2), (3, .int v1), (4, .int v13), (5, .int v14)]) (st' := []) rfl ?_
      exact so_sub (lv' := [(0, .ref (G 9)), (4, .int v13), (5, .int v14)]) (zpk [0, 4, 5] rfl) (lp73 zbig S12 v13 v14)
  exact K r hr
def f_Gap_find_L55 : Nat → zS → Int32 → Int32 → Option (zS)
  | 0, _, _, _ => none
  | n + 1, S, x1, x2 =>
    if x2 ≤ 0 then
      some S
    else
      if (f_Nod_upper S x1) = (-1) then
        some S
      else
        zob (f_Gap_tellBranch S (f_Nod_upper S x1) (f_Nod_edge S x1)) fun S9 =>
        zbind (f_Nod_upper S9 x1) fun v10 =>
        f_Gap_find_L55 n S9 v10 (x2 + (-1))
def f_Gap_find (S : zS) : Option (zS) :=
  zbind (r_fill S 41 (f_Par_size S) 0) fun S1 =>
  zbind (r_fill S1 42 (f_Par_size S1) (-1)) fun S2 =>
  zob (f_Nod_firstEndWith S2 (-1)) fun v3 =>
  zbind (z_sc S2 4 v3) fun S4 =>
  zbind (S4.2.2.1 4) fun v5 =>
  zbind (f_Nod_size S4) fun v6 =>
  f_Gap_find_L55 zbig S4 v5 v6
theorem mo_Gap_find (S : zS) : zmO (fun x => x) S (f_Gap_find S) := by
  have lp55 : ∀ (n : Nat) (S : zS) (x1 : Int32) (x2 : Int32), zmO (fun x => x) S (f_Gap_find_L55 n S x1 x2) := by
    intro n
    induction n with
    | zero =>
      intro S x1 x2
      rw [f_Gap_find_L55]
      exact mO_0
    | succ n ih55 =>
      intro S x1 x2
      rw [f_Gap_find_L55]
      exact (mO_if (g := (fun x => x)) (mO_s zmo_rf) (mO_if (g := (fun x => x)) (mO_s zmo_rf) (mO_ob (g := (fun x => x)) (mo_Gap_tellBranch S (f_Nod_upper S x1) (f_Nod_edge S x1)) fun S9 => (mO_n (g := (fun x => x)) fun v10 => (ih55 S9 v10 (x2 + (-1)))))))
  unfold f_Gap_find
  exact (mO_b (g := (fun x => x)) (z_fl_mono (by decide) _ _) fun S1 => (mO_b (g := (fun x => x)) (z_fl_mono (by decide) _ _) fun S2 => (mO_on (g := (fun x => x)) fun v3 => (mO_b (g := (fun x => x)) mo_z_sc fun S4 => (mO_n (g := (fun x => x)) fun v5 => (mO_n (g := (fun x => x)) fun v6 => (lp55 zbig S4 v5 v6)))))))
set_option maxHeartbeats 1000000 in
set_option maxRecDepth 20000 in
theorem c_Gap_find (S : zS) : ∀ r, f_Gap_find S = some r → zMet l y_Gap_find (zw y_Gap_find prog_3_method_2_code 3 none) 4 106 [.ref (G 9)] D zcl (ztys cA) A (zRep D cA G A) zfc zfs S (zFv r) := by
  intro r hr
  refine zMet_of (mo_Fv (mo_Gap_find S r hr)) (by decide) tk_Gap_find (Nat.le_of_ble_eq_true rfl) ?_
  intro p e R s m args below meth c hf hlo C0 hK hA
  have lp55 : ∀ (n : Nat) (S : zS) (x1 : Int32) (x2 : Int32), zSO p l e R s m args below meth c 3 A D cA G S 55 [(0, .ref (G 9)), (1, .int x1), (2, .int x2)] [] zFv (f_Gap_find_L55 n S x1 x2) := by
    intro n
    induction n with
    | zero =>
      intro S x1 x2
      rw [f_Gap_find_L55]
      exact so_none
    | succ n ih55 =>
      intro S x1 x2
      rw [f_Gap_find_L55]
      refine so_go C0 1 (pc' := 56) (lv' := [(0, .ref (G 9)), (1, .int x1), (2, .int x2)]) (st' := [.int x2]) rfl ?_
      refine so_if_le C0 rfl (fun h7 => ?_) (fun h7 => ?_)
      · exact so_retv C0 rfl rfl
      · refine so_go C0 1 (pc' := 60) (lv' := [(0, .ref (G 9)), (1, .int x1), (2, .int x2)]) (st' := [.ref (G 9)]) rfl ?_
        refine so_getf C0 hK (o := 9) (j := 2) (v := .ref (G 6)) (by decide) rfl i_Gap (by decide) wd_2_64 rfl rfl ?_
        refine so_go C0 1 (pc' := 64) (lv' := [(0, .ref (G 9)), (1, .int x1), (2, .int x2)]) (st' := [.int x1, .ref (G 6)]) rfl ?_
        refine so_cp (As := [.int x1]) (rest := []) C0 hK hA yk_Nod_upper (c_Nod_upper S x1) wd_4_88 rfl rfl ⟨by rw [hf]; decide, by rw [hlo]; decide⟩ (Nat.le_of_ble_eq_true rfl) (zrc_obj (o := 6) hK (by decide) rfl) ?_
        refine so_go C0 1 (pc' := 68) (lv' := [(0, .ref (G 9)), (1, .int x1), (2, .int x2)]) (st' := [.int (-1), .int (f_Nod_upper S x1)]) rfl ?_
        refine so_icmp_eq C0 rfl (fun h8 => ?_) (fun h8 => ?_)
        · exact so_retv C0 rfl rfl
        · refine so_go C0 2 (pc' := 73) (lv' := [(0, .ref (G 9)), (1, .int x1), (2, .int x2)]) (st' := [.ref (G 9), .ref (G 9)]) rfl ?_
          refine so_getf C0 hK (o := 9) (j := 2) (v := .ref (G 6)) (by decide) rfl i_Gap (by decide) wd_2_64 rfl rfl ?_
          refine so_go C0 1 (pc' := 77) (lv' := [(0, .ref (G 9)), (1, .int x1), (2, .int x2)]) (st' := [.int x1, .ref (G 6), .ref (G 9)]) rfl ?_
          refine so_cp (As := [.int x1]) (rest := [.ref (G 9)]) C0 hK hA yk_Nod_upper (c_Nod_upper S x1) wd_4_88 rfl rfl ⟨by rw [hf]; decide, by rw [hlo]; decide⟩ (Nat.le_of_ble_eq_true rfl) (zrc_obj (o := 6) hK (by decide) rfl) ?_
          refine so_go C0 1 (pc' := 81) (lv' := [(0, .ref (G 9)), (1, .int x1), (2, .int x2)]) (st' := [.ref (G 9), .int (f_Nod_upper S x1), .ref (G 9)]) rfl ?_
          refine so_getf C0 hK (o := 9) (j := 2) (v := .ref (G 6)) (by decide) rfl i_Gap (by decide) wd_2_64 rfl rfl ?_
          refine so_go C0 1 (pc' := 85) (lv' := [(0, .ref (G 9)), (1, .int x1), (2, .int x2)]) (st' := [.int x1, .ref (G 6), .int (f_Nod_upper S x1), .ref (G 9)]) rfl ?_
          refine so_cp (As := [.int x1]) (rest := [.int (f_Nod_upper S x1), .ref (G 9)]) C0 hK hA yk_Nod_edge (c_Nod_edge S x1) wd_4_89 rfl rfl ⟨by rw [hf]; decide, by rw [hlo]; decide⟩ (Nat.le_of_ble_eq_true rfl) (zrc_obj (o := 6) hK (by decide) rfl) ?_
          refine so_oV (As := [.int (f_Nod_upper S x1), .int (f_Nod_edge S x1)]) (rest := []) C0 hK hA yk_Gap_tellBranch (c_Gap_tellBranch S (f_Nod_upper S x1) (f_Nod_edge S x1)) wd_4_90 rfl rfl ⟨by rw [hf]; decide, by rw [hlo]; decide⟩ (Nat.le_of_ble_eq_true rfl) (zrc_obj (o := 9) hK (by decide) rfl) (fun S9 hS9 => ?_)
          refine so_go C0 1 (pc' := 92) (lv' := [(0, .ref (G 9)), (1, .int x1), (2, .int x2)]) (st' := [.ref (G 9)]) rfl ?_
          refine so_getf C0 hK (o := 9) (j := 2) (v := .ref (G 6)) (by decide) rfl i_Gap (by decide) wd_2_64 rfl rfl ?_
          refine so_go C0 1 (pc' := 96) (lv' := [(0, .ref (G 9)), (1, .int x1), (2, .int x2)]) (st' := [.int x1, .ref (G 6)]) rfl ?_
          refine so_cp (As := [.int x1]) (rest := []) C0 hK hA yk_Nod_upper (c_Nod_upper S9 x1) wd_4_88 rfl rfl ⟨by rw [hf]; decide, by rw [hlo]; decide⟩ (Nat.le_of_ble_eq_true rfl) (zrc_obj (o := 6) hK (by decide) rfl) ?_
          refine so_nm (V := .int) (fun v10 hv10 => ?_)
          refine so_go C0 3 (pc' := 55) (lv' := [(0, .ref (G 9)), (1, .int v10), (2, .int (x2 + (-1)))]) (st' := []) rfl ?_
          exact so_sub (lv' := [(0, .ref (G 9)), (1, .int v10), (2, .int (x2 + (-1)))]) (zpk [0, 1, 2] rfl) (ih55 S9 v10 (x2 + (-1)))
  have K : zSO p l e R s m args below meth c 3 A D cA G S 0 (lv_args 0 [.ref (G 9)]) [] zFv (f_Gap_find S) := by
    unfold f_Gap_find
    refine so_go C0 1 (pc' := 1) (lv' := [(0, .ref (G 9))]) (st' := [.ref (G 9)]) rfl ?_
    refine so_getf C0 hK (o := 9) (j := 3) (v := .ref (G 52)) (by decide) rfl i_Gap (by decide) wd_2_65 rfl rfl ?_
    refine so_go C0 1 (pc' := 5) (lv' := [(0, .ref (G 9))]) (st' := [.ref (G 9), .ref (G 52)]) rfl ?_
    refine so_getf C0 hK (o := 9) (j := 1) (v := .ref (G 5)) (by decide) rfl i_Gap (by decide) wd_2_63 rfl rfl ?_
    refine so_cp (As := []) (rest := [.ref (G 52)]) C0 hK hA yk_Par_size (c_Par_size S) wd_4_77 rfl rfl ⟨by rw [hf]; decide, by rw [hlo]; decide⟩ (Nat.le_of_ble_eq_true rfl) (zrc_obj (o := 5) hK (by decide) rfl) ?_
    refine so_go C0 1 (pc' := 12) (lv' := [(0, .ref (G 9))]) (st' := [.int 0, .int (f_Par_size S), .ref (G 52)]) rfl ?_
    refine so_cV (As := [.int (f_Par_size S), .int 0]) (rest := []) C0 hK hA yk_Row_refill (c_Row_refill 41 (by decide) (f_Par_size S) 0) wd_4_78 rfl rfl ⟨by rw [hf]; decide, by rw [hlo]; decide⟩ (Nat.le_of_ble_eq_true rfl) (zrc_row (k := 41) hK (by decide)) (fun S1 hS1 => ?_)
    refine so_go C0 1 (pc' := 16) (lv' := [(0, .ref (G 9))]) (st' := [.ref (G 9)]) rfl ?_
    refine so_getf C0 hK (o := 9) (j := 4) (v := .ref (G 53)) (by decide) rfl i_Gap (by decide) wd_2_66 rfl rfl ?_
    refine so_go C0 1 (pc' := 20) (lv' := [(0, .ref (G 9))]) (st' := [.ref (G 9), .ref (G 53)]) rfl ?_
    refine so_getf C0 hK (o := 9) (j := 1) (v := .ref (G 5)) (by decide) rfl i_Gap (by decide) wd_2_63 rfl rfl ?_
    refine so_cp (As := []) (rest := [.ref (G 53)]) C0 hK hA yk_Par_size (c_Par_size S1) wd_4_77 rfl rfl ⟨by rw [hf]; decide, by rw [hlo]; decide⟩ (Nat.le_of_ble_eq_true rfl) (zrc_obj (o := 5) hK (by decide) rfl) ?_
    refine so_go C0 1 (pc' := 27) (lv' := [(0, .ref (G 9))]) (st' := [.int (-1), .int (f_Par_size S1), .ref (G 53)]) rfl ?_
    refine so_cV (As := [.int (f_Par_size S1), .int (-1)]) (rest := []) C0 hK hA yk_Row_refill (c_Row_refill 42 (by decide) (f_Par_size S1) (-1)) wd_4_78 rfl rfl ⟨by rw [hf]; decide, by rw [hlo]; decide⟩ (Nat.le_of_ble_eq_true rfl) (zrc_row (k := 42) hK (by decide)) (fun S2 hS2 => ?_)
    refine so_go C0 2 (pc' := 32) (lv' := [(0, .ref (G 9))]) (st' := [.ref (G 9), .ref (G 9)]) rfl ?_
    refine so_getf C0 hK (o := 9) (j := 2) (v := .ref (G 6)) (by decide) rfl i_Gap (by decide) wd_2_64 rfl rfl ?_
    refine so_go C0 1 (pc' := 36) (lv' := [(0, .ref (G 9))]) (st' := [.int (-1), .ref (G 6), .ref (G 9)]) rfl ?_
    refine so_op (As := [.int (-1)]) (rest := [.ref (G 9)]) C0 hK hA yk_Nod_firstEndWith (c_Nod_firstEndWith S2 (-1)) wd_4_79 rfl rfl ⟨by rw [hf]; decide, by rw [hlo]; decide⟩ (Nat.le_of_ble_eq_true rfl) (zrc_obj (o := 6) hK (by decide) rfl) (fun v3 hv3 => ?_)
    refine so_putf C0 hK (o := 9) (j := 5) (q := 4) (by decide) (by decide) rfl rfl i_Gap t_Gap_ok n_Gap (by decide) (Nat.le_of_ble_eq_true rfl) rfl (by decide +kernel) wd_2_67 rfl rfl ?_
    refine so_st (fun S4 hS4 => ?_)
    refine so_go C0 1 (pc' := 43) (lv' := [(0, .ref (G 9))]) (st' := [.ref (G 9)]) rfl ?_
    refine so_getf C0 hK (o := 9) (j := 5) (v := .int (S4.2.2.1 4)) (by decide) rfl i_Gap (by decide) wd_2_67 rfl rfl ?_
    refine so_nm (V := .int) (fun v5 hv5 => ?_)
    refine so_go C0 2 (pc' := 48) (lv' := [(0, .ref (G 9)), (1, .int v5)]) (st' := [.ref (G 9)]) rfl ?_
    refine so_getf C0 hK (o := 9) (j := 2) (v := .ref (G 6)) (by decide) rfl i_Gap (by decide) wd_2_64 rfl rfl ?_
    refine so_cp (As := []) (rest := []) C0 hK hA yk_Nod_size (c_Nod_size S4) wd_4_87 rfl rfl ⟨by rw [hf]; decide, by rw [hlo]; decide⟩ (Nat.le_of_ble_eq_true rfl) (zrc_obj (o := 6) hK (by decide) rfl) ?_
    refine so_nm (V := .int) (fun v6 hv6 => ?_)
    refine so_go C0 1 (pc' := 55) (lv' := [(0, .ref (G 9)), (1, .int v5), (2, .int v6)]) (st' := []) rfl ?_
    exact so_sub (lv' := [(0, .ref (G 9)), (1, .int v5), (2, .int v6)]) (zpk [0, 1, 2] rfl) (lp55 zbig S4 v5 v6)
  exact K r hr
def f_Gap_childOrBare (S : zS) (a1 : Int32) (a2 : Int32) : Option (Int32) :=
  zob (f_Par_edgeOf S a1 a2) fun v1 =>
  zbind (f_Par_child S v1) fun v2 =>
  if ¬ v2 = (-1) then
    some v2
  else
    some (-4)
set_option maxHeartbeats 1000000 in
set_option maxRecDepth 20000 in
theorem c_Gap_childOrBare (S : zS) (a1 : Int32) (a2 : Int32) : ∀ r, f_Gap_childOrBare S a1 a2 = some r → zMet l y_Gap_childOrBare (zw y_Gap_childOrBare prog_3_method_8_code 4 (some Jvm.ClassFile.FieldType.int)) 3 69 [.ref (G 9), .int a1, .int a2] D zcl (ztys cA) A (zRep D cA G A) zfc zfs S ((zFp S) r) := by
  intro r hr
  refine zMet_of ⟨Nat.le_refl _, Nat.le_refl _⟩ (by decide) tk_Gap_childOrBare (Nat.le_of_ble_eq_true rfl) ?_
  intro p e R s m args below meth c hf hlo C0 hK hA
  have K : zSO p l e R s m args below meth c 4 A D cA G S 0 (lv_args 0 [.ref (G 9), .int a1, .int a2]) [] (zFp S) (f_Gap_childOrBare S a1 a2) := by
    unfold f_Gap_childOrBare
    refine so_go C0 1 (pc' := 1) (lv' := [(0, .ref (G 9)), (1, .int a1), (2, .int a2)]) (st' := [.ref (G 9)]) rfl ?_
    refine so_getf C0 hK (o := 9) (j := 1) (v := .ref (G 5)) (by decide) rfl i_Gap (by decide) wd_2_63 rfl rfl ?_
    refine so_go C0 1 (pc' := 5) (lv' := [(0, .ref (G 9)), (1, .int a1), (2, .int a2)]) (st' := [.ref (G 9), .ref (G 5)]) rfl ?_
    refine so_getf C0 hK (o := 9) (j := 1) (v := .ref (G 5)) (by decide) rfl i_Gap (by decide) wd_2_63 rfl rfl ?_
    refine so_go C0 2 (pc' := 10) (lv' := [(0, .ref (G 9)), (1, .int a1), (2, .int a2)]) (st' := [.int a2, .int a1, .ref (G 5), .ref (G 5)]) rfl ?_
    refine so_op (As := [.int a1, .int a2]) (rest := [.ref (G 5)]) C0 hK hA yk_Par_edgeOf (c_Par_edgeOf S a1 a2) wd_4_234 rfl rfl ⟨by rw [hf]; decide, by rw [hlo]; decide⟩ (Nat.le_of_ble_eq_true rfl) (zrc_obj (o := 5) hK (by decide) rfl) (fun v1 hv1 => ?_)
    refine so_cp (As := [.int v1]) (rest := []) C0 hK hA yk_Par_child (c_Par_child S v1) wd_4_238 rfl rfl ⟨by rw [hf]; decide, by rw [hlo]; decide⟩ (Nat.le_of_ble_eq_true rfl) (zrc_obj (o := 5) hK (by decide) rfl) ?_
    refine so_nm (V := .int) (fun v2 hv2 => ?_)
    refine so_go C0 3 (pc' := 19) (lv' := [(0, .ref (G 9)), (1, .int a1), (2, .int a2), (3, .int v2)]) (st' := [.int (-1), .int v2]) rfl ?_
    refine so_icmp_ne C0 rfl (fun h3 => ?_) (fun h3 => ?_)
    · refine so_go C0 1 (pc' := 28) (lv' := [(0, .ref (G 9)), (1, .int a1), (2, .int a2), (3, .int v2)]) (st' := [.int v2]) rfl ?_
      exact so_reti C0 rfl rfl
    · refine so_go C0 2 (pc' := 28) (lv' := [(0, .ref (G 9)), (1, .int a1), (2, .int a2), (3, .int v2)]) (st' := [.int (-4)]) rfl ?_
      exact so_reti C0 rfl rfl
  exact K r hr
def f_Gap_below (S : zS) (a1 : Int32) (a2 : Int32) : Option (Int32) :=
  if ¬ a1 = (-4) then
    zbind (r_at S 41 a1) fun v2 =>
    if ¬ v2 = 4 then
      if a2 = 1 then
        zbind (r_at S 42 a1) fun v5 =>
        if ¬ v2 = 2 then
          if ¬ v2 = 3 then
            some (-1)
          else
            zob (f_Par_edgeOf S a1 v5) fun v8 =>
            some (f_Par_child S v8)
        else
          if (f_Fam_takesArgument S (f_Par_sort S a1) v5) = 0 then
            some (-1)
          else
            zob (f_Gap_childOrBare S a1 v5) fun v10 =>
            some v10
      else
        some (-1)
    else
      if (f_Par_sort S a1) < a2 then
        some (-1)
      else
        zob (f_Gap_childOrBare S a1 (a2 - 1)) fun v12 =>
        some v12
  else
    if a2 = 1 then
      zbind (r_at S 42 a1) fun v14 =>
      some (-1)
    else
      some (-1)
set_option maxHeartbeats 1000000 in
set_option maxRecDepth 20000 in
theorem c_Gap_below (S : zS) (a1 : Int32) (a2 : Int32) : ∀ r, f_Gap_below S a1 a2 = some r → zMet l y_Gap_below (zw y_Gap_below prog_3_method_7_code 5 (some Jvm.ClassFile.FieldType.int)) 4 92 [.ref (G 9), .int a1, .int a2] D zcl (ztys cA) A (zRep D cA G A) zfc zfs S ((zFp S) r) := by
  intro r hr
  refine zMet_of ⟨Nat.le_refl _, Nat.le_refl _⟩ (by decide) tk_Gap_below (Nat.le_of_ble_eq_true rfl) ?_
  intro p e R s m args below meth c hf hlo C0 hK hA
  have K : zSO p l e R s m args below meth c 5 A D cA G S 0 (lv_args 0 [.ref (G 9), .int a1, .int a2]) [] (zFp S) (f_Gap_below S a1 a2) := by
    unfold f_Gap_below
    refine so_go C0 2 (pc' := 3) (lv' := [(0, .ref (G 9)), (1, .int a1), (2, .int a2)]) (st' := [.int (-4), .int a1]) rfl ?_
    refine so_icmp_ne C0 rfl (fun h1 => ?_) (fun h1 => ?_)
    · refine so_go C0 1 (pc' := 11) (lv' := [(0, .ref (G 9)), (1, .int a1), (2, .int a2)]) (st' := [.ref (G 9)]) rfl ?_
      refine so_getf C0 hK (o := 9) (j := 3) (v := .ref (G 52)) (by decide) rfl i_Gap (by decide) wd_2_65 rfl rfl ?_
      refine so_go C0 1 (pc' := 15) (lv' := [(0, .ref (G 9)), (1, .int a1), (2, .int a2)]) (st' := [.int a1, .ref (G 52)]) rfl ?_
      refine so_cp (As := [.int a1]) (rest := []) C0 hK hA yk_Row_at (c_Row_at 41 (by decide) a1) wd_4_228 rfl rfl ⟨by rw [hf]; decide, by rw [hlo]; decide⟩ (Nat.le_of_ble_eq_true rfl) (zrc_row (k := 41) hK (by decide)) ?_
      refine so_nm (V := .int) (fun v2 hv2 => ?_)
      refine so_go C0 3 (pc' := 21) (lv' := [(0, .ref (G 9)), (1, .int a1), (2, .int a2), (3, .int v2)]) (st' := [.int 4, .int v2]) rfl ?_
      refine so_icmp_ne C0 rfl (fun h3 => ?_) (fun h3 => ?_)
      · refine so_go C0 2 (pc' := 51) (lv' := [(0, .ref (G 9)), (1, .int a1), (2, .int a2), (3, .int v2)]) (st' := [.int 1, .int a2]) rfl ?_
        refine so_icmp_eq C0 rfl (fun h4 => ?_) (fun h4 => ?_)
        · refine so_go C0 1 (pc' := 57) (lv' := [(0, .ref (G 9)), (1, .int a1), (2, .int a2), (3, .int v2)]) (st' := [.ref (G 9)]) rfl ?_
          refine so_getf C0 hK (o := 9) (j := 4) (v := .ref (G 53)) (by decide) rfl i_Gap (by decide) wd_2_66 rfl rfl ?_
          refine so_go C0 1 (pc' := 61) (lv' := [(0, .ref (G 9)), (1, .int a1), (2, .int a2), (3, .int v2)]) (st' := [.int a1, .ref (G 53)]) rfl ?_
          refine so_cp (As := [.int a1]) (rest := []) C0 hK hA yk_Row_at (c_Row_at 42 (by decide) a1) wd_4_228 rfl rfl ⟨by rw [hf]; decide, by rw [hlo]; decide⟩ (Nat.le_of_ble_eq_true rfl) (zrc_row (k := 42) hK (by decide)) ?_
          refine so_nm (V := .int) (fun v5 hv5 => ?_)
          refine so_go C0 3 (pc' := 68) (lv' := [(0, .ref (G 9)), (1, .int a1), (2, .int a2), (3, .int v2), (4, .int v5)]) (st' := [.int 2, .int v2]) rfl ?_
          refine so_icmp_ne C0 rfl (fun h6 => ?_) (fun h6 => ?_)
          · refine so_go C0 2 (pc' := 105) (lv' := [(0, .ref (G 9)), (1, .int a1), (2, .int a2), (3, .int v2), (4, .int v5)]) (st' := [.int 3, .int v2]) rfl ?_
            refine so_icmp_ne C0 rfl (fun h7 => ?_) (fun h7 => ?_)
            · refine so_go C0 1 (pc' := 129) (lv' := [(0, .ref (G 9)), (1, .int a1), (2, .int a2), (3, .int v2), (4, .int v5)]) (st' := [.int (-1)]) rfl ?_
              exact so_reti C0 rfl rfl
            · refine so_go C0 1 (pc' := 109) (lv' := [(0, .ref (G 9)), (1, .int a1), (2, .int a2), (3, .int v2), (4, .int v5)]) (st' := [.ref (G 9)]) rfl ?_
              refine so_getf C0 hK (o := 9) (j := 1) (v := .ref (G 5)) (by decide) rfl i_Gap (by decide) wd_2_63 rfl rfl ?_
              refine so_go C0 1 (pc' := 113) (lv' := [(0, .ref (G 9)), (1, .int a1), (2, .int a2), (3, .int v2), (4, .int v5)]) (st' := [.ref (G 9), .ref (G 5)]) rfl ?_
              refine so_getf C0 hK (o := 9) (j := 1) (v := .ref (G 5)) (by decide) rfl i_Gap (by decide) wd_2_63 rfl rfl ?_
              refine so_go C0 2 (pc' := 119) (lv' := [(0, .ref (G 9)), (1, .int a1), (2, .int a2), (3, .int v2), (4, .int v5)]) (st' := [.int v5, .int a1, .ref (G 5), .ref (G 5)]) rfl ?_
              refine so_op (As := [.int a1, .int v5]) (rest := [.ref (G 5)]) C0 hK hA yk_Par_edgeOf (c_Par_edgeOf S a1 v5) wd_4_234 rfl rfl ⟨by rw [hf]; decide, by rw [hlo]; decide⟩ (Nat.le_of_ble_eq_true rfl) (zrc_obj (o := 5) hK (by decide) rfl) (fun v8 hv8 => ?_)
              refine so_cp (As := [.int v8]) (rest := []) C0 hK hA yk_Par_child (c_Par_child S v8) wd_4_238 rfl rfl ⟨by rw [hf]; decide, by rw [hlo]; decide⟩ (Nat.le_of_ble_eq_true rfl) (zrc_obj (o := 5) hK (by decide) rfl) ?_
              refine so_go C0 1 (pc' := 129) (lv' := [(0, .ref (G 9)), (1, .int a1), (2, .int a2), (3, .int v2), (4, .int v5)]) (st' := [.int (f_Par_child S v8)]) rfl ?_
              exact so_reti C0 rfl rfl
          · refine so_go C0 1 (pc' := 72) (lv' := [(0, .ref (G 9)), (1, .int a1), (2, .int a2), (3, .int v2), (4, .int v5)]) (st' := [.ref (G 9)]) rfl ?_
            refine so_getf C0 hK (o := 9) (j := 0) (v := .ref (G 1)) (by decide) rfl i_Gap (by decide) wd_2_62 rfl rfl ?_
            refine so_go C0 1 (pc' := 76) (lv' := [(0, .ref (G 9)), (1, .int a1), (2, .int a2), (3, .int v2), (4, .int v5)]) (st' := [.ref (G 9), .ref (G 1)]) rfl ?_
            refine so_getf C0 hK (o := 9) (j := 1) (v := .ref (G 5)) (by decide) rfl i_Gap (by decide) wd_2_63 rfl rfl ?_
            refine so_go C0 1 (pc' := 80) (lv' := [(0, .ref (G 9)), (1, .int a1), (2, .int a2), (3, .int v2), (4, .int v5)]) (st' := [.int a1, .ref (G 5), .ref (G 1)]) rfl ?_
            refine so_cp (As := [.int a1]) (rest := [.ref (G 1)]) C0 hK hA yk_Par_sort (c_Par_sort S a1) wd_4_229 rfl rfl ⟨by rw [hf]; decide, by rw [hlo]; decide⟩ (Nat.le_of_ble_eq_true rfl) (zrc_obj (o := 5) hK (by decide) rfl) ?_
            refine so_go C0 1 (pc' := 85) (lv' := [(0, .ref (G 9)), (1, .int a1), (2, .int a2), (3, .int v2), (4, .int v5)]) (st' := [.int v5, .int (f_Par_sort S a1), .ref (G 1)]) rfl ?_
            refine so_cp (As := [.int (f_Par_sort S a1), .int v5]) (rest := []) C0 hK hA yk_Fam_takesArgument (c_Fam_takesArgument S (f_Par_sort S a1) v5) wd_4_239 rfl rfl ⟨by rw [hf]; decide, by rw [hlo]; decide⟩ (Nat.le_of_ble_eq_true rfl) (zrc_obj (o := 1) hK (by decide) rfl) ?_
            refine so_if_eq C0 rfl (fun h9 => ?_) (fun h9 => ?_)
            · refine so_go C0 1 (pc' := 102) (lv' := [(0, .ref (G 9)), (1, .int a1), (2, .int a2), (3, .int v2), (4, .int v5)]) (st' := [.int (-1)]) rfl ?_
              exact so_reti C0 rfl rfl
            · refine so_go C0 3 (pc' := 95) (lv' := [(0, .ref (G 9)), (1, .int a1), (2, .int a2), (3, .int v2), (4, .int v5)]) (st' := [.int v5, .int a1, .ref (G 9)]) rfl ?_
              refine so_op (As := [.int a1, .int v5]) (rest := []) C0 hK hA yk_Gap_childOrBare (c_Gap_childOrBare S a1 v5) wd_4_230 rfl rfl ⟨by rw [hf]; decide, by rw [hlo]; decide⟩ (Nat.le_of_ble_eq_true rfl) (zrc_obj (o := 9) hK (by decide) rfl) (fun v10 hv10 => ?_)
              refine so_go C0 1 (pc' := 102) (lv' := [(0, .ref (G 9)), (1, .int a1), (2, .int a2), (3, .int v2), (4, .int v5)]) (st' := [.int v10]) rfl ?_
              exact so_reti C0 rfl rfl
        · refine so_go C0 1 (pc' := 55) (lv' := [(0, .ref (G 9)), (1, .int a1), (2, .int a2), (3, .int v2)]) (st' := [.int (-1)]) rfl ?_
          exact so_reti C0 rfl rfl
      · refine so_go C0 2 (pc' := 26) (lv' := [(0, .ref (G 9)), (1, .int a1), (2, .int a2), (3, .int v2)]) (st' := [.ref (G 9), .int a2]) rfl ?_
        refine so_getf C0 hK (o := 9) (j := 1) (v := .ref (G 5)) (by decide) rfl i_Gap (by decide) wd_2_63 rfl rfl ?_
        refine so_go C0 1 (pc' := 30) (lv' := [(0, .ref (G 9)), (1, .int a1), (2, .int a2), (3, .int v2)]) (st' := [.int a1, .ref (G 5), .int a2]) rfl ?_
        refine so_cp (As := [.int a1]) (rest := [.int a2]) C0 hK hA yk_Par_sort (c_Par_sort S a1) wd_4_229 rfl rfl ⟨by rw [hf]; decide, by rw [hlo]; decide⟩ (Nat.le_of_ble_eq_true rfl) (zrc_obj (o := 5) hK (by decide) rfl) ?_
        refine so_icmp_gt C0 rfl (fun h11 => ?_) (fun h11 => ?_)
        · refine so_go C0 1 (pc' := 48) (lv' := [(0, .ref (G 9)), (1, .int a1), (2, .int a2), (3, .int v2)]) (st' := [.int (-1)]) rfl ?_
          exact so_reti C0 rfl rfl
        · refine so_go C0 5 (pc' := 41) (lv' := [(0, .ref (G 9)), (1, .int a1), (2, .int a2), (3, .int v2)]) (st' := [.int (a2 - 1), .int a1, .ref (G 9)]) rfl ?_
          refine so_op (As := [.int a1, .int (a2 - 1)]) (rest := []) C0 hK hA yk_Gap_childOrBare (c_Gap_childOrBare S a1 (a2 - 1)) wd_4_230 rfl rfl ⟨by rw [hf]; decide, by rw [hlo]; decide⟩ (Nat.le_of_ble_eq_true rfl) (zrc_obj (o := 9) hK (by decide) rfl) (fun v12 hv12 => ?_)
          refine so_go C0 1 (pc' := 48) (lv' := [(0, .ref (G 9)), (1, .int a1), (2, .int a2), (3, .int v2)]) (st' := [.int v12]) rfl ?_
          exact so_reti C0 rfl rfl
    · refine so_go C0 5 (pc' := 21) (lv' := [(0, .ref (G 9)), (1, .int a1), (2, .int a2), (3, .int 0)]) (st' := [.int 4, .int 0]) rfl ?_
      refine so_icmp_neT C0 rfl (by decide) ?_
      refine so_go C0 2 (pc' := 51) (lv' := [(0, .ref (G 9)), (1, .int a1), (2, .int a2), (3, .int 0)]) (st' := [.int 1, .int a2]) rfl ?_
      refine so_icmp_eq C0 rfl (fun h13 => ?_) (fun h13 => ?_)
      · refine so_go C0 1 (pc' := 57) (lv' := [(0, .ref (G 9)), (1, .int a1), (2, .int a2), (3, .int 0)]) (st' := [.ref (G 9)]) rfl ?_
        refine so_getf C0 hK (o := 9) (j := 4) (v := .ref (G 53)) (by decide) rfl i_Gap (by decide) wd_2_66 rfl rfl ?_
        refine so_go C0 1 (pc' := 61) (lv' := [(0, .ref (G 9)), (1, .int a1), (2, .int a2), (3, .int 0)]) (st' := [.int a1, .ref (G 53)]) rfl ?_
        refine so_cp (As := [.int a1]) (rest := []) C0 hK hA yk_Row_at (c_Row_at 42 (by decide) a1) wd_4_228 rfl rfl ⟨by rw [hf]; decide, by rw [hlo]; decide⟩ (Nat.le_of_ble_eq_true rfl) (zrc_row (k := 42) hK (by decide)) ?_
        refine so_nm (V := .int) (fun v14 hv14 => ?_)
        refine so_go C0 3 (pc' := 68) (lv' := [(0, .ref (G 9)), (1, .int a1), (2, .int a2), (3, .int 0), (4, .int v14)]) (st' := [.int 2, .int 0]) rfl ?_
        refine so_icmp_neT C0 rfl (by decide) ?_
        refine so_go C0 2 (pc' := 105) (lv' := [(0, .ref (G 9)), (1, .int a1), (2, .int a2), (3, .int 0), (4, .int v14)]) (st' := [.int 3, .int 0]) rfl ?_
        refine so_icmp_neT C0 rfl (by decide) ?_
        refine so_go C0 1 (pc' := 129) (lv' := [(0, .ref (G 9)), (1, .int a1), (2, .int a2), (3, .int 0), (4, .int v14)]) (st' := [.int (-1)]) rfl ?_
        exact so_reti C0 rfl rfl
      · refine so_go C0 1 (pc' := 55) (lv' := [(0, .ref (G 9)), (1, .int a1), (2, .int a2), (3, .int 0)]) (st' := [.int (-1)]) rfl ?_
        exact so_reti C0 rfl rfl
  exact K r hr
def f_Gap_tellPart (S : zS) (a1 : Int32) (a2 : Int32) : Int32 :=
  if ¬ a1 = (-4) then
    zbind (r_at S 41 a1) fun v2 =>
    if ¬ a2 = 0 then
      if ¬ a2 = 1 then
        (-1)
      else
        if v2 = 0 then
          (-1)
        else
          if v2 = 4 then
            (-1)
          else
            (r_at S 42 a1)
    else
      v2
  else
    if ¬ a2 = 0 then
      if ¬ a2 = 1 then
        (-1)
      else
        (-1)
    else
      0
set_option maxHeartbeats 1000000 in
set_option maxRecDepth 20000 in
theorem c_Gap_tellPart (S : zS) (a1 : Int32) (a2 : Int32) : zMet l y_Gap_tellPart (zw y_Gap_tellPart prog_3_method_6_code 4 (some Jvm.ClassFile.FieldType.int)) 1 21 [.ref (G 9), .int a1, .int a2] D zcl (ztys cA) A (zRep D cA G A) zfc zfs S ((zFp S) (f_Gap_tellPart S a1 a2)) := by
  refine zMet_of ⟨Nat.le_refl _, Nat.le_refl _⟩ (by decide) tk_Gap_tellPart (Nat.le_of_ble_eq_true rfl) ?_
  intro p e R s m args below meth c hf hlo C0 hK hA
  unfold f_Gap_tellPart
  refine sw_go C0 2 (pc' := 3) (lv' := [(0, .ref (G 9)), (1, .int a1), (2, .int a2)]) (st' := [.int (-4), .int a1]) rfl ?_
  refine sw_icmp_ne (zFp S) C0 rfl (fun h1 => ?_) (fun h1 => ?_)
  · refine sw_go C0 1 (pc' := 11) (lv' := [(0, .ref (G 9)), (1, .int a1), (2, .int a2)]) (st' := [.ref (G 9)]) rfl ?_
    refine sw_getf C0 hK (o := 9) (j := 3) (v := .ref (G 52)) (by decide) rfl i_Gap (by decide) wd_2_65 rfl rfl ?_
    refine sw_go C0 1 (pc' := 15) (lv' := [(0, .ref (G 9)), (1, .int a1), (2, .int a2)]) (st' := [.int a1, .ref (G 52)]) rfl ?_
    refine sw_cp (As := [.int a1]) (rest := []) C0 hK hA yk_Row_at (c_Row_at 41 (by decide) a1) wd_4_228 rfl rfl ⟨by rw [hf]; decide, by rw [hlo]; decide⟩ (Nat.le_of_ble_eq_true rfl) (zrc_row (k := 41) hK (by decide)) ?_
    refine sw_nm (zFp S) (V := .int) (fun v2 hv2 => ?_)
    refine sw_go C0 2 (pc' := 20) (lv' := [(0, .ref (G 9)), (1, .int a1), (2, .int a2), (3, .int v2)]) (st' := [.int a2]) rfl ?_
    refine sw_if_ne (zFp S) C0 rfl (fun h3 => ?_) (fun h3 => ?_)
    · refine sw_go C0 2 (pc' := 27) (lv' := [(0, .ref (G 9)), (1, .int a1), (2, .int a2), (3, .int v2)]) (st' := [.int 1, .int a2]) rfl ?_
      refine sw_icmp_ne (zFp S) C0 rfl (fun h4 => ?_) (fun h4 => ?_)
      · refine sw_go C0 1 (pc' := 51) (lv' := [(0, .ref (G 9)), (1, .int a1), (2, .int a2), (3, .int v2)]) (st' := [.int (-1)]) rfl ?_
        exact sw_reti C0 rfl rfl
      · refine sw_go C0 1 (pc' := 31) (lv' := [(0, .ref (G 9)), (1, .int a1), (2, .int a2), (3, .int v2)]) (st' := [.int v2]) rfl ?_
        refine sw_if_eq (zFp S) C0 rfl (fun h5 => ?_) (fun h5 => ?_)
        · refine sw_go C0 1 (pc' := 51) (lv' := [(0, .ref (G 9)), (1, .int a1), (2, .int a2), (3, .int v2)]) (st' := [.int (-1)]) rfl ?_
          exact sw_reti C0 rfl rfl
        · refine sw_go C0 2 (pc' := 36) (lv' := [(0, .ref (G 9)), (1, .int a1), (2, .int a2), (3, .int v2)]) (st' := [.int 4, .int v2]) rfl ?_
          refine sw_icmp_eq (zFp S) C0 rfl (fun h6 => ?_) (fun h6 => ?_)
          · refine sw_go C0 1 (pc' := 51) (lv' := [(0, .ref (G 9)), (1, .int a1), (2, .int a2), (3, .int v2)]) (st' := [.int (-1)]) rfl ?_
            exact sw_reti C0 rfl rfl
          · refine sw_go C0 1 (pc' := 40) (lv' := [(0, .ref (G 9)), (1, .int a1), (2, .int a2), (3, .int v2)]) (st' := [.ref (G 9)]) rfl ?_
            refine sw_getf C0 hK (o := 9) (j := 4) (v := .ref (G 53)) (by decide) rfl i_Gap (by decide) wd_2_66 rfl rfl ?_
            refine sw_go C0 1 (pc' := 44) (lv' := [(0, .ref (G 9)), (1, .int a1), (2, .int a2), (3, .int v2)]) (st' := [.int a1, .ref (G 53)]) rfl ?_
            refine sw_cp (As := [.int a1]) (rest := []) C0 hK hA yk_Row_at (c_Row_at 42 (by decide) a1) wd_4_228 rfl rfl ⟨by rw [hf]; decide, by rw [hlo]; decide⟩ (Nat.le_of_ble_eq_true rfl) (zrc_row (k := 42) hK (by decide)) ?_
            refine sw_go C0 1 (pc' := 51) (lv' := [(0, .ref (G 9)), (1, .int a1), (2, .int a2), (3, .int v2)]) (st' := [.int (r_at S 42 a1)]) rfl ?_
            exact sw_reti C0 rfl rfl
    · refine sw_go C0 1 (pc' := 24) (lv' := [(0, .ref (G 9)), (1, .int a1), (2, .int a2), (3, .int v2)]) (st' := [.int v2]) rfl ?_
      exact sw_reti C0 rfl rfl
  · refine sw_go C0 4 (pc' := 20) (lv' := [(0, .ref (G 9)), (1, .int a1), (2, .int a2), (3, .int 0)]) (st' := [.int a2]) rfl ?_
    refine sw_if_ne (zFp S) C0 rfl (fun h7 => ?_) (fun h7 => ?_)
    · refine sw_go C0 2 (pc' := 27) (lv' := [(0, .ref (G 9)), (1, .int a1), (2, .int a2), (3, .int 0)]) (st' := [.int 1, .int a2]) rfl ?_
      refine sw_icmp_ne (zFp S) C0 rfl (fun h8 => ?_) (fun h8 => ?_)
      · refine sw_go C0 1 (pc' := 51) (lv' := [(0, .ref (G 9)), (1, .int a1), (2, .int a2), (3, .int 0)]) (st' := [.int (-1)]) rfl ?_
        exact sw_reti C0 rfl rfl
      · refine sw_go C0 1 (pc' := 31) (lv' := [(0, .ref (G 9)), (1, .int a1), (2, .int a2), (3, .int 0)]) (st' := [.int 0]) rfl ?_
        refine sw_if_eqT C0 rfl (by decide) ?_
        refine sw_go C0 1 (pc' := 51) (lv' := [(0, .ref (G 9)), (1, .int a1), (2, .int a2), (3, .int 0)]) (st' := [.int (-1)]) rfl ?_
        exact sw_reti C0 rfl rfl
    · refine sw_go C0 1 (pc' := 24) (lv' := [(0, .ref (G 9)), (1, .int a1), (2, .int a2), (3, .int 0)]) (st' := [.int 0]) rfl ?_
      exact sw_reti C0 rfl rfl
def f_Gap_tell_L16 : Nat → zS → Int64 → Int32 → Int32 → Int32 → Option (Int32)
  | 0, _, _, _, _, _ => none
  | n + 1, S, x1, x3, x4, x5 =>
    if 8 ≤ x5 then
      if ¬ x4 = (-1) then
        some (f_Gap_tellPart S x4 x3)
      else
        some (-1)
    else
      if x4 = (-1) then
        if ¬ x4 = (-1) then
          some (f_Gap_tellPart S x4 x3)
        else
          some (-1)
      else
        zbind (((z_lushr x1 (8 * x5)) &&& 255).toInt32) fun v6 =>
        if ¬ v6 = 0 then
          zob (f_Gap_below S x4 v6) fun v8 =>
          f_Gap_tell_L16 n S x1 x3 v8 (x5 + 1)
        else
          if ¬ x4 = (-1) then
            some (f_Gap_tellPart S x4 x3)
          else
            some (-1)
def f_Gap_tell (S : zS) (a1 : Int64) (a2 : Int32) : Option (Int32) :=
  if ¬ (S.2.2.1 4) = (-1) then
    f_Gap_tell_L16 zbig S a1 a2 0 0
  else
    some (-1)
set_option maxHeartbeats 1000000 in
set_option maxRecDepth 20000 in
theorem c_Gap_tell (S : zS) (a1 : Int64) (a2 : Int32) : ∀ r, f_Gap_tell S a1 a2 = some r → zMet l y_Gap_tell (zw y_Gap_tell prog_3_method_3_code 7 (some Jvm.ClassFile.FieldType.int)) 5 116 [.ref (G 9), .long a1, .int a2] D zcl (ztys cA) A (zRep D cA G A) zfc zfs S ((zFp S) r) := by
  intro r hr
  refine zMet_of ⟨Nat.le_refl _, Nat.le_refl _⟩ (by decide) tk_Gap_tell (Nat.le_of_ble_eq_true rfl) ?_
  intro p e R s m args below meth c hf hlo C0 hK hA
  have lp16 : ∀ (n : Nat) (x1 : Int64) (x3 : Int32) (x4 : Int32) (x5 : Int32), zSO p l e R s m args below meth c 7 A D cA G S 16 [(0, .ref (G 9)), (1, .long x1), (3, .int x3), (4, .int x4), (5, .int x5)] [] (zFp S) (f_Gap_tell_L16 n S x1 x3 x4 x5) := by
    intro n
    induction n with
    | zero =>
      intro x1 x3 x4 x5
      rw [f_Gap_tell_L16]
      exact so_none
    | succ n ih16 =>
      intro x1 x3 x4 x5
      rw [f_Gap_tell_L16]
      refine so_go C0 2 (pc' := 20) (lv' := [(0, .ref (G 9)), (1, .long x1), (3, .int x3), (4, .int x4), (5, .int x5)]) (st' := [.int 8, .int x5]) rfl ?_
      refine so_icmp_ge C0 rfl (fun h2 => ?_) (fun h2 => ?_)
      · refine so_go C0 2 (pc' := 70) (lv' := [(0, .ref (G 9)), (1, .long x1), (3, .int x3), (4, .int x4), (5, .int x5)]) (st' := [.int (-1), .int x4]) rfl ?_
        refine so_icmp_ne C0 rfl (fun h3 => ?_) (fun h3 => ?_)
        · refine so_go C0 3 (pc' := 81) (lv' := [(0, .ref (G 9)), (1, .long x1), (3, .int x3), (4, .int x4), (5, .int x5)]) (st' := [.int x3, .int x4, .ref (G 9)]) rfl ?_
          refine so_cp (As := [.int x4, .int x3]) (rest := []) C0 hK hA yk_Gap_tellPart (c_Gap_tellPart S x4 x3) wd_5_0 rfl rfl ⟨by rw [hf]; decide, by rw [hlo]; decide⟩ (Nat.le_of_ble_eq_true rfl) (zrc_obj (o := 9) hK (by decide) rfl) ?_
          exact so_reti C0 rfl rfl
        · refine so_go C0 2 (pc' := 84) (lv' := [(0, .ref (G 9)), (1, .long x1), (3, .int x3), (4, .int x4), (5, .int x5)]) (st' := [.int (-1)]) rfl ?_
          exact so_reti C0 rfl rfl
      · refine so_go C0 2 (pc' := 26) (lv' := [(0, .ref (G 9)), (1, .long x1), (3, .int x3), (4, .int x4), (5, .int x5)]) (st' := [.int (-1), .int x4]) rfl ?_
        refine so_icmp_eq C0 rfl (fun h4 => ?_) (fun h4 => ?_)
        · refine so_go C0 2 (pc' := 70) (lv' := [(0, .ref (G 9)), (1, .long x1), (3, .int x3), (4, .int x4), (5, .int x5)]) (st' := [.int (-1), .int x4]) rfl ?_
          refine so_icmp_ne C0 rfl (fun h5 => ?_) (fun h5 => ?_)
          · refine so_go C0 3 (pc' := 81) (lv' := [(0, .ref (G 9)), (1, .long x1), (3, .int x3), (4, .int x4), (5, .int x5)]) (st' := [.int x3, .int x4, .ref (G 9)]) rfl ?_
            refine so_cp (As := [.int x4, .int x3]) (rest := []) C0 hK hA yk_Gap_tellPart (c_Gap_tellPart S x4 x3) wd_5_0 rfl rfl ⟨by rw [hf]; decide, by rw [hlo]; decide⟩ (Nat.le_of_ble_eq_true rfl) (zrc_obj (o := 9) hK (by decide) rfl) ?_
            exact so_reti C0 rfl rfl
          · refine so_go C0 2 (pc' := 84) (lv' := [(0, .ref (G 9)), (1, .long x1), (3, .int x3), (4, .int x4), (5, .int x5)]) (st' := [.int (-1)]) rfl ?_
            exact so_reti C0 rfl rfl
        · refine so_go C0 5 (pc' := 36) (lv' := [(0, .ref (G 9)), (1, .long x1), (3, .int x3), (4, .int x4), (5, .int x5)]) (st' := [.long (z_lushr x1 (8 * x5))]) rfl ?_
          refine so_ldc2 C0 wd_4_223 rfl ?_
          refine so_go C0 2 (pc' := 41) (lv' := [(0, .ref (G 9)), (1, .long x1), (3, .int x3), (4, .int x4), (5, .int x5)]) (st' := [.int (((z_lushr x1 (8 * x5)) &&& 255).toInt32)]) rfl ?_
          refine so_nm (V := .int) (fun v6 hv6 => ?_)
          refine so_go C0 2 (pc' := 45) (lv' := [(0, .ref (G 9)), (1, .long x1), (3, .int x3), (4, .int x4), (5, .int x5), (6, .int v6)]) (st' := [.int v6]) rfl ?_
          refine so_if_ne C0 rfl (fun h7 => ?_) (fun h7 => ?_)
          · refine so_go C0 3 (pc' := 56) (lv' := [(0, .ref (G 9)), (1, .long x1), (3, .int x3), (4, .int x4), (5, .int x5), (6, .int v6)]) (st' := [.int v6, .int x4, .ref (G 9)]) rfl ?_
            refine so_op (As := [.int x4, .int v6]) (rest := []) C0 hK hA yk_Gap_below (c_Gap_below S x4 v6) wd_4_224 rfl rfl ⟨by rw [hf]; decide, by rw [hlo]; decide⟩ (Nat.le_of_ble_eq_true rfl) (zrc_obj (o := 9) hK (by decide) rfl) (fun v8 hv8 => ?_)
            refine so_go C0 3 (pc' := 16) (lv' := [(0, .ref (G 9)), (1, .long x1), (3, .int x3), (4, .int v8), (5, .int (x5 + 1)), (6, .int v6)]) (st' := []) rfl ?_
            exact so_sub (lv' := [(0, .ref (G 9)), (1, .long x1), (3, .int x3), (4, .int v8), (5, .int (x5 + 1))]) (zpk [0, 1, 2, 3, 4] rfl) (ih16 x1 x3 v8 (x5 + 1))
          · refine so_go C0 3 (pc' := 70) (lv' := [(0, .ref (G 9)), (1, .long x1), (3, .int x3), (4, .int x4), (5, .int x5), (6, .int v6)]) (st' := [.int (-1), .int x4]) rfl ?_
            refine so_icmp_ne C0 rfl (fun h9 => ?_) (fun h9 => ?_)
            · refine so_go C0 3 (pc' := 81) (lv' := [(0, .ref (G 9)), (1, .long x1), (3, .int x3), (4, .int x4), (5, .int x5), (6, .int v6)]) (st' := [.int x3, .int x4, .ref (G 9)]) rfl ?_
              refine so_cp (As := [.int x4, .int x3]) (rest := []) C0 hK hA yk_Gap_tellPart (c_Gap_tellPart S x4 x3) wd_5_0 rfl rfl ⟨by rw [hf]; decide, by rw [hlo]; decide⟩ (Nat.le_of_ble_eq_true rfl) (zrc_obj (o := 9) hK (by decide) rfl) ?_
              exact so_reti C0 rfl rfl
            · refine so_go C0 2 (pc' := 84) (lv' := [(0, .ref (G 9)), (1, .long x1), (3, .int x3), (4, .int x4), (5, .int x5), (6, .int v6)]) (st' := [.int (-1)]) rfl ?_
              exact so_reti C0 rfl rfl
  have K : zSO p l e R s m args below meth c 7 A D cA G S 0 (lv_args 0 [.ref (G 9), .long a1, .int a2]) [] (zFp S) (f_Gap_tell S a1 a2) := by
    unfold f_Gap_tell
    refine so_go C0 1 (pc' := 1) (lv' := [(0, .ref (G 9)), (1, .long a1), (3, .int a2)]) (st' := [.ref (G 9)]) rfl ?_
    refine so_getf C0 hK (o := 9) (j := 5) (v := .int (S.2.2.1 4)) (by decide) rfl i_Gap (by decide) wd_2_67 rfl rfl ?_
    refine so_go C0 1 (pc' := 5) (lv' := [(0, .ref (G 9)), (1, .long a1), (3, .int a2)]) (st' := [.int (-1), .int (S.2.2.1 4)]) rfl ?_
    refine so_icmp_ne C0 rfl (fun h1 => ?_) (fun h1 => ?_)
    · refine so_go C0 4 (pc' := 16) (lv' := [(0, .ref (G 9)), (1, .long a1), (3, .int a2), (4, .int 0), (5, .int 0)]) (st' := []) rfl ?_
      exact so_sub (lv' := [(0, .ref (G 9)), (1, .long a1), (3, .int a2), (4, .int 0), (5, .int 0)]) (zpk [0, 1, 2, 3, 4] rfl) (lp16 zbig a1 a2 0 0)
    · refine so_go C0 1 (pc' := 9) (lv' := [(0, .ref (G 9)), (1, .long a1), (3, .int a2)]) (st' := [.int (-1)]) rfl ?_
      exact so_reti C0 rfl rfl
  exact K r hr
end ZM
