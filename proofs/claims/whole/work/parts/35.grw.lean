-- by program: the methods of RuleTree$Grower, as functions, and that the code does them
section ZM
variable {cA : Nat → ClassId} {G : Nat → Nat} {A : Nat → Prop} {D : va_G} {l : Launch}
def f_Grw_firstNotLooked_L12 : Nat → zS → Int32 → Int32 → Option (Int32)
  | 0, _, _, _ => none
  | n + 1, S, x3, x4 =>
    if x3 ≤ x4 then
      some (-1)
    else
      if ¬ (r_at S 38 (f_Par_askPart S x4)) = 0 then
        f_Grw_firstNotLooked_L12 n S x3 (x4 + 1)
      else
        some x4
def f_Grw_firstNotLooked (S : zS) (a1 : Int32) (a2 : Int32) : Option (Int32) :=
  zbind (f_Par_stopOf S a1) fun v1 =>
  f_Grw_firstNotLooked_L12 zbig S v1 a2
set_option maxHeartbeats 1000000 in
set_option maxRecDepth 20000 in
theorem c_Grw_firstNotLooked (S : zS) (a1 : Int32) (a2 : Int32) : ∀ r, f_Grw_firstNotLooked S a1 a2 = some r → zMet l y_Grw_firstNotLooked (zw y_Grw_firstNotLooked prog_4_method_6_code 5 (some Jvm.ClassFile.FieldType.int)) 2 42 [.ref (G 7), .int a1, .int a2] D zcl (ztys cA) A (zRep D cA G A) zfc zfs S ((zFp S) r) := by
  intro r hr
  refine zMet_of ⟨Nat.le_refl _, Nat.le_refl _⟩ (by decide) tk_Grw_firstNotLooked (Nat.le_of_ble_eq_true rfl) ?_
  intro p e R s m args below meth c hf hlo C0 hK hA
  have lp12 : ∀ (n : Nat) (x3 : Int32) (x4 : Int32), zSO p l e R s m args below meth c 5 A D cA G S 12 [(0, .ref (G 7)), (3, .int x3), (4, .int x4)] [] (zFp S) (f_Grw_firstNotLooked_L12 n S x3 x4) := by
    intro n
    induction n with
    | zero =>
      intro x3 x4
      rw [f_Grw_firstNotLooked_L12]
      exact so_none
    | succ n ih12 =>
      intro x3 x4
      rw [f_Grw_firstNotLooked_L12]
      refine so_go C0 2 (pc' := 15) (lv' := [(0, .ref (G 7)), (3, .int x3), (4, .int x4)]) (st' := [.int x3, .int x4]) rfl ?_
      refine so_icmp_ge C0 rfl (fun h2 => ?_) (fun h2 => ?_)
      · refine so_go C0 1 (pc' := 47) (lv' := [(0, .ref (G 7)), (3, .int x3), (4, .int x4)]) (st' := [.int (-1)]) rfl ?_
        exact so_reti C0 rfl rfl
      · refine so_go C0 1 (pc' := 19) (lv' := [(0, .ref (G 7)), (3, .int x3), (4, .int x4)]) (st' := [.ref (G 7)]) rfl ?_
        refine so_getf C0 hK (o := 7) (j := 4) (v := .ref (G 49)) (by decide) rfl i_Grw (by decide) wd_2_15 rfl rfl ?_
        refine so_go C0 1 (pc' := 23) (lv' := [(0, .ref (G 7)), (3, .int x3), (4, .int x4)]) (st' := [.ref (G 7), .ref (G 49)]) rfl ?_
        refine so_getf C0 hK (o := 7) (j := 1) (v := .ref (G 5)) (by decide) rfl i_Grw (by decide) wd_2_12 rfl rfl ?_
        refine so_go C0 1 (pc' := 28) (lv' := [(0, .ref (G 7)), (3, .int x3), (4, .int x4)]) (st' := [.int x4, .ref (G 5), .ref (G 49)]) rfl ?_
        refine so_cp (As := [.int x4]) (rest := [.ref (G 49)]) C0 hK hA yk_Par_askPart (c_Par_askPart S x4) wd_4_7 rfl rfl ⟨by rw [hf]; decide, by rw [hlo]; decide⟩ (Nat.le_of_ble_eq_true rfl) (zrc_obj (o := 5) hK (by decide) rfl) ?_
        refine so_cp (As := [.int (f_Par_askPart S x4)]) (rest := []) C0 hK hA yk_Row_at (c_Row_at 38 (by decide) (f_Par_askPart S x4)) wd_3_199 rfl rfl ⟨by rw [hf]; decide, by rw [hlo]; decide⟩ (Nat.le_of_ble_eq_true rfl) (zrc_row (k := 38) hK (by decide)) ?_
        refine so_if_ne C0 rfl (fun h3 => ?_) (fun h3 => ?_)
        · refine so_go C0 2 (pc' := 12) (lv' := [(0, .ref (G 7)), (3, .int x3), (4, .int (x4 + 1))]) (st' := []) rfl ?_
          exact so_sub (lv' := [(0, .ref (G 7)), (3, .int x3), (4, .int (x4 + 1))]) (zpk [0, 1, 2] rfl) (ih12 x3 (x4 + 1))
        · refine so_go C0 1 (pc' := 39) (lv' := [(0, .ref (G 7)), (3, .int x3), (4, .int x4)]) (st' := [.int x4]) rfl ?_
          exact so_reti C0 rfl rfl
  have K : zSO p l e R s m args below meth c 5 A D cA G S 0 (lv_args 0 [.ref (G 7), .int a1, .int a2]) [] (zFp S) (f_Grw_firstNotLooked S a1 a2) := by
    unfold f_Grw_firstNotLooked
    refine so_go C0 1 (pc' := 1) (lv' := [(0, .ref (G 7)), (1, .int a1), (2, .int a2)]) (st' := [.ref (G 7)]) rfl ?_
    refine so_getf C0 hK (o := 7) (j := 1) (v := .ref (G 5)) (by decide) rfl i_Grw (by decide) wd_2_12 rfl rfl ?_
    refine so_go C0 1 (pc' := 5) (lv' := [(0, .ref (G 7)), (1, .int a1), (2, .int a2)]) (st' := [.int a1, .ref (G 5)]) rfl ?_
    refine so_cp (As := [.int a1]) (rest := []) C0 hK hA yk_Par_stopOf (c_Par_stopOf S a1) wd_4_3 rfl rfl ⟨by rw [hf]; decide, by rw [hlo]; decide⟩ (Nat.le_of_ble_eq_true rfl) (zrc_obj (o := 5) hK (by decide) rfl) ?_
    refine so_nm (V := .int) (fun v1 hv1 => ?_)
    refine so_go C0 3 (pc' := 12) (lv' := [(0, .ref (G 7)), (1, .int a1), (2, .int a2), (3, .int v1), (4, .int a2)]) (st' := []) rfl ?_
    exact so_sub (lv' := [(0, .ref (G 7)), (3, .int v1), (4, .int a2)]) (zpk [0, 3, 4] rfl) (lp12 zbig v1 a2)
  exact K r hr
def f_Grw_firstPossible_L2 : Nat → zS → Int32 → Option (Int32)
  | 0, _, _ => none
  | n + 1, S, x2 =>
    if (r_size S 37) ≤ x2 then
      some (-1)
    else
      if ¬ (r_at S 37 x2) = (-1) then
        f_Grw_firstPossible_L2 n S (x2 + 1)
      else
        some x2
def f_Grw_firstPossible (S : zS) (a1 : Int32) : Option (Int32) :=
  f_Grw_firstPossible_L2 zbig S a1
set_option maxHeartbeats 1000000 in
set_option maxRecDepth 20000 in
theorem c_Grw_firstPossible (S : zS) (a1 : Int32) : ∀ r, f_Grw_firstPossible S a1 = some r → zMet l y_Grw_firstPossible (zw y_Grw_firstPossible prog_4_method_5_code 3 (some Jvm.ClassFile.FieldType.int)) 1 21 [.ref (G 7), .int a1] D zcl (ztys cA) A (zRep D cA G A) zfc zfs S ((zFp S) r) := by
  intro r hr
  refine zMet_of ⟨Nat.le_refl _, Nat.le_refl _⟩ (by decide) tk_Grw_firstPossible (Nat.le_of_ble_eq_true rfl) ?_
  intro p e R s m args below meth c hf hlo C0 hK hA
  have lp2 : ∀ (n : Nat) (x2 : Int32), zSO p l e R s m args below meth c 3 A D cA G S 2 [(0, .ref (G 7)), (2, .int x2)] [] (zFp S) (f_Grw_firstPossible_L2 n S x2) := by
    intro n
    induction n with
    | zero =>
      intro x2
      rw [f_Grw_firstPossible_L2]
      exact so_none
    | succ n ih2 =>
      intro x2
      rw [f_Grw_firstPossible_L2]
      refine so_go C0 2 (pc' := 4) (lv' := [(0, .ref (G 7)), (2, .int x2)]) (st' := [.ref (G 7), .int x2]) rfl ?_
      refine so_getf C0 hK (o := 7) (j := 3) (v := .ref (G 48)) (by decide) rfl i_Grw (by decide) wd_2_14 rfl rfl ?_
      refine so_cp (As := []) (rest := [.int x2]) C0 hK hA yk_Row_size (c_Row_size 37 (by decide)) wd_3_230 rfl rfl ⟨by rw [hf]; decide, by rw [hlo]; decide⟩ (Nat.le_of_ble_eq_true rfl) (zrc_row (k := 37) hK (by decide)) ?_
      refine so_icmp_ge C0 rfl (fun h1 => ?_) (fun h1 => ?_)
      · refine so_go C0 1 (pc' := 34) (lv' := [(0, .ref (G 7)), (2, .int x2)]) (st' := [.int (-1)]) rfl ?_
        exact so_reti C0 rfl rfl
      · refine so_go C0 1 (pc' := 14) (lv' := [(0, .ref (G 7)), (2, .int x2)]) (st' := [.ref (G 7)]) rfl ?_
        refine so_getf C0 hK (o := 7) (j := 3) (v := .ref (G 48)) (by decide) rfl i_Grw (by decide) wd_2_14 rfl rfl ?_
        refine so_go C0 1 (pc' := 18) (lv' := [(0, .ref (G 7)), (2, .int x2)]) (st' := [.int x2, .ref (G 48)]) rfl ?_
        refine so_cp (As := [.int x2]) (rest := []) C0 hK hA yk_Row_at (c_Row_at 37 (by decide) x2) wd_3_199 rfl rfl ⟨by rw [hf]; decide, by rw [hlo]; decide⟩ (Nat.le_of_ble_eq_true rfl) (zrc_row (k := 37) hK (by decide)) ?_
        refine so_go C0 1 (pc' := 22) (lv' := [(0, .ref (G 7)), (2, .int x2)]) (st' := [.int (-1), .int (r_at S 37 x2)]) rfl ?_
        refine so_icmp_ne C0 rfl (fun h2 => ?_) (fun h2 => ?_)
        · refine so_go C0 2 (pc' := 2) (lv' := [(0, .ref (G 7)), (2, .int (x2 + 1))]) (st' := []) rfl ?_
          exact so_sub (lv' := [(0, .ref (G 7)), (2, .int (x2 + 1))]) (zpk [0, 1] rfl) (ih2 (x2 + 1))
        · refine so_go C0 1 (pc' := 26) (lv' := [(0, .ref (G 7)), (2, .int x2)]) (st' := [.int x2]) rfl ?_
          exact so_reti C0 rfl rfl
  have K : zSO p l e R s m args below meth c 3 A D cA G S 0 (lv_args 0 [.ref (G 7), .int a1]) [] (zFp S) (f_Grw_firstPossible S a1) := by
    unfold f_Grw_firstPossible
    refine so_go C0 2 (pc' := 2) (lv' := [(0, .ref (G 7)), (1, .int a1), (2, .int a1)]) (st' := []) rfl ?_
    exact so_sub (lv' := [(0, .ref (G 7)), (2, .int a1)]) (zpk [0, 2] rfl) (lp2 zbig a1)
  exact K r hr
def f_Grw_changeOuts_L19 : Nat → zS → Int32 → Int32 → Int32 → Int32 → Option (zS)
  | 0, _, _, _, _, _ => none
  | n + 1, S, x2, x3, x4, x5 =>
    if x5 ≤ 0 then
      some S
    else
      if x4 = (-1) then
        some S
      else
        zbind (f_Par_askRule S x4) fun v5 =>
        if ¬ (r_at S 37 v5) = x2 then
          zbind (f_Par_nextAsk S x4) fun v7 =>
          f_Grw_changeOuts_L19 n S x2 x3 v7 (x5 + (-1))
        else
          zbind (r_set S 37 v5 x3) fun S8 =>
          zbind (f_Par_nextAsk S8 x4) fun v9 =>
          f_Grw_changeOuts_L19 n S8 x2 x3 v9 (x5 + (-1))
def f_Grw_changeOuts (S : zS) (a1 : Int32) (a2 : Int32) (a3 : Int32) : Option (zS) :=
  zbind (f_Par_firstAsk S a1) fun v1 =>
  zbind (f_Par_asks S) fun v2 =>
  f_Grw_changeOuts_L19 zbig S a2 a3 v1 v2
theorem mo_Grw_changeOuts (S : zS) (a1 : Int32) (a2 : Int32) (a3 : Int32) : zmO (fun x => x) S (f_Grw_changeOuts S a1 a2 a3) := by
  have lp19 : ∀ (n : Nat) (S : zS) (x2 : Int32) (x3 : Int32) (x4 : Int32) (x5 : Int32), zmO (fun x => x) S (f_Grw_changeOuts_L19 n S x2 x3 x4 x5) := by
    intro n
    induction n with
    | zero =>
      intro S x2 x3 x4 x5
      rw [f_Grw_changeOuts_L19]
      exact mO_0
    | succ n ih19 =>
      intro S x2 x3 x4 x5
      rw [f_Grw_changeOuts_L19]
      exact (mO_if (g := (fun x => x)) (mO_s zmo_rf) (mO_if (g := (fun x => x)) (mO_s zmo_rf) (mO_n (g := (fun x => x)) fun v5 => (mO_if (g := (fun x => x)) (mO_n (g := (fun x => x)) fun v7 => (ih19 S x2 x3 v7 (x5 + (-1)))) (mO_b (g := (fun x => x)) mo_r_set fun S8 => (mO_n (g := (fun x => x)) fun v9 => (ih19 S8 x2 x3 v9 (x5 + (-1)))))))))
  unfold f_Grw_changeOuts
  exact (mO_n (g := (fun x => x)) fun v1 => (mO_n (g := (fun x => x)) fun v2 => (lp19 zbig S a2 a3 v1 v2)))
set_option maxHeartbeats 1000000 in
set_option maxRecDepth 20000 in
theorem c_Grw_changeOuts (S : zS) (a1 : Int32) (a2 : Int32) (a3 : Int32) : ∀ r, f_Grw_changeOuts S a1 a2 a3 = some r → zMet l y_Grw_changeOuts (zw y_Grw_changeOuts prog_4_method_12_code 7 none) 2 42 [.ref (G 7), .int a1, .int a2, .int a3] D zcl (ztys cA) A (zRep D cA G A) zfc zfs S (zFv r) := by
  intro r hr
  refine zMet_of (mo_Fv (mo_Grw_changeOuts S a1 a2 a3 r hr)) (by decide) tk_Grw_changeOuts (Nat.le_of_ble_eq_true rfl) ?_
  intro p e R s m args below meth c hf hlo C0 hK hA
  have lp19 : ∀ (n : Nat) (S : zS) (x2 : Int32) (x3 : Int32) (x4 : Int32) (x5 : Int32), zSO p l e R s m args below meth c 7 A D cA G S 19 [(0, .ref (G 7)), (2, .int x2), (3, .int x3), (4, .int x4), (5, .int x5)] [] zFv (f_Grw_changeOuts_L19 n S x2 x3 x4 x5) := by
    intro n
    induction n with
    | zero =>
      intro S x2 x3 x4 x5
      rw [f_Grw_changeOuts_L19]
      exact so_none
    | succ n ih19 =>
      intro S x2 x3 x4 x5
      rw [f_Grw_changeOuts_L19]
      refine so_go C0 1 (pc' := 21) (lv' := [(0, .ref (G 7)), (2, .int x2), (3, .int x3), (4, .int x4), (5, .int x5)]) (st' := [.int x5]) rfl ?_
      refine so_if_le C0 rfl (fun h3 => ?_) (fun h3 => ?_)
      · exact so_retv C0 rfl rfl
      · refine so_go C0 2 (pc' := 27) (lv' := [(0, .ref (G 7)), (2, .int x2), (3, .int x3), (4, .int x4), (5, .int x5)]) (st' := [.int (-1), .int x4]) rfl ?_
        refine so_icmp_eq C0 rfl (fun h4 => ?_) (fun h4 => ?_)
        · exact so_retv C0 rfl rfl
        · refine so_go C0 1 (pc' := 31) (lv' := [(0, .ref (G 7)), (2, .int x2), (3, .int x3), (4, .int x4), (5, .int x5)]) (st' := [.ref (G 7)]) rfl ?_
          refine so_getf C0 hK (o := 7) (j := 1) (v := .ref (G 5)) (by decide) rfl i_Grw (by decide) wd_2_12 rfl rfl ?_
          refine so_go C0 1 (pc' := 36) (lv' := [(0, .ref (G 7)), (2, .int x2), (3, .int x3), (4, .int x4), (5, .int x5)]) (st' := [.int x4, .ref (G 5)]) rfl ?_
          refine so_cp (As := [.int x4]) (rest := []) C0 hK hA yk_Par_askRule (c_Par_askRule S x4) wd_3_195 rfl rfl ⟨by rw [hf]; decide, by rw [hlo]; decide⟩ (Nat.le_of_ble_eq_true rfl) (zrc_obj (o := 5) hK (by decide) rfl) ?_
          refine so_nm (V := .int) (fun v5 hv5 => ?_)
          refine so_go C0 2 (pc' := 42) (lv' := [(0, .ref (G 7)), (2, .int x2), (3, .int x3), (4, .int x4), (5, .int x5), (6, .int v5)]) (st' := [.ref (G 7)]) rfl ?_
          refine so_getf C0 hK (o := 7) (j := 3) (v := .ref (G 48)) (by decide) rfl i_Grw (by decide) wd_2_14 rfl rfl ?_
          refine so_go C0 1 (pc' := 47) (lv' := [(0, .ref (G 7)), (2, .int x2), (3, .int x3), (4, .int x4), (5, .int x5), (6, .int v5)]) (st' := [.int v5, .ref (G 48)]) rfl ?_
          refine so_cp (As := [.int v5]) (rest := []) C0 hK hA yk_Row_at (c_Row_at 37 (by decide) v5) wd_3_199 rfl rfl ⟨by rw [hf]; decide, by rw [hlo]; decide⟩ (Nat.le_of_ble_eq_true rfl) (zrc_row (k := 37) hK (by decide)) ?_
          refine so_go C0 1 (pc' := 51) (lv' := [(0, .ref (G 7)), (2, .int x2), (3, .int x3), (4, .int x4), (5, .int x5), (6, .int v5)]) (st' := [.int x2, .int (r_at S 37 v5)]) rfl ?_
          refine so_icmp_ne C0 rfl (fun h6 => ?_) (fun h6 => ?_)
          · refine so_go C0 1 (pc' := 65) (lv' := [(0, .ref (G 7)), (2, .int x2), (3, .int x3), (4, .int x4), (5, .int x5), (6, .int v5)]) (st' := [.ref (G 7)]) rfl ?_
            refine so_getf C0 hK (o := 7) (j := 1) (v := .ref (G 5)) (by decide) rfl i_Grw (by decide) wd_2_12 rfl rfl ?_
            refine so_go C0 1 (pc' := 70) (lv' := [(0, .ref (G 7)), (2, .int x2), (3, .int x3), (4, .int x4), (5, .int x5), (6, .int v5)]) (st' := [.int x4, .ref (G 5)]) rfl ?_
            refine so_cp (As := [.int x4]) (rest := []) C0 hK hA yk_Par_nextAsk (c_Par_nextAsk S x4) wd_3_201 rfl rfl ⟨by rw [hf]; decide, by rw [hlo]; decide⟩ (Nat.le_of_ble_eq_true rfl) (zrc_obj (o := 5) hK (by decide) rfl) ?_
            refine so_nm (V := .int) (fun v7 hv7 => ?_)
            refine so_go C0 3 (pc' := 19) (lv' := [(0, .ref (G 7)), (2, .int x2), (3, .int x3), (4, .int v7), (5, .int (x5 + (-1))), (6, .int v5)]) (st' := []) rfl ?_
            exact so_sub (lv' := [(0, .ref (G 7)), (2, .int x2), (3, .int x3), (4, .int v7), (5, .int (x5 + (-1)))]) (zpk [0, 1, 2, 3, 4] rfl) (ih19 S x2 x3 v7 (x5 + (-1)))
          · refine so_go C0 1 (pc' := 55) (lv' := [(0, .ref (G 7)), (2, .int x2), (3, .int x3), (4, .int x4), (5, .int x5), (6, .int v5)]) (st' := [.ref (G 7)]) rfl ?_
            refine so_getf C0 hK (o := 7) (j := 3) (v := .ref (G 48)) (by decide) rfl i_Grw (by decide) wd_2_14 rfl rfl ?_
            refine so_go C0 2 (pc' := 61) (lv' := [(0, .ref (G 7)), (2, .int x2), (3, .int x3), (4, .int x4), (5, .int x5), (6, .int v5)]) (st' := [.int x3, .int v5, .ref (G 48)]) rfl ?_
            refine so_cV (As := [.int v5, .int x3]) (rest := []) C0 hK hA yk_Row_set (c_Row_set 37 (by decide) v5 x3) wd_3_200 rfl rfl ⟨by rw [hf]; decide, by rw [hlo]; decide⟩ (Nat.le_of_ble_eq_true rfl) (zrc_row (k := 37) hK (by decide)) (fun S8 hS8 => ?_)
            refine so_go C0 1 (pc' := 65) (lv' := [(0, .ref (G 7)), (2, .int x2), (3, .int x3), (4, .int x4), (5, .int x5), (6, .int v5)]) (st' := [.ref (G 7)]) rfl ?_
            refine so_getf C0 hK (o := 7) (j := 1) (v := .ref (G 5)) (by decide) rfl i_Grw (by decide) wd_2_12 rfl rfl ?_
            refine so_go C0 1 (pc' := 70) (lv' := [(0, .ref (G 7)), (2, .int x2), (3, .int x3), (4, .int x4), (5, .int x5), (6, .int v5)]) (st' := [.int x4, .ref (G 5)]) rfl ?_
            refine so_cp (As := [.int x4]) (rest := []) C0 hK hA yk_Par_nextAsk (c_Par_nextAsk S8 x4) wd_3_201 rfl rfl ⟨by rw [hf]; decide, by rw [hlo]; decide⟩ (Nat.le_of_ble_eq_true rfl) (zrc_obj (o := 5) hK (by decide) rfl) ?_
            refine so_nm (V := .int) (fun v9 hv9 => ?_)
            refine so_go C0 3 (pc' := 19) (lv' := [(0, .ref (G 7)), (2, .int x2), (3, .int x3), (4, .int v9), (5, .int (x5 + (-1))), (6, .int v5)]) (st' := []) rfl ?_
            exact so_sub (lv' := [(0, .ref (G 7)), (2, .int x2), (3, .int x3), (4, .int v9), (5, .int (x5 + (-1)))]) (zpk [0, 1, 2, 3, 4] rfl) (ih19 S8 x2 x3 v9 (x5 + (-1)))
  have K : zSO p l e R s m args below meth c 7 A D cA G S 0 (lv_args 0 [.ref (G 7), .int a1, .int a2, .int a3]) [] zFv (f_Grw_changeOuts S a1 a2 a3) := by
    unfold f_Grw_changeOuts
    refine so_go C0 1 (pc' := 1) (lv' := [(0, .ref (G 7)), (1, .int a1), (2, .int a2), (3, .int a3)]) (st' := [.ref (G 7)]) rfl ?_
    refine so_getf C0 hK (o := 7) (j := 1) (v := .ref (G 5)) (by decide) rfl i_Grw (by decide) wd_2_12 rfl rfl ?_
    refine so_go C0 1 (pc' := 5) (lv' := [(0, .ref (G 7)), (1, .int a1), (2, .int a2), (3, .int a3)]) (st' := [.int a1, .ref (G 5)]) rfl ?_
    refine so_cp (As := [.int a1]) (rest := []) C0 hK hA yk_Par_firstAsk (c_Par_firstAsk S a1) wd_3_187 rfl rfl ⟨by rw [hf]; decide, by rw [hlo]; decide⟩ (Nat.le_of_ble_eq_true rfl) (zrc_obj (o := 5) hK (by decide) rfl) ?_
    refine so_nm (V := .int) (fun v1 hv1 => ?_)
    refine so_go C0 2 (pc' := 11) (lv' := [(0, .ref (G 7)), (1, .int a1), (2, .int a2), (3, .int a3), (4, .int v1)]) (st' := [.ref (G 7)]) rfl ?_
    refine so_getf C0 hK (o := 7) (j := 1) (v := .ref (G 5)) (by decide) rfl i_Grw (by decide) wd_2_12 rfl rfl ?_
    refine so_cp (As := []) (rest := []) C0 hK hA yk_Par_asks (c_Par_asks S) wd_3_191 rfl rfl ⟨by rw [hf]; decide, by rw [hlo]; decide⟩ (Nat.le_of_ble_eq_true rfl) (zrc_obj (o := 5) hK (by decide) rfl) ?_
    refine so_nm (V := .int) (fun v2 hv2 => ?_)
    refine so_go C0 1 (pc' := 19) (lv' := [(0, .ref (G 7)), (1, .int a1), (2, .int a2), (3, .int a3), (4, .int v1), (5, .int v2)]) (st' := []) rfl ?_
    exact so_sub (lv' := [(0, .ref (G 7)), (2, .int a2), (3, .int a3), (4, .int v1), (5, .int v2)]) (zpk [0, 2, 3, 4, 5] rfl) (lp19 zbig S a2 a3 v1 v2)
  exact K r hr
def f_Grw_ruleOut_L25 : Nat → zS → Int32 → Int32 → Int32 → Int32 → Option (zS)
  | 0, _, _, _, _, _ => none
  | n + 1, S, x1, x2, x3, x4 =>
    if x4 ≤ 0 then
      some S
    else
      if x3 = (-1) then
        some S
      else
        if x3 = x2 then
          zbind (f_Par_nextEdge S x3) fun v6 =>
          f_Grw_ruleOut_L25 n S x1 x2 v6 (x4 + (-1))
        else
          zob (f_Grw_changeOuts S x3 (-1) x1) fun S7 =>
          zbind (f_Par_nextEdge S7 x3) fun v8 =>
          f_Grw_ruleOut_L25 n S7 x1 x2 v8 (x4 + (-1))
def f_Grw_ruleOut (S : zS) (a1 : Int32) (a2 : Int32) : Option (zS) :=
  zbind (f_Par_firstEdge S (f_Nod_part S a1)) fun v1 =>
  zbind (f_Par_edges S) fun v2 =>
  f_Grw_ruleOut_L25 zbig S a1 a2 v1 v2
theorem mo_Grw_ruleOut (S : zS) (a1 : Int32) (a2 : Int32) : zmO (fun x => x) S (f_Grw_ruleOut S a1 a2) := by
  have lp25 : ∀ (n : Nat) (S : zS) (x1 : Int32) (x2 : Int32) (x3 : Int32) (x4 : Int32), zmO (fun x => x) S (f_Grw_ruleOut_L25 n S x1 x2 x3 x4) := by
    intro n
    induction n with
    | zero =>
      intro S x1 x2 x3 x4
      rw [f_Grw_ruleOut_L25]
      exact mO_0
    | succ n ih25 =>
      intro S x1 x2 x3 x4
      rw [f_Grw_ruleOut_L25]
      exact (mO_if (g := (fun x => x)) (mO_s zmo_rf) (mO_if (g := (fun x => x)) (mO_s zmo_rf) (mO_if (g := (fun x => x)) (mO_n (g := (fun x => x)) fun v6 => (ih25 S x1 x2 v6 (x4 + (-1)))) (mO_ob (g := (fun x => x)) (mo_Grw_changeOuts S x3 (-1) x1) fun S7 => (mO_n (g := (fun x => x)) fun v8 => (ih25 S7 x1 x2 v8 (x4 + (-1))))))))
  unfold f_Grw_ruleOut
  exact (mO_n (g := (fun x => x)) fun v1 => (mO_n (g := (fun x => x)) fun v2 => (lp25 zbig S a1 a2 v1 v2)))
set_option maxHeartbeats 1000000 in
set_option maxRecDepth 20000 in
theorem c_Grw_ruleOut (S : zS) (a1 : Int32) (a2 : Int32) : ∀ r, f_Grw_ruleOut S a1 a2 = some r → zMet l y_Grw_ruleOut (zw y_Grw_ruleOut prog_4_method_10_code 5 none) 3 68 [.ref (G 7), .int a1, .int a2] D zcl (ztys cA) A (zRep D cA G A) zfc zfs S (zFv r) := by
  intro r hr
  refine zMet_of (mo_Fv (mo_Grw_ruleOut S a1 a2 r hr)) (by decide) tk_Grw_ruleOut (Nat.le_of_ble_eq_true rfl) ?_
  intro p e R s m args below meth c hf hlo C0 hK hA
  have lp25 : ∀ (n : Nat) (S : zS) (x1 : Int32) (x2 : Int32) (x3 : Int32) (x4 : Int32), zSO p l e R s m args below meth c 5 A D cA G S 25 [(0, .ref (G 7)), (1, .int x1), (2, .int x2), (3, .int x3), (4, .int x4)] [] zFv (f_Grw_ruleOut_L25 n S x1 x2 x3 x4) := by
    intro n
    induction n with
    | zero =>
      intro S x1 x2 x3 x4
      rw [f_Grw_ruleOut_L25]
      exact so_none
    | succ n ih25 =>
      intro S x1 x2 x3 x4
      rw [f_Grw_ruleOut_L25]
      refine so_go C0 1 (pc' := 27) (lv' := [(0, .ref (G 7)), (1, .int x1), (2, .int x2), (3, .int x3), (4, .int x4)]) (st' := [.int x4]) rfl ?_
      refine so_if_le C0 rfl (fun h3 => ?_) (fun h3 => ?_)
      · exact so_retv C0 rfl rfl
      · refine so_go C0 2 (pc' := 32) (lv' := [(0, .ref (G 7)), (1, .int x1), (2, .int x2), (3, .int x3), (4, .int x4)]) (st' := [.int (-1), .int x3]) rfl ?_
        refine so_icmp_eq C0 rfl (fun h4 => ?_) (fun h4 => ?_)
        · exact so_retv C0 rfl rfl
        · refine so_go C0 2 (pc' := 37) (lv' := [(0, .ref (G 7)), (1, .int x1), (2, .int x2), (3, .int x3), (4, .int x4)]) (st' := [.int x2, .int x3]) rfl ?_
          refine so_icmp_eq C0 rfl (fun h5 => ?_) (fun h5 => ?_)
          · refine so_go C0 1 (pc' := 48) (lv' := [(0, .ref (G 7)), (1, .int x1), (2, .int x2), (3, .int x3), (4, .int x4)]) (st' := [.ref (G 7)]) rfl ?_
            refine so_getf C0 hK (o := 7) (j := 1) (v := .ref (G 5)) (by decide) rfl i_Grw (by decide) wd_2_12 rfl rfl ?_
            refine so_go C0 1 (pc' := 52) (lv' := [(0, .ref (G 7)), (1, .int x1), (2, .int x2), (3, .int x3), (4, .int x4)]) (st' := [.int x3, .ref (G 5)]) rfl ?_
            refine so_cp (As := [.int x3]) (rest := []) C0 hK hA yk_Par_nextEdge (c_Par_nextEdge S x3) wd_3_205 rfl rfl ⟨by rw [hf]; decide, by rw [hlo]; decide⟩ (Nat.le_of_ble_eq_true rfl) (zrc_obj (o := 5) hK (by decide) rfl) ?_
            refine so_nm (V := .int) (fun v6 hv6 => ?_)
            refine so_go C0 3 (pc' := 25) (lv' := [(0, .ref (G 7)), (1, .int x1), (2, .int x2), (3, .int v6), (4, .int (x4 + (-1)))]) (st' := []) rfl ?_
            exact so_sub (lv' := [(0, .ref (G 7)), (1, .int x1), (2, .int x2), (3, .int v6), (4, .int (x4 + (-1)))]) (zpk [0, 1, 2, 3, 4] rfl) (ih25 S x1 x2 v6 (x4 + (-1)))
          · refine so_go C0 4 (pc' := 44) (lv' := [(0, .ref (G 7)), (1, .int x1), (2, .int x2), (3, .int x3), (4, .int x4)]) (st' := [.int x1, .int (-1), .int x3, .ref (G 7)]) rfl ?_
            refine so_oV (As := [.int x3, .int (-1), .int x1]) (rest := []) C0 hK hA yk_Grw_changeOuts (c_Grw_changeOuts S x3 (-1) x1) wd_3_183 rfl rfl ⟨by rw [hf]; decide, by rw [hlo]; decide⟩ (Nat.le_of_ble_eq_true rfl) (zrc_obj (o := 7) hK (by decide) rfl) (fun S7 hS7 => ?_)
            refine so_go C0 1 (pc' := 48) (lv' := [(0, .ref (G 7)), (1, .int x1), (2, .int x2), (3, .int x3), (4, .int x4)]) (st' := [.ref (G 7)]) rfl ?_
            refine so_getf C0 hK (o := 7) (j := 1) (v := .ref (G 5)) (by decide) rfl i_Grw (by decide) wd_2_12 rfl rfl ?_
            refine so_go C0 1 (pc' := 52) (lv' := [(0, .ref (G 7)), (1, .int x1), (2, .int x2), (3, .int x3), (4, .int x4)]) (st' := [.int x3, .ref (G 5)]) rfl ?_
            refine so_cp (As := [.int x3]) (rest := []) C0 hK hA yk_Par_nextEdge (c_Par_nextEdge S7 x3) wd_3_205 rfl rfl ⟨by rw [hf]; decide, by rw [hlo]; decide⟩ (Nat.le_of_ble_eq_true rfl) (zrc_obj (o := 5) hK (by decide) rfl) ?_
            refine so_nm (V := .int) (fun v8 hv8 => ?_)
            refine so_go C0 3 (pc' := 25) (lv' := [(0, .ref (G 7)), (1, .int x1), (2, .int x2), (3, .int v8), (4, .int (x4 + (-1)))]) (st' := []) rfl ?_
            exact so_sub (lv' := [(0, .ref (G 7)), (1, .int x1), (2, .int x2), (3, .int v8), (4, .int (x4 + (-1)))]) (zpk [0, 1, 2, 3, 4] rfl) (ih25 S7 x1 x2 v8 (x4 + (-1)))
  have K : zSO p l e R s m args below meth c 5 A D cA G S 0 (lv_args 0 [.ref (G 7), .int a1, .int a2]) [] zFv (f_Grw_ruleOut S a1 a2) := by
    unfold f_Grw_ruleOut
    refine so_go C0 1 (pc' := 1) (lv' := [(0, .ref (G 7)), (1, .int a1), (2, .int a2)]) (st' := [.ref (G 7)]) rfl ?_
    refine so_getf C0 hK (o := 7) (j := 1) (v := .ref (G 5)) (by decide) rfl i_Grw (by decide) wd_2_12 rfl rfl ?_
    refine so_go C0 1 (pc' := 5) (lv' := [(0, .ref (G 7)), (1, .int a1), (2, .int a2)]) (st' := [.ref (G 7), .ref (G 5)]) rfl ?_
    refine so_getf C0 hK (o := 7) (j := 2) (v := .ref (G 6)) (by decide) rfl i_Grw (by decide) wd_2_13 rfl rfl ?_
    refine so_go C0 1 (pc' := 9) (lv' := [(0, .ref (G 7)), (1, .int a1), (2, .int a2)]) (st' := [.int a1, .ref (G 6), .ref (G 5)]) rfl ?_
    refine so_cp (As := [.int a1]) (rest := [.ref (G 5)]) C0 hK hA yk_Nod_part (c_Nod_part S a1) wd_3_170 rfl rfl ⟨by rw [hf]; decide, by rw [hlo]; decide⟩ (Nat.le_of_ble_eq_true rfl) (zrc_obj (o := 6) hK (by decide) rfl) ?_
    refine so_cp (As := [.int (f_Nod_part S a1)]) (rest := []) C0 hK hA yk_Par_firstEdge (c_Par_firstEdge S (f_Nod_part S a1)) wd_3_175 rfl rfl ⟨by rw [hf]; decide, by rw [hlo]; decide⟩ (Nat.le_of_ble_eq_true rfl) (zrc_obj (o := 5) hK (by decide) rfl) ?_
    refine so_nm (V := .int) (fun v1 hv1 => ?_)
    refine so_go C0 2 (pc' := 17) (lv' := [(0, .ref (G 7)), (1, .int a1), (2, .int a2), (3, .int v1)]) (st' := [.ref (G 7)]) rfl ?_
    refine so_getf C0 hK (o := 7) (j := 1) (v := .ref (G 5)) (by decide) rfl i_Grw (by decide) wd_2_12 rfl rfl ?_
    refine so_cp (As := []) (rest := []) C0 hK hA yk_Par_edges (c_Par_edges S) wd_3_179 rfl rfl ⟨by rw [hf]; decide, by rw [hlo]; decide⟩ (Nat.le_of_ble_eq_true rfl) (zrc_obj (o := 5) hK (by decide) rfl) ?_
    refine so_nm (V := .int) (fun v2 hv2 => ?_)
    refine so_go C0 1 (pc' := 25) (lv' := [(0, .ref (G 7)), (1, .int a1), (2, .int a2), (3, .int v1), (4, .int v2)]) (st' := []) rfl ?_
    exact so_sub (lv' := [(0, .ref (G 7)), (1, .int a1), (2, .int a2), (3, .int v1), (4, .int v2)]) (zpk [0, 1, 2, 3, 4] rfl) (lp25 zbig S a1 a2 v1 v2)
  exact K r hr
def f_Grw_enter (S : zS) (a1 : Int32) (a2 : Int32) : Option (zS × Int32) :=
  zob (f_Grw_ruleOut S a1 a2) fun S1 =>
  zbind2 (f_Nod_add S1 a1 a2) fun S2 v3 =>
  zbind (f_Nod_ruleAt S2 a1) fun v4 =>
  zob (f_Grw_firstPossible S2 (z_max v4 0)) fun v5 =>
  if ¬ v5 = (-1) then
    if ¬ v5 = v4 then
      zob (f_Grw_firstNotLooked S2 v5 (f_Par_startOf S2 v5)) fun v8 =>
      if ¬ v8 = (-1) then
        zbind (f_Par_askPart S2 v8) fun v10 =>
        zbind (f_Nod_settle S2 v3 v5 v8 v10) fun S11 =>
        zbind (r_set S11 38 v10 1) fun S12 =>
        some (S12, v3)
      else
        zbind (f_Nod_settle S2 v3 v5 v8 (-1)) fun S13 =>
        zbind (r_set S13 38 (-1) 1) fun S14 =>
        some (S14, v3)
    else
      zob (f_Grw_firstNotLooked S2 v5 (f_Nod_ask S2 a1)) fun v15 =>
      if ¬ v15 = (-1) then
        zbind (f_Par_askPart S2 v15) fun v17 =>
        zbind (f_Nod_settle S2 v3 v5 v15 v17) fun S18 =>
        zbind (r_set S18 38 v17 1) fun S19 =>
        some (S19, v3)
      else
        zbind (f_Nod_settle S2 v3 v5 v15 (-1)) fun S20 =>
        zbind (r_set S20 38 (-1) 1) fun S21 =>
        some (S21, v3)
  else
    some (S2, v3)
theorem mo_Grw_enter (S : zS) (a1 : Int32) (a2 : Int32) : zmO Prod.fst S (f_Grw_enter S a1 a2) := by
  unfold f_Grw_enter
  exact (mO_ob (g := Prod.fst) (mo_Grw_ruleOut S a1 a2) fun S1 => (mO_b2 (g := Prod.fst) (mo_Nod_add S1 a1 a2) fun S2 v3 => (mO_n (g := Prod.fst) fun v4 => (mO_on (g := Prod.fst) fun v5 => (mO_if (g := Prod.fst) (mO_if (g := Prod.fst) (mO_on (g := Prod.fst) fun v8 => (mO_if (g := Prod.fst) (mO_n (g := Prod.fst) fun v10 => (mO_b (g := Prod.fst) (mo_Nod_settle S2 v3 v5 v8 v10) fun S11 => (mO_b (g := Prod.fst) mo_r_set fun S12 => (mO_s zmo_rf)))) (mO_b (g := Prod.fst) (mo_Nod_settle S2 v3 v5 v8 (-1)) fun S13 => (mO_b (g := Prod.fst) mo_r_set fun S14 => (mO_s zmo_rf))))) (mO_on (g := Prod.fst) fun v15 => (mO_if (g := Prod.fst) (mO_n (g := Prod.fst) fun v17 => (mO_b (g := Prod.fst) (mo_Nod_settle S2 v3 v5 v15 v17) fun S18 => (mO_b (g := Prod.fst) mo_r_set fun S19 => (mO_s zmo_rf)))) (mO_b (g := Prod.fst) (mo_Nod_settle S2 v3 v5 v15 (-1)) fun S20 => (mO_b (g := Prod.fst) mo_r_set fun S21 => (mO_s zmo_rf)))))) (mO_s zmo_rf))))))
set_option maxHeartbeats 1000000 in
set_option maxRecDepth 20000 in
theorem c_Grw_enter (S : zS) (a1 : Int32) (a2 : Int32) : ∀ r, f_Grw_enter S a1 a2 = some r → zMet l y_Grw_enter (zw y_Grw_enter prog_4_method_3_code 8 (some Jvm.ClassFile.FieldType.int)) 4 106 [.ref (G 7), .int a1, .int a2] D zcl (ztys cA) A (zRep D cA G A) zfc zfs S (zFi r) := by
  intro r hr
  refine zMet_of (mo_Fi (mo_Grw_enter S a1 a2 r hr)) (by decide) tk_Grw_enter (Nat.le_of_ble_eq_true rfl) ?_
  intro p e R s m args below meth c hf hlo C0 hK hA
  have K : zSO p l e R s m args below meth c 8 A D cA G S 0 (lv_args 0 [.ref (G 7), .int a1, .int a2]) [] zFi (f_Grw_enter S a1 a2) := by
    unfold f_Grw_enter
    refine so_go C0 3 (pc' := 3) (lv' := [(0, .ref (G 7)), (1, .int a1), (2, .int a2)]) (st' := [.int a2, .int a1, .ref (G 7)]) rfl ?_
    refine so_oV (As := [.int a1, .int a2]) (rest := []) C0 hK hA yk_Grw_ruleOut (c_Grw_ruleOut S a1 a2) wd_3_166 rfl rfl ⟨by rw [hf]; decide, by rw [hlo]; decide⟩ (Nat.le_of_ble_eq_true rfl) (zrc_obj (o := 7) hK (by decide) rfl) (fun S1 hS1 => ?_)
    refine so_go C0 1 (pc' := 7) (lv' := [(0, .ref (G 7)), (1, .int a1), (2, .int a2)]) (st' := [.ref (G 7)]) rfl ?_
    refine so_getf C0 hK (o := 7) (j := 2) (v := .ref (G 6)) (by decide) rfl i_Grw (by decide) wd_2_13 rfl rfl ?_
    refine so_go C0 2 (pc' := 12) (lv' := [(0, .ref (G 7)), (1, .int a1), (2, .int a2)]) (st' := [.int a2, .int a1, .ref (G 6)]) rfl ?_
    refine so_ci (As := [.int a1, .int a2]) (rest := []) C0 hK hA yk_Nod_add (c_Nod_add S1 a1 a2) wd_3_209 rfl rfl ⟨by rw [hf]; decide, by rw [hlo]; decide⟩ (Nat.le_of_ble_eq_true rfl) (zrc_obj (o := 6) hK (by decide) rfl) (fun S2 v3 hv3 => ?_)
    refine so_go C0 2 (pc' := 17) (lv' := [(0, .ref (G 7)), (1, .int a1), (2, .int a2), (3, .int v3)]) (st' := [.ref (G 7)]) rfl ?_
    refine so_getf C0 hK (o := 7) (j := 2) (v := .ref (G 6)) (by decide) rfl i_Grw (by decide) wd_2_13 rfl rfl ?_
    refine so_go C0 1 (pc' := 21) (lv' := [(0, .ref (G 7)), (1, .int a1), (2, .int a2), (3, .int v3)]) (st' := [.int a1, .ref (G 6)]) rfl ?_
    refine so_cp (As := [.int a1]) (rest := []) C0 hK hA yk_Nod_ruleAt (c_Nod_ruleAt S2 a1) wd_3_219 rfl rfl ⟨by rw [hf]; decide, by rw [hlo]; decide⟩ (Nat.le_of_ble_eq_true rfl) (zrc_obj (o := 6) hK (by decide) rfl) ?_
    refine so_nm (V := .int) (fun v4 hv4 => ?_)
    refine so_go C0 4 (pc' := 30) (lv' := [(0, .ref (G 7)), (1, .int a1), (2, .int a2), (3, .int v3), (4, .int v4)]) (st' := [.int 0, .int v4, .ref (G 7)]) rfl ?_
    refine so_mmax C0 wd_3_223 (by rw [hf]; decide) (by rw [hlo]; decide) (Nat.le_of_ble_eq_true rfl) rfl ?_
    refine so_op (As := [.int (z_max v4 0)]) (rest := []) C0 hK hA yk_Grw_firstPossible (c_Grw_firstPossible S2 (z_max v4 0)) wd_3_226 rfl rfl ⟨by rw [hf]; decide, by rw [hlo]; decide⟩ (Nat.le_of_ble_eq_true rfl) (zrc_obj (o := 7) hK (by decide) rfl) (fun v5 hv5 => ?_)
    refine so_go C0 3 (pc' := 41) (lv' := [(0, .ref (G 7)), (1, .int a1), (2, .int a2), (3, .int v3), (4, .int v4), (5, .int v5)]) (st' := [.int (-1), .int v5]) rfl ?_
    refine so_icmp_ne C0 rfl (fun h6 => ?_) (fun h6 => ?_)
    · refine so_go C0 4 (pc' := 53) (lv' := [(0, .ref (G 7)), (1, .int a1), (2, .int a2), (3, .int v3), (4, .int v4), (5, .int v5)]) (st' := [.int v4, .int v5, .int v5, .ref (G 7)]) rfl ?_
      refine so_icmp_ne C0 rfl (fun h7 => ?_) (fun h7 => ?_)
      · refine so_go C0 1 (pc' := 68) (lv' := [(0, .ref (G 7)), (1, .int a1), (2, .int a2), (3, .int v3), (4, .int v4), (5, .int v5)]) (st' := [.ref (G 7), .int v5, .ref (G 7)]) rfl ?_
        refine so_getf C0 hK (o := 7) (j := 1) (v := .ref (G 5)) (by decide) rfl i_Grw (by decide) wd_2_12 rfl rfl ?_
        refine so_go C0 1 (pc' := 73) (lv' := [(0, .ref (G 7)), (1, .int a1), (2, .int a2), (3, .int v3), (4, .int v4), (5, .int v5)]) (st' := [.int v5, .ref (G 5), .int v5, .ref (G 7)]) rfl ?_
        refine so_cp (As := [.int v5]) (rest := [.int v5, .ref (G 7)]) C0 hK hA yk_Par_startOf (c_Par_startOf S2 v5) wd_3_235 rfl rfl ⟨by rw [hf]; decide, by rw [hlo]; decide⟩ (Nat.le_of_ble_eq_true rfl) (zrc_obj (o := 5) hK (by decide) rfl) ?_
        refine so_op (As := [.int v5, .int (f_Par_startOf S2 v5)]) (rest := []) C0 hK hA yk_Grw_firstNotLooked (c_Grw_firstNotLooked S2 v5 (f_Par_startOf S2 v5)) wd_3_239 rfl rfl ⟨by rw [hf]; decide, by rw [hlo]; decide⟩ (Nat.le_of_ble_eq_true rfl) (zrc_obj (o := 7) hK (by decide) rfl) (fun v8 hv8 => ?_)
        refine so_go C0 3 (pc' := 84) (lv' := [(0, .ref (G 7)), (1, .int a1), (2, .int a2), (3, .int v3), (4, .int v4), (5, .int v5), (6, .int v8)]) (st' := [.int (-1), .int v8]) rfl ?_
        refine so_icmp_ne C0 rfl (fun h9 => ?_) (fun h9 => ?_)
        · refine so_go C0 1 (pc' := 92) (lv' := [(0, .ref (G 7)), (1, .int a1), (2, .int a2), (3, .int v3), (4, .int v4), (5, .int v5), (6, .int v8)]) (st' := [.ref (G 7)]) rfl ?_
          refine so_getf C0 hK (o := 7) (j := 1) (v := .ref (G 5)) (by decide) rfl i_Grw (by decide) wd_2_12 rfl rfl ?_
          refine so_go C0 1 (pc' := 97) (lv' := [(0, .ref (G 7)), (1, .int a1), (2, .int a2), (3, .int v3), (4, .int v4), (5, .int v5), (6, .int v8)]) (st' := [.int v8, .ref (G 5)]) rfl ?_
          refine so_cp (As := [.int v8]) (rest := []) C0 hK hA yk_Par_askPart (c_Par_askPart S2 v8) wd_4_7 rfl rfl ⟨by rw [hf]; decide, by rw [hlo]; decide⟩ (Nat.le_of_ble_eq_true rfl) (zrc_obj (o := 5) hK (by decide) rfl) ?_
          refine so_nm (V := .int) (fun v10 hv10 => ?_)
          refine so_go C0 2 (pc' := 103) (lv' := [(0, .ref (G 7)), (1, .int a1), (2, .int a2), (3, .int v3), (4, .int v4), (5, .int v5), (6, .int v8), (7, .int v10)]) (st' := [.ref (G 7)]) rfl ?_
          refine so_getf C0 hK (o := 7) (j := 2) (v := .ref (G 6)) (by decide) rfl i_Grw (by decide) wd_2_13 rfl rfl ?_
          refine so_go C0 4 (pc' := 113) (lv' := [(0, .ref (G 7)), (1, .int a1), (2, .int a2), (3, .int v3), (4, .int v4), (5, .int v5), (6, .int v8), (7, .int v10)]) (st' := [.int v10, .int v8, .int v5, .int v3, .ref (G 6)]) rfl ?_
          refine so_cV (As := [.int v3, .int v5, .int v8, .int v10]) (rest := []) C0 hK hA yk_Nod_settle (c_Nod_settle S2 v3 v5 v8 v10) wd_4_11 rfl rfl ⟨by rw [hf]; decide, by rw [hlo]; decide⟩ (Nat.le_of_ble_eq_true rfl) (zrc_obj (o := 6) hK (by decide) rfl) (fun S11 hS11 => ?_)
          refine so_go C0 1 (pc' := 117) (lv' := [(0, .ref (G 7)), (1, .int a1), (2, .int a2), (3, .int v3), (4, .int v4), (5, .int v5), (6, .int v8), (7, .int v10)]) (st' := [.ref (G 7)]) rfl ?_
          refine so_getf C0 hK (o := 7) (j := 4) (v := .ref (G 49)) (by decide) rfl i_Grw (by decide) wd_2_15 rfl rfl ?_
          refine so_go C0 2 (pc' := 123) (lv' := [(0, .ref (G 7)), (1, .int a1), (2, .int a2), (3, .int v3), (4, .int v4), (5, .int v5), (6, .int v8), (7, .int v10)]) (st' := [.int 1, .int v10, .ref (G 49)]) rfl ?_
          refine so_cV (As := [.int v10, .int 1]) (rest := []) C0 hK hA yk_Row_set (c_Row_set 38 (by decide) v10 1) wd_3_200 rfl rfl ⟨by rw [hf]; decide, by rw [hlo]; decide⟩ (Nat.le_of_ble_eq_true rfl) (zrc_row (k := 38) hK (by decide)) (fun S12 hS12 => ?_)
          refine so_go C0 1 (pc' := 127) (lv' := [(0, .ref (G 7)), (1, .int a1), (2, .int a2), (3, .int v3), (4, .int v4), (5, .int v5), (6, .int v8), (7, .int v10)]) (st' := [.int v3]) rfl ?_
          exact so_reti C0 rfl rfl
        · refine so_go C0 4 (pc' := 103) (lv' := [(0, .ref (G 7)), (1, .int a1), (2, .int a2), (3, .int v3), (4, .int v4), (5, .int v5), (6, .int v8), (7, .int (-1))]) (st' := [.ref (G 7)]) rfl ?_
          refine so_getf C0 hK (o := 7) (j := 2) (v := .ref (G 6)) (by decide) rfl i_Grw (by decide) wd_2_13 rfl rfl ?_
          refine so_go C0 4 (pc' := 113) (lv' := [(0, .ref (G 7)), (1, .int a1), (2, .int a2), (3, .int v3), (4, .int v4), (5, .int v5), (6, .int v8), (7, .int (-1))]) (st' := [.int (-1), .int v8, .int v5, .int v3, .ref (G 6)]) rfl ?_
          refine so_cV (As := [.int v3, .int v5, .int v8, .int (-1)]) (rest := []) C0 hK hA yk_Nod_settle (c_Nod_settle S2 v3 v5 v8 (-1)) wd_4_11 rfl rfl ⟨by rw [hf]; decide, by rw [hlo]; decide⟩ (Nat.le_of_ble_eq_true rfl) (zrc_obj (o := 6) hK (by decide) rfl) (fun S13 hS13 => ?_)
          refine so_go C0 1 (pc' := 117) (lv' := [(0, .ref (G 7)), (1, .int a1), (2, .int a2), (3, .int v3), (4, .int v4), (5, .int v5), (6, .int v8), (7, .int (-1))]) (st' := [.ref (G 7)]) rfl ?_
          refine so_getf C0 hK (o := 7) (j := 4) (v := .ref (G 49)) (by decide) rfl i_Grw (by decide) wd_2_15 rfl rfl ?_
          refine so_go C0 2 (pc' := 123) (lv' := [(0, .ref (G 7)), (1, .int a1), (2, .int a2), (3, .int v3), (4, .int v4), (5, .int v5), (6, .int v8), (7, .int (-1))]) (st' := [.int 1, .int (-1), .ref (G 49)]) rfl ?_
          refine so_cV (As := [.int (-1), .int 1]) (rest := []) C0 hK hA yk_Row_set (c_Row_set 38 (by decide) (-1) 1) wd_3_200 rfl rfl ⟨by rw [hf]; decide, by rw [hlo]; decide⟩ (Nat.le_of_ble_eq_true rfl) (zrc_row (k := 38) hK (by decide)) (fun S14 hS14 => ?_)
          refine so_go C0 1 (pc' := 127) (lv' := [(0, .ref (G 7)), (1, .int a1), (2, .int a2), (3, .int v3), (4, .int v4), (5, .int v5), (6, .int v8), (7, .int (-1))]) (st' := [.int v3]) rfl ?_
          exact so_reti C0 rfl rfl
      · refine so_go C0 1 (pc' := 57) (lv' := [(0, .ref (G 7)), (1, .int a1), (2, .int a2), (3, .int v3), (4, .int v4), (5, .int v5)]) (st' := [.ref (G 7), .int v5, .ref (G 7)]) rfl ?_
        refine so_getf C0 hK (o := 7) (j := 2) (v := .ref (G 6)) (by decide) rfl i_Grw (by decide) wd_2_13 rfl rfl ?_
        refine so_go C0 1 (pc' := 61) (lv' := [(0, .ref (G 7)), (1, .int a1), (2, .int a2), (3, .int v3), (4, .int v4), (5, .int v5)]) (st' := [.int a1, .ref (G 6), .int v5, .ref (G 7)]) rfl ?_
        refine so_cp (As := [.int a1]) (rest := [.int v5, .ref (G 7)]) C0 hK hA yk_Nod_ask (c_Nod_ask S2 a1) wd_3_231 rfl rfl ⟨by rw [hf]; decide, by rw [hlo]; decide⟩ (Nat.le_of_ble_eq_true rfl) (zrc_obj (o := 6) hK (by decide) rfl) ?_
        refine so_go C0 1 (pc' := 76) (lv' := [(0, .ref (G 7)), (1, .int a1), (2, .int a2), (3, .int v3), (4, .int v4), (5, .int v5)]) (st' := [.int (f_Nod_ask S2 a1), .int v5, .ref (G 7)]) rfl ?_
        refine so_op (As := [.int v5, .int (f_Nod_ask S2 a1)]) (rest := []) C0 hK hA yk_Grw_firstNotLooked (c_Grw_firstNotLooked S2 v5 (f_Nod_ask S2 a1)) wd_3_239 rfl rfl ⟨by rw [hf]; decide, by rw [hlo]; decide⟩ (Nat.le_of_ble_eq_true rfl) (zrc_obj (o := 7) hK (by decide) rfl) (fun v15 hv15 => ?_)
        refine so_go C0 3 (pc' := 84) (lv' := [(0, .ref (G 7)), (1, .int a1), (2, .int a2), (3, .int v3), (4, .int v4), (5, .int v5), (6, .int v15)]) (st' := [.int (-1), .int v15]) rfl ?_
        refine so_icmp_ne C0 rfl (fun h16 => ?_) (fun h16 => ?_)
        · refine so_go C0 1 (pc' := 92) (lv' := [(0, .ref (G 7)), (1, .int a1), (2, .int a2), (3, .int v3), (4, .int v4), (5, .int v5), (6, .int v15)]) (st' := [.ref (G 7)]) rfl ?_
          refine so_getf C0 hK (o := 7) (j := 1) (v := .ref (G 5)) (by decide) rfl i_Grw (by decide) wd_2_12 rfl rfl ?_
          refine so_go C0 1 (pc' := 97) (lv' := [(0, .ref (G 7)), (1, .int a1), (2, .int a2), (3, .int v3), (4, .int v4), (5, .int v5), (6, .int v15)]) (st' := [.int v15, .ref (G 5)]) rfl ?_
          refine so_cp (As := [.int v15]) (rest := []) C0 hK hA yk_Par_askPart (c_Par_askPart S2 v15) wd_4_7 rfl rfl ⟨by rw [hf]; decide, by rw [hlo]; decide⟩ (Nat.le_of_ble_eq_true rfl) (zrc_obj (o := 5) hK (by decide) rfl) ?_
          refine so_nm (V := .int) (fun v17 hv17 => ?_)
          refine so_go C0 2 (pc' := 103) (lv' := [(0, .ref (G 7)), (1, .int a1), (2, .int a2), (3, .int v3), (4, .int v4), (5, .int v5), (6, .int v15), (7, .int v17)]) (st' := [.ref (G 7)]) rfl ?_
          refine so_getf C0 hK (o := 7) (j := 2) (v := .ref (G 6)) (by decide) rfl i_Grw (by decide) wd_2_13 rfl rfl ?_
          refine so_go C0 4 (pc' := 113) (lv' := [(0, .ref (G 7)), (1, .int a1), (2, .int a2), (3, .int v3), (4, .int v4), (5, .int v5), (6, .int v15), (7, .int v17)]) (st' := [.int v17, .int v15, .int v5, .int v3, .ref (G 6)]) rfl ?_
          refine so_cV (As := [.int v3, .int v5, .int v15, .int v17]) (rest := []) C0 hK hA yk_Nod_settle (c_Nod_settle S2 v3 v5 v15 v17) wd_4_11 rfl rfl ⟨by rw [hf]; decide, by rw [hlo]; decide⟩ (Nat.le_of_ble_eq_true rfl) (zrc_obj (o := 6) hK (by decide) rfl) (fun S18 hS18 => ?_)
          refine so_go C0 1 (pc' := 117) (lv' := [(0, .ref (G 7)), (1, .int a1), (2, .int a2), (3, .int v3), (4, .int v4), (5, .int v5), (6, .int v15), (7, .int v17)]) (st' := [.ref (G 7)]) rfl ?_
          refine so_getf C0 hK (o := 7) (j := 4) (v := .ref (G 49)) (by decide) rfl i_Grw (by decide) wd_2_15 rfl rfl ?_
          refine so_go C0 2 (pc' := 123) (lv' := [(0, .ref (G 7)), (1, .int a1), (2, .int a2), (3, .int v3), (4, .int v4), (5, .int v5), (6, .int v15), (7, .int v17)]) (st' := [.int 1, .int v17, .ref (G 49)]) rfl ?_
          refine so_cV (As := [.int v17, .int 1]) (rest := []) C0 hK hA yk_Row_set (c_Row_set 38 (by decide) v17 1) wd_3_200 rfl rfl ⟨by rw [hf]; decide, by rw [hlo]; decide⟩ (Nat.le_of_ble_eq_true rfl) (zrc_row (k := 38) hK (by decide)) (fun S19 hS19 => ?_)
          refine so_go C0 1 (pc' := 127) (lv' := [(0, .ref (G 7)), (1, .int a1), (2, .int a2), (3, .int v3), (4, .int v4), (5, .int v5), (6, .int v15), (7, .int v17)]) (st' := [.int v3]) rfl ?_
          exact so_reti C0 rfl rfl
        · refine so_go C0 4 (pc' := 103) (lv' := [(0, .ref (G 7)), (1, .int a1), (2, .int a2), (3, .int v3), (4, .int v4), (5, .int v5), (6, .int v15), (7, .int (-1))]) (st' := [.ref (G 7)]) rfl ?_
          refine so_getf C0 hK (o := 7) (j := 2) (v := .ref (G 6)) (by decide) rfl i_Grw (by decide) wd_2_13 rfl rfl ?_
          refine so_go C0 4 (pc' := 113) (lv' := [(0, .ref (G 7)), (1, .int a1), (2, .int a2), (3, .int v3), (4, .int v4), (5, .int v5), (6, .int v15), (7, .int (-1))]) (st' := [.int (-1), .int v15, .int v5, .int v3, .ref (G 6)]) rfl ?_
          refine so_cV (As := [.int v3, .int v5, .int v15, .int (-1)]) (rest := []) C0 hK hA yk_Nod_settle (c_Nod_settle S2 v3 v5 v15 (-1)) wd_4_11 rfl rfl ⟨by rw [hf]; decide, by rw [hlo]; decide⟩ (Nat.le_of_ble_eq_true rfl) (zrc_obj (o := 6) hK (by decide) rfl) (fun S20 hS20 => ?_)
          refine so_go C0 1 (pc' := 117) (lv' := [(0, .ref (G 7)), (1, .int a1), (2, .int a2), (3, .int v3), (4, .int v4), (5, .int v5), (6, .int v15), (7, .int (-1))]) (st' := [.ref (G 7)]) rfl ?_
          refine so_getf C0 hK (o := 7) (j := 4) (v := .ref (G 49)) (by decide) rfl i_Grw (by decide) wd_2_15 rfl rfl ?_
          refine so_go C0 2 (pc' := 123) (lv' := [(0, .ref (G 7)), (1, .int a1), (2, .int a2), (3, .int v3), (4, .int v4), (5, .int v5), (6, .int v15), (7, .int (-1))]) (st' := [.int 1, .int (-1), .ref (G 49)]) rfl ?_
          refine so_cV (As := [.int (-1), .int 1]) (rest := []) C0 hK hA yk_Row_set (c_Row_set 38 (by decide) (-1) 1) wd_3_200 rfl rfl ⟨by rw [hf]; decide, by rw [hlo]; decide⟩ (Nat.le_of_ble_eq_true rfl) (zrc_row (k := 38) hK (by decide)) (fun S21 hS21 => ?_)
          refine so_go C0 1 (pc' := 127) (lv' := [(0, .ref (G 7)), (1, .int a1), (2, .int a2), (3, .int v3), (4, .int v4), (5, .int v5), (6, .int v15), (7, .int (-1))]) (st' := [.int v3]) rfl ?_
          exact so_reti C0 rfl rfl
    · refine so_go C0 1 (pc' := 45) (lv' := [(0, .ref (G 7)), (1, .int a1), (2, .int a2), (3, .int v3), (4, .int v4), (5, .int v5)]) (st' := [.int v3]) rfl ?_
      exact so_reti C0 rfl rfl
  exact K r hr
def f_Grw_letIn_L24 : Nat → zS → Int32 → Int32 → Int32 → Option (zS)
  | 0, _, _, _, _ => none
  | n + 1, S, x1, x2, x3 =>
    if x3 ≤ 0 then
      some S
    else
      if x2 = (-1) then
        some S
      else
        zob (f_Grw_changeOuts S x2 x1 (-1)) fun S5 =>
        zbind (f_Par_nextEdge S5 x2) fun v6 =>
        f_Grw_letIn_L24 n S5 x1 v6 (x3 + (-1))
def f_Grw_letIn (S : zS) (a1 : Int32) : Option (zS) :=
  zbind (f_Par_firstEdge S (f_Nod_part S a1)) fun v1 =>
  zbind (f_Par_edges S) fun v2 =>
  f_Grw_letIn_L24 zbig S a1 v1 v2
theorem mo_Grw_letIn (S : zS) (a1 : Int32) : zmO (fun x => x) S (f_Grw_letIn S a1) := by
  have lp24 : ∀ (n : Nat) (S : zS) (x1 : Int32) (x2 : Int32) (x3 : Int32), zmO (fun x => x) S (f_Grw_letIn_L24 n S x1 x2 x3) := by
    intro n
    induction n with
    | zero =>
      intro S x1 x2 x3
      rw [f_Grw_letIn_L24]
      exact mO_0
    | succ n ih24 =>
      intro S x1 x2 x3
      rw [f_Grw_letIn_L24]
      exact (mO_if (g := (fun x => x)) (mO_s zmo_rf) (mO_if (g := (fun x => x)) (mO_s zmo_rf) (mO_ob (g := (fun x => x)) (mo_Grw_changeOuts S x2 x1 (-1)) fun S5 => (mO_n (g := (fun x => x)) fun v6 => (ih24 S5 x1 v6 (x3 + (-1)))))))
  unfold f_Grw_letIn
  exact (mO_n (g := (fun x => x)) fun v1 => (mO_n (g := (fun x => x)) fun v2 => (lp24 zbig S a1 v1 v2)))
set_option maxHeartbeats 1000000 in
set_option maxRecDepth 20000 in
theorem c_Grw_letIn (S : zS) (a1 : Int32) : ∀ r, f_Grw_letIn S a1 = some r → zMet l y_Grw_letIn (zw y_Grw_letIn prog_4_method_11_code 4 none) 3 68 [.ref (G 7), .int a1] D zcl (ztys cA) A (zRep D cA G A) zfc zfs S (zFv r) := by
  intro r hr
  refine zMet_of (mo_Fv (mo_Grw_letIn S a1 r hr)) (by decide) tk_Grw_letIn (Nat.le_of_ble_eq_true rfl) ?_
  intro p e R s m args below meth c hf hlo C0 hK hA
  have lp24 : ∀ (n : Nat) (S : zS) (x1 : Int32) (x2 : Int32) (x3 : Int32), zSO p l e R s m args below meth c 4 A D cA G S 24 [(0, .ref (G 7)), (1, .int x1), (2, .int x2), (3, .int x3)] [] zFv (f_Grw_letIn_L24 n S x1 x2 x3) := by
    intro n
    induction n with
    | zero =>
      intro S x1 x2 x3
      rw [f_Grw_letIn_L24]
      exact so_none
    | succ n ih24 =>
      intro S x1 x2 x3
      rw [f_Grw_letIn_L24]
      refine so_go C0 1 (pc' := 25) (lv' := [(0, .ref (G 7)), (1, .int x1), (2, .int x2), (3, .int x3)]) (st' := [.int x3]) rfl ?_
      refine so_if_le C0 rfl (fun h3 => ?_) (fun h3 => ?_)
      · exact so_retv C0 rfl rfl
      · refine so_go C0 2 (pc' := 30) (lv' := [(0, .ref (G 7)), (1, .int x1), (2, .int x2), (3, .int x3)]) (st' := [.int (-1), .int x2]) rfl ?_
        refine so_icmp_eq C0 rfl (fun h4 => ?_) (fun h4 => ?_)
        · exact so_retv C0 rfl rfl
        · refine so_go C0 4 (pc' := 37) (lv' := [(0, .ref (G 7)), (1, .int x1), (2, .int x2), (3, .int x3)]) (st' := [.int (-1), .int x1, .int x2, .ref (G 7)]) rfl ?_
          refine so_oV (As := [.int x2, .int x1, .int (-1)]) (rest := []) C0 hK hA yk_Grw_changeOuts (c_Grw_changeOuts S x2 x1 (-1)) wd_3_183 rfl rfl ⟨by rw [hf]; decide, by rw [hlo]; decide⟩ (Nat.le_of_ble_eq_true rfl) (zrc_obj (o := 7) hK (by decide) rfl) (fun S5 hS5 => ?_)
          refine so_go C0 1 (pc' := 41) (lv' := [(0, .ref (G 7)), (1, .int x1), (2, .int x2), (3, .int x3)]) (st' := [.ref (G 7)]) rfl ?_
          refine so_getf C0 hK (o := 7) (j := 1) (v := .ref (G 5)) (by decide) rfl i_Grw (by decide) wd_2_12 rfl rfl ?_
          refine so_go C0 1 (pc' := 45) (lv' := [(0, .ref (G 7)), (1, .int x1), (2, .int x2), (3, .int x3)]) (st' := [.int x2, .ref (G 5)]) rfl ?_
          refine so_cp (As := [.int x2]) (rest := []) C0 hK hA yk_Par_nextEdge (c_Par_nextEdge S5 x2) wd_3_205 rfl rfl ⟨by rw [hf]; decide, by rw [hlo]; decide⟩ (Nat.le_of_ble_eq_true rfl) (zrc_obj (o := 5) hK (by decide) rfl) ?_
          refine so_nm (V := .int) (fun v6 hv6 => ?_)
          refine so_go C0 3 (pc' := 24) (lv' := [(0, .ref (G 7)), (1, .int x1), (2, .int v6), (3, .int (x3 + (-1)))]) (st' := []) rfl ?_
          exact so_sub (lv' := [(0, .ref (G 7)), (1, .int x1), (2, .int v6), (3, .int (x3 + (-1)))]) (zpk [0, 1, 2, 3] rfl) (ih24 S5 x1 v6 (x3 + (-1)))
  have K : zSO p l e R s m args below meth c 4 A D cA G S 0 (lv_args 0 [.ref (G 7), .int a1]) [] zFv (f_Grw_letIn S a1) := by
    unfold f_Grw_letIn
    refine so_go C0 1 (pc' := 1) (lv' := [(0, .ref (G 7)), (1, .int a1)]) (st' := [.ref (G 7)]) rfl ?_
    refine so_getf C0 hK (o := 7) (j := 1) (v := .ref (G 5)) (by decide) rfl i_Grw (by decide) wd_2_12 rfl rfl ?_
    refine so_go C0 1 (pc' := 5) (lv' := [(0, .ref (G 7)), (1, .int a1)]) (st' := [.ref (G 7), .ref (G 5)]) rfl ?_
    refine so_getf C0 hK (o := 7) (j := 2) (v := .ref (G 6)) (by decide) rfl i_Grw (by decide) wd_2_13 rfl rfl ?_
    refine so_go C0 1 (pc' := 9) (lv' := [(0, .ref (G 7)), (1, .int a1)]) (st' := [.int a1, .ref (G 6), .ref (G 5)]) rfl ?_
    refine so_cp (As := [.int a1]) (rest := [.ref (G 5)]) C0 hK hA yk_Nod_part (c_Nod_part S a1) wd_3_170 rfl rfl ⟨by rw [hf]; decide, by rw [hlo]; decide⟩ (Nat.le_of_ble_eq_true rfl) (zrc_obj (o := 6) hK (by decide) rfl) ?_
    refine so_cp (As := [.int (f_Nod_part S a1)]) (rest := []) C0 hK hA yk_Par_firstEdge (c_Par_firstEdge S (f_Nod_part S a1)) wd_3_175 rfl rfl ⟨by rw [hf]; decide, by rw [hlo]; decide⟩ (Nat.le_of_ble_eq_true rfl) (zrc_obj (o := 5) hK (by decide) rfl) ?_
    refine so_nm (V := .int) (fun v1 hv1 => ?_)
    refine so_go C0 2 (pc' := 17) (lv' := [(0, .ref (G 7)), (1, .int a1), (2, .int v1)]) (st' := [.ref (G 7)]) rfl ?_
    refine so_getf C0 hK (o := 7) (j := 1) (v := .ref (G 5)) (by decide) rfl i_Grw (by decide) wd_2_12 rfl rfl ?_
    refine so_cp (As := []) (rest := []) C0 hK hA yk_Par_edges (c_Par_edges S) wd_3_179 rfl rfl ⟨by rw [hf]; decide, by rw [hlo]; decide⟩ (Nat.le_of_ble_eq_true rfl) (zrc_obj (o := 5) hK (by decide) rfl) ?_
    refine so_nm (V := .int) (fun v2 hv2 => ?_)
    refine so_go C0 1 (pc' := 24) (lv' := [(0, .ref (G 7)), (1, .int a1), (2, .int v1), (3, .int v2)]) (st' := []) rfl ?_
    exact so_sub (lv' := [(0, .ref (G 7)), (1, .int a1), (2, .int v1), (3, .int v2)]) (zpk [0, 1, 2, 3] rfl) (lp24 zbig S a1 v1 v2)
  exact K r hr
def f_Grw_leave (S : zS) (a1 : Int32) : Option (zS × Int32) :=
  zbind (r_set S 38 (f_Nod_part S a1) 0) fun S1 =>
  zbind (f_Nod_upper S1 a1) fun v2 =>
  if v2 = (-1) then
    some (S1, v2)
  else
    zob (f_Grw_letIn S1 v2) fun S4 =>
    some (S4, v2)
theorem mo_Grw_leave (S : zS) (a1 : Int32) : zmO Prod.fst S (f_Grw_leave S a1) := by
  unfold f_Grw_leave
  exact (mO_b (g := Prod.fst) mo_r_set fun S1 => (mO_n (g := Prod.fst) fun v2 => (mO_if (g := Prod.fst) (mO_s zmo_rf) (mO_ob (g := Prod.fst) (mo_Grw_letIn S1 v2) fun S4 => (mO_s zmo_rf)))))
set_option maxHeartbeats 1000000 in
set_option maxRecDepth 20000 in
theorem c_Grw_leave (S : zS) (a1 : Int32) : ∀ r, f_Grw_leave S a1 = some r → zMet l y_Grw_leave (zw y_Grw_leave prog_4_method_4_code 3 (some Jvm.ClassFile.FieldType.int)) 4 91 [.ref (G 7), .int a1] D zcl (ztys cA) A (zRep D cA G A) zfc zfs S (zFi r) := by
  intro r hr
  refine zMet_of (mo_Fi (mo_Grw_leave S a1 r hr)) (by decide) tk_Grw_leave (Nat.le_of_ble_eq_true rfl) ?_
  intro p e R s m args below meth c hf hlo C0 hK hA
  have K : zSO p l e R s m args below meth c 3 A D cA G S 0 (lv_args 0 [.ref (G 7), .int a1]) [] zFi (f_Grw_leave S a1) := by
    unfold f_Grw_leave
    refine so_go C0 1 (pc' := 1) (lv' := [(0, .ref (G 7)), (1, .int a1)]) (st' := [.ref (G 7)]) rfl ?_
    refine so_getf C0 hK (o := 7) (j := 4) (v := .ref (G 49)) (by decide) rfl i_Grw (by decide) wd_2_15 rfl rfl ?_
    refine so_go C0 1 (pc' := 5) (lv' := [(0, .ref (G 7)), (1, .int a1)]) (st' := [.ref (G 7), .ref (G 49)]) rfl ?_
    refine so_getf C0 hK (o := 7) (j := 2) (v := .ref (G 6)) (by decide) rfl i_Grw (by decide) wd_2_13 rfl rfl ?_
    refine so_go C0 1 (pc' := 9) (lv' := [(0, .ref (G 7)), (1, .int a1)]) (st' := [.int a1, .ref (G 6), .ref (G 49)]) rfl ?_
    refine so_cp (As := [.int a1]) (rest := [.ref (G 49)]) C0 hK hA yk_Nod_part (c_Nod_part S a1) wd_3_170 rfl rfl ⟨by rw [hf]; decide, by rw [hlo]; decide⟩ (Nat.le_of_ble_eq_true rfl) (zrc_obj (o := 6) hK (by decide) rfl) ?_
    refine so_go C0 1 (pc' := 13) (lv' := [(0, .ref (G 7)), (1, .int a1)]) (st' := [.int 0, .int (f_Nod_part S a1), .ref (G 49)]) rfl ?_
    refine so_cV (As := [.int (f_Nod_part S a1), .int 0]) (rest := []) C0 hK hA yk_Row_set (c_Row_set 38 (by decide) (f_Nod_part S a1) 0) wd_3_200 rfl rfl ⟨by rw [hf]; decide, by rw [hlo]; decide⟩ (Nat.le_of_ble_eq_true rfl) (zrc_row (k := 38) hK (by decide)) (fun S1 hS1 => ?_)
    refine so_go C0 1 (pc' := 17) (lv' := [(0, .ref (G 7)), (1, .int a1)]) (st' := [.ref (G 7)]) rfl ?_
    refine so_getf C0 hK (o := 7) (j := 2) (v := .ref (G 6)) (by decide) rfl i_Grw (by decide) wd_2_13 rfl rfl ?_
    refine so_go C0 1 (pc' := 21) (lv' := [(0, .ref (G 7)), (1, .int a1)]) (st' := [.int a1, .ref (G 6)]) rfl ?_
    refine so_cp (As := [.int a1]) (rest := []) C0 hK hA yk_Nod_upper (c_Nod_upper S1 a1) wd_4_61 rfl rfl ⟨by rw [hf]; decide, by rw [hlo]; decide⟩ (Nat.le_of_ble_eq_true rfl) (zrc_obj (o := 6) hK (by decide) rfl) ?_
    refine so_nm (V := .int) (fun v2 hv2 => ?_)
    refine so_go C0 3 (pc' := 27) (lv' := [(0, .ref (G 7)), (1, .int a1), (2, .int v2)]) (st' := [.int (-1), .int v2]) rfl ?_
    refine so_icmp_eq C0 rfl (fun h3 => ?_) (fun h3 => ?_)
    · refine so_go C0 1 (pc' := 36) (lv' := [(0, .ref (G 7)), (1, .int a1), (2, .int v2)]) (st' := [.int v2]) rfl ?_
      exact so_reti C0 rfl rfl
    · refine so_go C0 2 (pc' := 32) (lv' := [(0, .ref (G 7)), (1, .int a1), (2, .int v2)]) (st' := [.int v2, .ref (G 7)]) rfl ?_
      refine so_oV (As := [.int v2]) (rest := []) C0 hK hA yk_Grw_letIn (c_Grw_letIn S1 v2) wd_4_65 rfl rfl ⟨by rw [hf]; decide, by rw [hlo]; decide⟩ (Nat.le_of_ble_eq_true rfl) (zrc_obj (o := 7) hK (by decide) rfl) (fun S4 hS4 => ?_)
      refine so_go C0 1 (pc' := 36) (lv' := [(0, .ref (G 7)), (1, .int a1), (2, .int v2)]) (st' := [.int v2]) rfl ?_
      exact so_reti C0 rfl rfl
  exact K r hr
def f_Grw_isAsked_L17 : Nat → zS → Int32 → Int32 → Option (Int32)
  | 0, _, _, _ => none
  | n + 1, S, x2, x3 =>
    if x3 ≤ 0 then
      some 0
    else
      if x2 = (-1) then
        some 0
      else
        if ¬ (r_at S 37 (f_Par_askRule S x2)) = (-1) then
          zbind (f_Par_nextAsk S x2) fun v6 =>
          f_Grw_isAsked_L17 n S v6 (x3 + (-1))
        else
          some 1
def f_Grw_isAsked (S : zS) (a1 : Int32) : Option (Int32) :=
  zbind (f_Par_firstAsk S a1) fun v1 =>
  zbind (f_Par_asks S) fun v2 =>
  f_Grw_isAsked_L17 zbig S v1 v2
set_option maxHeartbeats 1000000 in
set_option maxRecDepth 20000 in
theorem c_Grw_isAsked (S : zS) (a1 : Int32) : ∀ r, f_Grw_isAsked S a1 = some r → zMet l y_Grw_isAsked (zw y_Grw_isAsked prog_4_method_8_code 4 (some Jvm.ClassFile.FieldType.boolean)) 2 42 [.ref (G 7), .int a1] D zcl (ztys cA) A (zRep D cA G A) zfc zfs S ((zFp S) r) := by
  intro r hr
  refine zMet_of ⟨Nat.le_refl _, Nat.le_refl _⟩ (by decide) tk_Grw_isAsked (Nat.le_of_ble_eq_true rfl) ?_
  intro p e R s m args below meth c hf hlo C0 hK hA
  have lp17 : ∀ (n : Nat) (x2 : Int32) (x3 : Int32), zSO p l e R s m args below meth c 4 A D cA G S 17 [(0, .ref (G 7)), (2, .int x2), (3, .int x3)] [] (zFp S) (f_Grw_isAsked_L17 n S x2 x3) := by
    intro n
    induction n with
    | zero =>
      intro x2 x3
      rw [f_Grw_isAsked_L17]
      exact so_none
    | succ n ih17 =>
      intro x2 x3
      rw [f_Grw_isAsked_L17]
      refine so_go C0 1 (pc' := 18) (lv' := [(0, .ref (G 7)), (2, .int x2), (3, .int x3)]) (st' := [.int x3]) rfl ?_
      refine so_if_le C0 rfl (fun h3 => ?_) (fun h3 => ?_)
      · refine so_go C0 1 (pc' := 63) (lv' := [(0, .ref (G 7)), (2, .int x2), (3, .int x3)]) (st' := [.int 0]) rfl ?_
        exact so_retz C0 rfl rfl rfl
      · refine so_go C0 2 (pc' := 23) (lv' := [(0, .ref (G 7)), (2, .int x2), (3, .int x3)]) (st' := [.int (-1), .int x2]) rfl ?_
        refine so_icmp_eq C0 rfl (fun h4 => ?_) (fun h4 => ?_)
        · refine so_go C0 1 (pc' := 63) (lv' := [(0, .ref (G 7)), (2, .int x2), (3, .int x3)]) (st' := [.int 0]) rfl ?_
          exact so_retz C0 rfl rfl rfl
        · refine so_go C0 1 (pc' := 27) (lv' := [(0, .ref (G 7)), (2, .int x2), (3, .int x3)]) (st' := [.ref (G 7)]) rfl ?_
          refine so_getf C0 hK (o := 7) (j := 3) (v := .ref (G 48)) (by decide) rfl i_Grw (by decide) wd_2_14 rfl rfl ?_
          refine so_go C0 1 (pc' := 31) (lv' := [(0, .ref (G 7)), (2, .int x2), (3, .int x3)]) (st' := [.ref (G 7), .ref (G 48)]) rfl ?_
          refine so_getf C0 hK (o := 7) (j := 1) (v := .ref (G 5)) (by decide) rfl i_Grw (by decide) wd_2_12 rfl rfl ?_
          refine so_go C0 1 (pc' := 35) (lv' := [(0, .ref (G 7)), (2, .int x2), (3, .int x3)]) (st' := [.int x2, .ref (G 5), .ref (G 48)]) rfl ?_
          refine so_cp (As := [.int x2]) (rest := [.ref (G 48)]) C0 hK hA yk_Par_askRule (c_Par_askRule S x2) wd_3_195 rfl rfl ⟨by rw [hf]; decide, by rw [hlo]; decide⟩ (Nat.le_of_ble_eq_true rfl) (zrc_obj (o := 5) hK (by decide) rfl) ?_
          refine so_cp (As := [.int (f_Par_askRule S x2)]) (rest := []) C0 hK hA yk_Row_at (c_Row_at 37 (by decide) (f_Par_askRule S x2)) wd_3_199 rfl rfl ⟨by rw [hf]; decide, by rw [hlo]; decide⟩ (Nat.le_of_ble_eq_true rfl) (zrc_row (k := 37) hK (by decide)) ?_
          refine so_go C0 1 (pc' := 42) (lv' := [(0, .ref (G 7)), (2, .int x2), (3, .int x3)]) (st' := [.int (-1), .int (r_at S 37 (f_Par_askRule S x2))]) rfl ?_
          refine so_icmp_ne C0 rfl (fun h5 => ?_) (fun h5 => ?_)
          · refine so_go C0 1 (pc' := 48) (lv' := [(0, .ref (G 7)), (2, .int x2), (3, .int x3)]) (st' := [.ref (G 7)]) rfl ?_
            refine so_getf C0 hK (o := 7) (j := 1) (v := .ref (G 5)) (by decide) rfl i_Grw (by decide) wd_2_12 rfl rfl ?_
            refine so_go C0 1 (pc' := 52) (lv' := [(0, .ref (G 7)), (2, .int x2), (3, .int x3)]) (st' := [.int x2, .ref (G 5)]) rfl ?_
            refine so_cp (As := [.int x2]) (rest := []) C0 hK hA yk_Par_nextAsk (c_Par_nextAsk S x2) wd_3_201 rfl rfl ⟨by rw [hf]; decide, by rw [hlo]; decide⟩ (Nat.le_of_ble_eq_true rfl) (zrc_obj (o := 5) hK (by decide) rfl) ?_
            refine so_nm (V := .int) (fun v6 hv6 => ?_)
            refine so_go C0 3 (pc' := 17) (lv' := [(0, .ref (G 7)), (2, .int v6), (3, .int (x3 + (-1)))]) (st' := []) rfl ?_
            exact so_sub (lv' := [(0, .ref (G 7)), (2, .int v6), (3, .int (x3 + (-1)))]) (zpk [0, 1, 2] rfl) (ih17 v6 (x3 + (-1)))
          · refine so_go C0 1 (pc' := 46) (lv' := [(0, .ref (G 7)), (2, .int x2), (3, .int x3)]) (st' := [.int 1]) rfl ?_
            exact so_retz C0 rfl rfl rfl
  have K : zSO p l e R s m args below meth c 4 A D cA G S 0 (lv_args 0 [.ref (G 7), .int a1]) [] (zFp S) (f_Grw_isAsked S a1) := by
    unfold f_Grw_isAsked
    refine so_go C0 1 (pc' := 1) (lv' := [(0, .ref (G 7)), (1, .int a1)]) (st' := [.ref (G 7)]) rfl ?_
    refine so_getf C0 hK (o := 7) (j := 1) (v := .ref (G 5)) (by decide) rfl i_Grw (by decide) wd_2_12 rfl rfl ?_
    refine so_go C0 1 (pc' := 5) (lv' := [(0, .ref (G 7)), (1, .int a1)]) (st' := [.int a1, .ref (G 5)]) rfl ?_
    refine so_cp (As := [.int a1]) (rest := []) C0 hK hA yk_Par_firstAsk (c_Par_firstAsk S a1) wd_3_187 rfl rfl ⟨by rw [hf]; decide, by rw [hlo]; decide⟩ (Nat.le_of_ble_eq_true rfl) (zrc_obj (o := 5) hK (by decide) rfl) ?_
    refine so_nm (V := .int) (fun v1 hv1 => ?_)
    refine so_go C0 2 (pc' := 10) (lv' := [(0, .ref (G 7)), (1, .int a1), (2, .int v1)]) (st' := [.ref (G 7)]) rfl ?_
    refine so_getf C0 hK (o := 7) (j := 1) (v := .ref (G 5)) (by decide) rfl i_Grw (by decide) wd_2_12 rfl rfl ?_
    refine so_cp (As := []) (rest := []) C0 hK hA yk_Par_asks (c_Par_asks S) wd_3_191 rfl rfl ⟨by rw [hf]; decide, by rw [hlo]; decide⟩ (Nat.le_of_ble_eq_true rfl) (zrc_obj (o := 5) hK (by decide) rfl) ?_
    refine so_nm (V := .int) (fun v2 hv2 => ?_)
    refine so_go C0 1 (pc' := 17) (lv' := [(0, .ref (G 7)), (1, .int a1), (2, .int v1), (3, .int v2)]) (st' := []) rfl ?_
    exact so_sub (lv' := [(0, .ref (G 7)), (2, .int v1), (3, .int v2)]) (zpk [0, 2, 3] rfl) (lp17 zbig v1 v2)
  exact K r hr
def f_Grw_nextEdge_L57 : Nat → zS → Int32 → Int32 → Option (Int32)
  | 0, _, _, _ => none
  | n + 1, S, x3, x4 =>
    if x4 ≤ 0 then
      some x3
    else
      if x3 = (-1) then
        some x3
      else
        zob (f_Grw_isAsked S x3) fun v7 =>
        if ¬ v7 = 0 then
          some x3
        else
          zbind (f_Par_nextEdge S x3) fun v9 =>
          f_Grw_nextEdge_L57 n S v9 (x4 + (-1))
def f_Grw_nextEdge (S : zS) (a1 : Int32) : Option (Int32) :=
  zbind (f_Nod_lastBranch S a1) fun v1 =>
  if ¬ v1 = (-1) then
    zbind (f_Par_nextEdge S (f_Nod_edge S v1)) fun v3 =>
    zbind (f_Par_edges S) fun v4 =>
    f_Grw_nextEdge_L57 zbig S v3 v4
  else
    zbind (f_Par_firstEdge S (f_Nod_part S a1)) fun v10 =>
    zbind (f_Par_edges S) fun v11 =>
    f_Grw_nextEdge_L57 zbig S v10 v11
set_option maxHeartbeats 1000000 in
set_option maxRecDepth 20000 in
theorem c_Grw_nextEdge (S : zS) (a1 : Int32) : ∀ r, f_Grw_nextEdge S a1 = some r → zMet l y_Grw_nextEdge (zw y_Grw_nextEdge prog_4_method_7_code 5 (some Jvm.ClassFile.FieldType.int)) 3 65 [.ref (G 7), .int a1] D zcl (ztys cA) A (zRep D cA G A) zfc zfs S ((zFp S) r) := by
  intro r hr
  refine zMet_of ⟨Nat.le_refl _, Nat.le_refl _⟩ (by decide) tk_Grw_nextEdge (Nat.le_of_ble_eq_true rfl) ?_
  intro p e R s m args below meth c hf hlo C0 hK hA
  have lp57 : ∀ (n : Nat) (x3 : Int32) (x4 : Int32), zSO p l e R s m args below meth c 5 A D cA G S 57 [(0, .ref (G 7)), (3, .int x3), (4, .int x4)] [] (zFp S) (f_Grw_nextEdge_L57 n S x3 x4) := by
    intro n
    induction n with
    | zero =>
      intro x3 x4
      rw [f_Grw_nextEdge_L57]
      exact so_none
    | succ n ih57 =>
      intro x3 x4
      rw [f_Grw_nextEdge_L57]
      refine so_go C0 1 (pc' := 59) (lv' := [(0, .ref (G 7)), (3, .int x3), (4, .int x4)]) (st' := [.int x4]) rfl ?_
      refine so_if_le C0 rfl (fun h5 => ?_) (fun h5 => ?_)
      · refine so_go C0 1 (pc' := 91) (lv' := [(0, .ref (G 7)), (3, .int x3), (4, .int x4)]) (st' := [.int x3]) rfl ?_
        exact so_reti C0 rfl rfl
      · refine so_go C0 2 (pc' := 64) (lv' := [(0, .ref (G 7)), (3, .int x3), (4, .int x4)]) (st' := [.int (-1), .int x3]) rfl ?_
        refine so_icmp_eq C0 rfl (fun h6 => ?_) (fun h6 => ?_)
        · refine so_go C0 1 (pc' := 91) (lv' := [(0, .ref (G 7)), (3, .int x3), (4, .int x4)]) (st' := [.int x3]) rfl ?_
          exact so_reti C0 rfl rfl
        · refine so_go C0 2 (pc' := 69) (lv' := [(0, .ref (G 7)), (3, .int x3), (4, .int x4)]) (st' := [.int x3, .ref (G 7)]) rfl ?_
          refine so_op (As := [.int x3]) (rest := []) C0 hK hA yk_Grw_isAsked (c_Grw_isAsked S x3) wd_4_33 rfl rfl ⟨by rw [hf]; decide, by rw [hlo]; decide⟩ (Nat.le_of_ble_eq_true rfl) (zrc_obj (o := 7) hK (by decide) rfl) (fun v7 hv7 => ?_)
          refine so_if_ne C0 rfl (fun h8 => ?_) (fun h8 => ?_)
          · refine so_go C0 1 (pc' := 91) (lv' := [(0, .ref (G 7)), (3, .int x3), (4, .int x4)]) (st' := [.int x3]) rfl ?_
            exact so_reti C0 rfl rfl
          · refine so_go C0 1 (pc' := 76) (lv' := [(0, .ref (G 7)), (3, .int x3), (4, .int x4)]) (st' := [.ref (G 7)]) rfl ?_
            refine so_getf C0 hK (o := 7) (j := 1) (v := .ref (G 5)) (by decide) rfl i_Grw (by decide) wd_2_12 rfl rfl ?_
            refine so_go C0 1 (pc' := 80) (lv' := [(0, .ref (G 7)), (3, .int x3), (4, .int x4)]) (st' := [.int x3, .ref (G 5)]) rfl ?_
            refine so_cp (As := [.int x3]) (rest := []) C0 hK hA yk_Par_nextEdge (c_Par_nextEdge S x3) wd_3_205 rfl rfl ⟨by rw [hf]; decide, by rw [hlo]; decide⟩ (Nat.le_of_ble_eq_true rfl) (zrc_obj (o := 5) hK (by decide) rfl) ?_
            refine so_nm (V := .int) (fun v9 hv9 => ?_)
            refine so_go C0 3 (pc' := 57) (lv' := [(0, .ref (G 7)), (3, .int v9), (4, .int (x4 + (-1)))]) (st' := []) rfl ?_
            exact so_sub (lv' := [(0, .ref (G 7)), (3, .int v9), (4, .int (x4 + (-1)))]) (zpk [0, 1, 2] rfl) (ih57 v9 (x4 + (-1)))
  have K : zSO p l e R s m args below meth c 5 A D cA G S 0 (lv_args 0 [.ref (G 7), .int a1]) [] (zFp S) (f_Grw_nextEdge S a1) := by
    unfold f_Grw_nextEdge
    refine so_go C0 1 (pc' := 1) (lv' := [(0, .ref (G 7)), (1, .int a1)]) (st' := [.ref (G 7)]) rfl ?_
    refine so_getf C0 hK (o := 7) (j := 2) (v := .ref (G 6)) (by decide) rfl i_Grw (by decide) wd_2_13 rfl rfl ?_
    refine so_go C0 1 (pc' := 5) (lv' := [(0, .ref (G 7)), (1, .int a1)]) (st' := [.int a1, .ref (G 6)]) rfl ?_
    refine so_cp (As := [.int a1]) (rest := []) C0 hK hA yk_Nod_lastBranch (c_Nod_lastBranch S a1) wd_4_25 rfl rfl ⟨by rw [hf]; decide, by rw [hlo]; decide⟩ (Nat.le_of_ble_eq_true rfl) (zrc_obj (o := 6) hK (by decide) rfl) ?_
    refine so_nm (V := .int) (fun v1 hv1 => ?_)
    refine so_go C0 3 (pc' := 11) (lv' := [(0, .ref (G 7)), (1, .int a1), (2, .int v1)]) (st' := [.int (-1), .int v1]) rfl ?_
    refine so_icmp_ne C0 rfl (fun h2 => ?_) (fun h2 => ?_)
    · refine so_go C0 1 (pc' := 33) (lv' := [(0, .ref (G 7)), (1, .int a1), (2, .int v1)]) (st' := [.ref (G 7)]) rfl ?_
      refine so_getf C0 hK (o := 7) (j := 1) (v := .ref (G 5)) (by decide) rfl i_Grw (by decide) wd_2_12 rfl rfl ?_
      refine so_go C0 1 (pc' := 37) (lv' := [(0, .ref (G 7)), (1, .int a1), (2, .int v1)]) (st' := [.ref (G 7), .ref (G 5)]) rfl ?_
      refine so_getf C0 hK (o := 7) (j := 2) (v := .ref (G 6)) (by decide) rfl i_Grw (by decide) wd_2_13 rfl rfl ?_
      refine so_go C0 1 (pc' := 41) (lv' := [(0, .ref (G 7)), (1, .int a1), (2, .int v1)]) (st' := [.int v1, .ref (G 6), .ref (G 5)]) rfl ?_
      refine so_cp (As := [.int v1]) (rest := [.ref (G 5)]) C0 hK hA yk_Nod_edge (c_Nod_edge S v1) wd_4_29 rfl rfl ⟨by rw [hf]; decide, by rw [hlo]; decide⟩ (Nat.le_of_ble_eq_true rfl) (zrc_obj (o := 6) hK (by decide) rfl) ?_
      refine so_cp (As := [.int (f_Nod_edge S v1)]) (rest := []) C0 hK hA yk_Par_nextEdge (c_Par_nextEdge S (f_Nod_edge S v1)) wd_3_205 rfl rfl ⟨by rw [hf]; decide, by rw [hlo]; decide⟩ (Nat.le_of_ble_eq_true rfl) (zrc_obj (o := 5) hK (by decide) rfl) ?_
      refine so_nm (V := .int) (fun v3 hv3 => ?_)
      refine so_go C0 2 (pc' := 49) (lv' := [(0, .ref (G 7)), (1, .int a1), (2, .int v1), (3, .int v3)]) (st' := [.ref (G 7)]) rfl ?_
      refine so_getf C0 hK (o := 7) (j := 1) (v := .ref (G 5)) (by decide) rfl i_Grw (by decide) wd_2_12 rfl rfl ?_
      refine so_cp (As := []) (rest := []) C0 hK hA yk_Par_edges (c_Par_edges S) wd_3_179 rfl rfl ⟨by rw [hf]; decide, by rw [hlo]; decide⟩ (Nat.le_of_ble_eq_true rfl) (zrc_obj (o := 5) hK (by decide) rfl) ?_
      refine so_nm (V := .int) (fun v4 hv4 => ?_)
      refine so_go C0 1 (pc' := 57) (lv' := [(0, .ref (G 7)), (1, .int a1), (2, .int v1), (3, .int v3), (4, .int v4)]) (st' := []) rfl ?_
      exact so_sub (lv' := [(0, .ref (G 7)), (3, .int v3), (4, .int v4)]) (zpk [0, 3, 4] rfl) (lp57 zbig v3 v4)
    · refine so_go C0 1 (pc' := 15) (lv' := [(0, .ref (G 7)), (1, .int a1), (2, .int v1)]) (st' := [.ref (G 7)]) rfl ?_
      refine so_getf C0 hK (o := 7) (j := 1) (v := .ref (G 5)) (by decide) rfl i_Grw (by decide) wd_2_12 rfl rfl ?_
      refine so_go C0 1 (pc' := 19) (lv' := [(0, .ref (G 7)), (1, .int a1), (2, .int v1)]) (st' := [.ref (G 7), .ref (G 5)]) rfl ?_
      refine so_getf C0 hK (o := 7) (j := 2) (v := .ref (G 6)) (by decide) rfl i_Grw (by decide) wd_2_13 rfl rfl ?_
      refine so_go C0 1 (pc' := 23) (lv' := [(0, .ref (G 7)), (1, .int a1), (2, .int v1)]) (st' := [.int a1, .ref (G 6), .ref (G 5)]) rfl ?_
      refine so_cp (As := [.int a1]) (rest := [.ref (G 5)]) C0 hK hA yk_Nod_part (c_Nod_part S a1) wd_3_170 rfl rfl ⟨by rw [hf]; decide, by rw [hlo]; decide⟩ (Nat.le_of_ble_eq_true rfl) (zrc_obj (o := 6) hK (by decide) rfl) ?_
      refine so_cp (As := [.int (f_Nod_part S a1)]) (rest := []) C0 hK hA yk_Par_firstEdge (c_Par_firstEdge S (f_Nod_part S a1)) wd_3_175 rfl rfl ⟨by rw [hf]; decide, by rw [hlo]; decide⟩ (Nat.le_of_ble_eq_true rfl) (zrc_obj (o := 5) hK (by decide) rfl) ?_
      refine so_go C0 1 (pc' := 47) (lv' := [(0, .ref (G 7)), (1, .int a1), (2, .int v1)]) (st' := [.int (f_Par_firstEdge S (f_Nod_part S a1))]) rfl ?_
      refine so_nm (V := .int) (fun v10 hv10 => ?_)
      refine so_go C0 2 (pc' := 49) (lv' := [(0, .ref (G 7)), (1, .int a1), (2, .int v1), (3, .int v10)]) (st' := [.ref (G 7)]) rfl ?_
      refine so_getf C0 hK (o := 7) (j := 1) (v := .ref (G 5)) (by decide) rfl i_Grw (by decide) wd_2_12 rfl rfl ?_
      refine so_cp (As := []) (rest := []) C0 hK hA yk_Par_edges (c_Par_edges S) wd_3_179 rfl rfl ⟨by rw [hf]; decide, by rw [hlo]; decide⟩ (Nat.le_of_ble_eq_true rfl) (zrc_obj (o := 5) hK (by decide) rfl) ?_
      refine so_nm (V := .int) (fun v11 hv11 => ?_)
      refine so_go C0 1 (pc' := 57) (lv' := [(0, .ref (G 7)), (1, .int a1), (2, .int v1), (3, .int v10), (4, .int v11)]) (st' := []) rfl ?_
      exact so_sub (lv' := [(0, .ref (G 7)), (3, .int v10), (4, .int v11)]) (zpk [0, 3, 4] rfl) (lp57 zbig v10 v11)
  exact K r hr
def f_Grw_othersLeft (S : zS) (a1 : Int32) : Int32 :=
  zbind (f_Nod_part S a1) fun v1 =>
  zbind (f_Nod_lastBranch S a1) fun v2 =>
  if v1 = (-1) then
    0
  else
    if v2 = (-1) then
      if ¬ (f_Par_shape S v1) = 2 then
        if ¬ (f_Par_shape S v1) = 1 then
          1
        else
          if ¬ (f_Par_sort S v1) = 2 then
            1
          else
            if 256 ≤ (f_Nod_branches S a1) then
              0
            else
              1
      else
        if (f_Fam_tags S (f_Par_sort S v1)) ≤ (f_Nod_branches S a1) then
          0
        else
          1
    else
      if ¬ (f_Nod_edge S v2) = (-1) then
        if ¬ (f_Par_shape S v1) = 2 then
          if ¬ (f_Par_shape S v1) = 1 then
            1
          else
            if ¬ (f_Par_sort S v1) = 2 then
              1
            else
              if 256 ≤ (f_Nod_branches S a1) then
                0
              else
                1
        else
          if (f_Fam_tags S (f_Par_sort S v1)) ≤ (f_Nod_branches S a1) then
            0
          else
            1
      else
        0
set_option maxHeartbeats 1000000 in
set_option maxRecDepth 20000 in
theorem c_Grw_othersLeft (S : zS) (a1 : Int32) : zMet l y_Grw_othersLeft (zw y_Grw_othersLeft prog_4_method_9_code 5 (some Jvm.ClassFile.FieldType.boolean)) 2 42 [.ref (G 7), .int a1] D zcl (ztys cA) A (zRep D cA G A) zfc zfs S ((zFp S) (f_Grw_othersLeft S a1)) := by
  refine zMet_of ⟨Nat.le_refl _, Nat.le_refl _⟩ (by decide) tk_Grw_othersLeft (Nat.le_of_ble_eq_true rfl) ?_
  intro p e R s m args below meth c hf hlo C0 hK hA
  unfold f_Grw_othersLeft
  refine sw_go C0 1 (pc' := 1) (lv' := [(0, .ref (G 7)), (1, .int a1)]) (st' := [.ref (G 7)]) rfl ?_
  refine sw_getf C0 hK (o := 7) (j := 2) (v := .ref (G 6)) (by decide) rfl i_Grw (by decide) wd_2_13 rfl rfl ?_
  refine sw_go C0 1 (pc' := 5) (lv' := [(0, .ref (G 7)), (1, .int a1)]) (st' := [.int a1, .ref (G 6)]) rfl ?_
  refine sw_cp (As := [.int a1]) (rest := []) C0 hK hA yk_Nod_part (c_Nod_part S a1) wd_3_170 rfl rfl ⟨by rw [hf]; decide, by rw [hlo]; decide⟩ (Nat.le_of_ble_eq_true rfl) (zrc_obj (o := 6) hK (by decide) rfl) ?_
  refine sw_nm (zFp S) (V := .int) (fun v1 hv1 => ?_)
  refine sw_go C0 2 (pc' := 10) (lv' := [(0, .ref (G 7)), (1, .int a1), (2, .int v1)]) (st' := [.ref (G 7)]) rfl ?_
  refine sw_getf C0 hK (o := 7) (j := 2) (v := .ref (G 6)) (by decide) rfl i_Grw (by decide) wd_2_13 rfl rfl ?_
  refine sw_go C0 1 (pc' := 14) (lv' := [(0, .ref (G 7)), (1, .int a1), (2, .int v1)]) (st' := [.int a1, .ref (G 6)]) rfl ?_
  refine sw_cp (As := [.int a1]) (rest := []) C0 hK hA yk_Nod_lastBranch (c_Nod_lastBranch S a1) wd_4_25 rfl rfl ⟨by rw [hf]; decide, by rw [hlo]; decide⟩ (Nat.le_of_ble_eq_true rfl) (zrc_obj (o := 6) hK (by decide) rfl) ?_
  refine sw_nm (zFp S) (V := .int) (fun v2 hv2 => ?_)
  refine sw_go C0 3 (pc' := 20) (lv' := [(0, .ref (G 7)), (1, .int a1), (2, .int v1), (3, .int v2)]) (st' := [.int (-1), .int v1]) rfl ?_
  refine sw_icmp_eq (zFp S) C0 rfl (fun h3 => ?_) (fun h3 => ?_)
  · refine sw_go C0 1 (pc' := 41) (lv' := [(0, .ref (G 7)), (1, .int a1), (2, .int v1), (3, .int v2)]) (st' := [.int 0]) rfl ?_
    exact sw_retz C0 rfl rfl rfl
  · refine sw_go C0 2 (pc' := 25) (lv' := [(0, .ref (G 7)), (1, .int a1), (2, .int v1), (3, .int v2)]) (st' := [.int (-1), .int v2]) rfl ?_
    refine sw_icmp_eq (zFp S) C0 rfl (fun h4 => ?_) (fun h4 => ?_)
    · refine sw_go C0 1 (pc' := 43) (lv' := [(0, .ref (G 7)), (1, .int a1), (2, .int v1), (3, .int v2)]) (st' := [.ref (G 7)]) rfl ?_
      refine sw_getf C0 hK (o := 7) (j := 1) (v := .ref (G 5)) (by decide) rfl i_Grw (by decide) wd_2_12 rfl rfl ?_
      refine sw_go C0 1 (pc' := 47) (lv' := [(0, .ref (G 7)), (1, .int a1), (2, .int v1), (3, .int v2)]) (st' := [.int v1, .ref (G 5)]) rfl ?_
      refine sw_cp (As := [.int v1]) (rest := []) C0 hK hA yk_Par_shape (c_Par_shape S v1) wd_4_41 rfl rfl ⟨by rw [hf]; decide, by rw [hlo]; decide⟩ (Nat.le_of_ble_eq_true rfl) (zrc_obj (o := 5) hK (by decide) rfl) ?_
      refine sw_go C0 1 (pc' := 51) (lv' := [(0, .ref (G 7)), (1, .int a1), (2, .int v1), (3, .int v2)]) (st' := [.int 2, .int (f_Par_shape S v1)]) rfl ?_
      refine sw_icmp_ne (zFp S) C0 rfl (fun h5 => ?_) (fun h5 => ?_)
      · refine sw_go C0 1 (pc' := 87) (lv' := [(0, .ref (G 7)), (1, .int a1), (2, .int v1), (3, .int v2)]) (st' := [.ref (G 7)]) rfl ?_
        refine sw_getf C0 hK (o := 7) (j := 1) (v := .ref (G 5)) (by decide) rfl i_Grw (by decide) wd_2_12 rfl rfl ?_
        refine sw_go C0 1 (pc' := 91) (lv' := [(0, .ref (G 7)), (1, .int a1), (2, .int v1), (3, .int v2)]) (st' := [.int v1, .ref (G 5)]) rfl ?_
        refine sw_cp (As := [.int v1]) (rest := []) C0 hK hA yk_Par_shape (c_Par_shape S v1) wd_4_41 rfl rfl ⟨by rw [hf]; decide, by rw [hlo]; decide⟩ (Nat.le_of_ble_eq_true rfl) (zrc_obj (o := 5) hK (by decide) rfl) ?_
        refine sw_go C0 1 (pc' := 95) (lv' := [(0, .ref (G 7)), (1, .int a1), (2, .int v1), (3, .int v2)]) (st' := [.int 1, .int (f_Par_shape S v1)]) rfl ?_
        refine sw_icmp_ne (zFp S) C0 rfl (fun h6 => ?_) (fun h6 => ?_)
        · refine sw_go C0 3 (pc' := 119) (lv' := [(0, .ref (G 7)), (1, .int a1), (2, .int v1), (3, .int v2), (4, .int 0)]) (st' := [.int 0]) rfl ?_
          refine sw_if_eqT C0 rfl (by decide) ?_
          refine sw_go C0 2 (pc' := 141) (lv' := [(0, .ref (G 7)), (1, .int a1), (2, .int v1), (3, .int v2), (4, .int 0)]) (st' := [.int 1]) rfl ?_
          exact sw_retz C0 rfl rfl rfl
        · refine sw_go C0 1 (pc' := 99) (lv' := [(0, .ref (G 7)), (1, .int a1), (2, .int v1), (3, .int v2)]) (st' := [.ref (G 7)]) rfl ?_
          refine sw_getf C0 hK (o := 7) (j := 1) (v := .ref (G 5)) (by decide) rfl i_Grw (by decide) wd_2_12 rfl rfl ?_
          refine sw_go C0 1 (pc' := 103) (lv' := [(0, .ref (G 7)), (1, .int a1), (2, .int v1), (3, .int v2)]) (st' := [.int v1, .ref (G 5)]) rfl ?_
          refine sw_cp (As := [.int v1]) (rest := []) C0 hK hA yk_Par_sort (c_Par_sort S v1) wd_4_49 rfl rfl ⟨by rw [hf]; decide, by rw [hlo]; decide⟩ (Nat.le_of_ble_eq_true rfl) (zrc_obj (o := 5) hK (by decide) rfl) ?_
          refine sw_go C0 1 (pc' := 107) (lv' := [(0, .ref (G 7)), (1, .int a1), (2, .int v1), (3, .int v2)]) (st' := [.int 2, .int (f_Par_sort S v1)]) rfl ?_
          refine sw_icmp_ne (zFp S) C0 rfl (fun h7 => ?_) (fun h7 => ?_)
          · refine sw_go C0 3 (pc' := 119) (lv' := [(0, .ref (G 7)), (1, .int a1), (2, .int v1), (3, .int v2), (4, .int 0)]) (st' := [.int 0]) rfl ?_
            refine sw_if_eqT C0 rfl (by decide) ?_
            refine sw_go C0 2 (pc' := 141) (lv' := [(0, .ref (G 7)), (1, .int a1), (2, .int v1), (3, .int v2), (4, .int 0)]) (st' := [.int 1]) rfl ?_
            exact sw_retz C0 rfl rfl rfl
          · refine sw_go C0 4 (pc' := 119) (lv' := [(0, .ref (G 7)), (1, .int a1), (2, .int v1), (3, .int v2), (4, .int 1)]) (st' := [.int 1]) rfl ?_
            refine sw_if_eqF C0 rfl (by decide) ?_
            refine sw_go C0 1 (pc' := 123) (lv' := [(0, .ref (G 7)), (1, .int a1), (2, .int v1), (3, .int v2), (4, .int 1)]) (st' := [.ref (G 7)]) rfl ?_
            refine sw_getf C0 hK (o := 7) (j := 2) (v := .ref (G 6)) (by decide) rfl i_Grw (by decide) wd_2_13 rfl rfl ?_
            refine sw_go C0 1 (pc' := 127) (lv' := [(0, .ref (G 7)), (1, .int a1), (2, .int v1), (3, .int v2), (4, .int 1)]) (st' := [.int a1, .ref (G 6)]) rfl ?_
            refine sw_cp (As := [.int a1]) (rest := []) C0 hK hA yk_Nod_branches (c_Nod_branches S a1) wd_4_45 rfl rfl ⟨by rw [hf]; decide, by rw [hlo]; decide⟩ (Nat.le_of_ble_eq_true rfl) (zrc_obj (o := 6) hK (by decide) rfl) ?_
            refine sw_go C0 1 (pc' := 133) (lv' := [(0, .ref (G 7)), (1, .int a1), (2, .int v1), (3, .int v2), (4, .int 1)]) (st' := [.int 256, .int (f_Nod_branches S a1)]) rfl ?_
            refine sw_icmp_ge (zFp S) C0 rfl (fun h8 => ?_) (fun h8 => ?_)
            · refine sw_go C0 1 (pc' := 141) (lv' := [(0, .ref (G 7)), (1, .int a1), (2, .int v1), (3, .int v2), (4, .int 1)]) (st' := [.int 0]) rfl ?_
              exact sw_retz C0 rfl rfl rfl
            · refine sw_go C0 2 (pc' := 141) (lv' := [(0, .ref (G 7)), (1, .int a1), (2, .int v1), (3, .int v2), (4, .int 1)]) (st' := [.int 1]) rfl ?_
              exact sw_retz C0 rfl rfl rfl
      · refine sw_go C0 1 (pc' := 55) (lv' := [(0, .ref (G 7)), (1, .int a1), (2, .int v1), (3, .int v2)]) (st' := [.ref (G 7)]) rfl ?_
        refine sw_getf C0 hK (o := 7) (j := 2) (v := .ref (G 6)) (by decide) rfl i_Grw (by decide) wd_2_13 rfl rfl ?_
        refine sw_go C0 1 (pc' := 59) (lv' := [(0, .ref (G 7)), (1, .int a1), (2, .int v1), (3, .int v2)]) (st' := [.int a1, .ref (G 6)]) rfl ?_
        refine sw_cp (As := [.int a1]) (rest := []) C0 hK hA yk_Nod_branches (c_Nod_branches S a1) wd_4_45 rfl rfl ⟨by rw [hf]; decide, by rw [hlo]; decide⟩ (Nat.le_of_ble_eq_true rfl) (zrc_obj (o := 6) hK (by decide) rfl) ?_
        refine sw_go C0 1 (pc' := 63) (lv' := [(0, .ref (G 7)), (1, .int a1), (2, .int v1), (3, .int v2)]) (st' := [.ref (G 7), .int (f_Nod_branches S a1)]) rfl ?_
        refine sw_getf C0 hK (o := 7) (j := 0) (v := .ref (G 1)) (by decide) rfl i_Grw (by decide) wd_2_11 rfl rfl ?_
        refine sw_go C0 1 (pc' := 67) (lv' := [(0, .ref (G 7)), (1, .int a1), (2, .int v1), (3, .int v2)]) (st' := [.ref (G 7), .ref (G 1), .int (f_Nod_branches S a1)]) rfl ?_
        refine sw_getf C0 hK (o := 7) (j := 1) (v := .ref (G 5)) (by decide) rfl i_Grw (by decide) wd_2_12 rfl rfl ?_
        refine sw_go C0 1 (pc' := 71) (lv' := [(0, .ref (G 7)), (1, .int a1), (2, .int v1), (3, .int v2)]) (st' := [.int v1, .ref (G 5), .ref (G 1), .int (f_Nod_branches S a1)]) rfl ?_
        refine sw_cp (As := [.int v1]) (rest := [.ref (G 1), .int (f_Nod_branches S a1)]) C0 hK hA yk_Par_sort (c_Par_sort S v1) wd_4_49 rfl rfl ⟨by rw [hf]; decide, by rw [hlo]; decide⟩ (Nat.le_of_ble_eq_true rfl) (zrc_obj (o := 5) hK (by decide) rfl) ?_
        refine sw_cp (As := [.int (f_Par_sort S v1)]) (rest := [.int (f_Nod_branches S a1)]) C0 hK hA yk_Fam_tags (c_Fam_tags S (f_Par_sort S v1)) wd_4_53 rfl rfl ⟨by rw [hf]; decide, by rw [hlo]; decide⟩ (Nat.le_of_ble_eq_true rfl) (zrc_obj (o := 1) hK (by decide) rfl) ?_
        refine sw_icmp_ge (zFp S) C0 rfl (fun h9 => ?_) (fun h9 => ?_)
        · refine sw_go C0 1 (pc' := 85) (lv' := [(0, .ref (G 7)), (1, .int a1), (2, .int v1), (3, .int v2)]) (st' := [.int 0]) rfl ?_
          exact sw_retz C0 rfl rfl rfl
        · refine sw_go C0 2 (pc' := 85) (lv' := [(0, .ref (G 7)), (1, .int a1), (2, .int v1), (3, .int v2)]) (st' := [.int 1]) rfl ?_
          exact sw_retz C0 rfl rfl rfl
    · refine sw_go C0 1 (pc' := 29) (lv' := [(0, .ref (G 7)), (1, .int a1), (2, .int v1), (3, .int v2)]) (st' := [.ref (G 7)]) rfl ?_
      refine sw_getf C0 hK (o := 7) (j := 2) (v := .ref (G 6)) (by decide) rfl i_Grw (by decide) wd_2_13 rfl rfl ?_
      refine sw_go C0 1 (pc' := 33) (lv' := [(0, .ref (G 7)), (1, .int a1), (2, .int v1), (3, .int v2)]) (st' := [.int v2, .ref (G 6)]) rfl ?_
      refine sw_cp (As := [.int v2]) (rest := []) C0 hK hA yk_Nod_edge (c_Nod_edge S v2) wd_4_29 rfl rfl ⟨by rw [hf]; decide, by rw [hlo]; decide⟩ (Nat.le_of_ble_eq_true rfl) (zrc_obj (o := 6) hK (by decide) rfl) ?_
      refine sw_go C0 1 (pc' := 37) (lv' := [(0, .ref (G 7)), (1, .int a1), (2, .int v1), (3, .int v2)]) (st' := [.int (-1), .int (f_Nod_edge S v2)]) rfl ?_
      refine sw_icmp_ne (zFp S) C0 rfl (fun h10 => ?_) (fun h10 => ?_)
      · refine sw_go C0 1 (pc' := 43) (lv' := [(0, .ref (G 7)), (1, .int a1), (2, .int v1), (3, .int v2)]) (st' := [.ref (G 7)]) rfl ?_
        refine sw_getf C0 hK (o := 7) (j := 1) (v := .ref (G 5)) (by decide) rfl i_Grw (by decide) wd_2_12 rfl rfl ?_
        refine sw_go C0 1 (pc' := 47) (lv' := [(0, .ref (G 7)), (1, .int a1), (2, .int v1), (3, .int v2)]) (st' := [.int v1, .ref (G 5)]) rfl ?_
        refine sw_cp (As := [.int v1]) (rest := []) C0 hK hA yk_Par_shape (c_Par_shape S v1) wd_4_41 rfl rfl ⟨by rw [hf]; decide, by rw [hlo]; decide⟩ (Nat.le_of_ble_eq_true rfl) (zrc_obj (o := 5) hK (by decide) rfl) ?_
        refine sw_go C0 1 (pc' := 51) (lv' := [(0, .ref (G 7)), (1, .int a1), (2, .int v1), (3, .int v2)]) (st' := [.int 2, .int (f_Par_shape S v1)]) rfl ?_
        refine sw_icmp_ne (zFp S) C0 rfl (fun h11 => ?_) (fun h11 => ?_)
        · refine sw_go C0 1 (pc' := 87) (lv' := [(0, .ref (G 7)), (1, .int a1), (2, .int v1), (3, .int v2)]) (st' := [.ref (G 7)]) rfl ?_
          refine sw_getf C0 hK (o := 7) (j := 1) (v := .ref (G 5)) (by decide) rfl i_Grw (by decide) wd_2_12 rfl rfl ?_
          refine sw_go C0 1 (pc' := 91) (lv' := [(0, .ref (G 7)), (1, .int a1), (2, .int v1), (3, .int v2)]) (st' := [.int v1, .ref (G 5)]) rfl ?_
          refine sw_cp (As := [.int v1]) (rest := []) C0 hK hA yk_Par_shape (c_Par_shape S v1) wd_4_41 rfl rfl ⟨by rw [hf]; decide, by rw [hlo]; decide⟩ (Nat.le_of_ble_eq_true rfl) (zrc_obj (o := 5) hK (by decide) rfl) ?_
          refine sw_go C0 1 (pc' := 95) (lv' := [(0, .ref (G 7)), (1, .int a1), (2, .int v1), (3, .int v2)]) (st' := [.int 1, .int (f_Par_shape S v1)]) rfl ?_
          refine sw_icmp_ne (zFp S) C0 rfl (fun h12 => ?_) (fun h12 => ?_)
          · refine sw_go C0 3 (pc' := 119) (lv' := [(0, .ref (G 7)), (1, .int a1), (2, .int v1), (3, .int v2), (4, .int 0)]) (st' := [.int 0]) rfl ?_
            refine sw_if_eqT C0 rfl (by decide) ?_
            refine sw_go C0 2 (pc' := 141) (lv' := [(0, .ref (G 7)), (1, .int a1), (2, .int v1), (3, .int v2), (4, .int 0)]) (st' := [.int 1]) rfl ?_
            exact sw_retz C0 rfl rfl rfl
          · refine sw_go C0 1 (pc' := 99) (lv' := [(0, .ref (G 7)), (1, .int a1), (2, .int v1), (3, .int v2)]) (st' := [.ref (G 7)]) rfl ?_
            refine sw_getf C0 hK (o := 7) (j := 1) (v := .ref (G 5)) (by decide) rfl i_Grw (by decide) wd_2_12 rfl rfl ?_
            refine sw_go C0 1 (pc' := 103) (lv' := [(0, .ref (G 7)), (1, .int a1), (2, .int v1), (3, .int v2)]) (st' := [.int v1, .ref (G 5)]) rfl ?_
            refine sw_cp (As := [.int v1]) (rest := []) C0 hK hA yk_Par_sort (c_Par_sort S v1) wd_4_49 rfl rfl ⟨by rw [hf]; decide, by rw [hlo]; decide⟩ (Nat.le_of_ble_eq_true rfl) (zrc_obj (o := 5) hK (by decide) rfl) ?_
            refine sw_go C0 1 (pc' := 107) (lv' := [(0, .ref (G 7)), (1, .int a1), (2, .int v1), (3, .int v2)]) (st' := [.int 2, .int (f_Par_sort S v1)]) rfl ?_
            refine sw_icmp_ne (zFp S) C0 rfl (fun h13 => ?_) (fun h13 => ?_)
            · refine sw_go C0 3 (pc' := 119) (lv' := [(0, .ref (G 7)), (1, .int a1), (2, .int v1), (3, .int v2), (4, .int 0)]) (st' := [.int 0]) rfl ?_
              refine sw_if_eqT C0 rfl (by decide) ?_
              refine sw_go C0 2 (pc' := 141) (lv' := [(0, .ref (G 7)), (1, .int a1), (2, .int v1), (3, .int v2), (4, .int 0)]) (st' := [.int 1]) rfl ?_
              exact sw_retz C0 rfl rfl rfl
            · refine sw_go C0 4 (pc' := 119) (lv' := [(0, .ref (G 7)), (1, .int a1), (2, .int v1), (3, .int v2), (4, .int 1)]) (st' := [.int 1]) rfl ?_
              refine sw_if_eqF C0 rfl (by decide) ?_
              refine sw_go C0 1 (pc' := 123) (lv' := [(0, .ref (G 7)), (1, .int a1), (2, .int v1), (3, .int v2), (4, .int 1)]) (st' := [.ref (G 7)]) rfl ?_
              refine sw_getf C0 hK (o := 7) (j := 2) (v := .ref (G 6)) (by decide) rfl i_Grw (by decide) wd_2_13 rfl rfl ?_
              refine sw_go C0 1 (pc' := 127) (lv' := [(0, .ref (G 7)), (1, .int a1), (2, .int v1), (3, .int v2), (4, .int 1)]) (st' := [.int a1, .ref (G 6)]) rfl ?_
              refine sw_cp (As := [.int a1]) (rest := []) C0 hK hA yk_Nod_branches (c_Nod_branches S a1) wd_4_45 rfl rfl ⟨by rw [hf]; decide, by rw [hlo]; decide⟩ (Nat.le_of_ble_eq_true rfl) (zrc_obj (o := 6) hK (by decide) rfl) ?_
              refine sw_go C0 1 (pc' := 133) (lv' := [(0, .ref (G 7)), (1, .int a1), (2, .int v1), (3, .int v2), (4, .int 1)]) (st' := [.int 256, .int (f_Nod_branches S a1)]) rfl ?_
              refine sw_icmp_ge (zFp S) C0 rfl (fun h14 => ?_) (fun h14 => ?_)
              · refine sw_go C0 1 (pc' := 141) (lv' := [(0, .ref (G 7)), (1, .int a1), (2, .int v1), (3, .int v2), (4, .int 1)]) (st' := [.int 0]) rfl ?_
                exact sw_retz C0 rfl rfl rfl
              · refine sw_go C0 2 (pc' := 141) (lv' := [(0, .ref (G 7)), (1, .int a1), (2, .int v1), (3, .int v2), (4, .int 1)]) (st' := [.int 1]) rfl ?_
                exact sw_retz C0 rfl rfl rfl
        · refine sw_go C0 1 (pc' := 55) (lv' := [(0, .ref (G 7)), (1, .int a1), (2, .int v1), (3, .int v2)]) (st' := [.ref (G 7)]) rfl ?_
          refine sw_getf C0 hK (o := 7) (j := 2) (v := .ref (G 6)) (by decide) rfl i_Grw (by decide) wd_2_13 rfl rfl ?_
          refine sw_go C0 1 (pc' := 59) (lv' := [(0, .ref (G 7)), (1, .int a1), (2, .int v1), (3, .int v2)]) (st' := [.int a1, .ref (G 6)]) rfl ?_
          refine sw_cp (As := [.int a1]) (rest := []) C0 hK hA yk_Nod_branches (c_Nod_branches S a1) wd_4_45 rfl rfl ⟨by rw [hf]; decide, by rw [hlo]; decide⟩ (Nat.le_of_ble_eq_true rfl) (zrc_obj (o := 6) hK (by decide) rfl) ?_
          refine sw_go C0 1 (pc' := 63) (lv' := [(0, .ref (G 7)), (1, .int a1), (2, .int v1), (3, .int v2)]) (st' := [.ref (G 7), .int (f_Nod_branches S a1)]) rfl ?_
          refine sw_getf C0 hK (o := 7) (j := 0) (v := .ref (G 1)) (by decide) rfl i_Grw (by decide) wd_2_11 rfl rfl ?_
          refine sw_go C0 1 (pc' := 67) (lv' := [(0, .ref (G 7)), (1, .int a1), (2, .int v1), (3, .int v2)]) (st' := [.ref (G 7), .ref (G 1), .int (f_Nod_branches S a1)]) rfl ?_
          refine sw_getf C0 hK (o := 7) (j := 1) (v := .ref (G 5)) (by decide) rfl i_Grw (by decide) wd_2_12 rfl rfl ?_
          refine sw_go C0 1 (pc' := 71) (lv' := [(0, .ref (G 7)), (1, .int a1), (2, .int v1), (3, .int v2)]) (st' := [.int v1, .ref (G 5), .ref (G 1), .int (f_Nod_branches S a1)]) rfl ?_
          refine sw_cp (As := [.int v1]) (rest := [.ref (G 1), .int (f_Nod_branches S a1)]) C0 hK hA yk_Par_sort (c_Par_sort S v1) wd_4_49 rfl rfl ⟨by rw [hf]; decide, by rw [hlo]; decide⟩ (Nat.le_of_ble_eq_true rfl) (zrc_obj (o := 5) hK (by decide) rfl) ?_
          refine sw_cp (As := [.int (f_Par_sort S v1)]) (rest := [.int (f_Nod_branches S a1)]) C0 hK hA yk_Fam_tags (c_Fam_tags S (f_Par_sort S v1)) wd_4_53 rfl rfl ⟨by rw [hf]; decide, by rw [hlo]; decide⟩ (Nat.le_of_ble_eq_true rfl) (zrc_obj (o := 1) hK (by decide) rfl) ?_
          refine sw_icmp_ge (zFp S) C0 rfl (fun h15 => ?_) (fun h15 => ?_)
          · refine sw_go C0 1 (pc' := 85) (lv' := [(0, .ref (G 7)), (1, .int a1), (2, .int v1), (3, .int v2)]) (st' := [.int 0]) rfl ?_
            exact sw_retz C0 rfl rfl rfl
          · refine sw_go C0 2 (pc' := 85) (lv' := [(0, .ref (G 7)), (1, .int a1), (2, .int v1), (3, .int v2)]) (st' := [.int 1]) rfl ?_
            exact sw_retz C0 rfl rfl rfl
      · refine sw_go C0 1 (pc' := 41) (lv' := [(0, .ref (G 7)), (1, .int a1), (2, .int v1), (3, .int v2)]) (st' := [.int 0]) rfl ?_
        exact sw_retz C0 rfl rfl rfl
def f_Grw_make_L40 : Nat → zS → Int32 → Int32 → Option (zS × Int32)
  | 0, _, _, _ => none
  | n + 1, S, x2, x3 =>
    if x2 = (-1) then
      if (f_Nod_size S) ≤ 4096 then
        some (S, (f_Nod_size S))
      else
        some (S, (-2))
    else
      if 4096 < (f_Nod_size S) then
        if (f_Nod_size S) ≤ 4096 then
          some (S, (f_Nod_size S))
        else
          some (S, (-2))
      else
        if 1000000 ≤ x3 then
          if (f_Nod_size S) ≤ 4096 then
            some (S, (f_Nod_size S))
          else
            some (S, (-2))
        else
          zob (f_Grw_nextEdge S x2) fun v12 =>
          if ¬ v12 = (-1) then
            zob2 (f_Grw_enter S x2 v12) fun S14 v15 =>
            f_Grw_make_L40 n S14 v15 (x3 + 1)
          else
            if ¬ (f_Grw_othersLeft S x2) = 0 then
              zob2 (f_Grw_enter S x2 v12) fun S17 v18 =>
              f_Grw_make_L40 n S17 v18 (x3 + 1)
            else
              zob2 (f_Grw_leave S x2) fun S19 v20 =>
              f_Grw_make_L40 n S19 v20 (x3 + 1)
def f_Grw_make (S : zS) (a1 : Int32) : Option (zS × Int32) :=
  zbind (r_fill S 37 a1 (-1)) fun S1 =>
  zbind (r_fill S1 38 (f_Par_size S1) 0) fun S2 =>
  zbind (f_Nod_empty S2) fun S3 =>
  zob2 (f_Grw_enter S3 (-1) (-1)) fun S4 v5 =>
  f_Grw_make_L40 zbig S4 v5 0
theorem mo_Grw_make (S : zS) (a1 : Int32) : zmO Prod.fst S (f_Grw_make S a1) := by
  have lp40 : ∀ (n : Nat) (S : zS) (x2 : Int32) (x3 : Int32), zmO Prod.fst S (f_Grw_make_L40 n S x2 x3) := by
    intro n
    induction n with
    | zero =>
      intro S x2 x3
      rw [f_Grw_make_L40]
      exact mO_0
    | succ n ih40 =>
      intro S x2 x3
      rw [f_Grw_make_L40]
      exact (mO_if (g := Prod.fst) (mO_if (g := Prod.fst) (mO_s zmo_rf) (mO_s zmo_rf)) (mO_if (g := Prod.fst) (mO_if (g := Prod.fst) (mO_s zmo_rf) (mO_s zmo_rf)) (mO_if (g := Prod.fst) (mO_if (g := Prod.fst) (mO_s zmo_rf) (mO_s zmo_rf)) (mO_on (g := Prod.fst) fun v12 => (mO_if (g := Prod.fst) (mO_ob2 (g := Prod.fst) (mo_Grw_enter S x2 v12) fun S14 v15 => (ih40 S14 v15 (x3 + 1))) (mO_if (g := Prod.fst) (mO_ob2 (g := Prod.fst) (mo_Grw_enter S x2 v12) fun S17 v18 => (ih40 S17 v18 (x3 + 1))) (mO_ob2 (g := Prod.fst) (mo_Grw_leave S x2) fun S19 v20 => (ih40 S19 v20 (x3 + 1)))))))))
  unfold f_Grw_make
  exact (mO_b (g := Prod.fst) (z_fl_mono (by decide) _ _) fun S1 => (mO_b (g := Prod.fst) (z_fl_mono (by decide) _ _) fun S2 => (mO_b (g := Prod.fst) (mo_Nod_empty S2) fun S3 => (mO_ob2 (g := Prod.fst) (mo_Grw_enter S3 (-1) (-1)) fun S4 v5 => (lp40 zbig S4 v5 0)))))
set_option maxHeartbeats 1000000 in
set_option maxRecDepth 20000 in
theorem c_Grw_make (S : zS) (a1 : Int32) : ∀ r, f_Grw_make S a1 = some r → zMet l y_Grw_make (zw y_Grw_make prog_4_method_2_code 5 (some Jvm.ClassFile.FieldType.int)) 5 133 [.ref (G 7), .int a1] D zcl (ztys cA) A (zRep D cA G A) zfc zfs S (zFi r) := by
  intro r hr
  refine zMet_of (mo_Fi (mo_Grw_make S a1 r hr)) (by decide) tk_Grw_make (Nat.le_of_ble_eq_true rfl) ?_
  intro p e R s m args below meth c hf hlo C0 hK hA
  have lp40 : ∀ (n : Nat) (S : zS) (x2 : Int32) (x3 : Int32), zSO p l e R s m args below meth c 5 A D cA G S 40 [(0, .ref (G 7)), (2, .int x2), (3, .int x3)] [] zFi (f_Grw_make_L40 n S x2 x3) := by
    intro n
    induction n with
    | zero =>
      intro S x2 x3
      rw [f_Grw_make_L40]
      exact so_none
    | succ n ih40 =>
      intro S x2 x3
      rw [f_Grw_make_L40]
      refine so_go C0 2 (pc' := 42) (lv' := [(0, .ref (G 7)), (2, .int x2), (3, .int x3)]) (st' := [.int (-1), .int x2]) rfl ?_
      refine so_icmp_eq C0 rfl (fun h6 => ?_) (fun h6 => ?_)
      · refine so_go C0 1 (pc' := 108) (lv' := [(0, .ref (G 7)), (2, .int x2), (3, .int x3)]) (st' := [.ref (G 7)]) rfl ?_
        refine so_getf C0 hK (o := 7) (j := 2) (v := .ref (G 6)) (by decide) rfl i_Grw (by decide) wd_2_13 rfl rfl ?_
        refine so_cp (As := []) (rest := []) C0 hK hA yk_Nod_size (c_Nod_size S) wd_4_15 rfl rfl ⟨by rw [hf]; decide, by rw [hlo]; decide⟩ (Nat.le_of_ble_eq_true rfl) (zrc_obj (o := 6) hK (by decide) rfl) ?_
        refine so_go C0 1 (pc' := 117) (lv' := [(0, .ref (G 7)), (2, .int x2), (3, .int x3)]) (st' := [.int 4096, .int (f_Nod_size S)]) rfl ?_
        refine so_icmp_le C0 rfl (fun h7 => ?_) (fun h7 => ?_)
        · refine so_go C0 1 (pc' := 126) (lv' := [(0, .ref (G 7)), (2, .int x2), (3, .int x3)]) (st' := [.ref (G 7)]) rfl ?_
          refine so_getf C0 hK (o := 7) (j := 2) (v := .ref (G 6)) (by decide) rfl i_Grw (by decide) wd_2_13 rfl rfl ?_
          refine so_cp (As := []) (rest := []) C0 hK hA yk_Nod_size (c_Nod_size S) wd_4_15 rfl rfl ⟨by rw [hf]; decide, by rw [hlo]; decide⟩ (Nat.le_of_ble_eq_true rfl) (zrc_obj (o := 6) hK (by decide) rfl) ?_
          exact so_reti C0 rfl rfl
        · refine so_go C0 2 (pc' := 132) (lv' := [(0, .ref (G 7)), (2, .int x2), (3, .int x3)]) (st' := [.int (-2)]) rfl ?_
          exact so_reti C0 rfl rfl
      · refine so_go C0 1 (pc' := 46) (lv' := [(0, .ref (G 7)), (2, .int x2), (3, .int x3)]) (st' := [.ref (G 7)]) rfl ?_
        refine so_getf C0 hK (o := 7) (j := 2) (v := .ref (G 6)) (by decide) rfl i_Grw (by decide) wd_2_13 rfl rfl ?_
        refine so_cp (As := []) (rest := []) C0 hK hA yk_Nod_size (c_Nod_size S) wd_4_15 rfl rfl ⟨by rw [hf]; decide, by rw [hlo]; decide⟩ (Nat.le_of_ble_eq_true rfl) (zrc_obj (o := 6) hK (by decide) rfl) ?_
        refine so_go C0 1 (pc' := 55) (lv' := [(0, .ref (G 7)), (2, .int x2), (3, .int x3)]) (st' := [.int 4096, .int (f_Nod_size S)]) rfl ?_
        refine so_icmp_gt C0 rfl (fun h8 => ?_) (fun h8 => ?_)
        · refine so_go C0 1 (pc' := 108) (lv' := [(0, .ref (G 7)), (2, .int x2), (3, .int x3)]) (st' := [.ref (G 7)]) rfl ?_
          refine so_getf C0 hK (o := 7) (j := 2) (v := .ref (G 6)) (by decide) rfl i_Grw (by decide) wd_2_13 rfl rfl ?_
          refine so_cp (As := []) (rest := []) C0 hK hA yk_Nod_size (c_Nod_size S) wd_4_15 rfl rfl ⟨by rw [hf]; decide, by rw [hlo]; decide⟩ (Nat.le_of_ble_eq_true rfl) (zrc_obj (o := 6) hK (by decide) rfl) ?_
          refine so_go C0 1 (pc' := 117) (lv' := [(0, .ref (G 7)), (2, .int x2), (3, .int x3)]) (st' := [.int 4096, .int (f_Nod_size S)]) rfl ?_
          refine so_icmp_le C0 rfl (fun h9 => ?_) (fun h9 => ?_)
          · refine so_go C0 1 (pc' := 126) (lv' := [(0, .ref (G 7)), (2, .int x2), (3, .int x3)]) (st' := [.ref (G 7)]) rfl ?_
            refine so_getf C0 hK (o := 7) (j := 2) (v := .ref (G 6)) (by decide) rfl i_Grw (by decide) wd_2_13 rfl rfl ?_
            refine so_cp (As := []) (rest := []) C0 hK hA yk_Nod_size (c_Nod_size S) wd_4_15 rfl rfl ⟨by rw [hf]; decide, by rw [hlo]; decide⟩ (Nat.le_of_ble_eq_true rfl) (zrc_obj (o := 6) hK (by decide) rfl) ?_
            exact so_reti C0 rfl rfl
          · refine so_go C0 2 (pc' := 132) (lv' := [(0, .ref (G 7)), (2, .int x2), (3, .int x3)]) (st' := [.int (-2)]) rfl ?_
            exact so_reti C0 rfl rfl
        · refine so_go C0 1 (pc' := 59) (lv' := [(0, .ref (G 7)), (2, .int x2), (3, .int x3)]) (st' := [.int x3]) rfl ?_
          refine so_ldc C0 wd_4_20 rfl ?_
          refine so_icmp_ge C0 rfl (fun h10 => ?_) (fun h10 => ?_)
          · refine so_go C0 1 (pc' := 108) (lv' := [(0, .ref (G 7)), (2, .int x2), (3, .int x3)]) (st' := [.ref (G 7)]) rfl ?_
            refine so_getf C0 hK (o := 7) (j := 2) (v := .ref (G 6)) (by decide) rfl i_Grw (by decide) wd_2_13 rfl rfl ?_
            refine so_cp (As := []) (rest := []) C0 hK hA yk_Nod_size (c_Nod_size S) wd_4_15 rfl rfl ⟨by rw [hf]; decide, by rw [hlo]; decide⟩ (Nat.le_of_ble_eq_true rfl) (zrc_obj (o := 6) hK (by decide) rfl) ?_
            refine so_go C0 1 (pc' := 117) (lv' := [(0, .ref (G 7)), (2, .int x2), (3, .int x3)]) (st' := [.int 4096, .int (f_Nod_size S)]) rfl ?_
            refine so_icmp_le C0 rfl (fun h11 => ?_) (fun h11 => ?_)
            · refine so_go C0 1 (pc' := 126) (lv' := [(0, .ref (G 7)), (2, .int x2), (3, .int x3)]) (st' := [.ref (G 7)]) rfl ?_
              refine so_getf C0 hK (o := 7) (j := 2) (v := .ref (G 6)) (by decide) rfl i_Grw (by decide) wd_2_13 rfl rfl ?_
              refine so_cp (As := []) (rest := []) C0 hK hA yk_Nod_size (c_Nod_size S) wd_4_15 rfl rfl ⟨by rw [hf]; decide, by rw [hlo]; decide⟩ (Nat.le_of_ble_eq_true rfl) (zrc_obj (o := 6) hK (by decide) rfl) ?_
              exact so_reti C0 rfl rfl
            · refine so_go C0 2 (pc' := 132) (lv' := [(0, .ref (G 7)), (2, .int x2), (3, .int x3)]) (st' := [.int (-2)]) rfl ?_
              exact so_reti C0 rfl rfl
          · refine so_go C0 2 (pc' := 66) (lv' := [(0, .ref (G 7)), (2, .int x2), (3, .int x3)]) (st' := [.int x2, .ref (G 7)]) rfl ?_
            refine so_op (As := [.int x2]) (rest := []) C0 hK hA yk_Grw_nextEdge (c_Grw_nextEdge S x2) wd_4_21 rfl rfl ⟨by rw [hf]; decide, by rw [hlo]; decide⟩ (Nat.le_of_ble_eq_true rfl) (zrc_obj (o := 7) hK (by decide) rfl) (fun v12 hv12 => ?_)
            refine so_go C0 3 (pc' := 74) (lv' := [(0, .ref (G 7)), (2, .int x2), (3, .int x3), (4, .int v12)]) (st' := [.int (-1), .int v12]) rfl ?_
            refine so_icmp_ne C0 rfl (fun h13 => ?_) (fun h13 => ?_)
            · refine so_go C0 3 (pc' := 97) (lv' := [(0, .ref (G 7)), (2, .int x2), (3, .int x3), (4, .int v12)]) (st' := [.int v12, .int x2, .ref (G 7)]) rfl ?_
              refine so_oi (As := [.int x2, .int v12]) (rest := []) C0 hK hA yk_Grw_enter (c_Grw_enter S x2 v12) wd_3_162 rfl rfl ⟨by rw [hf]; decide, by rw [hlo]; decide⟩ (Nat.le_of_ble_eq_true rfl) (zrc_obj (o := 7) hK (by decide) rfl) (fun S14 v15 hv15 => ?_)
              refine so_go C0 3 (pc' := 40) (lv' := [(0, .ref (G 7)), (2, .int v15), (3, .int (x3 + 1)), (4, .int v12)]) (st' := []) rfl ?_
              exact so_sub (lv' := [(0, .ref (G 7)), (2, .int v15), (3, .int (x3 + 1))]) (zpk [0, 1, 2] rfl) (ih40 S14 v15 (x3 + 1))
            · refine so_go C0 2 (pc' := 79) (lv' := [(0, .ref (G 7)), (2, .int x2), (3, .int x3), (4, .int v12)]) (st' := [.int x2, .ref (G 7)]) rfl ?_
              refine so_cp (As := [.int x2]) (rest := []) C0 hK hA yk_Grw_othersLeft (c_Grw_othersLeft S x2) wd_4_37 rfl rfl ⟨by rw [hf]; decide, by rw [hlo]; decide⟩ (Nat.le_of_ble_eq_true rfl) (zrc_obj (o := 7) hK (by decide) rfl) ?_
              refine so_if_ne C0 rfl (fun h16 => ?_) (fun h16 => ?_)
              · refine so_go C0 3 (pc' := 97) (lv' := [(0, .ref (G 7)), (2, .int x2), (3, .int x3), (4, .int v12)]) (st' := [.int v12, .int x2, .ref (G 7)]) rfl ?_
                refine so_oi (As := [.int x2, .int v12]) (rest := []) C0 hK hA yk_Grw_enter (c_Grw_enter S x2 v12) wd_3_162 rfl rfl ⟨by rw [hf]; decide, by rw [hlo]; decide⟩ (Nat.le_of_ble_eq_true rfl) (zrc_obj (o := 7) hK (by decide) rfl) (fun S17 v18 hv18 => ?_)
                refine so_go C0 3 (pc' := 40) (lv' := [(0, .ref (G 7)), (2, .int v18), (3, .int (x3 + 1)), (4, .int v12)]) (st' := []) rfl ?_
                exact so_sub (lv' := [(0, .ref (G 7)), (2, .int v18), (3, .int (x3 + 1))]) (zpk [0, 1, 2] rfl) (ih40 S17 v18 (x3 + 1))
              · refine so_go C0 2 (pc' := 87) (lv' := [(0, .ref (G 7)), (2, .int x2), (3, .int x3), (4, .int v12)]) (st' := [.int x2, .ref (G 7)]) rfl ?_
                refine so_oi (As := [.int x2]) (rest := []) C0 hK hA yk_Grw_leave (c_Grw_leave S x2) wd_4_57 rfl rfl ⟨by rw [hf]; decide, by rw [hlo]; decide⟩ (Nat.le_of_ble_eq_true rfl) (zrc_obj (o := 7) hK (by decide) rfl) (fun S19 v20 hv20 => ?_)
                refine so_go C0 4 (pc' := 40) (lv' := [(0, .ref (G 7)), (2, .int v20), (3, .int (x3 + 1)), (4, .int v12)]) (st' := []) rfl ?_
                exact so_sub (lv' := [(0, .ref (G 7)), (2, .int v20), (3, .int (x3 + 1))]) (zpk [0, 1, 2] rfl) (ih40 S19 v20 (x3 + 1))
  have K : zSO p l e R s m args below meth c 5 A D cA G S 0 (lv_args 0 [.ref (G 7), .int a1]) [] zFi (f_Grw_make S a1) := by
    unfold f_Grw_make
    refine so_go C0 1 (pc' := 1) (lv' := [(0, .ref (G 7)), (1, .int a1)]) (st' := [.ref (G 7)]) rfl ?_
    refine so_getf C0 hK (o := 7) (j := 3) (v := .ref (G 48)) (by decide) rfl i_Grw (by decide) wd_2_14 rfl rfl ?_
    refine so_go C0 2 (pc' := 6) (lv' := [(0, .ref (G 7)), (1, .int a1)]) (st' := [.int (-1), .int a1, .ref (G 48)]) rfl ?_
    refine so_cV (As := [.int a1, .int (-1)]) (rest := []) C0 hK hA yk_Row_refill (c_Row_refill 37 (by decide) a1 (-1)) wd_3_152 rfl rfl ⟨by rw [hf]; decide, by rw [hlo]; decide⟩ (Nat.le_of_ble_eq_true rfl) (zrc_row (k := 37) hK (by decide)) (fun S1 hS1 => ?_)
    refine so_go C0 1 (pc' := 10) (lv' := [(0, .ref (G 7)), (1, .int a1)]) (st' := [.ref (G 7)]) rfl ?_
    refine so_getf C0 hK (o := 7) (j := 4) (v := .ref (G 49)) (by decide) rfl i_Grw (by decide) wd_2_15 rfl rfl ?_
    refine so_go C0 1 (pc' := 14) (lv' := [(0, .ref (G 7)), (1, .int a1)]) (st' := [.ref (G 7), .ref (G 49)]) rfl ?_
    refine so_getf C0 hK (o := 7) (j := 1) (v := .ref (G 5)) (by decide) rfl i_Grw (by decide) wd_2_12 rfl rfl ?_
    refine so_cp (As := []) (rest := [.ref (G 49)]) C0 hK hA yk_Par_size (c_Par_size S1) wd_3_153 rfl rfl ⟨by rw [hf]; decide, by rw [hlo]; decide⟩ (Nat.le_of_ble_eq_true rfl) (zrc_obj (o := 5) hK (by decide) rfl) ?_
    refine so_go C0 1 (pc' := 21) (lv' := [(0, .ref (G 7)), (1, .int a1)]) (st' := [.int 0, .int (f_Par_size S1), .ref (G 49)]) rfl ?_
    refine so_cV (As := [.int (f_Par_size S1), .int 0]) (rest := []) C0 hK hA yk_Row_refill (c_Row_refill 38 (by decide) (f_Par_size S1) 0) wd_3_152 rfl rfl ⟨by rw [hf]; decide, by rw [hlo]; decide⟩ (Nat.le_of_ble_eq_true rfl) (zrc_row (k := 38) hK (by decide)) (fun S2 hS2 => ?_)
    refine so_go C0 1 (pc' := 25) (lv' := [(0, .ref (G 7)), (1, .int a1)]) (st' := [.ref (G 7)]) rfl ?_
    refine so_getf C0 hK (o := 7) (j := 2) (v := .ref (G 6)) (by decide) rfl i_Grw (by decide) wd_2_13 rfl rfl ?_
    refine so_cV (As := []) (rest := []) C0 hK hA yk_Nod_empty (c_Nod_empty S2) wd_3_157 rfl rfl ⟨by rw [hf]; decide, by rw [hlo]; decide⟩ (Nat.le_of_ble_eq_true rfl) (zrc_obj (o := 6) hK (by decide) rfl) (fun S3 hS3 => ?_)
    refine so_go C0 3 (pc' := 34) (lv' := [(0, .ref (G 7)), (1, .int a1)]) (st' := [.int (-1), .int (-1), .ref (G 7)]) rfl ?_
    refine so_oi (As := [.int (-1), .int (-1)]) (rest := []) C0 hK hA yk_Grw_enter (c_Grw_enter S3 (-1) (-1)) wd_3_162 rfl rfl ⟨by rw [hf]; decide, by rw [hlo]; decide⟩ (Nat.le_of_ble_eq_true rfl) (zrc_obj (o := 7) hK (by decide) rfl) (fun S4 v5 hv5 => ?_)
    refine so_go C0 3 (pc' := 40) (lv' := [(0, .ref (G 7)), (1, .int a1), (2, .int v5), (3, .int 0)]) (st' := []) rfl ?_
    exact so_sub (lv' := [(0, .ref (G 7)), (2, .int v5), (3, .int 0)]) (zpk [0, 2, 3] rfl) (lp40 zbig S4 v5 0)
  exact K r hr
end ZM
