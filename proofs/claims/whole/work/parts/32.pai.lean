-- by program: the methods of RuleTree$Pairs, as functions, and that the code does them
section ZM
variable {cA : Nat → ClassId} {G : Nat → Nat} {A : Nat → Prop} {D : va_G} {l : Launch}
def f_Pai_putFields_L30 (k : zS → Int32 → Int32 → Int32 → Int32 → Int32 → Option (zS)) : Nat → zS → Int32 → Int32 → Int32 → Int32 → Int32 → Option (zS)
  | 0, _, _, _, _, _, _ => none
  | n + 1, S, x1, x2, x3, x4, x5 =>
    if (f_Pat_width S x2) ≤ x3 then
      k S x1 x2 x3 x4 x5
    else
      if x5 ≤ (f_Pat_fieldNumber S x2 x3) then
        k S x1 x2 x3 x4 x5
      else
        f_Pai_putFields_L30 k n S x1 x2 (x3 + 1) x4 x5
def f_Pai_putFields_L5 : Nat → zS → Int32 → Int32 → Int32 → Int32 → Option (zS)
  | 0, _, _, _, _, _ => none
  | n + 1, S, x1, x2, x3, x4 =>
    if (f_Pat_width S x1) ≤ x4 then
      some S
    else
      zbind (f_Pat_fieldNumber S x1 x4) fun v2 =>
      f_Pai_putFields_L30 (fun S x1 x2 x3 x4 x5 =>
        if (f_Pat_width S x2) ≤ x3 then
          f_Pai_putFields_L5 n S x1 x2 x3 (x4 + 1)
        else
          if ¬ (f_Pat_fieldNumber S x2 x3) = x5 then
            f_Pai_putFields_L5 n S x1 x2 x3 (x4 + 1)
          else
            zbind2 (r_add S 11 (f_Pat_fieldPattern S x1 x4)) fun S7 v8 =>
            zbind2 (r_add S7 11 (f_Pat_fieldPattern S7 x2 x3)) fun S9 v10 =>
            f_Pai_putFields_L5 n S9 x1 x2 x3 (x4 + 1)) zbig S x1 x2 x3 x4 v2
def f_Pai_putFields (S : zS) (a1 : Int32) (a2 : Int32) : Option (zS) :=
  f_Pai_putFields_L5 zbig S a1 a2 0 0
theorem mo_Pai_putFields (S : zS) (a1 : Int32) (a2 : Int32) : zmO (fun x => x) S (f_Pai_putFields S a1 a2) := by
  have lp30 : ∀ (k : zS → Int32 → Int32 → Int32 → Int32 → Int32 → Option (zS)) (hk : ∀ (S : zS) (x1 : Int32) (x2 : Int32) (x3 : Int32) (x4 : Int32) (x5 : Int32), zmO (fun x => x) S (k S x1 x2 x3 x4 x5)) (n : Nat) (S : zS) (x1 : Int32) (x2 : Int32) (x3 : Int32) (x4 : Int32) (x5 : Int32), zmO (fun x => x) S (f_Pai_putFields_L30 k n S x1 x2 x3 x4 x5) := by
    intro k hk n
    induction n with
    | zero =>
      intro S x1 x2 x3 x4 x5
      rw [f_Pai_putFields_L30]
      exact mO_0
    | succ n ih30 =>
      intro S x1 x2 x3 x4 x5
      rw [f_Pai_putFields_L30]
      exact (mO_if (g := (fun x => x)) (hk S x1 x2 x3 x4 x5) (mO_if (g := (fun x => x)) (hk S x1 x2 x3 x4 x5) (ih30 S x1 x2 (x3 + 1) x4 x5)))
  have lp5 : ∀ (n : Nat) (S : zS) (x1 : Int32) (x2 : Int32) (x3 : Int32) (x4 : Int32), zmO (fun x => x) S (f_Pai_putFields_L5 n S x1 x2 x3 x4) := by
    intro n
    induction n with
    | zero =>
      intro S x1 x2 x3 x4
      rw [f_Pai_putFields_L5]
      exact mO_0
    | succ n ih5 =>
      intro S x1 x2 x3 x4
      rw [f_Pai_putFields_L5]
      exact (mO_if (g := (fun x => x)) (mO_s zmo_rf) (mO_n (g := (fun x => x)) fun v2 => (lp30 _ (fun S x1 x2 x3 x4 x5 => (mO_if (g := (fun x => x)) (ih5 S x1 x2 x3 (x4 + 1)) (mO_if (g := (fun x => x)) (ih5 S x1 x2 x3 (x4 + 1)) (mO_b2 (g := (fun x => x)) (r_add_mono (by decide) (f_Pat_fieldPattern S x1 x4)) fun S7 v8 => (mO_b2 (g := (fun x => x)) (r_add_mono (by decide) (f_Pat_fieldPattern S7 x2 x3)) fun S9 v10 => (ih5 S9 x1 x2 x3 (x4 + 1))))))) zbig S x1 x2 x3 x4 v2)))
  unfold f_Pai_putFields
  exact (lp5 zbig S a1 a2 0 0)
set_option maxHeartbeats 1000000 in
set_option maxRecDepth 20000 in
theorem c_Pai_putFields (S : zS) (a1 : Int32) (a2 : Int32) : ∀ r, f_Pai_putFields S a1 a2 = some r → zMet l y_Pai_putFields (zw y_Pai_putFields prog_6_method_7_code 6 none) 3 83 [.ref (G 4), .int a1, .int a2] D zcl (ztys cA) A (zRep D cA G A) zfc zfs S (zFv r) := by
  intro r hr
  refine zMet_of (mo_Fv (mo_Pai_putFields S a1 a2 r hr)) (by decide) tk_Pai_putFields (Nat.le_of_ble_eq_true rfl) ?_
  intro p e R s m args below meth c hf hlo C0 hK hA
  have lp30 : ∀ (k : zS → Int32 → Int32 → Int32 → Int32 → Int32 → Option (zS)) (hk : ∀ (S : zS) (x1 : Int32) (x2 : Int32) (x3 : Int32) (x4 : Int32) (x5 : Int32), zSO p l e R s m args below meth c 6 A D cA G S 62 [(0, .ref (G 4)), (1, .int x1), (2, .int x2), (3, .int x3), (4, .int x4), (5, .int x5)] [] zFv (k S x1 x2 x3 x4 x5)) (n : Nat) (S : zS) (x1 : Int32) (x2 : Int32) (x3 : Int32) (x4 : Int32) (x5 : Int32), zSO p l e R s m args below meth c 6 A D cA G S 30 [(0, .ref (G 4)), (1, .int x1), (2, .int x2), (3, .int x3), (4, .int x4), (5, .int x5)] [] zFv (f_Pai_putFields_L30 k n S x1 x2 x3 x4 x5) := by
    intro k hk n
    induction n with
    | zero =>
      intro S x1 x2 x3 x4 x5
      rw [f_Pai_putFields_L30]
      exact so_none
    | succ n ih30 =>
      intro S x1 x2 x3 x4 x5
      rw [f_Pai_putFields_L30]
      refine so_go C0 2 (pc' := 32) (lv' := [(0, .ref (G 4)), (1, .int x1), (2, .int x2), (3, .int x3), (4, .int x4), (5, .int x5)]) (st' := [.ref (G 4), .int x3]) rfl ?_
      refine so_getf C0 hK (o := 4) (j := 0) (v := .ref (G 2)) (by decide) rfl i_Pai (by decide) wd_1_136 rfl rfl ?_
      refine so_go C0 1 (pc' := 36) (lv' := [(0, .ref (G 4)), (1, .int x1), (2, .int x2), (3, .int x3), (4, .int x4), (5, .int x5)]) (st' := [.int x2, .ref (G 2), .int x3]) rfl ?_
      refine so_cp (As := [.int x2]) (rest := [.int x3]) C0 hK hA yk_Pat_width (c_Pat_width S x2) wd_3_38 rfl rfl ⟨by rw [hf]; decide, by rw [hlo]; decide⟩ (Nat.le_of_ble_eq_true rfl) (zrc_obj (o := 2) hK (by decide) rfl) ?_
      refine so_icmp_ge C0 rfl (fun h3 => ?_) (fun h3 => ?_)
      · exact so_sub (lv' := [(0, .ref (G 4)), (1, .int x1), (2, .int x2), (3, .int x3), (4, .int x4), (5, .int x5)]) (zpk [0, 1, 2, 3, 4, 5] rfl) (hk S x1 x2 x3 x4 x5)
      · refine so_go C0 1 (pc' := 43) (lv' := [(0, .ref (G 4)), (1, .int x1), (2, .int x2), (3, .int x3), (4, .int x4), (5, .int x5)]) (st' := [.ref (G 4)]) rfl ?_
        refine so_getf C0 hK (o := 4) (j := 0) (v := .ref (G 2)) (by decide) rfl i_Pai (by decide) wd_1_136 rfl rfl ?_
        refine so_go C0 2 (pc' := 48) (lv' := [(0, .ref (G 4)), (1, .int x1), (2, .int x2), (3, .int x3), (4, .int x4), (5, .int x5)]) (st' := [.int x3, .int x2, .ref (G 2)]) rfl ?_
        refine so_cp (As := [.int x2, .int x3]) (rest := []) C0 hK hA yk_Pat_fieldNumber (c_Pat_fieldNumber S x2 x3) wd_3_42 rfl rfl ⟨by rw [hf]; decide, by rw [hlo]; decide⟩ (Nat.le_of_ble_eq_true rfl) (zrc_obj (o := 2) hK (by decide) rfl) ?_
        refine so_go C0 1 (pc' := 53) (lv' := [(0, .ref (G 4)), (1, .int x1), (2, .int x2), (3, .int x3), (4, .int x4), (5, .int x5)]) (st' := [.int x5, .int (f_Pat_fieldNumber S x2 x3)]) rfl ?_
        refine so_icmp_ge C0 rfl (fun h4 => ?_) (fun h4 => ?_)
        · exact so_sub (lv' := [(0, .ref (G 4)), (1, .int x1), (2, .int x2), (3, .int x3), (4, .int x4), (5, .int x5)]) (zpk [0, 1, 2, 3, 4, 5] rfl) (hk S x1 x2 x3 x4 x5)
        · refine so_go C0 2 (pc' := 30) (lv' := [(0, .ref (G 4)), (1, .int x1), (2, .int x2), (3, .int (x3 + 1)), (4, .int x4), (5, .int x5)]) (st' := []) rfl ?_
          exact so_sub (lv' := [(0, .ref (G 4)), (1, .int x1), (2, .int x2), (3, .int (x3 + 1)), (4, .int x4), (5, .int x5)]) (zpk [0, 1, 2, 3, 4, 5] rfl) (ih30 S x1 x2 (x3 + 1) x4 x5)
  have lp5 : ∀ (n : Nat) (S : zS) (x1 : Int32) (x2 : Int32) (x3 : Int32) (x4 : Int32), zSO p l e R s m args below meth c 6 A D cA G S 5 [(0, .ref (G 4)), (1, .int x1), (2, .int x2), (3, .int x3), (4, .int x4)] [] zFv (f_Pai_putFields_L5 n S x1 x2 x3 x4) := by
    intro n
    induction n with
    | zero =>
      intro S x1 x2 x3 x4
      rw [f_Pai_putFields_L5]
      exact so_none
    | succ n ih5 =>
      intro S x1 x2 x3 x4
      rw [f_Pai_putFields_L5]
      refine so_go C0 2 (pc' := 8) (lv' := [(0, .ref (G 4)), (1, .int x1), (2, .int x2), (3, .int x3), (4, .int x4)]) (st' := [.ref (G 4), .int x4]) rfl ?_
      refine so_getf C0 hK (o := 4) (j := 0) (v := .ref (G 2)) (by decide) rfl i_Pai (by decide) wd_1_136 rfl rfl ?_
      refine so_go C0 1 (pc' := 12) (lv' := [(0, .ref (G 4)), (1, .int x1), (2, .int x2), (3, .int x3), (4, .int x4)]) (st' := [.int x1, .ref (G 2), .int x4]) rfl ?_
      refine so_cp (As := [.int x1]) (rest := [.int x4]) C0 hK hA yk_Pat_width (c_Pat_width S x1) wd_3_38 rfl rfl ⟨by rw [hf]; decide, by rw [hlo]; decide⟩ (Nat.le_of_ble_eq_true rfl) (zrc_obj (o := 2) hK (by decide) rfl) ?_
      refine so_icmp_ge C0 rfl (fun h1 => ?_) (fun h1 => ?_)
      · exact so_retv C0 rfl rfl
      · refine so_go C0 1 (pc' := 19) (lv' := [(0, .ref (G 4)), (1, .int x1), (2, .int x2), (3, .int x3), (4, .int x4)]) (st' := [.ref (G 4)]) rfl ?_
        refine so_getf C0 hK (o := 4) (j := 0) (v := .ref (G 2)) (by decide) rfl i_Pai (by decide) wd_1_136 rfl rfl ?_
        refine so_go C0 2 (pc' := 25) (lv' := [(0, .ref (G 4)), (1, .int x1), (2, .int x2), (3, .int x3), (4, .int x4)]) (st' := [.int x4, .int x1, .ref (G 2)]) rfl ?_
        refine so_cp (As := [.int x1, .int x4]) (rest := []) C0 hK hA yk_Pat_fieldNumber (c_Pat_fieldNumber S x1 x4) wd_3_42 rfl rfl ⟨by rw [hf]; decide, by rw [hlo]; decide⟩ (Nat.le_of_ble_eq_true rfl) (zrc_obj (o := 2) hK (by decide) rfl) ?_
        refine so_nm (V := .int) (fun v2 hv2 => ?_)
        refine so_go C0 1 (pc' := 30) (lv' := [(0, .ref (G 4)), (1, .int x1), (2, .int x2), (3, .int x3), (4, .int x4), (5, .int v2)]) (st' := []) rfl ?_
        refine so_sub (lv' := [(0, .ref (G 4)), (1, .int x1), (2, .int x2), (3, .int x3), (4, .int x4), (5, .int v2)]) (zpk [0, 1, 2, 3, 4, 5] rfl) (lp30 _ (fun S x1 x2 x3 x4 x5 => ?_) zbig S x1 x2 x3 x4 v2)
        refine so_go C0 2 (pc' := 64) (lv' := [(0, .ref (G 4)), (1, .int x1), (2, .int x2), (3, .int x3), (4, .int x4), (5, .int x5)]) (st' := [.ref (G 4), .int x3]) rfl ?_
        refine so_getf C0 hK (o := 4) (j := 0) (v := .ref (G 2)) (by decide) rfl i_Pai (by decide) wd_1_136 rfl rfl ?_
        refine so_go C0 1 (pc' := 68) (lv' := [(0, .ref (G 4)), (1, .int x1), (2, .int x2), (3, .int x3), (4, .int x4), (5, .int x5)]) (st' := [.int x2, .ref (G 2), .int x3]) rfl ?_
        refine so_cp (As := [.int x2]) (rest := [.int x3]) C0 hK hA yk_Pat_width (c_Pat_width S x2) wd_3_38 rfl rfl ⟨by rw [hf]; decide, by rw [hlo]; decide⟩ (Nat.le_of_ble_eq_true rfl) (zrc_obj (o := 2) hK (by decide) rfl) ?_
        refine so_icmp_ge C0 rfl (fun h5 => ?_) (fun h5 => ?_)
        · refine so_go C0 2 (pc' := 5) (lv' := [(0, .ref (G 4)), (1, .int x1), (2, .int x2), (3, .int x3), (4, .int (x4 + 1)), (5, .int x5)]) (st' := []) rfl ?_
          exact so_sub (lv' := [(0, .ref (G 4)), (1, .int x1), (2, .int x2), (3, .int x3), (4, .int (x4 + 1))]) (zpk [0, 1, 2, 3, 4] rfl) (ih5 S x1 x2 x3 (x4 + 1))
        · refine so_go C0 1 (pc' := 75) (lv' := [(0, .ref (G 4)), (1, .int x1), (2, .int x2), (3, .int x3), (4, .int x4), (5, .int x5)]) (st' := [.ref (G 4)]) rfl ?_
          refine so_getf C0 hK (o := 4) (j := 0) (v := .ref (G 2)) (by decide) rfl i_Pai (by decide) wd_1_136 rfl rfl ?_
          refine so_go C0 2 (pc' := 80) (lv' := [(0, .ref (G 4)), (1, .int x1), (2, .int x2), (3, .int x3), (4, .int x4), (5, .int x5)]) (st' := [.int x3, .int x2, .ref (G 2)]) rfl ?_
          refine so_cp (As := [.int x2, .int x3]) (rest := []) C0 hK hA yk_Pat_fieldNumber (c_Pat_fieldNumber S x2 x3) wd_3_42 rfl rfl ⟨by rw [hf]; decide, by rw [hlo]; decide⟩ (Nat.le_of_ble_eq_true rfl) (zrc_obj (o := 2) hK (by decide) rfl) ?_
          refine so_go C0 1 (pc' := 85) (lv' := [(0, .ref (G 4)), (1, .int x1), (2, .int x2), (3, .int x3), (4, .int x4), (5, .int x5)]) (st' := [.int x5, .int (f_Pat_fieldNumber S x2 x3)]) rfl ?_
          refine so_icmp_ne C0 rfl (fun h6 => ?_) (fun h6 => ?_)
          · refine so_go C0 2 (pc' := 5) (lv' := [(0, .ref (G 4)), (1, .int x1), (2, .int x2), (3, .int x3), (4, .int (x4 + 1)), (5, .int x5)]) (st' := []) rfl ?_
            exact so_sub (lv' := [(0, .ref (G 4)), (1, .int x1), (2, .int x2), (3, .int x3), (4, .int (x4 + 1))]) (zpk [0, 1, 2, 3, 4] rfl) (ih5 S x1 x2 x3 (x4 + 1))
          · refine so_go C0 1 (pc' := 89) (lv' := [(0, .ref (G 4)), (1, .int x1), (2, .int x2), (3, .int x3), (4, .int x4), (5, .int x5)]) (st' := [.ref (G 4)]) rfl ?_
            refine so_getf C0 hK (o := 4) (j := 1) (v := .ref (G 22)) (by decide) rfl i_Pai (by decide) wd_1_137 rfl rfl ?_
            refine so_go C0 1 (pc' := 93) (lv' := [(0, .ref (G 4)), (1, .int x1), (2, .int x2), (3, .int x3), (4, .int x4), (5, .int x5)]) (st' := [.ref (G 4), .ref (G 22)]) rfl ?_
            refine so_getf C0 hK (o := 4) (j := 0) (v := .ref (G 2)) (by decide) rfl i_Pai (by decide) wd_1_136 rfl rfl ?_
            refine so_go C0 2 (pc' := 99) (lv' := [(0, .ref (G 4)), (1, .int x1), (2, .int x2), (3, .int x3), (4, .int x4), (5, .int x5)]) (st' := [.int x4, .int x1, .ref (G 2), .ref (G 22)]) rfl ?_
            refine so_cp (As := [.int x1, .int x4]) (rest := [.ref (G 22)]) C0 hK hA yk_Pat_fieldPattern (c_Pat_fieldPattern S x1 x4) wd_3_46 rfl rfl ⟨by rw [hf]; decide, by rw [hlo]; decide⟩ (Nat.le_of_ble_eq_true rfl) (zrc_obj (o := 2) hK (by decide) rfl) ?_
            refine so_ci (As := [.int (f_Pat_fieldPattern S x1 x4)]) (rest := []) C0 hK hA yk_Row_add (c_Row_add 11 (by decide) (f_Pat_fieldPattern S x1 x4)) wd_3_8 rfl rfl ⟨by rw [hf]; decide, by rw [hlo]; decide⟩ (Nat.le_of_ble_eq_true rfl) (zrc_row (k := 11) hK (by decide)) (fun S7 v8 hv8 => ?_)
            refine so_go C0 2 (pc' := 107) (lv' := [(0, .ref (G 4)), (1, .int x1), (2, .int x2), (3, .int x3), (4, .int x4), (5, .int x5)]) (st' := [.ref (G 4)]) rfl ?_
            refine so_getf C0 hK (o := 4) (j := 1) (v := .ref (G 22)) (by decide) rfl i_Pai (by decide) wd_1_137 rfl rfl ?_
            refine so_go C0 1 (pc' := 111) (lv' := [(0, .ref (G 4)), (1, .int x1), (2, .int x2), (3, .int x3), (4, .int x4), (5, .int x5)]) (st' := [.ref (G 4), .ref (G 22)]) rfl ?_
            refine so_getf C0 hK (o := 4) (j := 0) (v := .ref (G 2)) (by decide) rfl i_Pai (by decide) wd_1_136 rfl rfl ?_
            refine so_go C0 2 (pc' := 116) (lv' := [(0, .ref (G 4)), (1, .int x1), (2, .int x2), (3, .int x3), (4, .int x4), (5, .int x5)]) (st' := [.int x3, .int x2, .ref (G 2), .ref (G 22)]) rfl ?_
            refine so_cp (As := [.int x2, .int x3]) (rest := [.ref (G 22)]) C0 hK hA yk_Pat_fieldPattern (c_Pat_fieldPattern S7 x2 x3) wd_3_46 rfl rfl ⟨by rw [hf]; decide, by rw [hlo]; decide⟩ (Nat.le_of_ble_eq_true rfl) (zrc_obj (o := 2) hK (by decide) rfl) ?_
            refine so_ci (As := [.int (f_Pat_fieldPattern S7 x2 x3)]) (rest := []) C0 hK hA yk_Row_add (c_Row_add 11 (by decide) (f_Pat_fieldPattern S7 x2 x3)) wd_3_8 rfl rfl ⟨by rw [hf]; decide, by rw [hlo]; decide⟩ (Nat.le_of_ble_eq_true rfl) (zrc_row (k := 11) hK (by decide)) (fun S9 v10 hv10 => ?_)
            refine so_go C0 3 (pc' := 5) (lv' := [(0, .ref (G 4)), (1, .int x1), (2, .int x2), (3, .int x3), (4, .int (x4 + 1)), (5, .int x5)]) (st' := []) rfl ?_
            exact so_sub (lv' := [(0, .ref (G 4)), (1, .int x1), (2, .int x2), (3, .int x3), (4, .int (x4 + 1))]) (zpk [0, 1, 2, 3, 4] rfl) (ih5 S9 x1 x2 x3 (x4 + 1))
  have K : zSO p l e R s m args below meth c 6 A D cA G S 0 (lv_args 0 [.ref (G 4), .int a1, .int a2]) [] zFv (f_Pai_putFields S a1 a2) := by
    unfold f_Pai_putFields
    refine so_go C0 4 (pc' := 5) (lv' := [(0, .ref (G 4)), (1, .int a1), (2, .int a2), (3, .int 0), (4, .int 0)]) (st' := []) rfl ?_
    exact so_sub (lv' := [(0, .ref (G 4)), (1, .int a1), (2, .int a2), (3, .int 0), (4, .int 0)]) (zpk [0, 1, 2, 3, 4] rfl) (lp5 zbig S a1 a2 0 0)
  exact K r hr
def f_Pai_putInner (S : zS) (a1 : Int32) (a2 : Int32) : Option (zS × Int32) :=
  if ¬ (f_Pat_shape S a1) = 4 then
    zbind (f_Pat_argument S a1) fun v2 =>
    zbind (f_Pat_argument S a2) fun v3 =>
    if v2 = (-1) then
      if ¬ v2 = v3 then
        some (S, 0)
      else
        some (S, 1)
    else
      if ¬ v3 = (-1) then
        zbind2 (r_add S 11 v2) fun S7 v8 =>
        zbind2 (r_add S7 11 v3) fun S9 v10 =>
        some (S9, 1)
      else
        if ¬ v2 = v3 then
          some (S, 0)
        else
          some (S, 1)
  else
    zob (f_Pai_putFields S a1 a2) fun S12 =>
    some (S12, 1)
theorem mo_Pai_putInner (S : zS) (a1 : Int32) (a2 : Int32) : zmO Prod.fst S (f_Pai_putInner S a1 a2) := by
  unfold f_Pai_putInner
  exact (mO_if (g := Prod.fst) (mO_n (g := Prod.fst) fun v2 => (mO_n (g := Prod.fst) fun v3 => (mO_if (g := Prod.fst) (mO_if (g := Prod.fst) (mO_s zmo_rf) (mO_s zmo_rf)) (mO_if (g := Prod.fst) (mO_b2 (g := Prod.fst) (r_add_mono (by decide) v2) fun S7 v8 => (mO_b2 (g := Prod.fst) (r_add_mono (by decide) v3) fun S9 v10 => (mO_s zmo_rf))) (mO_if (g := Prod.fst) (mO_s zmo_rf) (mO_s zmo_rf)))))) (mO_ob (g := Prod.fst) (mo_Pai_putFields S a1 a2) fun S12 => (mO_s zmo_rf)))
set_option maxHeartbeats 1000000 in
set_option maxRecDepth 20000 in
theorem c_Pai_putInner (S : zS) (a1 : Int32) (a2 : Int32) : ∀ r, f_Pai_putInner S a1 a2 = some r → zMet l y_Pai_putInner (zw y_Pai_putInner prog_6_method_6_code 5 (some Jvm.ClassFile.FieldType.boolean)) 4 108 [.ref (G 4), .int a1, .int a2] D zcl (ztys cA) A (zRep D cA G A) zfc zfs S (zFi r) := by
  intro r hr
  refine zMet_of (mo_Fi (mo_Pai_putInner S a1 a2 r hr)) (by decide) tk_Pai_putInner (Nat.le_of_ble_eq_true rfl) ?_
  intro p e R s m args below meth c hf hlo C0 hK hA
  have K : zSO p l e R s m args below meth c 5 A D cA G S 0 (lv_args 0 [.ref (G 4), .int a1, .int a2]) [] zFi (f_Pai_putInner S a1 a2) := by
    unfold f_Pai_putInner
    refine so_go C0 1 (pc' := 1) (lv' := [(0, .ref (G 4)), (1, .int a1), (2, .int a2)]) (st' := [.ref (G 4)]) rfl ?_
    refine so_getf C0 hK (o := 4) (j := 0) (v := .ref (G 2)) (by decide) rfl i_Pai (by decide) wd_1_136 rfl rfl ?_
    refine so_go C0 1 (pc' := 5) (lv' := [(0, .ref (G 4)), (1, .int a1), (2, .int a2)]) (st' := [.int a1, .ref (G 2)]) rfl ?_
    refine so_cp (As := [.int a1]) (rest := []) C0 hK hA yk_Pat_shape (c_Pat_shape S a1) wd_3_14 rfl rfl ⟨by rw [hf]; decide, by rw [hlo]; decide⟩ (Nat.le_of_ble_eq_true rfl) (zrc_obj (o := 2) hK (by decide) rfl) ?_
    refine so_go C0 1 (pc' := 9) (lv' := [(0, .ref (G 4)), (1, .int a1), (2, .int a2)]) (st' := [.int 4, .int (f_Pat_shape S a1)]) rfl ?_
    refine so_icmp_ne C0 rfl (fun h1 => ?_) (fun h1 => ?_)
    · refine so_go C0 1 (pc' := 21) (lv' := [(0, .ref (G 4)), (1, .int a1), (2, .int a2)]) (st' := [.ref (G 4)]) rfl ?_
      refine so_getf C0 hK (o := 4) (j := 0) (v := .ref (G 2)) (by decide) rfl i_Pai (by decide) wd_1_136 rfl rfl ?_
      refine so_go C0 1 (pc' := 25) (lv' := [(0, .ref (G 4)), (1, .int a1), (2, .int a2)]) (st' := [.int a1, .ref (G 2)]) rfl ?_
      refine so_cp (As := [.int a1]) (rest := []) C0 hK hA yk_Pat_argument (c_Pat_argument S a1) wd_3_50 rfl rfl ⟨by rw [hf]; decide, by rw [hlo]; decide⟩ (Nat.le_of_ble_eq_true rfl) (zrc_obj (o := 2) hK (by decide) rfl) ?_
      refine so_nm (V := .int) (fun v2 hv2 => ?_)
      refine so_go C0 2 (pc' := 30) (lv' := [(0, .ref (G 4)), (1, .int a1), (2, .int a2), (3, .int v2)]) (st' := [.ref (G 4)]) rfl ?_
      refine so_getf C0 hK (o := 4) (j := 0) (v := .ref (G 2)) (by decide) rfl i_Pai (by decide) wd_1_136 rfl rfl ?_
      refine so_go C0 1 (pc' := 34) (lv' := [(0, .ref (G 4)), (1, .int a1), (2, .int a2), (3, .int v2)]) (st' := [.int a2, .ref (G 2)]) rfl ?_
      refine so_cp (As := [.int a2]) (rest := []) C0 hK hA yk_Pat_argument (c_Pat_argument S a2) wd_3_50 rfl rfl ⟨by rw [hf]; decide, by rw [hlo]; decide⟩ (Nat.le_of_ble_eq_true rfl) (zrc_obj (o := 2) hK (by decide) rfl) ?_
      refine so_nm (V := .int) (fun v3 hv3 => ?_)
      refine so_go C0 3 (pc' := 41) (lv' := [(0, .ref (G 4)), (1, .int a1), (2, .int a2), (3, .int v2), (4, .int v3)]) (st' := [.int (-1), .int v2]) rfl ?_
      refine so_icmp_eq C0 rfl (fun h4 => ?_) (fun h4 => ?_)
      · refine so_go C0 2 (pc' := 53) (lv' := [(0, .ref (G 4)), (1, .int a1), (2, .int a2), (3, .int v2), (4, .int v3)]) (st' := [.int v3, .int v2]) rfl ?_
        refine so_icmp_ne C0 rfl (fun h5 => ?_) (fun h5 => ?_)
        · refine so_go C0 1 (pc' := 61) (lv' := [(0, .ref (G 4)), (1, .int a1), (2, .int a2), (3, .int v2), (4, .int v3)]) (st' := [.int 0]) rfl ?_
          exact so_retz C0 rfl rfl rfl
        · refine so_go C0 2 (pc' := 61) (lv' := [(0, .ref (G 4)), (1, .int a1), (2, .int a2), (3, .int v2), (4, .int v3)]) (st' := [.int 1]) rfl ?_
          exact so_retz C0 rfl rfl rfl
      · refine so_go C0 2 (pc' := 47) (lv' := [(0, .ref (G 4)), (1, .int a1), (2, .int a2), (3, .int v2), (4, .int v3)]) (st' := [.int (-1), .int v3]) rfl ?_
        refine so_icmp_ne C0 rfl (fun h6 => ?_) (fun h6 => ?_)
        · refine so_go C0 1 (pc' := 63) (lv' := [(0, .ref (G 4)), (1, .int a1), (2, .int a2), (3, .int v2), (4, .int v3)]) (st' := [.ref (G 4)]) rfl ?_
          refine so_getf C0 hK (o := 4) (j := 1) (v := .ref (G 22)) (by decide) rfl i_Pai (by decide) wd_1_137 rfl rfl ?_
          refine so_go C0 1 (pc' := 67) (lv' := [(0, .ref (G 4)), (1, .int a1), (2, .int a2), (3, .int v2), (4, .int v3)]) (st' := [.int v2, .ref (G 22)]) rfl ?_
          refine so_ci (As := [.int v2]) (rest := []) C0 hK hA yk_Row_add (c_Row_add 11 (by decide) v2) wd_3_8 rfl rfl ⟨by rw [hf]; decide, by rw [hlo]; decide⟩ (Nat.le_of_ble_eq_true rfl) (zrc_row (k := 11) hK (by decide)) (fun S7 v8 hv8 => ?_)
          refine so_go C0 2 (pc' := 72) (lv' := [(0, .ref (G 4)), (1, .int a1), (2, .int a2), (3, .int v2), (4, .int v3)]) (st' := [.ref (G 4)]) rfl ?_
          refine so_getf C0 hK (o := 4) (j := 1) (v := .ref (G 22)) (by decide) rfl i_Pai (by decide) wd_1_137 rfl rfl ?_
          refine so_go C0 1 (pc' := 77) (lv' := [(0, .ref (G 4)), (1, .int a1), (2, .int a2), (3, .int v2), (4, .int v3)]) (st' := [.int v3, .ref (G 22)]) rfl ?_
          refine so_ci (As := [.int v3]) (rest := []) C0 hK hA yk_Row_add (c_Row_add 11 (by decide) v3) wd_3_8 rfl rfl ⟨by rw [hf]; decide, by rw [hlo]; decide⟩ (Nat.le_of_ble_eq_true rfl) (zrc_row (k := 11) hK (by decide)) (fun S9 v10 hv10 => ?_)
          refine so_go C0 2 (pc' := 82) (lv' := [(0, .ref (G 4)), (1, .int a1), (2, .int a2), (3, .int v2), (4, .int v3)]) (st' := [.int 1]) rfl ?_
          exact so_retz C0 rfl rfl rfl
        · refine so_go C0 2 (pc' := 53) (lv' := [(0, .ref (G 4)), (1, .int a1), (2, .int a2), (3, .int v2), (4, .int v3)]) (st' := [.int v3, .int v2]) rfl ?_
          refine so_icmp_ne C0 rfl (fun h11 => ?_) (fun h11 => ?_)
          · refine so_go C0 1 (pc' := 61) (lv' := [(0, .ref (G 4)), (1, .int a1), (2, .int a2), (3, .int v2), (4, .int v3)]) (st' := [.int 0]) rfl ?_
            exact so_retz C0 rfl rfl rfl
          · refine so_go C0 2 (pc' := 61) (lv' := [(0, .ref (G 4)), (1, .int a1), (2, .int a2), (3, .int v2), (4, .int v3)]) (st' := [.int 1]) rfl ?_
            exact so_retz C0 rfl rfl rfl
    · refine so_go C0 3 (pc' := 15) (lv' := [(0, .ref (G 4)), (1, .int a1), (2, .int a2)]) (st' := [.int a2, .int a1, .ref (G 4)]) rfl ?_
      refine so_oV (As := [.int a1, .int a2]) (rest := []) C0 hK hA yk_Pai_putFields (c_Pai_putFields S a1 a2) wd_3_34 rfl rfl ⟨by rw [hf]; decide, by rw [hlo]; decide⟩ (Nat.le_of_ble_eq_true rfl) (zrc_obj (o := 4) hK (by decide) rfl) (fun S12 hS12 => ?_)
      refine so_go C0 1 (pc' := 19) (lv' := [(0, .ref (G 4)), (1, .int a1), (2, .int a2)]) (st' := [.int 1]) rfl ?_
      exact so_retz C0 rfl rfl rfl
  exact K r hr
def f_Pai_sameSort (S : zS) (a1 : Int32) (a2 : Int32) : Int32 :=
  if ¬ (f_Pat_shape S a1) = (f_Pat_shape S a2) then
    0
  else
    if ¬ (f_Pat_sort S a1) = (f_Pat_sort S a2) then
      0
    else
      1
set_option maxHeartbeats 1000000 in
set_option maxRecDepth 20000 in
theorem c_Pai_sameSort (S : zS) (a1 : Int32) (a2 : Int32) : zMet l y_Pai_sameSort (zw y_Pai_sameSort prog_6_method_5_code 3 (some Jvm.ClassFile.FieldType.boolean)) 2 42 [.ref (G 4), .int a1, .int a2] D zcl (ztys cA) A (zRep D cA G A) zfc zfs S ((zFp S) (f_Pai_sameSort S a1 a2)) := by
  refine zMet_of ⟨Nat.le_refl _, Nat.le_refl _⟩ (by decide) tk_Pai_sameSort (Nat.le_of_ble_eq_true rfl) ?_
  intro p e R s m args below meth c hf hlo C0 hK hA
  unfold f_Pai_sameSort
  refine sw_go C0 1 (pc' := 1) (lv' := [(0, .ref (G 4)), (1, .int a1), (2, .int a2)]) (st' := [.ref (G 4)]) rfl ?_
  refine sw_getf C0 hK (o := 4) (j := 0) (v := .ref (G 2)) (by decide) rfl i_Pai (by decide) wd_1_136 rfl rfl ?_
  refine sw_go C0 1 (pc' := 5) (lv' := [(0, .ref (G 4)), (1, .int a1), (2, .int a2)]) (st' := [.int a1, .ref (G 2)]) rfl ?_
  refine sw_cp (As := [.int a1]) (rest := []) C0 hK hA yk_Pat_shape (c_Pat_shape S a1) wd_3_14 rfl rfl ⟨by rw [hf]; decide, by rw [hlo]; decide⟩ (Nat.le_of_ble_eq_true rfl) (zrc_obj (o := 2) hK (by decide) rfl) ?_
  refine sw_go C0 1 (pc' := 9) (lv' := [(0, .ref (G 4)), (1, .int a1), (2, .int a2)]) (st' := [.ref (G 4), .int (f_Pat_shape S a1)]) rfl ?_
  refine sw_getf C0 hK (o := 4) (j := 0) (v := .ref (G 2)) (by decide) rfl i_Pai (by decide) wd_1_136 rfl rfl ?_
  refine sw_go C0 1 (pc' := 13) (lv' := [(0, .ref (G 4)), (1, .int a1), (2, .int a2)]) (st' := [.int a2, .ref (G 2), .int (f_Pat_shape S a1)]) rfl ?_
  refine sw_cp (As := [.int a2]) (rest := [.int (f_Pat_shape S a1)]) C0 hK hA yk_Pat_shape (c_Pat_shape S a2) wd_3_14 rfl rfl ⟨by rw [hf]; decide, by rw [hlo]; decide⟩ (Nat.le_of_ble_eq_true rfl) (zrc_obj (o := 2) hK (by decide) rfl) ?_
  refine sw_icmp_ne (zFp S) C0 rfl (fun h1 => ?_) (fun h1 => ?_)
  · refine sw_go C0 1 (pc' := 43) (lv' := [(0, .ref (G 4)), (1, .int a1), (2, .int a2)]) (st' := [.int 0]) rfl ?_
    exact sw_retz C0 rfl rfl rfl
  · refine sw_go C0 1 (pc' := 20) (lv' := [(0, .ref (G 4)), (1, .int a1), (2, .int a2)]) (st' := [.ref (G 4)]) rfl ?_
    refine sw_getf C0 hK (o := 4) (j := 0) (v := .ref (G 2)) (by decide) rfl i_Pai (by decide) wd_1_136 rfl rfl ?_
    refine sw_go C0 1 (pc' := 24) (lv' := [(0, .ref (G 4)), (1, .int a1), (2, .int a2)]) (st' := [.int a1, .ref (G 2)]) rfl ?_
    refine sw_cp (As := [.int a1]) (rest := []) C0 hK hA yk_Pat_sort (c_Pat_sort S a1) wd_3_26 rfl rfl ⟨by rw [hf]; decide, by rw [hlo]; decide⟩ (Nat.le_of_ble_eq_true rfl) (zrc_obj (o := 2) hK (by decide) rfl) ?_
    refine sw_go C0 1 (pc' := 28) (lv' := [(0, .ref (G 4)), (1, .int a1), (2, .int a2)]) (st' := [.ref (G 4), .int (f_Pat_sort S a1)]) rfl ?_
    refine sw_getf C0 hK (o := 4) (j := 0) (v := .ref (G 2)) (by decide) rfl i_Pai (by decide) wd_1_136 rfl rfl ?_
    refine sw_go C0 1 (pc' := 32) (lv' := [(0, .ref (G 4)), (1, .int a1), (2, .int a2)]) (st' := [.int a2, .ref (G 2), .int (f_Pat_sort S a1)]) rfl ?_
    refine sw_cp (As := [.int a2]) (rest := [.int (f_Pat_sort S a1)]) C0 hK hA yk_Pat_sort (c_Pat_sort S a2) wd_3_26 rfl rfl ⟨by rw [hf]; decide, by rw [hlo]; decide⟩ (Nat.le_of_ble_eq_true rfl) (zrc_obj (o := 2) hK (by decide) rfl) ?_
    refine sw_icmp_ne (zFp S) C0 rfl (fun h2 => ?_) (fun h2 => ?_)
    · refine sw_go C0 1 (pc' := 43) (lv' := [(0, .ref (G 4)), (1, .int a1), (2, .int a2)]) (st' := [.int 0]) rfl ?_
      exact sw_retz C0 rfl rfl rfl
    · refine sw_go C0 2 (pc' := 43) (lv' := [(0, .ref (G 4)), (1, .int a1), (2, .int a2)]) (st' := [.int 1]) rfl ?_
      exact sw_retz C0 rfl rfl rfl
def f_Pai_hold_L31 : Nat → zS → Int32 → Int32 → Int32 → Option (zS × Int32)
  | 0, _, _, _, _ => none
  | n + 1, S, x3, x4, x5 =>
    if x4 = 0 then
      some (S, (z_b x4))
    else
      if (r_size S 11) ≤ 0 then
        some (S, (z_b x4))
      else
        if 1000000 ≤ x5 then
          some (S, (z_b x4))
        else
          zbind2 (r_take S 11) fun S9 v10 =>
          zbind2 (r_take S9 11) fun S11 v12 =>
          if (f_Pat_shape S11 v12) = 0 then
            f_Pai_hold_L31 n S11 x3 x4 (x5 + 1)
          else
            if ¬ (f_Pat_shape S11 v10) = 0 then
              if ¬ (f_Pat_mark S11 v12) = (f_Pat_mark S11 v10) then
                if (f_Pai_sameSort S11 v12 v10) = 0 then
                  f_Pai_hold_L31 n S11 x3 0 (x5 + 1)
                else
                  if ¬ x3 = 0 then
                    f_Pai_hold_L31 n S11 x3 0 (x5 + 1)
                  else
                    f_Pai_hold_L31 n S11 x3 1 (x5 + 1)
              else
                if (f_Pai_sameSort S11 v12 v10) = 0 then
                  f_Pai_hold_L31 n S11 x3 0 (x5 + 1)
                else
                  zob2 (f_Pai_putInner S11 v12 v10) fun S19 v20 =>
                  if v20 = 0 then
                    f_Pai_hold_L31 n S19 x3 0 (x5 + 1)
                  else
                    f_Pai_hold_L31 n S19 x3 1 (x5 + 1)
            else
              f_Pai_hold_L31 n S11 x3 x4 (x5 + 1)
def f_Pai_hold (S : zS) (a1 : Int32) (a2 : Int32) (a3 : Int32) : Option (zS × Int32) :=
  zbind (r_emp S 11) fun S1 =>
  zbind2 (r_add S1 11 a1) fun S2 v3 =>
  zbind2 (r_add S2 11 a2) fun S4 v5 =>
  f_Pai_hold_L31 zbig S4 a3 1 0
theorem mo_Pai_hold (S : zS) (a1 : Int32) (a2 : Int32) (a3 : Int32) : zmO Prod.fst S (f_Pai_hold S a1 a2 a3) := by
  have lp31 : ∀ (n : Nat) (S : zS) (x3 : Int32) (x4 : Int32) (x5 : Int32), zmO Prod.fst S (f_Pai_hold_L31 n S x3 x4 x5) := by
    intro n
    induction n with
    | zero =>
      intro S x3 x4 x5
      rw [f_Pai_hold_L31]
      exact mO_0
    | succ n ih31 =>
      intro S x3 x4 x5
      rw [f_Pai_hold_L31]
      exact (mO_if (g := Prod.fst) (mO_s zmo_rf) (mO_if (g := Prod.fst) (mO_s zmo_rf) (mO_if (g := Prod.fst) (mO_s zmo_rf) (mO_b2 (g := Prod.fst) mo_r_take fun S9 v10 => (mO_b2 (g := Prod.fst) mo_r_take fun S11 v12 => (mO_if (g := Prod.fst) (ih31 S11 x3 x4 (x5 + 1)) (mO_if (g := Prod.fst) (mO_if (g := Prod.fst) (mO_if (g := Prod.fst) (ih31 S11 x3 0 (x5 + 1)) (mO_if (g := Prod.fst) (ih31 S11 x3 0 (x5 + 1)) (ih31 S11 x3 1 (x5 + 1)))) (mO_if (g := Prod.fst) (ih31 S11 x3 0 (x5 + 1)) (mO_ob2 (g := Prod.fst) (mo_Pai_putInner S11 v12 v10) fun S19 v20 => (mO_if (g := Prod.fst) (ih31 S19 x3 0 (x5 + 1)) (ih31 S19 x3 1 (x5 + 1)))))) (ih31 S11 x3 x4 (x5 + 1)))))))))
  unfold f_Pai_hold
  exact (mO_b (g := Prod.fst) mo_r_emp fun S1 => (mO_b2 (g := Prod.fst) (r_add_mono (by decide) a1) fun S2 v3 => (mO_b2 (g := Prod.fst) (r_add_mono (by decide) a2) fun S4 v5 => (lp31 zbig S4 a3 1 0))))
set_option maxHeartbeats 1000000 in
set_option maxRecDepth 20000 in
theorem c_Pai_hold (S : zS) (a1 : Int32) (a2 : Int32) (a3 : Int32) : ∀ r, f_Pai_hold S a1 a2 a3 = some r → zMet l y_Pai_hold (zw y_Pai_hold prog_6_method_4_code 9 (some Jvm.ClassFile.FieldType.boolean)) 5 132 [.ref (G 4), .int a1, .int a2, .int a3] D zcl (ztys cA) A (zRep D cA G A) zfc zfs S (zFi r) := by
  intro r hr
  refine zMet_of (mo_Fi (mo_Pai_hold S a1 a2 a3 r hr)) (by decide) tk_Pai_hold (Nat.le_of_ble_eq_true rfl) ?_
  intro p e R s m args below meth c hf hlo C0 hK hA
  have lp31 : ∀ (n : Nat) (S : zS) (x3 : Int32) (x4 : Int32) (x5 : Int32), zSO p l e R s m args below meth c 9 A D cA G S 31 [(0, .ref (G 4)), (3, .int x3), (4, .int x4), (5, .int x5)] [] zFi (f_Pai_hold_L31 n S x3 x4 x5) := by
    intro n
    induction n with
    | zero =>
      intro S x3 x4 x5
      rw [f_Pai_hold_L31]
      exact so_none
    | succ n ih31 =>
      intro S x3 x4 x5
      rw [f_Pai_hold_L31]
      refine so_go C0 1 (pc' := 33) (lv' := [(0, .ref (G 4)), (3, .int x3), (4, .int x4), (5, .int x5)]) (st' := [.int x4]) rfl ?_
      refine so_if_eq C0 rfl (fun h6 => ?_) (fun h6 => ?_)
      · refine so_go C0 1 (pc' := 175) (lv' := [(0, .ref (G 4)), (3, .int x3), (4, .int x4), (5, .int x5)]) (st' := [.int x4]) rfl ?_
        exact so_retb C0 rfl rfl
      · refine so_go C0 1 (pc' := 37) (lv' := [(0, .ref (G 4)), (3, .int x3), (4, .int x4), (5, .int x5)]) (st' := [.ref (G 4)]) rfl ?_
        refine so_getf C0 hK (o := 4) (j := 1) (v := .ref (G 22)) (by decide) rfl i_Pai (by decide) wd_1_137 rfl rfl ?_
        refine so_cp (As := []) (rest := []) C0 hK hA yk_Row_size (c_Row_size 11 (by decide)) wd_2_238 rfl rfl ⟨by rw [hf]; decide, by rw [hlo]; decide⟩ (Nat.le_of_ble_eq_true rfl) (zrc_row (k := 11) hK (by decide)) ?_
        refine so_if_le C0 rfl (fun h7 => ?_) (fun h7 => ?_)
        · refine so_go C0 1 (pc' := 175) (lv' := [(0, .ref (G 4)), (3, .int x3), (4, .int x4), (5, .int x5)]) (st' := [.int x4]) rfl ?_
          exact so_retb C0 rfl rfl
        · refine so_go C0 1 (pc' := 48) (lv' := [(0, .ref (G 4)), (3, .int x3), (4, .int x4), (5, .int x5)]) (st' := [.int x5]) rfl ?_
          refine so_ldc C0 wd_3_9 rfl ?_
          refine so_icmp_ge C0 rfl (fun h8 => ?_) (fun h8 => ?_)
          · refine so_go C0 1 (pc' := 175) (lv' := [(0, .ref (G 4)), (3, .int x3), (4, .int x4), (5, .int x5)]) (st' := [.int x4]) rfl ?_
            exact so_retb C0 rfl rfl
          · refine so_go C0 1 (pc' := 54) (lv' := [(0, .ref (G 4)), (3, .int x3), (4, .int x4), (5, .int x5)]) (st' := [.ref (G 4)]) rfl ?_
            refine so_getf C0 hK (o := 4) (j := 1) (v := .ref (G 22)) (by decide) rfl i_Pai (by decide) wd_1_137 rfl rfl ?_
            refine so_ci (As := []) (rest := []) C0 hK hA yk_Row_take (c_Row_take 11 (by decide)) wd_3_10 rfl rfl ⟨by rw [hf]; decide, by rw [hlo]; decide⟩ (Nat.le_of_ble_eq_true rfl) (zrc_row (k := 11) hK (by decide)) (fun S9 v10 hv10 => ?_)
            refine so_go C0 2 (pc' := 63) (lv' := [(0, .ref (G 4)), (3, .int x3), (4, .int x4), (5, .int x5), (6, .int v10)]) (st' := [.ref (G 4)]) rfl ?_
            refine so_getf C0 hK (o := 4) (j := 1) (v := .ref (G 22)) (by decide) rfl i_Pai (by decide) wd_1_137 rfl rfl ?_
            refine so_ci (As := []) (rest := []) C0 hK hA yk_Row_take (c_Row_take 11 (by decide)) wd_3_10 rfl rfl ⟨by rw [hf]; decide, by rw [hlo]; decide⟩ (Nat.le_of_ble_eq_true rfl) (zrc_row (k := 11) hK (by decide)) (fun S11 v12 hv12 => ?_)
            refine so_go C0 2 (pc' := 72) (lv' := [(0, .ref (G 4)), (3, .int x3), (4, .int x4), (5, .int x5), (6, .int v10), (7, .int v12)]) (st' := [.ref (G 4)]) rfl ?_
            refine so_getf C0 hK (o := 4) (j := 0) (v := .ref (G 2)) (by decide) rfl i_Pai (by decide) wd_1_136 rfl rfl ?_
            refine so_go C0 1 (pc' := 77) (lv' := [(0, .ref (G 4)), (3, .int x3), (4, .int x4), (5, .int x5), (6, .int v10), (7, .int v12)]) (st' := [.int v12, .ref (G 2)]) rfl ?_
            refine so_cp (As := [.int v12]) (rest := []) C0 hK hA yk_Pat_shape (c_Pat_shape S11 v12) wd_3_14 rfl rfl ⟨by rw [hf]; decide, by rw [hlo]; decide⟩ (Nat.le_of_ble_eq_true rfl) (zrc_obj (o := 2) hK (by decide) rfl) ?_
            refine so_if_eq C0 rfl (fun h13 => ?_) (fun h13 => ?_)
            · refine so_go C0 2 (pc' := 31) (lv' := [(0, .ref (G 4)), (3, .int x3), (4, .int x4), (5, .int (x5 + 1)), (6, .int v10), (7, .int v12)]) (st' := []) rfl ?_
              exact so_sub (lv' := [(0, .ref (G 4)), (3, .int x3), (4, .int x4), (5, .int (x5 + 1))]) (zpk [0, 1, 2, 3] rfl) (ih31 S11 x3 x4 (x5 + 1))
            · refine so_go C0 1 (pc' := 84) (lv' := [(0, .ref (G 4)), (3, .int x3), (4, .int x4), (5, .int x5), (6, .int v10), (7, .int v12)]) (st' := [.ref (G 4)]) rfl ?_
              refine so_getf C0 hK (o := 4) (j := 0) (v := .ref (G 2)) (by decide) rfl i_Pai (by decide) wd_1_136 rfl rfl ?_
              refine so_go C0 1 (pc' := 89) (lv' := [(0, .ref (G 4)), (3, .int x3), (4, .int x4), (5, .int x5), (6, .int v10), (7, .int v12)]) (st' := [.int v10, .ref (G 2)]) rfl ?_
              refine so_cp (As := [.int v10]) (rest := []) C0 hK hA yk_Pat_shape (c_Pat_shape S11 v10) wd_3_14 rfl rfl ⟨by rw [hf]; decide, by rw [hlo]; decide⟩ (Nat.le_of_ble_eq_true rfl) (zrc_obj (o := 2) hK (by decide) rfl) ?_
              refine so_if_ne C0 rfl (fun h14 => ?_) (fun h14 => ?_)
              · refine so_go C0 1 (pc' := 99) (lv' := [(0, .ref (G 4)), (3, .int x3), (4, .int x4), (5, .int x5), (6, .int v10), (7, .int v12)]) (st' := [.ref (G 4)]) rfl ?_
                refine so_getf C0 hK (o := 4) (j := 0) (v := .ref (G 2)) (by decide) rfl i_Pai (by decide) wd_1_136 rfl rfl ?_
                refine so_go C0 1 (pc' := 104) (lv' := [(0, .ref (G 4)), (3, .int x3), (4, .int x4), (5, .int x5), (6, .int v10), (7, .int v12)]) (st' := [.int v12, .ref (G 2)]) rfl ?_
                refine so_cp (As := [.int v12]) (rest := []) C0 hK hA yk_Pat_mark (c_Pat_mark S11 v12) wd_3_18 rfl rfl ⟨by rw [hf]; decide, by rw [hlo]; decide⟩ (Nat.le_of_ble_eq_true rfl) (zrc_obj (o := 2) hK (by decide) rfl) ?_
                refine so_go C0 1 (pc' := 108) (lv' := [(0, .ref (G 4)), (3, .int x3), (4, .int x4), (5, .int x5), (6, .int v10), (7, .int v12)]) (st' := [.ref (G 4), .int (f_Pat_mark S11 v12)]) rfl ?_
                refine so_getf C0 hK (o := 4) (j := 0) (v := .ref (G 2)) (by decide) rfl i_Pai (by decide) wd_1_136 rfl rfl ?_
                refine so_go C0 1 (pc' := 113) (lv' := [(0, .ref (G 4)), (3, .int x3), (4, .int x4), (5, .int x5), (6, .int v10), (7, .int v12)]) (st' := [.int v10, .ref (G 2), .int (f_Pat_mark S11 v12)]) rfl ?_
                refine so_cp (As := [.int v10]) (rest := [.int (f_Pat_mark S11 v12)]) C0 hK hA yk_Pat_mark (c_Pat_mark S11 v10) wd_3_18 rfl rfl ⟨by rw [hf]; decide, by rw [hlo]; decide⟩ (Nat.le_of_ble_eq_true rfl) (zrc_obj (o := 2) hK (by decide) rfl) ?_
                refine so_icmp_ne C0 rfl (fun h15 => ?_) (fun h15 => ?_)
                · refine so_go C0 5 (pc' := 131) (lv' := [(0, .ref (G 4)), (3, .int x3), (4, .int x4), (5, .int x5), (6, .int v10), (7, .int v12), (8, .int 0)]) (st' := [.int v10, .int v12, .ref (G 4)]) rfl ?_
                  refine so_cp (As := [.int v12, .int v10]) (rest := []) C0 hK hA yk_Pai_sameSort (c_Pai_sameSort S11 v12 v10) wd_3_22 rfl rfl ⟨by rw [hf]; decide, by rw [hlo]; decide⟩ (Nat.le_of_ble_eq_true rfl) (zrc_obj (o := 4) hK (by decide) rfl) ?_
                  refine so_if_eq C0 rfl (fun h16 => ?_) (fun h16 => ?_)
                  · refine so_go C0 4 (pc' := 31) (lv' := [(0, .ref (G 4)), (3, .int x3), (4, .int 0), (5, .int (x5 + 1)), (6, .int v10), (7, .int v12), (8, .int 0)]) (st' := []) rfl ?_
                    exact so_sub (lv' := [(0, .ref (G 4)), (3, .int x3), (4, .int 0), (5, .int (x5 + 1))]) (zpk [0, 1, 2, 3] rfl) (ih31 S11 x3 0 (x5 + 1))
                  · refine so_go C0 1 (pc' := 139) (lv' := [(0, .ref (G 4)), (3, .int x3), (4, .int x4), (5, .int x5), (6, .int v10), (7, .int v12), (8, .int 0)]) (st' := [.int 0]) rfl ?_
                    refine so_if_eqT C0 rfl (by decide) ?_
                    refine so_go C0 1 (pc' := 157) (lv' := [(0, .ref (G 4)), (3, .int x3), (4, .int x4), (5, .int x5), (6, .int v10), (7, .int v12), (8, .int 0)]) (st' := [.int x3]) rfl ?_
                    refine so_if_ne C0 rfl (fun h17 => ?_) (fun h17 => ?_)
                    · refine so_go C0 4 (pc' := 31) (lv' := [(0, .ref (G 4)), (3, .int x3), (4, .int 0), (5, .int (x5 + 1)), (6, .int v10), (7, .int v12), (8, .int 0)]) (st' := []) rfl ?_
                      exact so_sub (lv' := [(0, .ref (G 4)), (3, .int x3), (4, .int 0), (5, .int (x5 + 1))]) (zpk [0, 1, 2, 3] rfl) (ih31 S11 x3 0 (x5 + 1))
                    · refine so_go C0 5 (pc' := 31) (lv' := [(0, .ref (G 4)), (3, .int x3), (4, .int 1), (5, .int (x5 + 1)), (6, .int v10), (7, .int v12), (8, .int 0)]) (st' := []) rfl ?_
                      exact so_sub (lv' := [(0, .ref (G 4)), (3, .int x3), (4, .int 1), (5, .int (x5 + 1))]) (zpk [0, 1, 2, 3] rfl) (ih31 S11 x3 1 (x5 + 1))
                · refine so_go C0 6 (pc' := 131) (lv' := [(0, .ref (G 4)), (3, .int x3), (4, .int x4), (5, .int x5), (6, .int v10), (7, .int v12), (8, .int 1)]) (st' := [.int v10, .int v12, .ref (G 4)]) rfl ?_
                  refine so_cp (As := [.int v12, .int v10]) (rest := []) C0 hK hA yk_Pai_sameSort (c_Pai_sameSort S11 v12 v10) wd_3_22 rfl rfl ⟨by rw [hf]; decide, by rw [hlo]; decide⟩ (Nat.le_of_ble_eq_true rfl) (zrc_obj (o := 4) hK (by decide) rfl) ?_
                  refine so_if_eq C0 rfl (fun h18 => ?_) (fun h18 => ?_)
                  · refine so_go C0 4 (pc' := 31) (lv' := [(0, .ref (G 4)), (3, .int x3), (4, .int 0), (5, .int (x5 + 1)), (6, .int v10), (7, .int v12), (8, .int 1)]) (st' := []) rfl ?_
                    exact so_sub (lv' := [(0, .ref (G 4)), (3, .int x3), (4, .int 0), (5, .int (x5 + 1))]) (zpk [0, 1, 2, 3] rfl) (ih31 S11 x3 0 (x5 + 1))
                  · refine so_go C0 1 (pc' := 139) (lv' := [(0, .ref (G 4)), (3, .int x3), (4, .int x4), (5, .int x5), (6, .int v10), (7, .int v12), (8, .int 1)]) (st' := [.int 1]) rfl ?_
                    refine so_if_eqF C0 rfl (by decide) ?_
                    refine so_go C0 3 (pc' := 147) (lv' := [(0, .ref (G 4)), (3, .int x3), (4, .int x4), (5, .int x5), (6, .int v10), (7, .int v12), (8, .int 1)]) (st' := [.int v10, .int v12, .ref (G 4)]) rfl ?_
                    refine so_oi (As := [.int v12, .int v10]) (rest := []) C0 hK hA yk_Pai_putInner (c_Pai_putInner S11 v12 v10) wd_3_30 rfl rfl ⟨by rw [hf]; decide, by rw [hlo]; decide⟩ (Nat.le_of_ble_eq_true rfl) (zrc_obj (o := 4) hK (by decide) rfl) (fun S19 v20 hv20 => ?_)
                    refine so_if_eq C0 rfl (fun h21 => ?_) (fun h21 => ?_)
                    · refine so_go C0 4 (pc' := 31) (lv' := [(0, .ref (G 4)), (3, .int x3), (4, .int 0), (5, .int (x5 + 1)), (6, .int v10), (7, .int v12), (8, .int 1)]) (st' := []) rfl ?_
                      exact so_sub (lv' := [(0, .ref (G 4)), (3, .int x3), (4, .int 0), (5, .int (x5 + 1))]) (zpk [0, 1, 2, 3] rfl) (ih31 S19 x3 0 (x5 + 1))
                    · refine so_go C0 6 (pc' := 31) (lv' := [(0, .ref (G 4)), (3, .int x3), (4, .int 1), (5, .int (x5 + 1)), (6, .int v10), (7, .int v12), (8, .int 1)]) (st' := []) rfl ?_
                      exact so_sub (lv' := [(0, .ref (G 4)), (3, .int x3), (4, .int 1), (5, .int (x5 + 1))]) (zpk [0, 1, 2, 3] rfl) (ih31 S19 x3 1 (x5 + 1))
              · refine so_go C0 3 (pc' := 31) (lv' := [(0, .ref (G 4)), (3, .int x3), (4, .int x4), (5, .int (x5 + 1)), (6, .int v10), (7, .int v12)]) (st' := []) rfl ?_
                exact so_sub (lv' := [(0, .ref (G 4)), (3, .int x3), (4, .int x4), (5, .int (x5 + 1))]) (zpk [0, 1, 2, 3] rfl) (ih31 S11 x3 x4 (x5 + 1))
  have K : zSO p l e R s m args below meth c 9 A D cA G S 0 (lv_args 0 [.ref (G 4), .int a1, .int a2, .int a3]) [] zFi (f_Pai_hold S a1 a2 a3) := by
    unfold f_Pai_hold
    refine so_go C0 1 (pc' := 1) (lv' := [(0, .ref (G 4)), (1, .int a1), (2, .int a2), (3, .int a3)]) (st' := [.ref (G 4)]) rfl ?_
    refine so_getf C0 hK (o := 4) (j := 1) (v := .ref (G 22)) (by decide) rfl i_Pai (by decide) wd_1_137 rfl rfl ?_
    refine so_cV (As := []) (rest := []) C0 hK hA yk_Row_empty (c_Row_empty 11 (by decide)) wd_3_4 rfl rfl ⟨by rw [hf]; decide, by rw [hlo]; decide⟩ (Nat.le_of_ble_eq_true rfl) (zrc_row (k := 11) hK (by decide)) (fun S1 hS1 => ?_)
    refine so_go C0 1 (pc' := 8) (lv' := [(0, .ref (G 4)), (1, .int a1), (2, .int a2), (3, .int a3)]) (st' := [.ref (G 4)]) rfl ?_
    refine so_getf C0 hK (o := 4) (j := 1) (v := .ref (G 22)) (by decide) rfl i_Pai (by decide) wd_1_137 rfl rfl ?_
    refine so_go C0 1 (pc' := 12) (lv' := [(0, .ref (G 4)), (1, .int a1), (2, .int a2), (3, .int a3)]) (st' := [.int a1, .ref (G 22)]) rfl ?_
    refine so_ci (As := [.int a1]) (rest := []) C0 hK hA yk_Row_add (c_Row_add 11 (by decide) a1) wd_3_8 rfl rfl ⟨by rw [hf]; decide, by rw [hlo]; decide⟩ (Nat.le_of_ble_eq_true rfl) (zrc_row (k := 11) hK (by decide)) (fun S2 v3 hv3 => ?_)
    refine so_go C0 2 (pc' := 17) (lv' := [(0, .ref (G 4)), (1, .int a1), (2, .int a2), (3, .int a3)]) (st' := [.ref (G 4)]) rfl ?_
    refine so_getf C0 hK (o := 4) (j := 1) (v := .ref (G 22)) (by decide) rfl i_Pai (by decide) wd_1_137 rfl rfl ?_
    refine so_go C0 1 (pc' := 21) (lv' := [(0, .ref (G 4)), (1, .int a1), (2, .int a2), (3, .int a3)]) (st' := [.int a2, .ref (G 22)]) rfl ?_
    refine so_ci (As := [.int a2]) (rest := []) C0 hK hA yk_Row_add (c_Row_add 11 (by decide) a2) wd_3_8 rfl rfl ⟨by rw [hf]; decide, by rw [hlo]; decide⟩ (Nat.le_of_ble_eq_true rfl) (zrc_row (k := 11) hK (by decide)) (fun S4 v5 hv5 => ?_)
    refine so_go C0 5 (pc' := 31) (lv' := [(0, .ref (G 4)), (1, .int a1), (2, .int a2), (3, .int a3), (4, .int 1), (5, .int 0)]) (st' := []) rfl ?_
    exact so_sub (lv' := [(0, .ref (G 4)), (3, .int a3), (4, .int 1), (5, .int 0)]) (zpk [0, 3, 4, 5] rfl) (lp31 zbig S4 a3 1 0)
  exact K r hr
def f_Pai_goWith_L5 : Nat → zS → Int32 → Int32 → Int32 → Option (zS × Int32)
  | 0, _, _, _, _ => none
  | n + 1, S, x2, x3, x4 =>
    if x3 = 0 then
      some (S, (z_b x3))
    else
      if (r_size S 12) ≤ x4 then
        some (S, (z_b x3))
      else
        zob2 (f_Pai_hold S (r_at S 12 x4) x2 0) fun S3 v4 =>
        f_Pai_goWith_L5 n S3 x2 v4 (x4 + 1)
def f_Pai_goWith (S : zS) (a2 : Int32) : Option (zS × Int32) :=
  f_Pai_goWith_L5 zbig S a2 1 0
theorem mo_Pai_goWith (S : zS) (a2 : Int32) : zmO Prod.fst S (f_Pai_goWith S a2) := by
  have lp5 : ∀ (n : Nat) (S : zS) (x2 : Int32) (x3 : Int32) (x4 : Int32), zmO Prod.fst S (f_Pai_goWith_L5 n S x2 x3 x4) := by
    intro n
    induction n with
    | zero =>
      intro S x2 x3 x4
      rw [f_Pai_goWith_L5]
      exact mO_0
    | succ n ih5 =>
      intro S x2 x3 x4
      rw [f_Pai_goWith_L5]
      exact (mO_if (g := Prod.fst) (mO_s zmo_rf) (mO_if (g := Prod.fst) (mO_s zmo_rf) (mO_ob2 (g := Prod.fst) (mo_Pai_hold S (r_at S 12 x4) x2 0) fun S3 v4 => (ih5 S3 x2 v4 (x4 + 1)))))
  unfold f_Pai_goWith
  exact (lp5 zbig S a2 1 0)
set_option maxHeartbeats 1000000 in
set_option maxRecDepth 20000 in
theorem c_Pai_goWith (S : zS) (a2 : Int32) : ∀ r, f_Pai_goWith S a2 = some r → zMet l y_Pai_goWith (zw y_Pai_goWith prog_6_method_3_code 5 (some Jvm.ClassFile.FieldType.boolean)) 6 160 [.ref (G 4), .ref (G 23), .int a2] D zcl (ztys cA) A (zRep D cA G A) zfc zfs S (zFi r) := by
  intro r hr
  refine zMet_of (mo_Fi (mo_Pai_goWith S a2 r hr)) (by decide) tk_Pai_goWith (Nat.le_of_ble_eq_true rfl) ?_
  intro p e R s m args below meth c hf hlo C0 hK hA
  have lp5 : ∀ (n : Nat) (S : zS) (x2 : Int32) (x3 : Int32) (x4 : Int32), zSO p l e R s m args below meth c 5 A D cA G S 5 [(0, .ref (G 4)), (1, .ref (G 23)), (2, .int x2), (3, .int x3), (4, .int x4)] [] zFi (f_Pai_goWith_L5 n S x2 x3 x4) := by
    intro n
    induction n with
    | zero =>
      intro S x2 x3 x4
      rw [f_Pai_goWith_L5]
      exact so_none
    | succ n ih5 =>
      intro S x2 x3 x4
      rw [f_Pai_goWith_L5]
      refine so_go C0 1 (pc' := 6) (lv' := [(0, .ref (G 4)), (1, .ref (G 23)), (2, .int x2), (3, .int x3), (4, .int x4)]) (st' := [.int x3]) rfl ?_
      refine so_if_eq C0 rfl (fun h1 => ?_) (fun h1 => ?_)
      · refine so_go C0 1 (pc' := 38) (lv' := [(0, .ref (G 4)), (1, .ref (G 23)), (2, .int x2), (3, .int x3), (4, .int x4)]) (st' := [.int x3]) rfl ?_
        exact so_retb C0 rfl rfl
      · refine so_go C0 2 (pc' := 12) (lv' := [(0, .ref (G 4)), (1, .ref (G 23)), (2, .int x2), (3, .int x3), (4, .int x4)]) (st' := [.ref (G 23), .int x4]) rfl ?_
        refine so_cp (As := []) (rest := [.int x4]) C0 hK hA yk_Row_size (c_Row_size 12 (by decide)) wd_2_238 rfl rfl ⟨by rw [hf]; decide, by rw [hlo]; decide⟩ (Nat.le_of_ble_eq_true rfl) (zrc_row (k := 12) hK (by decide)) ?_
        refine so_icmp_ge C0 rfl (fun h2 => ?_) (fun h2 => ?_)
        · refine so_go C0 1 (pc' := 38) (lv' := [(0, .ref (G 4)), (1, .ref (G 23)), (2, .int x2), (3, .int x3), (4, .int x4)]) (st' := [.int x3]) rfl ?_
          exact so_retb C0 rfl rfl
        · refine so_go C0 3 (pc' := 22) (lv' := [(0, .ref (G 4)), (1, .ref (G 23)), (2, .int x2), (3, .int x3), (4, .int x4)]) (st' := [.int x4, .ref (G 23), .ref (G 4)]) rfl ?_
          refine so_cp (As := [.int x4]) (rest := [.ref (G 4)]) C0 hK hA yk_Row_at (c_Row_at 12 (by decide) x4) wd_2_239 rfl rfl ⟨by rw [hf]; decide, by rw [hlo]; decide⟩ (Nat.le_of_ble_eq_true rfl) (zrc_row (k := 12) hK (by decide)) ?_
          refine so_go C0 2 (pc' := 27) (lv' := [(0, .ref (G 4)), (1, .ref (G 23)), (2, .int x2), (3, .int x3), (4, .int x4)]) (st' := [.int 0, .int x2, .int (r_at S 12 x4), .ref (G 4)]) rfl ?_
          refine so_oi (As := [.int (r_at S 12 x4), .int x2, .int 0]) (rest := []) C0 hK hA yk_Pai_hold (c_Pai_hold S (r_at S 12 x4) x2 0) wd_3_0 rfl rfl ⟨by rw [hf]; decide, by rw [hlo]; decide⟩ (Nat.le_of_ble_eq_true rfl) (zrc_obj (o := 4) hK (by decide) rfl) (fun S3 v4 hv4 => ?_)
          refine so_go C0 3 (pc' := 5) (lv' := [(0, .ref (G 4)), (1, .ref (G 23)), (2, .int x2), (3, .int v4), (4, .int (x4 + 1))]) (st' := []) rfl ?_
          exact so_sub (lv' := [(0, .ref (G 4)), (1, .ref (G 23)), (2, .int x2), (3, .int v4), (4, .int (x4 + 1))]) (zpk [0, 1, 2, 3, 4] rfl) (ih5 S3 x2 v4 (x4 + 1))
  have K : zSO p l e R s m args below meth c 5 A D cA G S 0 (lv_args 0 [.ref (G 4), .ref (G 23), .int a2]) [] zFi (f_Pai_goWith S a2) := by
    unfold f_Pai_goWith
    refine so_go C0 4 (pc' := 5) (lv' := [(0, .ref (G 4)), (1, .ref (G 23)), (2, .int a2), (3, .int 1), (4, .int 0)]) (st' := []) rfl ?_
    exact so_sub (lv' := [(0, .ref (G 4)), (1, .ref (G 23)), (2, .int a2), (3, .int 1), (4, .int 0)]) (zpk [0, 1, 2, 3, 4] rfl) (lp5 zbig S a2 1 0)
  exact K r hr
def f_Pai_match (S : zS) (a1 : Int32) (a2 : Int32) : Option (zS × Int32) :=
  zob2 (f_Pai_hold S a1 a2 1) fun S1 v2 =>
  some (S1, (z_b v2))
theorem mo_Pai_match (S : zS) (a1 : Int32) (a2 : Int32) : zmO Prod.fst S (f_Pai_match S a1 a2) := by
  unfold f_Pai_match
  exact (mO_ob2 (g := Prod.fst) (mo_Pai_hold S a1 a2 1) fun S1 v2 => (mO_s zmo_rf))
set_option maxHeartbeats 1000000 in
set_option maxRecDepth 20000 in
theorem c_Pai_match (S : zS) (a1 : Int32) (a2 : Int32) : ∀ r, f_Pai_match S a1 a2 = some r → zMet l y_Pai_match (zw y_Pai_match prog_6_method_2_code 3 (some Jvm.ClassFile.FieldType.boolean)) 6 160 [.ref (G 4), .int a1, .int a2] D zcl (ztys cA) A (zRep D cA G A) zfc zfs S (zFi r) := by
  intro r hr
  refine zMet_of (mo_Fi (mo_Pai_match S a1 a2 r hr)) (by decide) tk_Pai_match (Nat.le_of_ble_eq_true rfl) ?_
  intro p e R s m args below meth c hf hlo C0 hK hA
  have K : zSO p l e R s m args below meth c 3 A D cA G S 0 (lv_args 0 [.ref (G 4), .int a1, .int a2]) [] zFi (f_Pai_match S a1 a2) := by
    unfold f_Pai_match
    refine so_go C0 4 (pc' := 4) (lv' := [(0, .ref (G 4)), (1, .int a1), (2, .int a2)]) (st' := [.int 1, .int a2, .int a1, .ref (G 4)]) rfl ?_
    refine so_oi (As := [.int a1, .int a2, .int 1]) (rest := []) C0 hK hA yk_Pai_hold (c_Pai_hold S a1 a2 1) wd_3_0 rfl rfl ⟨by rw [hf]; decide, by rw [hlo]; decide⟩ (Nat.le_of_ble_eq_true rfl) (zrc_obj (o := 4) hK (by decide) rfl) (fun S1 v2 hv2 => ?_)
    exact so_retb C0 rfl rfl
  exact K r hr
end ZM
