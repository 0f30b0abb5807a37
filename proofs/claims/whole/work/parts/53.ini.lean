-- by program: the constructors that make rows
def kRow (cA : Nat → ClassId) (q a : Nat) : va_W := [(q, .inr (0, [.ref a, .int 0])), (a, .inl (cA 0, 16, .inl (fun _ => 0)))]
def kRows (cA : Nat → ClassId) (x : List Nat × List Nat) : Nat → va_W
  | 0 => []
  | n + 1 => kRows cA x n ++ kRow cA (x.1.getD n 0) (x.2.getD n 0)
section KI
variable {cA : Nat → ClassId} {D : va_G} {l : Launch}
set_option maxHeartbeats 4000000 in
set_option maxRecDepth 20000 in
theorem k_Row_init (h0 : Nat) : kMet l y_Row_init (zw y_Row_init prog_10_method_1_code 1 none) 1 20 [.ref h0] D cA h0 (.inr (0, [.null, .int 0])) (fun a => kRow cA h0 a) 1 16 := by
  refine kMet_of (by decide) rfl tk_Row_init (Nat.le_of_ble_eq_true rfl) ?_
  intro p e R s m args below meth c A hf hlo hcs hss C0 hK hA hin2
  refine kw_go C0 1 (pc' := 1) (lv' := [(0, .ref h0)]) (st' := [.ref h0]) rfl ?_
  refine kw_oi C0 wd_1_35 (by rw [hf]; decide) (by rw [hlo]; decide) (Nat.le_of_ble_eq_true rfl) rfl ?_
  refine kw_go C0 2 (pc' := 7) (lv' := [(0, .ref h0)]) (st' := [.int 16, .ref h0]) rfl ?_
  refine kw_newa C0 hK hA (t := 0) (N := 16) (a0 := (16, .inl (fun _ => 0))) rfl rfl wd_1_43 (fun _ => rfl) rfl (by decide) (by decide) (fun a b h1 h2 => Option.some.inj (Eq.trans (Eq.symm h1) h2)) (by omega) (by omega) rfl (fun b2 => ?_)
  refine kw_put C0 hK (j := 0) (ty := .array .int) rfl i_Row t_Row_ok n_Row (by decide) (Nat.le_of_ble_eq_true rfl) rfl (by decide +kernel) rfl rfl wd_1_36 rfl ?_
  refine kw_go C0 2 (pc' := 14) (lv' := [(0, .ref h0)]) (st' := [.int 0, .ref h0]) rfl ?_
  refine kw_put C0 hK (j := 1) (ty := .int) rfl i_Row t_Row_ok n_Row (by decide) (Nat.le_of_ble_eq_true rfl) rfl (by decide +kernel) rfl rfl wd_1_37 rfl ?_
  exact kw_ret C0 b2 rfl rfl (by omega) (by omega) rfl
def w_Fam (cA : Nat → ClassId) (h0 : Nat) (x : List Nat × List Nat × Nat) : va_W := (h0, .inr (2, [.ref (x.1.getD 0 0), .ref x.2.2])) :: (kRows cA (x.1, x.2.1) 1 ++ [(x.2.2, .inl (cA 1, 1024, .inr (.inl (fun _ => 0))))])
set_option maxHeartbeats 4000000 in
set_option maxRecDepth 20000 in
theorem k_Fam_init (h0 : Nat) : kMet l y_Fam_init (zw y_Fam_init prog_2_method_1_code 1 none) 2 40 [.ref h0] D cA h0 (.inr (2, [.null, .null])) (w_Fam cA h0) 3 1042 := by
  refine kMet_of (by decide) rfl tk_Fam_init (Nat.le_of_ble_eq_true rfl) ?_
  intro p e R s m args below meth c A hf hlo hcs hss C0 hK hA hin2
  refine kw_go C0 1 (pc' := 1) (lv' := [(0, .ref h0)]) (st' := [.ref h0]) rfl ?_
  refine kw_oi C0 wd_1_29 (by rw [hf]; decide) (by rw [hlo]; decide) (Nat.le_of_ble_eq_true rfl) rfl ?_
  refine kw_go C0 1 (pc' := 5) (lv' := [(0, .ref h0)]) (st' := [.ref h0]) rfl ?_
  refine kw_new C0 hK hA (cj := 0) (gs := [.null, .int 0]) rfl i_Row t_Row_ok (fun j hj => by rcases (show j = 0 ∨ j = 1 by omega) with rfl | rfl <;> rfl) wd_1_30 wd_1_31 wd_1_3 (by omega) (by omega) rfl (fun q1 => ?_)
  refine kw_go C0 1 (pc' := 9) (lv' := [(0, .ref h0)]) (st' := [.ref q1, .ref q1, .ref h0]) rfl ?_
  refine kw_call (n := 0) (As := []) (rest := [.ref q1, .ref h0]) C0 hK hA (k_Row_init q1) wd_1_34 wd_1_3 wd_1_32 wd_1_33 rfl (by decide +kernel) rfl ⟨by rw [hf]; decide, by rw [hlo]; decide⟩ (Nat.le_of_ble_eq_true rfl) (by omega) (by omega) rfl (fun a1 => ?_)
  refine kw_putF C0 hK hin2 (j := 0) (ty := .object "RuleTree$Row") rfl i_Fam t_Fam_ok n_Fam (by decide) (Nat.le_of_ble_eq_true rfl) rfl rfl (by decide +kernel) rfl rfl wd_1_44 rfl ?_
  refine kw_go C0 2 (pc' := 19) (lv' := [(0, .ref h0)]) (st' := [.int 1024, .ref h0]) rfl ?_
  refine kw_newa C0 hK hA (t := 1) (N := 1024) (a0 := (1024, .inr (.inl (fun _ => 0)))) rfl rfl wd_1_51 (fun _ => rfl) rfl (by decide) (by decide) (fun a b h1 h2 => Option.some.inj (Eq.trans (Eq.symm h1) h2)) (by omega) (by omega) rfl (fun b7 => ?_)
  refine kw_putF C0 hK hin2 (j := 1) (ty := .array .long) rfl i_Fam t_Fam_ok n_Fam (by decide) (Nat.le_of_ble_eq_true rfl) rfl rfl (by decide +kernel) rfl rfl wd_1_45 rfl ?_
  exact kw_ret C0 ([q1], [a1], b7) rfl rfl (by omega) (by omega) rfl
def w_Pat (cA : Nat → ClassId) (h0 : Nat) (x : List Nat × List Nat) : va_W := (h0, .inr (3, [.ref (x.1.getD 0 0), .ref (x.1.getD 1 0), .ref (x.1.getD 2 0), .ref (x.1.getD 3 0), .ref (x.1.getD 4 0), .ref (x.1.getD 5 0), .ref (x.1.getD 6 0), .ref (x.1.getD 7 0), .ref (x.1.getD 8 0)])) :: kRows cA x 9
set_option maxHeartbeats 4000000 in
set_option maxRecDepth 20000 in
theorem k_Pat_init (h0 : Nat) : kMet l y_Pat_init (zw y_Pat_init prog_8_method_1_code 1 none) 2 40 [.ref h0] D cA h0 (.inr (3, [.null, .null, .null, .null, .null, .null, .null, .null, .null])) (w_Pat cA h0) 18 162 := by
  refine kMet_of (by decide) rfl tk_Pat_init (Nat.le_of_ble_eq_true rfl) ?_
  intro p e R s m args below meth c A hf hlo hcs hss C0 hK hA hin2
  refine kw_go C0 1 (pc' := 1) (lv' := [(0, .ref h0)]) (st' := [.ref h0]) rfl ?_
  refine kw_oi C0 wd_1_57 (by rw [hf]; decide) (by rw [hlo]; decide) (Nat.le_of_ble_eq_true rfl) rfl ?_
  refine kw_go C0 1 (pc' := 5) (lv' := [(0, .ref h0)]) (st' := [.ref h0]) rfl ?_
  refine kw_new C0 hK hA (cj := 0) (gs := [.null, .int 0]) rfl i_Row t_Row_ok (fun j hj => by rcases (show j = 0 ∨ j = 1 by omega) with rfl | rfl <;> rfl) wd_1_58 wd_1_31 wd_1_3 (by omega) (by omega) rfl (fun q1 => ?_)
  refine kw_go C0 1 (pc' := 9) (lv' := [(0, .ref h0)]) (st' := [.ref q1, .ref q1, .ref h0]) rfl ?_
  refine kw_call (n := 0) (As := []) (rest := [.ref q1, .ref h0]) C0 hK hA (k_Row_init q1) wd_1_34 wd_1_3 wd_1_59 wd_1_33 rfl (by decide +kernel) rfl ⟨by rw [hf]; decide, by rw [hlo]; decide⟩ (Nat.le_of_ble_eq_true rfl) (by omega) (by omega) rfl (fun a1 => ?_)
  refine kw_putF C0 hK hin2 (j := 0) (ty := .object "RuleTree$Row") rfl i_Pat t_Pat_ok n_Pat (by decide) (Nat.le_of_ble_eq_true rfl) rfl rfl (by decide +kernel) rfl rfl wd_1_60 rfl ?_
  refine kw_go C0 1 (pc' := 16) (lv' := [(0, .ref h0)]) (st' := [.ref h0]) rfl ?_
  refine kw_new C0 hK hA (cj := 0) (gs := [.null, .int 0]) rfl i_Row t_Row_ok (fun j hj => by rcases (show j = 0 ∨ j = 1 by omega) with rfl | rfl <;> rfl) wd_1_58 wd_1_31 wd_1_3 (by omega) (by omega) rfl (fun q2 => ?_)
  refine kw_go C0 1 (pc' := 20) (lv' := [(0, .ref h0)]) (st' := [.ref q2, .ref q2, .ref h0]) rfl ?_
  refine kw_call (n := 0) (As := []) (rest := [.ref q2, .ref h0]) C0 hK hA (k_Row_init q2) wd_1_34 wd_1_3 wd_1_59 wd_1_33 rfl (by decide +kernel) rfl ⟨by rw [hf]; decide, by rw [hlo]; decide⟩ (Nat.le_of_ble_eq_true rfl) (by omega) (by omega) rfl (fun a2 => ?_)
  refine kw_putF C0 hK hin2 (j := 1) (ty := .object "RuleTree$Row") rfl i_Pat t_Pat_ok n_Pat (by decide) (Nat.le_of_ble_eq_true rfl) rfl rfl (by decide +kernel) rfl rfl wd_1_61 rfl ?_
  refine kw_go C0 1 (pc' := 27) (lv' := [(0, .ref h0)]) (st' := [.ref h0]) rfl ?_
  refine kw_new C0 hK hA (cj := 0) (gs := [.null, .int 0]) rfl i_Row t_Row_ok (fun j hj => by rcases (show j = 0 ∨ j = 1 by omega) with rfl | rfl <;> rfl) wd_1_58 wd_1_31 wd_1_3 (by omega) (by omega) rfl (fun q3 => ?_)
  refine kw_go C0 1 (pc' := 31) (lv' := [(0, .ref h0)]) (st' := [.ref q3, .ref q3, .ref h0]) rfl ?_
  refine kw_call (n := 0) (As := []) (rest := [.ref q3, .ref h0]) C0 hK hA (k_Row_init q3) wd_1_34 wd_1_3 wd_1_59 wd_1_33 rfl (by decide +kernel) rfl ⟨by rw [hf]; decide, by rw [hlo]; decide⟩ (Nat.le_of_ble_eq_true rfl) (by omega) (by omega) rfl (fun a3 => ?_)
  refine kw_putF C0 hK hin2 (j := 2) (ty := .object "RuleTree$Row") rfl i_Pat t_Pat_ok n_Pat (by decide) (Nat.le_of_ble_eq_true rfl) rfl rfl (by decide +kernel) rfl rfl wd_1_62 rfl ?_
  refine kw_go C0 1 (pc' := 38) (lv' := [(0, .ref h0)]) (st' := [.ref h0]) rfl ?_
  refine kw_new C0 hK hA (cj := 0) (gs := [.null, .int 0]) rfl i_Row t_Row_ok (fun j hj => by rcases (show j = 0 ∨ j = 1 by omega) with rfl | rfl <;> rfl) wd_1_58 wd_1_31 wd_1_3 (by omega) (by omega) rfl (fun q4 => ?_)
  refine kw_go C0 1 (pc' := 42) (lv' := [(0, .ref h0)]) (st' := [.ref q4, .ref q4, .ref h0]) rfl ?_
  refine kw_call (n := 0) (As := []) (rest := [.ref q4, .ref h0]) C0 hK hA (k_Row_init q4) wd_1_34 wd_1_3 wd_1_59 wd_1_33 rfl (by decide +kernel) rfl ⟨by rw [hf]; decide, by rw [hlo]; decide⟩ (Nat.le_of_ble_eq_true rfl) (by omega) (by omega) rfl (fun a4 => ?_)
  refine kw_putF C0 hK hin2 (j := 3) (ty := .object "RuleTree$Row") rfl i_Pat t_Pat_ok n_Pat (by decide) (Nat.le_of_ble_eq_true rfl) rfl rfl (by decide +kernel) rfl rfl wd_1_63 rfl ?_
  refine kw_go C0 1 (pc' := 49) (lv' := [(0, .ref h0)]) (st' := [.ref h0]) rfl ?_
  refine kw_new C0 hK hA (cj := 0) (gs := [.null, .int 0]) rfl i_Row t_Row_ok (fun j hj => by rcases (show j = 0 ∨ j = 1 by omega) with rfl | rfl <;> rfl) wd_1_58 wd_1_31 wd_1_3 (by omega) (by omega) rfl (fun q5 => ?_)
  refine kw_go C0 1 (pc' := 53) (lv' := [(0, .ref h0)]) (st' := [.ref q5, .ref q5, .ref h0]) rfl ?_
  refine kw_call (n := 0) (As := []) (rest := [.ref q5, .ref h0]) C0 hK hA (k_Row_init q5) wd_1_34 wd_1_3 wd_1_59 wd_1_33 rfl (by decide +kernel) rfl ⟨by rw [hf]; decide, by rw [hlo]; decide⟩ (Nat.le_of_ble_eq_true rfl) (by omega) (by omega) rfl (fun a5 => ?_)
  refine kw_putF C0 hK hin2 (j := 4) (ty := .object "RuleTree$Row") rfl i_Pat t_Pat_ok n_Pat (by decide) (Nat.le_of_ble_eq_true rfl) rfl rfl (by decide +kernel) rfl rfl wd_1_64 rfl ?_
  refine kw_go C0 1 (pc' := 60) (lv' := [(0, .ref h0)]) (st' := [.ref h0]) rfl ?_
  refine kw_new C0 hK hA (cj := 0) (gs := [.null, .int 0]) rfl i_Row t_Row_ok (fun j hj => by rcases (show j = 0 ∨ j = 1 by omega) with rfl | rfl <;> rfl) wd_1_58 wd_1_31 wd_1_3 (by omega) (by omega) rfl (fun q6 => ?_)
  refine kw_go C0 1 (pc' := 64) (lv' := [(0, .ref h0)]) (st' := [.ref q6, .ref q6, .ref h0]) rfl ?_
  refine kw_call (n := 0) (As := []) (rest := [.ref q6, .ref h0]) C0 hK hA (k_Row_init q6) wd_1_34 wd_1_3 wd_1_59 wd_1_33 rfl (by decide +kernel) rfl ⟨by rw [hf]; decide, by rw [hlo]; decide⟩ (Nat.le_of_ble_eq_true rfl) (by omega) (by omega) rfl (fun a6 => ?_)
  refine kw_putF C0 hK hin2 (j := 5) (ty := .object "RuleTree$Row") rfl i_Pat t_Pat_ok n_Pat (by decide) (Nat.le_of_ble_eq_true rfl) rfl rfl (by decide +kernel) rfl rfl wd_1_65 rfl ?_
  refine kw_go C0 1 (pc' := 71) (lv' := [(0, .ref h0)]) (st' := [.ref h0]) rfl ?_
  refine kw_new C0 hK hA (cj := 0) (gs := [.null, .int 0]) rfl i_Row t_Row_ok (fun j hj => by rcases (show j = 0 ∨ j = 1 by omega) with rfl | rfl <;> rfl) wd_1_58 wd_1_31 wd_1_3 (by omega) (by omega) rfl (fun q7 => ?_)
  refine kw_go C0 1 (pc' := 75) (lv' := [(0, .ref h0)]) (st' := [.ref q7, .ref q7, .ref h0]) rfl ?_
  refine kw_call (n := 0) (As := []) (rest := [.ref q7, .ref h0]) C0 hK hA (k_Row_init q7) wd_1_34 wd_1_3 wd_1_59 wd_1_33 rfl (by decide +kernel) rfl ⟨by rw [hf]; decide, by rw [hlo]; decide⟩ (Nat.le_of_ble_eq_true rfl) (by omega) (by omega) rfl (fun a7 => ?_)
  refine kw_putF C0 hK hin2 (j := 6) (ty := .object "RuleTree$Row") rfl i_Pat t_Pat_ok n_Pat (by decide) (Nat.le_of_ble_eq_true rfl) rfl rfl (by decide +kernel) rfl rfl wd_1_66 rfl ?_
  refine kw_go C0 1 (pc' := 82) (lv' := [(0, .ref h0)]) (st' := [.ref h0]) rfl ?_
  refine kw_new C0 hK hA (cj := 0) (gs := [.null, .int 0]) rfl i_Row t_Row_ok (fun j hj => by rcases (show j = 0 ∨ j = 1 by omega) with rfl | rfl <;> rfl) wd_1_58 wd_1_31 wd_1_3 (by omega) (by omega) rfl (fun q8 => ?_)
  refine kw_go C0 1 (pc' := 86) (lv' := [(0, .ref h0)]) (st' := [.ref q8, .ref q8, .ref h0]) rfl ?_
  refine kw_call (n := 0) (As := []) (rest := [.ref q8, .ref h0]) C0 hK hA (k_Row_init q8) wd_1_34 wd_1_3 wd_1_59 wd_1_33 rfl (by decide +kernel) rfl ⟨by rw [hf]; decide, by rw [hlo]; decide⟩ (Nat.le_of_ble_eq_true rfl) (by omega) (by omega) rfl (fun a8 => ?_)
  refine kw_putF C0 hK hin2 (j := 7) (ty := .object "RuleTree$Row") rfl i_Pat t_Pat_ok n_Pat (by decide) (Nat.le_of_ble_eq_true rfl) rfl rfl (by decide +kernel) rfl rfl wd_1_67 rfl ?_
  refine kw_go C0 1 (pc' := 93) (lv' := [(0, .ref h0)]) (st' := [.ref h0]) rfl ?_
  refine kw_new C0 hK hA (cj := 0) (gs := [.null, .int 0]) rfl i_Row t_Row_ok (fun j hj => by rcases (show j = 0 ∨ j = 1 by omega) with rfl | rfl <;> rfl) wd_1_58 wd_1_31 wd_1_3 (by omega) (by omega) rfl (fun q9 => ?_)
  refine kw_go C0 1 (pc' := 97) (lv' := [(0, .ref h0)]) (st' := [.ref q9, .ref q9, .ref h0]) rfl ?_
  refine kw_call (n := 0) (As := []) (rest := [.ref q9, .ref h0]) C0 hK hA (k_Row_init q9) wd_1_34 wd_1_3 wd_1_59 wd_1_33 rfl (by decide +kernel) rfl ⟨by rw [hf]; decide, by rw [hlo]; decide⟩ (Nat.le_of_ble_eq_true rfl) (by omega) (by omega) rfl (fun a9 => ?_)
  refine kw_putF C0 hK hin2 (j := 8) (ty := .object "RuleTree$Row") rfl i_Pat t_Pat_ok n_Pat (by decide) (Nat.le_of_ble_eq_true rfl) rfl rfl (by decide +kernel) rfl rfl wd_1_68 rfl ?_
  exact kw_ret C0 ([q1, q2, q3, q4, q5, q6, q7, q8, q9], [a1, a2, a3, a4, a5, a6, a7, a8, a9]) rfl rfl (by omega) (by omega) rfl
def w_Nod (cA : Nat → ClassId) (h0 : Nat) (x : List Nat × List Nat) : va_W := (h0, .inr (7, [.ref (x.1.getD 0 0), .ref (x.1.getD 1 0), .ref (x.1.getD 2 0), .ref (x.1.getD 3 0), .ref (x.1.getD 4 0), .ref (x.1.getD 5 0), .ref (x.1.getD 6 0), .ref (x.1.getD 7 0), .ref (x.1.getD 8 0), .ref (x.1.getD 9 0)])) :: kRows cA x 10
set_option maxHeartbeats 4000000 in
set_option maxRecDepth 20000 in
theorem k_Nod_init (h0 : Nat) : kMet l y_Nod_init (zw y_Nod_init prog_5_method_1_code 1 none) 2 40 [.ref h0] D cA h0 (.inr (7, [.null, .null, .null, .null, .null, .null, .null, .null, .null, .null])) (w_Nod cA h0) 20 180 := by
  refine kMet_of (by decide) rfl tk_Nod_init (Nat.le_of_ble_eq_true rfl) ?_
  intro p e R s m args below meth c A hf hlo hcs hss C0 hK hA hin2
  refine kw_go C0 1 (pc' := 1) (lv' := [(0, .ref h0)]) (st' := [.ref h0]) rfl ?_
  refine kw_oi C0 wd_1_209 (by rw [hf]; decide) (by rw [hlo]; decide) (Nat.le_of_ble_eq_true rfl) rfl ?_
  refine kw_go C0 1 (pc' := 5) (lv' := [(0, .ref h0)]) (st' := [.ref h0]) rfl ?_
  refine kw_new C0 hK hA (cj := 0) (gs := [.null, .int 0]) rfl i_Row t_Row_ok (fun j hj => by rcases (show j = 0 ∨ j = 1 by omega) with rfl | rfl <;> rfl) wd_1_210 wd_1_31 wd_1_3 (by omega) (by omega) rfl (fun q1 => ?_)
  refine kw_go C0 1 (pc' := 9) (lv' := [(0, .ref h0)]) (st' := [.ref q1, .ref q1, .ref h0]) rfl ?_
  refine kw_call (n := 0) (As := []) (rest := [.ref q1, .ref h0]) C0 hK hA (k_Row_init q1) wd_1_34 wd_1_3 wd_1_211 wd_1_33 rfl (by decide +kernel) rfl ⟨by rw [hf]; decide, by rw [hlo]; decide⟩ (Nat.le_of_ble_eq_true rfl) (by omega) (by omega) rfl (fun a1 => ?_)
  refine kw_putF C0 hK hin2 (j := 0) (ty := .object "RuleTree$Row") rfl i_Nod t_Nod_ok n_Nod (by decide) (Nat.le_of_ble_eq_true rfl) rfl rfl (by decide +kernel) rfl rfl wd_1_212 rfl ?_
  refine kw_go C0 1 (pc' := 16) (lv' := [(0, .ref h0)]) (st' := [.ref h0]) rfl ?_
  refine kw_new C0 hK hA (cj := 0) (gs := [.null, .int 0]) rfl i_Row t_Row_ok (fun j hj => by rcases (show j = 0 ∨ j = 1 by omega) with rfl | rfl <;> rfl) wd_1_210 wd_1_31 wd_1_3 (by omega) (by omega) rfl (fun q2 => ?_)
  refine kw_go C0 1 (pc' := 20) (lv' := [(0, .ref h0)]) (st' := [.ref q2, .ref q2, .ref h0]) rfl ?_
  refine kw_call (n := 0) (As := []) (rest := [.ref q2, .ref h0]) C0 hK hA (k_Row_init q2) wd_1_34 wd_1_3 wd_1_211 wd_1_33 rfl (by decide +kernel) rfl ⟨by rw [hf]; decide, by rw [hlo]; decide⟩ (Nat.le_of_ble_eq_true rfl) (by omega) (by omega) rfl (fun a2 => ?_)
  refine kw_putF C0 hK hin2 (j := 1) (ty := .object "RuleTree$Row") rfl i_Nod t_Nod_ok n_Nod (by decide) (Nat.le_of_ble_eq_true rfl) rfl rfl (by decide +kernel) rfl rfl wd_1_213 rfl ?_
  refine kw_go C0 1 (pc' := 27) (lv' := [(0, .ref h0)]) (st' := [.ref h0]) rfl ?_
  refine kw_new C0 hK hA (cj := 0) (gs := [.null, .int 0]) rfl i_Row t_Row_ok (fun j hj => by rcases (show j = 0 ∨ j = 1 by omega) with rfl | rfl <;> rfl) wd_1_210 wd_1_31 wd_1_3 (by omega) (by omega) rfl (fun q3 => ?_)
  refine kw_go C0 1 (pc' := 31) (lv' := [(0, .ref h0)]) (st' := [.ref q3, .ref q3, .ref h0]) rfl ?_
  refine kw_call (n := 0) (As := []) (rest := [.ref q3, .ref h0]) C0 hK hA (k_Row_init q3) wd_1_34 wd_1_3 wd_1_211 wd_1_33 rfl (by decide +kernel) rfl ⟨by rw [hf]; decide, by rw [hlo]; decide⟩ (Nat.le_of_ble_eq_true rfl) (by omega) (by omega) rfl (fun a3 => ?_)
  refine kw_putF C0 hK hin2 (j := 2) (ty := .object "RuleTree$Row") rfl i_Nod t_Nod_ok n_Nod (by decide) (Nat.le_of_ble_eq_true rfl) rfl rfl (by decide +kernel) rfl rfl wd_1_214 rfl ?_
  refine kw_go C0 1 (pc' := 38) (lv' := [(0, .ref h0)]) (st' := [.ref h0]) rfl ?_
  refine kw_new C0 hK hA (cj := 0) (gs := [.null, .int 0]) rfl i_Row t_Row_ok (fun j hj => by rcases (show j = 0 ∨ j = 1 by omega) with rfl | rfl <;> rfl) wd_1_210 wd_1_31 wd_1_3 (by omega) (by omega) rfl (fun q4 => ?_)
  refine kw_go C0 1 (pc' := 42) (lv' := [(0, .ref h0)]) (st' := [.ref q4, .ref q4, .ref h0]) rfl ?_
  refine kw_call (n := 0) (As := []) (rest := [.ref q4, .ref h0]) C0 hK hA (k_Row_init q4) wd_1_34 wd_1_3 wd_1_211 wd_1_33 rfl (by decide +kernel) rfl ⟨by rw [hf]; decide, by rw [hlo]; decide⟩ (Nat.le_of_ble_eq_true rfl) (by omega) (by omega) rfl (fun a4 => ?_)
  refine kw_putF C0 hK hin2 (j := 3) (ty := .object "RuleTree$Row") rfl i_Nod t_Nod_ok n_Nod (by decide) (Nat.le_of_ble_eq_true rfl) rfl rfl (by decide +kernel) rfl rfl wd_1_215 rfl ?_
  refine kw_go C0 1 (pc' := 49) (lv' := [(0, .ref h0)]) (st' := [.ref h0]) rfl ?_
  refine kw_new C0 hK hA (cj := 0) (gs := [.null, .int 0]) rfl i_Row t_Row_ok (fun j hj => by rcases (show j = 0 ∨ j = 1 by omega) with rfl | rfl <;> rfl) wd_1_210 wd_1_31 wd_1_3 (by omega) (by omega) rfl (fun q5 => ?_)
  refine kw_go C0 1 (pc' := 53) (lv' := [(0, .ref h0)]) (st' := [.ref q5, .ref q5, .ref h0]) rfl ?_
  refine kw_call (n := 0) (As := []) (rest := [.ref q5, .ref h0]) C0 hK hA (k_Row_init q5) wd_1_34 wd_1_3 wd_1_211 wd_1_33 rfl (by decide +kernel) rfl ⟨by rw [hf]; decide, by rw [hlo]; decide⟩ (Nat.le_of_ble_eq_true rfl) (by omega) (by omega) rfl (fun a5 => ?_)
  refine kw_putF C0 hK hin2 (j := 4) (ty := .object "RuleTree$Row") rfl i_Nod t_Nod_ok n_Nod (by decide) (Nat.le_of_ble_eq_true rfl) rfl rfl (by decide +kernel) rfl rfl wd_1_216 rfl ?_
  refine kw_go C0 1 (pc' := 60) (lv' := [(0, .ref h0)]) (st' := [.ref h0]) rfl ?_
  refine kw_new C0 hK hA (cj := 0) (gs := [.null, .int 0]) rfl i_Row t_Row_ok (fun j hj => by rcases (show j = 0 ∨ j = 1 by omega) with rfl | rfl <;> rfl) wd_1_210 wd_1_31 wd_1_3 (by omega) (by omega) rfl (fun q6 => ?_)
  refine kw_go C0 1 (pc' := 64) (lv' := [(0, .ref h0)]) (st' := [.ref q6, .ref q6, .ref h0]) rfl ?_
  refine kw_call (n := 0) (As := []) (rest := [.ref q6, .ref h0]) C0 hK hA (k_Row_init q6) wd_1_34 wd_1_3 wd_1_211 wd_1_33 rfl (by decide +kernel) rfl ⟨by rw [hf]; decide, by rw [hlo]; decide⟩ (Nat.le_of_ble_eq_true rfl) (by omega) (by omega) rfl (fun a6 => ?_)
  refine kw_putF C0 hK hin2 (j := 5) (ty := .object "RuleTree$Row") rfl i_Nod t_Nod_ok n_Nod (by decide) (Nat.le_of_ble_eq_true rfl) rfl rfl (by decide +kernel) rfl rfl wd_1_217 rfl ?_
  refine kw_go C0 1 (pc' := 71) (lv' := [(0, .ref h0)]) (st' := [.ref h0]) rfl ?_
  refine kw_new C0 hK hA (cj := 0) (gs := [.null, .int 0]) rfl i_Row t_Row_ok (fun j hj => by rcases (show j = 0 ∨ j = 1 by omega) with rfl | rfl <;> rfl) wd_1_210 wd_1_31 wd_1_3 (by omega) (by omega) rfl (fun q7 => ?_)
  refine kw_go C0 1 (pc' := 75) (lv' := [(0, .ref h0)]) (st' := [.ref q7, .ref q7, .ref h0]) rfl ?_
  refine kw_call (n := 0) (As := []) (rest := [.ref q7, .ref h0]) C0 hK hA (k_Row_init q7) wd_1_34 wd_1_3 wd_1_211 wd_1_33 rfl (by decide +kernel) rfl ⟨by rw [hf]; decide, by rw [hlo]; decide⟩ (Nat.le_of_ble_eq_true rfl) (by omega) (by omega) rfl (fun a7 => ?_)
  refine kw_putF C0 hK hin2 (j := 6) (ty := .object "RuleTree$Row") rfl i_Nod t_Nod_ok n_Nod (by decide) (Nat.le_of_ble_eq_true rfl) rfl rfl (by decide +kernel) rfl rfl wd_1_218 rfl ?_
  refine kw_go C0 1 (pc' := 82) (lv' := [(0, .ref h0)]) (st' := [.ref h0]) rfl ?_
  refine kw_new C0 hK hA (cj := 0) (gs := [.null, .int 0]) rfl i_Row t_Row_ok (fun j hj => by rcases (show j = 0 ∨ j = 1 by omega) with rfl | rfl <;> rfl) wd_1_210 wd_1_31 wd_1_3 (by omega) (by omega) rfl (fun q8 => ?_)
  refine kw_go C0 1 (pc' := 86) (lv' := [(0, .ref h0)]) (st' := [.ref q8, .ref q8, .ref h0]) rfl ?_
  refine kw_call (n := 0) (As := []) (rest := [.ref q8, .ref h0]) C0 hK hA (k_Row_init q8) wd_1_34 wd_1_3 wd_1_211 wd_1_33 rfl (by decide +kernel) rfl ⟨by rw [hf]; decide, by rw [hlo]; decide⟩ (Nat.le_of_ble_eq_true rfl) (by omega) (by omega) rfl (fun a8 => ?_)
  refine kw_putF C0 hK hin2 (j := 7) (ty := .object "RuleTree$Row") rfl i_Nod t_Nod_ok n_Nod (by decide) (Nat.le_of_ble_eq_true rfl) rfl rfl (by decide +kernel) rfl rfl wd_1_219 rfl ?_
  refine kw_go C0 1 (pc' := 93) (lv' := [(0, .ref h0)]) (st' := [.ref h0]) rfl ?_
  refine kw_new C0 hK hA (cj := 0) (gs := [.null, .int 0]) rfl i_Row t_Row_ok (fun j hj => by rcases (show j = 0 ∨ j = 1 by omega) with rfl | rfl <;> rfl) wd_1_210 wd_1_31 wd_1_3 (by omega) (by omega) rfl (fun q9 => ?_)
  refine kw_go C0 1 (pc' := 97) (lv' := [(0, .ref h0)]) (st' := [.ref q9, .ref q9, .ref h0]) rfl ?_
  refine kw_call (n := 0) (As := []) (rest := [.ref q9, .ref h0]) C0 hK hA (k_Row_init q9) wd_1_34 wd_1_3 wd_1_211 wd_1_33 rfl (by decide +kernel) rfl ⟨by rw [hf]; decide, by rw [hlo]; decide⟩ (Nat.le_of_ble_eq_true rfl) (by omega) (by omega) rfl (fun a9 => ?_)
  refine kw_putF C0 hK hin2 (j := 8) (ty := .object "RuleTree$Row") rfl i_Nod t_Nod_ok n_Nod (by decide) (Nat.le_of_ble_eq_true rfl) rfl rfl (by decide +kernel) rfl rfl wd_1_220 rfl ?_
  refine kw_go C0 1 (pc' := 104) (lv' := [(0, .ref h0)]) (st' := [.ref h0]) rfl ?_
  refine kw_new C0 hK hA (cj := 0) (gs := [.null, .int 0]) rfl i_Row t_Row_ok (fun j hj => by rcases (show j = 0 ∨ j = 1 by omega) with rfl | rfl <;> rfl) wd_1_210 wd_1_31 wd_1_3 (by omega) (by omega) rfl (fun q10 => ?_)
  refine kw_go C0 1 (pc' := 108) (lv' := [(0, .ref h0)]) (st' := [.ref q10, .ref q10, .ref h0]) rfl ?_
  refine kw_call (n := 0) (As := []) (rest := [.ref q10, .ref h0]) C0 hK hA (k_Row_init q10) wd_1_34 wd_1_3 wd_1_211 wd_1_33 rfl (by decide +kernel) rfl ⟨by rw [hf]; decide, by rw [hlo]; decide⟩ (Nat.le_of_ble_eq_true rfl) (by omega) (by omega) rfl (fun a10 => ?_)
  refine kw_putF C0 hK hin2 (j := 9) (ty := .object "RuleTree$Row") rfl i_Nod t_Nod_ok n_Nod (by decide) (Nat.le_of_ble_eq_true rfl) rfl rfl (by decide +kernel) rfl rfl wd_1_221 rfl ?_
  exact kw_ret C0 ([q1, q2, q3, q4, q5, q6, q7, q8, q9, q10], [a1, a2, a3, a4, a5, a6, a7, a8, a9, a10]) rfl rfl (by omega) (by omega) rfl
def w_Pai (cA : Nat → ClassId) (h0 : Nat) (p1 : Nat) (x : List Nat × List Nat) : va_W := (h0, .inr (5, [.ref p1, .ref (x.1.getD 0 0)])) :: kRows cA x 1
set_option maxHeartbeats 4000000 in
set_option maxRecDepth 20000 in
theorem k_Pai_init (h0 : Nat) (p1 : Nat) : kMet l y_Pai_init (zw y_Pai_init prog_6_method_1_code 2 none) 2 40 [.ref h0, .ref p1] D cA h0 (.inr (5, [.null, .null])) (w_Pai cA h0 p1) 2 18 := by
  refine kMet_of (by decide) rfl tk_Pai_init (Nat.le_of_ble_eq_true rfl) ?_
  intro p e R s m args below meth c A hf hlo hcs hss C0 hK hA hin2
  refine kw_go C0 1 (pc' := 1) (lv' := [(0, .ref h0), (1, .ref p1)]) (st' := [.ref h0]) rfl ?_
  refine kw_oi C0 wd_1_133 (by rw [hf]; decide) (by rw [hlo]; decide) (Nat.le_of_ble_eq_true rfl) rfl ?_
  refine kw_go C0 2 (pc' := 6) (lv' := [(0, .ref h0), (1, .ref p1)]) (st' := [.ref p1, .ref h0]) rfl ?_
  refine kw_putF C0 hK hin2 (j := 0) (ty := .object "RuleTree$Patterns") rfl i_Pai t_Pai_ok n_Pai (by decide) (Nat.le_of_ble_eq_true rfl) rfl rfl (by decide +kernel) rfl rfl wd_1_136 rfl ?_
  refine kw_go C0 1 (pc' := 10) (lv' := [(0, .ref h0), (1, .ref p1)]) (st' := [.ref h0]) rfl ?_
  refine kw_new C0 hK hA (cj := 0) (gs := [.null, .int 0]) rfl i_Row t_Row_ok (fun j hj => by rcases (show j = 0 ∨ j = 1 by omega) with rfl | rfl <;> rfl) wd_1_134 wd_1_31 wd_1_3 (by omega) (by omega) rfl (fun q1 => ?_)
  refine kw_go C0 1 (pc' := 14) (lv' := [(0, .ref h0), (1, .ref p1)]) (st' := [.ref q1, .ref q1, .ref h0]) rfl ?_
  refine kw_call (n := 0) (As := []) (rest := [.ref q1, .ref h0]) C0 hK hA (k_Row_init q1) wd_1_34 wd_1_3 wd_1_135 wd_1_33 rfl (by decide +kernel) rfl ⟨by rw [hf]; decide, by rw [hlo]; decide⟩ (Nat.le_of_ble_eq_true rfl) (by omega) (by omega) rfl (fun a1 => ?_)
  refine kw_putF C0 hK hin2 (j := 1) (ty := .object "RuleTree$Row") rfl i_Pai t_Pai_ok n_Pai (by decide) (Nat.le_of_ble_eq_true rfl) rfl rfl (by decide +kernel) rfl rfl wd_1_137 rfl ?_
  exact kw_ret C0 ([q1], [a1]) rfl rfl (by omega) (by omega) rfl
def w_Grw (cA : Nat → ClassId) (h0 : Nat) (p1 : Nat) (p2 : Nat) (p3 : Nat) (x : List Nat × List Nat) : va_W := (h0, .inr (8, [.ref p1, .ref p2, .ref p3, .ref (x.1.getD 0 0), .ref (x.1.getD 1 0)])) :: kRows cA x 2
set_option maxHeartbeats 4000000 in
set_option maxRecDepth 20000 in
theorem k_Grw_init (h0 : Nat) (p1 : Nat) (p2 : Nat) (p3 : Nat) : kMet l y_Grw_init (zw y_Grw_init prog_4_method_1_code 4 none) 2 40 [.ref h0, .ref p1, .ref p2, .ref p3] D cA h0 (.inr (8, [.null, .null, .null, .null, .null])) (w_Grw cA h0 p1 p2 p3) 4 36 := by
  refine kMet_of (by decide) rfl tk_Grw_init (Nat.le_of_ble_eq_true rfl) ?_
  intro p e R s m args below meth c A hf hlo hcs hss C0 hK hA hin2
  refine kw_go C0 1 (pc' := 1) (lv' := [(0, .ref h0), (1, .ref p1), (2, .ref p2), (3, .ref p3)]) (st' := [.ref h0]) rfl ?_
  refine kw_oi C0 wd_2_8 (by rw [hf]; decide) (by rw [hlo]; decide) (Nat.le_of_ble_eq_true rfl) rfl ?_
  refine kw_go C0 2 (pc' := 6) (lv' := [(0, .ref h0), (1, .ref p1), (2, .ref p2), (3, .ref p3)]) (st' := [.ref p1, .ref h0]) rfl ?_
  refine kw_putF C0 hK hin2 (j := 0) (ty := .object "RuleTree$Families") rfl i_Grw t_Grw_ok n_Grw (by decide) (Nat.le_of_ble_eq_true rfl) rfl rfl (by decide +kernel) rfl rfl wd_2_11 rfl ?_
  refine kw_go C0 2 (pc' := 11) (lv' := [(0, .ref h0), (1, .ref p1), (2, .ref p2), (3, .ref p3)]) (st' := [.ref p2, .ref h0]) rfl ?_
  refine kw_putF C0 hK hin2 (j := 1) (ty := .object "RuleTree$Parts") rfl i_Grw t_Grw_ok n_Grw (by decide) (Nat.le_of_ble_eq_true rfl) rfl rfl (by decide +kernel) rfl rfl wd_2_12 rfl ?_
  refine kw_go C0 2 (pc' := 16) (lv' := [(0, .ref h0), (1, .ref p1), (2, .ref p2), (3, .ref p3)]) (st' := [.ref p3, .ref h0]) rfl ?_
  refine kw_putF C0 hK hin2 (j := 2) (ty := .object "RuleTree$Nodes") rfl i_Grw t_Grw_ok n_Grw (by decide) (Nat.le_of_ble_eq_true rfl) rfl rfl (by decide +kernel) rfl rfl wd_2_13 rfl ?_
  refine kw_go C0 1 (pc' := 20) (lv' := [(0, .ref h0), (1, .ref p1), (2, .ref p2), (3, .ref p3)]) (st' := [.ref h0]) rfl ?_
  refine kw_new C0 hK hA (cj := 0) (gs := [.null, .int 0]) rfl i_Row t_Row_ok (fun j hj => by rcases (show j = 0 ∨ j = 1 by omega) with rfl | rfl <;> rfl) wd_2_9 wd_1_31 wd_1_3 (by omega) (by omega) rfl (fun q1 => ?_)
  refine kw_go C0 1 (pc' := 24) (lv' := [(0, .ref h0), (1, .ref p1), (2, .ref p2), (3, .ref p3)]) (st' := [.ref q1, .ref q1, .ref h0]) rfl ?_
  refine kw_call (n := 0) (As := []) (rest := [.ref q1, .ref h0]) C0 hK hA (k_Row_init q1) wd_1_34 wd_1_3 wd_2_10 wd_1_33 rfl (by decide +kernel) rfl ⟨by rw [hf]; decide, by rw [hlo]; decide⟩ (Nat.le_of_ble_eq_true rfl) (by omega) (by omega) rfl (fun a1 => ?_)
  refine kw_putF C0 hK hin2 (j := 3) (ty := .object "RuleTree$Row") rfl i_Grw t_Grw_ok n_Grw (by decide) (Nat.le_of_ble_eq_true rfl) rfl rfl (by decide +kernel) rfl rfl wd_2_14 rfl ?_
  refine kw_go C0 1 (pc' := 31) (lv' := [(0, .ref h0), (1, .ref p1), (2, .ref p2), (3, .ref p3)]) (st' := [.ref h0]) rfl ?_
  refine kw_new C0 hK hA (cj := 0) (gs := [.null, .int 0]) rfl i_Row t_Row_ok (fun j hj => by rcases (show j = 0 ∨ j = 1 by omega) with rfl | rfl <;> rfl) wd_2_9 wd_1_31 wd_1_3 (by omega) (by omega) rfl (fun q2 => ?_)
  refine kw_go C0 1 (pc' := 35) (lv' := [(0, .ref h0), (1, .ref p1), (2, .ref p2), (3, .ref p3)]) (st' := [.ref q2, .ref q2, .ref h0]) rfl ?_
  refine kw_call (n := 0) (As := []) (rest := [.ref q2, .ref h0]) C0 hK hA (k_Row_init q2) wd_1_34 wd_1_3 wd_2_10 wd_1_33 rfl (by decide +kernel) rfl ⟨by rw [hf]; decide, by rw [hlo]; decide⟩ (Nat.le_of_ble_eq_true rfl) (by omega) (by omega) rfl (fun a2 => ?_)
  refine kw_putF C0 hK hin2 (j := 4) (ty := .object "RuleTree$Row") rfl i_Grw t_Grw_ok n_Grw (by decide) (Nat.le_of_ble_eq_true rfl) rfl rfl (by decide +kernel) rfl rfl wd_2_15 rfl ?_
  exact kw_ret C0 ([q1, q2], [a1, a2]) rfl rfl (by omega) (by omega) rfl
def w_Wlk (cA : Nat → ClassId) (h0 : Nat) (p1 : Nat) (p2 : Nat) (p3 : Nat) (x : List Nat × List Nat) : va_W := (h0, .inr (9, [.ref p1, .ref p2, .ref p3, .ref (x.1.getD 0 0), .ref (x.1.getD 1 0), .int 0])) :: kRows cA x 2
set_option maxHeartbeats 4000000 in
set_option maxRecDepth 20000 in
theorem k_Wlk_init (h0 : Nat) (p1 : Nat) (p2 : Nat) (p3 : Nat) : kMet l y_Wlk_init (zw y_Wlk_init prog_11_method_1_code 4 none) 2 40 [.ref h0, .ref p1, .ref p2, .ref p3] D cA h0 (.inr (9, [.null, .null, .null, .null, .null, .int 0])) (w_Wlk cA h0 p1 p2 p3) 4 36 := by
  refine kMet_of (by decide) rfl tk_Wlk_init (Nat.le_of_ble_eq_true rfl) ?_
  intro p e R s m args below meth c A hf hlo hcs hss C0 hK hA hin2
  refine kw_go C0 1 (pc' := 1) (lv' := [(0, .ref h0), (1, .ref p1), (2, .ref p2), (3, .ref p3)]) (st' := [.ref h0]) rfl ?_
  refine kw_oi C0 wd_2_32 (by rw [hf]; decide) (by rw [hlo]; decide) (Nat.le_of_ble_eq_true rfl) rfl ?_
  refine kw_go C0 2 (pc' := 6) (lv' := [(0, .ref h0), (1, .ref p1), (2, .ref p2), (3, .ref p3)]) (st' := [.ref p1, .ref h0]) rfl ?_
  refine kw_putF C0 hK hin2 (j := 0) (ty := .object "RuleTree$Patterns") rfl i_Wlk t_Wlk_ok n_Wlk (by decide) (Nat.le_of_ble_eq_true rfl) rfl rfl (by decide +kernel) rfl rfl wd_2_35 rfl ?_
  refine kw_go C0 2 (pc' := 11) (lv' := [(0, .ref h0), (1, .ref p1), (2, .ref p2), (3, .ref p3)]) (st' := [.ref p2, .ref h0]) rfl ?_
  refine kw_putF C0 hK hin2 (j := 1) (ty := .object "RuleTree$Parts") rfl i_Wlk t_Wlk_ok n_Wlk (by decide) (Nat.le_of_ble_eq_true rfl) rfl rfl (by decide +kernel) rfl rfl wd_2_36 rfl ?_
  refine kw_go C0 2 (pc' := 16) (lv' := [(0, .ref h0), (1, .ref p1), (2, .ref p2), (3, .ref p3)]) (st' := [.ref p3, .ref h0]) rfl ?_
  refine kw_putF C0 hK hin2 (j := 2) (ty := .object "RuleTree$Nodes") rfl i_Wlk t_Wlk_ok n_Wlk (by decide) (Nat.le_of_ble_eq_true rfl) rfl rfl (by decide +kernel) rfl rfl wd_2_37 rfl ?_
  refine kw_go C0 1 (pc' := 20) (lv' := [(0, .ref h0), (1, .ref p1), (2, .ref p2), (3, .ref p3)]) (st' := [.ref h0]) rfl ?_
  refine kw_new C0 hK hA (cj := 0) (gs := [.null, .int 0]) rfl i_Row t_Row_ok (fun j hj => by rcases (show j = 0 ∨ j = 1 by omega) with rfl | rfl <;> rfl) wd_2_33 wd_1_31 wd_1_3 (by omega) (by omega) rfl (fun q1 => ?_)
  refine kw_go C0 1 (pc' := 24) (lv' := [(0, .ref h0), (1, .ref p1), (2, .ref p2), (3, .ref p3)]) (st' := [.ref q1, .ref q1, .ref h0]) rfl ?_
  refine kw_call (n := 0) (As := []) (rest := [.ref q1, .ref h0]) C0 hK hA (k_Row_init q1) wd_1_34 wd_1_3 wd_2_34 wd_1_33 rfl (by decide +kernel) rfl ⟨by rw [hf]; decide, by rw [hlo]; decide⟩ (Nat.le_of_ble_eq_true rfl) (by omega) (by omega) rfl (fun a1 => ?_)
  refine kw_putF C0 hK hin2 (j := 3) (ty := .object "RuleTree$Row") rfl i_Wlk t_Wlk_ok n_Wlk (by decide) (Nat.le_of_ble_eq_true rfl) rfl rfl (by decide +kernel) rfl rfl wd_2_38 rfl ?_
  refine kw_go C0 1 (pc' := 31) (lv' := [(0, .ref h0), (1, .ref p1), (2, .ref p2), (3, .ref p3)]) (st' := [.ref h0]) rfl ?_
  refine kw_new C0 hK hA (cj := 0) (gs := [.null, .int 0]) rfl i_Row t_Row_ok (fun j hj => by rcases (show j = 0 ∨ j = 1 by omega) with rfl | rfl <;> rfl) wd_2_33 wd_1_31 wd_1_3 (by omega) (by omega) rfl (fun q2 => ?_)
  refine kw_go C0 1 (pc' := 35) (lv' := [(0, .ref h0), (1, .ref p1), (2, .ref p2), (3, .ref p3)]) (st' := [.ref q2, .ref q2, .ref h0]) rfl ?_
  refine kw_call (n := 0) (As := []) (rest := [.ref q2, .ref h0]) C0 hK hA (k_Row_init q2) wd_1_34 wd_1_3 wd_2_34 wd_1_33 rfl (by decide +kernel) rfl ⟨by rw [hf]; decide, by rw [hlo]; decide⟩ (Nat.le_of_ble_eq_true rfl) (by omega) (by omega) rfl (fun a2 => ?_)
  refine kw_putF C0 hK hin2 (j := 4) (ty := .object "RuleTree$Row") rfl i_Wlk t_Wlk_ok n_Wlk (by decide) (Nat.le_of_ble_eq_true rfl) rfl rfl (by decide +kernel) rfl rfl wd_2_39 rfl ?_
  refine kw_go C0 2 (pc' := 43) (lv' := [(0, .ref h0), (1, .ref p1), (2, .ref p2), (3, .ref p3)]) (st' := [.int 0, .ref h0]) rfl ?_
  refine kw_put C0 hK (j := 5) (ty := .int) rfl i_Wlk t_Wlk_ok n_Wlk (by decide) (Nat.le_of_ble_eq_true rfl) rfl (by decide +kernel) rfl rfl wd_2_40 rfl ?_
  exact kw_ret C0 ([q1, q2], [a1, a2]) rfl rfl (by omega) (by omega) rfl
def w_Gap (cA : Nat → ClassId) (h0 : Nat) (p1 : Nat) (p2 : Nat) (p3 : Nat) (x : List Nat × List Nat) : va_W := (h0, .inr (10, [.ref p1, .ref p2, .ref p3, .ref (x.1.getD 0 0), .ref (x.1.getD 1 0), .int (-1)])) :: kRows cA x 2
set_option maxHeartbeats 4000000 in
set_option maxRecDepth 20000 in
theorem k_Gap_init (h0 : Nat) (p1 : Nat) (p2 : Nat) (p3 : Nat) : kMet l y_Gap_init (zw y_Gap_init prog_3_method_1_code 4 none) 2 40 [.ref h0, .ref p1, .ref p2, .ref p3] D cA h0 (.inr (10, [.null, .null, .null, .null, .null, .int 0])) (w_Gap cA h0 p1 p2 p3) 4 36 := by
  refine kMet_of (by decide) rfl tk_Gap_init (Nat.le_of_ble_eq_true rfl) ?_
  intro p e R s m args below meth c A hf hlo hcs hss C0 hK hA hin2
  refine kw_go C0 1 (pc' := 1) (lv' := [(0, .ref h0), (1, .ref p1), (2, .ref p2), (3, .ref p3)]) (st' := [.ref h0]) rfl ?_
  refine kw_oi C0 wd_2_59 (by rw [hf]; decide) (by rw [hlo]; decide) (Nat.le_of_ble_eq_true rfl) rfl ?_
  refine kw_go C0 2 (pc' := 6) (lv' := [(0, .ref h0), (1, .ref p1), (2, .ref p2), (3, .ref p3)]) (st' := [.ref p1, .ref h0]) rfl ?_
  refine kw_putF C0 hK hin2 (j := 0) (ty := .object "RuleTree$Families") rfl i_Gap t_Gap_ok n_Gap (by decide) (Nat.le_of_ble_eq_true rfl) rfl rfl (by decide +kernel) rfl rfl wd_2_62 rfl ?_
  refine kw_go C0 2 (pc' := 11) (lv' := [(0, .ref h0), (1, .ref p1), (2, .ref p2), (3, .ref p3)]) (st' := [.ref p2, .ref h0]) rfl ?_
  refine kw_putF C0 hK hin2 (j := 1) (ty := .object "RuleTree$Parts") rfl i_Gap t_Gap_ok n_Gap (by decide) (Nat.le_of_ble_eq_true rfl) rfl rfl (by decide +kernel) rfl rfl wd_2_63 rfl ?_
  refine kw_go C0 2 (pc' := 16) (lv' := [(0, .ref h0), (1, .ref p1), (2, .ref p2), (3, .ref p3)]) (st' := [.ref p3, .ref h0]) rfl ?_
  refine kw_putF C0 hK hin2 (j := 2) (ty := .object "RuleTree$Nodes") rfl i_Gap t_Gap_ok n_Gap (by decide) (Nat.le_of_ble_eq_true rfl) rfl rfl (by decide +kernel) rfl rfl wd_2_64 rfl ?_
  refine kw_go C0 1 (pc' := 20) (lv' := [(0, .ref h0), (1, .ref p1), (2, .ref p2), (3, .ref p3)]) (st' := [.ref h0]) rfl ?_
  refine kw_new C0 hK hA (cj := 0) (gs := [.null, .int 0]) rfl i_Row t_Row_ok (fun j hj => by rcases (show j = 0 ∨ j = 1 by omega) with rfl | rfl <;> rfl) wd_2_60 wd_1_31 wd_1_3 (by omega) (by omega) rfl (fun q1 => ?_)
  refine kw_go C0 1 (pc' := 24) (lv' := [(0, .ref h0), (1, .ref p1), (2, .ref p2), (3, .ref p3)]) (st' := [.ref q1, .ref q1, .ref h0]) rfl ?_
  refine kw_call (n := 0) (As := []) (rest := [.ref q1, .ref h0]) C0 hK hA (k_Row_init q1) wd_1_34 wd_1_3 wd_2_61 wd_1_33 rfl (by decide +kernel) rfl ⟨by rw [hf]; decide, by rw [hlo]; decide⟩ (Nat.le_of_ble_eq_true rfl) (by omega) (by omega) rfl (fun a1 => ?_)
  refine kw_putF C0 hK hin2 (j := 3) (ty := .object "RuleTree$Row") rfl i_Gap t_Gap_ok n_Gap (by decide) (Nat.le_of_ble_eq_true rfl) rfl rfl (by decide +kernel) rfl rfl wd_2_65 rfl ?_
  refine kw_go C0 1 (pc' := 31) (lv' := [(0, .ref h0), (1, .ref p1), (2, .ref p2), (3, .ref p3)]) (st' := [.ref h0]) rfl ?_
  refine kw_new C0 hK hA (cj := 0) (gs := [.null, .int 0]) rfl i_Row t_Row_ok (fun j hj => by rcases (show j = 0 ∨ j = 1 by omega) with rfl | rfl <;> rfl) wd_2_60 wd_1_31 wd_1_3 (by omega) (by omega) rfl (fun q2 => ?_)
  refine kw_go C0 1 (pc' := 35) (lv' := [(0, .ref h0), (1, .ref p1), (2, .ref p2), (3, .ref p3)]) (st' := [.ref q2, .ref q2, .ref h0]) rfl ?_
  refine kw_call (n := 0) (As := []) (rest := [.ref q2, .ref h0]) C0 hK hA (k_Row_init q2) wd_1_34 wd_1_3 wd_2_61 wd_1_33 rfl (by decide +kernel) rfl ⟨by rw [hf]; decide, by rw [hlo]; decide⟩ (Nat.le_of_ble_eq_true rfl) (by omega) (by omega) rfl (fun a2 => ?_)
  refine kw_putF C0 hK hin2 (j := 4) (ty := .object "RuleTree$Row") rfl i_Gap t_Gap_ok n_Gap (by decide) (Nat.le_of_ble_eq_true rfl) rfl rfl (by decide +kernel) rfl rfl wd_2_66 rfl ?_
  refine kw_go C0 2 (pc' := 43) (lv' := [(0, .ref h0), (1, .ref p1), (2, .ref p2), (3, .ref p3)]) (st' := [.int (-1), .ref h0]) rfl ?_
  refine kw_put C0 hK (j := 5) (ty := .int) rfl i_Gap t_Gap_ok n_Gap (by decide) (Nat.le_of_ble_eq_true rfl) rfl (by decide +kernel) rfl rfl wd_2_67 rfl ?_
  exact kw_ret C0 ([q1, q2], [a1, a2]) rfl rfl (by omega) (by omega) rfl
end KI
