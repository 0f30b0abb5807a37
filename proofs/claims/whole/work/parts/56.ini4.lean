-- RuleTree.<init> (by program)
abbrev kTreI : Type := (Nat) × (List Nat × List Nat × Nat) × (Nat) × (List Nat × List Nat) × (Nat) × ({x : Nat × Nat × (Nat → Int32) // ∀ i, i < 128 → x.2.2 i = -1}) × (Nat) × (List Nat × List Nat) × (Nat) × (Nat) × (Nat) × ((List Nat × List Nat) × kParI) × (Nat) × (List Nat × List Nat) × (Nat) × (List Nat × List Nat) × (Nat) × (List Nat × List Nat) × (Nat) × (List Nat × List Nat)
def w_Tre (cA : Nat → ClassId) (h0 : Nat) (z : kTreI) : va_W := match z with
  | (q0, x0, q1, x1, q2, x2, q3, x3, q4, x4, q5, x5, q6, x6, q7, x7, q8, x8, q9, x9) => (h0, .inr (1, [.ref q0, .ref q1, .ref q2, .ref q3, .ref q4, .ref q5, .ref q6, .ref q7, .ref q8, .ref q9, .int 0, .int 0])) :: (((((((((([] ++ w_Fam cA q0 x0) ++ w_Pat cA q1 x1) ++ w_Psh cA q2 x2) ++ w_Pai cA q3 q1 x3) ++ kRow cA q4 x4) ++ w_Par cA q5 q1 x5) ++ w_Nod cA q6 x6) ++ w_Grw cA q7 q0 q5 q6 x7) ++ w_Wlk cA q8 q1 q5 q6 x8) ++ w_Gap cA q9 q0 q5 q6 x9)
section KI
variable {cA : Nat → ClassId} {D : va_G} {l : Launch}
set_option maxHeartbeats 4000000 in
set_option maxRecDepth 20000 in
theorem k_Tre_init (h0 : Nat) : kMet l y_Tre_init (zw y_Tre_init prog_1_method_1_code 1 none) 5 140 [.ref h0] D cA h0 (.inr (1, [.null, .null, .null, .null, .null, .null, .null, .null, .null, .null, .int 0, .int 0])) (w_Tre cA h0) 99 2079 := by
  refine kMet_of (by decide) rfl tk_Tre_init (Nat.le_of_ble_eq_true rfl) ?_
  intro p e R s m args below meth c A hf hlo hcs hss C0 hK hA hin2
  refine kw_go C0 1 (pc' := 1) (lv' := [(0, .ref h0)]) (st' := [.ref h0]) rfl ?_
  refine kw_oi C0 wd_1_21 (by rw [hf]; decide) (by rw [hlo]; decide) (Nat.le_of_ble_eq_true rfl) rfl ?_
  refine kw_go C0 1 (pc' := 5) (lv' := [(0, .ref h0)]) (st' := [.ref h0]) rfl ?_
  refine kw_new C0 hK hA (cj := 2) (gs := [.null, .null]) rfl i_Fam t_Fam_ok (fun j hj => by rcases (show j = 0 ∨ j = 1 by omega) with rfl | rfl <;> rfl) wd_1_24 wd_1_25 wd_1_2 (by omega) (by omega) rfl (fun q0 => ?_)
  refine kw_go C0 1 (pc' := 9) (lv' := [(0, .ref h0)]) (st' := [.ref q0, .ref q0, .ref h0]) rfl ?_
  refine kw_call (n := 0) (As := []) (rest := [.ref q0, .ref h0]) C0 hK hA (k_Fam_init q0) wd_1_28 wd_1_2 wd_1_26 wd_1_27 rfl (by decide +kernel) rfl ⟨by rw [hf]; decide, by rw [hlo]; decide⟩ (Nat.le_of_ble_eq_true rfl) (by omega) (by omega) rfl (fun x0 => ?_)
  refine kw_putF C0 hK hin2 (j := 0) (ty := .object "RuleTree$Families") rfl i_Tre t_Tre_ok n_Tre (by decide) (Nat.le_of_ble_eq_true rfl) rfl rfl (by decide +kernel) rfl rfl wd_2_81 rfl ?_
  refine kw_go C0 1 (pc' := 16) (lv' := [(0, .ref h0)]) (st' := [.ref h0]) rfl ?_
  refine kw_new C0 hK hA (cj := 3) (gs := [.null, .null, .null, .null, .null, .null, .null, .null, .null]) rfl i_Pat t_Pat_ok (fun j hj => by rcases (show j = 0 ∨ j = 1 ∨ j = 2 ∨ j = 3 ∨ j = 4 ∨ j = 5 ∨ j = 6 ∨ j = 7 ∨ j = 8 by omega) with rfl | rfl | rfl | rfl | rfl | rfl | rfl | rfl | rfl <;> rfl) wd_1_52 wd_1_53 wd_1_4 (by omega) (by omega) rfl (fun q1 => ?_)
  refine kw_go C0 1 (pc' := 20) (lv' := [(0, .ref h0)]) (st' := [.ref q1, .ref q1, .ref h0]) rfl ?_
  refine kw_call (n := 0) (As := []) (rest := [.ref q1, .ref h0]) C0 hK hA (k_Pat_init q1) wd_1_56 wd_1_4 wd_1_54 wd_1_55 rfl (by decide +kernel) rfl ⟨by rw [hf]; decide, by rw [hlo]; decide⟩ (Nat.le_of_ble_eq_true rfl) (by omega) (by omega) rfl (fun x1 => ?_)
  refine kw_putF C0 hK hin2 (j := 1) (ty := .object "RuleTree$Patterns") rfl i_Tre t_Tre_ok n_Tre (by decide) (Nat.le_of_ble_eq_true rfl) rfl rfl (by decide +kernel) rfl rfl wd_2_82 rfl ?_
  refine kw_go C0 1 (pc' := 27) (lv' := [(0, .ref h0)]) (st' := [.ref h0]) rfl ?_
  refine kw_new C0 hK hA (cj := 4) (gs := [.null, .int 0]) rfl i_Psh t_Psh_ok (fun j hj => by rcases (show j = 0 ∨ j = 1 by omega) with rfl | rfl <;> rfl) wd_1_88 wd_1_89 wd_1_5 (by omega) (by omega) rfl (fun q2 => ?_)
  refine kw_go C0 1 (pc' := 31) (lv' := [(0, .ref h0)]) (st' := [.ref q2, .ref q2, .ref h0]) rfl ?_
  refine kw_call (n := 0) (As := []) (rest := [.ref q2, .ref h0]) C0 hK hA (k_Psh_init q2) wd_1_92 wd_1_5 wd_1_90 wd_1_91 rfl (by decide +kernel) rfl ⟨by rw [hf]; decide, by rw [hlo]; decide⟩ (Nat.le_of_ble_eq_true rfl) (by omega) (by omega) rfl (fun x2 => ?_)
  refine kw_putF C0 hK hin2 (j := 2) (ty := .object "RuleTree$Pushed") rfl i_Tre t_Tre_ok n_Tre (by decide) (Nat.le_of_ble_eq_true rfl) rfl rfl (by decide +kernel) rfl rfl wd_2_83 rfl ?_
  refine kw_go C0 1 (pc' := 38) (lv' := [(0, .ref h0)]) (st' := [.ref h0]) rfl ?_
  refine kw_new C0 hK hA (cj := 5) (gs := [.null, .null]) rfl i_Pai t_Pai_ok (fun j hj => by rcases (show j = 0 ∨ j = 1 by omega) with rfl | rfl <;> rfl) wd_1_128 wd_1_129 wd_1_9 (by omega) (by omega) rfl (fun q3 => ?_)
  refine kw_go C0 2 (pc' := 43) (lv' := [(0, .ref h0)]) (st' := [.ref h0, .ref q3, .ref q3, .ref h0]) rfl ?_
  refine kw_get C0 hK (j := 1) (v := .ref q1) rfl i_Tre (by decide) rfl wd_2_82 rfl ?_
  refine kw_call (n := 1) (As := [.ref q1]) (rest := [.ref q3, .ref h0]) C0 hK hA (k_Pai_init q3 q1) wd_1_132 wd_1_9 wd_1_130 wd_1_131 rfl (by decide +kernel) rfl ⟨by rw [hf]; decide, by rw [hlo]; decide⟩ (Nat.le_of_ble_eq_true rfl) (by omega) (by omega) rfl (fun x3 => ?_)
  refine kw_putF C0 hK hin2 (j := 3) (ty := .object "RuleTree$Pairs") rfl i_Tre t_Tre_ok n_Tre (by decide) (Nat.le_of_ble_eq_true rfl) rfl rfl (by decide +kernel) rfl rfl wd_2_84 rfl ?_
  refine kw_go C0 1 (pc' := 53) (lv' := [(0, .ref h0)]) (st' := [.ref h0]) rfl ?_
  refine kw_new C0 hK hA (cj := 0) (gs := [.null, .int 0]) rfl i_Row t_Row_ok (fun j hj => by rcases (show j = 0 ∨ j = 1 by omega) with rfl | rfl <;> rfl) wd_1_143 wd_1_31 wd_1_3 (by omega) (by omega) rfl (fun q4 => ?_)
  refine kw_go C0 1 (pc' := 57) (lv' := [(0, .ref h0)]) (st' := [.ref q4, .ref q4, .ref h0]) rfl ?_
  refine kw_call (n := 0) (As := []) (rest := [.ref q4, .ref h0]) C0 hK hA (k_Row_init q4) wd_1_34 wd_1_3 wd_1_144 wd_1_33 rfl (by decide +kernel) rfl ⟨by rw [hf]; decide, by rw [hlo]; decide⟩ (Nat.le_of_ble_eq_true rfl) (by omega) (by omega) rfl (fun x4 => ?_)
  refine kw_putF C0 hK hin2 (j := 4) (ty := .object "RuleTree$Row") rfl i_Tre t_Tre_ok n_Tre (by decide) (Nat.le_of_ble_eq_true rfl) rfl rfl (by decide +kernel) rfl rfl wd_2_85 rfl ?_
  refine kw_go C0 1 (pc' := 64) (lv' := [(0, .ref h0)]) (st' := [.ref h0]) rfl ?_
  refine kw_new C0 hK hA (cj := 6) (gs := [.null, .null, .null, .null, .null, .null, .null, .null, .null, .null, .null, .null, .null, .null, .null]) rfl i_Par t_Par_ok (fun j hj => by rcases (show j = 0 ∨ j = 1 ∨ j = 2 ∨ j = 3 ∨ j = 4 ∨ j = 5 ∨ j = 6 ∨ j = 7 ∨ j = 8 ∨ j = 9 ∨ j = 10 ∨ j = 11 ∨ j = 12 ∨ j = 13 ∨ j = 14 by omega) with rfl | rfl | rfl | rfl | rfl | rfl | rfl | rfl | rfl | rfl | rfl | rfl | rfl | rfl | rfl <;> rfl) wd_1_145 wd_1_146 wd_1_10 (by omega) (by omega) rfl (fun q5 => ?_)
  refine kw_go C0 2 (pc' := 69) (lv' := [(0, .ref h0)]) (st' := [.ref h0, .ref q5, .ref q5, .ref h0]) rfl ?_
  refine kw_get C0 hK (j := 1) (v := .ref q1) rfl i_Tre (by decide) rfl wd_2_82 rfl ?_
  refine kw_call (n := 1) (As := [.ref q1]) (rest := [.ref q5, .ref h0]) C0 hK hA (k_Par_init q5 q1) wd_1_149 wd_1_10 wd_1_147 wd_1_148 rfl (by decide +kernel) rfl ⟨by rw [hf]; decide, by rw [hlo]; decide⟩ (Nat.le_of_ble_eq_true rfl) (by omega) (by omega) rfl (fun x5 => ?_)
  refine kw_putF C0 hK hin2 (j := 5) (ty := .object "RuleTree$Parts") rfl i_Tre t_Tre_ok n_Tre (by decide) (Nat.le_of_ble_eq_true rfl) rfl rfl (by decide +kernel) rfl rfl wd_2_86 rfl ?_
  refine kw_go C0 1 (pc' := 79) (lv' := [(0, .ref h0)]) (st' := [.ref h0]) rfl ?_
  refine kw_new C0 hK hA (cj := 7) (gs := [.null, .null, .null, .null, .null, .null, .null, .null, .null, .null]) rfl i_Nod t_Nod_ok (fun j hj => by rcases (show j = 0 ∨ j = 1 ∨ j = 2 ∨ j = 3 ∨ j = 4 ∨ j = 5 ∨ j = 6 ∨ j = 7 ∨ j = 8 ∨ j = 9 by omega) with rfl | rfl | rfl | rfl | rfl | rfl | rfl | rfl | rfl | rfl <;> rfl) wd_1_204 wd_1_205 wd_1_11 (by omega) (by omega) rfl (fun q6 => ?_)
  refine kw_go C0 1 (pc' := 83) (lv' := [(0, .ref h0)]) (st' := [.ref q6, .ref q6, .ref h0]) rfl ?_
  refine kw_call (n := 0) (As := []) (rest := [.ref q6, .ref h0]) C0 hK hA (k_Nod_init q6) wd_1_208 wd_1_11 wd_1_206 wd_1_207 rfl (by decide +kernel) rfl ⟨by rw [hf]; decide, by rw [hlo]; decide⟩ (Nat.le_of_ble_eq_true rfl) (by omega) (by omega) rfl (fun x6 => ?_)
  refine kw_putF C0 hK hin2 (j := 6) (ty := .object "RuleTree$Nodes") rfl i_Tre t_Tre_ok n_Tre (by decide) (Nat.le_of_ble_eq_true rfl) rfl rfl (by decide +kernel) rfl rfl wd_2_87 rfl ?_
  refine kw_go C0 1 (pc' := 90) (lv' := [(0, .ref h0)]) (st' := [.ref h0]) rfl ?_
  refine kw_new C0 hK hA (cj := 8) (gs := [.null, .null, .null, .null, .null]) rfl i_Grw t_Grw_ok (fun j hj => by rcases (show j = 0 ∨ j = 1 ∨ j = 2 ∨ j = 3 ∨ j = 4 by omega) with rfl | rfl | rfl | rfl | rfl <;> rfl) wd_2_3 wd_2_4 wd_1_12 (by omega) (by omega) rfl (fun q7 => ?_)
  refine kw_go C0 2 (pc' := 95) (lv' := [(0, .ref h0)]) (st' := [.ref h0, .ref q7, .ref q7, .ref h0]) rfl ?_
  refine kw_get C0 hK (j := 0) (v := .ref q0) rfl i_Tre (by decide) rfl wd_2_81 rfl ?_
  refine kw_go C0 1 (pc' := 99) (lv' := [(0, .ref h0)]) (st' := [.ref h0, .ref q0, .ref q7, .ref q7, .ref h0]) rfl ?_
  refine kw_get C0 hK (j := 5) (v := .ref q5) rfl i_Tre (by decide) rfl wd_2_86 rfl ?_
  refine kw_go C0 1 (pc' := 103) (lv' := [(0, .ref h0)]) (st' := [.ref h0, .ref q5, .ref q0, .ref q7, .ref q7, .ref h0]) rfl ?_
  refine kw_get C0 hK (j := 6) (v := .ref q6) rfl i_Tre (by decide) rfl wd_2_87 rfl ?_
  refine kw_call (n := 3) (As := [.ref q0, .ref q5, .ref q6]) (rest := [.ref q7, .ref h0]) C0 hK hA (k_Grw_init q7 q0 q5 q6) wd_2_7 wd_1_12 wd_2_5 wd_2_6 rfl (by decide +kernel) rfl ⟨by rw [hf]; decide, by rw [hlo]; decide⟩ (Nat.le_of_ble_eq_true rfl) (by omega) (by omega) rfl (fun x7 => ?_)
  refine kw_putF C0 hK hin2 (j := 7) (ty := .object "RuleTree$Grower") rfl i_Tre t_Tre_ok n_Tre (by decide) (Nat.le_of_ble_eq_true rfl) rfl rfl (by decide +kernel) rfl rfl wd_2_88 rfl ?_
  refine kw_go C0 1 (pc' := 113) (lv' := [(0, .ref h0)]) (st' := [.ref h0]) rfl ?_
  refine kw_new C0 hK hA (cj := 9) (gs := [.null, .null, .null, .null, .null, .int 0]) rfl i_Wlk t_Wlk_ok (fun j hj => by rcases (show j = 0 ∨ j = 1 ∨ j = 2 ∨ j = 3 ∨ j = 4 ∨ j = 5 by omega) with rfl | rfl | rfl | rfl | rfl | rfl <;> rfl) wd_2_27 wd_2_28 wd_1_13 (by omega) (by omega) rfl (fun q8 => ?_)
  refine kw_go C0 2 (pc' := 118) (lv' := [(0, .ref h0)]) (st' := [.ref h0, .ref q8, .ref q8, .ref h0]) rfl ?_
  refine kw_get C0 hK (j := 1) (v := .ref q1) rfl i_Tre (by decide) rfl wd_2_82 rfl ?_
  refine kw_go C0 1 (pc' := 122) (lv' := [(0, .ref h0)]) (st' := [.ref h0, .ref q1, .ref q8, .ref q8, .ref h0]) rfl ?_
  refine kw_get C0 hK (j := 5) (v := .ref q5) rfl i_Tre (by decide) rfl wd_2_86 rfl ?_
  refine kw_go C0 1 (pc' := 126) (lv' := [(0, .ref h0)]) (st' := [.ref h0, .ref q5, .ref q1, .ref q8, .ref q8, .ref h0]) rfl ?_
  refine kw_get C0 hK (j := 6) (v := .ref q6) rfl i_Tre (by decide) rfl wd_2_87 rfl ?_
  refine kw_call (n := 3) (As := [.ref q1, .ref q5, .ref q6]) (rest := [.ref q8, .ref h0]) C0 hK hA (k_Wlk_init q8 q1 q5 q6) wd_2_31 wd_1_13 wd_2_29 wd_2_30 rfl (by decide +kernel) rfl ⟨by rw [hf]; decide, by rw [hlo]; decide⟩ (Nat.le_of_ble_eq_true rfl) (by omega) (by omega) rfl (fun x8 => ?_)
  refine kw_putF C0 hK hin2 (j := 8) (ty := .object "RuleTree$Walker") rfl i_Tre t_Tre_ok n_Tre (by decide) (Nat.le_of_ble_eq_true rfl) rfl rfl (by decide +kernel) rfl rfl wd_2_89 rfl ?_
  refine kw_go C0 1 (pc' := 136) (lv' := [(0, .ref h0)]) (st' := [.ref h0]) rfl ?_
  refine kw_new C0 hK hA (cj := 10) (gs := [.null, .null, .null, .null, .null, .int 0]) rfl i_Gap t_Gap_ok (fun j hj => by rcases (show j = 0 ∨ j = 1 ∨ j = 2 ∨ j = 3 ∨ j = 4 ∨ j = 5 by omega) with rfl | rfl | rfl | rfl | rfl | rfl <;> rfl) wd_2_54 wd_2_55 wd_1_14 (by omega) (by omega) rfl (fun q9 => ?_)
  refine kw_go C0 2 (pc' := 141) (lv' := [(0, .ref h0)]) (st' := [.ref h0, .ref q9, .ref q9, .ref h0]) rfl ?_
  refine kw_get C0 hK (j := 0) (v := .ref q0) rfl i_Tre (by decide) rfl wd_2_81 rfl ?_
  refine kw_go C0 1 (pc' := 145) (lv' := [(0, .ref h0)]) (st' := [.ref h0, .ref q0, .ref q9, .ref q9, .ref h0]) rfl ?_
  refine kw_get C0 hK (j := 5) (v := .ref q5) rfl i_Tre (by decide) rfl wd_2_86 rfl ?_
  refine kw_go C0 1 (pc' := 149) (lv' := [(0, .ref h0)]) (st' := [.ref h0, .ref q5, .ref q0, .ref q9, .ref q9, .ref h0]) rfl ?_
  refine kw_get C0 hK (j := 6) (v := .ref q6) rfl i_Tre (by decide) rfl wd_2_87 rfl ?_
  refine kw_call (n := 3) (As := [.ref q0, .ref q5, .ref q6]) (rest := [.ref q9, .ref h0]) C0 hK hA (k_Gap_init q9 q0 q5 q6) wd_2_58 wd_1_14 wd_2_56 wd_2_57 rfl (by decide +kernel) rfl ⟨by rw [hf]; decide, by rw [hlo]; decide⟩ (Nat.le_of_ble_eq_true rfl) (by omega) (by omega) rfl (fun x9 => ?_)
  refine kw_putF C0 hK hin2 (j := 9) (ty := .object "RuleTree$Gap") rfl i_Tre t_Tre_ok n_Tre (by decide) (Nat.le_of_ble_eq_true rfl) rfl rfl (by decide +kernel) rfl rfl wd_2_90 rfl ?_
  refine kw_go C0 2 (pc' := 160) (lv' := [(0, .ref h0)]) (st' := [.int 0, .ref h0]) rfl ?_
  refine kw_put C0 hK (j := 10) (ty := .int) rfl i_Tre t_Tre_ok n_Tre (by decide) (Nat.le_of_ble_eq_true rfl) rfl (by decide +kernel) rfl rfl wd_2_91 rfl ?_
  refine kw_go C0 2 (pc' := 165) (lv' := [(0, .ref h0)]) (st' := [.int 0, .ref h0]) rfl ?_
  refine kw_put C0 hK (j := 11) (ty := .int) rfl i_Tre t_Tre_ok n_Tre (by decide) (Nat.le_of_ble_eq_true rfl) rfl (by decide +kernel) rfl rfl wd_2_92 rfl ?_
  exact kw_ret C0 (q0, x0, q1, x1, q2, x2, q3, x3, q4, x4, q5, x5, q6, x6, q7, x7, q8, x8, q9, x9) rfl rfl (by omega) (by omega) rfl
end KI
