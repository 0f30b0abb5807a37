-- THE LAW, on
section LAW
variable {p : Program} {l : Launch} {e : Env} {s : State} {m : MethodId} {below : List Frame} {meth : Method} {c : Code} {b L : Nat} {xs : Nat → Int32} {D : va_G} {cA : Nat → ClassId} {G B : Nat → Nat}
variable {S : zS} {M : zM} {pc : Nat} {lv : zLv} {st rest : List Value} {T : List zTr}
set_option maxHeartbeats 1000000 in
set_option maxRecDepth 20000 in
theorem lk_push (C0 : lwC T p s m meth c b) (hK : va_K D zcl (ztys cA) s) (hX : va_X b L xs s s.heap) (hbl : b < s.heap.size) (hL : L ≤ 2048) {i n : Nat} (hi : i + 3 < L) (hn : n ≤ 600) (h : Rel n S M) (kn : ∀ S1 M1, Rel (n + 1) S1 M1 → LW p l e s m below meth c b D cA G B S1 M1 641 (lwl b G B i) []) : LW p l e s m below meth c b D cA G B S M 309 (lwl b G B i) [] := by
  obtain ⟨S1, M1, v, e1, e2, h1⟩ := K_push hn h (xs (i + 1)) (xs (i + 2))
  replace C0 := lw_re lw_Tk5 C0
  refine lw_go C0 1 (pc' := 310) (lv' := lwl b G B i) (st' := [.ref (G 0)]) rfl ?_
  refine lw_go C0 4 (pc' := 314) (lv' := lwl b G B i) (st' := [.int (nI i + 1), .ref b, .ref (G 0)]) rfl ?_
  refine lw_ld C0 hX hbl (j := i + 1) (nI_add i 1) (by omega) hL rfl ?_
  refine lw_go C0 4 (pc' := 319) (lv' := lwl b G B i) (st' := [.int (nI i + 2), .ref b, .int (xs (i + 1)), .ref (G 0)]) rfl ?_
  refine lw_ld C0 hX hbl (j := i + 2) (nI_add i 2) (by omega) hL rfl ?_
  refine lw_callT (As := [.int (xs (i + 1)), .int (xs (i + 2))]) (rest := []) (E' := (S1, some (.int v))) C0 hK yk_Tre_push (by have := c_Tre_push (l := l) (D := D) (cA := cA) (G := G) (A := lwA s B) S (xs (i + 1)) (xs (i + 2)); rw [e1] at this; exact this) wd_2_179 rfl rfl ⟨Nat.le_of_ble_eq_true rfl, Nat.le_of_ble_eq_true rfl⟩ (Nat.le_of_ble_eq_true rfl) (Rel_fit h1) ?_
  show LW p l e s m below meth c b D cA G B S1 M 323 (lwl b G B i) [.int v]
  refine lw_go C0 1 (pc' := 324) (lv' := lwl b G B i) (st' := [.ref (B 0), .int v]) rfl ?_
  refine lw_go C0 4 (pc' := 328) (lv' := lwl b G B i) (st' := [.int (nI i + 1), .ref b, .ref (B 0), .int v]) rfl ?_
  refine lw_ld C0 hX hbl (j := i + 1) (nI_add i 1) (by omega) hL rfl ?_
  refine lw_go C0 4 (pc' := 333) (lv' := lwl b G B i) (st' := [.int (nI i + 2), .ref b, .int (xs (i + 1)), .ref (B 0), .int v]) rfl ?_
  refine lw_ld C0 hX hbl (j := i + 2) (nI_add i 2) (by omega) hL rfl ?_
  refine lw_callM (As := [.int (xs (i + 1)), .int (xs (i + 2))]) (rest := [.int v]) (E' := (M1, some (.int v))) C0 hK yk_Mod_push (fun A => c_Mod_push M (xs (i + 1)) (xs (i + 2)) (M1, v) e2) wd_5_190 rfl rfl ⟨Nat.le_of_ble_eq_true rfl, Nat.le_of_ble_eq_true rfl⟩ (Nat.le_of_ble_eq_true rfl) (Rel_fit h1) ?_
  show LW p l e s m below meth c b D cA G B S1 M1 337 (lwl b G B i) [.int v, .int v]
  exact lw_eq C0 rfl (kn _ _ h1)
set_option maxHeartbeats 1000000 in
set_option maxRecDepth 20000 in
theorem lk_record (C0 : lwC T p s m meth c b) (hK : va_K D zcl (ztys cA) s) (hX : va_X b L xs s s.heap) (hbl : b < s.heap.size) (hL : L ≤ 2048) {i n : Nat} (hi : i + 3 < L) (hn : n ≤ 600) (h : Rel n S M) (kn : ∀ S1 M1, Rel (n + 1) S1 M1 → LW p l e s m below meth c b D cA G B S1 M1 641 (lwl b G B i) []) : LW p l e s m below meth c b D cA G B S M 342 (lwl b G B i) [] := by
  obtain ⟨S1, M1, v, e1, e2, h1⟩ := K_record hn h (xs (i + 1))
  replace C0 := lw_re lw_Tk6 C0
  refine lw_go C0 1 (pc' := 343) (lv' := lwl b G B i) (st' := [.ref (G 0)]) rfl ?_
  refine lw_go C0 4 (pc' := 347) (lv' := lwl b G B i) (st' := [.int (nI i + 1), .ref b, .ref (G 0)]) rfl ?_
  refine lw_ld C0 hX hbl (j := i + 1) (nI_add i 1) (by omega) hL rfl ?_
  refine lw_callT (As := [.int (xs (i + 1))]) (rest := []) (E' := (S1, some (.int v))) C0 hK yk_Tre_record (c_Tre_record S (xs (i + 1)) (S1, v) e1) wd_2_200 rfl rfl ⟨Nat.le_of_ble_eq_true rfl, Nat.le_of_ble_eq_true rfl⟩ (Nat.le_of_ble_eq_true rfl) (Rel_fit h1) ?_
  show LW p l e s m below meth c b D cA G B S1 M 351 (lwl b G B i) [.int v]
  refine lw_go C0 1 (pc' := 352) (lv' := lwl b G B i) (st' := [.ref (B 0), .int v]) rfl ?_
  refine lw_go C0 4 (pc' := 356) (lv' := lwl b G B i) (st' := [.int (nI i + 1), .ref b, .ref (B 0), .int v]) rfl ?_
  refine lw_ld C0 hX hbl (j := i + 1) (nI_add i 1) (by omega) hL rfl ?_
  refine lw_callM (As := [.int (xs (i + 1))]) (rest := [.int v]) (E' := (M1, some (.int v))) C0 hK yk_Mod_record (fun A => c_Mod_record M (xs (i + 1)) (M1, v) e2) wd_5_194 rfl rfl ⟨Nat.le_of_ble_eq_true rfl, Nat.le_of_ble_eq_true rfl⟩ (Nat.le_of_ble_eq_true rfl) (Rel_fit h1) ?_
  show LW p l e s m below meth c b D cA G B S1 M1 360 (lwl b G B i) [.int v, .int v]
  exact lw_eq C0 rfl (kn _ _ h1)
set_option maxHeartbeats 1000000 in
set_option maxRecDepth 20000 in
theorem lk_rule (C0 : lwC T p s m meth c b) (hK : va_K D zcl (ztys cA) s) (hX : va_X b L xs s s.heap) (hbl : b < s.heap.size) (hL : L ≤ 2048) {i n : Nat} (hi : i + 3 < L) (hn : n ≤ 600) (h : Rel n S M) (kn : ∀ S1 M1, Rel (n + 1) S1 M1 → LW p l e s m below meth c b D cA G B S1 M1 641 (lwl b G B i) []) : LW p l e s m below meth c b D cA G B S M 365 (lwl b G B i) [] := by
  obtain ⟨S1, M1, v, e1, e2, h1⟩ := K_rule hn h (xs (i + 1))
  replace C0 := lw_re lw_Tk7 C0
  refine lw_go C0 1 (pc' := 366) (lv' := lwl b G B i) (st' := [.ref (G 0)]) rfl ?_
  refine lw_go C0 4 (pc' := 370) (lv' := lwl b G B i) (st' := [.int (nI i + 1), .ref b, .ref (G 0)]) rfl ?_
  refine lw_ld C0 hX hbl (j := i + 1) (nI_add i 1) (by omega) hL rfl ?_
  refine lw_callT (As := [.int (xs (i + 1))]) (rest := []) (E' := (S1, some (.int v))) C0 hK yk_Tre_rule (c_Tre_rule S (xs (i + 1)) (S1, v) e1) wd_2_230 rfl rfl ⟨Nat.le_of_ble_eq_true rfl, Nat.le_of_ble_eq_true rfl⟩ (Nat.le_of_ble_eq_true rfl) (Rel_fit h1) ?_
  show LW p l e s m below meth c b D cA G B S1 M 374 (lwl b G B i) [.int v]
  refine lw_go C0 1 (pc' := 375) (lv' := lwl b G B i) (st' := [.ref (B 0), .int v]) rfl ?_
  refine lw_go C0 4 (pc' := 379) (lv' := lwl b G B i) (st' := [.int (nI i + 1), .ref b, .ref (B 0), .int v]) rfl ?_
  refine lw_ld C0 hX hbl (j := i + 1) (nI_add i 1) (by omega) hL rfl ?_
  refine lw_callM (As := [.int (xs (i + 1))]) (rest := [.int v]) (E' := (M1, some (.int v))) C0 hK yk_Mod_rule (fun A => c_Mod_rule M (xs (i + 1)) (M1, v) e2) wd_5_238 rfl rfl ⟨Nat.le_of_ble_eq_true rfl, Nat.le_of_ble_eq_true rfl⟩ (Nat.le_of_ble_eq_true rfl) (Rel_fit h1) ?_
  show LW p l e s m below meth c b D cA G B S1 M1 383 (lwl b G B i) [.int v, .int v]
  exact lw_eq C0 rfl (kn _ _ h1)
set_option maxHeartbeats 1000000 in
set_option maxRecDepth 20000 in
theorem lk_clear (C0 : lwC T p s m meth c b) (hK : va_K D zcl (ztys cA) s) (hX : va_X b L xs s s.heap) (hbl : b < s.heap.size) (hL : L ≤ 2048) {i n : Nat} (hi : i + 3 < L) (hn : n ≤ 600) (h : Rel n S M) (kn : ∀ S1 M1, Rel (n + 1) S1 M1 → LW p l e s m below meth c b D cA G B S1 M1 641 (lwl b G B i) []) : LW p l e s m below meth c b D cA G B S M 388 (lwl b G B i) [] := by
  obtain ⟨S1, M1, v, e1, e2, h1⟩ := K_clear h
  replace C0 := lw_re lw_Tk8 C0
  refine lw_go C0 1 (pc' := 389) (lv' := lwl b G B i) (st' := [.ref (G 0)]) rfl ?_
  refine lw_callT (As := []) (rest := []) (E' := (S1, some (.int v))) C0 hK yk_Tre_clear (by have := c_Tre_clear (l := l) (D := D) (cA := cA) (G := G) (A := lwA s B) S; rw [e1] at this; exact this) wd_3_113 rfl rfl ⟨Nat.le_of_ble_eq_true rfl, Nat.le_of_ble_eq_true rfl⟩ (Nat.le_of_ble_eq_true rfl) (Rel_fit h1) ?_
  show LW p l e s m below meth c b D cA G B S1 M 392 (lwl b G B i) [.int v]
  refine lw_go C0 1 (pc' := 393) (lv' := lwl b G B i) (st' := [.ref (B 0), .int v]) rfl ?_
  refine lw_callM (As := []) (rest := [.int v]) (E' := (M1, some (.int v))) C0 hK yk_Mod_clear (fun A => c_Mod_clear M (M1, v) e2) wd_6_32 rfl rfl ⟨Nat.le_of_ble_eq_true rfl, Nat.le_of_ble_eq_true rfl⟩ (Nat.le_of_ble_eq_true rfl) (Rel_fit h1) ?_
  show LW p l e s m below meth c b D cA G B S1 M1 396 (lwl b G B i) [.int v, .int v]
  exact lw_eq C0 rfl (kn _ _ h1)
set_option maxHeartbeats 1000000 in
set_option maxRecDepth 20000 in
theorem lk_forget (C0 : lwC T p s m meth c b) (hK : va_K D zcl (ztys cA) s) (hX : va_X b L xs s s.heap) (hbl : b < s.heap.size) (hL : L ≤ 2048) {i n : Nat} (hi : i + 3 < L) (hn : n ≤ 600) (h : Rel n S M) (kn : ∀ S1 M1, Rel (n + 1) S1 M1 → LW p l e s m below meth c b D cA G B S1 M1 641 (lwl b G B i) []) : LW p l e s m below meth c b D cA G B S M 401 (lwl b G B i) [] := by
  obtain ⟨S1, M1, v, e1, e2, h1⟩ := K_forget h
  replace C0 := lw_re lw_Tk9 C0
  refine lw_go C0 1 (pc' := 402) (lv' := lwl b G B i) (st' := [.ref (G 0)]) rfl ?_
  refine lw_callT (As := []) (rest := []) (E' := (S1, some (.int v))) C0 hK yk_Tre_forget (by have := c_Tre_forget (l := l) (D := D) (cA := cA) (G := G) (A := lwA s B) S; rw [e1] at this; exact this) wd_3_126 rfl rfl ⟨Nat.le_of_ble_eq_true rfl, Nat.le_of_ble_eq_true rfl⟩ (Nat.le_of_ble_eq_true rfl) (Rel_fit h1) ?_
  show LW p l e s m below meth c b D cA G B S1 M 405 (lwl b G B i) [.int v]
  refine lw_go C0 1 (pc' := 406) (lv' := lwl b G B i) (st' := [.ref (B 0), .int v]) rfl ?_
  refine lw_callM (As := []) (rest := [.int v]) (E' := (M1, some (.int v))) C0 hK yk_Mod_forget (fun A => c_Mod_forget M (M1, v) e2) wd_6_24 rfl rfl ⟨Nat.le_of_ble_eq_true rfl, Nat.le_of_ble_eq_true rfl⟩ (Nat.le_of_ble_eq_true rfl) (Rel_fit h1) ?_
  show LW p l e s m below meth c b D cA G B S1 M1 409 (lwl b G B i) [.int v, .int v]
  exact lw_eq C0 rfl (kn _ _ h1)
end LAW
