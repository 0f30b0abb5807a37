-- THE LAW, on
section LAW
variable {p : Program} {l : Launch} {e : Env} {s : State} {m : MethodId} {below : List Frame} {meth : Method} {c : Code} {b L : Nat} {xs : Nat → Int32} {D : va_G} {cA : Nat → ClassId} {G B : Nat → Nat}
variable {S : zS} {M : zM} {pc : Nat} {lv : zLv} {st rest : List Value} {T : List zTr}
set_option maxHeartbeats 1000000 in
set_option maxRecDepth 20000 in
theorem lk_grow (C0 : lwC T p s m meth c b) (hK : va_K D zcl (ztys cA) s) (hX : va_X b L xs s s.heap) (hbl : b < s.heap.size) (hL : L ≤ 2048) {i n : Nat} (hi : i + 3 < L) (hn : n ≤ 600) (h : Rel n S M) (kn : ∀ S1 M1, Rel (n + 1) S1 M1 → LW p l e s m below meth c b D cA G B S1 M1 641 (lwl b G B i) []) : LW p l e s m below meth c b D cA G B S M 414 (lwl b G B i) [] := by
  obtain ⟨S1, M1, v, e1, e2, h1⟩ := K_grow hn h
  replace C0 := lw_re lw_Tk10 C0
  refine lw_go C0 1 (pc' := 415) (lv' := lwl b G B i) (st' := [.ref (G 0)]) rfl ?_
  refine lw_callT (As := []) (rest := []) (E' := (S1, some (.int v))) C0 hK yk_Tre_grow (c_Tre_grow S (S1, v) e1) wd_3_144 rfl rfl ⟨Nat.le_of_ble_eq_true rfl, Nat.le_of_ble_eq_true rfl⟩ (Nat.le_of_ble_eq_true rfl) (Rel_fit h1) ?_
  show LW p l e s m below meth c b D cA G B S1 M 418 (lwl b G B i) [.int v]
  refine lw_go C0 1 (pc' := 419) (lv' := lwl b G B i) (st' := [.ref (B 0), .int v]) rfl ?_
  refine lw_callM (As := []) (rest := [.int v]) (E' := (M1, some (.int v))) C0 hK yk_Mod_grow (fun A => c_Mod_grow M (M1, v) e2) wd_6_33 rfl rfl ⟨Nat.le_of_ble_eq_true rfl, Nat.le_of_ble_eq_true rfl⟩ (Nat.le_of_ble_eq_true rfl) (Rel_fit h1) ?_
  show LW p l e s m below meth c b D cA G B S1 M1 422 (lwl b G B i) [.int v, .int v]
  exact lw_eq C0 rfl (kn _ _ h1)
set_option maxHeartbeats 1000000 in
set_option maxRecDepth 20000 in
theorem lk_run (C0 : lwC T p s m meth c b) (hK : va_K D zcl (ztys cA) s) (hX : va_X b L xs s s.heap) (hbl : b < s.heap.size) (hL : L ≤ 2048) {i n : Nat} (hi : i + 3 < L) (hn : n ≤ 600) (h : Rel n S M) (kn : ∀ S1 M1, Rel (n + 1) S1 M1 → LW p l e s m below meth c b D cA G B S1 M1 641 (lwl b G B i) []) : LW p l e s m below meth c b D cA G B S M 427 (lwl b G B i) [] := by
  obtain ⟨S1, M1, v, e1, e2, h1⟩ := K_run hn h (xs (i + 1))
  replace C0 := lw_re lw_Tk11 C0
  refine lw_go C0 1 (pc' := 428) (lv' := lwl b G B i) (st' := [.ref (G 0)]) rfl ?_
  refine lw_go C0 4 (pc' := 432) (lv' := lwl b G B i) (st' := [.int (nI i + 1), .ref b, .ref (G 0)]) rfl ?_
  refine lw_ld C0 hX hbl (j := i + 1) (nI_add i 1) (by omega) hL rfl ?_
  refine lw_callT (As := [.int (xs (i + 1))]) (rest := []) (E' := (S1, some (.int v))) C0 hK yk_Tre_run (c_Tre_run S (xs (i + 1)) (S1, v) e1) wd_4_117 rfl rfl ⟨Nat.le_of_ble_eq_true rfl, Nat.le_of_ble_eq_true rfl⟩ (Nat.le_of_ble_eq_true rfl) (Rel_fit h1) ?_
  show LW p l e s m below meth c b D cA G B S1 M 436 (lwl b G B i) [.int v]
  refine lw_go C0 1 (pc' := 437) (lv' := lwl b G B i) (st' := [.ref (B 0), .int v]) rfl ?_
  refine lw_go C0 4 (pc' := 441) (lv' := lwl b G B i) (st' := [.int (nI i + 1), .ref b, .ref (B 0), .int v]) rfl ?_
  refine lw_ld C0 hX hbl (j := i + 1) (nI_add i 1) (by omega) hL rfl ?_
  refine lw_callM (As := [.int (xs (i + 1))]) (rest := [.int v]) (E' := (M1, some (.int v))) C0 hK yk_Mod_run (fun A => c_Mod_run M (xs (i + 1)) (M1, v) e2) wd_6_99 rfl rfl ⟨Nat.le_of_ble_eq_true rfl, Nat.le_of_ble_eq_true rfl⟩ (Nat.le_of_ble_eq_true rfl) (Rel_fit h1) ?_
  show LW p l e s m below meth c b D cA G B S1 M1 445 (lwl b G B i) [.int v, .int v]
  exact lw_eq C0 rfl (kn _ _ h1)
set_option maxHeartbeats 1000000 in
set_option maxRecDepth 20000 in
theorem lk_looks (C0 : lwC T p s m meth c b) (hK : va_K D zcl (ztys cA) s) (hX : va_X b L xs s s.heap) (hbl : b < s.heap.size) (hL : L ≤ 2048) {i n : Nat} (hi : i + 3 < L) (hn : n ≤ 600) (h : Rel n S M) (kn : ∀ S1 M1, Rel (n + 1) S1 M1 → LW p l e s m below meth c b D cA G B S1 M1 641 (lwl b G B i) []) : LW p l e s m below meth c b D cA G B S M 450 (lwl b G B i) [] := by
  obtain ⟨S1, M1, v, e1, e2, h1⟩ := K_looks hn h (xs (i + 1))
  replace C0 := lw_re lw_Tk12 C0
  refine lw_go C0 1 (pc' := 451) (lv' := lwl b G B i) (st' := [.ref (G 0)]) rfl ?_
  refine lw_go C0 4 (pc' := 455) (lv' := lwl b G B i) (st' := [.int (nI i + 1), .ref b, .ref (G 0)]) rfl ?_
  refine lw_ld C0 hX hbl (j := i + 1) (nI_add i 1) (by omega) hL rfl ?_
  refine lw_callT (As := [.int (xs (i + 1))]) (rest := []) (E' := (S1, some (.int v))) C0 hK yk_Tre_looks (c_Tre_looks S (xs (i + 1)) (S1, v) e1) wd_4_177 rfl rfl ⟨Nat.le_of_ble_eq_true rfl, Nat.le_of_ble_eq_true rfl⟩ (Nat.le_of_ble_eq_true rfl) (Rel_fit h1) ?_
  show LW p l e s m below meth c b D cA G B S1 M 459 (lwl b G B i) [.int v]
  refine lw_go C0 1 (pc' := 460) (lv' := lwl b G B i) (st' := [.ref (B 0), .int v]) rfl ?_
  refine lw_go C0 4 (pc' := 464) (lv' := lwl b G B i) (st' := [.int (nI i + 1), .ref b, .ref (B 0), .int v]) rfl ?_
  refine lw_ld C0 hX hbl (j := i + 1) (nI_add i 1) (by omega) hL rfl ?_
  refine lw_callM (As := [.int (xs (i + 1))]) (rest := [.int v]) (E' := (M1, some (.int v))) C0 hK yk_Mod_looks (fun A => c_Mod_looks M (xs (i + 1)) (M1, v) e2) wd_6_119 rfl rfl ⟨Nat.le_of_ble_eq_true rfl, Nat.le_of_ble_eq_true rfl⟩ (Nat.le_of_ble_eq_true rfl) (Rel_fit h1) ?_
  show LW p l e s m below meth c b D cA G B S1 M1 468 (lwl b G B i) [.int v, .int v]
  exact lw_eq C0 rfl (kn _ _ h1)
set_option maxHeartbeats 1000000 in
set_option maxRecDepth 20000 in
theorem lk_first (C0 : lwC T p s m meth c b) (hK : va_K D zcl (ztys cA) s) (hX : va_X b L xs s s.heap) (hbl : b < s.heap.size) (hL : L ≤ 2048) {i n : Nat} (hi : i + 3 < L) (hn : n ≤ 600) (h : Rel n S M) (kn : ∀ S1 M1, Rel (n + 1) S1 M1 → LW p l e s m below meth c b D cA G B S1 M1 641 (lwl b G B i) []) : LW p l e s m below meth c b D cA G B S M 473 (lwl b G B i) [] := by
  obtain ⟨S1, M1, v, e1, e2, h1⟩ := K_first hn h (xs (i + 1))
  replace C0 := lw_re lw_Tk13 C0
  refine lw_go C0 1 (pc' := 474) (lv' := lwl b G B i) (st' := [.ref (G 0)]) rfl ?_
  refine lw_go C0 4 (pc' := 478) (lv' := lwl b G B i) (st' := [.int (nI i + 1), .ref b, .ref (G 0)]) rfl ?_
  refine lw_ld C0 hX hbl (j := i + 1) (nI_add i 1) (by omega) hL rfl ?_
  refine lw_callT (As := [.int (xs (i + 1))]) (rest := []) (E' := (S1, some (.int v))) C0 hK yk_Tre_first (c_Tre_first S (xs (i + 1)) (S1, v) e1) wd_4_185 rfl rfl ⟨Nat.le_of_ble_eq_true rfl, Nat.le_of_ble_eq_true rfl⟩ (Nat.le_of_ble_eq_true rfl) (Rel_fit h1) ?_
  show LW p l e s m below meth c b D cA G B S1 M 482 (lwl b G B i) [.int v]
  refine lw_go C0 1 (pc' := 483) (lv' := lwl b G B i) (st' := [.ref (B 0), .int v]) rfl ?_
  refine lw_go C0 4 (pc' := 487) (lv' := lwl b G B i) (st' := [.int (nI i + 1), .ref b, .ref (B 0), .int v]) rfl ?_
  refine lw_ld C0 hX hbl (j := i + 1) (nI_add i 1) (by omega) hL rfl ?_
  refine lw_callM (As := [.int (xs (i + 1))]) (rest := [.int v]) (E' := (M1, some (.int v))) C0 hK yk_Mod_first (fun A => c_Mod_first M (xs (i + 1)) (M1, v) e2) wd_5_198 rfl rfl ⟨Nat.le_of_ble_eq_true rfl, Nat.le_of_ble_eq_true rfl⟩ (Nat.le_of_ble_eq_true rfl) (Rel_fit h1) ?_
  show LW p l e s m below meth c b D cA G B S1 M1 491 (lwl b G B i) [.int v, .int v]
  exact lw_eq C0 rfl (kn _ _ h1)
set_option maxHeartbeats 1000000 in
set_option maxRecDepth 20000 in
theorem lk_fits (C0 : lwC T p s m meth c b) (hK : va_K D zcl (ztys cA) s) (hX : va_X b L xs s s.heap) (hbl : b < s.heap.size) (hL : L ≤ 2048) {i n : Nat} (hi : i + 3 < L) (hn : n ≤ 600) (h : Rel n S M) (kn : ∀ S1 M1, Rel (n + 1) S1 M1 → LW p l e s m below meth c b D cA G B S1 M1 641 (lwl b G B i) []) : LW p l e s m below meth c b D cA G B S M 496 (lwl b G B i) [] := by
  obtain ⟨S1, M1, v, e1, e2, h1⟩ := K_fits hn h (xs (i + 1))
  replace C0 := lw_re lw_Tk14 C0
  refine lw_go C0 1 (pc' := 497) (lv' := lwl b G B i) (st' := [.ref (G 0)]) rfl ?_
  refine lw_go C0 4 (pc' := 501) (lv' := lwl b G B i) (st' := [.int (nI i + 1), .ref b, .ref (G 0)]) rfl ?_
  refine lw_ld C0 hX hbl (j := i + 1) (nI_add i 1) (by omega) hL rfl ?_
  refine lw_callT (As := [.int (xs (i + 1))]) (rest := []) (E' := (S1, some (.int v))) C0 hK yk_Tre_fits (c_Tre_fits S (xs (i + 1)) (S1, v) e1) wd_4_194 rfl rfl ⟨Nat.le_of_ble_eq_true rfl, Nat.le_of_ble_eq_true rfl⟩ (Nat.le_of_ble_eq_true rfl) (Rel_fit h1) ?_
  show LW p l e s m below meth c b D cA G B S1 M 505 (lwl b G B i) [.int v]
  refine lw_go C0 1 (pc' := 506) (lv' := lwl b G B i) (st' := [.ref (B 0), .int v]) rfl ?_
  refine lw_go C0 4 (pc' := 510) (lv' := lwl b G B i) (st' := [.int (nI i + 1), .ref b, .ref (B 0), .int v]) rfl ?_
  refine lw_ld C0 hX hbl (j := i + 1) (nI_add i 1) (by omega) hL rfl ?_
  refine lw_callM (As := [.int (xs (i + 1))]) (rest := [.int v]) (E' := (M1, some (.int v))) C0 hK yk_Mod_fits (fun A => c_Mod_fits M (xs (i + 1)) (M1, v) e2) wd_5_230 rfl rfl ⟨Nat.le_of_ble_eq_true rfl, Nat.le_of_ble_eq_true rfl⟩ (Nat.le_of_ble_eq_true rfl) (Rel_fit h1) ?_
  show LW p l e s m below meth c b D cA G B S1 M1 514 (lwl b G B i) [.int v, .int v]
  exact lw_eq C0 rfl (kn _ _ h1)
end LAW
