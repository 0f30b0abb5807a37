-- THE LAW, on
section LAW
variable {p : Program} {l : Launch} {e : Env} {s : State} {m : MethodId} {below : List Frame} {meth : Method} {c : Code} {b L : Nat} {xs : Nat → Int32} {D : va_G} {cA : Nat → ClassId} {G B : Nat → Nat}
variable {S : zS} {M : zM} {pc : Nat} {lv : zLv} {st rest : List Value} {T : List zTr}
set_option maxHeartbeats 1000000 in
set_option maxRecDepth 20000 in
theorem lk_ends (C0 : lwC T p s m meth c b) (hK : va_K D zcl (ztys cA) s) (hX : va_X b L xs s s.heap) (hbl : b < s.heap.size) (hL : L ≤ 2048) {i n : Nat} (hi : i + 3 < L) (hn : n ≤ 600) (h : Rel n S M) (kn : ∀ S1 M1, Rel (n + 1) S1 M1 → LW p l e s m below meth c b D cA G B S1 M1 641 (lwl b G B i) []) : LW p l e s m below meth c b D cA G B S M 519 (lwl b G B i) [] := by
  obtain ⟨v, e1, e2⟩ := K_ends hn h (xs (i + 1))
  replace C0 := lw_re lw_Tk15 C0
  refine lw_go C0 1 (pc' := 520) (lv' := lwl b G B i) (st' := [.ref (G 0)]) rfl ?_
  refine lw_go C0 4 (pc' := 524) (lv' := lwl b G B i) (st' := [.int (nI i + 1), .ref b, .ref (G 0)]) rfl ?_
  refine lw_ld C0 hX hbl (j := i + 1) (nI_add i 1) (by omega) hL rfl ?_
  refine lw_callT (As := [.int (xs (i + 1))]) (rest := []) (E' := (S, some (.int v))) C0 hK yk_Tre_ends (c_Tre_ends S (xs (i + 1)) v e1) wd_4_198 rfl rfl ⟨Nat.le_of_ble_eq_true rfl, Nat.le_of_ble_eq_true rfl⟩ (Nat.le_of_ble_eq_true rfl) (Rel_fit h) ?_
  show LW p l e s m below meth c b D cA G B S M 528 (lwl b G B i) [.int v]
  refine lw_go C0 1 (pc' := 529) (lv' := lwl b G B i) (st' := [.ref (B 0), .int v]) rfl ?_
  refine lw_go C0 4 (pc' := 533) (lv' := lwl b G B i) (st' := [.int (nI i + 1), .ref b, .ref (B 0), .int v]) rfl ?_
  refine lw_ld C0 hX hbl (j := i + 1) (nI_add i 1) (by omega) hL rfl ?_
  refine lw_callM (As := [.int (xs (i + 1))]) (rest := [.int v]) (E' := (M, some (.int v))) C0 hK yk_Mod_ends (fun A => c_Mod_ends M (xs (i + 1)) v e2) wd_6_123 rfl rfl ⟨Nat.le_of_ble_eq_true rfl, Nat.le_of_ble_eq_true rfl⟩ (Nat.le_of_ble_eq_true rfl) (Rel_fit h) ?_
  show LW p l e s m below meth c b D cA G B S M 537 (lwl b G B i) [.int v, .int v]
  exact lw_eq C0 rfl (kn _ _ (Rel_mono h))
set_option maxHeartbeats 1000000 in
set_option maxRecDepth 20000 in
theorem lk_depth (C0 : lwC T p s m meth c b) (hK : va_K D zcl (ztys cA) s) (hX : va_X b L xs s s.heap) (hbl : b < s.heap.size) (hL : L ≤ 2048) {i n : Nat} (hi : i + 3 < L) (hn : n ≤ 600) (h : Rel n S M) (kn : ∀ S1 M1, Rel (n + 1) S1 M1 → LW p l e s m below meth c b D cA G B S1 M1 641 (lwl b G B i) []) : LW p l e s m below meth c b D cA G B S M 542 (lwl b G B i) [] := by
  obtain ⟨v, e1, e2⟩ := K_depth hn h
  replace C0 := lw_re lw_Tk16 C0
  refine lw_go C0 1 (pc' := 543) (lv' := lwl b G B i) (st' := [.ref (G 0)]) rfl ?_
  refine lw_callT (As := []) (rest := []) (E' := (S, some (.int v))) C0 hK yk_Tre_depth (c_Tre_depth S v e1) wd_4_206 rfl rfl ⟨Nat.le_of_ble_eq_true rfl, Nat.le_of_ble_eq_true rfl⟩ (Nat.le_of_ble_eq_true rfl) (Rel_fit h) ?_
  show LW p l e s m below meth c b D cA G B S M 546 (lwl b G B i) [.int v]
  refine lw_go C0 1 (pc' := 547) (lv' := lwl b G B i) (st' := [.ref (B 0), .int v]) rfl ?_
  refine lw_callM (As := []) (rest := [.int v]) (E' := (M, some (.int v))) C0 hK yk_Mod_depth (fun A => by have := c_Mod_depth (l := l) (D := D) (cA := cA) (B := B) (A := A) M; rw [e2] at this; exact this) wd_6_127 rfl rfl ⟨Nat.le_of_ble_eq_true rfl, Nat.le_of_ble_eq_true rfl⟩ (Nat.le_of_ble_eq_true rfl) (Rel_fit h) ?_
  show LW p l e s m below meth c b D cA G B S M 550 (lwl b G B i) [.int v, .int v]
  exact lw_eq C0 rfl (kn _ _ (Rel_mono h))
set_option maxHeartbeats 1000000 in
set_option maxRecDepth 20000 in
theorem lk_missing (C0 : lwC T p s m meth c b) (hK : va_K D zcl (ztys cA) s) (hX : va_X b L xs s s.heap) (hbl : b < s.heap.size) (hL : L ≤ 2048) {i n : Nat} (hi : i + 3 < L) (hn : n ≤ 600) (h : Rel n S M) (kn : ∀ S1 M1, Rel (n + 1) S1 M1 → LW p l e s m below meth c b D cA G B S1 M1 641 (lwl b G B i) []) : LW p l e s m below meth c b D cA G B S M 555 (lwl b G B i) [] := by
  obtain ⟨v, e1, e2⟩ := K_missing hn h (z_lshl (xs (i + 1)).toInt64 32 ||| ((xs (i + 2)).toInt64 &&& 4294967295)) (xs (i + 3))
  replace C0 := lw_re lw_Tk17 C0
  refine lw_go C0 1 (pc' := 556) (lv' := lwl b G B i) (st' := [.ref (G 0)]) rfl ?_
  refine lw_go C0 4 (pc' := 560) (lv' := lwl b G B i) (st' := [.int (nI i + 1), .ref b, .ref (G 0)]) rfl ?_
  refine lw_ld C0 hX hbl (j := i + 1) (nI_add i 1) (by omega) hL rfl ?_
  refine lw_go C0 3 (pc' := 565) (lv' := lwl b G B i) (st' := [.long (z_lshl (xs (i + 1)).toInt64 32), .ref (G 0)]) rfl ?_
  refine lw_go C0 4 (pc' := 569) (lv' := lwl b G B i) (st' := [.int (nI i + 2), .ref b, .long (z_lshl (xs (i + 1)).toInt64 32), .ref (G 0)]) rfl ?_
  refine lw_ld C0 hX hbl (j := i + 2) (nI_add i 2) (by omega) hL rfl ?_
  refine lw_go C0 1 (pc' := 571) (lv' := lwl b G B i) (st' := [.long ((xs (i + 2)).toInt64), .long (z_lshl (xs (i + 1)).toInt64 32), .ref (G 0)]) rfl ?_
  refine lw_ldc2 C0 wd_6_160 rfl ?_
  refine lw_go C0 2 (pc' := 576) (lv' := lwl b G B i) (st' := [.long (z_lshl (xs (i + 1)).toInt64 32 ||| ((xs (i + 2)).toInt64 &&& 4294967295)), .ref (G 0)]) rfl ?_
  refine lw_go C0 4 (pc' := 580) (lv' := lwl b G B i) (st' := [.int (nI i + 3), .ref b, .long (z_lshl (xs (i + 1)).toInt64 32 ||| ((xs (i + 2)).toInt64 &&& 4294967295)), .ref (G 0)]) rfl ?_
  refine lw_ld C0 hX hbl (j := i + 3) (nI_add i 3) (by omega) hL rfl ?_
  refine lw_callT (As := [.long (z_lshl (xs (i + 1)).toInt64 32 ||| ((xs (i + 2)).toInt64 &&& 4294967295)), .int (xs (i + 3))]) (rest := []) (E' := (S, some (.int v))) C0 hK yk_Tre_missing (c_Tre_missing S (z_lshl (xs (i + 1)).toInt64 32 ||| ((xs (i + 2)).toInt64 &&& 4294967295)) (xs (i + 3)) v e1) wd_4_215 rfl rfl ⟨Nat.le_of_ble_eq_true rfl, Nat.le_of_ble_eq_true rfl⟩ (Nat.le_of_ble_eq_true rfl) (Rel_fit h) ?_
  show LW p l e s m below meth c b D cA G B S M 584 (lwl b G B i) [.int v]
  refine lw_go C0 1 (pc' := 585) (lv' := lwl b G B i) (st' := [.ref (B 0), .int v]) rfl ?_
  refine lw_go C0 4 (pc' := 589) (lv' := lwl b G B i) (st' := [.int (nI i + 1), .ref b, .ref (B 0), .int v]) rfl ?_
  refine lw_ld C0 hX hbl (j := i + 1) (nI_add i 1) (by omega) hL rfl ?_
  refine lw_go C0 3 (pc' := 594) (lv' := lwl b G B i) (st' := [.long (z_lshl (xs (i + 1)).toInt64 32), .ref (B 0), .int v]) rfl ?_
  refine lw_go C0 4 (pc' := 598) (lv' := lwl b G B i) (st' := [.int (nI i + 2), .ref b, .long (z_lshl (xs (i + 1)).toInt64 32), .ref (B 0), .int v]) rfl ?_
  refine lw_ld C0 hX hbl (j := i + 2) (nI_add i 2) (by omega) hL rfl ?_
  refine lw_go C0 1 (pc' := 600) (lv' := lwl b G B i) (st' := [.long ((xs (i + 2)).toInt64), .long (z_lshl (xs (i + 1)).toInt64 32), .ref (B 0), .int v]) rfl ?_
  refine lw_ldc2 C0 wd_6_160 rfl ?_
  refine lw_go C0 2 (pc' := 605) (lv' := lwl b G B i) (st' := [.long (z_lshl (xs (i + 1)).toInt64 32 ||| ((xs (i + 2)).toInt64 &&& 4294967295)), .ref (B 0), .int v]) rfl ?_
  refine lw_go C0 4 (pc' := 609) (lv' := lwl b G B i) (st' := [.int (nI i + 3), .ref b, .long (z_lshl (xs (i + 1)).toInt64 32 ||| ((xs (i + 2)).toInt64 &&& 4294967295)), .ref (B 0), .int v]) rfl ?_
  refine lw_ld C0 hX hbl (j := i + 3) (nI_add i 3) (by omega) hL rfl ?_
  refine lw_callM (As := [.long (z_lshl (xs (i + 1)).toInt64 32 ||| ((xs (i + 2)).toInt64 &&& 4294967295)), .int (xs (i + 3))]) (rest := [.int v]) (E' := (M, some (.int v))) C0 hK yk_Mod_missing (fun A => c_Mod_missing M (z_lshl (xs (i + 1)).toInt64 32 ||| ((xs (i + 2)).toInt64 &&& 4294967295)) (xs (i + 3)) v e2) wd_6_131 rfl rfl ⟨Nat.le_of_ble_eq_true rfl, Nat.le_of_ble_eq_true rfl⟩ (Nat.le_of_ble_eq_true rfl) (Rel_fit h) ?_
  show LW p l e s m below meth c b D cA G B S M 613 (lwl b G B i) [.int v, .int v]
  exact lw_eq C0 rfl (kn _ _ (Rel_mono h))
set_option maxHeartbeats 1000000 in
set_option maxRecDepth 20000 in
theorem lk_count (C0 : lwC T p s m meth c b) (hK : va_K D zcl (ztys cA) s) (hX : va_X b L xs s s.heap) (hbl : b < s.heap.size) (hL : L ≤ 2048) {i n : Nat} (hi : i + 3 < L) (hn : n ≤ 600) (h : Rel n S M) (kn : ∀ S1 M1, Rel (n + 1) S1 M1 → LW p l e s m below meth c b D cA G B S1 M1 641 (lwl b G B i) []) : LW p l e s m below meth c b D cA G B S M 618 (lwl b G B i) [] := by
  have e1 := K_count h (xs (i + 1))
  replace C0 := lw_re lw_Tk18 C0
  refine lw_go C0 1 (pc' := 619) (lv' := lwl b G B i) (st' := [.ref (G 0)]) rfl ?_
  refine lw_go C0 4 (pc' := 623) (lv' := lwl b G B i) (st' := [.int (nI i + 1), .ref b, .ref (G 0)]) rfl ?_
  refine lw_ld C0 hX hbl (j := i + 1) (nI_add i 1) (by omega) hL rfl ?_
  refine lw_callT (As := [.int (xs (i + 1))]) (rest := []) (E' := (S, some (.int (f_Tre_count S (xs (i + 1)))))) C0 hK yk_Tre_count (c_Tre_count S (xs (i + 1))) wd_5_4 rfl rfl ⟨Nat.le_of_ble_eq_true rfl, Nat.le_of_ble_eq_true rfl⟩ (Nat.le_of_ble_eq_true rfl) (Rel_fit h) ?_
  show LW p l e s m below meth c b D cA G B S M 627 (lwl b G B i) [.int (f_Tre_count S (xs (i + 1)))]
  refine lw_go C0 1 (pc' := 628) (lv' := lwl b G B i) (st' := [.ref (B 0), .int (f_Tre_count S (xs (i + 1)))]) rfl ?_
  refine lw_go C0 4 (pc' := 632) (lv' := lwl b G B i) (st' := [.int (nI i + 1), .ref b, .ref (B 0), .int (f_Tre_count S (xs (i + 1)))]) rfl ?_
  refine lw_ld C0 hX hbl (j := i + 1) (nI_add i 1) (by omega) hL rfl ?_
  refine lw_callM (As := [.int (xs (i + 1))]) (rest := [.int (f_Tre_count S (xs (i + 1)))]) (E' := (M, some (.int (f_Tre_count S (xs (i + 1)))))) C0 hK yk_Mod_count (fun A => by have := c_Mod_count (l := l) (D := D) (cA := cA) (B := B) (A := A) M (xs (i + 1)); rw [← e1] at this; exact this) wd_6_156 rfl rfl ⟨Nat.le_of_ble_eq_true rfl, Nat.le_of_ble_eq_true rfl⟩ (Nat.le_of_ble_eq_true rfl) (Rel_fit h) ?_
  show LW p l e s m below meth c b D cA G B S M 636 (lwl b G B i) [.int (f_Tre_count S (xs (i + 1))), .int (f_Tre_count S (xs (i + 1)))]
  exact lw_eq C0 rfl (kn _ _ (Rel_mono h))
end LAW
