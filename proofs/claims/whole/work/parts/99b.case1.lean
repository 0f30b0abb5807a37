-- THE LAW, on
section LAW
variable {p : Program} {l : Launch} {e : Env} {s : State} {m : MethodId} {below : List Frame} {meth : Method} {c : Code} {b L : Nat} {xs : Nat → Int32} {D : va_G} {cA : Nat → ClassId} {G B : Nat → Nat}
variable {S : zS} {M : zM} {pc : Nat} {lv : zLv} {st rest : List Value} {T : List zTr}
set_option maxHeartbeats 1000000 in
set_option maxRecDepth 20000 in
theorem lk_family (C0 : lwC T p s m meth c b) (hK : va_K D zcl (ztys cA) s) (hX : va_X b L xs s s.heap) (hbl : b < s.heap.size) (hL : L ≤ 2048) {i n : Nat} (hi : i + 3 < L) (hn : n ≤ 600) (h : Rel n S M) (kn : ∀ S1 M1, Rel (n + 1) S1 M1 → LW p l e s m below meth c b D cA G B S1 M1 641 (lwl b G B i) []) : LW p l e s m below meth c b D cA G B S M 124 (lwl b G B i) [] := by
  obtain ⟨S1, M1, v, e1, e2, h1⟩ := K_family hn h (xs (i + 1)) (z_lshl (xs (i + 2)).toInt64 32 ||| ((xs (i + 3)).toInt64 &&& 4294967295))
  replace C0 := lw_re lw_Tk0 C0
  refine lw_go C0 1 (pc' := 125) (lv' := lwl b G B i) (st' := [.ref (G 0)]) rfl ?_
  refine lw_go C0 4 (pc' := 129) (lv' := lwl b G B i) (st' := [.int (nI i + 1), .ref b, .ref (G 0)]) rfl ?_
  refine lw_ld C0 hX hbl (j := i + 1) (nI_add i 1) (by omega) hL rfl ?_
  refine lw_go C0 4 (pc' := 134) (lv' := lwl b G B i) (st' := [.int (nI i + 2), .ref b, .int (xs (i + 1)), .ref (G 0)]) rfl ?_
  refine lw_ld C0 hX hbl (j := i + 2) (nI_add i 2) (by omega) hL rfl ?_
  refine lw_go C0 3 (pc' := 139) (lv' := lwl b G B i) (st' := [.long (z_lshl (xs (i + 2)).toInt64 32), .int (xs (i + 1)), .ref (G 0)]) rfl ?_
  refine lw_go C0 4 (pc' := 143) (lv' := lwl b G B i) (st' := [.int (nI i + 3), .ref b, .long (z_lshl (xs (i + 2)).toInt64 32), .int (xs (i + 1)), .ref (G 0)]) rfl ?_
  refine lw_ld C0 hX hbl (j := i + 3) (nI_add i 3) (by omega) hL rfl ?_
  refine lw_go C0 1 (pc' := 145) (lv' := lwl b G B i) (st' := [.long ((xs (i + 3)).toInt64), .long (z_lshl (xs (i + 2)).toInt64 32), .int (xs (i + 1)), .ref (G 0)]) rfl ?_
  refine lw_ldc2 C0 wd_6_160 rfl ?_
  refine lw_go C0 2 (pc' := 150) (lv' := lwl b G B i) (st' := [.long (z_lshl (xs (i + 2)).toInt64 32 ||| ((xs (i + 3)).toInt64 &&& 4294967295)), .int (xs (i + 1)), .ref (G 0)]) rfl ?_
  refine lw_callT (As := [.int (xs (i + 1)), .long (z_lshl (xs (i + 2)).toInt64 32 ||| ((xs (i + 3)).toInt64 &&& 4294967295))]) (rest := []) (E' := (S1, some (.int v))) C0 hK yk_Tre_family (by have := c_Tre_family (l := l) (D := D) (cA := cA) (G := G) (A := lwA s B) S (xs (i + 1)) (z_lshl (xs (i + 2)).toInt64 32 ||| ((xs (i + 3)).toInt64 &&& 4294967295)); rw [e1] at this; exact this) wd_2_118 rfl rfl ⟨Nat.le_of_ble_eq_true rfl, Nat.le_of_ble_eq_true rfl⟩ (Nat.le_of_ble_eq_true rfl) (Rel_fit h1) ?_
  show LW p l e s m below meth c b D cA G B S1 M 153 (lwl b G B i) [.int v]
  refine lw_go C0 1 (pc' := 154) (lv' := lwl b G B i) (st' := [.ref (B 0), .int v]) rfl ?_
  refine lw_go C0 4 (pc' := 158) (lv' := lwl b G B i) (st' := [.int (nI i + 1), .ref b, .ref (B 0), .int v]) rfl ?_
  refine lw_ld C0 hX hbl (j := i + 1) (nI_add i 1) (by omega) hL rfl ?_
  refine lw_go C0 4 (pc' := 163) (lv' := lwl b G B i) (st' := [.int (nI i + 2), .ref b, .int (xs (i + 1)), .ref (B 0), .int v]) rfl ?_
  refine lw_ld C0 hX hbl (j := i + 2) (nI_add i 2) (by omega) hL rfl ?_
  refine lw_go C0 3 (pc' := 168) (lv' := lwl b G B i) (st' := [.long (z_lshl (xs (i + 2)).toInt64 32), .int (xs (i + 1)), .ref (B 0), .int v]) rfl ?_
  refine lw_go C0 4 (pc' := 172) (lv' := lwl b G B i) (st' := [.int (nI i + 3), .ref b, .long (z_lshl (xs (i + 2)).toInt64 32), .int (xs (i + 1)), .ref (B 0), .int v]) rfl ?_
  refine lw_ld C0 hX hbl (j := i + 3) (nI_add i 3) (by omega) hL rfl ?_
  refine lw_go C0 1 (pc' := 174) (lv' := lwl b G B i) (st' := [.long ((xs (i + 3)).toInt64), .long (z_lshl (xs (i + 2)).toInt64 32), .int (xs (i + 1)), .ref (B 0), .int v]) rfl ?_
  refine lw_ldc2 C0 wd_6_160 rfl ?_
  refine lw_go C0 2 (pc' := 179) (lv' := lwl b G B i) (st' := [.long (z_lshl (xs (i + 2)).toInt64 32 ||| ((xs (i + 3)).toInt64 &&& 4294967295)), .int (xs (i + 1)), .ref (B 0), .int v]) rfl ?_
  refine lw_callM (As := [.int (xs (i + 1)), .long (z_lshl (xs (i + 2)).toInt64 32 ||| ((xs (i + 3)).toInt64 &&& 4294967295))]) (rest := [.int v]) (E' := (M1, some (.int v))) C0 hK yk_Mod_family (fun A => c_Mod_family M (xs (i + 1)) (z_lshl (xs (i + 2)).toInt64 32 ||| ((xs (i + 3)).toInt64 &&& 4294967295)) (M1, v) e2) wd_5_161 rfl rfl ⟨Nat.le_of_ble_eq_true rfl, Nat.le_of_ble_eq_true rfl⟩ (Nat.le_of_ble_eq_true rfl) (Rel_fit h1) ?_
  show LW p l e s m below meth c b D cA G B S1 M1 182 (lwl b G B i) [.int v, .int v]
  exact lw_eq C0 rfl (kn _ _ h1)
set_option maxHeartbeats 1000000 in
set_option maxRecDepth 20000 in
theorem lk_any (C0 : lwC T p s m meth c b) (hK : va_K D zcl (ztys cA) s) (hX : va_X b L xs s s.heap) (hbl : b < s.heap.size) (hL : L ≤ 2048) {i n : Nat} (hi : i + 3 < L) (hn : n ≤ 600) (h : Rel n S M) (kn : ∀ S1 M1, Rel (n + 1) S1 M1 → LW p l e s m below meth c b D cA G B S1 M1 641 (lwl b G B i) []) : LW p l e s m below meth c b D cA G B S M 187 (lwl b G B i) [] := by
  obtain ⟨S1, M1, v, e1, e2, h1⟩ := K_any hn h
  replace C0 := lw_re lw_Tk1 C0
  refine lw_go C0 1 (pc' := 188) (lv' := lwl b G B i) (st' := [.ref (G 0)]) rfl ?_
  refine lw_callT (As := []) (rest := []) (E' := (S1, some (.int v))) C0 hK yk_Tre_any (by have := c_Tre_any (l := l) (D := D) (cA := cA) (G := G) (A := lwA s B) S; rw [e1] at this; exact this) wd_2_131 rfl rfl ⟨Nat.le_of_ble_eq_true rfl, Nat.le_of_ble_eq_true rfl⟩ (Nat.le_of_ble_eq_true rfl) (Rel_fit h1) ?_
  show LW p l e s m below meth c b D cA G B S1 M 191 (lwl b G B i) [.int v]
  refine lw_go C0 1 (pc' := 192) (lv' := lwl b G B i) (st' := [.ref (B 0), .int v]) rfl ?_
  refine lw_callM (As := []) (rest := [.int v]) (E' := (M1, some (.int v))) C0 hK yk_Mod_any (fun A => c_Mod_any M (M1, v) e2) wd_5_166 rfl rfl ⟨Nat.le_of_ble_eq_true rfl, Nat.le_of_ble_eq_true rfl⟩ (Nat.le_of_ble_eq_true rfl) (Rel_fit h1) ?_
  show LW p l e s m below meth c b D cA G B S1 M1 195 (lwl b G B i) [.int v, .int v]
  exact lw_eq C0 rfl (kn _ _ h1)
set_option maxHeartbeats 1000000 in
set_option maxRecDepth 20000 in
theorem lk_constant (C0 : lwC T p s m meth c b) (hK : va_K D zcl (ztys cA) s) (hX : va_X b L xs s s.heap) (hbl : b < s.heap.size) (hL : L ≤ 2048) {i n : Nat} (hi : i + 3 < L) (hn : n ≤ 600) (h : Rel n S M) (kn : ∀ S1 M1, Rel (n + 1) S1 M1 → LW p l e s m below meth c b D cA G B S1 M1 641 (lwl b G B i) []) : LW p l e s m below meth c b D cA G B S M 200 (lwl b G B i) [] := by
  obtain ⟨S1, M1, v, e1, e2, h1⟩ := K_constant hn h (xs (i + 1)) (xs (i + 2))
  replace C0 := lw_re lw_Tk2 C0
  refine lw_go C0 1 (pc' := 201) (lv' := lwl b G B i) (st' := [.ref (G 0)]) rfl ?_
  refine lw_go C0 4 (pc' := 205) (lv' := lwl b G B i) (st' := [.int (nI i + 1), .ref b, .ref (G 0)]) rfl ?_
  refine lw_ld C0 hX hbl (j := i + 1) (nI_add i 1) (by omega) hL rfl ?_
  refine lw_go C0 4 (pc' := 210) (lv' := lwl b G B i) (st' := [.int (nI i + 2), .ref b, .int (xs (i + 1)), .ref (G 0)]) rfl ?_
  refine lw_ld C0 hX hbl (j := i + 2) (nI_add i 2) (by omega) hL rfl ?_
  refine lw_callT (As := [.int (xs (i + 1)), .int (xs (i + 2))]) (rest := []) (E' := (S1, some (.int v))) C0 hK yk_Tre_constant (by have := c_Tre_constant (l := l) (D := D) (cA := cA) (G := G) (A := lwA s B) S (xs (i + 1)) (xs (i + 2)); rw [e1] at this; exact this) wd_2_153 rfl rfl ⟨Nat.le_of_ble_eq_true rfl, Nat.le_of_ble_eq_true rfl⟩ (Nat.le_of_ble_eq_true rfl) (Rel_fit h1) ?_
  show LW p l e s m below meth c b D cA G B S1 M 214 (lwl b G B i) [.int v]
  refine lw_go C0 1 (pc' := 215) (lv' := lwl b G B i) (st' := [.ref (B 0), .int v]) rfl ?_
  refine lw_go C0 4 (pc' := 219) (lv' := lwl b G B i) (st' := [.int (nI i + 1), .ref b, .ref (B 0), .int v]) rfl ?_
  refine lw_ld C0 hX hbl (j := i + 1) (nI_add i 1) (by omega) hL rfl ?_
  refine lw_go C0 4 (pc' := 224) (lv' := lwl b G B i) (st' := [.int (nI i + 2), .ref b, .int (xs (i + 1)), .ref (B 0), .int v]) rfl ?_
  refine lw_ld C0 hX hbl (j := i + 2) (nI_add i 2) (by omega) hL rfl ?_
  refine lw_callM (As := [.int (xs (i + 1)), .int (xs (i + 2))]) (rest := [.int v]) (E' := (M1, some (.int v))) C0 hK yk_Mod_constant (fun A => c_Mod_constant M (xs (i + 1)) (xs (i + 2)) (M1, v) e2) wd_5_174 rfl rfl ⟨Nat.le_of_ble_eq_true rfl, Nat.le_of_ble_eq_true rfl⟩ (Nat.le_of_ble_eq_true rfl) (Rel_fit h1) ?_
  show LW p l e s m below meth c b D cA G B S1 M1 228 (lwl b G B i) [.int v, .int v]
  exact lw_eq C0 rfl (kn _ _ h1)
set_option maxHeartbeats 1000000 in
set_option maxRecDepth 20000 in
theorem lk_built (C0 : lwC T p s m meth c b) (hK : va_K D zcl (ztys cA) s) (hX : va_X b L xs s s.heap) (hbl : b < s.heap.size) (hL : L ≤ 2048) {i n : Nat} (hi : i + 3 < L) (hn : n ≤ 600) (h : Rel n S M) (kn : ∀ S1 M1, Rel (n + 1) S1 M1 → LW p l e s m below meth c b D cA G B S1 M1 641 (lwl b G B i) []) : LW p l e s m below meth c b D cA G B S M 233 (lwl b G B i) [] := by
  obtain ⟨S1, M1, v, e1, e2, h1⟩ := K_built hn h (xs (i + 1)) (xs (i + 2)) (xs (i + 3))
  replace C0 := lw_re lw_Tk3 C0
  refine lw_go C0 1 (pc' := 234) (lv' := lwl b G B i) (st' := [.ref (G 0)]) rfl ?_
  refine lw_go C0 4 (pc' := 238) (lv' := lwl b G B i) (st' := [.int (nI i + 1), .ref b, .ref (G 0)]) rfl ?_
  refine lw_ld C0 hX hbl (j := i + 1) (nI_add i 1) (by omega) hL rfl ?_
  refine lw_go C0 4 (pc' := 243) (lv' := lwl b G B i) (st' := [.int (nI i + 2), .ref b, .int (xs (i + 1)), .ref (G 0)]) rfl ?_
  refine lw_ld C0 hX hbl (j := i + 2) (nI_add i 2) (by omega) hL rfl ?_
  refine lw_go C0 4 (pc' := 248) (lv' := lwl b G B i) (st' := [.int (nI i + 3), .ref b, .int (xs (i + 2)), .int (xs (i + 1)), .ref (G 0)]) rfl ?_
  refine lw_ld C0 hX hbl (j := i + 3) (nI_add i 3) (by omega) hL rfl ?_
  refine lw_callT (As := [.int (xs (i + 1)), .int (xs (i + 2)), .int (xs (i + 3))]) (rest := []) (E' := (S1, some (.int v))) C0 hK yk_Tre_built (by have := c_Tre_built (l := l) (D := D) (cA := cA) (G := G) (A := lwA s B) S (xs (i + 1)) (xs (i + 2)) (xs (i + 3)); rw [e1] at this; exact this) wd_2_157 rfl rfl ⟨Nat.le_of_ble_eq_true rfl, Nat.le_of_ble_eq_true rfl⟩ (Nat.le_of_ble_eq_true rfl) (Rel_fit h1) ?_
  show LW p l e s m below meth c b D cA G B S1 M 252 (lwl b G B i) [.int v]
  refine lw_go C0 1 (pc' := 253) (lv' := lwl b G B i) (st' := [.ref (B 0), .int v]) rfl ?_
  refine lw_go C0 4 (pc' := 257) (lv' := lwl b G B i) (st' := [.int (nI i + 1), .ref b, .ref (B 0), .int v]) rfl ?_
  refine lw_ld C0 hX hbl (j := i + 1) (nI_add i 1) (by omega) hL rfl ?_
  refine lw_go C0 4 (pc' := 262) (lv' := lwl b G B i) (st' := [.int (nI i + 2), .ref b, .int (xs (i + 1)), .ref (B 0), .int v]) rfl ?_
  refine lw_ld C0 hX hbl (j := i + 2) (nI_add i 2) (by omega) hL rfl ?_
  refine lw_go C0 4 (pc' := 267) (lv' := lwl b G B i) (st' := [.int (nI i + 3), .ref b, .int (xs (i + 2)), .int (xs (i + 1)), .ref (B 0), .int v]) rfl ?_
  refine lw_ld C0 hX hbl (j := i + 3) (nI_add i 3) (by omega) hL rfl ?_
  refine lw_callM (As := [.int (xs (i + 1)), .int (xs (i + 2)), .int (xs (i + 3))]) (rest := [.int v]) (E' := (M1, some (.int v))) C0 hK yk_Mod_built (fun A => c_Mod_built M (xs (i + 1)) (xs (i + 2)) (xs (i + 3)) (M1, v) e2) wd_5_178 rfl rfl ⟨Nat.le_of_ble_eq_true rfl, Nat.le_of_ble_eq_true rfl⟩ (Nat.le_of_ble_eq_true rfl) (Rel_fit h1) ?_
  show LW p l e s m below meth c b D cA G B S1 M1 271 (lwl b G B i) [.int v, .int v]
  exact lw_eq C0 rfl (kn _ _ h1)
set_option maxHeartbeats 1000000 in
set_option maxRecDepth 20000 in
theorem lk_name (C0 : lwC T p s m meth c b) (hK : va_K D zcl (ztys cA) s) (hX : va_X b L xs s s.heap) (hbl : b < s.heap.size) (hL : L ≤ 2048) {i n : Nat} (hi : i + 3 < L) (hn : n ≤ 600) (h : Rel n S M) (kn : ∀ S1 M1, Rel (n + 1) S1 M1 → LW p l e s m below meth c b D cA G B S1 M1 641 (lwl b G B i) []) : LW p l e s m below meth c b D cA G B S M 276 (lwl b G B i) [] := by
  obtain ⟨S1, M1, v, e1, e2, h1⟩ := K_name hn h (xs (i + 1)) (xs (i + 2))
  replace C0 := lw_re lw_Tk4 C0
  refine lw_go C0 1 (pc' := 277) (lv' := lwl b G B i) (st' := [.ref (G 0)]) rfl ?_
  refine lw_go C0 4 (pc' := 281) (lv' := lwl b G B i) (st' := [.int (nI i + 1), .ref b, .ref (G 0)]) rfl ?_
  refine lw_ld C0 hX hbl (j := i + 1) (nI_add i 1) (by omega) hL rfl ?_
  refine lw_go C0 4 (pc' := 286) (lv' := lwl b G B i) (st' := [.int (nI i + 2), .ref b, .int (xs (i + 1)), .ref (G 0)]) rfl ?_
  refine lw_ld C0 hX hbl (j := i + 2) (nI_add i 2) (by omega) hL rfl ?_
  refine lw_callT (As := [.int (xs (i + 1)), .int (xs (i + 2))]) (rest := []) (E' := (S1, some (.int v))) C0 hK yk_Tre_name (by have := c_Tre_name (l := l) (D := D) (cA := cA) (G := G) (A := lwA s B) S (xs (i + 1)) (xs (i + 2)); rw [e1] at this; exact this) wd_2_175 rfl rfl ⟨Nat.le_of_ble_eq_true rfl, Nat.le_of_ble_eq_true rfl⟩ (Nat.le_of_ble_eq_true rfl) (Rel_fit h1) ?_
  show LW p l e s m below meth c b D cA G B S1 M 290 (lwl b G B i) [.int v]
  refine lw_go C0 1 (pc' := 291) (lv' := lwl b G B i) (st' := [.ref (B 0), .int v]) rfl ?_
  refine lw_go C0 4 (pc' := 295) (lv' := lwl b G B i) (st' := [.int (nI i + 1), .ref b, .ref (B 0), .int v]) rfl ?_
  refine lw_ld C0 hX hbl (j := i + 1) (nI_add i 1) (by omega) hL rfl ?_
  refine lw_go C0 4 (pc' := 300) (lv' := lwl b G B i) (st' := [.int (nI i + 2), .ref b, .int (xs (i + 1)), .ref (B 0), .int v]) rfl ?_
  refine lw_ld C0 hX hbl (j := i + 2) (nI_add i 2) (by omega) hL rfl ?_
  refine lw_callM (As := [.int (xs (i + 1)), .int (xs (i + 2))]) (rest := [.int v]) (E' := (M1, some (.int v))) C0 hK yk_Mod_name (fun A => c_Mod_name M (xs (i + 1)) (xs (i + 2)) (M1, v) e2) wd_5_186 rfl rfl ⟨Nat.le_of_ble_eq_true rfl, Nat.le_of_ble_eq_true rfl⟩ (Nat.le_of_ble_eq_true rfl) (Rel_fit h1) ?_
  show LW p l e s m below meth c b D cA G B S1 M1 304 (lwl b G B i) [.int v, .int v]
  exact lw_eq C0 rfl (kn _ _ h1)
end LAW
