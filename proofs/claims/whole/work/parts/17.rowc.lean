-- THE ROW'S METHODS: contracts over the class's world, for every row
section ZRC
variable {cA : Nat → ClassId} {G : Nat → Nat} {S : zS} {A : Nat → Prop} {D : va_G} {l : Launch}
theorem nI_min {a b : Nat} (ha : a < 2 ^ 31) (hb : b < 2 ^ 31) : (nI a < nI b) ↔ a < b := nI_ltI ha hb
set_option maxHeartbeats 4000000 in
theorem c_Row_size (k : Nat) (hk : k < 43) : zMet l y_Row_size (zw y_Row_size prog_10_method_2_code 1 (some Jvm.ClassFile.FieldType.int)) 0 0 [.ref (G (11 + k))] D zcl (ztys cA) A (zRep D cA G A) zfc zfs S (zFp S (r_size S k)) := by
  refine zMet_of ⟨Nat.le_refl _, Nat.le_refl _⟩ (by decide) tk_Row_size (Nat.le_of_ble_eq_true rfl) ?_
  intro p e R s m args below meth c hf hlo C0 hK hA
  refine sw_go C0 1 (pc' := 1) (lv' := [(0, .ref (G (11 + k)))]) (st' := [.ref (G (11 + k))]) rfl ?_
  refine sw_rsz C0 hK hk wd_1_37 rfl ?_
  exact sw_reti C0 rfl rfl
set_option maxHeartbeats 4000000 in
theorem c_Row_at (k : Nat) (hk : k < 43) (a1 : Int32) : zMet l y_Row_at (zw y_Row_at prog_10_method_3_code 2 (some Jvm.ClassFile.FieldType.int)) 0 0 [.ref (G (11 + k)), .int a1] D zcl (ztys cA) A (zRep D cA G A) zfc zfs S (zFp S (r_at S k a1)) := by
  refine zMet_of ⟨Nat.le_refl _, Nat.le_refl _⟩ (by decide) tk_Row_at (Nat.le_of_ble_eq_true rfl) ?_
  intro p e R s m args below meth c hf hlo C0 hK hA
  unfold r_at
  refine sw_go C0 1 (pc' := 1) (lv' := [(0, .ref (G (11 + k))), (1, .int a1)]) (st' := [.int a1]) rfl ?_
  refine sw_if_lt (zFp S) C0 rfl (fun h1 => ?_) (fun h1 => ?_)
  · refine sw_go C0 1 (pc' := 22) (lv' := [(0, .ref (G (11 + k))), (1, .int a1)]) (st' := [.int (-1)]) rfl ?_
    exact sw_reti C0 rfl rfl
  · refine sw_go C0 2 (pc' := 6) (lv' := [(0, .ref (G (11 + k))), (1, .int a1)]) (st' := [.ref (G (11 + k)), .int a1]) rfl ?_
    refine sw_rsz C0 hK hk wd_1_37 rfl ?_
    refine sw_icmp_ge (zFp S) C0 rfl (fun h2 => ?_) (fun h2 => ?_)
    · refine sw_go C0 1 (pc' := 22) (lv' := [(0, .ref (G (11 + k))), (1, .int a1)]) (st' := [.int (-1)]) rfl ?_
      exact sw_reti C0 rfl rfl
    · obtain ⟨j, hj, rfl⟩ := nI_of h1
      refine sw_go C0 1 (pc' := 13) (lv' := [(0, .ref (G (11 + k))), (1, .int (nI j))]) (st' := [.ref (G (11 + k))]) rfl ?_
      have hlt : ∀ H, zRep D cA G A S H → j < (S.1 k).length := fun H ⟨aa, f, _, _, _, hr⟩ => by
        obtain ⟨g1, g2, -⟩ := hr k hk
        exact Nat.lt_of_not_le (fun q => h2 ((nI_leI (by omega) hj).mpr q))
      refine ⟨Nat.le_refl _, Nat.le_refl _, fun H locs cells slots ls q1 q2 q3 q4 q5 => ?_⟩
      refine (sw_rrd C0 hK hk (j := j) wd_1_36 rfl rfl rfl rfl (hlt H q1) ?_).2.2 H locs cells slots ls q1 q2 q3 q4 q5
      rw [nI_clamp hj]
      refine sw_go C0 1 (pc' := 22) (lv' := [(0, .ref (G (11 + k))), (1, .int (nI j))]) (st' := [.int ((S.1 k).getD j 0)]) rfl ?_
      exact sw_reti C0 rfl rfl
/-- the size is put: the list is cut -/
theorem sw_rput {p : Program} {e : Env} {R : Room} {s : State} {m : MethodId} {args : Array Value} {below : List Frame} {meth : Method} {c : Code} {nL : Nat} {cc : ByteArray} {T : List zTr} {own : String} {ret : Option FieldType} {pc : Nat} {lv : zLv} {rest : List Value} {E : zS × Option Value} (C0 : zC p s m args meth c cc nL own zwl T ret) (hK : va_K D zcl (ztys cA) s) {idx tgt n k : Nat} {v0 v : Int32} (hk : k < 43) (hl : Cond.fieldLink own idx (F_Row 1).1 (F_Row 1).2.1 (F_Row 1).2.2.1 ∈ zwl) (hq : T.lookup pc = some (.putfield idx, 3, tgt, v0)) (hn : n ≤ (S.1 k).length) (hv : v = nI n)
    (kk : zSW p l e R s m args below meth c nL A D cA G (z_row S k ((S.1 k).take n)) (pc + 3) lv rest E) : zSW p l e R s m args below meth c nL A D cA G S pc lv (.int v :: .ref (G (11 + k)) :: rest) E := by
  obtain ⟨hx, hb, hml, hown, hts, hT, hr, hlocks⟩ := C0
  refine ⟨kk.1, kk.2.1, fun H locs cells slots ls h1 h2 h3 h4 h5 => ?_⟩
  obtain ⟨aa, f, hP, hj, hA, hrr⟩ := id h1
  have he : (zws 97 (zad G aa) (zct cA G aa f S))[11 + k]? = some (G (11 + k), .inr (0, [.ref (aa k), .int (nI (S.1 k).length)])) := by rw [zws_at (by omega), zct_row hk, zad_lo (by omega)]
  refine va_put (D := D) (cl := zcl) (tys := ztys cA) (ws := zws 97 (zad G aa) (zct cA G aa f S)) (ci := 0) (ty := .int) hx hb hts i_Row t_Row t_Row_ok n_Row hown hK (zws_P hP) (zws_D hj hA) h2 (11 + k) he rfl 1 (by decide) (hts _ hl) (fun _ h9 => h9) rfl (by decide +kernel) rfl rfl (Nat.le_of_ble_eq_true rfl) (hT.dec hq) (fun H1 locs1 hP1 hD1 hS1 => ?_)
  have hset : (zws 97 (zad G aa) (zct cA G aa f S)).set (11 + k) (G (11 + k), .inr (0, [.ref (aa k), .int v])) = zws 97 (zad G aa) (zct cA G aa f (z_row S k ((S.1 k).take n))) := by
    rw [show G (11 + k) = zad G aa (11 + k) from (zad_lo (by omega)).symm, zws_set]
    refine zws_congr (fun _ _ => rfl) (fun i hi => ?_)
    rw [← zct_upR hk i hi, hv, List.length_take, Nat.min_eq_left hn]
  have hP1 : va_P D zcl ((zws 97 (zad G aa) (zct cA G aa f S)).set (11 + k) (G (11 + k), .inr (0, [.ref (aa k), .int v]))) H1 := hP1
  have hD1 : va_D A ((zws 97 (zad G aa) (zct cA G aa f S)).set (11 + k) (G (11 + k), .inr (0, [.ref (aa k), .int v]))) := hD1
  rw [hset] at hP1 hD1
  refine kk.2.2 H1 locs1 cells slots ls (zRep_mk hP1 hD1 (fun j hj2 => ?_)) hS1 h3 h4 h5
  obtain ⟨g1, g2, g3⟩ := hrr j hj2
  by_cases ej : j = k
  · subst ej
    simp only [z_row, va_up, if_true]
    refine ⟨Nat.le_trans (by rw [List.length_take]; exact Nat.min_le_right _ _) g1, g2, fun i hi => ?_⟩
    rw [List.length_take] at hi
    rw [g3 i (by omega)]
    simp [List.getD, show i < n by omega]
  · simp only [z_row, va_up, ej, if_false]
    exact ⟨g1, g2, g3⟩
set_option maxHeartbeats 4000000 in
theorem c_Row_empty (k : Nat) (hk : k < 43) : zMet l y_Row_empty (zw y_Row_empty prog_10_method_7_code 1 none) 0 0 [.ref (G (11 + k))] D zcl (ztys cA) A (zRep D cA G A) zfc zfs S (zFv (r_emp S k)) := by
  refine zMet_of ⟨Nat.le_refl _, Nat.le_refl _⟩ (by decide) tk_Row_empty (Nat.le_of_ble_eq_true rfl) ?_
  intro p e R s m args below meth c hf hlo C0 hK hA
  refine sw_go C0 2 (pc' := 2) (lv' := [(0, .ref (G (11 + k)))]) (st' := [.int 0, .ref (G (11 + k))]) rfl ?_
  refine sw_rput C0 hK hk (n := 0) wd_1_37 rfl (Nat.zero_le _) nI_0.symm ?_
  exact sw_retv C0 rfl (by rw [List.take_zero]; rfl)
set_option maxHeartbeats 4000000 in
theorem c_Row_set (k : Nat) (hk : k < 43) (a1 a2 : Int32) : zMet l y_Row_set (zw y_Row_set prog_10_method_4_code 3 none) 0 0 [.ref (G (11 + k)), .int a1, .int a2] D zcl (ztys cA) A (zRep D cA G A) zfc zfs S (zFv (r_set S k a1 a2)) := by
  have hm : zfc S ≤ zfc (zFv (r_set S k a1 a2)).1 ∧ zfs S ≤ zfs (zFv (r_set S k a1 a2)).1 := by
    unfold zFv r_set
    split
    · exact ⟨Nat.le_refl _, Nat.le_refl _⟩
    · split <;> exact ⟨Nat.le_refl _, Nat.le_refl _⟩
  refine zMet_of hm (by decide) tk_Row_set (Nat.le_of_ble_eq_true rfl) ?_
  intro p e R s m args below meth c hf hlo C0 hK hA
  unfold r_set
  refine sw_go C0 1 (pc' := 1) (lv' := [(0, .ref (G (11 + k))), (1, .int a1), (2, .int a2)]) (st' := [.int a1]) rfl ?_
  refine sw_if_lt zFv C0 rfl (fun h1 => ?_) (fun h1 => ?_)
  · exact sw_retv C0 rfl rfl
  · refine sw_go C0 2 (pc' := 6) (lv' := [(0, .ref (G (11 + k))), (1, .int a1), (2, .int a2)]) (st' := [.ref (G (11 + k)), .int a1]) rfl ?_
    refine sw_rsz C0 hK hk wd_1_37 rfl ?_
    refine sw_icmp_ge zFv C0 rfl (fun h2 => ?_) (fun h2 => ?_)
    · exact sw_retv C0 rfl rfl
    · obtain ⟨j, hj, rfl⟩ := nI_of h1
      refine ⟨Nat.le_refl _, Nat.le_refl _, fun H locs cells slots ls q1 q2 q3 q4 q5 => ?_⟩
      rw [nI_clamp hj] at q3 q4 ⊢
      obtain ⟨aa, f, hP, hjj, hAA, hrr⟩ := id q1
      obtain ⟨g1, g2, g3⟩ := hrr k hk
      have hlt : j < (S.1 k).length := Nat.lt_of_not_le (fun q => h2 ((nI_leI (by omega) hj).mpr q))
      have C1 := C0
      obtain ⟨hx, hb, hml, hown, hts, hT, hr, hlocks⟩ := C0
      have he : (zws 97 (zad G aa) (zct cA G aa f S))[11 + k]? = some (G (11 + k), .inr (0, [.ref (aa k), .int (nI (S.1 k).length)])) := by rw [zws_at (by omega), zct_row hk, zad_lo (by omega)]
      have he2 : (zws 97 (zad G aa) (zct cA G aa f S))[54 + k]? = some (aa k, .inl (cA 0, zcap S k, .inl (f k))) := by rw [zws_at (by omega), zct_arr, zad_arr]
      refine zrun_ok hx hb hT 1 12 _ _ (pc' := 13) (lv' := [(0, .ref (G (11 + k))), (1, .int (nI j)), (2, .int a2)]) (st' := [.ref (G (11 + k))]) rfl q5 (fun ls hl => ?_)
      refine va_get (D := D) (cl := zcl) (tys := ztys cA) (ws := zws 97 (zad G aa) (zct cA G aa f S)) (ci := 0) hx hb hts i_Row hown hK (zws_P hP) (11 + k) he rfl 0 (by decide) (hts _ wd_1_36) (fun _ h => h) rfl (hT.dec (pc := 13) rfl) ?_
      refine zrun_ok hx hb hT 2 16 _ _ (pc' := 18) (lv' := [(0, .ref (G (11 + k))), (1, .int (nI j)), (2, .int a2)]) (st' := [.int a2, .int (nI j), .ref (aa k)]) rfl hl (fun ls hl => ?_)
      refine va_iast (D := D) (cl := zcl) (tys := ztys cA) (ws := zws 97 (zad G aa) (zct cA G aa f S)) hx hb hK (zws_P hP) (zws_D hjj hAA) q2 (54 + k) 0 he2 rfl (vp_in_nI (by omega) (by omega)) (hT.dec (pc := 18) rfl) (fun H1 locs1 hP1 hD1 hS1 => ?_)
      have hset : (zws 97 (zad G aa) (zct cA G aa f S)).set (54 + k) (aa k, .inl (cA 0, zcap S k, .inl (upd (f k) (nI j).toNatClampNeg a2))) = zws 97 (zad G aa) (zct cA G aa (va_up f k (upd (f k) j a2)) (z_row S k ((S.1 k).set j a2))) := by
        rw [show aa k = zad G aa (54 + k) from zad_arr.symm, zws_set, nI_clamp hj]
        refine zws_congr (fun _ _ => rfl) (fun i hi => ?_)
        refine zct_upA (S := S) (S' := z_row S k ((S.1 k).set j a2)) (fun o ho => by unfold zobj; rfl) rfl (fun q => ?_) rfl i hi
        by_cases eq : q = k
        · subst eq; simp [z_row, va_up]
        · simp [z_row, va_up, eq]
      rw [hset] at hP1 hD1
      refine (sw_retv C1 (S := z_row S k ((S.1 k).set j a2)) rfl rfl).2.2 H1 locs1 cells slots ls (zRep_mk hP1 hD1 (fun q hq2 => ?_)) hS1 q3 q4 hl
      obtain ⟨g1, g2, g3⟩ := hrr q hq2
      by_cases eq : q = k
      · subst eq
        simp only [z_row, va_up, if_true]
        refine ⟨by rw [List.length_set]; exact g1, g2, fun i hi => ?_⟩
        rw [List.length_set] at hi
        by_cases ei : i = j
        · subst ei; simp [upd, List.getD, hi]
        · simp only [upd, ei, if_false]
          rw [g3 i hi]
          simp [List.getD, List.getElem?_set_ne (Ne.symm ei)]
      · simp only [z_row, va_up, eq, if_false]
        exact ⟨g1, g2, g3⟩
end ZRC
