-- Row.add, Row.refill: contracts
section ZRF
variable {cA : Nat → ClassId} {G : Nat → Nat} {S : zS} {A : Nat → Prop} {D : va_G} {l : Launch}
section ADD
variable {p : Program} {e : Env} {R : Room} {s : State} {m : MethodId} {args : Array Value} {below : List Frame} {meth : Method} {c : Code} {E : zS × Option Value}
set_option maxHeartbeats 8000000 in
theorem sw_add40 {k : Nat} {a1 : Int32} (hk : k < 43) (C0 : zC p s m args meth c prog_10_method_5_code 2 "RuleTree$Row" zwl T_Row_add (some .int)) (hK : va_K D zcl (ztys cA) s) (hE : E = zFi (if (S.1 k).length < zcap S k then (z_row S k (S.1 k ++ [a1]), nI (S.1 k).length) else (S, -1))) : zSW p l e R s m args below meth c 2 A D cA G S 40 [(0, .ref (G (11 + k))), (1, .int a1)] [] E := by
  subst hE
  by_cases h : (S.1 k).length < zcap S k
  · rw [if_pos h]
    refine ⟨Nat.le_refl _, Nat.le_refl _, fun H locs cells slots ls q1 q2 q3 q4 q5 => ?_⟩
    obtain ⟨aa, f, hP, hjj, hAA, hrr⟩ := id q1
    obtain ⟨g1, g2, g3⟩ := hrr k hk
    have C1 := C0
    obtain ⟨hx, hb, hml, hown, hts, hT, hr, hlocks⟩ := C0
    have he : (zws 97 (zad G aa) (zct cA G aa f S))[11 + k]? = some (G (11 + k), .inr (0, [.ref (aa k), .int (nI (S.1 k).length)])) := by rw [zws_at (by omega), zct_row hk, zad_lo (by omega)]
    have he2 : (zws 97 (zad G aa) (zct cA G aa f S))[54 + k]? = some (aa k, .inl (cA 0, zcap S k, .inl (f k))) := by rw [zws_at (by omega), zct_arr, zad_arr]
    have hlt : nI (S.1 k).length < nI (zcap S k) := (nI_ltI (by omega) (by omega)).mpr h
    refine zrun_ok hx hb hT 1 40 _ _ (pc' := 41) (lv' := [(0, .ref (G (11 + k))), (1, .int a1)]) (st' := [.ref (G (11 + k))]) rfl q5 (fun ls hl => ?_)
    refine va_get (D := D) (cl := zcl) (tys := ztys cA) (ci := 0) hx hb hts i_Row hown hK (zws_P hP) (11 + k) he rfl 1 (by decide) (hts _ wd_1_37) (fun _ h => h) rfl (hT.dec (pc := 41) rfl) ?_
    refine zrun_ok hx hb hT 1 44 _ _ (pc' := 45) (lv' := [(0, .ref (G (11 + k))), (1, .int a1)]) (st' := [.ref (G (11 + k)), .int (nI (S.1 k).length)]) rfl hl (fun ls hl => ?_)
    refine va_get (D := D) (cl := zcl) (tys := ztys cA) (ci := 0) hx hb hts i_Row hown hK (zws_P hP) (11 + k) he rfl 0 (by decide) (hts _ wd_1_36) (fun _ h => h) rfl (hT.dec (pc := 45) rfl) ?_
    refine va_alen (D := D) (cl := zcl) (tys := ztys cA) hx hb hK (zws_P hP) (54 + k) 0 he2 rfl (v := nI (zcap S k)) rfl (hT.dec (pc := 48) rfl) ?_
    refine lv_icmp_lt (tgt := 54) hx hb (hT.dec (pc := 49) rfl) (by decide) (fun _ => ?_) (fun q => absurd hlt q)
    refine zrun_ok hx hb hT 1 54 _ _ (pc' := 55) (lv' := [(0, .ref (G (11 + k))), (1, .int a1)]) (st' := [.ref (G (11 + k))]) rfl hl (fun ls hl => ?_)
    refine va_get (D := D) (cl := zcl) (tys := ztys cA) (ci := 0) hx hb hts i_Row hown hK (zws_P hP) (11 + k) he rfl 0 (by decide) (hts _ wd_1_36) (fun _ h => h) rfl (hT.dec (pc := 55) rfl) ?_
    refine zrun_ok hx hb hT 1 58 _ _ (pc' := 59) (lv' := [(0, .ref (G (11 + k))), (1, .int a1)]) (st' := [.ref (G (11 + k)), .ref (aa k)]) rfl hl (fun ls hl => ?_)
    refine va_get (D := D) (cl := zcl) (tys := ztys cA) (ci := 0) hx hb hts i_Row hown hK (zws_P hP) (11 + k) he rfl 1 (by decide) (hts _ wd_1_37) (fun _ h => h) rfl (hT.dec (pc := 59) rfl) ?_
    refine zrun_ok hx hb hT 1 62 _ _ (pc' := 63) (lv' := [(0, .ref (G (11 + k))), (1, .int a1)]) (st' := [.int a1, .int (nI (S.1 k).length), .ref (aa k)]) rfl hl (fun ls hl => ?_)
    refine va_iast (D := D) (cl := zcl) (tys := ztys cA) (ws := zws 97 (zad G aa) (zct cA G aa f S)) hx hb hK (zws_P hP) (zws_D hjj hAA) q2 (54 + k) 0 he2 rfl (vp_in_nI h (by omega)) (hT.dec (pc := 63) rfl) (fun H1 locs1 hP1 hD1 hS1 => ?_)
    have hset : (zws 97 (zad G aa) (zct cA G aa f S)).set (54 + k) (aa k, .inl (cA 0, zcap S k, .inl (upd (f k) (nI (S.1 k).length).toNatClampNeg a1))) = zws 97 (zad G aa) (zct cA G aa (va_up f k (upd (f k) (S.1 k).length a1)) S) := by
      rw [show aa k = zad G aa (54 + k) from zad_arr.symm, zws_set, nI_clamp (by omega)]
      refine zws_congr (fun _ _ => rfl) (fun i hi => ?_)
      exact zct_upA (S := S) (S' := S) (fun o ho => rfl) rfl (fun q => rfl) rfl i hi
    rw [hset] at hP1 hD1
    have he1 : (zws 97 (zad G aa) (zct cA G aa (va_up f k (upd (f k) (S.1 k).length a1)) S))[11 + k]? = some (G (11 + k), .inr (0, [.ref (aa k), .int (nI (S.1 k).length)])) := by rw [zws_at (by omega), zct_row hk, zad_lo (by omega)]
    refine zrun_ok hx hb hT 2 64 _ _ (pc' := 66) (lv' := [(0, .ref (G (11 + k))), (1, .int a1)]) (st' := [.ref (G (11 + k)), .ref (G (11 + k))]) rfl hl (fun ls hl => ?_)
    refine va_get (D := D) (cl := zcl) (tys := ztys cA) (ci := 0) hx hb hts i_Row hown hK hP1 (11 + k) he1 rfl 1 (by decide) (hts _ wd_1_37) (fun _ h => h) rfl (hT.dec (pc := 66) rfl) ?_
    refine zrun_ok hx hb hT 2 69 _ _ (pc' := 71) (lv' := [(0, .ref (G (11 + k))), (1, .int a1)]) (st' := [.int (nI (S.1 k).length + 1), .ref (G (11 + k))]) rfl hl (fun ls hl => ?_)
    rw [nI_1]
    refine va_put (D := D) (cl := zcl) (tys := ztys cA) (ci := 0) (ty := .int) hx hb hts i_Row t_Row t_Row_ok n_Row hown hK hP1 hD1 hS1 (11 + k) he1 rfl 1 (by decide) (hts _ wd_1_37) (fun _ h9 => h9) rfl (by decide +kernel) rfl rfl (Nat.le_of_ble_eq_true rfl) (hT.dec (pc := 71) rfl) (fun H2 locs2 hP2 hD2 hS2 => ?_)
    have hset2 : (zws 97 (zad G aa) (zct cA G aa (va_up f k (upd (f k) (S.1 k).length a1)) S)).set (11 + k) (G (11 + k), .inr (0, [.ref (aa k), .int (nI ((S.1 k).length + 1))])) = zws 97 (zad G aa) (zct cA G aa (va_up f k (upd (f k) (S.1 k).length a1)) (z_row S k (S.1 k ++ [a1]))) := by
      rw [show G (11 + k) = zad G aa (11 + k) from (zad_lo (by omega)).symm, zws_set]
      refine zws_congr (fun _ _ => rfl) (fun i hi => ?_)
      rw [← zct_upR hk i hi, List.length_append]
      rfl
    have hP2 : va_P D zcl ((zws 97 (zad G aa) (zct cA G aa (va_up f k (upd (f k) (S.1 k).length a1)) S)).set (11 + k) (G (11 + k), .inr (0, [.ref (aa k), .int (nI ((S.1 k).length + 1))]))) H2 := hP2
    have hD2 : va_D A ((zws 97 (zad G aa) (zct cA G aa (va_up f k (upd (f k) (S.1 k).length a1)) S)).set (11 + k) (G (11 + k), .inr (0, [.ref (aa k), .int (nI ((S.1 k).length + 1))]))) := hD2
    rw [hset2] at hP2 hD2
    have hlen : ((z_row S k (S.1 k ++ [a1])).1 k).length = (S.1 k).length + 1 := by simp [z_row, va_up]
    have K : zSW p l e R s m args below meth c 2 A D cA G (z_row S k (S.1 k ++ [a1])) 74 [(0, .ref (G (11 + k))), (1, .int a1)] [] (zFi (z_row S k (S.1 k ++ [a1]), nI (S.1 k).length)) := by
      refine sw_go C1 1 (pc' := 75) (lv' := [(0, .ref (G (11 + k))), (1, .int a1)]) (st' := [.ref (G (11 + k))]) rfl ?_
      refine sw_rsz C1 hK hk wd_1_37 rfl ?_
      rw [hlen]
      refine sw_go C1 2 (pc' := 80) (lv' := [(0, .ref (G (11 + k))), (1, .int a1)]) (st' := [.int (nI ((S.1 k).length + 1) - 1)]) rfl ?_
      rw [nI_pred]
      exact sw_reti C1 rfl rfl
    refine K.2.2 H2 locs2 cells slots ls (zRep_mk hP2 hD2 (fun j hj2 => ?_)) hS2 q3 q4 hl
    obtain ⟨g1, g2, g3⟩ := hrr j hj2
    by_cases ej : j = k
    · subst ej
      refine ⟨by rw [hlen]; exact h, g2, fun i hi => ?_⟩
      rw [hlen] at hi
      show va_up f j (upd (f j) (S.1 j).length a1) j i = ((z_row S j (S.1 j ++ [a1])).1 j).getD i 0
      by_cases ei : i = (S.1 j).length
      · subst ei; simp [va_up, upd, z_row, List.getD]
      · have hi2 : i < (S.1 j).length := by omega
        have := g3 i hi2
        simp only [va_up, upd, z_row, ei, if_true, if_false, List.getD] at this ⊢
        rw [this, List.getElem?_append_left hi2]
    · refine ⟨?_, g2, fun i hi => ?_⟩
      · show ((z_row S k (S.1 k ++ [a1])).1 j).length ≤ zcap S j
        simp only [z_row, va_up, ej, if_false]; exact g1
      · simp only [z_row, va_up, ej, if_false] at hi ⊢
        exact g3 i hi
  · rw [if_neg h]
    refine ⟨Nat.le_refl _, Nat.le_refl _, fun H locs cells slots ls q1 q2 q3 q4 q5 => ?_⟩
    obtain ⟨aa, f, hP, hjj, hAA, hrr⟩ := id q1
    obtain ⟨g1, g2, g3⟩ := hrr k hk
    have hlt : ¬ nI (S.1 k).length < nI (zcap S k) := fun q => h ((nI_ltI (by omega) (by omega)).mp q)
    have K : zSW p l e R s m args below meth c 2 A D cA G S 40 [(0, .ref (G (11 + k))), (1, .int a1)] [] (zFi (S, -1)) := by
      refine sw_go C0 1 (pc' := 41) (lv' := [(0, .ref (G (11 + k))), (1, .int a1)]) (st' := [.ref (G (11 + k))]) rfl ?_
      refine sw_rsz C0 hK hk wd_1_37 rfl ?_
      refine sw_go C0 1 (pc' := 45) (lv' := [(0, .ref (G (11 + k))), (1, .int a1)]) (st' := [.ref (G (11 + k)), .int (nI (S.1 k).length)]) rfl ?_
      refine sw_rlen C0 hK hk wd_1_36 rfl rfl ?_
      refine sw_icmp_ltF C0 rfl hlt ?_
      refine sw_go C0 1 (pc' := 53) (lv' := [(0, .ref (G (11 + k))), (1, .int a1)]) (st' := [.int (-1)]) rfl ?_
      exact sw_reti C0 rfl rfl
    exact K.2.2 H locs cells slots ls q1 q2 q3 q4 q5
end ADD
set_option maxHeartbeats 8000000 in
theorem c_Row_add (k : Nat) (hk : k < 43) (a1 : Int32) : zMet l y_Row_add (zw y_Row_add prog_10_method_5_code 2 (some Jvm.ClassFile.FieldType.int)) 2 62 [.ref (G (11 + k)), .int a1] D zcl (ztys cA) A (zRep D cA G A) zfc zfs S (zFi (r_add S k a1)) := by
  have hm : zfc S ≤ zfc (zFi (r_add S k a1)).1 ∧ zfs S ≤ zfs (zFi (r_add S k a1)).1 := r_add_mono hk a1
  refine zMet_of hm (by decide) tk_Row_add (Nat.le_of_ble_eq_true rfl) ?_
  intro p e R s m args below meth c hf hlo C0 hK hA
  refine sw_go C0 1 (pc' := 1) (lv' := [(0, .ref (G (11 + k))), (1, .int a1)]) (st' := [.ref (G (11 + k))]) rfl ?_
  refine sw_rsz C0 hK hk wd_1_37 rfl ?_
  refine sw_go C0 1 (pc' := 5) (lv' := [(0, .ref (G (11 + k))), (1, .int a1)]) (st' := [.ref (G (11 + k)), .int (nI (S.1 k).length)]) rfl ?_
  refine sw_rlen C0 hK hk wd_1_36 rfl rfl ?_
  refine ⟨hm.1, hm.2, fun H locs cells slots ls q1 q2 q3 q4 q5 => ?_⟩
  obtain ⟨aa, f, hP, hjj, hAA, hrr⟩ := id q1
  obtain ⟨g1, g2, g3⟩ := hrr k hk
  have e1 : ∀ S' : zS, r_more S k = S' → S'.1 = S.1 → zFi (r_add S k a1) = zFi (if (S'.1 k).length < zcap S' k then (z_row S' k (S'.1 k ++ [a1]), nI (S'.1 k).length) else (S', -1)) := by
    intro S' h1 h2
    unfold r_add
    rw [h1, h2]
  have hg : ∀ S' : zS, r_more S k = S' → S'.1 = S.1 := by
    intro S' h
    rw [← h]
    unfold r_more
    split
    · rfl
    · split <;> rfl
  by_cases h : (S.1 k).length < zcap S k
  · have hmo : r_more S k = S := by unfold r_more; rw [if_pos h]
    exact (sw_icmp_ltT C0 rfl ((nI_ltI (by omega) (by omega)).mpr h) (sw_add40 hk C0 hK (e1 S hmo rfl))).2.2 H locs cells slots ls q1 q2 q3 q4 q5
  · have hlt : ¬ nI (S.1 k).length < nI (zcap S k) := fun q => h ((nI_ltI (by omega) (by omega)).mp q)
    have hz : ¬ nI (S.1 k).length < nI (zcap S k) := hlt
    by_cases h2 : 2097152 < zcap S k
    · have hmo : r_more S k = S := by unfold r_more; rw [if_neg h, if_pos h2]
      have hgt : (2097152 : Int32) < nI (zcap S k) := (nI_ltI (a := 2097152) (by omega) (by omega)).mpr h2
      refine (sw_icmp_ltF C0 rfl hlt (sw_go C0 1 (pc' := 13) (lv' := [(0, .ref (G (11 + k))), (1, .int a1)]) (st' := [.ref (G (11 + k))]) rfl (sw_rlen C0 hK hk wd_1_36 rfl rfl (sw_ldc C0 wd_1_104 rfl (sw_icmp_gtT C0 rfl hgt (sw_add40 hk C0 hK (e1 S hmo rfl))))))).2.2 H locs cells slots ls q1 q2 q3 q4 q5
    · have hmo : r_more S k = z_grow S k := by unfold r_more; rw [if_neg h, if_neg h2]
      have hgt : ¬ (2097152 : Int32) < nI (zcap S k) := fun q => h2 ((nI_ltI (a := 2097152) (by omega) (by omega)).mp q)
      refine (sw_icmp_ltF C0 rfl hlt (sw_go C0 1 (pc' := 13) (lv' := [(0, .ref (G (11 + k))), (1, .int a1)]) (st' := [.ref (G (11 + k))]) rfl (sw_rlen C0 hK hk wd_1_36 rfl rfl (sw_ldc C0 wd_1_104 rfl (sw_icmp_gtF C0 rfl hgt (sw_grow hk hf hlo C0 hK hA (by omega) (sw_add40 hk C0 hK (e1 (z_grow S k) hmo (hg _ hmo))))))))).2.2 H locs cells slots ls q1 q2 q3 q4 q5
end ZRF
