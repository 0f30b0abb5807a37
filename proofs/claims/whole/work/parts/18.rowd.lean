-- Row.take, Arrays.copyOf (where the length differs), Row.add, Row.refill
def y_Arr_copyOf : MethodName := ⟨"java/util/Arrays", "copyOf", "([II)[I"⟩
def T_Arr_copyOf : List zTr := [(0, .iload_n 1, 1, 0, 0), (1, .aload_n 0, 1, 0, 0), (2, .arraylength, 1, 0, 0), (3, .if_icmp .ne 11, 3, 14, 0), (14, .iload_n 1, 1, 0, 0), (15, .newarray .int, 2, 0, 0), (17, .astore_n 2, 1, 0, 0), (18, .aload_n 0, 1, 0, 0), (19, .iconst 0, 1, 0, 0), (20, .aload_n 2, 1, 0, 0), (21, .iconst 0, 1, 0, 0), (22, .aload_n 0, 1, 0, 0), (23, .arraylength, 1, 0, 0), (24, .iload_n 1, 1, 0, 0), (25, .invokestatic 304, 3, 0, 0), (28, .invokestatic 150, 3, 0, 0), (31, .aload_n 2, 1, 0, 0), (32, .areturn, 1, 0, 0)]
theorem tk_Arr_copyOf : zTok prog_17_method_123_code 3 T_Arr_copyOf := by decide +kernel
section ZRD
variable {cA : Nat → ClassId} {G : Nat → Nat} {S : zS} {A : Nat → Prop} {D : va_G} {l : Launch}
abbrev zcp (f : Nat → Int32) (n : Nat) : Nat → Int32 := va_cpy f (fun _ => 0) 0 0 n
set_option maxHeartbeats 4000000 in
theorem c_Arr_copyOf (a sz n0 N : Nat) (f : Nat → Int32) (h0 : n0 < N) (hN : N ≤ 4194304) : Met l y_Arr_copyOf (zw y_Arr_copyOf prog_17_method_123_code 3 (some (.array .int))) { frames := 1, cells := 1, slots := N, locals := 40 }
    (va_Pc [.ref a, .int (nI N)] (fun U => U.heap.size = sz ∧ va_P D zcl [(a, .inl (cA 0, n0, .inl f))] U.heap ∧ va_K D zcl (ztys cA) U ∧ va_D (fun _ => True) [(a, .inl (cA 0, n0, .inl f))]))
    (va_Qr (fun _ : Unit => True) (fun _ q t => va_P D zcl [(a, .inl (cA 0, n0, .inl f)), (q, .inl (cA 0, N, .inl (zcp f n0)))] t.heap ∧ va_D (va_A [(a, .inl (cA 0, n0, .inl f))] sz) [(a, .inl (cA 0, n0, .inl f)), (q, .inl (cA 0, N, .inl (zcp f n0)))]) (va_A [(a, .inl (cA 0, n0, .inl f))] sz)) 1 N (va_A [(a, .inl (cA 0, n0, .inl f))] sz) := by
  refine Met.ofW (cc := prog_17_method_123_code) (maxL := 3) (ret := some (.array .int)) (by decide) rfl ?_
  intro p e s m args below meth c s₁ B hml hv
  obtain ⟨rfl, hsz, hP, hK, hD0⟩ := hv
  have hx := B.exec
  have hb := B.bytes
  have hr := B.returns
  have hts0 := atoms_spec (ws := zw y_Arr_copyOf prog_17_method_123_code 3 (some (.array .int))) B.pre
  have hts : ∀ w ∈ zwl, w.before _ s = true := fun w hw => hts0 w (List.mem_cons_of_mem _ hw)
  have hown : s.vm.findClass "java/util/Arrays" = some m.cls := findClass_of_methodNamed B.named
  have hlocks := B.notSynchronized
  have hT := tk_Arr_copyOf
  subst hsz
  have hD := hD0.self (sz := s.heap.size)
  generalize hAe : va_A [(a, .inl (cA 0, n0, .inl f))] s.heap.size = A0 at hD ⊢
  have hA : ∀ q : Nat, s.heap.size ≤ q → A0 q := fun q h => by rw [← hAe]; exact Or.inr h
  have hS : va_S A0 s.heap s.heap [] := va_S.rf
  have hl := lv_entry ([.ref a, .int (nI N)]) (n := 3) (Nat.le_of_ble_eq_true rfl)
  rw [lg_entry_eq]
  generalize (lg_sl ([.ref a, .int (nI N)]) ++ List.replicate (3 - (lg_sl ([.ref a, .int (nI N)])).length) Slot.unset).toArray = ls at hl ⊢
  have hl : lv_has ls 3 [(0, .ref a), (1, .int (nI N))] := hl
  refine zrun_ok hx hb hT 2 0 _ _ (pc' := 2) (lv' := [(0, .ref a), (1, .int (nI N))]) (st' := [.ref a, .int (nI N)]) rfl hl (fun ls hl => ?_)
  refine va_alen (tys := ztys cA) hx hb hK hP 0 0 rfl rfl (v := nI n0) rfl (hT.dec (pc := 2) rfl) ?_
  refine lv_icmp_ne (tgt := 14) hx hb (hT.dec (pc := 3) rfl) (by decide) (fun _ => ?_) (fun q => absurd ((nI_eq (by omega) (by omega)).mp q) (by omega))
  refine zrun_ok hx hb hT 1 14 _ _ (pc' := 15) (lv' := [(0, .ref a), (1, .int (nI N))]) (st' := [.int (nI N)]) rfl hl (fun ls hl => ?_)
  have hcell1 : 0 + 1 ≤ (headSpec (zw y_Arr_copyOf prog_17_method_123_code 3 (some (.array .int))) { frames := 1, cells := 1, slots := N, locals := 40 }).room.cells := Nat.le_refl 1
  have hslot1 : 0 + N ≤ (headSpec (zw y_Arr_copyOf prog_17_method_123_code 3 (some (.array .int))) { frames := 1, cells := 1, slots := N, locals := 40 }).room.slots := by show 0 + N ≤ N; omega
  refine va_newa (atype := .int) (ty := .int) (a0 := (N, .inl (fun _ => 0))) (N' := N) hx hb (hts _ wd_1_43) rfl hK hP hD hS hA (fun _ => rfl) (nI_pos (by omega)) (nI_clamp (by omega)) (by show N * 4 ≤ 536870912; omega) hcell1 hslot1 (hT.dec (pc := 15) rfl) (fun q cB H hK1 hP hD hS => ?_)
  have e : cB = cA 0 := by
    have g1 := (hK.2 0 (cA 0, .int) rfl).2
    have g2 := (hK1.2 5 (cB, .int) rfl).2
    exact Option.some.inj (Eq.trans (Eq.symm g2) g1)
  subst e
  have hP : va_P D zcl [(a, .inl (cA 0, n0, .inl f)), (q, .inl (cA 0, N, .inl (fun _ => 0)))] H := hP
  have hD : va_D A0 [(a, .inl (cA 0, n0, .inl f)), (q, .inl (cA 0, N, .inl (fun _ => 0)))] := hD
  refine zrun_ok hx hb hT 6 17 _ _ (pc' := 23) (lv' := [(0, .ref a), (1, .int (nI N)), (2, .ref q)]) (st' := [.ref a, .int 0, .ref q, .int 0, .ref a]) rfl hl (fun ls hl => ?_)
  refine va_alen (tys := ztys cA) hx hb hK hP 0 0 rfl rfl (v := nI n0) rfl (hT.dec (pc := 23) rfl) ?_
  refine zrun_ok hx hb hT 1 24 _ _ (pc' := 25) (lv' := [(0, .ref a), (1, .int (nI N)), (2, .ref q)]) (st' := [.int (nI N), .int (nI n0), .int 0, .ref q, .int 0, .ref a]) rfl hl (fun ls hl => ?_)
  refine va_mmin hx hb (by rw [hml]; exact hl.1.symm) hown (hts _ wd_1_115) (hts _ wd_1_116) (hts _ wd_1_7) (hts _ wd_1_117) (Nat.le_refl 1) (Nat.le_of_ble_eq_true rfl) (by show 0 + 1 ≤ 1; omega) (by show 0 + N ≤ N; omega) (hT.dec (pc := 25) rfl) ?_
  rw [if_neg (fun q => absurd ((nI_ltI (by omega) (by omega)).mp q) (by omega))]
  refine va_copyi (tys := ztys cA) hx hb (by rw [hml]; exact hl.1.symm) hown (hts _ wd_1_118) (hts _ wd_1_120) (hts _ wd_1_119) (hts _ wd_1_8) hK hP hD hS 0 1 0 0 rfl rfl (ty := .int) rfl rfl rfl (by decide) (by decide) (nI_pos (by omega)) (by rw [nI_clamp (by omega)]; show 0 + n0 ≤ n0; omega) (by rw [nI_clamp (by omega)]; show 0 + n0 ≤ N; omega) (fun _ _ => rfl) (Nat.le_refl 1) (Nat.le_of_ble_eq_true rfl) (hT.dec (pc := 28) rfl) (fun H1 locs1 hP hD hS => ?_)
  have ecp : va_cpy f (fun _ => (0 : Int32)) (0 : Int32).toNatClampNeg (0 : Int32).toNatClampNeg (nI n0).toNatClampNeg = zcp f n0 := by rw [nI_clamp (by omega)]; rfl
  rw [ecp] at hP hD
  have hP : va_P D zcl [(a, .inl (cA 0, n0, .inl f)), (q, .inl (cA 0, N, .inl (zcp f n0)))] H1 := hP
  have hD : va_D A0 [(a, .inl (cA 0, n0, .inl f)), (q, .inl (cA 0, N, .inl (zcp f n0)))] := hD
  refine zrun_ok hx hb hT 1 31 _ _ (pc' := 32) (lv' := [(0, .ref a), (1, .int (nI N)), (2, .ref q)]) (st' := [.ref q]) rfl hl (fun ls hl => ?_)
  refine W.widen (k := 1) (n := N) (by omega) (by omega) ?_
  exact W.aret hx hb hr (Or.inr ⟨_, rfl⟩) (Or.inr ⟨q, rfl⟩) (fun t ht hW => ⟨⟨(), q, rfl, trivial, by rw [ht]; exact hP, hD⟩, hS.F ht⟩) hS.2.2 (hT.dec (pc := 32) rfl)
set_option maxHeartbeats 4000000 in
theorem c_Row_take (k : Nat) (hk : k < 43) : zMet l y_Row_take (zw y_Row_take prog_10_method_6_code 1 (some Jvm.ClassFile.FieldType.int)) 0 0 [.ref (G (11 + k))] D zcl (ztys cA) A (zRep D cA G A) zfc zfs S (zFi (r_take S k)) := by
  have hm : zfc S ≤ zfc (zFi (r_take S k)).1 ∧ zfs S ≤ zfs (zFi (r_take S k)).1 := by
    unfold zFi r_take
    split <;> exact ⟨Nat.le_refl _, Nat.le_refl _⟩
  refine zMet_of hm (by decide) tk_Row_take (Nat.le_of_ble_eq_true rfl) ?_
  intro p e R s m args below meth c hf hlo C0 hK hA
  refine sw_go C0 1 (pc' := 1) (lv' := [(0, .ref (G (11 + k)))]) (st' := [.ref (G (11 + k))]) rfl ?_
  refine sw_rsz C0 hK hk wd_1_37 rfl ?_
  refine ⟨hm.1, hm.2, fun H locs cells slots ls q1 q2 q3 q4 q5 => ?_⟩
  obtain ⟨aa, f, hP, hjj, hAA, hrr⟩ := id q1
  obtain ⟨g1, g2, g3⟩ := hrr k hk
  by_cases hz : 0 < (S.1 k).length
  · have hE : r_take S k = (z_row S k (S.1 k).dropLast, (S.1 k).getLastD 0) := by unfold r_take; rw [if_pos hz]
    rw [hE] at q3 q4 ⊢
    have hval : (S.1 k).getLastD 0 = f k ((S.1 k).length - 1) := by
      rw [g3 _ (by omega), List.getLastD_eq_getLast?, List.getLast?_eq_getElem?]
      rfl
    have C1 := C0
    obtain ⟨hx, hb, hml, hown, hts, hT, hr, hlocks⟩ := C0
    have hgt : (0 : Int32) < nI (S.1 k).length := by rw [← nI_0]; exact (nI_ltI (by omega) (by omega)).mpr hz
    refine lv_if_gt (tgt := 9) hx hb (hT.dec (pc := 4) rfl) (by decide) (fun _ => ?_) (fun q => absurd hgt q)
    have he : (zws 97 (zad G aa) (zct cA G aa f S))[11 + k]? = some (G (11 + k), .inr (0, [.ref (aa k), .int (nI (S.1 k).length)])) := by rw [zws_at (by omega), zct_row hk, zad_lo (by omega)]
    refine zrun_ok hx hb hT 2 9 _ _ (pc' := 11) (lv' := [(0, .ref (G (11 + k)))]) (st' := [.ref (G (11 + k)), .ref (G (11 + k))]) rfl q5 (fun ls hl => ?_)
    refine va_get (D := D) (cl := zcl) (tys := ztys cA) (ws := zws 97 (zad G aa) (zct cA G aa f S)) (ci := 0) hx hb hts i_Row hown hK (zws_P hP) (11 + k) he rfl 1 (by decide) (hts _ wd_1_37) (fun _ h => h) rfl (hT.dec (pc := 11) rfl) ?_
    refine zrun_ok hx hb hT 2 14 _ _ (pc' := 16) (lv' := [(0, .ref (G (11 + k)))]) (st' := [.int (nI (S.1 k).length - 1), .ref (G (11 + k))]) rfl hl (fun ls hl => ?_)
    have en : nI (S.1 k).length - 1 = nI ((S.1 k).length - 1) := by
      obtain ⟨w, hw⟩ : ∃ w, (S.1 k).length = w + 1 := ⟨(S.1 k).length - 1, by omega⟩
      rw [hw]; exact nI_pred w
    rw [en]
    refine va_put (D := D) (cl := zcl) (tys := ztys cA) (ws := zws 97 (zad G aa) (zct cA G aa f S)) (ci := 0) (ty := .int) hx hb hts i_Row t_Row t_Row_ok n_Row hown hK (zws_P hP) (zws_D hjj hAA) q2 (11 + k) he rfl 1 (by decide) (hts _ wd_1_37) (fun _ h9 => h9) rfl (by decide +kernel) rfl rfl (Nat.le_of_ble_eq_true rfl) (hT.dec (pc := 16) rfl) (fun H1 locs1 hP1 hD1 hS1 => ?_)
    have hset : (zws 97 (zad G aa) (zct cA G aa f S)).set (11 + k) (G (11 + k), .inr (0, [.ref (aa k), .int (nI ((S.1 k).length - 1))])) = zws 97 (zad G aa) (zct cA G aa f (z_row S k (S.1 k).dropLast)) := by
      rw [show G (11 + k) = zad G aa (11 + k) from (zad_lo (by omega)).symm, zws_set]
      refine zws_congr (fun _ _ => rfl) (fun i hi => ?_)
      rw [← zct_upR hk i hi, List.length_dropLast]
    have hP1 : va_P D zcl ((zws 97 (zad G aa) (zct cA G aa f S)).set (11 + k) (G (11 + k), .inr (0, [.ref (aa k), .int (nI ((S.1 k).length - 1))]))) H1 := hP1
    have hD1 : va_D A ((zws 97 (zad G aa) (zct cA G aa f S)).set (11 + k) (G (11 + k), .inr (0, [.ref (aa k), .int (nI ((S.1 k).length - 1))]))) := hD1
    rw [hset] at hP1 hD1
    have he1 : (zws 97 (zad G aa) (zct cA G aa f (z_row S k (S.1 k).dropLast)))[11 + k]? = some (G (11 + k), .inr (0, [.ref (aa k), .int (nI ((S.1 k).length - 1))])) := by
      rw [zws_at (by omega), zct_row hk, zad_lo (by omega)]
      simp [z_row, va_up]
    have he2 : (zws 97 (zad G aa) (zct cA G aa f (z_row S k (S.1 k).dropLast)))[54 + k]? = some (aa k, .inl (cA 0, zcap S k, .inl (f k))) := by rw [zws_at (by omega), zct_arr, zad_arr]; rfl
    refine zrun_ok hx hb hT 1 19 _ _ (pc' := 20) (lv' := [(0, .ref (G (11 + k)))]) (st' := [.ref (G (11 + k))]) rfl hl (fun ls hl => ?_)
    refine va_get (D := D) (cl := zcl) (tys := ztys cA) (ci := 0) hx hb hts i_Row hown hK hP1 (11 + k) he1 rfl 0 (by decide) (hts _ wd_1_36) (fun _ h => h) rfl (hT.dec (pc := 20) rfl) ?_
    refine zrun_ok hx hb hT 1 23 _ _ (pc' := 24) (lv' := [(0, .ref (G (11 + k)))]) (st' := [.ref (G (11 + k)), .ref (aa k)]) rfl hl (fun ls hl => ?_)
    refine va_get (D := D) (cl := zcl) (tys := ztys cA) (ci := 0) hx hb hts i_Row hown hK hP1 (11 + k) he1 rfl 1 (by decide) (hts _ wd_1_37) (fun _ h => h) rfl (hT.dec (pc := 24) rfl) ?_
    refine va_iald (D := D) (cl := zcl) (tys := ztys cA) hx hb hK hP1 (54 + k) 0 he2 rfl (vp_in_nI (by omega) (by omega)) (hT.dec (pc := 27) rfl) ?_
    rw [nI_clamp (by omega), ← hval]
    refine (sw_reti C1 (S := z_row S k (S.1 k).dropLast) rfl rfl).2.2 H1 locs1 cells slots ls (zRep_mk hP1 hD1 (fun j hj2 => ?_)) hS1 q3 q4 hl
    obtain ⟨g1, g2, g3⟩ := hrr j hj2
    by_cases ej : j = k
    · subst ej
      simp only [z_row, va_up, if_true]
      refine ⟨by rw [List.length_dropLast]; exact Nat.le_trans (Nat.sub_le _ _) g1, g2, fun i hi => ?_⟩
      rw [List.length_dropLast] at hi
      rw [g3 i (by omega)]
      have hi2 : i < (S.1 j).length := by omega
      simp [List.getD, List.getElem?_dropLast, hi, hi2]
    · simp only [z_row, va_up, ej, if_false]
      exact ⟨g1, g2, g3⟩
  · have hE : r_take S k = (S, -1) := by unfold r_take; rw [if_neg hz]
    rw [hE] at q3 q4 ⊢
    have hle : ¬ (0 : Int32) < nI (S.1 k).length := by rw [show (S.1 k).length = 0 by omega, nI_0]; decide
    exact (sw_if_gtF C0 rfl hle (sw_go C0 1 (pc' := 8) (lv' := [(0, .ref (G (11 + k)))]) (st' := [.int (-1)]) rfl (sw_reti C0 rfl rfl))).2.2 H locs cells slots ls q1 q2 q3 q4 q5
end ZRD
