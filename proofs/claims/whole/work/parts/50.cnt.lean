-- tableswitch; RuleTree.count
section ZTS
variable {p : Program} {l : Launch} {e : Env} {R : Room} {s : State} {m : MethodId} {args : Array Value} {below : List Frame} {meth : Method} {c : Code} {nL : Nat} {A : Nat → Prop} {σ : Type} {Rep : σ → Heap → Prop} {fc fs : σ → Nat} {cc : ByteArray} {T : List zTr} {own : String} {ret : Option FieldType} {S : σ} {pc : Nat} {lv : zLv} {rest : List Value} {E : σ × Option Value}
theorem sw_tin (C0 : zC p s m args meth c cc nL own zwl T ret) {dflt lo hi off : Int} {offs : Array Int} {len tgt tgt0 : Nat} {v0 x : Int32} (hq : T.lookup pc = some (.tableswitch dflt lo hi offs, len, tgt0, v0)) (h1 : ¬ x.toInt < lo) (h2 : ¬ hi < x.toInt) (ho : offs[(x.toInt - lo).toNat]? = some off) (ht : (pc : Int) + off = (tgt : Int)) (k : SW p l e R s m args below meth c nL A Rep fc fs S tgt lv rest E) : SW p l e R s m args below meth c nL A Rep fc fs S pc lv (.int x :: rest) E := by
  obtain ⟨hx, hb, hml, hown, hts, hT, hr, hlocks⟩ := C0
  exact sw_W k (fun H locs cells slots ls h5 k => lv_tableIn hx hb (hT.dec hq) h1 h2 ho ht (k h5))
theorem sw_tout (C0 : zC p s m args meth c cc nL own zwl T ret) {dflt lo hi : Int} {offs : Array Int} {len tgt tgt0 : Nat} {v0 x : Int32} (hq : T.lookup pc = some (.tableswitch dflt lo hi offs, len, tgt0, v0)) (h : x.toInt < lo ∨ hi < x.toInt) (ht : (pc : Int) + dflt = (tgt : Int)) (k : SW p l e R s m args below meth c nL A Rep fc fs S tgt lv rest E) : SW p l e R s m args below meth c nL A Rep fc fs S pc lv (.int x :: rest) E := by
  obtain ⟨hx, hb, hml, hown, hts, hT, hr, hlocks⟩ := C0
  exact sw_W k (fun H locs cells slots ls h5 k => lv_tableOut hx hb (hT.dec hq) h ht (k h5))
end ZTS
section ZCNT
variable {cA : Nat → ClassId} {G : Nat → Nat} {A : Nat → Prop} {D : va_G} {l : Launch}
set_option maxHeartbeats 1000000 in
set_option maxRecDepth 20000 in
theorem c_Tre_count (S : zS) (a1 : Int32) : zMet l y_Tre_count (zw y_Tre_count prog_1_method_20_code 2 (some Jvm.ClassFile.FieldType.int)) 2 43 [.ref (G 0), .int a1] D zcl (ztys cA) A (zRep D cA G A) zfc zfs S (zFp S (f_Tre_count S a1)) := by
  refine zMet_of ⟨Nat.le_refl _, Nat.le_refl _⟩ (by decide) tk_Tre_count (Nat.le_of_ble_eq_true rfl) ?_
  intro p e R s m args below meth c hf hlo C0 hK hA
  unfold f_Tre_count
  refine sw_go C0 1 (pc' := 1) (lv' := [(0, .ref (G 0)), (1, .int a1)]) (st' := [.int a1]) rfl ?_
  refine sw_if (zFp S) (fun h => ?_) (fun n0 => ?_)
  · subst h
    refine sw_tin (tgt := 36) C0 rfl (by decide) (by decide) rfl (by decide) ?_
    refine sw_go C0 1 (pc' := 37) (lv' := [(0, .ref (G 0)), (1, .int 0)]) (st' := [.ref (G 0)]) rfl ?_
    refine sw_getf C0 hK (o := 0) (j := 0) (v := .ref (G 1)) (by decide) rfl i_Tre (by decide) wd_2_81 rfl rfl ?_
    refine sw_cp (As := []) (rest := []) C0 hK hA yk_Fam_size (c_Fam_size S) wd_5_8 rfl rfl ⟨by rw [hf]; decide, by rw [hlo]; decide⟩ (Nat.le_of_ble_eq_true rfl) (zrc_obj (o := 1) hK (by decide) rfl) ?_
    exact sw_reti C0 rfl rfl
  refine sw_if (zFp S) (fun h => ?_) (fun n1 => ?_)
  · subst h
    refine sw_tin (tgt := 44) C0 rfl (by decide) (by decide) rfl (by decide) ?_
    refine sw_go C0 1 (pc' := 45) (lv' := [(0, .ref (G 0)), (1, .int 1)]) (st' := [.ref (G 0)]) rfl ?_
    refine sw_getf C0 hK (o := 0) (j := 1) (v := .ref (G 2)) (by decide) rfl i_Tre (by decide) wd_2_82 rfl rfl ?_
    refine sw_cp (As := []) (rest := []) C0 hK hA yk_Pat_size (c_Pat_size S) wd_3_130 rfl rfl ⟨by rw [hf]; decide, by rw [hlo]; decide⟩ (Nat.le_of_ble_eq_true rfl) (zrc_obj (o := 2) hK (by decide) rfl) ?_
    exact sw_reti C0 rfl rfl
  refine sw_if (zFp S) (fun h => ?_) (fun n2 => ?_)
  · subst h
    refine sw_tin (tgt := 52) C0 rfl (by decide) (by decide) rfl (by decide) ?_
    refine sw_go C0 1 (pc' := 53) (lv' := [(0, .ref (G 0)), (1, .int 2)]) (st' := [.ref (G 0)]) rfl ?_
    refine sw_getf C0 hK (o := 0) (j := 2) (v := .ref (G 3)) (by decide) rfl i_Tre (by decide) wd_2_83 rfl rfl ?_
    refine sw_cp (As := []) (rest := []) C0 hK hA yk_Psh_many (c_Psh_many S) wd_2_196 rfl rfl ⟨by rw [hf]; decide, by rw [hlo]; decide⟩ (Nat.le_of_ble_eq_true rfl) (zrc_obj (o := 3) hK (by decide) rfl) ?_
    exact sw_reti C0 rfl rfl
  refine sw_if (zFp S) (fun h => ?_) (fun n3 => ?_)
  · subst h
    refine sw_tin (tgt := 60) C0 rfl (by decide) (by decide) rfl (by decide) ?_
    refine sw_go C0 1 (pc' := 61) (lv' := [(0, .ref (G 0)), (1, .int 3)]) (st' := [.ref (G 0)]) rfl ?_
    refine sw_getf C0 hK (o := 0) (j := 4) (v := .ref (G 23)) (by decide) rfl i_Tre (by decide) wd_2_85 rfl rfl ?_
    refine sw_cp (As := []) (rest := []) C0 hK hA yk_Row_size (c_Row_size 12 (by decide)) wd_3_58 rfl rfl ⟨by rw [hf]; decide, by rw [hlo]; decide⟩ (Nat.le_of_ble_eq_true rfl) (zrc_row (k := 12) hK (by decide)) ?_
    exact sw_reti C0 rfl rfl
  refine sw_if (zFp S) (fun h => ?_) (fun n4 => ?_)
  · subst h
    refine sw_tin (tgt := 68) C0 rfl (by decide) (by decide) rfl (by decide) ?_
    refine sw_go C0 1 (pc' := 69) (lv' := [(0, .ref (G 0)), (1, .int 4)]) (st' := [.ref (G 0)]) rfl ?_
    refine sw_cp (As := []) (rest := []) C0 hK hA yk_Tre_hasTree (c_Tre_hasTree S) wd_4_69 rfl rfl ⟨by rw [hf]; decide, by rw [hlo]; decide⟩ (Nat.le_of_ble_eq_true rfl) (zrc_obj (o := 0) hK (by decide) rfl) ?_
    refine sw_if_eq (zFp S) C0 rfl (fun h => ?_) (fun h => ?_)
    · refine sw_go C0 1 (pc' := 83) (lv' := [(0, .ref (G 0)), (1, .int 4)]) (st' := [.int 0]) rfl ?_
      exact sw_reti C0 rfl rfl
    · refine sw_go C0 1 (pc' := 76) (lv' := [(0, .ref (G 0)), (1, .int 4)]) (st' := [.ref (G 0)]) rfl ?_
      refine sw_getf C0 hK (o := 0) (j := 11) (v := .int (S.2.2.1 1)) (by decide) rfl i_Tre (by decide) wd_2_92 rfl rfl ?_
      refine sw_go C0 1 (pc' := 83) (lv' := [(0, .ref (G 0)), (1, .int 4)]) (st' := [.int (S.2.2.1 1)]) rfl ?_
      exact sw_reti C0 rfl rfl
  · have hout : a1.toInt < 0 ∨ 4 < a1.toInt := by
      have g0 : ¬ a1.toInt = 0 := fun q => n0 (Int32.toInt_inj.mp (by rw [q]; decide))
      have g1 : ¬ a1.toInt = 1 := fun q => n1 (Int32.toInt_inj.mp (by rw [q]; decide))
      have g2 : ¬ a1.toInt = 2 := fun q => n2 (Int32.toInt_inj.mp (by rw [q]; decide))
      have g3 : ¬ a1.toInt = 3 := fun q => n3 (Int32.toInt_inj.mp (by rw [q]; decide))
      have g4 : ¬ a1.toInt = 4 := fun q => n4 (Int32.toInt_inj.mp (by rw [q]; decide))
      omega
    refine sw_tout (tgt := 84) C0 rfl hout (by decide) ?_
    refine sw_go C0 1 (pc' := 85) (lv' := [(0, .ref (G 0)), (1, .int a1)]) (st' := [.int (-1)]) rfl ?_
    exact sw_reti C0 rfl rfl
end ZCNT
