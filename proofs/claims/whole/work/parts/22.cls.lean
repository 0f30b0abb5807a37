-- receivers; Row.refill; the class's own numbers and bits
section ZCL
variable {cA : Nat → ClassId} {G : Nat → Nat} {S : zS} {A : Nat → Prop} {D : va_G} {l : Launch}
theorem zrc_row {s : State} {k : Nat} (hK : va_K D zcl (ztys cA) s) (hk : k < 43) : ∀ H, zRep D cA G A S H → zRc s "RuleTree$Row" (G (11 + k)) H := fun H h => by
  obtain ⟨aa, f, hP, -⟩ := h
  have hw := hP (11 + k) (by omega)
  rw [zct_row hk, zad_lo (by omega)] at hw
  exact va_recv hK (zP1 hw) (ci := 0) (q0 := 0) rfl rfl
theorem zrc_obj {s : State} {o : Nat} {q : vw_C} (hK : va_K D zcl (ztys cA) s) (ho : o < 10) (hc : zcl[o + 1]? = some q) : ∀ H, zRep D cA G A S H → zRc s q.1 (G o) H := fun H h => by
  obtain ⟨aa, f, hP, -⟩ := h
  have hw := hP o (by omega)
  rw [zct_obj ho, zad_lo (by omega)] at hw
  exact va_recv hK (zP1 hw) (ci := o + 1) (q0 := 0) hc rfl
theorem z_fl_mono {k : Nat} (hk : k < 43) (v : Int32) : ∀ n, zfc S ≤ zfc (z_fl S k v n) ∧ zfs S ≤ zfs (z_fl S k v n) := by
  intro n
  induction n with
  | zero => exact ⟨Nat.le_refl _, Nat.le_refl _⟩
  | succ n ih =>
    have := r_add_mono (S := z_fl S k v n) hk v
    exact ⟨Nat.le_trans ih.1 this.1, Nat.le_trans ih.2 this.2⟩
set_option maxHeartbeats 4000000 in
theorem c_Row_refill (k : Nat) (hk : k < 43) (a1 a2 : Int32) : zMet l y_Row_refill (zw y_Row_refill prog_10_method_8_code 4 none) 3 83 [.ref (G (11 + k)), .int a1, .int a2] D zcl (ztys cA) A (zRep D cA G A) zfc zfs S (zFv (r_fill S k a1 a2)) := by
  refine zMet_of (z_fl_mono hk a2 _) (by decide) tk_Row_refill (Nat.le_of_ble_eq_true rfl) ?_
  intro p e R s m args below meth c hf hlo C0 hK hA
  refine sw_go C0 2 (pc' := 2) (lv' := [(0, .ref (G (11 + k))), (1, .int a1), (2, .int a2)]) (st' := [.int 0, .ref (G (11 + k))]) rfl ?_
  refine sw_rput C0 hK hk (n := 0) wd_1_37 rfl (Nat.zero_le _) nI_0.symm ?_
  rw [List.take_zero]
  refine sw_go C0 2 (pc' := 7) (lv' := [(0, .ref (G (11 + k))), (1, .int a1), (2, .int a2), (3, .int 0)]) (st' := []) rfl ?_
  have loop : ∀ d j, j + d = a1.toInt.toNat → zSW p l e R s m args below meth c 4 A D cA G (z_fl S k a2 j) 7 [(0, .ref (G (11 + k))), (1, .int a1), (2, .int a2), (3, .int (nI j))] [] (zFv (r_fill S k a1 a2)) := by
    intro d
    have hb : a1.toInt < 2147483648 := Int32.toInt_lt a1
    induction d with
    | zero =>
      intro j hj
      refine sw_go C0 2 (pc' := 9) (lv' := [(0, .ref (G (11 + k))), (1, .int a1), (2, .int a2), (3, .int (nI j))]) (st' := [.int a1, .int (nI j)]) rfl ?_
      have hge : a1 ≤ nI j := by
        rw [Int32.le_iff_toInt_le, nI_toInt (by omega)]
        omega
      refine sw_icmp_geT C0 rfl hge ?_
      exact sw_retv C0 rfl (by unfold r_fill; rw [← hj]; rfl)
    | succ d ih =>
      intro j hj
      refine sw_go C0 2 (pc' := 9) (lv' := [(0, .ref (G (11 + k))), (1, .int a1), (2, .int a2), (3, .int (nI j))]) (st' := [.int a1, .int (nI j)]) rfl ?_
      have hge : ¬ a1 ≤ nI j := by
        rw [Int32.le_iff_toInt_le, nI_toInt (by omega)]
        omega
      refine sw_icmp_geF C0 rfl hge ?_
      refine sw_go C0 2 (pc' := 14) (lv' := [(0, .ref (G (11 + k))), (1, .int a1), (2, .int a2), (3, .int (nI j))]) (st' := [.int a2, .ref (G (11 + k))]) rfl ?_
      refine sw_callV (As := [.int a2]) (rest := []) C0 hK hA yk_Row_add (c_Row_add k hk a2) wd_1_100 rfl rfl ⟨by rw [hf]; decide, by rw [hlo]; decide⟩ (by decide) (zrc_row hK hk) ?_
      refine sw_go C0 3 (pc' := 7) (lv' := [(0, .ref (G (11 + k))), (1, .int a1), (2, .int a2), (3, .int (nI j + 1))]) (st' := []) rfl ?_
      rw [nI_1]
      exact ih (j + 1) (by omega)
  exact loop _ 0 (Nat.zero_add _)
/-- which object holds a number -/
def zsco : Nat → Nat
  | 0 => 0
  | 1 => 0
  | 2 => 3
  | 3 => 8
  | _ => 9
/-- a number of the class is put -/
theorem zobj_sc {o q : Nat} {x : Int32} (h : ¬ o = zsco q) (ho : o < 10) (hq : q < 5) : zobj G (z_sc S q x) o = zobj G S o := by
  match q, hq with
  | 0, _ => match o, ho, h with
    | 0, _, h => exact absurd rfl h
    | 1, _, _ => rfl
    | 2, _, _ => rfl
    | 3, _, _ => rfl
    | 4, _, _ => rfl
    | 5, _, _ => rfl
    | 6, _, _ => rfl
    | 7, _, _ => rfl
    | 8, _, _ => rfl
    | 9, _, _ => rfl
  | 1, _ => match o, ho, h with
    | 0, _, h => exact absurd rfl h
    | 1, _, _ => rfl
    | 2, _, _ => rfl
    | 3, _, _ => rfl
    | 4, _, _ => rfl
    | 5, _, _ => rfl
    | 6, _, _ => rfl
    | 7, _, _ => rfl
    | 8, _, _ => rfl
    | 9, _, _ => rfl
  | 2, _ => match o, ho, h with
    | 3, _, h => exact absurd rfl h
    | 0, _, _ => rfl
    | 1, _, _ => rfl
    | 2, _, _ => rfl
    | 4, _, _ => rfl
    | 5, _, _ => rfl
    | 6, _, _ => rfl
    | 7, _, _ => rfl
    | 8, _, _ => rfl
    | 9, _, _ => rfl
  | 3, _ => match o, ho, h with
    | 8, _, h => exact absurd rfl h
    | 0, _, _ => rfl
    | 1, _, _ => rfl
    | 2, _, _ => rfl
    | 3, _, _ => rfl
    | 4, _, _ => rfl
    | 5, _, _ => rfl
    | 6, _, _ => rfl
    | 7, _, _ => rfl
    | 9, _, _ => rfl
  | 4, _ => match o, ho, h with
    | 9, _, h => exact absurd rfl h
    | 0, _, _ => rfl
    | 1, _, _ => rfl
    | 2, _, _ => rfl
    | 3, _, _ => rfl
    | 4, _, _ => rfl
    | 5, _, _ => rfl
    | 6, _, _ => rfl
    | 7, _, _ => rfl
    | 8, _, _ => rfl
section RULES
variable {p : Program} {e : Env} {R : Room} {s : State} {m : MethodId} {args : Array Value} {below : List Frame} {meth : Method} {c : Code} {nL : Nat} {cc : ByteArray} {T : List zTr} {own : String} {ret : Option FieldType} {pc : Nat} {lv : zLv} {rest : List Value} {E : zS × Option Value}
theorem sw_putf (C0 : zC p s m args meth c cc nL own zwl T ret) (hK : va_K D zcl (ztys cA) s) {o j q idx tgt N : Nat} {v0 x : Int32} {Cn : String} {Tf : u_T} {ty0 : Nat → FieldType} (ho : o < 10) (hq5 : q < 5) (hoq : o = zsco q) (hc : zcl[o + 1]? = some (Cn, Tf, N)) (hin : ∀ w ∈ u_ws Cn Tf N, w ∈ zwl) (hty : ∀ k, k < N → parseFieldDescriptor (Tf k).2.2.1 = some (ty0 k)) (hnm : ∀ a, a < N → ∀ b, b < N → a ≠ b → (Tf a).2.1 ≠ (Tf b).2.1) (hj : j < N) (hjl : j < (zobj G S o).length) (hfin : (Tf j).2.2.2 = false) (hd : parseFieldDescriptor (Tf j).2.2.1 = some .int) (hl : Cond.fieldLink own idx (Tf j).1 (Tf j).2.1 (Tf j).2.2.1 ∈ zwl) (hset : (zobj G S o).set j (.int x) = zobj G (z_sc S q x) o) (hq : T.lookup pc = some (.putfield idx, 3, tgt, v0))
    (kk : zSW p l e R s m args below meth c nL A D cA G (z_sc S q x) (pc + 3) lv rest E) : zSW p l e R s m args below meth c nL A D cA G S pc lv (.int x :: .ref (G o) :: rest) E := by
  obtain ⟨hx, hb, hml, hown, hts, hT, hr, hlocks⟩ := C0
  refine ⟨kk.1, kk.2.1, fun H locs cells slots ls h1 h2 h3 h4 h5 => ?_⟩
  obtain ⟨aa, f, hP, hjj, hAA, hrr⟩ := id h1
  have he : (zws 97 (zad G aa) (zct cA G aa f S))[o]? = some (G o, .inr (o + 1, zobj G S o)) := by rw [zws_at (by omega), zct_obj ho, zad_lo (by omega)]
  refine va_put (D := D) (cl := zcl) (tys := ztys cA) (ci := o + 1) (ty := .int) hx hb hts hin ty0 hty hnm hown hK (zws_P hP) (zws_D hjj hAA) h2 o he hc j hj (hts _ hl) (fun _ h9 => h9) hfin hd rfl rfl hjl (hT.dec hq) (fun H1 locs1 hP1 hD1 hS1 => ?_)
  have hs : (zws 97 (zad G aa) (zct cA G aa f S)).set o (G o, .inr (o + 1, (zobj G S o).set j (.int x))) = zws 97 (zad G aa) (zct cA G aa f (z_sc S q x)) := by
    rw [show G o = zad G aa o from (zad_lo (by omega)).symm, zws_set]
    refine zws_congr (fun _ _ => rfl) (fun i hi => ?_)
    by_cases ei : i = o
    · subst ei
      rw [zct_obj ho]
      simp [va_up, hset]
    · simp only [va_up, ei, if_false]
      by_cases a : i < 10
      · rw [zct_obj a, zct_obj a, zobj_sc (by rw [← hoq]; exact ei) a hq5]
      · unfold zct
        rw [if_neg a, if_neg a]
        rfl
  rw [hs] at hP1 hD1
  exact kk.2.2 H1 locs1 cells slots ls (zRep_mk hP1 hD1 hrr) hS1 h3 h4 h5
theorem sw_laln (C0 : zC p s m args meth c cc nL own zwl T ret) (hK : va_K D zcl (ztys cA) s) {tgt : Nat} {v0 : Int32} (hq : T.lookup pc = some (.arraylength, 1, tgt, v0))
    (kk : zSW p l e R s m args below meth c nL A D cA G S (pc + 1) lv (.int 1024 :: rest) E) : zSW p l e R s m args below meth c nL A D cA G S pc lv (.ref (G 10) :: rest) E := by
  obtain ⟨hx, hb, hml, hown, hts, hT, hr, hlocks⟩ := C0
  refine ⟨kk.1, kk.2.1, fun H locs cells slots ls h1 h2 h3 h4 h5 => ?_⟩
  obtain ⟨aa, f, hP, hrest⟩ := id h1
  have hw := hP 10 (by omega)
  rw [zct_la, zad_lo (by omega)] at hw
  exact va_alen (D := D) (cl := zcl) (tys := ztys cA) hx hb hK (zP1 hw) 0 1 rfl rfl rfl (hT.dec hq) (kk.2.2 H locs cells slots ls h1 h2 h3 h4 h5)
theorem sw_lald (C0 : zC p s m args meth c cc nL own zwl T ret) (hK : va_K D zcl (ztys cA) s) {tgt : Nat} {v0 i : Int32} (h0 : ¬ i < 0) (hi : i < 1024) (hq : T.lookup pc = some (.laload, 1, tgt, v0))
    (kk : zSW p l e R s m args below meth c nL A D cA G S (pc + 1) lv (.long (S.2.2.2 i.toNatClampNeg) :: rest) E) : zSW p l e R s m args below meth c nL A D cA G S pc lv (.int i :: .ref (G 10) :: rest) E := by
  obtain ⟨hx, hb, hml, hown, hts, hT, hr, hlocks⟩ := C0
  refine ⟨kk.1, kk.2.1, fun H locs cells slots ls h1 h2 h3 h4 h5 => ?_⟩
  obtain ⟨aa, f, hP, hrest⟩ := id h1
  have hw := hP 10 (by omega)
  rw [zct_la, zad_lo (by omega)] at hw
  obtain ⟨j, hj, rfl⟩ := nI_of h0
  have hj2 : j < 1024 := (nI_ltI (b := 1024) hj (by omega)).mp hi
  exact va_lald (D := D) (cl := zcl) (tys := ztys cA) hx hb hK (zP1 hw) 0 1 rfl rfl (vp_in_nI hj2 (by omega)) (hT.dec hq) (kk.2.2 H locs cells slots ls h1 h2 h3 h4 h5)
theorem sw_last (C0 : zC p s m args meth c cc nL own zwl T ret) (hK : va_K D zcl (ztys cA) s) {tgt : Nat} {v0 i : Int32} {x : Int64} (h0 : ¬ i < 0) (hi : i < 1024) (hq : T.lookup pc = some (.lastore, 1, tgt, v0))
    (kk : zSW p l e R s m args below meth c nL A D cA G (z_lg S i.toNatClampNeg x) (pc + 1) lv rest E) : zSW p l e R s m args below meth c nL A D cA G S pc lv (.long x :: .int i :: .ref (G 10) :: rest) E := by
  obtain ⟨hx, hb, hml, hown, hts, hT, hr, hlocks⟩ := C0
  refine ⟨kk.1, kk.2.1, fun H locs cells slots ls h1 h2 h3 h4 h5 => ?_⟩
  obtain ⟨aa, f, hP, hjj, hAA, hrr⟩ := id h1
  have he : (zws 97 (zad G aa) (zct cA G aa f S))[10]? = some (G 10, .inl (cA 1, 1024, .inr (.inl S.2.2.2))) := by rw [zws_at (by omega), zct_la, zad_lo (by omega)]
  obtain ⟨j, hj, rfl⟩ := nI_of h0
  have hj2 : j < 1024 := (nI_ltI (b := 1024) hj (by omega)).mp hi
  refine va_last (D := D) (cl := zcl) (tys := ztys cA) hx hb hK (zws_P hP) (zws_D hjj hAA) h2 10 1 he rfl (vp_in_nI hj2 (by omega)) (hT.dec hq) (fun H1 locs1 hP1 hD1 hS1 => ?_)
  have hs : (zws 97 (zad G aa) (zct cA G aa f S)).set 10 (G 10, .inl (cA 1, 1024, .inr (.inl (vp_updL S.2.2.2 (nI j).toNatClampNeg x)))) = zws 97 (zad G aa) (zct cA G aa f (z_lg S (nI j).toNatClampNeg x)) := by
    rw [show G 10 = zad G aa 10 from (zad_lo (by omega)).symm, zws_set]
    refine zws_congr (fun _ _ => rfl) (fun i hi => ?_)
    by_cases ei : i = 10
    · subst ei
      rw [zct_la]
      simp [va_up]
      rfl
    · simp only [va_up, ei, if_false]
      unfold zct
      by_cases a : i < 10
      · rw [if_pos a, if_pos a]
        have : ∀ o, zobj G (z_lg S (nI j).toNatClampNeg x) o = zobj G S o := fun o => by unfold zobj; rfl
        rw [this]
      · rw [if_neg a, if_neg a, if_neg ei, if_neg ei]
        rfl
  rw [hs] at hP1 hD1
  exact kk.2.2 H1 locs1 cells slots ls (zRep_mk hP1 hD1 hrr) hS1 h3 h4 h5
end RULES
end ZCL
