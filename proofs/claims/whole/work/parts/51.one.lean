-- ONE ROW ALONE (as the constructors have it): the same contracts over a world of two cells
def uad (G aa : Nat → Nat) (i : Nat) : Nat := if i < 1 then G i else aa (i - 1)
def uct (cA : Nat → ClassId) (G aa : Nat → Nat) (f : Nat → Nat → Int32) (S : zS) (i : Nat) : va_E :=
  if i < 1 then .inr (0, [.ref (aa i), .int (nI (S.1 i).length)]) else .inl (cA 0, zcap S (i - 1), .inl (f (i - 1)))
def uRep (D : va_G) (cA : Nat → ClassId) (G : Nat → Nat) (A : Nat → Prop) (S : zS) (H : Heap) : Prop := ∃ (aa : Nat → Nat) (f : Nat → Nat → Int32),
  (∀ i, i < 2 → va_at D zcl (uad G aa i, uct cA G aa f S i) H) ∧ (∀ i j, i < 2 → j < 2 → uad G aa i = uad G aa j → i = j) ∧ (∀ i, i < 2 → A (uad G aa i)) ∧ ∀ k, k < 1 → (S.1 k).length ≤ zcap S k ∧ zcap S k ≤ 4194304 ∧ ∀ i, i < (S.1 k).length → f k i = (S.1 k).getD i 0
def ufc (S : zS) : Nat := zsum S.2.1 1
def ufs (S : zS) : Nat := zsum (fun k => 2 * zcap S k) 1
section UROW
variable {cA : Nat → ClassId} {G aa : Nat → Nat} {f : Nat → Nat → Int32} {S : zS} {k i : Nat}
theorem uct_row (hk : k < 1) : uct cA G aa f S (0 + k) = .inr (0, [.ref (aa k), .int (nI (S.1 k).length)]) := by
  unfold uct
  rw [if_pos (by omega), show 0 + k = k by omega]
theorem uct_arr : uct cA G aa f S (1 + k) = .inl (cA 0, zcap S k, .inl (f k)) := by
  unfold uct
  rw [if_neg (by omega), show 1 + k - 1 = k by omega]
theorem uad_lo (h : i < 1) : uad G aa i = G i := if_pos h
theorem uad_arr : uad G aa (1 + k) = aa k := by unfold uad; rw [if_neg (by omega), show 1 + k - 1 = k by omega]
variable {p : Program} {l : Launch} {e : Env} {R : Room} {s : State} {m : MethodId} {args : Array Value} {below : List Frame} {meth : Method} {c : Code} {nL : Nat} {A : Nat → Prop} {cc : ByteArray} {T : List zTr} {own : String} {ret : Option FieldType} {D : va_G} {pc : Nat} {lv : zLv} {st rest : List Value} {E : zS × Option Value}
abbrev uSW (p : Program) (l : Launch) (e : Env) (R : Room) (s : State) (m : MethodId) (args : Array Value) (below : List Frame) (meth : Method) (c : Code) (nL : Nat) (A : Nat → Prop) (D : va_G) (cA : Nat → ClassId) (G : Nat → Nat) (S : zS) (pc : Nat) (lv : zLv) (st : List Value) (E : zS × Option Value) : Prop := SW p l e R s m args below meth c nL A (uRep D cA G A) ufc ufs S pc lv st E
/-- the row's size is read -/
theorem u_rsz (C0 : zC p s m args meth c cc nL own zwl T ret) (hK : va_K D zcl (ztys cA) s) {idx tgt : Nat} {v0 : Int32} (hk : k < 1) (hl : Cond.fieldLink own idx (F_Row 1).1 (F_Row 1).2.1 (F_Row 1).2.2.1 ∈ zwl) (hq : T.lookup pc = some (.getfield idx, 3, tgt, v0))
    (kk : uSW p l e R s m args below meth c nL A D cA G S (pc + 3) lv (.int (nI (S.1 k).length) :: rest) E) : uSW p l e R s m args below meth c nL A D cA G S pc lv (.ref (G (0 + k)) :: rest) E := by
  obtain ⟨hx, hb, hml, hown, hts, hT, hr, hlocks⟩ := C0
  refine ⟨kk.1, kk.2.1, fun H locs cells slots ls h1 h2 h3 h4 h5 => ?_⟩
  obtain ⟨aa, f, hP, hrest⟩ := id h1
  have hw := hP (0 + k) (by omega)
  rw [uct_row hk, uad_lo (by omega)] at hw
  exact va_get (D := D) (cl := zcl) (tys := ztys cA) (ws := [(G (0 + k), .inr (0, [.ref (aa k), .int (nI (S.1 k).length)]))]) (ci := 0) hx hb hts i_Row hown hK (zP1 hw) 0 rfl rfl 1 (by decide) (hts _ hl) (fun _ h => h) rfl (hT.dec hq) (kk.2.2 H locs cells slots ls h1 h2 h3 h4 h5)
/-- the array's length is read: getfield cells, arraylength -/
theorem u_rlen (C0 : zC p s m args meth c cc nL own zwl T ret) (hK : va_K D zcl (ztys cA) s) {idx tgt tgt2 : Nat} {v0 v2 : Int32} (hk : k < 1) (hl : Cond.fieldLink own idx (F_Row 0).1 (F_Row 0).2.1 (F_Row 0).2.2.1 ∈ zwl) (hq : T.lookup pc = some (.getfield idx, 3, tgt, v0)) (hq2 : T.lookup (pc + 3) = some (.arraylength, 1, tgt2, v2))
    (kk : uSW p l e R s m args below meth c nL A D cA G S (pc + 3 + 1) lv (.int (nI (zcap S k)) :: rest) E) : uSW p l e R s m args below meth c nL A D cA G S pc lv (.ref (G (0 + k)) :: rest) E := by
  obtain ⟨hx, hb, hml, hown, hts, hT, hr, hlocks⟩ := C0
  refine ⟨kk.1, kk.2.1, fun H locs cells slots ls h1 h2 h3 h4 h5 => ?_⟩
  obtain ⟨aa, f, hP, hrest⟩ := id h1
  have hw := hP (0 + k) (by omega)
  rw [uct_row hk, uad_lo (by omega)] at hw
  have hw2 := hP (1 + k) (by omega)
  rw [uct_arr, uad_arr] at hw2
  refine va_get (D := D) (cl := zcl) (tys := ztys cA) (ws := [(G (0 + k), .inr (0, [.ref (aa k), .int (nI (S.1 k).length)]))]) (ci := 0) hx hb hts i_Row hown hK (zP1 hw) 0 rfl rfl 0 (by decide) (hts _ hl) (fun _ h => h) rfl (hT.dec hq) ?_
  exact va_alen (D := D) (cl := zcl) (tys := ztys cA) (ws := [(aa k, .inl (cA 0, zcap S k, .inl (f k)))]) hx hb hK (zP1 hw2) 0 0 rfl rfl rfl (hT.dec hq2) (kk.2.2 H locs cells slots ls h1 h2 h3 h4 h5)
/-- the world behind a change of one row's cells: others stay -/
theorem uRep_mk {aa' : Nat → Nat} {f' : Nat → Nat → Int32} {S' : zS} {H : Heap} (hP : va_P D zcl (zws 2 (uad G aa') (uct cA G aa' f' S')) H) (hD : va_D A (zws 2 (uad G aa') (uct cA G aa' f' S'))) (hr : ∀ k, k < 1 → (S'.1 k).length ≤ zcap S' k ∧ zcap S' k ≤ 4194304 ∧ ∀ i, i < (S'.1 k).length → f' k i = (S'.1 k).getD i 0) : uRep D cA G A S' H :=
  ⟨aa', f', fun i hi => zws_Pi hP hi, fun i j hi hj e => hD.1 i j _ _ (zws_at hi) (zws_at hj) e, fun i hi => hD.2 i _ (zws_at hi), hr⟩
theorem uct_upA {g : Nat → Int32} : ∀ i, i < 2 → va_up (uct cA G aa f S) (1 + k) (.inl (cA 0, zcap S k, .inl g)) i = uct cA G aa (va_up f k g) S i := by
  intro i hi
  by_cases hk : i = 1 + k
  · subst hk
    rw [uct_arr]
    simp [va_up]
  · simp only [va_up, hk, if_false]
    unfold uct
    by_cases d : i < 1
    · rw [if_pos d, if_pos d]
    · rw [if_neg d, if_neg d]
      have : ¬ i - 1 = k := by omega
      simp [va_up, this]
theorem uct_upR {x : List Int32} (hk : k < 1) : ∀ i, i < 2 → va_up (uct cA G aa f S) (0 + k) (.inr (0, [.ref (aa k), .int (nI x.length)])) i = uct cA G aa f (z_row S k x) i := by
  intro i hi
  by_cases h : i = 0 + k
  · subst h
    rw [uct_row hk]
    simp [va_up, z_row]
  · simp only [va_up, h, if_false]
    unfold uct
    by_cases d : i < 1
    · exact absurd (show i = 0 + k by omega) h
    · rw [if_neg d, if_neg d]
      rfl
end UROW
section URC
variable {cA : Nat → ClassId} {G : Nat → Nat} {S : zS} {A : Nat → Prop} {D : va_G} {l : Launch}
/-- the size is put: the list is cut -/
theorem u_rput {p : Program} {e : Env} {R : Room} {s : State} {m : MethodId} {args : Array Value} {below : List Frame} {meth : Method} {c : Code} {nL : Nat} {cc : ByteArray} {T : List zTr} {own : String} {ret : Option FieldType} {pc : Nat} {lv : zLv} {rest : List Value} {E : zS × Option Value} (C0 : zC p s m args meth c cc nL own zwl T ret) (hK : va_K D zcl (ztys cA) s) {idx tgt n k : Nat} {v0 v : Int32} (hk : k < 1) (hl : Cond.fieldLink own idx (F_Row 1).1 (F_Row 1).2.1 (F_Row 1).2.2.1 ∈ zwl) (hq : T.lookup pc = some (.putfield idx, 3, tgt, v0)) (hn : n ≤ (S.1 k).length) (hv : v = nI n)
    (kk : uSW p l e R s m args below meth c nL A D cA G (z_row S k ((S.1 k).take n)) (pc + 3) lv rest E) : uSW p l e R s m args below meth c nL A D cA G S pc lv (.int v :: .ref (G (0 + k)) :: rest) E := by
  obtain ⟨hx, hb, hml, hown, hts, hT, hr, hlocks⟩ := C0
  refine ⟨kk.1, kk.2.1, fun H locs cells slots ls h1 h2 h3 h4 h5 => ?_⟩
  obtain ⟨aa, f, hP, hj, hA, hrr⟩ := id h1
  have he : (zws 2 (uad G aa) (uct cA G aa f S))[0 + k]? = some (G (0 + k), .inr (0, [.ref (aa k), .int (nI (S.1 k).length)])) := by rw [zws_at (by omega), uct_row hk, uad_lo (by omega)]
  refine va_put (D := D) (cl := zcl) (tys := ztys cA) (ws := zws 2 (uad G aa) (uct cA G aa f S)) (ci := 0) (ty := .int) hx hb hts i_Row t_Row t_Row_ok n_Row hown hK (zws_P hP) (zws_D hj hA) h2 (0 + k) he rfl 1 (by decide) (hts _ hl) (fun _ h9 => h9) rfl (by decide +kernel) rfl rfl (Nat.le_of_ble_eq_true rfl) (hT.dec hq) (fun H1 locs1 hP1 hD1 hS1 => ?_)
  have hset : (zws 2 (uad G aa) (uct cA G aa f S)).set (0 + k) (G (0 + k), .inr (0, [.ref (aa k), .int v])) = zws 2 (uad G aa) (uct cA G aa f (z_row S k ((S.1 k).take n))) := by
    rw [show G (0 + k) = uad G aa (0 + k) from (uad_lo (by omega)).symm, zws_set]
    refine zws_congr (fun _ _ => rfl) (fun i hi => ?_)
    rw [← uct_upR hk i hi, hv, List.length_take, Nat.min_eq_left hn]
  have hP1 : va_P D zcl ((zws 2 (uad G aa) (uct cA G aa f S)).set (0 + k) (G (0 + k), .inr (0, [.ref (aa k), .int v]))) H1 := hP1
  have hD1 : va_D A ((zws 2 (uad G aa) (uct cA G aa f S)).set (0 + k) (G (0 + k), .inr (0, [.ref (aa k), .int v]))) := hD1
  rw [hset] at hP1 hD1
  refine kk.2.2 H1 locs1 cells slots ls (uRep_mk hP1 hD1 (fun j hj2 => ?_)) hS1 h3 h4 h5
  obtain ⟨g1, g2, g3⟩ := hrr j hj2
  by_cases ej : j = k
  · subst ej
    simp only [z_row, va_up, if_true]
    refine ⟨Nat.le_trans (by rw [List.length_take]; exact Nat.min_le_right _ _) g1, g2, fun i hi => ?_⟩
    rw [List.length_take] at hi
    rw [g3 i (by omega)]
    simp [List.getD, show i < n by omega]
  · simp only [z_row, va_up, ej, if_false]
    exact ⟨g1, g2, g3⟩
theorem ufc_grow {k : Nat} (hk : k < 1) : ufc (z_grow S k) = ufc S + 1 := by
  have := zsum_up (h := S.2.1) (k := k) (x := S.2.1 k + 1) (n := 1) hk
  unfold ufc z_grow
  dsimp only
  omega
theorem ufs_grow {k : Nat} (hk : k < 1) : ufs (z_grow S k) = ufs S + zcap S k * 2 := by
  have h1 := zsum_up (h := fun j => 2 * zcap S j) (k := k) (x := 2 * (zcap S k * 2)) (n := 1) hk
  have h2 : ufs (z_grow S k) = zsum (va_up (fun j => 2 * zcap S j) k (2 * (zcap S k * 2))) 1 := by
    unfold ufs
    refine zsum_congr (fun i hi => ?_)
    by_cases e : i = k
    · subst e; simp only [va_up, if_true]; rw [zcap_grow]
    · simp only [va_up, e, if_false]; rw [zcap_grow' e]
  rw [h2]
  unfold ufs
  omega
theorem u_more_mono {k : Nat} (hk : k < 1) : ufc S ≤ ufc (r_more S k) ∧ ufs S ≤ ufs (r_more S k) := by
  unfold r_more
  split
  · exact ⟨Nat.le_refl _, Nat.le_refl _⟩
  · split
    · exact ⟨Nat.le_refl _, Nat.le_refl _⟩
    · rw [ufc_grow hk, ufs_grow hk]; omega
theorem u_add_mono {k : Nat} (hk : k < 1) (v : Int32) : ufc S ≤ ufc (r_add S k v).1 ∧ ufs S ≤ ufs (r_add S k v).1 := by
  unfold r_add
  split
  · exact u_more_mono hk
  · exact u_more_mono hk
section UGROW
variable {p : Program} {e : Env} {R : Room} {s : State} {m : MethodId} {args : Array Value} {below : List Frame} {meth : Method} {c : Code} {E : zS × Option Value}
set_option maxHeartbeats 8000000 in
theorem u_grow {k : Nat} {a1 : Int32} (hk : k < 1) (hf : R.frames = 2) (hlo : R.locals = 62) (C0 : zC p s m args meth c prog_10_method_5_code 2 "RuleTree$Row" zwl T_Row_add (some .int)) (hK : va_K D zcl (ztys cA) s) (hA : ∀ q, s.heap.size ≤ q → A q) (hcap : zcap S k ≤ 2097152)
    (kk : uSW p l e R s m args below meth c 2 A D cA G (z_grow S k) 40 [(0, .ref (G (0 + k))), (1, .int a1)] [] E) : uSW p l e R s m args below meth c 2 A D cA G S 22 [(0, .ref (G (0 + k))), (1, .int a1)] [] E := by
  have hc0 : 0 < zcap S k := by unfold zcap; exact Nat.mul_pos (by decide) (Nat.pow_pos (by decide))
  have m1 := ufc_grow (S := S) hk
  have m2 := ufs_grow (S := S) hk
  refine ⟨by have := kk.1; omega, by have := kk.2.1; omega, fun H locs cells slots ls q1 q2 q3 q4 q5 => ?_⟩
  have k1 := kk.1
  have k2 := kk.2.1
  obtain ⟨aa, f, hP, hjj, hAA, hrr⟩ := id q1
  obtain ⟨hx, hb, hml, hown, hts, hT, hr, hlocks⟩ := C0
  have he : (zws 2 (uad G aa) (uct cA G aa f S))[0 + k]? = some (G (0 + k), .inr (0, [.ref (aa k), .int (nI (S.1 k).length)])) := by rw [zws_at (by omega), uct_row hk, uad_lo (by omega)]
  have he2 : (zws 2 (uad G aa) (uct cA G aa f S))[1 + k]? = some (aa k, .inl (cA 0, zcap S k, .inl (f k))) := by rw [zws_at (by omega), uct_arr, uad_arr]
  have hw2 : va_at D zcl (aa k, .inl (cA 0, zcap S k, .inl (f k))) H := by
    have h := hP (1 + k) (by omega)
    rwa [uct_arr, uad_arr] at h
  refine zrun_ok hx hb hT 2 22 _ _ (pc' := 24) (lv' := [(0, .ref (G (0 + k))), (1, .int a1)]) (st' := [.ref (G (0 + k)), .ref (G (0 + k))]) rfl q5 (fun ls hl => ?_)
  refine va_get (D := D) (cl := zcl) (tys := ztys cA) (ci := 0) hx hb hts i_Row hown hK (zws_P hP) (0 + k) he rfl 0 (by decide) (hts _ wd_1_36) (fun _ h => h) rfl (hT.dec (pc := 24) rfl) ?_
  refine zrun_ok hx hb hT 1 27 _ _ (pc' := 28) (lv' := [(0, .ref (G (0 + k))), (1, .int a1)]) (st' := [.ref (G (0 + k)), .ref (aa k), .ref (G (0 + k))]) rfl hl (fun ls hl => ?_)
  refine va_get (D := D) (cl := zcl) (tys := ztys cA) (ci := 0) hx hb hts i_Row hown hK (zws_P hP) (0 + k) he rfl 0 (by decide) (hts _ wd_1_36) (fun _ h => h) rfl (hT.dec (pc := 28) rfl) ?_
  refine va_alen (D := D) (cl := zcl) (tys := ztys cA) hx hb hK (zws_P hP) (1 + k) 0 he2 rfl (v := nI (zcap S k)) rfl (hT.dec (pc := 31) rfl) ?_
  refine zrun_ok hx hb hT 2 32 _ _ (pc' := 34) (lv' := [(0, .ref (G (0 + k))), (1, .int a1)]) (st' := [.int (nI (zcap S k) * 2), .ref (aa k), .ref (G (0 + k))]) rfl hl (fun ls hl => ?_)
  rw [show nI (zcap S k) * 2 = nI (zcap S k * 2) from pk_mul _ 2]
  have hG : GoodIn zwl (va_wsS "RuleTree$Row" 20 y_Arr_copyOf (zw y_Arr_copyOf prog_17_method_123_code 3 (some (.array .int)))) := by
    intro w hw
    rcases List.mem_append.mp hw with h | h
    · have : w = .methodLink "RuleTree$Row" 20 y_Arr_copyOf ∨ w = .static y_Arr_copyOf ∨ w = .initialized y_Arr_copyOf.cls := by simpa using h
      rcases this with rfl | rfl | rfl
      · exact zgood _ wd_1_105
      · exact zgood _ wd_1_106
      · exact zgood _ wd_1_6
    · rcases List.mem_cons.mp h with rfl | h
      · exact zgood _ wd_1_107
      · exact zgood _ h
  have hA1 : ∀ q, va_A [(aa k, .inl (cA 0, zcap S k, .inl (f k)))] H.size q → A q := by
    intro q h
    rcases h with ⟨j, w, h⟩ | h
    · cases j with
      | zero => cases h; have := hAA (1 + k) (by omega); rwa [uad_arr] at this
      | succ j => simp at h
    · exact hA q (Nat.le_trans q2.1 h)
  have hD1 : va_D (fun _ => True) [(aa k, (.inl (cA 0, zcap S k, .inl (f k)) : va_E))] := by
    refine ⟨fun i j x y hx hy _ => ?_, fun _ _ _ => trivial⟩
    have h1 := (List.getElem?_eq_some_iff.mp hx).1
    have h2 := (List.getElem?_eq_some_iff.mp hy).1
    simp at h1 h2
    omega
  refine va_callr (va_runS (As := [.ref (aa k), .int (nI (zcap S k * 2))]) (rest := [.ref (G (0 + k))]) ⟨hx, hb, hml, hown, hts⟩ (c_Arr_copyOf (cA := cA) (D := D) (aa k) H.size (zcap S k) (zcap S k * 2) (f k) (by omega) (by omega)) (va_cwS 2 hts hG rfl rfl rfl (by decide +kernel) ⟨by rw [hf]; exact Nat.le_refl 2, by rw [hlo]; exact Nat.le_refl 62⟩) ⟨fun a U g mk q => by obtain ⟨q0, q1, qP, qK, qD⟩ := q; exact ⟨q0, q1, qP, va_K.moved (u := U) (U := U.calling g mk a) (Vm.Alike.refl U.vm) qK, qD⟩, fun U hU hW => ⟨rfl, by rw [hU], by rw [hU]; exact zP1 hw2, va_K.moved hW.alike hK, hD1⟩⟩ rfl rfl hl.1 rfl (lv_room (Nat.le_of_ble_eq_true rfl)) (hT.dec (pc := 34) rfl) ⟨by omega, by omega⟩) q2 (fun q _ h => hA1 q h) hA1 (fun u ra t H1 locs1 ht hvm _ hB hz1 hk1 hS1 => ?_)
  obtain ⟨hP1, hD1⟩ := hB
  rw [ht] at hP1
  have hra : H.size ≤ ra := by
    have h := hD1.2 1 _ rfl
    rcases h with ⟨j, w, h⟩ | h
    · cases j with
      | zero =>
        have e : aa k = ra := by cases h; rfl
        have := hD1.1 0 1 _ _ rfl rfl e
        omega
      | succ j => simp at h
    · exact h
  have hlt : ∀ i, i < 2 → uad G aa i < H.size := fun i hi => (hP i hi).lt
  have hP2 : ∀ i, i < 3 → va_at D zcl (va_up (uad G aa) 2 ra i, va_up (uct cA G aa f S) 2 (.inl (cA 0, zcap S k * 2, .inl (zcp (f k) (zcap S k)))) i) H1 := by
    intro i hi
    by_cases e1 : i = 2
    · subst e1
      simp only [va_up, if_true]
      exact hP1 1 _ rfl
    · simp only [va_up, e1, if_false]
      by_cases e2 : i = 1 + k
      · subst e2
        rw [uct_arr, uad_arr]
        exact hP1 0 _ rfl
      · refine (hP i (by omega)).kept (hk1 _ (hlt i (by omega)) ?_)
        rintro (⟨j, w, h⟩ | h)
        · cases j with
          | zero =>
            have e : aa k = uad G aa i := by
              have := congrArg Prod.fst (Option.some.inj h)
              exact this
            exact e2 (hjj i (1 + k) (by omega) (by omega) (by rw [uad_arr]; exact e.symm))
          | succ j => simp at h
        · have := hlt i (by omega); omega
  have hj2 : ∀ i j, i < 3 → j < 3 → va_up (uad G aa) 2 ra i = va_up (uad G aa) 2 ra j → i = j := by
    intro i j hi hj e
    by_cases e1 : i = 2
    · by_cases e2 : j = 2
      · omega
      · simp only [va_up, e1, e2, if_true, if_false] at e
        have := hlt j (by omega)
        omega
    · by_cases e2 : j = 2
      · simp only [va_up, e1, e2, if_true, if_false] at e
        have := hlt i (by omega)
        omega
      · simp only [va_up, e1, e2, if_false] at e
        exact hjj i j (by omega) (by omega) e
  have hA2 : ∀ i, i < 3 → A (va_up (uad G aa) 2 ra i) := by
    intro i hi
    by_cases e1 : i = 2
    · subst e1; simp only [va_up, if_true]; exact hA ra (Nat.le_trans q2.1 hra)
    · simp only [va_up, e1, if_false]; exact hAA i (by omega)
  have n97 : ¬ 0 + k = 2 := by omega
  have he3 : (zws 3 (va_up (uad G aa) 2 ra) (va_up (uct cA G aa f S) 2 (.inl (cA 0, zcap S k * 2, .inl (zcp (f k) (zcap S k))))))[0 + k]? = some (G (0 + k), .inr (0, [.ref (aa k), .int (nI (S.1 k).length)])) := by
    rw [zws_at (by omega)]
    simp only [va_up, n97, if_false]
    rw [uct_row hk, uad_lo (by omega)]
  refine va_put (D := D) (cl := zcl) (tys := ztys cA) (ci := 0) (ty := .array .int) hx hb hts i_Row t_Row t_Row_ok n_Row hown hK (zws_P hP2) (zws_D hj2 hA2) hS1 (0 + k) he3 rfl 0 (by decide) (hts _ wd_1_36) (fun _ h9 => h9) rfl (by decide +kernel) rfl rfl (Nat.le_of_ble_eq_true rfl) (hT.dec (pc := 37) rfl) (fun H2 locs2 hP3 hD3 hS2 => ?_)
  have hset : (zws 3 (va_up (uad G aa) 2 ra) (va_up (uct cA G aa f S) 2 (.inl (cA 0, zcap S k * 2, .inl (zcp (f k) (zcap S k)))))).set (0 + k) (G (0 + k), .inr (0, [.ref ra, .int (nI (S.1 k).length)])) = zws 3 (va_up (uad G aa) 2 ra) (va_up (va_up (uct cA G aa f S) 2 (.inl (cA 0, zcap S k * 2, .inl (zcp (f k) (zcap S k))))) (0 + k) (.inr (0, [.ref ra, .int (nI (S.1 k).length)]))) := by
    have e : G (0 + k) = va_up (uad G aa) 2 ra (0 + k) := by simp only [va_up, n97, if_false]; exact (uad_lo (by omega)).symm
    rw [e, zws_set]
  have hP3 : va_P D zcl ((zws 3 (va_up (uad G aa) 2 ra) (va_up (uct cA G aa f S) 2 (.inl (cA 0, zcap S k * 2, .inl (zcp (f k) (zcap S k)))))).set (0 + k) (G (0 + k), .inr (0, [.ref ra, .int (nI (S.1 k).length)]))) H2 := hP3
  rw [hset] at hP3
  have tau : ∀ i, i < 2 → ∃ j, j < 3 ∧ (j = 2 ↔ i = 1 + k) ∧ (¬ j = 2 → j = i) ∧ uad G (va_up aa k ra) i = va_up (uad G aa) 2 ra j ∧ uct cA G (va_up aa k ra) (va_up f k (zcp (f k) (zcap S k))) (z_grow S k) i = va_up (va_up (uct cA G aa f S) 2 (.inl (cA 0, zcap S k * 2, .inl (zcp (f k) (zcap S k))))) (0 + k) (.inr (0, [.ref ra, .int (nI (S.1 k).length)])) j := by
    intro i hi
    by_cases e1 : i = 1 + k
    · subst e1
      refine ⟨2, by omega, by simp, by omega, ?_, ?_⟩
      · rw [uad_arr]; simp [va_up]
      · rw [uct_arr, zcap_grow]; simp [va_up, show ¬ (2 : Nat) = k by omega]
    · refine ⟨i, by omega, ⟨fun h => by omega, fun h => absurd h e1⟩, fun _ => rfl, ?_, ?_⟩
      · simp only [va_up, show ¬ i = 2 by omega, if_false]
        unfold uad
        by_cases d : i < 1
        · rw [if_pos d, if_pos d]
        · rw [if_neg d, if_neg d]
          show va_up aa k ra (i - 1) = aa (i - 1)
          simp [va_up, show ¬ i - 1 = k by omega]
      · by_cases e2 : i = 0 + k
        · subst e2
          rw [uct_row hk]
          simp [va_up, z_grow]
        · simp only [va_up, show ¬ i = 2 by omega, e2, if_false]
          unfold uct
          by_cases d : i < 1
          · exact absurd (show i = 0 + k by omega) e2
          · rw [if_neg d, if_neg d]
            have : ¬ i - 1 = k := by omega
            rw [zcap_grow' this]
            simp [va_up, this]
  refine kk.2.2 H2 locs2 (cells + 1) (slots + zcap S k * 2) ls ⟨va_up aa k ra, va_up f k (zcp (f k) (zcap S k)), fun i hi => ?_, fun i j hi hj e => ?_, fun i hi => ?_, fun j hj => ?_⟩ hS2 (by omega) (by omega) hl
  · obtain ⟨j, j1, -, -, j4, j5⟩ := tau i hi
    rw [j4, j5]
    exact zws_Pi hP3 j1
  · obtain ⟨i', i1, i2, i3, i4, -⟩ := tau i hi
    obtain ⟨j', j1, j2, j3, j4, -⟩ := tau j hj
    rw [i4, j4] at e
    have := hj2 i' j' i1 j1 e
    subst this
    by_cases h : i' = 2
    · rw [i2.mp h, j2.mp h]
    · rw [← i3 h, ← j3 h]
  · obtain ⟨j, j1, -, -, j4, -⟩ := tau i hi
    rw [j4]
    exact hA2 j j1
  · obtain ⟨g1, g2, g3⟩ := hrr j hj
    by_cases ej : j = k
    · subst ej
      rw [zcap_grow]
      refine ⟨by show (S.1 j).length ≤ _; omega, by omega, fun i hi => ?_⟩
      have hi : i < (S.1 j).length := hi
      show va_up f j (zcp (f j) (zcap S j)) j i = (S.1 j).getD i 0
      rw [← g3 i hi]
      simp [va_up, va_cpy, show i < zcap S j by omega]
    · rw [zcap_grow' ej]
      refine ⟨g1, g2, fun i hi => ?_⟩
      show va_up f k (zcp (f k) (zcap S k)) j i = (S.1 j).getD i 0
      rw [← g3 i hi]
      simp [va_up, ej]
set_option maxHeartbeats 8000000 in
theorem u_add40 {k : Nat} {a1 : Int32} (hk : k < 1) (C0 : zC p s m args meth c prog_10_method_5_code 2 "RuleTree$Row" zwl T_Row_add (some .int)) (hK : va_K D zcl (ztys cA) s) (hE : E = zFi (if (S.1 k).length < zcap S k then (z_row S k (S.1 k ++ [a1]), nI (S.1 k).length) else (S, -1))) : uSW p l e R s m args below meth c 2 A D cA G S 40 [(0, .ref (G (0 + k))), (1, .int a1)] [] E := by
  subst hE
  by_cases h : (S.1 k).length < zcap S k
  · rw [if_pos h]
    refine ⟨Nat.le_refl _, Nat.le_refl _, fun H locs cells slots ls q1 q2 q3 q4 q5 => ?_⟩
    obtain ⟨aa, f, hP, hjj, hAA, hrr⟩ := id q1
    obtain ⟨g1, g2, g3⟩ := hrr k hk
    have C1 := C0
    obtain ⟨hx, hb, hml, hown, hts, hT, hr, hlocks⟩ := C0
    have he : (zws 2 (uad G aa) (uct cA G aa f S))[0 + k]? = some (G (0 + k), .inr (0, [.ref (aa k), .int (nI (S.1 k).length)])) := by rw [zws_at (by omega), uct_row hk, uad_lo (by omega)]
    have he2 : (zws 2 (uad G aa) (uct cA G aa f S))[1 + k]? = some (aa k, .inl (cA 0, zcap S k, .inl (f k))) := by rw [zws_at (by omega), uct_arr, uad_arr]
    have hlt : nI (S.1 k).length < nI (zcap S k) := (nI_ltI (by omega) (by omega)).mpr h
    refine zrun_ok hx hb hT 1 40 _ _ (pc' := 41) (lv' := [(0, .ref (G (0 + k))), (1, .int a1)]) (st' := [.ref (G (0 + k))]) rfl q5 (fun ls hl => ?_)
    refine va_get (D := D) (cl := zcl) (tys := ztys cA) (ci := 0) hx hb hts i_Row hown hK (zws_P hP) (0 + k) he rfl 1 (by decide) (hts _ wd_1_37) (fun _ h => h) rfl (hT.dec (pc := 41) rfl) ?_
    refine zrun_ok hx hb hT 1 44 _ _ (pc' := 45) (lv' := [(0, .ref (G (0 + k))), (1, .int a1)]) (st' := [.ref (G (0 + k)), .int (nI (S.1 k).length)]) rfl hl (fun ls hl => ?_)
    refine va_get (D := D) (cl := zcl) (tys := ztys cA) (ci := 0) hx hb hts i_Row hown hK (zws_P hP) (0 + k) he rfl 0 (by decide) (hts _ wd_1_36) (fun _ h => h) rfl (hT.dec (pc := 45) rfl) ?_
    refine va_alen (D := D) (cl := zcl) (tys := ztys cA) hx hb hK (zws_P hP) (1 + k) 0 he2 rfl (v := nI (zcap S k)) rfl (hT.dec (pc := 48) rfl) ?_
    refine lv_icmp_lt (tgt := 54) hx hb (hT.dec (pc := 49) rfl) (by decide) (fun _ => ?_) (fun q => absurd hlt q)
    refine zrun_ok hx hb hT 1 54 _ _ (pc' := 55) (lv' := [(0, .ref (G (0 + k))), (1, .int a1)]) (st' := [.ref (G (0 + k))]) rfl hl (fun ls hl => ?_)
    refine va_get (D := D) (cl := zcl) (tys := ztys cA) (ci := 0) hx hb hts i_Row hown hK (zws_P hP) (0 + k) he rfl 0 (by decide) (hts _ wd_1_36) (fun _ h => h) rfl (hT.dec (pc := 55) rfl) ?_
    refine zrun_ok hx hb hT 1 58 _ _ (pc' := 59) (lv' := [(0, .ref (G (0 + k))), (1, .int a1)]) (st' := [.ref (G (0 + k)), .ref (aa k)]) rfl hl (fun ls hl => ?_)
    refine va_get (D := D) (cl := zcl) (tys := ztys cA) (ci := 0) hx hb hts i_Row hown hK (zws_P hP) (0 + k) he rfl 1 (by decide) (hts _ wd_1_37) (fun _ h => h) rfl (hT.dec (pc := 59) rfl) ?_
    refine zrun_ok hx hb hT 1 62 _ _ (pc' := 63) (lv' := [(0, .ref (G (0 + k))), (1, .int a1)]) (st' := [.int a1, .int (nI (S.1 k).length), .ref (aa k)]) rfl hl (fun ls hl => ?_)
    refine va_iast (D := D) (cl := zcl) (tys := ztys cA) (ws := zws 2 (uad G aa) (uct cA G aa f S)) hx hb hK (zws_P hP) (zws_D hjj hAA) q2 (1 + k) 0 he2 rfl (vp_in_nI h (by omega)) (hT.dec (pc := 63) rfl) (fun H1 locs1 hP1 hD1 hS1 => ?_)
    have hset : (zws 2 (uad G aa) (uct cA G aa f S)).set (1 + k) (aa k, .inl (cA 0, zcap S k, .inl (upd (f k) (nI (S.1 k).length).toNatClampNeg a1))) = zws 2 (uad G aa) (uct cA G aa (va_up f k (upd (f k) (S.1 k).length a1)) S) := by
      rw [show aa k = uad G aa (1 + k) from uad_arr.symm, zws_set, nI_clamp (by omega)]
      refine zws_congr (fun _ _ => rfl) (fun i hi => ?_)
      exact uct_upA (S := S) i hi
    rw [hset] at hP1 hD1
    have he1 : (zws 2 (uad G aa) (uct cA G aa (va_up f k (upd (f k) (S.1 k).length a1)) S))[0 + k]? = some (G (0 + k), .inr (0, [.ref (aa k), .int (nI (S.1 k).length)])) := by rw [zws_at (by omega), uct_row hk, uad_lo (by omega)]
    refine zrun_ok hx hb hT 2 64 _ _ (pc' := 66) (lv' := [(0, .ref (G (0 + k))), (1, .int a1)]) (st' := [.ref (G (0 + k)), .ref (G (0 + k))]) rfl hl (fun ls hl => ?_)
    refine va_get (D := D) (cl := zcl) (tys := ztys cA) (ci := 0) hx hb hts i_Row hown hK hP1 (0 + k) he1 rfl 1 (by decide) (hts _ wd_1_37) (fun _ h => h) rfl (hT.dec (pc := 66) rfl) ?_
    refine zrun_ok hx hb hT 2 69 _ _ (pc' := 71) (lv' := [(0, .ref (G (0 + k))), (1, .int a1)]) (st' := [.int (nI (S.1 k).length + 1), .ref (G (0 + k))]) rfl hl (fun ls hl => ?_)
    rw [nI_1]
    refine va_put (D := D) (cl := zcl) (tys := ztys cA) (ci := 0) (ty := .int) hx hb hts i_Row t_Row t_Row_ok n_Row hown hK hP1 hD1 hS1 (0 + k) he1 rfl 1 (by decide) (hts _ wd_1_37) (fun _ h9 => h9) rfl (by decide +kernel) rfl rfl (Nat.le_of_ble_eq_true rfl) (hT.dec (pc := 71) rfl) (fun H2 locs2 hP2 hD2 hS2 => ?_)
    have hset2 : (zws 2 (uad G aa) (uct cA G aa (va_up f k (upd (f k) (S.1 k).length a1)) S)).set (0 + k) (G (0 + k), .inr (0, [.ref (aa k), .int (nI ((S.1 k).length + 1))])) = zws 2 (uad G aa) (uct cA G aa (va_up f k (upd (f k) (S.1 k).length a1)) (z_row S k (S.1 k ++ [a1]))) := by
      rw [show G (0 + k) = uad G aa (0 + k) from (uad_lo (by omega)).symm, zws_set]
      refine zws_congr (fun _ _ => rfl) (fun i hi => ?_)
      rw [← uct_upR hk i hi, List.length_append]
      rfl
    have hP2 : va_P D zcl ((zws 2 (uad G aa) (uct cA G aa (va_up f k (upd (f k) (S.1 k).length a1)) S)).set (0 + k) (G (0 + k), .inr (0, [.ref (aa k), .int (nI ((S.1 k).length + 1))]))) H2 := hP2
    have hD2 : va_D A ((zws 2 (uad G aa) (uct cA G aa (va_up f k (upd (f k) (S.1 k).length a1)) S)).set (0 + k) (G (0 + k), .inr (0, [.ref (aa k), .int (nI ((S.1 k).length + 1))]))) := hD2
    rw [hset2] at hP2 hD2
    have hlen : ((z_row S k (S.1 k ++ [a1])).1 k).length = (S.1 k).length + 1 := by simp [z_row, va_up]
    have K : uSW p l e R s m args below meth c 2 A D cA G (z_row S k (S.1 k ++ [a1])) 74 [(0, .ref (G (0 + k))), (1, .int a1)] [] (zFi (z_row S k (S.1 k ++ [a1]), nI (S.1 k).length)) := by
      refine sw_go C1 1 (pc' := 75) (lv' := [(0, .ref (G (0 + k))), (1, .int a1)]) (st' := [.ref (G (0 + k))]) rfl ?_
      refine u_rsz C1 hK hk wd_1_37 rfl ?_
      rw [hlen]
      refine sw_go C1 2 (pc' := 80) (lv' := [(0, .ref (G (0 + k))), (1, .int a1)]) (st' := [.int (nI ((S.1 k).length + 1) - 1)]) rfl ?_
      rw [nI_pred]
      exact sw_reti C1 rfl rfl
    refine K.2.2 H2 locs2 cells slots ls (uRep_mk hP2 hD2 (fun j hj2 => ?_)) hS2 q3 q4 hl
    obtain ⟨g1, g2, g3⟩ := hrr j hj2
    by_cases ej : j = k
    · subst ej
      refine ⟨by rw [hlen]; exact h, g2, fun i hi => ?_⟩
      rw [hlen] at hi
      show va_up f j (upd (f j) (S.1 j).length a1) j i = ((z_row S j (S.1 j ++ [a1])).1 j).getD i 0
      by_cases ei : i = (S.1 j).length
      · subst ei; simp [va_up, upd, z_row, List.getD]
      · have hi2 : i < (S.1 j).length := by omega
        have := g3 i hi2
        simp only [va_up, upd, z_row, ei, if_true, if_false, List.getD] at this ⊢
        rw [this, List.getElem?_append_left hi2]
    · refine ⟨?_, g2, fun i hi => ?_⟩
      · show ((z_row S k (S.1 k ++ [a1])).1 j).length ≤ zcap S j
        simp only [z_row, va_up, ej, if_false]; exact g1
      · simp only [z_row, va_up, ej, if_false] at hi ⊢
        exact g3 i hi
  · rw [if_neg h]
    refine ⟨Nat.le_refl _, Nat.le_refl _, fun H locs cells slots ls q1 q2 q3 q4 q5 => ?_⟩
    obtain ⟨aa, f, hP, hjj, hAA, hrr⟩ := id q1
    obtain ⟨g1, g2, g3⟩ := hrr k hk
    have hlt : ¬ nI (S.1 k).length < nI (zcap S k) := fun q => h ((nI_ltI (by omega) (by omega)).mp q)
    have K : uSW p l e R s m args below meth c 2 A D cA G S 40 [(0, .ref (G (0 + k))), (1, .int a1)] [] (zFi (S, -1)) := by
      refine sw_go C0 1 (pc' := 41) (lv' := [(0, .ref (G (0 + k))), (1, .int a1)]) (st' := [.ref (G (0 + k))]) rfl ?_
      refine u_rsz C0 hK hk wd_1_37 rfl ?_
      refine sw_go C0 1 (pc' := 45) (lv' := [(0, .ref (G (0 + k))), (1, .int a1)]) (st' := [.ref (G (0 + k)), .int (nI (S.1 k).length)]) rfl ?_
      refine u_rlen C0 hK hk wd_1_36 rfl rfl ?_
      refine sw_icmp_ltF C0 rfl hlt ?_
      refine sw_go C0 1 (pc' := 53) (lv' := [(0, .ref (G (0 + k))), (1, .int a1)]) (st' := [.int (-1)]) rfl ?_
      exact sw_reti C0 rfl rfl
    exact K.2.2 H locs cells slots ls q1 q2 q3 q4 q5
end UGROW
set_option maxHeartbeats 8000000 in
theorem d_Row_add (k : Nat) (hk : k < 1) (a1 : Int32) : zMet l y_Row_add (zw y_Row_add prog_10_method_5_code 2 (some Jvm.ClassFile.FieldType.int)) 2 62 [.ref (G (0 + k)), .int a1] D zcl (ztys cA) A (uRep D cA G A) ufc ufs S (zFi (r_add S k a1)) := by
  have hm : ufc S ≤ ufc (zFi (r_add S k a1)).1 ∧ ufs S ≤ ufs (zFi (r_add S k a1)).1 := u_add_mono hk a1
  refine zMet_of hm (by decide) tk_Row_add (Nat.le_of_ble_eq_true rfl) ?_
  intro p e R s m args below meth c hf hlo C0 hK hA
  refine sw_go C0 1 (pc' := 1) (lv' := [(0, .ref (G (0 + k))), (1, .int a1)]) (st' := [.ref (G (0 + k))]) rfl ?_
  refine u_rsz C0 hK hk wd_1_37 rfl ?_
  refine sw_go C0 1 (pc' := 5) (lv' := [(0, .ref (G (0 + k))), (1, .int a1)]) (st' := [.ref (G (0 + k)), .int (nI (S.1 k).length)]) rfl ?_
  refine u_rlen C0 hK hk wd_1_36 rfl rfl ?_
  refine ⟨hm.1, hm.2, fun H locs cells slots ls q1 q2 q3 q4 q5 => ?_⟩
  obtain ⟨aa, f, hP, hjj, hAA, hrr⟩ := id q1
  obtain ⟨g1, g2, g3⟩ := hrr k hk
  have e1 : ∀ S' : zS, r_more S k = S' → S'.1 = S.1 → zFi (r_add S k a1) = zFi (if (S'.1 k).length < zcap S' k then (z_row S' k (S'.1 k ++ [a1]), nI (S'.1 k).length) else (S', -1)) := by
    intro S' h1 h2
    unfold r_add
    rw [h1, h2]
  have hg : ∀ S' : zS, r_more S k = S' → S'.1 = S.1 := by
    intro S' h
    rw [← h]
    unfold r_more
    split
    · rfl
    · split <;> rfl
  by_cases h : (S.1 k).length < zcap S k
  · have hmo : r_more S k = S := by unfold r_more; rw [if_pos h]
    exact (sw_icmp_ltT C0 rfl ((nI_ltI (by omega) (by omega)).mpr h) (u_add40 hk C0 hK (e1 S hmo rfl))).2.2 H locs cells slots ls q1 q2 q3 q4 q5
  · have hlt : ¬ nI (S.1 k).length < nI (zcap S k) := fun q => h ((nI_ltI (by omega) (by omega)).mp q)
    have hz : ¬ nI (S.1 k).length < nI (zcap S k) := hlt
    by_cases h2 : 2097152 < zcap S k
    · have hmo : r_more S k = S := by unfold r_more; rw [if_neg h, if_pos h2]
      have hgt : (2097152 : Int32) < nI (zcap S k) := (nI_ltI (a := 2097152) (by omega) (by omega)).mpr h2
      refine (sw_icmp_ltF C0 rfl hlt (sw_go C0 1 (pc' := 13) (lv' := [(0, .ref (G (0 + k))), (1, .int a1)]) (st' := [.ref (G (0 + k))]) rfl (u_rlen C0 hK hk wd_1_36 rfl rfl (sw_ldc C0 wd_1_104 rfl (sw_icmp_gtT C0 rfl hgt (u_add40 hk C0 hK (e1 S hmo rfl))))))).2.2 H locs cells slots ls q1 q2 q3 q4 q5
    · have hmo : r_more S k = z_grow S k := by unfold r_more; rw [if_neg h, if_neg h2]
      have hgt : ¬ (2097152 : Int32) < nI (zcap S k) := fun q => h2 ((nI_ltI (a := 2097152) (by omega) (by omega)).mp q)
      refine (sw_icmp_ltF C0 rfl hlt (sw_go C0 1 (pc' := 13) (lv' := [(0, .ref (G (0 + k))), (1, .int a1)]) (st' := [.ref (G (0 + k))]) rfl (u_rlen C0 hK hk wd_1_36 rfl rfl (sw_ldc C0 wd_1_104 rfl (sw_icmp_gtF C0 rfl hgt (u_grow hk hf hlo C0 hK hA (by omega) (u_add40 hk C0 hK (e1 (z_grow S k) hmo (hg _ hmo))))))))).2.2 H locs cells slots ls q1 q2 q3 q4 q5
theorem urc_row {s : State} {k : Nat} (hK : va_K D zcl (ztys cA) s) (hk : k < 1) : ∀ H, uRep D cA G A S H → zRc s "RuleTree$Row" (G (0 + k)) H := fun H h => by
  obtain ⟨aa, f, hP, -⟩ := h
  have hw := hP (0 + k) (by omega)
  rw [uct_row hk, uad_lo (by omega)] at hw
  exact va_recv hK (zP1 hw) (ci := 0) (q0 := 0) rfl rfl
theorem u_fl_mono {k : Nat} (hk : k < 1) (v : Int32) : ∀ n, ufc S ≤ ufc (z_fl S k v n) ∧ ufs S ≤ ufs (z_fl S k v n) := by
  intro n
  induction n with
  | zero => exact ⟨Nat.le_refl _, Nat.le_refl _⟩
  | succ n ih =>
    have := u_add_mono (S := z_fl S k v n) hk v
    exact ⟨Nat.le_trans ih.1 this.1, Nat.le_trans ih.2 this.2⟩
set_option maxHeartbeats 4000000 in
theorem d_Row_refill (k : Nat) (hk : k < 1) (a1 a2 : Int32) : zMet l y_Row_refill (zw y_Row_refill prog_10_method_8_code 4 none) 3 83 [.ref (G (0 + k)), .int a1, .int a2] D zcl (ztys cA) A (uRep D cA G A) ufc ufs S (zFv (r_fill S k a1 a2)) := by
  refine zMet_of (u_fl_mono hk a2 _) (by decide) tk_Row_refill (Nat.le_of_ble_eq_true rfl) ?_
  intro p e R s m args below meth c hf hlo C0 hK hA
  refine sw_go C0 2 (pc' := 2) (lv' := [(0, .ref (G (0 + k))), (1, .int a1), (2, .int a2)]) (st' := [.int 0, .ref (G (0 + k))]) rfl ?_
  refine u_rput C0 hK hk (n := 0) wd_1_37 rfl (Nat.zero_le _) nI_0.symm ?_
  rw [List.take_zero]
  refine sw_go C0 2 (pc' := 7) (lv' := [(0, .ref (G (0 + k))), (1, .int a1), (2, .int a2), (3, .int 0)]) (st' := []) rfl ?_
  have loop : ∀ d j, j + d = a1.toInt.toNat → uSW p l e R s m args below meth c 4 A D cA G (z_fl S k a2 j) 7 [(0, .ref (G (0 + k))), (1, .int a1), (2, .int a2), (3, .int (nI j))] [] (zFv (r_fill S k a1 a2)) := by
    intro d
    have hb : a1.toInt < 2147483648 := Int32.toInt_lt a1
    induction d with
    | zero =>
      intro j hj
      refine sw_go C0 2 (pc' := 9) (lv' := [(0, .ref (G (0 + k))), (1, .int a1), (2, .int a2), (3, .int (nI j))]) (st' := [.int a1, .int (nI j)]) rfl ?_
      have hge : a1 ≤ nI j := by
        rw [Int32.le_iff_toInt_le, nI_toInt (by omega)]
        omega
      refine sw_icmp_geT C0 rfl hge ?_
      exact sw_retv C0 rfl (by unfold r_fill; rw [← hj]; rfl)
    | succ d ih =>
      intro j hj
      refine sw_go C0 2 (pc' := 9) (lv' := [(0, .ref (G (0 + k))), (1, .int a1), (2, .int a2), (3, .int (nI j))]) (st' := [.int a1, .int (nI j)]) rfl ?_
      have hge : ¬ a1 ≤ nI j := by
        rw [Int32.le_iff_toInt_le, nI_toInt (by omega)]
        omega
      refine sw_icmp_geF C0 rfl hge ?_
      refine sw_go C0 2 (pc' := 14) (lv' := [(0, .ref (G (0 + k))), (1, .int a1), (2, .int a2), (3, .int (nI j))]) (st' := [.int a2, .ref (G (0 + k))]) rfl ?_
      refine sw_callV (As := [.int a2]) (rest := []) C0 hK hA yk_Row_add (d_Row_add k hk a2) wd_1_100 rfl rfl ⟨by rw [hf]; decide, by rw [hlo]; decide⟩ (by decide) (urc_row hK hk) ?_
      refine sw_go C0 3 (pc' := 7) (lv' := [(0, .ref (G (0 + k))), (1, .int a1), (2, .int a2), (3, .int (nI j + 1))]) (st' := []) rfl ?_
      rw [nI_1]
      exact ih (j + 1) (by omega)
  exact loop _ 0 (Nat.zero_add _)
end URC
