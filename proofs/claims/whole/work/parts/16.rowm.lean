-- THE ROW'S INSTRUCTIONS over the class's world
theorem zP1 {D : va_G} {cl : List vw_C} {q : Nat × va_E} {H : Heap} (h : va_at D cl q H) : va_P D cl [q] H := fun k q' hk => by
  cases k with
  | zero => cases hk; exact h
  | succ k => simp at hk
section ZROW
variable {cA : Nat → ClassId} {G aa : Nat → Nat} {f : Nat → Nat → Int32} {S : zS} {k i : Nat}
theorem zct_obj (h : i < 10) : zct cA G aa f S i = .inr (i + 1, zobj G S i) := by unfold zct; rw [if_pos h]
theorem zct_la : zct cA G aa f S 10 = .inl (cA 1, 1024, .inr (.inl S.2.2.2)) := by unfold zct; rw [if_neg (by omega), if_pos rfl]
theorem zct_row (hk : k < 43) : zct cA G aa f S (11 + k) = .inr (0, [.ref (aa k), .int (nI (S.1 k).length)]) := by
  unfold zct
  rw [if_neg (by omega), if_neg (by omega), if_pos (by omega), show 11 + k - 11 = k by omega]
theorem zct_arr : zct cA G aa f S (54 + k) = .inl (cA 0, zcap S k, .inl (f k)) := by
  unfold zct
  rw [if_neg (by omega), if_neg (by omega), if_neg (by omega), show 54 + k - 54 = k by omega]
theorem zad_lo (h : i < 54) : zad G aa i = G i := if_pos h
theorem zad_arr : zad G aa (54 + k) = aa k := by unfold zad; rw [if_neg (by omega), show 54 + k - 54 = k by omega]
variable {p : Program} {l : Launch} {e : Env} {R : Room} {s : State} {m : MethodId} {args : Array Value} {below : List Frame} {meth : Method} {c : Code} {nL : Nat} {A : Nat → Prop} {cc : ByteArray} {T : List zTr} {own : String} {ret : Option FieldType} {D : va_G} {pc : Nat} {lv : zLv} {st rest : List Value} {E : zS × Option Value}
abbrev zSW (p : Program) (l : Launch) (e : Env) (R : Room) (s : State) (m : MethodId) (args : Array Value) (below : List Frame) (meth : Method) (c : Code) (nL : Nat) (A : Nat → Prop) (D : va_G) (cA : Nat → ClassId) (G : Nat → Nat) (S : zS) (pc : Nat) (lv : zLv) (st : List Value) (E : zS × Option Value) : Prop := SW p l e R s m args below meth c nL A (zRep D cA G A) zfc zfs S pc lv st E
abbrev zSO (p : Program) (l : Launch) (e : Env) (R : Room) (s : State) (m : MethodId) (args : Array Value) (below : List Frame) (meth : Method) (c : Code) (nL : Nat) (A : Nat → Prop) (D : va_G) (cA : Nat → ClassId) (G : Nat → Nat) (S : zS) (pc : Nat) (lv : zLv) (st : List Value) {ρ : Type} (F : ρ → zS × Option Value) (x : Option ρ) : Prop := SO p l e R s m args below meth c nL A (zRep D cA G A) zfc zfs S pc lv st F x
/-- an object's field is read -/
theorem sw_getf (C0 : zC p s m args meth c cc nL own zwl T ret) (hK : va_K D zcl (ztys cA) s) {o j idx tgt N : Nat} {v0 : Int32} {v : Value} {Cn : String} {Tf : u_T} (ho : o < 10) (hc : zcl[o + 1]? = some (Cn, Tf, N)) (hin : ∀ w ∈ u_ws Cn Tf N, w ∈ zwl) (hj : j < N) (hl : Cond.fieldLink own idx (Tf j).1 (Tf j).2.1 (Tf j).2.2.1 ∈ zwl) (hv : (zobj G S o)[j]? = some v) (hq : T.lookup pc = some (.getfield idx, 3, tgt, v0))
    (kk : zSW p l e R s m args below meth c nL A D cA G S (pc + 3) lv (v :: rest) E) : zSW p l e R s m args below meth c nL A D cA G S pc lv (.ref (G o) :: rest) E := by
  obtain ⟨hx, hb, hml, hown, hts, hT, hr, hlocks⟩ := C0
  refine ⟨kk.1, kk.2.1, fun H locs cells slots ls h1 h2 h3 h4 h5 => ?_⟩
  obtain ⟨aa, f, hP, hrest⟩ := id h1
  have hw := hP o (by omega)
  rw [zct_obj ho, zad_lo (by omega)] at hw
  exact va_get (D := D) (cl := zcl) (tys := ztys cA) (ws := [(G o, .inr (o + 1, zobj G S o))]) (ci := o + 1) hx hb hts hin hown hK (zP1 hw) 0 rfl hc j hj (hts _ hl) (fun _ h => h) hv (hT.dec hq) (kk.2.2 H locs cells slots ls h1 h2 h3 h4 h5)
theorem so_getf {ρ : Type} {F : ρ → zS × Option Value} {x : Option ρ} (C0 : zC p s m args meth c cc nL own zwl T ret) (hK : va_K D zcl (ztys cA) s) {o j idx tgt N : Nat} {v0 : Int32} {v : Value} {Cn : String} {Tf : u_T} (ho : o < 10) (hc : zcl[o + 1]? = some (Cn, Tf, N)) (hin : ∀ w ∈ u_ws Cn Tf N, w ∈ zwl) (hj : j < N) (hl : Cond.fieldLink own idx (Tf j).1 (Tf j).2.1 (Tf j).2.2.1 ∈ zwl) (hv : (zobj G S o)[j]? = some v) (hq : T.lookup pc = some (.getfield idx, 3, tgt, v0))
    (kk : zSO p l e R s m args below meth c nL A D cA G S (pc + 3) lv (v :: rest) F x) : zSO p l e R s m args below meth c nL A D cA G S pc lv (.ref (G o) :: rest) F x := fun r hr => sw_getf C0 hK ho hc hin hj hl hv hq (kk r hr)
/-- the row's size is read -/
theorem sw_rsz (C0 : zC p s m args meth c cc nL own zwl T ret) (hK : va_K D zcl (ztys cA) s) {idx tgt : Nat} {v0 : Int32} (hk : k < 43) (hl : Cond.fieldLink own idx (F_Row 1).1 (F_Row 1).2.1 (F_Row 1).2.2.1 ∈ zwl) (hq : T.lookup pc = some (.getfield idx, 3, tgt, v0))
    (kk : zSW p l e R s m args below meth c nL A D cA G S (pc + 3) lv (.int (nI (S.1 k).length) :: rest) E) : zSW p l e R s m args below meth c nL A D cA G S pc lv (.ref (G (11 + k)) :: rest) E := by
  obtain ⟨hx, hb, hml, hown, hts, hT, hr, hlocks⟩ := C0
  refine ⟨kk.1, kk.2.1, fun H locs cells slots ls h1 h2 h3 h4 h5 => ?_⟩
  obtain ⟨aa, f, hP, hrest⟩ := id h1
  have hw := hP (11 + k) (by omega)
  rw [zct_row hk, zad_lo (by omega)] at hw
  exact va_get (D := D) (cl := zcl) (tys := ztys cA) (ws := [(G (11 + k), .inr (0, [.ref (aa k), .int (nI (S.1 k).length)]))]) (ci := 0) hx hb hts i_Row hown hK (zP1 hw) 0 rfl rfl 1 (by decide) (hts _ hl) (fun _ h => h) rfl (hT.dec hq) (kk.2.2 H locs cells slots ls h1 h2 h3 h4 h5)
/-- the array's length is read: getfield cells, arraylength -/
theorem sw_rlen (C0 : zC p s m args meth c cc nL own zwl T ret) (hK : va_K D zcl (ztys cA) s) {idx tgt tgt2 : Nat} {v0 v2 : Int32} (hk : k < 43) (hl : Cond.fieldLink own idx (F_Row 0).1 (F_Row 0).2.1 (F_Row 0).2.2.1 ∈ zwl) (hq : T.lookup pc = some (.getfield idx, 3, tgt, v0)) (hq2 : T.lookup (pc + 3) = some (.arraylength, 1, tgt2, v2))
    (kk : zSW p l e R s m args below meth c nL A D cA G S (pc + 3 + 1) lv (.int (nI (zcap S k)) :: rest) E) : zSW p l e R s m args below meth c nL A D cA G S pc lv (.ref (G (11 + k)) :: rest) E := by
  obtain ⟨hx, hb, hml, hown, hts, hT, hr, hlocks⟩ := C0
  refine ⟨kk.1, kk.2.1, fun H locs cells slots ls h1 h2 h3 h4 h5 => ?_⟩
  obtain ⟨aa, f, hP, hrest⟩ := id h1
  have hw := hP (11 + k) (by omega)
  rw [zct_row hk, zad_lo (by omega)] at hw
  have hw2 := hP (54 + k) (by omega)
  rw [zct_arr, zad_arr] at hw2
  refine va_get (D := D) (cl := zcl) (tys := ztys cA) (ws := [(G (11 + k), .inr (0, [.ref (aa k), .int (nI (S.1 k).length)]))]) (ci := 0) hx hb hts i_Row hown hK (zP1 hw) 0 rfl rfl 0 (by decide) (hts _ hl) (fun _ h => h) rfl (hT.dec hq) ?_
  exact va_alen (D := D) (cl := zcl) (tys := ztys cA) (ws := [(aa k, .inl (cA 0, zcap S k, .inl (f k)))]) hx hb hK (zP1 hw2) 0 0 rfl rfl rfl (hT.dec hq2) (kk.2.2 H locs cells slots ls h1 h2 h3 h4 h5)
/-- an element is read: getfield cells, iload_1, iaload -/
theorem sw_rrd (C0 : zC p s m args meth c cc nL own zwl T ret) (hK : va_K D zcl (ztys cA) s) {idx tgt tgt2 tgt3 j : Nat} {v0 v2 v3 : Int32} (hk : k < 43) (hl : Cond.fieldLink own idx (F_Row 0).1 (F_Row 0).2.1 (F_Row 0).2.2.1 ∈ zwl) (hq : T.lookup pc = some (.getfield idx, 3, tgt, v0)) (hq2 : T.lookup (pc + 3) = some (.iload_n 1, 1, tgt2, v2)) (hq3 : T.lookup (pc + 3 + 1) = some (.iaload, 1, tgt3, v3)) (hlv : lv.lookup 1 = some (.int (nI j))) (hj : j < (S.1 k).length)
    (kk : zSW p l e R s m args below meth c nL A D cA G S (pc + 3 + 1 + 1) lv (.int ((S.1 k).getD j 0) :: rest) E) : zSW p l e R s m args below meth c nL A D cA G S pc lv (.ref (G (11 + k)) :: rest) E := by
  obtain ⟨hx, hb, hml, hown, hts, hT, hr, hlocks⟩ := C0
  refine ⟨kk.1, kk.2.1, fun H locs cells slots ls h1 h2 h3 h4 h5 => ?_⟩
  obtain ⟨aa, f, hP, hrest⟩ := id h1
  obtain ⟨g1, g2, g3⟩ := hrest.2.2 k hk
  have hw := hP (11 + k) (by omega)
  rw [zct_row hk, zad_lo (by omega)] at hw
  have hw2 := hP (54 + k) (by omega)
  rw [zct_arr, zad_arr] at hw2
  refine va_get (D := D) (cl := zcl) (tys := ztys cA) (ws := [(G (11 + k), .inr (0, [.ref (aa k), .int (nI (S.1 k).length)]))]) (ci := 0) hx hb hts i_Row hown hK (zP1 hw) 0 rfl rfl 0 (by decide) (hts _ hl) (fun _ h => h) rfl (hT.dec hq) ?_
  refine lv_iload_n hx hb (hT.dec hq2) rfl (zh_at h5 hlv) ?_
  refine va_iald (D := D) (cl := zcl) (tys := ztys cA) (ws := [(aa k, .inl (cA 0, zcap S k, .inl (f k)))]) hx hb hK (zP1 hw2) 0 0 rfl rfl (vp_in_nI (by omega) (by omega)) (hT.dec hq3) ?_
  rw [nI_clamp (by omega), g3 j hj]
  exact kk.2.2 H locs cells slots ls h1 h2 h3 h4 h5
/-- the world behind a change of one row's cells: others stay -/
theorem zRep_mk {aa' : Nat → Nat} {f' : Nat → Nat → Int32} {S' : zS} {H : Heap} (hP : va_P D zcl (zws 97 (zad G aa') (zct cA G aa' f' S')) H) (hD : va_D A (zws 97 (zad G aa') (zct cA G aa' f' S'))) (hr : ∀ k, k < 43 → (S'.1 k).length ≤ zcap S' k ∧ zcap S' k ≤ 4194304 ∧ ∀ i, i < (S'.1 k).length → f' k i = (S'.1 k).getD i 0) : zRep D cA G A S' H :=
  ⟨aa', f', fun i hi => zws_Pi hP hi, fun i j hi hj e => hD.1 i j _ _ (zws_at hi) (zws_at hj) e, fun i hi => hD.2 i _ (zws_at hi), hr⟩
theorem zws_congr {n : Nat} {ad ad' : Nat → Nat} {ct ct' : Nat → va_E} (h1 : ∀ i, i < n → ad i = ad' i) (h2 : ∀ i, i < n → ct i = ct' i) : zws n ad ct = zws n ad' ct' := by
  apply List.ext_getElem?
  intro i
  by_cases hi : i < n
  · rw [zws_at hi, zws_at hi, h1 i hi, h2 i hi]
  · rw [List.getElem?_eq_none (by simp [zws]; omega), List.getElem?_eq_none (by simp [zws]; omega)]
/-- another content of row k's array, another list for it: only those two cells differ -/
theorem zct_upA {S' : zS} {g : Nat → Int32} (h1 : ∀ o, o < 10 → zobj G S' o = zobj G S o) (h2 : S'.2.2.2 = S.2.2.2) (h3 : ∀ j, (S'.1 j).length = (S.1 j).length) (h4 : S'.2.1 = S.2.1) : ∀ i, i < 97 → va_up (zct cA G aa f S) (54 + k) (.inl (cA 0, zcap S k, .inl g)) i = zct cA G aa (va_up f k g) S' i := by
  intro i hi
  have e : ∀ j, zcap S' j = zcap S j := fun j => by unfold zcap; rw [h4]
  by_cases hk : i = 54 + k
  · subst hk
    rw [zct_arr, e]
    simp [va_up]
  · simp only [va_up, hk, if_false]
    unfold zct
    by_cases a : i < 10
    · rw [if_pos a, if_pos a, h1 i a]
    · rw [if_neg a, if_neg a]
      by_cases b : i = 10
      · rw [if_pos b, if_pos b, h2]
      · rw [if_neg b, if_neg b]
        by_cases d : i < 54
        · rw [if_pos d, if_pos d, h3]
        · rw [if_neg d, if_neg d, e]
          have : ¬ i - 54 = k := by omega
          simp [va_up, this]
theorem zct_upR {x : List Int32} (hk : k < 43) : ∀ i, i < 97 → va_up (zct cA G aa f S) (11 + k) (.inr (0, [.ref (aa k), .int (nI x.length)])) i = zct cA G aa f (z_row S k x) i := by
  intro i hi
  by_cases h : i = 11 + k
  · subst h
    rw [zct_row hk]
    simp [va_up, z_row]
  · simp only [va_up, h, if_false]
    unfold zct
    by_cases a : i < 10
    · rw [if_pos a, if_pos a]
      have : ∀ o, zobj G (z_row S k x) o = zobj G S o := fun o => by unfold zobj; rfl
      rw [this]
    · rw [if_neg a, if_neg a]
      by_cases b : i = 10
      · rw [if_pos b, if_pos b]; rfl
      · rw [if_neg b, if_neg b]
        by_cases d : i < 54
        · rw [if_pos d, if_pos d]
          have : ¬ i - 11 = k := by omega
          simp [z_row, va_up, this]
        · rw [if_neg d, if_neg d]
          rfl
end ZROW
