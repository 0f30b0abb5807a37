-- THE LAW: its start
section LAWS
variable {p : Program} {l : Launch} {e : Env} {s : State} {m : MethodId} {below : List Frame} {meth : Method} {c : Code} {b L : Nat} {xs : Nat → Int32} {D : va_G} {cA : Nat → ClassId}
theorem lw_arr {s : State} {b : Nat} {ty : FieldType} (hp : ∀ C, ty ≠ .object C) (h : (Cond.arrayClass ty).before #[Value.ref b] s = true) : ∃ cC : ClassId, ArrOfT s cC ty ∧ va_RA s cC ty := by
  obtain ⟨cC, kA, comp, hfind, hk, hkind⟩ := Cond.arrayClass_spec h
  refine ⟨cC, fun n z => ⟨fun k h => (by cases h), kA, hk, comp, hkind⟩, ?_⟩
  cases ty with
  | object C => exact absurd rfl (hp C)
  | _ => exact hfind
theorem lw_world {s : State} {b : Nat} (hz : ∀ w ∈ zwl, w.before #[Value.ref b] s = true) : ∃ (D : va_G) (cA : Nat → ClassId), va_K D zcl (ztys cA) s := by
  have h1 : ∀ k : Nat, ∃ y : ClassId × (Nat → Nat), ∀ q : vw_C, zcl[k]? = some q → u_Kn s q.1 q.2.1 q.2.2 y.1 y.2 := by
    intro k
    by_cases c0 : k = 0
    · subst c0
      obtain ⟨a, f, h⟩ := u_known (C := R_Row) (T := F_Row) (N := 2) (n := 2) hz i_Row (hz _ wd_1_31)
      exact ⟨(a, f), fun q hq => by cases hq; exact h⟩
    by_cases c1 : k = 1
    · subst c1
      obtain ⟨a, f, h⟩ := u_known (C := R_Tre) (T := F_Tre) (N := 12) (n := 12) hz i_Tre (hz _ wd_1_17)
      exact ⟨(a, f), fun q hq => by cases hq; exact h⟩
    by_cases c2 : k = 2
    · subst c2
      obtain ⟨a, f, h⟩ := u_known (C := R_Fam) (T := F_Fam) (N := 2) (n := 2) hz i_Fam (hz _ wd_1_25)
      exact ⟨(a, f), fun q hq => by cases hq; exact h⟩
    by_cases c3 : k = 3
    · subst c3
      obtain ⟨a, f, h⟩ := u_known (C := R_Pat) (T := F_Pat) (N := 9) (n := 9) hz i_Pat (hz _ wd_1_53)
      exact ⟨(a, f), fun q hq => by cases hq; exact h⟩
    by_cases c4 : k = 4
    · subst c4
      obtain ⟨a, f, h⟩ := u_known (C := R_Psh) (T := F_Psh) (N := 2) (n := 2) hz i_Psh (hz _ wd_1_89)
      exact ⟨(a, f), fun q hq => by cases hq; exact h⟩
    by_cases c5 : k = 5
    · subst c5
      obtain ⟨a, f, h⟩ := u_known (C := R_Pai) (T := F_Pai) (N := 2) (n := 2) hz i_Pai (hz _ wd_1_129)
      exact ⟨(a, f), fun q hq => by cases hq; exact h⟩
    by_cases c6 : k = 6
    · subst c6
      obtain ⟨a, f, h⟩ := u_known (C := R_Par) (T := F_Par) (N := 15) (n := 15) hz i_Par (hz _ wd_1_146)
      exact ⟨(a, f), fun q hq => by cases hq; exact h⟩
    by_cases c7 : k = 7
    · subst c7
      obtain ⟨a, f, h⟩ := u_known (C := R_Nod) (T := F_Nod) (N := 10) (n := 10) hz i_Nod (hz _ wd_1_205)
      exact ⟨(a, f), fun q hq => by cases hq; exact h⟩
    by_cases c8 : k = 8
    · subst c8
      obtain ⟨a, f, h⟩ := u_known (C := R_Grw) (T := F_Grw) (N := 5) (n := 5) hz i_Grw (hz _ wd_2_4)
      exact ⟨(a, f), fun q hq => by cases hq; exact h⟩
    by_cases c9 : k = 9
    · subst c9
      obtain ⟨a, f, h⟩ := u_known (C := R_Wlk) (T := F_Wlk) (N := 6) (n := 6) hz i_Wlk (hz _ wd_2_28)
      exact ⟨(a, f), fun q hq => by cases hq; exact h⟩
    by_cases c10 : k = 10
    · subst c10
      obtain ⟨a, f, h⟩ := u_known (C := R_Gap) (T := F_Gap) (N := 6) (n := 6) hz i_Gap (hz _ wd_2_55)
      exact ⟨(a, f), fun q hq => by cases hq; exact h⟩
    by_cases c11 : k = 11
    · subst c11
      obtain ⟨a, f, h⟩ := u_known (C := R_Mod) (T := F_Mod) (N := 46) (n := 46) hz i_Mod (hz _ wd_5_13)
      exact ⟨(a, f), fun q hq => by cases hq; exact h⟩
    exact ⟨(Classical.choice ⟨0⟩, fun _ => 0), fun q hq => by
      have := (List.getElem?_eq_some_iff.mp hq).1
      simp at this
      omega⟩
  have h2 : ∀ k : Nat, ∃ cC : ClassId, ∀ ty : FieldType, ([.int, .long, .byte, .short, .boolean] : List FieldType)[k]? = some ty → ArrOfT s cC ty ∧ va_RA s cC ty := by
    intro k
    by_cases c0 : k = 0
    · subst c0
      obtain ⟨a, h⟩ := lw_arr (ty := .int) (fun C h => by cases h) (hz _ wd_1_43)
      exact ⟨a, fun ty hq => by cases hq; exact h⟩
    by_cases c1 : k = 1
    · subst c1
      obtain ⟨a, h⟩ := lw_arr (ty := .long) (fun C h => by cases h) (hz _ wd_1_51)
      exact ⟨a, fun ty hq => by cases hq; exact h⟩
    by_cases c2 : k = 2
    · subst c2
      obtain ⟨a, h⟩ := lw_arr (ty := .byte) (fun C h => by cases h) (hz _ wd_5_158)
      exact ⟨a, fun ty hq => by cases hq; exact h⟩
    by_cases c3 : k = 3
    · subst c3
      obtain ⟨a, h⟩ := lw_arr (ty := .short) (fun C h => by cases h) (hz _ wd_5_159)
      exact ⟨a, fun ty hq => by cases hq; exact h⟩
    by_cases c4 : k = 4
    · subst c4
      obtain ⟨a, h⟩ := lw_arr (ty := .boolean) (fun C h => by cases h) (hz _ wd_5_160)
      exact ⟨a, fun ty hq => by cases hq; exact h⟩
    obtain ⟨a, -⟩ := h1 0
    exact ⟨a.1, fun ty hq => by
      have := (List.getElem?_eq_some_iff.mp hq).1
      simp at this
      omega⟩
  obtain ⟨f, hf⟩ := Classical.axiomOfChoice h1
  obtain ⟨g, hg⟩ := Classical.axiomOfChoice h2
  refine ⟨(fun k => (f k).1, fun k => (f k).2), g, hf, fun k q hq => ?_⟩
  have e : q.1 = g k ∧ ([.int, .long, .byte, .short, .boolean] : List FieldType)[k]? = some q.2 := by
    match k, hq with
    | 0, hq => cases hq; exact ⟨rfl, rfl⟩
    | 1, hq => cases hq; exact ⟨rfl, rfl⟩
    | 2, hq => cases hq; exact ⟨rfl, rfl⟩
    | 3, hq => cases hq; exact ⟨rfl, rfl⟩
    | 4, hq => cases hq; exact ⟨rfl, rfl⟩
    | k + 5, hq =>
      have := (List.getElem?_eq_some_iff.mp hq).1
      simp at this
      omega
  rw [e.1]
  exact hg k _ e.2
/-- a constructor, behind a world that stays -/
theorem lw_init {W1 : va_W} {pc : Nat} {lv : zLv} {rest : List Value} {Q : State → Prop} (C0 : lwC lw_Th p s m meth c b) (hK : va_K D zcl (ztys cA) s) {y : MethodName} {bytes : ByteArray} {maxL fr lo idx tgt q mc ms : Nat} {v0 : Int32} {e1 : va_E} {κ : Type} {w1 : κ → va_W} (hM : kMet l y (zw y bytes maxL none) fr lo [.ref q] D cA q e1 w1 mc ms)
    (hcode : Cond.code y bytes maxL none ∈ zwl) (hini : Cond.initialized y.cls ∈ zwl) (hl : Cond.methodLink "RuleTreeLaw" idx y ∈ zwl) (him : Cond.instanceMethod y ∈ zwl) (hy : y.name = "<init>") (hd : y.cls ≠ "java/lang/invoke/MethodHandle" ∧ y.cls ≠ "java/lang/invoke/VarHandle" ∧ (parseMethodDescriptor y.desc).map (fun d => d.parameters.length) = some 0) (hR : fr + 1 ≤ room_1.frames ∧ 8 + (maxL + 11) + lo ≤ room_1.locals) (hW : (rest.map fun v => v.category).sum ≤ 8)
    {H : Heap} {locs : List Loc} {cells slots : Nat} {ls : Array Slot} (g1 : va_P D zcl (W1 ++ [(q, e1)]) H) (g2 : va_D (lwN s) (W1 ++ [(q, e1)])) (g3 : va_S (lwN s) s.heap H locs) (g5 : lv_has ls 4 lv) (hcells : cells + mc ≤ room_1.cells) (hslots : slots + ms ≤ room_1.slots) (hq : lw_Th.lookup pc = some (.invokespecial idx, 3, tgt, v0))
    (k : ∀ (x : κ) (H1 : Heap) (locs1 : List Loc), va_P D zcl (W1 ++ w1 x) H1 → va_D (lwN s) (W1 ++ w1 x) → va_S (lwN s) s.heap H1 locs1 → W p l e room_1 s m #[Value.ref b] below meth c H1 locs1 (cells + mc) (slots + ms) Q (F0 m (pc + 3) ls rest)) : W p l e room_1 s m #[Value.ref b] below meth c H locs cells slots Q (F0 m pc ls (.ref q :: rest)) := by
  obtain ⟨hx, hb, hml, hown, hts, hT, hr, hlocks⟩ := C0
  have hA : ∀ q, s.heap.size ≤ q → lwN s q := fun _ h => h
  have hG : GoodIn zwl (zw y bytes maxL none) := by
    intro x hx
    rcases List.mem_cons.mp hx with rfl | h
    · exact zgood _ hcode
    · exact zgood _ h
  have hwq : va_at D zcl (q, e1) H := g1 W1.length _ (by simp)
  have run := va_runI (p := p) (l := l) (e := e) (below := below) (meth := meth) (c := c) (H := H) (locs := locs) (cells := cells) (slots := slots) (g := F0 m pc ls (.ref q :: rest)) (As := []) (rest := rest) (R := room_1) ⟨hx, hb, hml, hown, hts⟩ (hM H.size) (cwI 0 hts hG rfl rfl rfl (hts _ hini) (hts _ hl) (hts _ him) hy hd hR) ⟨kPre_blind, fun U hU hW2 => ⟨rfl, by rw [hU], by rw [hU]; exact zP1 hwq, va_K.moved hW2.alike hK, zD1 trivial⟩⟩ rfl rfl g5.1 rfl (lv_room hW) (hT.dec hq) ⟨hcells, hslots⟩
  intro T0 hT0 X
  obtain ⟨v, st₀, t, T', Lc, h0', X', hL, e1', e2, ⟨hv, ⟨x, hP1, hD1⟩, hz, hk⟩, stp⟩ := run T0 hT0 X
  cases hv
  rw [h0'] at hz hk
  have hAq : ∀ z, va_A [(q, e1)] H.size z → lwN s z := by
    intro z hz
    rcases hz with ⟨j, e, h⟩ | h
    · have h1 := (List.getElem?_eq_some_iff.mp h).1
      simp at h1
      subst h1
      cases h
      exact g2.2 W1.length (q, e1) (by simp)
    · exact hA z (Nat.le_trans g3.1 h)
  have J := join_last (W := W1) (q := (q, e1)) (w1 := w1 x) (H := H) (H1 := t.heap) g1 g2 (fun z hz => hA z (Nat.le_trans g3.1 hz)) (fun z a b => hk z a b) hP1 hD1
  obtain ⟨t2, a1, b1⟩ := k x T'.heap (locs ++ Lc) (by rw [e1']; exact J.1) J.2
    ⟨Nat.le_trans g3.1 (by rw [e1']; exact hz), fun z f1 f2 => by rw [e1', hk z (Nat.lt_of_lt_of_le f1 g3.1) (fun zz => f2 (hAq z zz))]; exact g3.2.1 z f1 f2, fun z hz => by
      rcases List.mem_append.mp hz with h | h
      · exact g3.2.2 z h
      · exact hAq _ (hL z h)⟩ T' rfl X'
  exact ⟨t2, stp t2 a1, b1⟩
/-- both worlds stand -/
theorem lw_both {h0 : Nat} {z : kTreI} {B : Nat → Nat} {H : Heap} (hP : va_P D zcl (w_Tre cA h0 z ++ zws 34 B (mct cA B zM0)) H) (hD : va_D (lwN s) (w_Tre cA h0 z ++ zws 34 B (mct cA B zM0))) : (∃ G : Nat → Nat, G 0 = h0 ∧ zRep D cA G (lwA s B) zS0 H) ∧ mRep D cA B (lwN s) zM0 H := by
  rw [vaP_mem] at hP
  rw [vaD_mem] at hD
  obtain ⟨d1, d2⟩ := hD
  rw [List.map_append, List.nodup_append] at d1
  obtain ⟨n1, n2, n3⟩ := d1
  have hmem : ∀ i, i < 34 → (B i, mct cA B zM0 i) ∈ zws 34 B (mct cA B zM0) := fun i hi => List.mem_of_getElem? (zws_at hi)
  constructor
  · refine tree_rep h0 z (vaP_mem.mpr (fun q hq => hP q (List.mem_append_left _ hq))) (vaD_mem.mpr ⟨n1, fun q hq => ⟨d2 q (List.mem_append_left _ hq), fun i hi h => ?_⟩⟩)
    exact n3 q.1 (List.mem_map.mpr ⟨q, hq, rfl⟩) (B i) (List.mem_map.mpr ⟨_, hmem i hi, rfl⟩) h
  · refine ⟨fun i hi => hP _ (List.mem_append_right _ (hmem i hi)), fun i j hi hj h => ?_, fun i hi => d2 _ (List.mem_append_right _ (hmem i hi))⟩
    have hD2 : va_D (fun _ => True) (zws 34 B (mct cA B zM0)) := vaD_mem.mpr ⟨n2, fun _ _ => trivial⟩
    exact hD2.1 i j _ _ (zws_at hi) (zws_at hj) h
end LAWS
set_option maxHeartbeats 4000000 in
set_option maxRecDepth 100000 in
/-- THE LAW, from its entry -/
theorem whole_start {p : Program} {e : Env} {s : State} {m : MethodId} {below : List Frame} {meth : Method} {c : Code} (l : Launch) {b L : Nat} {xs : Nat → Int32} (hL : L ≤ 2048) (C0 : lw_At p s m meth c b L xs) : W p l e room_1 s m #[Value.ref b] below meth c s.heap [] 0 0 (lw_Z below #[Value.ref b] s) (entryFrame m ([Value.ref b] : List Value).toArray 4) := by
  obtain ⟨hx, hb, hr, hml, hown, hts, hX, hbl, hlocks, hgv⟩ := C0
  have hz : ∀ w ∈ zwl, w.before #[Value.ref b] s = true := fun w hw => hts w (List.mem_filter.mp hw).1
  have C1 : lwC lw_Th p s m meth c b := ⟨hx, hb, hml, hown, hz, lw_Tkh, hr, hlocks⟩
  obtain ⟨D, cA, hK⟩ := lw_world hz
  have hA : ∀ q : Nat, s.heap.size ≤ q → lwN s q := fun _ h => h
  have hS : va_S (lwN s) s.heap s.heap [] := va_S.rf
  have hP : va_P D zcl [] s.heap := fun k q h => by simp at h
  have hD : va_D (lwN s) [] := ⟨fun i j p q h => by simp at h, fun k q h => by simp at h⟩
  have hl := lv_entry ([.ref b]) (n := 4) (Nat.le_of_ble_eq_true rfl)
  rw [lg_entry_eq]
  generalize (lg_sl ([.ref b]) ++ List.replicate (4 - (lg_sl ([.ref b])).length) Slot.unset).toArray = ls at hl ⊢
  have hl : lv_has ls 4 [(0, .ref b)] := hl
  refine va_new (D := D) (cl := zcl) (tys := ztys cA) (ci := 1) (fs := [.null, .null, .null, .null, .null, .null, .null, .null, .null, .null, .int 0, .int 0]) (C := R_Tre) (T := F_Tre) (N := 12) hx hb hz i_Tre t_Tre t_Tre_ok hown (hz _ wd_1_16) (hz _ wd_1_17) (hz _ wd_1_1) hK hP hD hS hA rfl (fun j hj => by rcases (show j = 0 ∨ j = 1 ∨ j = 2 ∨ j = 3 ∨ j = 4 ∨ j = 5 ∨ j = 6 ∨ j = 7 ∨ j = 8 ∨ j = 9 ∨ j = 10 ∨ j = 11 by omega) with rfl | rfl | rfl | rfl | rfl | rfl | rfl | rfl | rfl | rfl | rfl | rfl <;> rfl) (Nat.le_of_ble_eq_true rfl) (Nat.le_of_ble_eq_true rfl) (lw_Tkh.dec (show lw_Th.lookup 0 = some (.new 7, 3, 0, 0) from rfl)) (fun q0 H hP hD hS => ?_)
  refine zrun_ok hx hb lw_Tkh 1 3 [(0, .ref b)] [.ref q0] (pc' := 4) (lv' := [(0, .ref b)]) (st' := [.ref q0, .ref q0]) rfl hl (fun ls hl => ?_)
  refine lw_init (W1 := []) C1 hK (k_Tre_init q0) wd_1_20 wd_1_1 wd_1_18 wd_1_19 rfl (by decide +kernel) ⟨Nat.le_of_ble_eq_true rfl, Nat.le_of_ble_eq_true rfl⟩ (Nat.le_of_ble_eq_true rfl) hP hD hS hl (Nat.le_of_ble_eq_true rfl) (Nat.le_of_ble_eq_true rfl) rfl (fun z H locs hP hD hS => ?_)
  have hP : va_P D zcl (w_Tre cA q0 z) H := hP
  have hD : va_D (lwN s) (w_Tre cA q0 z) := hD
  refine zrun_ok hx hb lw_Tkh 1 7 [(0, .ref b)] [.ref q0] (pc' := 8) (lv' := [(0, .ref b), (1, .ref q0)]) (st' := []) rfl hl (fun ls hl => ?_)
  refine va_new (D := D) (cl := zcl) (tys := ztys cA) (ci := 11) (fs := [.int 0, .null, .null, .int 0, .null, .null, .null, .null, .null, .null, .null, .int 0, .null, .null, .int 0, .null, .null, .int 0, .null, .null, .int 0, .null, .null, .int 0, .null, .null, .null, .null, .null, .null, .null, .null, .null, .null, .null, .int 0, .int 0, .int 0, .null, .int 0, .null, .null, .int 0, .null, .null, .int 0]) (C := R_Mod) (T := F_Mod) (N := 46) hx hb hz i_Mod t_Mod t_Mod_ok hown (hz _ wd_5_12) (hz _ wd_5_13) (hz _ wd_1_15) hK hP hD hS hA rfl (fun j hj => by rcases (show j = 0 ∨ j = 1 ∨ j = 2 ∨ j = 3 ∨ j = 4 ∨ j = 5 ∨ j = 6 ∨ j = 7 ∨ j = 8 ∨ j = 9 ∨ j = 10 ∨ j = 11 ∨ j = 12 ∨ j = 13 ∨ j = 14 ∨ j = 15 ∨ j = 16 ∨ j = 17 ∨ j = 18 ∨ j = 19 ∨ j = 20 ∨ j = 21 ∨ j = 22 ∨ j = 23 ∨ j = 24 ∨ j = 25 ∨ j = 26 ∨ j = 27 ∨ j = 28 ∨ j = 29 ∨ j = 30 ∨ j = 31 ∨ j = 32 ∨ j = 33 ∨ j = 34 ∨ j = 35 ∨ j = 36 ∨ j = 37 ∨ j = 38 ∨ j = 39 ∨ j = 40 ∨ j = 41 ∨ j = 42 ∨ j = 43 ∨ j = 44 ∨ j = 45 by omega) with rfl | rfl | rfl | rfl | rfl | rfl | rfl | rfl | rfl | rfl | rfl | rfl | rfl | rfl | rfl | rfl | rfl | rfl | rfl | rfl | rfl | rfl | rfl | rfl | rfl | rfl | rfl | rfl | rfl | rfl | rfl | rfl | rfl | rfl | rfl | rfl | rfl | rfl | rfl | rfl | rfl | rfl | rfl | rfl | rfl | rfl <;> rfl) (Nat.le_of_ble_eq_true rfl) (Nat.le_of_ble_eq_true rfl) (lw_Tkh.dec (show lw_Th.lookup 8 = some (.new 10, 3, 0, 0) from rfl)) (fun q1 H hP hD hS => ?_)
  refine zrun_ok hx hb lw_Tkh 1 11 [(0, .ref b), (1, .ref q0)] [.ref q1] (pc' := 12) (lv' := [(0, .ref b), (1, .ref q0)]) (st' := [.ref q1, .ref q1]) rfl hl (fun ls hl => ?_)
  refine lw_init (W1 := w_Tre cA q0 z) C1 hK (k_Mod_init q1) wd_5_16 wd_1_15 wd_5_14 wd_5_15 rfl (by decide +kernel) ⟨Nat.le_of_ble_eq_true rfl, Nat.le_of_ble_eq_true rfl⟩ (Nat.le_of_ble_eq_true rfl) hP hD hS hl (Nat.le_of_ble_eq_true rfl) (Nat.le_of_ble_eq_true rfl) rfl (fun B H locs hP hD hS => ?_)
  obtain ⟨B, hB⟩ := B
  refine zrun_ok hx hb lw_Tkh 3 15 [(0, .ref b), (1, .ref q0)] [.ref q1] (pc' := 18) (lv' := [(0, .ref b), (1, .ref q0), (2, .ref q1), (3, .int 0)]) (st' := []) rfl hl (fun ls hl => ?_)
  obtain ⟨⟨G, hG, hR1⟩, hR2⟩ := lw_both hP hD
  rw [← hG, ← hB] at hl
  exact lw_loop (l := l) (e := e) (below := below) (G := G) (B := B) C1 hK hX hbl hL 512 0 0 zS0 zM0 rfl (by omega) (by omega) Rel_0 H locs _ _ ls hR1 hR2 hS (by show 134 ≤ 200 + zfc zS0; omega) (by show 429456 ≤ 430000 + zfs zS0; omega) hl
