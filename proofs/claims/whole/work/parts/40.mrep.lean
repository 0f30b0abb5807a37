-- THE REFERENCE'S STATE: 33 arrays (ints and longs), its numbers. Arrays: 0 constructors, 1 arguments, 2 kinds, 3 firsts, 4 seconds, 5 ofs, 6 given, 7 sizes, 8 whole, 9 fieldNumber, 10 fieldPattern, 11 pushedNumber, 12 pushedPattern, 13 ruleOf, 14 askAt, 15 askPlace, 16 askPattern, 17 above, 18 step, 19 way, 20 below, 21 beside, 22 size, 23 possible, 24 lookedPlace, 25 found, 26 other, 27 looked, 28 endings, 29 missPlace, 30 missNumber, 31 pileA, 32 pileB. Numbers: 0 families, 1 patterns, 2 fields, 3 pushed, 4 rules, 5 allSizes, 6 places, 7 grown, 8 nodes, 9 deepest, 10 missed, 11 piled, 12 told
abbrev zM : Type := (Nat → Nat → Int32) × (Nat → Nat → Int64) × (Nat → Int32)
def mlen : Nat → Nat
  | 0 => 1024
  | 1 => 1024
  | 2 => 16384
  | 3 => 16384
  | 4 => 16384
  | 5 => 16384
  | 6 => 16384
  | 7 => 16384
  | 8 => 16384
  | 9 => 16384
  | 10 => 16384
  | 11 => 128
  | 12 => 128
  | 13 => 1024
  | 14 => 1025
  | 15 => 16385
  | 16 => 16385
  | 17 => 16386
  | 18 => 16386
  | 19 => 16386
  | 20 => 16386
  | 21 => 16386
  | 22 => 16386
  | 23 => 65568
  | 24 => 4097
  | 25 => 4097
  | 26 => 4097
  | 27 => 16386
  | 28 => 1025
  | 29 => 4097
  | 30 => 4097
  | 31 => 20480
  | _ => 20480
def mty : Nat → Nat
  | 0 => 0
  | 1 => 1
  | 2 => 2
  | 3 => 0
  | 4 => 0
  | 5 => 0
  | 6 => 3
  | 7 => 3
  | 8 => 4
  | 9 => 3
  | 10 => 3
  | 11 => 0
  | 12 => 0
  | 13 => 0
  | 14 => 0
  | 15 => 0
  | 16 => 0
  | 17 => 0
  | 18 => 0
  | 19 => 1
  | 20 => 0
  | 21 => 0
  | 22 => 0
  | 23 => 1
  | 24 => 0
  | 25 => 1
  | 26 => 4
  | 27 => 4
  | 28 => 0
  | 29 => 0
  | 30 => 0
  | 31 => 0
  | _ => 0
def mobj (B : Nat → Nat) (M : zM) : List Value := [.int (M.2.2 0), .ref (B 1), .ref (B 2), .int (M.2.2 1), .ref (B 3), .ref (B 4), .ref (B 5), .ref (B 6), .ref (B 7), .ref (B 8), .ref (B 9), .int (M.2.2 2), .ref (B 10), .ref (B 11), .int (M.2.2 3), .ref (B 12), .ref (B 13), .int (M.2.2 4), .ref (B 14), .ref (B 15), .int (M.2.2 5), .ref (B 16), .ref (B 17), .int (M.2.2 6), .ref (B 18), .ref (B 19), .ref (B 20), .ref (B 21), .ref (B 22), .ref (B 23), .ref (B 24), .ref (B 25), .ref (B 26), .ref (B 27), .ref (B 28), .int (M.2.2 7), .int (M.2.2 8), .int (M.2.2 9), .ref (B 29), .int (M.2.2 10), .ref (B 30), .ref (B 31), .int (M.2.2 11), .ref (B 32), .ref (B 33), .int (M.2.2 12)]
def mct (cA : Nat → ClassId) (B : Nat → Nat) (M : zM) (i : Nat) : va_E :=
  if i = 0 then .inr (11, mobj B M) else if mty (i - 1) = 1 then .inl (cA 1, mlen (i - 1), .inr (.inl (M.2.1 (i - 1)))) else .inl (cA (mty (i - 1)), mlen (i - 1), .inl (M.1 (i - 1)))
def mRep (D : va_G) (cA : Nat → ClassId) (B : Nat → Nat) (A : Nat → Prop) (M : zM) (H : Heap) : Prop :=
  (∀ i, i < 34 → va_at D zcl (B i, mct cA B M i) H) ∧ (∀ i j, i < 34 → j < 34 → B i = B j → i = j) ∧ ∀ i, i < 34 → A (B i)
def m_sc (M : zM) (k : Nat) (x : Int32) : zM := (M.1, M.2.1, va_up M.2.2 k x)
def m_set (M : zM) (a i : Nat) (x : Int32) : zM := (va_up M.1 a (upd (M.1 a) i x), M.2)
def m_setl (M : zM) (a i : Nat) (x : Int64) : zM := (M.1, va_up M.2.1 a (vp_updL (M.2.1 a) i x), M.2.2)
def m_rd {β : Type} (n : Nat) (f : Nat → Int32) (i : Int32) (k : Int32 → Option β) : Option β := if i < 0 then none else if nI n ≤ i then none else k (f i.toNatClampNeg)
def m_rdl {β : Type} (n : Nat) (f : Nat → Int64) (i : Int32) (k : Int64 → Option β) : Option β := if i < 0 then none else if nI n ≤ i then none else k (f i.toNatClampNeg)
def m_wr {β : Type} (n : Nat) (i : Int32) (M : zM) (k : zM → Option β) : Option β := if i < 0 then none else if nI n ≤ i then none else k M
section ZMR
variable {cA : Nat → ClassId} {B : Nat → Nat} {S : zM} {A : Nat → Prop} {D : va_G} {l : Launch}
theorem mct_0 : mct cA B S 0 = .inr (11, mobj B S) := if_pos rfl
theorem mct_a {a t n : Nat} (ht : mty a = t) (hn : mlen a = n) (h1 : ¬ t = 1) : mct cA B S (1 + a) = .inl (cA t, n, .inl (S.1 a)) := by
  unfold mct
  rw [if_neg (by omega), show 1 + a - 1 = a by omega, ht, hn, if_neg h1]
theorem mct_l {a n : Nat} (ht : mty a = 1) (hn : mlen a = n) : mct cA B S (1 + a) = .inl (cA 1, n, .inr (.inl (S.2.1 a))) := by
  unfold mct
  rw [if_neg (by omega), show 1 + a - 1 = a by omega, ht, hn, if_pos rfl]
theorem mrc {s : State} (hK : va_K D zcl (ztys cA) s) : ∀ H, mRep D cA B A S H → zRc s "RuleTreeModel" (B 0) H := fun H h => by
  have hw := h.1 0 (by omega)
  rw [mct_0] at hw
  exact va_recv hK (zP1 hw) (ci := 11) (q0 := 0) rfl rfl
variable {p : Program} {e : Env} {R : Room} {s : State} {m : MethodId} {args : Array Value} {below : List Frame} {meth : Method} {c : Code} {nL : Nat} {cc : ByteArray} {T : List zTr} {own : String} {ret : Option FieldType} {pc : Nat} {lv : zLv} {rest : List Value} {E : zM × Option Value}
abbrev mSW (p : Program) (l : Launch) (e : Env) (R : Room) (s : State) (m : MethodId) (args : Array Value) (below : List Frame) (meth : Method) (c : Code) (nL : Nat) (A : Nat → Prop) (D : va_G) (cA : Nat → ClassId) (B : Nat → Nat) (S : zM) (pc : Nat) (lv : zLv) (st : List Value) (E : zM × Option Value) : Prop := SW p l e R s m args below meth c nL A (mRep D cA B A) (fun _ => 0) (fun _ => 0) S pc lv st E
abbrev mSO (p : Program) (l : Launch) (e : Env) (R : Room) (s : State) (m : MethodId) (args : Array Value) (below : List Frame) (meth : Method) (c : Code) (nL : Nat) (A : Nat → Prop) (D : va_G) (cA : Nat → ClassId) (B : Nat → Nat) (S : zM) (pc : Nat) (lv : zLv) (st : List Value) {ρ : Type} (F : ρ → zM × Option Value) (x : Option ρ) : Prop := SO p l e R s m args below meth c nL A (mRep D cA B A) (fun _ => 0) (fun _ => 0) S pc lv st F x
theorem sw_mget (C0 : zC p s m args meth c cc nL own zwl T ret) (hK : va_K D zcl (ztys cA) s) {j idx tgt : Nat} {v0 : Int32} {v : Value} (hj : j < 46) (hl : Cond.fieldLink own idx (F_Mod j).1 (F_Mod j).2.1 (F_Mod j).2.2.1 ∈ zwl) (hv : (mobj B S)[j]? = some v) (hq : T.lookup pc = some (.getfield idx, 3, tgt, v0))
    (kk : mSW p l e R s m args below meth c nL A D cA B S (pc + 3) lv (v :: rest) E) : mSW p l e R s m args below meth c nL A D cA B S pc lv (.ref (B 0) :: rest) E := by
  obtain ⟨hx, hb, hml, hown, hts, hT, hr, hlocks⟩ := C0
  refine ⟨kk.1, kk.2.1, fun H locs cells slots ls h1 h2 h3 h4 h5 => ?_⟩
  have hw := h1.1 0 (by omega)
  rw [mct_0] at hw
  exact va_get (D := D) (cl := zcl) (tys := ztys cA) (ws := [(B 0, .inr (11, mobj B S))]) (ci := 11) hx hb hts i_Mod hown hK (zP1 hw) 0 rfl rfl j hj (hts _ hl) (fun _ h => h) hv (hT.dec hq) (kk.2.2 H locs cells slots ls h1 h2 h3 h4 h5)
theorem so_mget {ρ : Type} {F : ρ → zM × Option Value} {w : Option ρ} (C0 : zC p s m args meth c cc nL own zwl T ret) (hK : va_K D zcl (ztys cA) s) {j idx tgt : Nat} {v0 : Int32} {v : Value} (hj : j < 46) (hl : Cond.fieldLink own idx (F_Mod j).1 (F_Mod j).2.1 (F_Mod j).2.2.1 ∈ zwl) (hv : (mobj B S)[j]? = some v) (hq : T.lookup pc = some (.getfield idx, 3, tgt, v0))
    (kk : mSO p l e R s m args below meth c nL A D cA B S (pc + 3) lv (v :: rest) F w) : mSO p l e R s m args below meth c nL A D cA B S pc lv (.ref (B 0) :: rest) F w := fun r hr => sw_mget C0 hK hj hl hv hq (kk r hr)
theorem mRep_mk {S' : zM} {H : Heap} (hP : va_P D zcl (zws 34 B (mct cA B S')) H) (hD : va_D A (zws 34 B (mct cA B S'))) : mRep D cA B A S' H :=
  ⟨fun i hi => zws_Pi hP hi, fun i j hi hj e => hD.1 i j _ _ (zws_at hi) (zws_at hj) e, fun i hi => hD.2 i _ (zws_at hi)⟩
theorem sw_mput (C0 : zC p s m args meth c cc nL own zwl T ret) (hK : va_K D zcl (ztys cA) s) {j q idx tgt : Nat} {v0 x : Int32} {ty : FieldType} (hj : j < 46) (hjl : j < (mobj B S).length) (hfin : (F_Mod j).2.2.2 = false) (hd : parseFieldDescriptor (F_Mod j).2.2.1 = some ty) (hn : narrow ty (.int x) = .int x) (hfit : fits ty (.int x) = true) (hl : Cond.fieldLink own idx (F_Mod j).1 (F_Mod j).2.1 (F_Mod j).2.2.1 ∈ zwl) (hset : (mobj B S).set j (.int x) = mobj B (m_sc S q x)) (hq : T.lookup pc = some (.putfield idx, 3, tgt, v0))
    (kk : mSW p l e R s m args below meth c nL A D cA B (m_sc S q x) (pc + 3) lv rest E) : mSW p l e R s m args below meth c nL A D cA B S pc lv (.int x :: .ref (B 0) :: rest) E := by
  obtain ⟨hx, hb, hml, hown, hts, hT, hr, hlocks⟩ := C0
  refine ⟨kk.1, kk.2.1, fun H locs cells slots ls h1 h2 h3 h4 h5 => ?_⟩
  obtain ⟨hP, hjj, hAA⟩ := id h1
  have he : (zws 34 B (mct cA B S))[0]? = some (B 0, .inr (11, mobj B S)) := by rw [zws_at (by omega), mct_0]
  refine va_put (D := D) (cl := zcl) (tys := ztys cA) (ci := 11) (ty := ty) hx hb hts i_Mod t_Mod t_Mod_ok n_Mod hown hK (zws_P hP) (zws_D hjj hAA) h2 0 he rfl j hj (hts _ hl) (fun _ h9 => h9) hfin hd hn hfit hjl (hT.dec hq) (fun H1 locs1 hP1 hD1 hS1 => ?_)
  have hs : (zws 34 B (mct cA B S)).set 0 (B 0, .inr (11, (mobj B S).set j (.int x))) = zws 34 B (mct cA B (m_sc S q x)) := by
    rw [zws_set]
    refine zws_congr (fun _ _ => rfl) (fun i hi => ?_)
    by_cases ei : i = 0
    · subst ei
      rw [mct_0]
      simp [va_up, hset]
    · simp only [va_up, ei, if_false]
      unfold mct
      rw [if_neg ei, if_neg ei]
      rfl
  rw [hs] at hP1 hD1
  exact kk.2.2 H1 locs1 cells slots ls (mRep_mk hP1 hD1) hS1 h3 h4 h5
theorem so_mput {ρ : Type} {F : ρ → zM × Option Value} {w : Option ρ} (C0 : zC p s m args meth c cc nL own zwl T ret) (hK : va_K D zcl (ztys cA) s) {j q idx tgt : Nat} {v0 x : Int32} {ty : FieldType} (hj : j < 46) (hjl : j < (mobj B S).length) (hfin : (F_Mod j).2.2.2 = false) (hd : parseFieldDescriptor (F_Mod j).2.2.1 = some ty) (hn : narrow ty (.int x) = .int x) (hfit : fits ty (.int x) = true) (hl : Cond.fieldLink own idx (F_Mod j).1 (F_Mod j).2.1 (F_Mod j).2.2.1 ∈ zwl) (hset : (mobj B S).set j (.int x) = mobj B (m_sc S q x)) (hq : T.lookup pc = some (.putfield idx, 3, tgt, v0))
    (kk : mSO p l e R s m args below meth c nL A D cA B (m_sc S q x) (pc + 3) lv rest F w) : mSO p l e R s m args below meth c nL A D cA B S pc lv (.int x :: .ref (B 0) :: rest) F w := fun r hr => sw_mput C0 hK hj hjl hfin hd hn hfit hl hset hq (kk r hr)
theorem mct_up {a t n : Nat} {g : Nat → Int32} (ht : mty a = t) (hn : mlen a = n) (h1 : ¬ t = 1) (M' : zM) (hM : M' = (va_up S.1 a g, S.2)) : ∀ i, i < 34 → va_up (mct cA B S) (1 + a) (.inl (cA t, n, .inl g)) i = mct cA B M' i := by
  intro i hi
  subst hM
  by_cases e : i = 1 + a
  · subst e
    rw [mct_a ht hn h1]
    simp [va_up]
  · simp only [va_up, e, if_false]
    unfold mct
    by_cases z : i = 0
    · rw [if_pos z, if_pos z]; rfl
    · rw [if_neg z, if_neg z]
      have : ¬ i - 1 = a := by omega
      by_cases q : mty (i - 1) = 1
      · rw [if_pos q, if_pos q]
      · rw [if_neg q, if_neg q]; simp [va_up, this]
theorem mct_upl {a n : Nat} {g : Nat → Int64} (ht : mty a = 1) (hn : mlen a = n) (M' : zM) (hM : M' = (S.1, va_up S.2.1 a g, S.2.2)) : ∀ i, i < 34 → va_up (mct cA B S) (1 + a) (.inl (cA 1, n, .inr (.inl g))) i = mct cA B M' i := by
  intro i hi
  subst hM
  by_cases e : i = 1 + a
  · subst e
    rw [mct_l ht hn]
    simp [va_up]
  · simp only [va_up, e, if_false]
    unfold mct
    by_cases z : i = 0
    · rw [if_pos z, if_pos z]; rfl
    · rw [if_neg z, if_neg z]
      have : ¬ i - 1 = a := by omega
      by_cases q : mty (i - 1) = 1
      · rw [if_pos q, if_pos q]; simp [va_up, this]
      · rw [if_neg q, if_neg q]
theorem so_miald {ρ : Type} {F : ρ → zM × Option Value} {K : Int32 → Option ρ} (C0 : zC p s m args meth c cc nL own zwl T ret) (hK : va_K D zcl (ztys cA) s) {a n tgt : Nat} {v0 i : Int32} (ha : a < 33) (hty : mty a = 0) (hn : mlen a = n) (hn2 : n < 2147483648) (hq : T.lookup pc = some (.iaload, 1, tgt, v0))
    (kk : ∀ v, v = S.1 a i.toNatClampNeg → mSO p l e R s m args below meth c nL A D cA B S (pc + 1) lv (.int v :: rest) F (K v)) : mSO p l e R s m args below meth c nL A D cA B S pc lv (.int i :: .ref (B (1 + a)) :: rest) F (m_rd n (S.1 a) i K) := by
  intro r hr
  unfold m_rd at hr
  split at hr
  · cases hr
  · rename_i g1
    split at hr
    · cases hr
    · rename_i g2
      have k := kk _ rfl r hr
      obtain ⟨hx, hb, hml, hown, hts, hT, hr, hlocks⟩ := C0
      refine ⟨k.1, k.2.1, fun H locs cells slots ls h1 h2 h3 h4 h5 => ?_⟩
      have hw := h1.1 (1 + a) (by omega)
      rw [mct_a hty hn (by decide)] at hw
      obtain ⟨j, hj, rfl⟩ := nI_of g1
      have hj2 : j < n := Nat.lt_of_not_le (fun q => g2 ((nI_leI (by omega) hj).mpr q))
      exact va_iald (D := D) (cl := zcl) (tys := ztys cA) hx hb hK (zP1 hw) 0 0 rfl rfl (vp_in_nI hj2 (by omega)) (hT.dec hq) (k.2.2 H locs cells slots ls h1 h2 h3 h4 h5)
theorem so_mbald {ρ : Type} {F : ρ → zM × Option Value} {K : Int32 → Option ρ} (C0 : zC p s m args meth c cc nL own zwl T ret) (hK : va_K D zcl (ztys cA) s) {a n tgt : Nat} {v0 i : Int32} (ha : a < 33) (hty : mty a = 2) (hn : mlen a = n) (hn2 : n < 2147483648) (hq : T.lookup pc = some (.baload, 1, tgt, v0))
    (kk : ∀ v, v = S.1 a i.toNatClampNeg → mSO p l e R s m args below meth c nL A D cA B S (pc + 1) lv (.int v :: rest) F (K v)) : mSO p l e R s m args below meth c nL A D cA B S pc lv (.int i :: .ref (B (1 + a)) :: rest) F (m_rd n (S.1 a) i K) := by
  intro r hr
  unfold m_rd at hr
  split at hr
  · cases hr
  · rename_i g1
    split at hr
    · cases hr
    · rename_i g2
      have k := kk _ rfl r hr
      obtain ⟨hx, hb, hml, hown, hts, hT, hr, hlocks⟩ := C0
      refine ⟨k.1, k.2.1, fun H locs cells slots ls h1 h2 h3 h4 h5 => ?_⟩
      have hw := h1.1 (1 + a) (by omega)
      rw [mct_a hty hn (by decide)] at hw
      obtain ⟨j, hj, rfl⟩ := nI_of g1
      have hj2 : j < n := Nat.lt_of_not_le (fun q => g2 ((nI_leI (by omega) hj).mpr q))
      exact va_bald (D := D) (cl := zcl) (tys := ztys cA) hx hb hK (zP1 hw) 0 2 rfl rfl (vp_in_nI hj2 (by omega)) (hT.dec hq) (k.2.2 H locs cells slots ls h1 h2 h3 h4 h5)
theorem so_msald {ρ : Type} {F : ρ → zM × Option Value} {K : Int32 → Option ρ} (C0 : zC p s m args meth c cc nL own zwl T ret) (hK : va_K D zcl (ztys cA) s) {a n tgt : Nat} {v0 i : Int32} (ha : a < 33) (hty : mty a = 3) (hn : mlen a = n) (hn2 : n < 2147483648) (hq : T.lookup pc = some (.saload, 1, tgt, v0))
    (kk : ∀ v, v = S.1 a i.toNatClampNeg → mSO p l e R s m args below meth c nL A D cA B S (pc + 1) lv (.int v :: rest) F (K v)) : mSO p l e R s m args below meth c nL A D cA B S pc lv (.int i :: .ref (B (1 + a)) :: rest) F (m_rd n (S.1 a) i K) := by
  intro r hr
  unfold m_rd at hr
  split at hr
  · cases hr
  · rename_i g1
    split at hr
    · cases hr
    · rename_i g2
      have k := kk _ rfl r hr
      obtain ⟨hx, hb, hml, hown, hts, hT, hr, hlocks⟩ := C0
      refine ⟨k.1, k.2.1, fun H locs cells slots ls h1 h2 h3 h4 h5 => ?_⟩
      have hw := h1.1 (1 + a) (by omega)
      rw [mct_a hty hn (by decide)] at hw
      obtain ⟨j, hj, rfl⟩ := nI_of g1
      have hj2 : j < n := Nat.lt_of_not_le (fun q => g2 ((nI_leI (by omega) hj).mpr q))
      exact va_sald (D := D) (cl := zcl) (tys := ztys cA) hx hb hK (zP1 hw) 0 3 rfl rfl (vp_in_nI hj2 (by omega)) (hT.dec hq) (k.2.2 H locs cells slots ls h1 h2 h3 h4 h5)
theorem so_mzald {ρ : Type} {F : ρ → zM × Option Value} {K : Int32 → Option ρ} (C0 : zC p s m args meth c cc nL own zwl T ret) (hK : va_K D zcl (ztys cA) s) {a n tgt : Nat} {v0 i : Int32} (ha : a < 33) (hty : mty a = 4) (hn : mlen a = n) (hn2 : n < 2147483648) (hq : T.lookup pc = some (.baload, 1, tgt, v0))
    (kk : ∀ v, v = S.1 a i.toNatClampNeg → mSO p l e R s m args below meth c nL A D cA B S (pc + 1) lv (.int v :: rest) F (K v)) : mSO p l e R s m args below meth c nL A D cA B S pc lv (.int i :: .ref (B (1 + a)) :: rest) F (m_rd n (S.1 a) i K) := by
  intro r hr
  unfold m_rd at hr
  split at hr
  · cases hr
  · rename_i g1
    split at hr
    · cases hr
    · rename_i g2
      have k := kk _ rfl r hr
      obtain ⟨hx, hb, hml, hown, hts, hT, hr, hlocks⟩ := C0
      refine ⟨k.1, k.2.1, fun H locs cells slots ls h1 h2 h3 h4 h5 => ?_⟩
      have hw := h1.1 (1 + a) (by omega)
      rw [mct_a hty hn (by decide)] at hw
      obtain ⟨j, hj, rfl⟩ := nI_of g1
      have hj2 : j < n := Nat.lt_of_not_le (fun q => g2 ((nI_leI (by omega) hj).mpr q))
      exact va_zald (D := D) (cl := zcl) (tys := ztys cA) hx hb hK (zP1 hw) 0 4 rfl rfl (vp_in_nI hj2 (by omega)) (hT.dec hq) (k.2.2 H locs cells slots ls h1 h2 h3 h4 h5)
theorem so_mlald {ρ : Type} {F : ρ → zM × Option Value} {K : Int64 → Option ρ} (C0 : zC p s m args meth c cc nL own zwl T ret) (hK : va_K D zcl (ztys cA) s) {a n tgt : Nat} {v0 i : Int32} (ha : a < 33) (hty : mty a = 1) (hn : mlen a = n) (hn2 : n < 2147483648) (hq : T.lookup pc = some (.laload, 1, tgt, v0))
    (kk : ∀ v, v = S.2.1 a i.toNatClampNeg → mSO p l e R s m args below meth c nL A D cA B S (pc + 1) lv (.long v :: rest) F (K v)) : mSO p l e R s m args below meth c nL A D cA B S pc lv (.int i :: .ref (B (1 + a)) :: rest) F (m_rdl n (S.2.1 a) i K) := by
  intro r hr
  unfold m_rdl at hr
  split at hr
  · cases hr
  · rename_i g1
    split at hr
    · cases hr
    · rename_i g2
      have k := kk _ rfl r hr
      obtain ⟨hx, hb, hml, hown, hts, hT, hr, hlocks⟩ := C0
      refine ⟨k.1, k.2.1, fun H locs cells slots ls h1 h2 h3 h4 h5 => ?_⟩
      have hw := h1.1 (1 + a) (by omega)
      rw [mct_l hty hn] at hw
      obtain ⟨j, hj, rfl⟩ := nI_of g1
      have hj2 : j < n := Nat.lt_of_not_le (fun q => g2 ((nI_leI (by omega) hj).mpr q))
      exact va_lald (D := D) (cl := zcl) (tys := ztys cA) hx hb hK (zP1 hw) 0 1 rfl rfl (vp_in_nI hj2 (by omega)) (hT.dec hq) (k.2.2 H locs cells slots ls h1 h2 h3 h4 h5)
theorem so_miast {ρ : Type} {F : ρ → zM × Option Value} {K : zM → Option ρ} (C0 : zC p s m args meth c cc nL own zwl T ret) (hK : va_K D zcl (ztys cA) s) {a n tgt : Nat} {v0 i x : Int32} (ha : a < 33) (hty : mty a = 0) (hn : mlen a = n) (hn2 : n < 2147483648) (hq : T.lookup pc = some (.iastore, 1, tgt, v0))
    (kk : ∀ M, M = m_set S a i.toNatClampNeg x → mSO p l e R s m args below meth c nL A D cA B M (pc + 1) lv rest F (K M)) : mSO p l e R s m args below meth c nL A D cA B S pc lv (.int x :: .int i :: .ref (B (1 + a)) :: rest) F (m_wr n i (m_set S a i.toNatClampNeg x) K) := by
  intro r hr
  unfold m_wr at hr
  split at hr
  · cases hr
  · rename_i g1
    split at hr
    · cases hr
    · rename_i g2
      have k := kk _ rfl r hr
      obtain ⟨hx, hb, hml, hown, hts, hT, hr, hlocks⟩ := C0
      refine ⟨k.1, k.2.1, fun H locs cells slots ls h1 h2 h3 h4 h5 => ?_⟩
      obtain ⟨hP, hjj, hAA⟩ := id h1
      have he : (zws 34 B (mct cA B S))[1 + a]? = some (B (1 + a), .inl (cA 0, n, .inl (S.1 a))) := by rw [zws_at (by omega), mct_a hty hn (by decide)]
      obtain ⟨j, hj, rfl⟩ := nI_of g1
      have hj2 : j < n := Nat.lt_of_not_le (fun q => g2 ((nI_leI (by omega) hj).mpr q))
      refine va_iast (D := D) (cl := zcl) (tys := ztys cA) (ws := zws 34 B (mct cA B S)) hx hb hK (zws_P hP) (zws_D hjj hAA) h2 (1 + a) 0 he rfl (vp_in_nI hj2 (by omega)) (hT.dec hq) (fun H1 locs1 hP1 hD1 hS1 => ?_)
      rw [zws_set, zws_congr (fun _ _ => rfl) (mct_up hty hn (by decide) (m_set S a (nI j).toNatClampNeg x) rfl)] at hP1 hD1
      exact k.2.2 H1 locs1 cells slots ls (mRep_mk hP1 hD1) hS1 h3 h4 h5
theorem so_mbast {ρ : Type} {F : ρ → zM × Option Value} {K : zM → Option ρ} (C0 : zC p s m args meth c cc nL own zwl T ret) (hK : va_K D zcl (ztys cA) s) {a n tgt : Nat} {v0 i x : Int32} (ha : a < 33) (hty : mty a = 2) (hn : mlen a = n) (hn2 : n < 2147483648) (hq : T.lookup pc = some (.bastore, 1, tgt, v0))
    (kk : ∀ M, M = m_set S a i.toNatClampNeg (vp_nar .byte x) → mSO p l e R s m args below meth c nL A D cA B M (pc + 1) lv rest F (K M)) : mSO p l e R s m args below meth c nL A D cA B S pc lv (.int x :: .int i :: .ref (B (1 + a)) :: rest) F (m_wr n i (m_set S a i.toNatClampNeg (vp_nar .byte x)) K) := by
  intro r hr
  unfold m_wr at hr
  split at hr
  · cases hr
  · rename_i g1
    split at hr
    · cases hr
    · rename_i g2
      have k := kk _ rfl r hr
      obtain ⟨hx, hb, hml, hown, hts, hT, hr, hlocks⟩ := C0
      refine ⟨k.1, k.2.1, fun H locs cells slots ls h1 h2 h3 h4 h5 => ?_⟩
      obtain ⟨hP, hjj, hAA⟩ := id h1
      have he : (zws 34 B (mct cA B S))[1 + a]? = some (B (1 + a), .inl (cA 2, n, .inl (S.1 a))) := by rw [zws_at (by omega), mct_a hty hn (by decide)]
      obtain ⟨j, hj, rfl⟩ := nI_of g1
      have hj2 : j < n := Nat.lt_of_not_le (fun q => g2 ((nI_leI (by omega) hj).mpr q))
      refine va_bast (D := D) (cl := zcl) (tys := ztys cA) (ws := zws 34 B (mct cA B S)) hx hb hK (zws_P hP) (zws_D hjj hAA) h2 (1 + a) 2 he rfl (vp_in_nI hj2 (by omega)) (hT.dec hq) (fun H1 locs1 hP1 hD1 hS1 => ?_)
      rw [zws_set, zws_congr (fun _ _ => rfl) (mct_up hty hn (by decide) (m_set S a (nI j).toNatClampNeg (vp_nar .byte x)) rfl)] at hP1 hD1
      exact k.2.2 H1 locs1 cells slots ls (mRep_mk hP1 hD1) hS1 h3 h4 h5
theorem so_msast {ρ : Type} {F : ρ → zM × Option Value} {K : zM → Option ρ} (C0 : zC p s m args meth c cc nL own zwl T ret) (hK : va_K D zcl (ztys cA) s) {a n tgt : Nat} {v0 i x : Int32} (ha : a < 33) (hty : mty a = 3) (hn : mlen a = n) (hn2 : n < 2147483648) (hq : T.lookup pc = some (.sastore, 1, tgt, v0))
    (kk : ∀ M, M = m_set S a i.toNatClampNeg (vp_nar .short x) → mSO p l e R s m args below meth c nL A D cA B M (pc + 1) lv rest F (K M)) : mSO p l e R s m args below meth c nL A D cA B S pc lv (.int x :: .int i :: .ref (B (1 + a)) :: rest) F (m_wr n i (m_set S a i.toNatClampNeg (vp_nar .short x)) K) := by
  intro r hr
  unfold m_wr at hr
  split at hr
  · cases hr
  · rename_i g1
    split at hr
    · cases hr
    · rename_i g2
      have k := kk _ rfl r hr
      obtain ⟨hx, hb, hml, hown, hts, hT, hr, hlocks⟩ := C0
      refine ⟨k.1, k.2.1, fun H locs cells slots ls h1 h2 h3 h4 h5 => ?_⟩
      obtain ⟨hP, hjj, hAA⟩ := id h1
      have he : (zws 34 B (mct cA B S))[1 + a]? = some (B (1 + a), .inl (cA 3, n, .inl (S.1 a))) := by rw [zws_at (by omega), mct_a hty hn (by decide)]
      obtain ⟨j, hj, rfl⟩ := nI_of g1
      have hj2 : j < n := Nat.lt_of_not_le (fun q => g2 ((nI_leI (by omega) hj).mpr q))
      refine va_sast (D := D) (cl := zcl) (tys := ztys cA) (ws := zws 34 B (mct cA B S)) hx hb hK (zws_P hP) (zws_D hjj hAA) h2 (1 + a) 3 he rfl (vp_in_nI hj2 (by omega)) (hT.dec hq) (fun H1 locs1 hP1 hD1 hS1 => ?_)
      rw [zws_set, zws_congr (fun _ _ => rfl) (mct_up hty hn (by decide) (m_set S a (nI j).toNatClampNeg (vp_nar .short x)) rfl)] at hP1 hD1
      exact k.2.2 H1 locs1 cells slots ls (mRep_mk hP1 hD1) hS1 h3 h4 h5
theorem so_mzast {ρ : Type} {F : ρ → zM × Option Value} {K : zM → Option ρ} (C0 : zC p s m args meth c cc nL own zwl T ret) (hK : va_K D zcl (ztys cA) s) {a n tgt : Nat} {v0 i x : Int32} (ha : a < 33) (hty : mty a = 4) (hn : mlen a = n) (hn2 : n < 2147483648) (hq : T.lookup pc = some (.bastore, 1, tgt, v0))
    (kk : ∀ M, M = m_set S a i.toNatClampNeg (vp_nar .boolean x) → mSO p l e R s m args below meth c nL A D cA B M (pc + 1) lv rest F (K M)) : mSO p l e R s m args below meth c nL A D cA B S pc lv (.int x :: .int i :: .ref (B (1 + a)) :: rest) F (m_wr n i (m_set S a i.toNatClampNeg (vp_nar .boolean x)) K) := by
  intro r hr
  unfold m_wr at hr
  split at hr
  · cases hr
  · rename_i g1
    split at hr
    · cases hr
    · rename_i g2
      have k := kk _ rfl r hr
      obtain ⟨hx, hb, hml, hown, hts, hT, hr, hlocks⟩ := C0
      refine ⟨k.1, k.2.1, fun H locs cells slots ls h1 h2 h3 h4 h5 => ?_⟩
      obtain ⟨hP, hjj, hAA⟩ := id h1
      have he : (zws 34 B (mct cA B S))[1 + a]? = some (B (1 + a), .inl (cA 4, n, .inl (S.1 a))) := by rw [zws_at (by omega), mct_a hty hn (by decide)]
      obtain ⟨j, hj, rfl⟩ := nI_of g1
      have hj2 : j < n := Nat.lt_of_not_le (fun q => g2 ((nI_leI (by omega) hj).mpr q))
      refine va_zast (D := D) (cl := zcl) (tys := ztys cA) (ws := zws 34 B (mct cA B S)) hx hb hK (zws_P hP) (zws_D hjj hAA) h2 (1 + a) 4 he rfl (vp_in_nI hj2 (by omega)) (hT.dec hq) (fun H1 locs1 hP1 hD1 hS1 => ?_)
      rw [zws_set, zws_congr (fun _ _ => rfl) (mct_up hty hn (by decide) (m_set S a (nI j).toNatClampNeg (vp_nar .boolean x)) rfl)] at hP1 hD1
      exact k.2.2 H1 locs1 cells slots ls (mRep_mk hP1 hD1) hS1 h3 h4 h5
theorem so_mlast {ρ : Type} {F : ρ → zM × Option Value} {K : zM → Option ρ} (C0 : zC p s m args meth c cc nL own zwl T ret) (hK : va_K D zcl (ztys cA) s) {a n tgt : Nat} {v0 i : Int32} {x : Int64} (ha : a < 33) (hty : mty a = 1) (hn : mlen a = n) (hn2 : n < 2147483648) (hq : T.lookup pc = some (.lastore, 1, tgt, v0))
    (kk : ∀ M, M = m_setl S a i.toNatClampNeg x → mSO p l e R s m args below meth c nL A D cA B M (pc + 1) lv rest F (K M)) : mSO p l e R s m args below meth c nL A D cA B S pc lv (.long x :: .int i :: .ref (B (1 + a)) :: rest) F (m_wr n i (m_setl S a i.toNatClampNeg x) K) := by
  intro r hr
  unfold m_wr at hr
  split at hr
  · cases hr
  · rename_i g1
    split at hr
    · cases hr
    · rename_i g2
      have k := kk _ rfl r hr
      obtain ⟨hx, hb, hml, hown, hts, hT, hr, hlocks⟩ := C0
      refine ⟨k.1, k.2.1, fun H locs cells slots ls h1 h2 h3 h4 h5 => ?_⟩
      obtain ⟨hP, hjj, hAA⟩ := id h1
      have he : (zws 34 B (mct cA B S))[1 + a]? = some (B (1 + a), .inl (cA 1, n, .inr (.inl (S.2.1 a)))) := by rw [zws_at (by omega), mct_l hty hn]
      obtain ⟨j, hj, rfl⟩ := nI_of g1
      have hj2 : j < n := Nat.lt_of_not_le (fun q => g2 ((nI_leI (by omega) hj).mpr q))
      refine va_last (D := D) (cl := zcl) (tys := ztys cA) (ws := zws 34 B (mct cA B S)) hx hb hK (zws_P hP) (zws_D hjj hAA) h2 (1 + a) 1 he rfl (vp_in_nI hj2 (by omega)) (hT.dec hq) (fun H1 locs1 hP1 hD1 hS1 => ?_)
      rw [zws_set, zws_congr (fun _ _ => rfl) (mct_upl hty hn (m_setl S a (nI j).toNatClampNeg x) rfl)] at hP1 hD1
      exact k.2.2 H1 locs1 cells slots ls (mRep_mk hP1 hD1) hS1 h3 h4 h5
end ZMR
