-- PURE LAYER: the class's Grower: possible rules, asks, edges
section POU
variable {S : zS} {T : Tr} {nr : Nat} {sa : Nat → Nat} {nf : Nat} {fam : Nat → Nat} {bit : Nat → Int64} {np : Nat} {P : Nat → Pt} {nl : Nat} {fl : Nat → Nat × Nat} {ru : Nat → Nat} {ne : Nat} {ep : Nat → Nat} {el : Nat → Int32} {lst al : Nat → List Nat} {nx nk : Nat → Option Nat} {ue : Nat → Nat}
/-- the class's rows of possible rules and of parts looked at -/
def OU (S : zS) (nr : Nat) (ou : Nat → Option Nat) : Prop := S.1 37 = rowOf nr (fun r => oI (ou r))
def LC (S : zS) (T : Tr) (lk : List Nat) : Prop := S.1 38 = rowOf (tQ T) (fun p => bI (decide (p ∈ lk)))
def obd (nr B : Nat) (ou : Nat → Option Nat) : Prop := ∀ r v, r < nr → ou r = some v → v < B
theorem c_firstP {ou : Nat → Option Nat} (h : OU S nr ou) (hb : obd nr 100000 ou) (hn : nr ≤ 700) : ∀ n i, i ≤ nr → nr - i < n → ∃ o, f_Grw_firstPossible_L2 n S (nI i) = some (oI o) ∧ fP1 (fun r => decide (ou r = none)) nr i o := by
  intro n
  induction n with
  | zero => intro i _ h; omega
  | succ n ih =>
    intro i hi hlt
    unfold f_Grw_firstPossible_L2
    have hs : r_size S 37 = nI nr := by unfold r_size; rw [h, rowOf_len]
    rw [hs]
    by_cases c : i = nr
    · rw [if_pos (by (simp (disch := omega) only [nI_1, nI_add, Int32.lt_iff_toInt_lt, Int32.le_iff_toInt_le, ← Int32.toInt_inj, nI_toInt, tI_0, tI_1, tI_2, tI_3, tI_4, tI_m1, tI_m2, tI_m3, tI_m4, tI_64, tI_128, tI_255, tI_256, tI_1000, tI_1024, tI_4096, tI_10000, tI_16384, tI_16386, tI_M]; omega))]
      exact ⟨none, rfl, fun j h1 h2 => by omega⟩
    · rw [if_neg (by (simp (disch := omega) only [nI_1, nI_add, Int32.lt_iff_toInt_lt, Int32.le_iff_toInt_le, ← Int32.toInt_inj, nI_toInt, tI_0, tI_1, tI_2, tI_3, tI_4, tI_m1, tI_m2, tI_m3, tI_m4, tI_64, tI_128, tI_255, tI_256, tI_1000, tI_1024, tI_4096, tI_10000, tI_16384, tI_16386, tI_M]; omega)), r_at_rd, h, rowOf_rd (by omega) (by omega)]
      cases q : ou i with
      | none =>
        rw [if_neg (by simp [oI])]
        exact ⟨some i, rfl, Nat.le_refl _, by omega, by simp [q], fun j h1 h2 => by omega⟩
      | some v =>
        have := hb i v (by omega) q
        rw [oI_s, if_pos (nI_m1 (by omega)), nI_1]
        obtain ⟨o, e, f⟩ := ih (i + 1) (by omega) (by omega)
        refine ⟨o, e, ?_⟩
        cases o with
        | none =>
          intro j h1 h2
          by_cases w : j = i
          · subst w; simp [q]
          · exact f j (by omega) h2
        | some r =>
          refine ⟨by have := f.1; omega, f.2.1, f.2.2.1, fun j h1 h2 => ?_⟩
          by_cases w : j = i
          · subst w; simp [q]
          · exact f.2.2.2 j (by omega) h2
theorem c_stopOf (hR : TRw S T nr sa ne ep el lst al nx nk ue) (hn : nr ≤ 700) {r : Nat} (hr : r < nr) : f_Par_stopOf S (nI r) = nI (sx T nr sa r) := by
  obtain ⟨r13, r14, r15, r16, r17, r18, r19, r20, r21, r22, r23, r24, r25⟩ := hR
  unfold f_Par_stopOf sx
  have s25 : r_size S 25 = nI nr := by unfold r_size; rw [r25, rowOf_len]
  have s22 : r_size S 22 = nI (tA T) := by unfold r_size; rw [r22, rowOf_len]
  rw [s25, s22, nI_1]
  by_cases c : r + 1 < nr
  · rw [if_neg (nI_ge c (by omega)), if_pos c, r_at_rd, r25, rowOf_rd c (by omega)]
  · rw [if_pos (nI_le (by omega) (by omega)), if_neg c]
theorem c_firstNL_L (hR : TRw S T nr sa ne ep el lst al nx nk ue) (hA : ∀ k, k < tA T → (tK T k).1 < nr ∧ (tK T k).2.1 < tQ T) (hb : tA T ≤ 16384) (hq : tQ T ≤ 16385) {lk : List Nat} (hL : LC S T lk) {e : Nat} (he : e ≤ tA T) : ∀ n k, k ≤ e → e - k < n → ∃ o, f_Grw_firstNotLooked_L12 n S (nI e) (nI k) = some (oI o) ∧ fA T lk k e o := by
  obtain ⟨r13, r14, r15, r16, r17, r18, r19, r20, r21, r22, r23, r24, r25⟩ := hR
  intro n
  induction n with
  | zero => intro k _ h; omega
  | succ n ih =>
    intro k hk hlt
    unfold f_Grw_firstNotLooked_L12
    by_cases c : k = e
    · rw [if_pos (by (simp (disch := omega) only [nI_1, nI_add, Int32.lt_iff_toInt_lt, Int32.le_iff_toInt_le, ← Int32.toInt_inj, nI_toInt, tI_0, tI_1, tI_2, tI_3, tI_4, tI_m1, tI_m2, tI_m3, tI_m4, tI_64, tI_128, tI_255, tI_256, tI_1000, tI_1024, tI_4096, tI_10000, tI_16384, tI_16386, tI_M]; omega))]
      exact ⟨none, rfl, fun j a b => by omega⟩
    · have hkA := hA k (by omega)
      have ea : f_Par_askPart S (nI k) = nI (tK T k).2.1 := by unfold f_Par_askPart; rw [r_at_rd, r23, rowOf_rd (by omega) (by omega)]
      rw [if_neg (by (simp (disch := omega) only [nI_1, nI_add, Int32.lt_iff_toInt_lt, Int32.le_iff_toInt_le, ← Int32.toInt_inj, nI_toInt, tI_0, tI_1, tI_2, tI_3, tI_4, tI_m1, tI_m2, tI_m3, tI_m4, tI_64, tI_128, tI_255, tI_256, tI_1000, tI_1024, tI_4096, tI_10000, tI_16384, tI_16386, tI_M]; omega)), ea, r_at_rd, hL, rowOf_rd hkA.2 (by omega)]
      by_cases d : (tK T k).2.1 ∈ lk
      · rw [if_pos (by rw [decide_eq_true d]; decide), nI_1]
        obtain ⟨o, e', f⟩ := ih (k + 1) (by omega) (by omega)
        refine ⟨o, e', ?_⟩
        cases o with
        | none =>
          intro j a b
          by_cases w : j = k
          · subst w; exact d
          · exact f j (by omega) b
        | some x =>
          refine ⟨by have := f.1; omega, f.2.1, f.2.2.1, fun j a b => ?_⟩
          by_cases w : j = k
          · subst w; exact d
          · exact f.2.2.2 j (by omega) b
      · rw [if_neg (by rw [decide_eq_false d]; decide)]
        exact ⟨some k, rfl, Nat.le_refl _, by omega, d, fun j a b => by omega⟩
/-- a rule asks by an edge -/
def byE (T : Tr) (al : Nat → List Nat) (e r : Nat) : Prop := ∃ k, k ∈ al e ∧ (tK T k).1 = r
theorem byE_iff (hF : SF nf fam bit np P nl fl T nr ru sa) (hE : EI T P ne ep el lst al nx nk ue) {e r : Nat} (he : e < ne) : byE T al e r ↔ ∃ q, ak T r (ep e) = some q ∧ pM (P q) = el e := by
  have hu := hF.2.1.2.2.2.1
  obtain ⟨z1, z2, z3⟩ := hE.2.1 e he
  constructor
  · intro ⟨k, h1, h2⟩
    obtain ⟨a, b, c⟩ := (z3 k).mp h1
    have := ak_at hu a
    rw [h2, b] at this
    exact ⟨_, this, c⟩
  · intro ⟨q, h1, h2⟩
    obtain ⟨j, a, b⟩ := ak_ok h1
    exact ⟨j, (z3 j).mpr ⟨a, by rw [b], by rw [b]; exact h2⟩, by rw [b]⟩
theorem al_len (hE : EI T P ne ep el lst al nx nk ue) {e : Nat} (he : e < ne) : (al e).length ≤ tA T := by
  obtain ⟨z1, z2, z3⟩ := hE.2.1 e he
  exact nodup_len _ _ (lkd_nodup _ z2) (fun k hk => ((z3 k).mp hk).1)
theorem c_isAsked_L (hR : TRw S T nr sa ne ep el lst al nx nk ue) (hA : ∀ k, k < tA T → (tK T k).1 < nr ∧ (tK T k).2.1 < tQ T) (hb : tA T ≤ 16384) (hn : nr ≤ 700) {ou : Nat → Option Nat} (hO : OU S nr ou) (hob : obd nr 100000 ou) : ∀ (l : List Nat) (n c : Nat), lkd nk l → (∀ k, k ∈ l → k < tA T) → l.length < n → l.length ≤ c → c < 65536 → (f_Grw_isAsked_L17 n S (oI l.head?) (nI c) = some 1 ∧ ∃ k, k ∈ l ∧ ou (tK T k).1 = none) ∨ (f_Grw_isAsked_L17 n S (oI l.head?) (nI c) = some 0 ∧ ∀ k, k ∈ l → ou (tK T k).1 ≠ none) := by
  obtain ⟨r13, r14, r15, r16, r17, r18, r19, r20, r21, r22, r23, r24, r25⟩ := hR
  intro l
  induction l with
  | nil =>
    intro n c _ _ hn' _ _
    cases n with
    | zero => simp at hn'
    | succ n =>
      right
      refine ⟨?_, fun k hk => by cases hk⟩
      unfold f_Grw_isAsked_L17
      by_cases d : nI c ≤ 0
      · rw [if_pos d]
      · rw [if_neg d, if_pos (by rfl)]
  | cons k l ih =>
    intro n c hl hm hn' hc hc2
    cases n with
    | zero => simp at hn'
    | succ n =>
      have hk := hm k List.mem_cons_self
      have hkA := hA k hk
      have hc1 : 1 ≤ c := by simp at hc; omega
      unfold f_Grw_isAsked_L17
      have e1 : oI (k :: l).head? = nI k := rfl
      have er : f_Par_askRule S (nI k) = nI (tK T k).1 := by unfold f_Par_askRule; rw [r_at_rd, r22, rowOf_rd hk (by omega)]
      have en : f_Par_nextAsk S (nI k) = oI l.head? := by unfold f_Par_nextAsk; rw [r_at_rd, r24, rowOf_rd hk (by omega), hl.1]
      rw [if_neg (by (simp (disch := omega) only [nI_1, nI_add, Int32.lt_iff_toInt_lt, Int32.le_iff_toInt_le, ← Int32.toInt_inj, nI_toInt, tI_0, tI_1, tI_2, tI_3, tI_4, tI_m1, tI_m2, tI_m3, tI_m4, tI_64, tI_128, tI_255, tI_256, tI_1000, tI_1024, tI_4096, tI_10000, tI_16384, tI_16386, tI_M]; omega)), e1, if_neg (nI_m1 (by omega)), er, r_at_rd, hO, rowOf_rd hkA.1 (by omega)]
      cases q : ou (tK T k).1 with
      | none =>
        rw [if_neg (by simp [oI])]
        exact Or.inl ⟨rfl, k, List.mem_cons_self, q⟩
      | some v =>
        have := hob _ v hkA.1 q
        rw [oI_s, if_pos (nI_m1 (by omega)), zbind_e, en, sb_m1 hc1]
        rcases ih n (c - 1) hl.2 (fun x hx => hm x (List.mem_cons_of_mem _ hx)) (by simp at hn'; omega) (by simp at hc; omega) (by omega) with ⟨a, x, b1, b2⟩ | ⟨a, b⟩
        · exact Or.inl ⟨a, x, List.mem_cons_of_mem _ b1, b2⟩
        · refine Or.inr ⟨a, fun x hx => ?_⟩
          rcases List.mem_cons.mp hx with w | w
          · rw [w, q]; simp
          · exact b x w
theorem c_isAsked (hF : SF nf fam bit np P nl fl T nr ru sa) (hR : TRw S T nr sa ne ep el lst al nx nk ue) (hE : EI T P ne ep el lst al nx nk ue) (hne : ne < 65536) {ou : Nat → Option Nat} (hO : OU S nr ou) (hob : obd nr 100000 ou) {e : Nat} (he : e < ne) : (f_Grw_isAsked S (nI e) = some 1 ∧ nuR T P (fun r => decide (ou r = none)) (ep e) nr (el e)) ∨ (f_Grw_isAsked S (nI e) = some 0 ∧ ¬ nuR T P (fun r => decide (ou r = none)) (ep e) nr (el e)) := by
  have hb := hF.2.2.2.2.1
  have hn := hF.2.2.2.2.2.2
  obtain ⟨z1, z2, z3⟩ := hE.2.1 e he
  have r21 : S.1 21 = rowOf ne (fun e => oI (al e).head?) := hR.2.2.2.2.2.2.2.2.1
  have r22 : S.1 22 = rowOf (tA T) (fun k => nI (tK T k).1) := hR.2.2.2.2.2.2.2.2.2.1
  have e1 : f_Par_firstAsk S (nI e) = oI (al e).head? := by unfold f_Par_firstAsk; rw [r_at_rd, r21, rowOf_rd he (by omega)]
  have e2 : f_Par_asks S = nI (tA T) := by unfold f_Par_asks r_size; rw [r22, rowOf_len]
  unfold f_Grw_isAsked
  rw [zbind_e, zbind_e, e1, e2]
  have hlen := al_len hE he
  rcases c_isAsked_L hR (SF_ask hF) hb hn hO hob (al e) zbig (tA T) z2 (fun k hk => ((z3 k).mp hk).1) (by unfold zbig; omega) hlen (by omega) with ⟨a, k, b1, b2⟩ | ⟨a, b⟩
  · refine Or.inl ⟨a, ?_⟩
    obtain ⟨q, c1, c2⟩ := (byE_iff hF hE he).mp ⟨k, b1, rfl⟩
    exact ⟨(tK T k).1, q, (SF_ak hF c1).1, by simp [b2], c1, c2⟩
  · refine Or.inr ⟨a, fun ⟨r, q, c1, c2, c3, c4⟩ => ?_⟩
    obtain ⟨k, d1, d2⟩ := (byE_iff hF hE he).mpr ⟨q, c3, c4⟩
    have := b k d1
    rw [d2] at this
    exact this (by simpa using c2)
theorem c_nextEdge_L (hF : SF nf fam bit np P nl fl T nr ru sa) (hR : TRw S T nr sa ne ep el lst al nx nk ue) (hE : EI T P ne ep el lst al nx nk ue) (hne : ne < 65536) {ou : Nat → Option Nat} (hO : OU S nr ou) (hob : obd nr 100000 ou) {p : Nat} : ∀ (l : List Nat) (n c : Nat), lkd nx l → (∀ e, e ∈ l → e < ne ∧ ep e = p) → l.length < n → l.length ≤ c → c < 65536 → (f_Grw_nextEdge_L57 n S (oI l.head?) (nI c) = some (-1) ∧ ∀ e, e ∈ l → ¬ nuR T P (fun r => decide (ou r = none)) p nr (el e)) ∨ ∃ l1 e l2, l = l1 ++ e :: l2 ∧ f_Grw_nextEdge_L57 n S (oI l.head?) (nI c) = some (nI e) ∧ nuR T P (fun r => decide (ou r = none)) p nr (el e) ∧ ∀ x, x ∈ l1 → ¬ nuR T P (fun r => decide (ou r = none)) p nr (el x) := by
  intro l
  induction l with
  | nil =>
    intro n c _ _ hn' _ _
    cases n with
    | zero => simp at hn'
    | succ n =>
      left
      refine ⟨?_, fun k hk => by cases hk⟩
      unfold f_Grw_nextEdge_L57
      by_cases d : nI c ≤ 0
      · rw [if_pos d]; rfl
      · rw [if_neg d, if_pos (by rfl)]; rfl
  | cons e l ih =>
    intro n c hl hm hn' hc hc2
    cases n with
    | zero => simp at hn'
    | succ n =>
      obtain ⟨he, hep⟩ := hm e List.mem_cons_self
      have hc1 : 1 ≤ c := by simp at hc; omega
      unfold f_Grw_nextEdge_L57
      have e1 : oI (e :: l).head? = nI e := rfl
      have r19 : S.1 19 = rowOf ne (fun e => oI (nx e)) := hR.2.2.2.2.2.2.1
      have en : f_Par_nextEdge S (nI e) = oI l.head? := by unfold f_Par_nextEdge; rw [r_at_rd, r19, rowOf_rd he (by omega), hl.1]
      rw [if_neg (by (simp (disch := omega) only [nI_1, nI_add, Int32.lt_iff_toInt_lt, Int32.le_iff_toInt_le, ← Int32.toInt_inj, nI_toInt, tI_0, tI_1, tI_2, tI_3, tI_4, tI_m1, tI_m2, tI_m3, tI_m4, tI_64, tI_128, tI_255, tI_256, tI_1000, tI_1024, tI_4096, tI_10000, tI_16384, tI_16386, tI_M]; omega)), e1, if_neg (nI_m1 (by omega))]
      have ia := c_isAsked hF hR hE hne hO hob he
      rw [hep] at ia
      rcases ia with ⟨a, b⟩ | ⟨a, b⟩
      · rw [a, zob_s, if_pos (by decide)]
        exact Or.inr ⟨[], e, l, rfl, rfl, b, fun x hx => by cases hx⟩
      · rw [a, zob_s, if_neg (by decide), zbind_e, en, sb_m1 hc1]
        rcases ih n (c - 1) hl.2 (fun x hx => hm x (List.mem_cons_of_mem _ hx)) (by simp at hn'; omega) (by simp at hc; omega) (by omega) with ⟨a', b'⟩ | ⟨l1, x, l2, b1, b2, b3, b4⟩
        · refine Or.inl ⟨a', fun x hx => ?_⟩
          rcases List.mem_cons.mp hx with w | w
          · rw [w]; exact b
          · exact b' x w
        · refine Or.inr ⟨e :: l1, x, l2, by rw [b1]; rfl, b2, b3, fun y hy => ?_⟩
          rcases List.mem_cons.mp hy with w | w
          · rw [w]; exact b
          · exact b4 y w
/-- what changing a list of asks does -/
def chg (A : Nat → Prop) (fr to : Option Nat) (ou ou' : Nat → Option Nat) : Prop := ∀ r, (A r ∧ ou r = fr → ou' r = to) ∧ (¬ (A r ∧ ou r = fr) → ou' r = ou r)
theorem chg_0 {A : Nat → Prop} {fr to : Option Nat} {ou : Nat → Option Nat} (h : ∀ r, ¬ A r) : chg A fr to ou ou := fun r => ⟨fun q => absurd q.1 (h r), fun _ => rfl⟩
theorem chg_tr {A B : Nat → Prop} {fr to : Option Nat} {ou ou1 ou2 : Nat → Option Nat} (hne : fr ≠ to) (h : chg A fr to ou ou1) (k : chg B fr to ou1 ou2) : chg (fun r => A r ∨ B r) fr to ou ou2 := by
  intro r
  obtain ⟨h1, h2⟩ := h r
  obtain ⟨k1, k2⟩ := k r
  constructor
  · intro ⟨q1, q2⟩
    by_cases a : A r
    · have e := h1 ⟨a, q2⟩
      rw [k2 (fun w => hne (by rw [← w.2, e])), e]
    · have e := h2 (fun w => a w.1)
      rcases q1 with q1 | q1
      · exact absurd q1 a
      · exact k1 ⟨q1, by rw [e]; exact q2⟩
  · intro q
    have e := h2 (fun w => q ⟨Or.inl w.1, w.2⟩)
    rw [k2 (fun w => q ⟨Or.inr w.1, by rw [← e]; exact w.2⟩), e]
theorem chg_congr {A B : Nat → Prop} {fr to : Option Nat} {ou ou' : Nat → Option Nat} (h : chg A fr to ou ou') (e : ∀ r, A r ↔ B r) : chg B fr to ou ou' := fun r => by
  rw [← e r]; exact h r
theorem chg_bd {A : Nat → Prop} {fr to : Option Nat} {ou ou' : Nat → Option Nat} {B : Nat} (h : chg A fr to ou ou') (hb : obd nr B ou) (ht : ∀ v, to = some v → v < B) : obd nr B ou' := fun r v hr e => by
  obtain ⟨h1, h2⟩ := h r
  by_cases c : A r ∧ ou r = fr
  · rw [h1 c] at e; exact ht v e
  · rw [h2 c] at e; exact hb r v hr e
theorem c_changeOuts_L (hA : ∀ k, k < tA T → (tK T k).1 < nr ∧ (tK T k).2.1 < tQ T) (hb : tA T ≤ 16384) (hn : nr ≤ 700) {fr to : Option Nat} (hne : fr ≠ to) (hfr : ∀ v, fr = some v → v < 100000) (hto : ∀ v, to = some v → v < 100000) : ∀ (l : List Nat) (n c : Nat) (S : zS) (ou : Nat → Option Nat), okS S → TRw S T nr sa ne ep el lst al nx nk ue → OU S nr ou → obd nr 100000 ou → lkd nk l → (∀ k, k ∈ l → k < tA T) → l.length < n → l.length ≤ c → c < 65536 → ∃ S' ou', f_Grw_changeOuts_L19 n S (oI fr) (oI to) (oI l.head?) (nI c) = some S' ∧ zLike [37] S S' ∧ OU S' nr ou' ∧ chg (fun r => ∃ k, k ∈ l ∧ (tK T k).1 = r) fr to ou ou' := by
  intro l
  induction l with
  | nil =>
    intro n c S ou ho _ hO _ _ _ hn' _ _
    cases n with
    | zero => simp at hn'
    | succ n =>
      refine ⟨S, ou, ?_, zLike_rf ho, hO, chg_0 (fun r ⟨k, hk, _⟩ => by cases hk)⟩
      unfold f_Grw_changeOuts_L19
      by_cases d : nI c ≤ 0
      · rw [if_pos d]
      · rw [if_neg d, if_pos (by rfl)]
  | cons k l ih =>
    intro n c S ou ho hR hO hob hl hm hn' hc hc2
    cases n with
    | zero => simp at hn'
    | succ n =>
      have hk := hm k List.mem_cons_self
      have hkA := hA k hk
      have hc1 : 1 ≤ c := by simp at hc; omega
      have hR' := hR
      obtain ⟨r13, r14, r15, r16, r17, r18, r19, r20, r21, r22, r23, r24, r25⟩ := hR
      unfold f_Grw_changeOuts_L19
      have e1 : oI (k :: l).head? = nI k := rfl
      have er : f_Par_askRule S (nI k) = nI (tK T k).1 := by unfold f_Par_askRule; rw [r_at_rd, r22, rowOf_rd hk (by omega)]
      rw [if_neg (by (simp (disch := omega) only [nI_1, nI_add, Int32.lt_iff_toInt_lt, Int32.le_iff_toInt_le, ← Int32.toInt_inj, nI_toInt, tI_0, tI_1, tI_2, tI_3, tI_4, tI_m1, tI_m2, tI_m3, tI_m4, tI_64, tI_128, tI_255, tI_256, tI_1000, tI_1024, tI_4096, tI_10000, tI_16384, tI_16386, tI_M]; omega)), e1, if_neg (nI_m1 (by omega)), zbind_e, er, r_at_rd, hO, rowOf_rd hkA.1 (by omega)]
      have one : ∀ r, (∃ j, j ∈ k :: l ∧ (tK T j).1 = r) ↔ (tK T k).1 = r ∨ ∃ j, j ∈ l ∧ (tK T j).1 = r := fun r => by simp
      have hoe : oI (ou (tK T k).1) = oI fr ↔ ou (tK T k).1 = fr := oI_inj (fun v e => by have := hob _ v hkA.1 e; omega) (fun v e => by have := hfr v e; omega)
      by_cases q : ou (tK T k).1 = fr
      · rw [if_neg (by simpa using hoe.mpr q)]
        obtain ⟨S1, a1, a2, a3⟩ := zSet (S := S) (k := 37) (i := (tK T k).1) (oI to) ho (by rw [hO, rowOf_len]; exact hkA.1) (by rw [hO, rowOf_len]; omega)
        have hO1 : OU S1 nr (va_up ou (tK T k).1 to) := by
          unfold OU
          rw [a3, hO, rowOf_set]
          refine rowOf_congr (fun i hi => ?_)
          by_cases w : i = (tK T k).1
          · subst w; rw [va_s, va_s]
          · rw [va_n w, va_n w]
        have hR1 := TRw_like hR' a2 (by simp)
        have en : f_Par_nextAsk S1 (nI k) = oI l.head? := by unfold f_Par_nextAsk; rw [r_at_rd, a2.1 24 (by decide), r24, rowOf_rd hk (by omega), hl.1]
        rw [a1, zbind_e, zbind_e, en, sb_m1 hc1]
        have c1 : chg (fun r => (tK T k).1 = r) fr to ou (va_up ou (tK T k).1 to) := fun r => by
          constructor
          · intro w; rw [← w.1, va_s]
          · intro w; rw [va_n (fun z => w ⟨z.symm, by rw [z]; exact q⟩)]
        obtain ⟨S2, ou2, b1, b2, b3, b4⟩ := ih n (c - 1) S1 _ a2.2.2 hR1 hO1 (chg_bd c1 hob hto) hl.2 (fun x hx => hm x (List.mem_cons_of_mem _ hx)) (by simp at hn'; omega) (by simp at hc; omega) (by omega)
        exact ⟨S2, ou2, b1, zLike_tr a2 b2, b3, chg_congr (chg_tr hne c1 b4) (fun r => (one r).symm)⟩
      · rw [if_pos (fun w => q (hoe.mp w))]
        have en : f_Par_nextAsk S (nI k) = oI l.head? := by unfold f_Par_nextAsk; rw [r_at_rd, r24, rowOf_rd hk (by omega), hl.1]
        rw [zbind_e, en, sb_m1 hc1]
        obtain ⟨S2, ou2, b1, b2, b3, b4⟩ := ih n (c - 1) S ou ho hR' hO hob hl.2 (fun x hx => hm x (List.mem_cons_of_mem _ hx)) (by simp at hn'; omega) (by simp at hc; omega) (by omega)
        have c1 : chg (fun r => (tK T k).1 = r) fr to ou ou := fun r => ⟨fun w => absurd (by rw [w.1]; exact w.2) q, fun _ => rfl⟩
        exact ⟨S2, ou2, b1, b2, b3, chg_congr (chg_tr hne c1 b4) (fun r => (one r).symm)⟩
theorem c_changeOuts (hF : SF nf fam bit np P nl fl T nr ru sa) (ho : okS S) (hR : TRw S T nr sa ne ep el lst al nx nk ue) (hE : EI T P ne ep el lst al nx nk ue) (hnE : ne < 65536) {ou : Nat → Option Nat} (hO : OU S nr ou) (hob : obd nr 100000 ou) {fr to : Option Nat} (hne : fr ≠ to) (hfr : ∀ v, fr = some v → v < 100000) (hto : ∀ v, to = some v → v < 100000) {e : Nat} (he : e < ne) : ∃ S' ou', f_Grw_changeOuts S (nI e) (oI fr) (oI to) = some S' ∧ zLike [37] S S' ∧ OU S' nr ou' ∧ chg (byE T al e) fr to ou ou' := by
  have hb := hF.2.2.2.2.1
  have hn := hF.2.2.2.2.2.2
  obtain ⟨z1, z2, z3⟩ := hE.2.1 e he
  have r21 : S.1 21 = rowOf ne (fun e => oI (al e).head?) := hR.2.2.2.2.2.2.2.2.1
  have r22 : S.1 22 = rowOf (tA T) (fun k => nI (tK T k).1) := hR.2.2.2.2.2.2.2.2.2.1
  have e1 : f_Par_firstAsk S (nI e) = oI (al e).head? := by unfold f_Par_firstAsk; rw [r_at_rd, r21, rowOf_rd he (by omega)]
  have e2 : f_Par_asks S = nI (tA T) := by unfold f_Par_asks r_size; rw [r22, rowOf_len]
  unfold f_Grw_changeOuts
  rw [zbind_e, zbind_e, e1, e2]
  exact c_changeOuts_L (SF_ask hF) hb hn hne hfr hto (al e) zbig (tA T) S ou ho hR hO hob z2 (fun k hk => ((z3 k).mp hk).1) (by unfold zbig; have := al_len hE he; omega) (al_len hE he) (by omega)
end POU
