-- PURE LAYER: how a rule is laid over the parts; the class does so
def tFields (P : Nat → Pt) (fl : Nat → Nat × Nat) (q p : Nat) : Nat → Tr → List (Nat × Nat) → Tr × List (Nat × Nat)
  | 0, T, st => (T, st)
  | k + 1, T, st => tFields P fl q p k (tChild T p (nI (fN P fl q k))).1 (st ++ [(fP P fl q k, (tChild T p (nI (fN P fl q k))).2)])
def tAsked (P : Nat → Pt) (r q p : Nat) (T : Tr) : Tr := tAsk (tShape T p (pK (P q), pS (P q))) (r, p, q)
def tStep (P : Nat → Pt) (fl : Nat → Nat × Nat) (r q p : Nat) (T : Tr) (st : List (Nat × Nat)) : Tr × List (Nat × Nat) :=
  if pK (P q) = 4 then tFields P fl q p (pN (P q)) (tShape T p (pK (P q), pS (P q))) st
  else if pK (P q) = 0 then (T, st)
  else match pO (P q) with
    | none => (tAsked P r q p T, st)
    | some x => ((tChild (tAsked P r q p T) p (pM (P q))).1, st ++ [(x, (tChild (tAsked P r q p T) p (pM (P q))).2)])
def tLay (P : Nat → Pt) (fl : Nat → Nat × Nat) (r : Nat) : Nat → Tr → List (Nat × Nat) → Tr
  | 0, T, _ => T
  | n + 1, T, st => match st.getLast? with
    | none => T
    | some x => tLay P fl r n (tStep P fl r x.1 x.2 T st.dropLast).1 (tStep P fl r x.1 x.2 T st.dropLast).2
/-- what finding or making a child changes -/
theorem tChild_ok {T : Tr} (h : TW T) {p : Nat} (hp : p < tQ T) (l : Int32) : TW (tChild T p l).1 ∧ tQ T ≤ tQ (tChild T p l).1 ∧ tQ (tChild T p l).1 ≤ tQ T + 1 ∧ 1 ≤ (tChild T p l).2 ∧ (tChild T p l).2 < tQ (tChild T p l).1 ∧ tU (tChild T p l).1 (tChild T p l).2 = p ∧ tL (tChild T p l).1 (tChild T p l).2 = l ∧ tA (tChild T p l).1 = tA T ∧ tK (tChild T p l).1 = tK T ∧ (∀ i, i < tQ T → tU (tChild T p l).1 i = tU T i ∧ tL (tChild T p l).1 i = tL T i ∧ tH (tChild T p l).1 i = tH T i) ∧ (tQ (tChild T p l).1 = tQ T + 1 → (tChild T p l).2 = tQ T ∧ tH (tChild T p l).1 (tQ T) = (0, 0)) ∧ (tQ (tChild T p l).1 = tQ T + 1 ↔ tCh T p l = none) := by
  unfold tChild
  cases q : tCh T p l with
  | some c =>
    obtain ⟨a, b, d, e⟩ := tCh_ok q
    exact ⟨h, Nat.le_refl _, by show tQ T ≤ tQ T + 1; omega, a, b, d, e, rfl, rfl, fun i hi => ⟨rfl, rfl, rfl⟩, fun y => by
      have y : tQ T = tQ T + 1 := y
      omega, ⟨fun y => by
      have y : tQ T = tQ T + 1 := y
      omega, fun y => by cases y⟩⟩
  | none =>
    refine ⟨TW_add h hp q, by show tQ T ≤ tQ T + 1; omega, Nat.le_refl _, h.1, by show tQ T < tQ T + 1; omega, va_s, va_s, rfl, rfl, fun i hi => ⟨va_n (by omega), va_n (by omega), va_n (by omega)⟩, fun _ => ⟨rfl, va_s⟩, ⟨fun _ => rfl, fun _ => rfl⟩⟩
section PLA
variable {nf : Nat} {fam : Nat → Nat} {bit : Nat → Int64} {np : Nat} {P : Nat → Pt} {nl : Nat} {fl : Nat → Nat × Nat} {S : zS} {T : Tr} {nr : Nat} {sa : Nat → Nat}
theorem p_setSort (ho : okS S) (hP : PC S np P nl fl) (hnp : np ≤ 16384) {ne : Nat} {ep : Nat → Nat} {el : Nat → Int32} {lst al : Nat → List Nat} {nx nk : Nat → Option Nat} {ue : Nat → Nat} (hR : TRw S T nr sa ne ep el lst al nx nk ue) {p q : Nat} (hp : p < tQ T) (hq : q < np) (hQ : tQ T < 65536) : ∃ S', f_Par_setSort S (nI p) (nI q) = S' ∧ zLike [13, 14] S S' ∧ TRw S' (tShape T p (pK (P q), pS (P q))) nr sa ne ep el lst al nx nk ue := by
  obtain ⟨r13, r14, r15, r16, r17, r18, r19, r20, r21, r22, r23, r24, r25⟩ := hR
  obtain ⟨S1, e1, m1, s1⟩ := zSet (S := S) (k := 13) (i := p) (nI (pK (P q))) ho (by rw [r13, rowOf_len]; exact hp) (by rw [r13, rowOf_len]; omega)
  have hP1 := PC_like hP m1 (by simp)
  obtain ⟨S2, e2, m2, s2⟩ := zSet (S := S1) (k := 14) (i := p) (pS (P q)) m1.2.2 (by rw [m1.1 14 (by decide), r14, rowOf_len]; exact hp) (by rw [m1.1 14 (by decide), r14, rowOf_len]; omega)
  have k : ∀ j, j ∉ [13, 14] → S2.1 j = S.1 j := fun j hj => by
    have : j ≠ 13 ∧ j ≠ 14 := by simpa using hj
    rw [m2.1 j (by simp; omega), m1.1 j (by simp; omega)]
  refine ⟨S2, ?_, ⟨k, by rw [m2.2.1, m1.2.1], m2.2.2⟩, ?_⟩
  · unfold f_Par_setSort
    rw [cK hP hnp hq, zbind_e, e1, cS hP1 hnp hq, zbind_e, e2]
  · refine ⟨?_, ?_, by rw [k 15 (by decide)]; exact r15, by rw [k 16 (by decide)]; exact r16, by rw [k 17 (by decide)]; exact r17, by rw [k 18 (by decide)]; exact r18, by rw [k 19 (by decide)]; exact r19, by rw [k 20 (by decide)]; exact r20, by rw [k 21 (by decide)]; exact r21, by rw [k 22 (by decide)]; exact r22, by rw [k 23 (by decide)]; exact r23, by rw [k 24 (by decide)]; exact r24, by rw [k 25 (by decide)]; exact r25⟩
    · rw [m2.1 13 (by decide), s1, r13, rowOf_set]
      refine rowOf_congr (fun i hi => ?_)
      show _ = nI (va_up (tH T) p (pK (P q), pS (P q)) i).1
      by_cases c : i = p
      · subst c; rw [va_s, va_s]
      · rw [va_n c, va_n c]
    · rw [s2, m1.1 14 (by decide), r14, rowOf_set]
      refine rowOf_congr (fun i hi => ?_)
      show _ = (va_up (tH T) p (pK (P q), pS (P q)) i).2
      by_cases c : i = p
      · subst c; rw [va_s, va_s]
      · rw [va_n c, va_n c]
theorem p_putOpen (x y : Int32) (ho : okS S) (hl : (S.1 26).length + 2 < 65536) : ∃ S', f_Par_putOpen S x y = S' ∧ zLike [26] S S' ∧ S'.1 26 = S.1 26 ++ [x, y] := by
  obtain ⟨S1, e1, l1, r1⟩ := zAdd (S := S) (k := 26) x ho (by decide) (by omega)
  obtain ⟨S2, e2, l2, r2⟩ := zAdd (S := S1) (k := 26) y l1.2.2 (by decide) (by rw [r1]; simp; omega)
  refine ⟨S2, ?_, zLike_tr l1 l2, ?_⟩
  · unfold f_Par_putOpen; rw [e1, zbind2_e, e2, zbind2_e]
  · rw [r2, r1]; simp
theorem enc_one (st : List (Nat × Nat)) (a b : Nat) : enc st ++ [nI a, nI b] = enc (st ++ [(a, b)]) := by rw [enc_app]; rfl
/-- rows that laying changes -/
def zLy (S S' : zS) : Prop := zLike [13, 14, 15, 16, 17, 18, 19, 20, 21, 22, 23, 24, 26] S S'
theorem zLy_of {ks : List Nat} {S S' : zS} (h : zLike ks S S') (hk : ∀ k, k ∈ ks → k ∈ [13, 14, 15, 16, 17, 18, 19, 20, 21, 22, 23, 24, 26]) : zLy S S' := zLike_mono h hk
theorem PC_ly {S S' : zS} (h : PC S np P nl fl) (k : zLy S S') : PC S' np P nl fl := PC_like h k (by decide)
theorem p_layFields (hW : PWF nf fam bit np P nl fl) {q p : Nat} (hq : q < np) : ∀ k n S T st, k ≤ pN (P q) → k < n → okS S → PC S np P nl fl → TC S T P nr sa → TW T → p < tQ T → tQ T + k < 40000 → tA T < 20000 → st.length + k < 20000 → S.1 26 = enc st → ∃ S', f_Par_layRecord_L17 n S (nI q) (nI p) (nI k + (-1)) = some S' ∧ zLy S S' ∧ TC S' (tFields P fl q p k T st).1 P nr sa ∧ S'.1 26 = enc (tFields P fl q p k T st).2 := by
  obtain ⟨hnp, hnl, -, -, hw⟩ := hW
  intro k
  induction k with
  | zero =>
    intro n S T st _ hn ho hP hC hT hp hQ hA hst h26
    cases n with
    | zero => omega
    | succ n =>
      unfold f_Par_layRecord_L17
      rw [if_pos (by decide)]
      exact ⟨S, rfl, zLike_rf ho, hC, h26⟩
  | succ k ih =>
    intro n S T st hk hn ho hP hC hT hp hQ hA hst h26
    cases n with
    | zero => omega
    | succ n =>
      have hwq := hw q hq
      have hkp := pwP hwq (j := k) (by omega)
      have e1 : nI (k + 1) + (-1) = nI k := pk_m1 k
      unfold f_Par_layRecord_L17
      have hB := pwB hwq
      rw [e1, if_neg (nI_pos (by omega)), cFN hP hnp hnl hq hwq (by omega)]
      obtain ⟨ne, ep, el, lst, al, nx, nk, ue, hR, hE, hne⟩ := hC
      obtain ⟨S1, ne', ep', el', lst', al', nx', e, a1, a2, a3, a4, a5, a6, a7, a8⟩ := p_edgeFor (P := P) ho hR hE hT hp (by omega) (by omega) (nI (fN P fl q k))
      have hP1 := PC_like hP a2 (by simp)
      obtain ⟨S2, lst2, ue2, b1, b2, b3, b4⟩ := p_childFor (P := P) a2.2.2 a3 a4 hT a5 (by omega) (by omega) a6
      rw [a7] at b1 b3 b4
      rw [a1, zob2_s, b1, zbind2_e, cFP hP1 hnp hnl hq hwq (by omega)]
      obtain ⟨t1, t2, t3, t4, t5, t6, t7, t8, t9, t10, t11, t12⟩ := tChild_ok hT hp (nI (fN P fl q k))
      have r26 : S2.1 26 = enc st := by rw [b2.1 26 (by decide), a2.1 26 (by decide)]; exact h26
      obtain ⟨S3, c1, c2, c3⟩ := p_putOpen (S := S2) (nI (fP P fl q k)) (nI (tChild T p (nI (fN P fl q k))).2) b2.2.2 (by rw [r26, enc_len]; omega)
      rw [zbind_e, c1]
      have hb3 := TRw_like b3 c2 (by simp)
      have hbound : ne' ≤ tA (tChild T p (nI (fN P fl q k))).1 + tQ (tChild T p (nI (fN P fl q k))).1 := by
        rw [t8]
        rcases a8 with y | ⟨y, z⟩
        · omega
        · have := t12.mpr z; omega
      have l13 : zLy S S3 := zLike_tr (zLy_of a2 (by simp)) (zLike_tr (zLy_of b2 (by simp)) (zLy_of c2 (by simp)))
      obtain ⟨S4, d1, d2, d3, d4⟩ := ih n S3 (tChild T p (nI (fN P fl q k))).1 (st ++ [(fP P fl q k, (tChild T p (nI (fN P fl q k))).2)]) (by omega) (by omega) c2.2.2 (PC_ly hP l13) ⟨ne', ep', el', lst2, al', nx', nk, ue2, hb3, b4, hbound⟩ t1 (by omega) (by omega) (by rw [t8]; exact hA) (by simp; omega) (by rw [c3, r26, enc_one])
      exact ⟨S4, d1, zLike_tr l13 d2, d3, d4⟩
theorem p_layRecord (hW : PWF nf fam bit np P nl fl) {q p r : Nat} {st : List (Nat × Nat)} (hq : q < np) (e4 : pK (P q) = 4) (ho : okS S) (hP : PC S np P nl fl) (hC : TC S T P nr sa) (hT : TW T) (hp : p < tQ T) (hQ : tQ T < 30000) (hA : tA T < 20000) (hst : st.length < 19000) (h26 : S.1 26 = enc st) : ∃ S', f_Par_layRecord S (nI q) (nI p) = some S' ∧ zLy S S' ∧ TC S' (tStep P fl r q p T st).1 P nr sa ∧ S'.1 26 = enc (tStep P fl r q p T st).2 := by
  have hW' := hW
  obtain ⟨hnp, hnl, -, -, hw⟩ := hW
  have hB := pwB (hw q hq)
  obtain ⟨ne, ep, el, lst, al, nx, nk, ue, hR, hE, hne⟩ := hC
  obtain ⟨S1, a1, a2, a3⟩ := p_setSort ho hP hnp hR hp hq (by omega)
  have hP1 := PC_like hP a2 (by simp)
  unfold f_Par_layRecord tStep
  rw [zbind_e, a1, zbind_e, cN hP1 hnp hq, if_pos e4]
  have e1 : nI (pN (P q)) - 1 = nI (pN (P q)) + (-1) := by rw [Int32.sub_eq_add_neg]
  rw [e1]
  obtain ⟨S2, b1, b2, b3, b4⟩ := p_layFields (nr := nr) (sa := sa) hW' (p := p) hq (pN (P q)) zbig S1 (tShape T p (pK (P q), pS (P q))) st (Nat.le_refl _) (by unfold zbig; omega) a2.2.2 hP1 ⟨ne, ep, el, lst, al, nx, nk, ue, a3, hE, hne⟩ hT hp (by show tQ T + _ < _; omega) hA (by omega) (by rw [a2.1 26 (by decide)]; exact h26)
  exact ⟨S2, b1, zLike_tr (zLy_of a2 (by simp)) b2, b3, b4⟩
theorem p_layAsk (hW : PWF nf fam bit np P nl fl) {q p r : Nat} {st : List (Nat × Nat)} (hq : q < np) (e4 : pK (P q) ≠ 4) (e0 : pK (P q) ≠ 0) (ho : okS S) (hP : PC S np P nl fl) (hC : TC S T P nr sa) (hT : TW T) (hp : p < tQ T) (hQ : tQ T < 30000) (hA : tA T < 20000) (hst : st.length < 19000) (h26 : S.1 26 = enc st) : ∃ S', f_Par_layAsk S (nI r) (nI q) (nI p) = some S' ∧ zLy S S' ∧ TC S' (tStep P fl r q p T st).1 P nr sa ∧ S'.1 26 = enc (tStep P fl r q p T st).2 := by
  obtain ⟨hnp, hnl, -, -, hw⟩ := hW
  have hwq := hw q hq
  obtain ⟨ne, ep, el, lst, al, nx, nk, ue, hR, hE, hne⟩ := hC
  obtain ⟨S1, a1, a2, a3⟩ := p_setSort ho hP hnp hR hp hq (by omega)
  have hP1 := PC_like hP a2 (by simp)
  have hT1 : TW (tShape T p (pK (P q), pS (P q))) := hT
  have hE1 : EI (tShape T p (pK (P q), pS (P q))) P ne ep el lst al nx nk ue := hE
  obtain ⟨S2, ne', ep', el', lst', al', nx', e, b1, b2, b3, b4, b5, b6, b7, b8⟩ := p_edgeFor (P := P) a2.2.2 a3 hE1 hT1 hp (by show tQ T < _; omega) (by omega) (pM (P q))
  have hP2 := PC_like hP1 b2 (by simp)
  unfold f_Par_layAsk
  rw [zbind_e, a1, cM hP1 hnp hq, b1, zob2_s]
  obtain ⟨r13, r14, r15, r16, r17, r18, r19, r20, r21, r22, r23, r24, r25⟩ := b3
  obtain ⟨E1, E2, E3, E4⟩ := b4
  have hneb : ne' ≤ 51000 := by rcases b8 with y | ⟨y, -⟩ <;> omega
  obtain ⟨S3, c1, m3, s3⟩ := zAdd (S := S2) (k := 22) (nI r) b2.2.2 (by decide) (by rw [r22, rowOf_len]; show tA T < _; omega)
  obtain ⟨S4, c2, m4, s4⟩ := zAdd (S := S3) (k := 23) (nI p) m3.2.2 (by decide) (by rw [m3.1 23 (by decide), r23, rowOf_len]; show tA T < _; omega)
  have v21 : r_at S4 21 (nI e) = oI (al' e).head? := by rw [r_at_rd, m4.1 21 (by decide), m3.1 21 (by decide), r21, rowOf_rd b5 (by omega)]
  obtain ⟨S5, c3, m5, s5⟩ := zAdd (S := S4) (k := 24) (oI (al' e).head?) m4.2.2 (by decide) (by rw [m4.1 24 (by decide), m3.1 24 (by decide), r24, rowOf_len]; show tA T < _; omega)
  have z22 : r_size S5 22 - 1 = nI (tA T) := by
    unfold r_size
    rw [m5.1 22 (by decide), m4.1 22 (by decide), s3, r22, List.length_append, rowOf_len]
    exact nI_pred _
  have k21 : S5.1 21 = S2.1 21 := by rw [m5.1 21 (by decide), m4.1 21 (by decide), m3.1 21 (by decide)]
  obtain ⟨S6, c4, m6, s6⟩ := zSet (S := S5) (k := 21) (i := e) (nI (tA T)) m5.2.2 (by rw [k21, r21, rowOf_len]; exact b5) (by rw [k21, r21, rowOf_len]; omega)
  rw [c1, zbind2_e, c2, zbind2_e, v21, c3, zbind2_e, zbind_e, z22, c4, zbind_e]
  have k6 : ∀ j, j ∉ [21, 22, 23, 24] → S6.1 j = S2.1 j := fun j hj => by
    have : j ≠ 21 ∧ j ≠ 22 ∧ j ≠ 23 ∧ j ≠ 24 := by simpa using hj
    rw [m6.1 j (by simp; omega), m5.1 j (by simp; omega), m4.1 j (by simp; omega), m3.1 j (by simp; omega)]
  have l26 : zLike [21, 22, 23, 24] S2 S6 := ⟨k6, by rw [m6.2.1, m5.2.1, m4.2.1, m3.2.1], m6.2.2⟩
  have hP6 := PC_like hP2 l26 (by simp)
  rw [cArg hP6 hnp hq hwq]
  have uni : ∀ x, x < ne' → ep' x = p → el' x = pM (P q) → x = e := fun x hx y1 y2 => EI_uni (P := P) ⟨E1, E2, E3, E4⟩ hx b5 (by rw [y1, b6]) (by rw [y2, b7])
  have R6 : TRw S6 (tAsked P r q p T) nr sa ne' ep' el' lst' (va_up al' e (tA T :: al' e)) nx' (va_up nk (tA T) (al' e).head?) ue := by
    refine ⟨by rw [k6 13 (by decide)]; exact r13, by rw [k6 14 (by decide)]; exact r14, by rw [k6 15 (by decide)]; exact r15, by rw [k6 16 (by decide)]; exact r16, by rw [k6 17 (by decide)]; exact r17, by rw [k6 18 (by decide)]; exact r18, by rw [k6 19 (by decide)]; exact r19, by rw [k6 20 (by decide)]; exact r20, ?_, ?_, ?_, ?_, by rw [k6 25 (by decide)]; exact r25⟩
    · rw [s6, k21, r21, rowOf_set]
      refine rowOf_congr (fun i hi => ?_)
      by_cases c : i = e
      · subst c; rw [va_s, va_s]; rfl
      · rw [va_n c, va_n c]
    · rw [m6.1 22 (by decide), m5.1 22 (by decide), m4.1 22 (by decide), s3, r22]
      refine rowOf_ext (fun i hi => ?_) ?_
      · show nI (tK T i).1 = nI (va_up (tK T) (tA T) (r, p, q) i).1
        have hi : i < tA T := hi
        rw [va_n (by omega)]
      · show nI r = nI (va_up (tK T) (tA T) (r, p, q) (tA T)).1
        rw [va_s]
    · rw [m6.1 23 (by decide), m5.1 23 (by decide), s4, m3.1 23 (by decide), r23]
      refine rowOf_ext (fun i hi => ?_) ?_
      · show nI (tK T i).2.1 = nI (va_up (tK T) (tA T) (r, p, q) i).2.1
        have hi : i < tA T := hi
        rw [va_n (by omega)]
      · show nI p = nI (va_up (tK T) (tA T) (r, p, q) (tA T)).2.1
        rw [va_s]
    · rw [m6.1 24 (by decide), s5, m4.1 24 (by decide), m3.1 24 (by decide), r24]
      refine rowOf_ext (fun i hi => ?_) ?_
      · have hi : i < tA T := hi
        rw [va_n (by omega)]
      · show oI (al' e).head? = oI (va_up nk (tA T) (al' e).head? (tA T))
        rw [va_s]
  have E6 : EI (tAsked P r q p T) P ne' ep' el' lst' (va_up al' e (tA T :: al' e)) nx' (va_up nk (tA T) (al' e).head?) ue := by
    refine ⟨E1, fun x hx => ?_, E3, fun k hk => ?_⟩
    · obtain ⟨z1, z2, z3⟩ := E2 x hx
      have old : ∀ k, k ∈ al' x → k < tA T := fun k hk => ((z3 k).mp hk).1
      refine ⟨z1, ?_, fun k => ?_⟩
      · by_cases c : x = e
        · subst c
          rw [va_s]
          exact ⟨va_s, lkd_congr (fun k hk => va_n (by have := old k hk; omega)) z2⟩
        · rw [va_n c]
          exact lkd_congr (fun k hk => va_n (by have := old k hk; omega)) z2
      · show k ∈ va_up al' e (tA T :: al' e) x ↔ k < tA T + 1 ∧ (va_up (tK T) (tA T) (r, p, q) k).2.1 = ep' x ∧ pM (P (va_up (tK T) (tA T) (r, p, q) k).2.2) = el' x
        by_cases d : k = tA T
        · subst d
          rw [va_s]
          by_cases c : x = e
          · subst c; rw [va_s]
            simp [b6, b7]
          · rw [va_n c]
            constructor
            · intro y; have := old _ y; omega
            · intro y; exact absurd (uni x hx y.2.1.symm y.2.2.symm) c
        · rw [va_n d]
          have z3' : k ∈ al' x ↔ k < tA T ∧ (tK T k).2.1 = ep' x ∧ pM (P (tK T k).2.2) = el' x := z3 k
          have : k ∈ va_up al' e (tA T :: al' e) x ↔ k ∈ al' x := by
            by_cases c : x = e
            · subst c; rw [va_s]; simp [d]
            · rw [va_n c]
          rw [this, z3']
          constructor
          · intro y; exact ⟨by omega, y.2⟩
          · intro y; exact ⟨by omega, y.2⟩
    · have hk : k < tA T + 1 := hk
      show ∃ x, x < ne' ∧ ep' x = (va_up (tK T) (tA T) (r, p, q) k).2.1 ∧ el' x = pM (P (va_up (tK T) (tA T) (r, p, q) k).2.2)
      by_cases d : k = tA T
      · subst d; rw [va_s]; exact ⟨e, b5, b6, b7⟩
      · rw [va_n d]; exact E4 k (by show k < tA T; omega)
  have r26 : S6.1 26 = enc st := by rw [k6 26 (by decide), b2.1 26 (by decide), a2.1 26 (by decide)]; exact h26
  have l06 : zLy S S6 := zLike_tr (zLy_of a2 (by simp)) (zLike_tr (zLy_of b2 (by simp)) (zLy_of l26 (by simp)))
  unfold tStep
  rw [if_neg e4, if_neg e0]
  cases ox : pO (P q) with
  | none =>
    rw [oI_n, if_pos rfl]
    refine ⟨S6, rfl, l06, ⟨ne', ep', el', lst', _, nx', _, ue, R6, E6, ?_⟩, r26⟩
    show ne' ≤ tA T + 1 + tQ T
    rcases b8 with y | ⟨y, -⟩ <;> omega
  | some x =>
    have hx := (pwO hwq ox).1
    rw [oI_s, if_neg (nI_m1 (by omega))]
    have hTA : TW (tAsked P r q p T) := hT
    have hpA : p < tQ (tAsked P r q p T) := hp
    obtain ⟨S7, lst7, ue7, d1, d2, d3, d4⟩ := p_childFor (P := P) m6.2.2 R6 E6 hTA b5 (by show tQ T < _; omega) (by omega) b6
    rw [b7] at d1 d3 d4
    rw [d1, zbind2_e]
    obtain ⟨t1, t2, t3, t4, t5, t6, t7, t8, t9, t10, t11, t12⟩ := tChild_ok hTA hpA (pM (P q))
    have r26' : S7.1 26 = enc st := by rw [d2.1 26 (by decide)]; exact r26
    obtain ⟨S8, f1, f2, f3⟩ := p_putOpen (S := S7) (nI x) (nI (tChild (tAsked P r q p T) p (pM (P q))).2) d2.2.2 (by rw [r26', enc_len]; omega)
    rw [zbind_e, f1]
    refine ⟨S8, rfl, zLike_tr l06 (zLike_tr (zLy_of d2 (by simp)) (zLy_of f2 (by simp))), ⟨ne', ep', el', lst7, _, nx', _, ue7, TRw_like d3 f2 (by simp), d4, ?_⟩, by rw [f3, r26', enc_one]⟩
    have t8' : tA (tChild (tAsked P r q p T) p (pM (P q))).1 = tA T + 1 := t8
    have t2' : tQ T ≤ tQ (tChild (tAsked P r q p T) p (pM (P q))).1 := t2
    show ne' ≤ tA (tChild (tAsked P r q p T) p (pM (P q))).1 + tQ (tChild (tAsked P r q p T) p (pM (P q))).1
    rw [t8']
    rcases b8 with y | ⟨y, -⟩ <;> omega
end PLA
