-- PURE LAYER: the class's edgeFor, childFor, setSort, asks
section PCD
variable {S : zS} {T : Tr} {nr : Nat} {sa : Nat → Nat} {P : Nat → Pt} {ne : Nat} {ep : Nat → Nat} {el : Nat → Int32} {lst al : Nat → List Nat} {nx nk : Nat → Option Nat} {ue : Nat → Nat}
theorem EI_uni (h : EI T P ne ep el lst al nx nk ue) {a b : Nat} (ha : a < ne) (hb : b < ne) (e1 : ep a = ep b) (e2 : el a = el b) : a = b := by
  obtain ⟨h1, h2, h3⟩ := h.1 (ep a) (h.2.1 a ha).1
  have ma := (h2 a).mpr ⟨ha, rfl⟩
  have mb := (h2 b).mpr ⟨hb, e1.symm⟩
  have gen : ∀ l : List Nat, l.Pairwise (fun a b => el a < el b) → a ∈ l → b ∈ l → a = b := by
    intro l
    induction l with
    | nil => intro _ m; cases m
    | cons x l ih =>
      intro hp ma mb
      obtain ⟨q1, q2⟩ := List.pairwise_cons.mp hp
      rcases List.mem_cons.mp ma with c | c
      · rcases List.mem_cons.mp mb with d | d
        · rw [c, d]
        · have := q1 b d
          rw [← c, e2] at this
          exact absurd this i32_irr
      · rcases List.mem_cons.mp mb with d | d
        · have := q1 a c
          rw [← d, e2] at this
          exact absurd this i32_irr
        · exact ih q2 c d
  exact gen _ h3 ma mb
/-- the class's Parts hold T -/
def TC (S : zS) (T : Tr) (P : Nat → Pt) (nr : Nat) (sa : Nat → Nat) : Prop := ∃ ne ep el lst al nx nk ue, TRw S T nr sa ne ep el lst al nx nk ue ∧ EI T P ne ep el lst al nx nk ue ∧ ne ≤ tA T + tQ T
theorem TRw_like {ks : List Nat} {S' : zS} (h : TRw S T nr sa ne ep el lst al nx nk ue) (hl : zLike ks S S') (hk : ∀ k, k ∈ ks → k < 13 ∨ 25 < k) : TRw S' T nr sa ne ep el lst al nx nk ue := by
  have e : ∀ k, 13 ≤ k → k ≤ 25 → S'.1 k = S.1 k := fun k h1 h2 => hl.1 k (fun m => by have := hk k m; omega)
  unfold TRw at h ⊢
  rw [e 13 (by omega) (by omega), e 14 (by omega) (by omega), e 15 (by omega) (by omega), e 16 (by omega) (by omega), e 17 (by omega) (by omega), e 18 (by omega) (by omega), e 19 (by omega) (by omega), e 20 (by omega) (by omega), e 21 (by omega) (by omega), e 22 (by omega) (by omega), e 23 (by omega) (by omega), e 24 (by omega) (by omega), e 25 (by omega) (by omega)]
  exact h
theorem TC_like {ks : List Nat} {S' : zS} (h : TC S T P nr sa) (hl : zLike ks S S') (hk : ∀ k, k ∈ ks → k < 13 ∨ 25 < k) : TC S' T P nr sa := by
  obtain ⟨ne, ep, el, lst, al, nx, nk, ue, h1, h2, h3⟩ := h
  exact ⟨ne, ep, el, lst, al, nx, nk, ue, TRw_like h1 hl hk, h2, h3⟩
theorem p_edgeFor (ho : okS S) (hR : TRw S T nr sa ne ep el lst al nx nk ue) (hE : EI T P ne ep el lst al nx nk ue) (hT : TW T) {p : Nat} (hp : p < tQ T) (hq : tQ T < 65536) (hne : ne < 65535) (l : Int32) : ∃ S' ne' ep' el' lst' al' nx' e, f_Par_edgeFor S (nI p) l = some (S', nI e) ∧ zLike [17, 18, 19, 20, 21] S S' ∧ TRw S' T nr sa ne' ep' el' lst' al' nx' nk ue ∧ EI T P ne' ep' el' lst' al' nx' nk ue ∧ e < ne' ∧ ep' e = p ∧ el' e = l ∧ (ne' = ne ∨ (ne' = ne + 1 ∧ tCh T p l = none)) := by
  obtain ⟨l1, l2, e, h1, h2⟩ := split_at hE hp l
  obtain ⟨w1, w2⟩ := p_lastBelow hR hE hp hq (by omega) e h1 h2
  have hmem := (hE.1 p hp).2.1
  have hpw := (hE.1 p hp).2.2
  rw [e] at hpw
  unfold f_Par_edgeFor
  rw [w1, zob_s, zbind_e, w2]
  have fresh : (∀ x, x ∈ l2 → x < ne ∧ l < el x) → ∃ S' ne' ep' el' lst' al' nx' e, (zbind2 (f_Par_addEdge S (nI p) (lastB (-1) l1) l) fun S4 v5 => some (S4, v5)) = some (S', nI e) ∧ zLike [17, 18, 19, 20, 21] S S' ∧ TRw S' T nr sa ne' ep' el' lst' al' nx' nk ue ∧ EI T P ne' ep' el' lst' al' nx' nk ue ∧ e < ne' ∧ ep' e = p ∧ el' e = l ∧ (ne' = ne ∨ (ne' = ne + 1 ∧ tCh T p l = none)) := by
    intro h2'
    obtain ⟨S', nx', a1, a2, a3, a4⟩ := p_addEdge ho hR hE hT hp hq hne e h1 h2'
    rw [a1, zbind2_e]
    refine ⟨S', ne + 1, _, _, _, _, nx', ne, rfl, a2, a3, a4, by omega, va_s, va_s, Or.inr ⟨rfl, ?_⟩⟩
    cases q : tCh T p l with
    | none => rfl
    | some c =>
      obtain ⟨b1, b2, b3, b4⟩ := tCh_ok q
      obtain ⟨u1, u2, u3⟩ := hE.2.2.1 c b1 b2
      have hm : ue c ∈ l1 ++ l2 := by rw [← e]; exact (hmem _).mpr ⟨u1, by rw [u2, b3]⟩
      rw [b4] at u3
      rcases List.mem_append.mp hm with m | m
      · have := (h1 _ m).2; rw [u3] at this; exact absurd this i32_irr
      · have := (h2' _ m).2; rw [u3] at this; exact absurd this i32_irr
  cases l2 with
  | nil =>
    rw [if_pos (by rfl)]
    exact fresh (fun x hx => by cases hx)
  | cons x l2 =>
    have hx := h2 x List.mem_cons_self
    obtain ⟨r13, r14, r15, r16, r17, r18, r19, r20, r21, r22, r23, r24, r25⟩ := hR
    show ∃ S' ne' ep' el' lst' al' nx' e, (if nI x = -1 then _ else _) = some (S', nI e) ∧ _
    rw [if_neg (nI_m1 (by omega))]
    show ∃ S' ne' ep' el' lst' al' nx' e, (if ¬ r_at S 18 (nI x) = l then _ else some (S, nI x)) = some (S', nI e) ∧ _
    rw [r_at_rd, r18, rowOf_rd hx.1 (by omega)]
    by_cases c : el x = l
    · rw [if_neg (by simp [c])]
      exact ⟨S, ne, ep, el, lst, al, nx, x, rfl, zLike_rf ho, ⟨r13, r14, r15, r16, r17, r18, r19, r20, r21, r22, r23, r24, r25⟩, hE, hx.1, ((hmem x).mp (by rw [e]; simp)).2, c, Or.inl rfl⟩
    · rw [if_pos c]
      refine fresh (fun y hy => ?_)
      refine ⟨(h2 y hy).1, ?_⟩
      rcases List.mem_cons.mp hy with m | m
      · subst m; exact i32_eq hx.2 c
      · have := (List.pairwise_cons.mp (List.pairwise_append.mp hpw).2.1).1 y m
        exact i32_ltr hx.2 this
theorem p_childFor (ho : okS S) (hR : TRw S T nr sa ne ep el lst al nx nk ue) (hE : EI T P ne ep el lst al nx nk ue) (hT : TW T) {p e : Nat} (he : e < ne) (hq : tQ T < 65535) (hne : ne < 65536) (e1 : ep e = p) : ∃ S' lst' ue', f_Par_childFor S (nI p) (nI e) = (S', nI (tChild T p (el e)).2) ∧ zLike [13, 14, 15, 16, 17, 20] S S' ∧ TRw S' (tChild T p (el e)).1 nr sa ne ep el lst' al nx nk ue' ∧ EI (tChild T p (el e)).1 P ne ep el lst' al nx nk ue' := by
  have hR' := hR
  obtain ⟨r13, r14, r15, r16, r17, r18, r19, r20, r21, r22, r23, r24, r25⟩ := hR
  obtain ⟨E1, E2, E3, E4⟩ := hE
  have hp : p < tQ T := by rw [← e1]; exact (E2 e he).1
  have r20e : r_at S 20 (nI e) = oI (tCh T p (el e)) := by rw [r_at_rd, r20, rowOf_rd he (by omega), e1]
  unfold f_Par_childFor
  rw [r20e]
  unfold tChild
  cases q : tCh T p (el e) with
  | some c =>
    have := tCh_ok q
    rw [if_pos (by rw [oI_s]; exact nI_m1 (by omega)), oI_s]
    exact ⟨S, lst, ue, rfl, zLike_rf ho, hR', E1, E2, E3, E4⟩
  | none =>
    rw [oI_n, if_neg (by simp)]
    have len : ∀ k, k = 13 ∨ k = 14 ∨ k = 15 ∨ k = 16 ∨ k = 17 → (S.1 k).length = tQ T := by
      intro k hk
      rcases hk with c | c | c | c | c <;> subst c <;> simp only [*, rowOf_len]
    obtain ⟨S1, a1, m1, s1⟩ := zAdd (S := S) (k := 14) 0 ho (by decide) (by rw [len 14 (by simp)]; omega)
    obtain ⟨S2, a2, m2, s2⟩ := zAdd (S := S1) (k := 15) (nI p) m1.2.2 (by decide) (by rw [m1.1 15 (by decide), len 15 (by simp)]; omega)
    obtain ⟨S3, a3, m3, s3⟩ := zAdd (S := S2) (k := 16) (nI e) m2.2.2 (by decide) (by rw [m2.1 16 (by decide), m1.1 16 (by decide), len 16 (by simp)]; omega)
    obtain ⟨S4, a4, m4, s4⟩ := zAdd (S := S3) (k := 17) (-1) m3.2.2 (by decide) (by rw [m3.1 17 (by decide), m2.1 17 (by decide), m1.1 17 (by decide), len 17 (by simp)]; omega)
    have l13 : (S4.1 13).length = tQ T := by rw [m4.1 13 (by decide), m3.1 13 (by decide), m2.1 13 (by decide), m1.1 13 (by decide), len 13 (by simp)]
    obtain ⟨S5, a5, m5, s5⟩ := zAdd (S := S4) (k := 13) 0 m4.2.2 (by decide) (by rw [l13]; omega)
    have k20 : S5.1 20 = S.1 20 := by rw [m5.1 20 (by decide), m4.1 20 (by decide), m3.1 20 (by decide), m2.1 20 (by decide), m1.1 20 (by decide)]
    obtain ⟨S6, a6, m6, s6⟩ := zSet (S := S5) (k := 20) (i := e) (nI (tQ T)) m5.2.2 (by rw [k20, r20, rowOf_len]; exact he) (by rw [k20, r20, rowOf_len]; omega)
    have ea : f_Par_addPart S (nI p) (nI e) = (S5, nI (tQ T)) := by
      unfold f_Par_addPart
      rw [a1, zbind2_e, a2, zbind2_e, a3, zbind2_e, a4, zbind2_e, a5, zbind2_e, l13]
    rw [ea, zbind2_e, zbind_e, a6]
    have k6 : ∀ k, k ∉ [13, 14, 15, 16, 17, 20] → S6.1 k = S.1 k := fun k hk => by
      have hk' : k ≠ 13 ∧ k ≠ 14 ∧ k ≠ 15 ∧ k ≠ 16 ∧ k ≠ 17 ∧ k ≠ 20 := by simpa using hk
      rw [m6.1 k (by simp; omega), m5.1 k (by simp; omega), m4.1 k (by simp; omega), m3.1 k (by simp; omega), m2.1 k (by simp; omega), m1.1 k (by simp; omega)]
    have uni : ∀ x, x < ne → ep x = p → el x = el e → x = e := fun x hx y1 y2 => EI_uni ⟨E1, E2, E3, E4⟩ hx he (by rw [y1, e1]) y2
    have row20 : S6.1 20 = rowOf ne (fun x => oI (tCh (tAdd T p (el e)) (ep x) (el x))) := by
      rw [s6, k20, r20, rowOf_set]
      refine rowOf_congr (fun x hx => ?_)
      rw [tCh_add]
      by_cases c : x = e
      · subst c
        rw [va_s, if_pos ⟨by have := hT.1; omega, e1.symm, rfl⟩]; rfl
      · rw [va_n c, if_neg (fun y => c (uni x hx y.2.1.symm y.2.2.symm))]
    have v20 : r_at S6 20 (nI e) = nI (tQ T) := by
      rw [r_at_rd, row20, rowOf_rd he (by omega), tCh_add, if_pos ⟨by have := hT.1; omega, e1.symm, rfl⟩]; rfl
    rw [v20]
    refine ⟨S6, va_up lst (tQ T) [], va_up ue (tQ T) e, rfl, ⟨k6, by rw [m6.2.1, m5.2.1, m4.2.1, m3.2.1, m2.2.1, m1.2.1], m6.2.2⟩, ?_, ?_⟩
    · show TRw S6 (tAdd T p (el e)) nr sa ne ep el (va_up lst (tQ T) []) al nx nk (va_up ue (tQ T) e)
      refine ⟨?_, ?_, ?_, ?_, ?_, by rw [k6 18 (by decide)]; exact r18, by rw [k6 19 (by decide)]; exact r19, row20, by rw [k6 21 (by decide)]; exact r21, by rw [k6 22 (by decide)]; exact r22, by rw [k6 23 (by decide)]; exact r23, by rw [k6 24 (by decide)]; exact r24, by rw [k6 25 (by decide)]; exact r25⟩
      · rw [m6.1 13 (by decide), s5, m4.1 13 (by decide), m3.1 13 (by decide), m2.1 13 (by decide), m1.1 13 (by decide), r13]
        exact rowOf_ext (fun i hi => by show _ = nI (va_up (tH T) (tQ T) (0, 0) i).1; rw [va_n (by omega)]) (by show _ = nI (va_up (tH T) (tQ T) (0, 0) (tQ T)).1; rw [va_s]; rfl)
      · rw [m6.1 14 (by decide), m5.1 14 (by decide), m4.1 14 (by decide), m3.1 14 (by decide), m2.1 14 (by decide), s1, r14]
        exact rowOf_ext (fun i hi => by show _ = (va_up (tH T) (tQ T) (0, 0) i).2; rw [va_n (by omega)]) (by show _ = (va_up (tH T) (tQ T) (0, 0) (tQ T)).2; rw [va_s])
      · rw [m6.1 15 (by decide), m5.1 15 (by decide), m4.1 15 (by decide), m3.1 15 (by decide), s2, m1.1 15 (by decide), r15]
        refine rowOf_ext (fun i hi => ?_) ?_
        · show _ = if i = 0 then (-1 : Int32) else nI (va_up (tU T) (tQ T) p i)
          rw [va_n (by omega)]
        · show _ = if tQ T = 0 then (-1 : Int32) else nI (va_up (tU T) (tQ T) p (tQ T))
          rw [va_s, if_neg (by have := hT.1; omega)]
      · rw [m6.1 16 (by decide), m5.1 16 (by decide), m4.1 16 (by decide), s3, m2.1 16 (by decide), m1.1 16 (by decide), r16]
        refine rowOf_ext (fun i hi => ?_) ?_
        · rw [va_n (by omega)]
        · rw [va_s, if_neg (by have := hT.1; omega)]
      · rw [m6.1 17 (by decide), m5.1 17 (by decide), s4, m3.1 17 (by decide), m2.1 17 (by decide), m1.1 17 (by decide), r17]
        refine rowOf_ext (fun i hi => ?_) ?_
        · rw [va_n (by omega)]
        · rw [va_s]; rfl
    · show EI (tAdd T p (el e)) P ne ep el (va_up lst (tQ T) []) al nx nk (va_up ue (tQ T) e)
      refine ⟨fun p' hp' => ?_, fun x hx => ?_, fun c b1 b2 => ?_, E4⟩
      · have hp' : p' < tQ T + 1 := hp'
        by_cases c : p' = tQ T
        · subst c
          rw [va_s]
          refine ⟨trivial, fun x => ⟨(by intro y; cases y), fun y => ?_⟩, List.Pairwise.nil⟩
          have := (E2 x y.1).1
          omega
        · rw [va_n c]; exact E1 p' (by omega)
      · obtain ⟨z1, z2, z3⟩ := E2 x hx
        exact ⟨by show ep x < tQ T + 1; omega, z2, z3⟩
      · have b2 : c < tQ T + 1 := b2
        show va_up ue (tQ T) e c < ne ∧ ep (va_up ue (tQ T) e c) = va_up (tU T) (tQ T) p c ∧ el (va_up ue (tQ T) e c) = va_up (tL T) (tQ T) (el e) c
        by_cases d : c = tQ T
        · subst d; rw [va_s, va_s, va_s]; exact ⟨he, e1, rfl⟩
        · rw [va_n d, va_n d, va_n d]; exact E3 c b1 (by omega)
end PCD
