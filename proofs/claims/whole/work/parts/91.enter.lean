-- PURE LAYER: the class enters and leaves a node
-- what enter does behind ruleOut; one step of make's loop
def gEnter (S : zS) (a1 : Int32) (a2 : Int32) : Option (zS × Int32) :=
  zbind2 (f_Nod_add S a1 a2) fun S1 v2 =>
  zbind (f_Nod_ruleAt S1 a1) fun v3 =>
  zob (f_Grw_firstPossible S1 (z_max v3 0)) fun v4 =>
  if ¬ v4 = (-1) then
    if ¬ v4 = v3 then
      zob (f_Grw_firstNotLooked S1 v4 (f_Par_startOf S1 v4)) fun v7 =>
      if ¬ v7 = (-1) then
        zbind (f_Par_askPart S1 v7) fun v9 =>
        zbind (f_Nod_settle S1 v2 v4 v7 v9) fun S10 =>
        zbind (r_set S10 38 v9 1) fun S11 =>
        some (S11, v2)
      else
        zbind (f_Nod_settle S1 v2 v4 v7 (-1)) fun S12 =>
        zbind (r_set S12 38 (-1) 1) fun S13 =>
        some (S13, v2)
    else
      zob (f_Grw_firstNotLooked S1 v4 (f_Nod_ask S1 a1)) fun v14 =>
      if ¬ v14 = (-1) then
        zbind (f_Par_askPart S1 v14) fun v16 =>
        zbind (f_Nod_settle S1 v2 v4 v14 v16) fun S17 =>
        zbind (r_set S17 38 v16 1) fun S18 =>
        some (S18, v2)
      else
        zbind (f_Nod_settle S1 v2 v4 v14 (-1)) fun S19 =>
        zbind (r_set S19 38 (-1) 1) fun S20 =>
        some (S20, v2)
  else
    some (S1, v2)
def gGoOn (S : zS) (a1 : Int32) : Option (zS × Int32) :=
  if ¬ (f_Nod_part S a1) = (-1) then
    zob (f_Grw_nextEdge S a1) fun v2 =>
    if ¬ v2 = (-1) then
      zob (f_Grw_ruleOut S a1 v2) fun S4 =>
      zob2 (gEnter S4 a1 v2) fun S5 v6 =>
      some (S5, v6)
    else
      if ¬ (f_Grw_othersLeft S a1) = 0 then
        zob (f_Grw_ruleOut S a1 v2) fun S8 =>
        zob2 (gEnter S8 a1 v2) fun S9 v10 =>
        some (S9, v10)
      else
        zob2 (f_Grw_leave S a1) fun S11 v12 =>
        some (S11, v12)
  else
    zob2 (f_Grw_leave S a1) fun S13 v14 =>
    some (S13, v14)
theorem enter_e (S : zS) (a b : Int32) : f_Grw_enter S a b = zob (f_Grw_ruleOut S a b) fun S1 => gEnter S1 a b := rfl
theorem ruleOut_root (S : zS) (x : Int32) : f_Grw_ruleOut S (-1) x = some S := by
  have e1 : f_Nod_part S (-1) = -1 := by unfold f_Nod_part; rw [r_at_rd, rd_m1]
  have e2 : f_Par_firstEdge S (-1) = -1 := by unfold f_Par_firstEdge; rw [r_at_rd, rd_m1]
  unfold f_Grw_ruleOut
  rw [e1, e2, zbind_e, zbind_e]
  have hz : zbig = 4294967299 + 1 := by unfold zbig; rfl
  rw [hz, f_Grw_ruleOut_L25]
  by_cases z : f_Par_edges S ≤ 0
  · rw [if_pos z]
  · rw [if_neg z, if_pos rfl]
theorem zob2_id {α β : Type} {k : α → β → Option (α × β)} (x : Option (α × β)) : zob2 (zob2 x fun a b => some (a, b)) k = zob2 x k := by
  cases x with
  | none => rfl
  | some p => rfl
theorem enter_k {S : zS} {a b : Int32} (k : zS → Int32 → Option (zS × Int32)) : zob2 (f_Grw_enter S a b) k = zob2 (zob (f_Grw_ruleOut S a b) fun S4 => zob2 (gEnter S4 a b) fun S5 v6 => some (S5, v6)) k := by
  rw [enter_e]
  cases f_Grw_ruleOut S a b with
  | none => rfl
  | some S1 => rw [zob_s, zob_s, zob2_id]
theorem goOn_k {S : zS} {x : Int32} (hx : f_Nod_part S x = -1 → f_Nod_lastBranch S x = -1) (k : zS → Int32 → Option (zS × Int32)) : (zob (f_Grw_nextEdge S x) fun v12 => if ¬ v12 = (-1) then zob2 (f_Grw_enter S x v12) k else if ¬ (f_Grw_othersLeft S x) = 0 then zob2 (f_Grw_enter S x v12) k else zob2 (f_Grw_leave S x) k) = zob2 (gGoOn S x) k := by
  unfold gGoOn
  by_cases hp : f_Nod_part S x = -1
  · have e1 : f_Grw_nextEdge S x = some (-1) := by
      have e2 : f_Par_firstEdge S (-1) = -1 := by unfold f_Par_firstEdge; rw [r_at_rd, rd_m1]
      unfold f_Grw_nextEdge
      rw [hx hp, zbind_e, if_neg (not_not_intro rfl), zbind_e, zbind_e, hp, e2]
      have hz : zbig = 4294967299 + 1 := by unfold zbig; rfl
      rw [hz, f_Grw_nextEdge_L57]
      by_cases z : f_Par_edges S ≤ 0
      · rw [if_pos z]
      · rw [if_neg z, if_pos rfl]
    have e3 : f_Grw_othersLeft S x = 0 := by
      unfold f_Grw_othersLeft
      rw [zbind_e, zbind_e, if_pos hp]
    rw [e1, zob_s, if_neg (not_not_intro rfl), e3, if_neg (not_not_intro rfl), if_neg (not_not_intro hp), zob2_id]
  · rw [if_pos hp]
    cases f_Grw_nextEdge S x with
    | none => rfl
    | some v =>
      rw [zob_s, zob_s]
      by_cases h1 : v = -1
      · rw [if_neg (not_not_intro h1), if_neg (not_not_intro h1)]
        by_cases h2 : f_Grw_othersLeft S x = 0
        · rw [if_neg (not_not_intro h2), if_neg (not_not_intro h2), zob2_id]
        · rw [if_pos h2, if_pos h2]; exact enter_k k
      · rw [if_pos h1, if_pos h1]; exact enter_k k
section PEN
variable {S : zS} {T : Tr} {nr : Nat} {sa : Nat → Nat} {nf : Nat} {fam : Nat → Nat} {bit : Nat → Int64} {np : Nat} {P : Nat → Pt} {nl : Nat} {fl : Nat → Nat × Nat} {ru : Nat → Nat} {ne : Nat} {ep : Nat → Nat} {el : Nat → Int32} {lst al : Nat → List Nat} {nx nk : Nat → Option Nat} {ue : Nat → Nat} {A : Am} {nE nN : Nat → Option Nat}
/-- the parts looked at, with a node's own -/
def curL (T : Tr) (lk : List Nat) : Option Nat → List Nat
  | none => lk
  | some k => (tK T k).2.1 :: lk
theorem LC_like {ks : List Nat} {S' : zS} {lk : List Nat} (h : LC S T lk) (hl : zLike ks S S') (hk : 38 ∉ ks) : LC S' T lk := by
  unfold LC; rw [hl.1 38 hk]; exact h
theorem OU_like {ks : List Nat} {S' : zS} {ou : Nat → Option Nat} (h : OU S nr ou) (hl : zLike ks S S') (hk : 37 ∉ ks) : OU S' nr ou := by
  unfold OU; rw [hl.1 37 hk]; exact h
theorem p_lookAt (ho : okS S) {lk : List Nat} (hL : LC S T lk) {p : Nat} (hp : p < tQ T) (hq : tQ T ≤ 16385) : ∃ S', r_set S 38 (nI p) 1 = S' ∧ zLike [38] S S' ∧ LC S' T (p :: lk) := by
  obtain ⟨S1, a1, a2, a3⟩ := zSet (S := S) (k := 38) (i := p) 1 ho (by rw [hL, rowOf_len]; exact hp) (by rw [hL, rowOf_len]; omega)
  refine ⟨S1, a1, a2, ?_⟩
  unfold LC
  rw [a3, hL, rowOf_set]
  refine rowOf_congr (fun i hi => ?_)
  by_cases c : i = p
  · subst c; rw [va_s]; simp [bI]
  · rw [va_n c]; simp [c]
theorem p_lookOff (ho : okS S) {lk : List Nat} {p : Nat} (hL : LC S T (p :: lk)) (hp : p < tQ T) (hn : p ∉ lk) (hq : tQ T ≤ 16385) : ∃ S', r_set S 38 (nI p) 0 = S' ∧ zLike [38] S S' ∧ LC S' T lk := by
  obtain ⟨S1, a1, a2, a3⟩ := zSet (S := S) (k := 38) (i := p) 0 ho (by rw [hL, rowOf_len]; exact hp) (by rw [hL, rowOf_len]; omega)
  refine ⟨S1, a1, a2, ?_⟩
  unfold LC
  rw [a3, hL, rowOf_set]
  refine rowOf_congr (fun i hi => ?_)
  by_cases c : i = p
  · subst c; rw [va_s]; simp [bI, hn]
  · rw [va_n c]; simp [c]
theorem fP1_low {po : Nat → Bool} {i : Nat} {o : Option Nat} (h : fP1 po nr i o) (hl : ∀ r, r < i → po r = false) : fP1 po nr 0 o := by
  cases o with
  | none =>
    intro j _ h2
    by_cases c : j < i
    · exact hl j c
    · exact h j (by omega) h2
  | some r =>
    refine ⟨Nat.zero_le _, h.2.1, h.2.2.1, fun j _ h2 => ?_⟩
    by_cases c : j < i
    · exact hl j c
    · exact h.2.2.2 j (by omega) h2
theorem fA_low {lk : List Nat} {i k e : Nat} {o : Option Nat} (h : fA T lk k e o) (hik : i ≤ k) (hl : ∀ j, i ≤ j → j < k → (tK T j).2.1 ∈ lk) : fA T lk i e o := by
  cases o with
  | none =>
    intro j h1 h2
    by_cases c : j < k
    · exact hl j h1 c
    · exact h j (by omega) h2
  | some x =>
    refine ⟨by have := h.1; omega, h.2.1, h.2.2.1, fun j h1 h2 => ?_⟩
    by_cases c : j < k
    · exact hl j h1 c
    · exact h.2.2.2 j (by omega) h2
theorem c_enter (hF : SF nf fam bit np P nl fl T nr ru sa) (ho : okS S) (hR : TRw S T nr sa ne ep el lst al nx nk ue) {ou : Nat → Option Nat} (hO : OU S nr ou) (hob : obd nr 100000 ou) {lk : List Nat} (hL : LC S T lk) (hN : NRw S A nE nN) (hK : KI A nN) (hn : aN A < 60000) (u tk : Option Nat) (lab : Option Int32)
    (hu : ∀ x, u = some x → x < aN A ∧ ∃ r0 k0, aR A x = some r0 ∧ aK A x = some k0 ∧ r0 < nr ∧ (∀ r, r < r0 → ou r ≠ none) ∧ sa r0 ≤ k0 ∧ k0 ≤ sx T nr sa r0 ∧ ∀ j, sa r0 ≤ j → j < k0 → (tK T j).2.1 ∈ lk) :
    ∃ S' nN' R K, gEnter S (oI u) (oI tk) = some (S', nI (aN A)) ∧ zLike [27, 28, 29, 30, 31, 32, 33, 34, 35, 36, 38] S S' ∧ NRw S' (amAdd T A u lab (fun r => decide (ou r = none)) lk R K) (va_up nE (aN A) tk) nN' ∧ KI (amAdd T A u lab (fun r => decide (ou r = none)) lk R K) nN' ∧ LC S' T (curL T lk K) ∧ fP1 (fun r => decide (ou r = none)) nr 0 R ∧ (R = none → K = none) ∧ ∀ r, R = some r → fA T lk (sa r) (sx T nr sa r) K := by
  have hb := hF.2.2.2.2.1
  have hq := hF.2.2.2.2.2.1
  have hnr := hF.2.2.2.2.2.2
  have hA := SF_ask hF
  obtain ⟨S1, nN1, a1, a2, a3, a4⟩ := p_nodAdd (T := T) u tk lab (fun r => decide (ou r = none)) lk ho hN hK hn (fun x e => (hu x e).1)
  have hR1 := TRw_like hR a2 (by simp)
  have hO1 := OU_like hO a2 (by simp)
  have hL1 := LC_like hL a2 (by simp)
  have l1 : zLike [27, 28, 29, 30, 31, 32, 33, 34, 35, 36, 38] S S1 := zLike_mono a2 (by simp)
  have r28 : S1.1 28 = rowOf (aN A + 1) (fun v => oI (va_up (aR A) (aN A) none v)) := a3.2.1
  have r29 : S1.1 29 = rowOf (aN A + 1) (fun v => oI (va_up (aK A) (aN A) none v)) := a3.2.2.1
  have r25 : S1.1 25 = rowOf nr (fun r => nI (sa r)) := hR1.2.2.2.2.2.2.2.2.2.2.2.2
  have r23 : S1.1 23 = rowOf (tA T) (fun k => nI (tK T k).2.1) := hR1.2.2.2.2.2.2.2.2.2.2.1
  -- settling
  have settle : ∀ r K, fP1 (fun r => decide (ou r = none)) nr 0 (some r) → fA T lk (sa r) (sx T nr sa r) K → ∃ S' nN' R' K', (if ¬ oI K = (-1) then
        zbind (f_Par_askPart S1 (oI K)) fun v9 =>
        zbind (f_Nod_settle S1 (nI (aN A)) (nI r) (oI K) v9) fun S10 =>
        zbind (r_set S10 38 v9 1) fun S11 =>
        some (S11, nI (aN A))
      else
        zbind (f_Nod_settle S1 (nI (aN A)) (nI r) (oI K) (-1)) fun S12 =>
        zbind (r_set S12 38 (-1) 1) fun S13 =>
        some (S13, nI (aN A))) = some (S', nI (aN A)) ∧ zLike [27, 28, 29, 30, 31, 32, 33, 34, 35, 36, 38] S S' ∧ NRw S' (amAdd T A u lab (fun r => decide (ou r = none)) lk R' K') (va_up nE (aN A) tk) nN' ∧ KI (amAdd T A u lab (fun r => decide (ou r = none)) lk R' K') nN' ∧ LC S' T (curL T lk K') ∧ fP1 (fun r => decide (ou r = none)) nr 0 R' ∧ (R' = none → K' = none) ∧ ∀ r, R' = some r → fA T lk (sa r) (sx T nr sa r) K' := by
    intro r K hP hKf
    have hs := SI_sx hF.2.2.1 hP.2.1
    obtain ⟨S2, b1, b2, b3⟩ := p_settle (some r) K a2.2.2 a3 hn
    have l2 : zLike [27, 28, 29, 30, 31, 32, 33, 34, 35, 36, 38] S S2 := zLike_tr l1 (zLike_mono b2 (by simp))
    have hL2 := LC_like hL1 b2 (by simp)
    cases K with
    | none =>
      rw [oI_n, if_neg (by simp), zbind_e, show f_Nod_settle S1 (nI (aN A)) (nI r) (-1) (-1) = S2 from b1, zbind_e, r_set_m1]
      exact ⟨S2, nN1, some r, none, rfl, l2, b3, a4, hL2, hP, fun e => (by cases e), fun r' e => by cases e; exact hKf⟩
    | some k =>
      have hk : k < tA T := by have := hKf.2.1; omega
      have hkA := hA k hk
      have ep1 : f_Par_askPart S1 (oI (some k)) = nI (tK T k).2.1 := by unfold f_Par_askPart; rw [oI_s, r_at_rd, r23, rowOf_rd hk (by omega)]
      rw [if_pos (by rw [oI_s]; exact nI_m1 (by omega)), zbind_e, ep1, zbind_e, show f_Nod_settle S1 (nI (aN A)) (nI r) (oI (some k)) (nI (tK T k).2.1) = S2 from b1, zbind_e]
      obtain ⟨S3, c1, c2, c3⟩ := p_lookAt l2.2.2 hL2 hkA.2 hq
      rw [c1]
      refine ⟨S3, nN1, some r, some k, rfl, zLike_tr l2 (zLike_mono c2 (by simp)), ?_, a4, c3, hP, fun e => (by cases e), fun r' e => by cases e; exact hKf⟩
      obtain ⟨g27, g28, g29, g30, g31, g32, g33, g34, g35, g36⟩ := b3
      exact ⟨by rw [c2.1 27 (by decide)]; exact g27, by rw [c2.1 28 (by decide)]; exact g28, by rw [c2.1 29 (by decide)]; exact g29, by rw [c2.1 30 (by decide)]; exact g30, by rw [c2.1 31 (by decide)]; exact g31, by rw [c2.1 32 (by decide)]; exact g32, by rw [c2.1 33 (by decide)]; exact g33, by rw [c2.1 34 (by decide)]; exact g34, by rw [c2.1 35 (by decide)]; exact g35, by rw [c2.1 36 (by decide)]; exact g36⟩
  have starts : ∀ r, r < nr → f_Par_startOf S1 (nI r) = nI (sa r) := fun r hr => by unfold f_Par_startOf; rw [r_at_rd, r25, rowOf_rd hr (by omega)]
  have fromStart : ∀ r, r < nr → ∃ K, f_Grw_firstNotLooked S1 (nI r) (nI (sa r)) = some (oI K) ∧ fA T lk (sa r) (sx T nr sa r) K := fun r hr => by
    have hs := SI_sx hF.2.2.1 hr
    unfold f_Grw_firstNotLooked
    rw [zbind_e, c_stopOf hR1 hnr hr]
    exact c_firstNL_L hR1 hA hb hq hL1 hs.2 zbig (sa r) hs.1 (by unfold zbig; omega)
  unfold gEnter
  rw [a1, zbind2_e, zbind_e]
  cases u with
  | none =>
    have v3 : f_Nod_ruleAt S1 (oI none) = -1 := by unfold f_Nod_ruleAt; rw [oI_n, r_at_rd, rd_m1]
    rw [v3, show z_max (-1) 0 = nI 0 from rfl]
    obtain ⟨o, e1, e2⟩ := c_firstP hO1 hob hnr zbig 0 (by omega) (by unfold zbig; omega)
    rw [show f_Grw_firstPossible S1 (nI 0) = some (oI o) from e1, zob_s]
    cases o with
    | none =>
      rw [oI_n, if_neg (by simp)]
      exact ⟨S1, nN1, none, none, rfl, l1, a3, a4, hL1, e2, fun _ => rfl, fun r e => by cases e⟩
    | some r =>
      have hr := e2.2.1
      have hnm : ¬ nI r = -1 := nI_m1 (by omega)
      obtain ⟨K, f1, f2⟩ := fromStart r hr
      rw [oI_s, if_pos hnm, if_pos hnm, starts r hr, f1, zob_s]
      exact settle r K e2 f2
  | some x =>
    obtain ⟨hx, r0, k0, g1, g2, g3, g4, g5, g6, g7⟩ := hu x rfl
    have v3 : f_Nod_ruleAt S1 (oI (some x)) = nI r0 := by unfold f_Nod_ruleAt; rw [oI_s, r_at_rd, r28, rowOf_rd (by omega) (by omega), va_n (by omega), g1]; rfl
    have v4 : f_Nod_ask S1 (oI (some x)) = nI k0 := by unfold f_Nod_ask; rw [oI_s, r_at_rd, r29, rowOf_rd (by omega) (by omega), va_n (by omega), g2]; rfl
    have vm : z_max (nI r0) 0 = nI r0 := by unfold z_max; rw [if_neg (nI_pos (by omega))]
    rw [v3, v4, vm]
    obtain ⟨o, e1, e2⟩ := c_firstP hO1 hob hnr zbig r0 (by omega) (by unfold zbig; omega)
    have e2' := fP1_low e2 (fun r hr => by simpa using g4 r hr)
    rw [show f_Grw_firstPossible S1 (nI r0) = some (oI o) from e1, zob_s]
    cases o with
    | none =>
      rw [oI_n, if_neg (by simp)]
      exact ⟨S1, nN1, none, none, rfl, l1, a3, a4, hL1, e2', fun _ => rfl, fun r e => by cases e⟩
    | some r =>
      have hr := e2.2.1
      have hnm : ¬ nI r = -1 := nI_m1 (by omega)
      rw [oI_s, if_pos hnm]
      by_cases c : r = r0
      · subst c
        have hs := SI_sx hF.2.2.1 hr
        rw [if_neg (by simp)]
        have : ∃ K, f_Grw_firstNotLooked S1 (nI r) (nI k0) = some (oI K) ∧ fA T lk k0 (sx T nr sa r) K := by
          unfold f_Grw_firstNotLooked
          rw [zbind_e, c_stopOf hR1 hnr hr]
          exact c_firstNL_L hR1 hA hb hq hL1 hs.2 zbig k0 g6 (by unfold zbig; omega)
        obtain ⟨K, f1, f2⟩ := this
        rw [f1, zob_s]
        exact settle r K e2' (fA_low f2 g5 g7)
      · obtain ⟨K, f1, f2⟩ := fromStart r hr
        rw [if_pos (by rw [nI_eq (by omega) (by omega)]; exact c), starts r hr, f1, zob_s]
        exact settle r K e2' f2
theorem c_leave (hF : SF nf fam bit np P nl fl T nr ru sa) (ho : okS S) (hR : TRw S T nr sa ne ep el lst al nx nk ue) (hE : EI T P ne ep el lst al nx nk ue) (hne : ne < 65536) {ou : Nat → Option Nat} (hO : OU S nr ou) (hob : obd nr 100000 ou) (hN : NRw S A nE nN) (hn : aN A < 60000) {v : Nat} (hv : v < aN A) {lk : List Nat} (hL : match aP A v with
    | none => LC S T lk
    | some p => LC S T (p :: lk) ∧ p < tQ T ∧ p ∉ lk) (hu : ∀ x, aU A v = some x → x < aN A ∧ ∃ p, aP A x = some p ∧ p < tQ T) :
    (aU A v = none ∧ ∃ S', f_Grw_leave S (nI v) = some (S', -1) ∧ zLike [38] S S') ∨ ∃ x p S' ou', aU A v = some x ∧ aP A x = some p ∧ f_Grw_leave S (nI v) = some (S', nI x) ∧ zLike [37, 38] S S' ∧ OU S' nr ou' ∧ LC S' T lk ∧ chg (fun r => ∃ q, ak T r p = some q) (some x) none ou ou' := by
  have hq := hF.2.2.2.2.2.1
  obtain ⟨r27, r28, r29, r30, r31, r32, r33, r34, r35, r36⟩ := hN
  have e27 : f_Nod_part S (nI v) = oI (aP A v) := by unfold f_Nod_part; rw [r_at_rd, r27, rowOf_rd hv (by omega)]
  have step : ∃ S1, r_set S 38 (f_Nod_part S (nI v)) 0 = S1 ∧ zLike [38] S S1 ∧ LC S1 T lk := by
    rw [e27]
    cases q : aP A v with
    | none => rw [q] at hL; exact ⟨S, by rw [oI_n, r_set_m1], zLike_rf ho, hL⟩
    | some p => rw [q] at hL; obtain ⟨h1, h2, h3⟩ := hL; exact p_lookOff ho h1 h2 h3 hq
  obtain ⟨S1, a1, a2, a3⟩ := step
  unfold f_Grw_leave
  rw [zbind_e, a1, zbind_e]
  have e30 : f_Nod_upper S1 (nI v) = oI (aU A v) := by unfold f_Nod_upper; rw [r_at_rd, a2.1 30 (by decide), r30, rowOf_rd hv (by omega)]
  rw [e30]
  cases q : aU A v with
  | none =>
    left
    rw [oI_n, if_pos rfl]
    exact ⟨rfl, S1, rfl, a2⟩
  | some x =>
    right
    obtain ⟨hx, p, hp, hpQ⟩ := hu x q
    have e27x : f_Nod_part S1 (nI x) = nI p := by unfold f_Nod_part; rw [r_at_rd, a2.1 27 (by decide), r27, rowOf_rd hx (by omega), hp]; rfl
    rw [oI_s, if_neg (nI_m1 (by omega))]
    obtain ⟨S2, ou2, b1, b2, b3, b4⟩ := c_letIn hF a2.2.2 (TRw_like hR a2 (by simp)) hE hne (OU_like hO a2 (by simp)) hob (v := x) (by omega) hpQ e27x
    rw [b1, zob_s]
    exact ⟨x, p, S2, ou2, rfl, hp, rfl, zLike_tr (zLike_mono a2 (by simp)) (zLike_mono b2 (by simp)), b3, LC_like a3 b2 (by simp), b4⟩
end PEN
