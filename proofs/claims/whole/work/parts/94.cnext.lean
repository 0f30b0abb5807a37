-- PURE LAYER: the class's next branch
section PCN
variable {S : zS} {T : Tr} {nr : Nat} {sa : Nat → Nat} {nf : Nat} {fam : Nat → Nat} {bit : Nat → Int64} {np : Nat} {P : Nat → Pt} {nl : Nat} {fl : Nat → Nat × Nat} {ru : Nat → Nat} {ne : Nat} {ep : Nat → Nat} {el : Nat → Int32} {lst al : Nat → List Nat} {nx nk : Nat → Option Nat} {ue : Nat → Nat} {A : Am} {nE nN ou : Nat → Option Nat} {d : Nat} {pf : Nat → Nat}
theorem SF_kind (hF : SF nf fam bit np P nl fl T nr ru sa) {k : Nat} (hk : k < tA T) : ∃ q, q < np ∧ 1 ≤ pK (P q) ∧ pK (P q) ≤ 3 ∧ tH T (tK T k).2.1 = (pK (P q), pS (P q)) := by
  obtain ⟨b1, b2, b3, b4, b5, b6⟩ := hF.2.1.2.2.1 k hk
  exact ⟨_, oc_lt hF.2.1.1 hF.1 (hF.2.2.2.1 _ b1) _ _ _ (Nat.lt_succ_self _) b2 b3, b4.1, b4.2, b5⟩
theorem part_kind (hF : SF nf fam bit np P nl fl T nr ru sa) (hT : TI T P nr sa fam A) {v p : Nat} (hv : v < aN A) (hp : aP A v = some p) : ∃ q, q < np ∧ 1 ≤ pK (P q) ∧ pK (P q) ≤ 3 ∧ tH T p = (pK (P q), pS (P q)) := by
  obtain ⟨r0, k0, e1, e2, e3, e4, e5⟩ := look_inner hT hv hp
  have hs := SI_sx hF.2.2.1 e4.2.1
  rw [← e3]
  exact SF_kind hF (by have := e5.2.1; omega)
/-- the first possible rule asks at the part that a node looks at -/
theorem nu_some (hF : SF nf fam bit np P nl fl T nr ru sa) (hT : TI T P nr sa fam A) {v p : Nat} (hv : v < aN A) (hp : aP A v = some p) : ∃ x, nuR T P (aO A v) p nr x := by
  obtain ⟨r0, k0, e1, e2, e3, e4, e5⟩ := look_inner hT hv hp
  have hs := SI_sx hF.2.2.1 e4.2.1
  have hk : k0 < tA T := by have := e5.2.1; omega
  have hr := (SI_in hF.2.2.1 e4.2.1 hk (SF_ask hF k0 hk).1).mpr ⟨e5.1, e5.2.1⟩
  have := ak_at hF.2.1.2.2.2.1 hk
  rw [hr, e3] at this
  exact ⟨_, r0, _, e4.2.1, e4.2.2.1, this, rfl⟩
theorem ls_few (hF : SF nf fam bit np P nl fl T nr ru sa) {v p : Nat} {ls : List Int32} {os : List (Option Int32)} (h : kidOK T P nr fam A v p ls os) : ls.length ≤ nr := nu_few hF ls (h.2.2.1.imp (fun {a b} hab => fun q => by subst q; exact i32_irr hab)) h.2.2.2.1
theorem c_othersLeft (hF : SF nf fam bit np P nl fl T nr ru sa) (hT : TI T P nr sa fam A) (hn : aN A < 60000) (h : DSC S A d pf nE nN ou nf fam T nr sa ne ep el lst al nx nk ue) {p : Nat} (hp : aP A (pf d) = some p) {ls : List Int32} (hk : kidOK T P nr fam A (pf d) p ls []) (hlast : ∀ w, (aC A (pf d)).getLast? = some w → nE w ≠ none ∧ w < aN A ∧ ∀ e, nE w = some e → e < 65536) : f_Grw_othersLeft S (nI (pf d)) = bI (decide (ls.length < allOf fam (tH T p))) := by
  obtain ⟨ho, hR, h0, hN, hK, hEd, hO, hPt, hOu, hL⟩ := h
  have hv := hPt.2.1
  have hq := hF.2.2.2.2.2.1
  have hnr := hF.2.2.2.2.2.2
  have hpQ := (look_part hF hT hv hp).1
  obtain ⟨q, q1, q2, q3, q4⟩ := part_kind hF hT hv hp
  have hlen := ls_few hF hk
  have hC : (aC A (pf d)).length = ls.length := by
    have := congrArg List.length hk.1
    simpa using this
  obtain ⟨r27, r28, r29, r30, r31, r32, r33, r34, r35, r36⟩ := hN
  have e27 : f_Nod_part S (nI (pf d)) = nI p := by unfold f_Nod_part; rw [r_at_rd, r27, rowOf_rd hv (by omega), hp]; rfl
  have e33 : f_Nod_lastBranch S (nI (pf d)) = oI (aC A (pf d)).getLast? := by unfold f_Nod_lastBranch; rw [r_at_rd, r33, rowOf_rd hv (by omega)]
  have e35 : f_Nod_branches S (nI (pf d)) = nI ls.length := by unfold f_Nod_branches; rw [r_at_rd, r35, rowOf_rd hv (by omega), hC]
  have e13 : f_Par_shape S (nI p) = nI (pK (P q)) := by unfold f_Par_shape; rw [r_at_rd, hR.1, rowOf_rd hpQ (by omega), q4]
  have e14 : f_Par_sort S (nI p) = pS (P q) := by unfold f_Par_sort; rw [r_at_rd, hR.2.1, rowOf_rd hpQ (by omega), q4]
  have body : (if ¬ (f_Par_shape S (nI p)) = 2 then
      if ¬ (f_Par_shape S (nI p)) = 1 then
        (1 : Int32)
      else
        if ¬ (f_Par_sort S (nI p)) = 2 then
          1
        else
          if 256 ≤ (f_Nod_branches S (nI (pf d))) then
            0
          else
            1
    else
      if (f_Fam_tags S (f_Par_sort S (nI p))) ≤ (f_Nod_branches S (nI (pf d))) then
        0
      else
        1) = bI (decide (ls.length < allOf fam (tH T p))) := by
    rw [e13, e14, e35, q4]
    unfold allOf
    have fin : ∀ a : Nat, a < 200000 → (if nI a ≤ nI ls.length then (0 : Int32) else 1) = bI (decide (ls.length < a)) := by
      intro a ha
      by_cases c : ls.length < a
      · rw [if_neg (nI_ge c (by omega)), decide_eq_true c]; rfl
      · rw [if_pos (nI_le (by omega) (by omega)), decide_eq_false c]; rfl
    have one : bI (decide (ls.length < 1000)) = 1 := by rw [decide_eq_true (by omega)]; rfl
    by_cases e2 : pK (P q) = 2
    · obtain ⟨f, t, g1, g2, g3, g4, g5⟩ := (hF.1.2.2.2.2 q q1).2.2.2.2.2.2.2.2.2.2.2.2.2.1 e2
      have hf := hF.1.2.2.1 f g3
      have hfn := hF.1.2.2.2.1
      have etg : f_Fam_tags S (pS (P q)) = nI (fam f) := by unfold f_Fam_tags; rw [g1, r_at_rd, h0, rowOf_rd g3 (by omega)]
      rw [if_neg (by rw [e2]; decide), etg, if_pos (show (pK (P q), pS (P q)).1 = 2 from e2)]
      have ecl : (pK (P q), pS (P q)).2.toNatClampNeg = f := by show (pS (P q)).toNatClampNeg = f; rw [g1, nI_clamp (by omega)]
      rw [ecl]
      exact fin _ (by omega)
    · rw [if_pos (by (simp (disch := omega) only [nI_1, nI_add, Int32.lt_iff_toInt_lt, Int32.le_iff_toInt_le, ← Int32.toInt_inj, nI_toInt, tI_0, tI_1, tI_2, tI_3, tI_4, tI_m1, tI_m2, tI_m3, tI_m4, tI_64, tI_128, tI_255, tI_256, tI_1000, tI_1024, tI_4096, tI_10000, tI_16384, tI_16386, tI_M]; omega)), if_neg (show ¬ (pK (P q), pS (P q)).1 = 2 from e2)]
      by_cases e3 : pK (P q) = 1
      · rw [if_neg (by rw [e3]; decide)]
        by_cases e4 : pS (P q) = 2
        · rw [if_neg (by simp [e4]), if_pos (show (pK (P q), pS (P q)).1 = 1 ∧ (pK (P q), pS (P q)).2 = 2 from ⟨e3, e4⟩)]
          exact fin 256 (by omega)
        · rw [if_pos e4, if_neg (show ¬ ((pK (P q), pS (P q)).1 = 1 ∧ (pK (P q), pS (P q)).2 = 2) from fun y => e4 y.2), one]
      · rw [if_pos (by (simp (disch := omega) only [nI_1, nI_add, Int32.lt_iff_toInt_lt, Int32.le_iff_toInt_le, ← Int32.toInt_inj, nI_toInt, tI_0, tI_1, tI_2, tI_3, tI_4, tI_m1, tI_m2, tI_m3, tI_m4, tI_64, tI_128, tI_255, tI_256, tI_1000, tI_1024, tI_4096, tI_10000, tI_16384, tI_16386, tI_M]; omega)), if_neg (show ¬ ((pK (P q), pS (P q)).1 = 1 ∧ (pK (P q), pS (P q)).2 = 2) from fun y => e3 y.1), one]
  unfold f_Grw_othersLeft
  rw [zbind_e, zbind_e, e27, e33, if_neg (nI_m1 (by omega))]
  cases g : (aC A (pf d)).getLast? with
  | none =>
    rw [oI_n, if_pos rfl]
    exact body
  | some w =>
    obtain ⟨w1, w2, w3⟩ := hlast w g
    have e31 : f_Nod_edge S (nI w) = oI (nE w) := by unfold f_Nod_edge; rw [r_at_rd, r31, rowOf_rd w2 (by omega)]
    rw [oI_s, if_neg (nI_m1 (by omega)), e31]
    cases g2 : nE w with
    | none => exact absurd g2 w1
    | some e =>
      have := w3 e g2
      rw [oI_s, if_pos (nI_m1 (by omega))]
      exact body
theorem kid_last {v p : Nat} {ls : List Int32} {os : List (Option Int32)} (hk : kidOK T P nr fam A v p ls os) : ((aC A v).getLast? = none → ls = [] ∧ os = []) ∧ ∀ w, (aC A v).getLast? = some w → (os = [none] → aL A w = none) ∧ (os = [] → ∃ x, aL A w = some x ∧ ls.getLast? = some x) := by
  have h1 := hk.1
  constructor
  · intro e
    have : aC A v = [] := List.getLast?_eq_none_iff.mp e
    rw [this] at h1
    have h2 : ls.map some ++ os = [] := h1.symm
    obtain ⟨a, b⟩ := List.append_eq_nil_iff.mp h2
    exact ⟨List.map_eq_nil_iff.mp a, b⟩
  · intro w e
    have h2 : ((aC A v).map (aL A)).getLast? = some (aL A w) := by rw [List.getLast?_map, e]; rfl
    rw [h1] at h2
    constructor
    · intro eo
      subst eo
      simp at h2
      exact h2.symm
    · intro eo
      subst eo
      rw [List.append_nil, List.getLast?_map] at h2
      cases g : ls.getLast? with
      | none => rw [g] at h2; cases h2
      | some x =>
        rw [g] at h2
        exact ⟨x, (Option.some.inj h2).symm, rfl⟩
theorem c_nextEdge (hF : SF nf fam bit np P nl fl T nr ru sa) (hE : EI T P ne ep el lst al nx nk ue) (hne : ne < 65536) (hT : TI T P nr sa fam A) (hn : aN A < 60000) (h : DSC S A d pf nE nN ou nf fam T nr sa ne ep el lst al nx nk ue) {p : Nat} (hp : aP A (pf d) = some p) {ls : List Int32} {os : List (Option Int32)} (hk : kidOK T P nr fam A (pf d) p ls os) :
    (os = [none] ∧ f_Grw_nextEdge S (nI (pf d)) = some (-1) ∧ f_Grw_othersLeft S (nI (pf d)) = 0) ∨ (os = [] ∧ ∃ o, f_Grw_nextEdge S (nI (pf d)) = some (oI o) ∧ isNx (nuR T P (aO A (pf d)) p nr) ls.getLast? (o.map el) ∧ (∀ e, o = some e → e < ne ∧ ep e = p) ∧ f_Grw_othersLeft S (nI (pf d)) = bI (decide (ls.length < allOf fam (tH T p)))) := by
  have h' := h
  obtain ⟨ho, hR, h0, hN, hK, hEd, hO, hPt, hOu, hL⟩ := h
  have hv := hPt.2.1
  have hq := hF.2.2.2.2.2.1
  have hob := OuI_bd hOu hPt hn
  have hpQ := (look_part hF hT hv hp).1
  obtain ⟨r27, r28, r29, r30, r31, r32, r33, r34, r35, r36⟩ := hN
  have e27 : f_Nod_part S (nI (pf d)) = nI p := by unfold f_Nod_part; rw [r_at_rd, r27, rowOf_rd hv (by omega), hp]; rfl
  have e33 : f_Nod_lastBranch S (nI (pf d)) = oI (aC A (pf d)).getLast? := by unfold f_Nod_lastBranch; rw [r_at_rd, r33, rowOf_rd hv (by omega)]
  have r17 : S.1 17 = rowOf (tQ T) (fun p => oI (lst p).head?) := hR.2.2.2.2.1
  have r18 : S.1 18 = rowOf ne el := hR.2.2.2.2.2.1
  have r19 : S.1 19 = rowOf ne (fun e => oI (nx e)) := hR.2.2.2.2.2.2.1
  have e17 : f_Par_firstEdge S (nI p) = oI (lst p).head? := by unfold f_Par_firstEdge; rw [r_at_rd, r17, rowOf_rd hpQ (by omega)]
  have e18 : f_Par_edges S = nI ne := by unfold f_Par_edges r_size; rw [r18, rowOf_len]
  have sameNu : ∀ x, nuR T P (fun r => decide (ou r = none)) p nr x ↔ nuR T P (aO A (pf d)) p nr x := fun x => nuR_congr (fun r hr => by
    have := hOu.1 r hr
    cases b : aO A (pf d) r with
    | true => rw [this.mpr b]; rfl
    | false =>
      have : ou r ≠ none := fun e => by rw [this.mp e] at b; cases b
      simp [this])
  obtain ⟨kl1, kl2⟩ := kid_last hk
  cases g : (aC A (pf d)).getLast? with
  | none =>
    obtain ⟨eL, eO⟩ := kl1 g
    subst eL; subst eO
    right
    refine ⟨rfl, ?_⟩
    obtain ⟨o, a1, a2, a3⟩ := c_nextEdge_from hF hR hE hne hO hob hpQ (l1 := []) (l2 := lst p) rfl (last := none) (fun e he => by cases he) (fun e _ l w => by cases w)
    refine ⟨o, ?_, isNx_same a2 (fun y => (sameNu y).symm), a3, c_othersLeft hF hT hn h' hp hk (fun w e => by rw [g] at e; cases e)⟩
    unfold f_Grw_nextEdge
    rw [zbind_e, e33, g, oI_n, if_neg (by simp), zbind_e, zbind_e, e27, e17, e18]
    exact a1
  | some w =>
    have hw := (hK (pf d) hv).2 w (List.mem_of_mem_getLast? g)
    obtain ⟨m1, m2⟩ := hEd w hw.1
    have e31 : f_Nod_edge S (nI w) = oI (nE w) := by unfold f_Nod_edge; rw [r_at_rd, r31, rowOf_rd hw.1 (by omega)]
    obtain ⟨w1, w2⟩ := kl2 w g
    rcases hk.2.1 with eo | eo
    · right
      refine ⟨eo, ?_⟩
      obtain ⟨x, x1, x2⟩ := w2 eo
      rw [x1] at m1
      cases g2 : nE w with
      | none => rw [g2] at m1; cases m1
      | some e =>
        rw [g2] at m1
        have m1 : el e = x := by simpa using m1
        obtain ⟨he, hep⟩ := m2 e g2
        have hep := hep (pf d) p hw.2.2 hp
        have hmem := (hE.1 p hpQ).2.1
        have hpw := (hE.1 p hpQ).2.2
        obtain ⟨l1, l2, hl⟩ := List.append_of_mem ((hmem e).mpr ⟨he, hep⟩)
        rw [hl] at hpw
        have hlk := (hE.1 p hpQ).1
        rw [hl] at hlk
        have p1 := List.pairwise_append.mp hpw
        have p2 := List.pairwise_cons.mp p1.2.1
        obtain ⟨o, a1, a2, a3⟩ := c_nextEdge_from hF hR hE hne hO hob hpQ (l1 := l1 ++ [e]) (l2 := l2) (by rw [hl]; simp) (last := some (el e)) (fun y hy ha => by
          have := ha _ rfl
          rcases List.mem_append.mp hy with z | z
          · exact i32_irr (i32_tr this (p1.2.2 y z e List.mem_cons_self))
          · have : y = e := by simpa using z
            subst this; exact i32_irr (by assumption)) (fun y hy l w => by cases w; exact p2.1 y hy)
        rw [x2, ← m1]
        subst eo
        refine ⟨o, ?_, isNx_same a2 (fun y => (sameNu y).symm), a3, c_othersLeft hF hT hn h' hp hk (fun w' e' => by
          rw [g] at e'; cases e'
          exact ⟨by rw [g2]; simp, hw.1, fun e'' h => by rw [g2] at h; cases h; omega⟩)⟩
        have e19 : f_Par_nextEdge S (nI e) = oI l2.head? := by unfold f_Par_nextEdge; rw [r_at_rd, r19, rowOf_rd he (by omega), lkd_last hlk]
        unfold f_Grw_nextEdge
        rw [zbind_e, e33, g, oI_s, if_pos (nI_m1 (by omega)), zbind_e, e31, g2, oI_s, e19, zbind_e, e18]
        exact a1
    · left
      refine ⟨eo, ?_, ?_⟩
      · have en : nE w = none := by
          have := w1 eo
          rw [this] at m1
          cases g2 : nE w with
          | none => rfl
          | some e => rw [g2] at m1; cases m1
        have e19 : f_Par_nextEdge S (-1) = -1 := by unfold f_Par_nextEdge; rw [r_at_rd, rd_m1]
        unfold f_Grw_nextEdge
        rw [zbind_e, e33, g, oI_s, if_pos (nI_m1 (by omega)), zbind_e, e31, en, oI_n, e19, zbind_e, e18]
        have : zbig = 4294967299 + 1 := by unfold zbig; rfl
        rw [this, f_Grw_nextEdge_L57]
        by_cases z : nI ne ≤ 0
        · rw [if_pos z]
        · rw [if_neg z, if_pos rfl]
      · have en : nE w = none := by
          have := w1 eo
          rw [this] at m1
          cases g2 : nE w with
          | none => rfl
          | some e => rw [g2] at m1; cases m1
        unfold f_Grw_othersLeft
        rw [zbind_e, zbind_e, e27, e33, g, oI_s, if_neg (nI_m1 (by omega)), if_neg (nI_m1 (by omega)), e31, en, oI_n, if_neg (by simp)]
end PCN
