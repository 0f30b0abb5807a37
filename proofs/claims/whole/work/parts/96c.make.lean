-- PURE LAYER: grow, from its start
def A0 : Am := (0, fun _ => none, fun _ => none, fun _ => none, fun _ => none, fun _ => none, fun _ => [], fun _ => 0, fun _ _ => false, fun _ => [])
section PMK2
variable {S : zS} {M : zM} {T : Tr} {nr : Nat} {sa : Nat → Nat} {nf : Nat} {fam : Nat → Nat} {bit : Nat → Int64} {np : Nat} {P : Nat → Pt} {nl : Nat} {fl : Nat → Nat × Nat} {ru : Nat → Nat} {ne : Nat} {ep : Nat → Nat} {el : Nat → Int32} {lst al : Nat → List Nat} {nx nk : Nat → Option Nat} {ue : Nat → Nat}
theorem p_nodEmpty (ho : okS S) : ∃ S', f_Nod_empty S = S' ∧ zLike [27, 28, 29, 30, 31, 32, 33, 34, 35, 36] S S' ∧ NRw S' A0 (fun _ => none) (fun _ => none) := by
  obtain ⟨S1, e1, l1, r1⟩ := zEmp (S := S) (k := 27) ho
  obtain ⟨S2, e2, l2, r2⟩ := zEmp (S := S1) (k := 28) l1.2.2
  obtain ⟨S3, e3, l3, r3⟩ := zEmp (S := S2) (k := 29) l2.2.2
  obtain ⟨S4, e4, l4, r4⟩ := zEmp (S := S3) (k := 30) l3.2.2
  obtain ⟨S5, e5, l5, r5⟩ := zEmp (S := S4) (k := 31) l4.2.2
  obtain ⟨S6, e6, l6, r6⟩ := zEmp (S := S5) (k := 32) l5.2.2
  obtain ⟨S7, e7, l7, r7⟩ := zEmp (S := S6) (k := 33) l6.2.2
  obtain ⟨S8, e8, l8, r8⟩ := zEmp (S := S7) (k := 34) l7.2.2
  obtain ⟨S9, e9, l9, r9⟩ := zEmp (S := S8) (k := 35) l8.2.2
  obtain ⟨Sa, ea, la, ra⟩ := zEmp (S := S9) (k := 36) l9.2.2
  refine ⟨Sa, ?_, ⟨fun k hk => ?_, by rw [la.2.1, l9.2.1, l8.2.1, l7.2.1, l6.2.1, l5.2.1, l4.2.1, l3.2.1, l2.2.1, l1.2.1], la.2.2⟩, ?_⟩
  · unfold f_Nod_empty
    simp only [zbind_e, e1, e2, e3, e4, e5, e6, e7, e8, e9, ea]
  · have hk' : k ≠ 27 ∧ k ≠ 28 ∧ k ≠ 29 ∧ k ≠ 30 ∧ k ≠ 31 ∧ k ≠ 32 ∧ k ≠ 33 ∧ k ≠ 34 ∧ k ≠ 35 ∧ k ≠ 36 := by simpa using hk
    rw [la.1 k (by simp; omega), l9.1 k (by simp; omega), l8.1 k (by simp; omega), l7.1 k (by simp; omega), l6.1 k (by simp; omega), l5.1 k (by simp; omega), l4.1 k (by simp; omega), l3.1 k (by simp; omega), l2.1 k (by simp; omega), l1.1 k (by simp; omega)]
  · refine ⟨?_, ?_, ?_, ?_, ?_, ?_, ?_, ?_, ?_, ?_⟩
    · rw [la.1 27 (by decide), l9.1 27 (by decide), l8.1 27 (by decide), l7.1 27 (by decide), l6.1 27 (by decide), l5.1 27 (by decide), l4.1 27 (by decide), l3.1 27 (by decide), l2.1 27 (by decide), r1]; rfl
    · rw [la.1 28 (by decide), l9.1 28 (by decide), l8.1 28 (by decide), l7.1 28 (by decide), l6.1 28 (by decide), l5.1 28 (by decide), l4.1 28 (by decide), l3.1 28 (by decide), r2]; rfl
    · rw [la.1 29 (by decide), l9.1 29 (by decide), l8.1 29 (by decide), l7.1 29 (by decide), l6.1 29 (by decide), l5.1 29 (by decide), l4.1 29 (by decide), r3]; rfl
    · rw [la.1 30 (by decide), l9.1 30 (by decide), l8.1 30 (by decide), l7.1 30 (by decide), l6.1 30 (by decide), l5.1 30 (by decide), r4]; rfl
    · rw [la.1 31 (by decide), l9.1 31 (by decide), l8.1 31 (by decide), l7.1 31 (by decide), l6.1 31 (by decide), r5]; rfl
    · rw [la.1 32 (by decide), l9.1 32 (by decide), l8.1 32 (by decide), l7.1 32 (by decide), r6]; rfl
    · rw [la.1 33 (by decide), l9.1 33 (by decide), l8.1 33 (by decide), r7]; rfl
    · rw [la.1 34 (by decide), l9.1 34 (by decide), r8]; rfl
    · rw [la.1 35 (by decide), r9]; rfl
    · rw [ra]; rfl
/-- the tree of the root alone -/
theorem TI_0 {po : Nat → Bool} {R K : Option Nat} (hpo : ∀ r, r < nr → po r = true) (h1 : fP1 po nr 0 R) (h2 : R = none → K = none) (h3 : ∀ r, R = some r → fA T [] (sa r) (sx T nr sa r) K) : TI T P nr sa fam (amAdd T A0 none none po [] R K) := by
  have one : ∀ v, v < aN (amAdd T A0 none none po [] R K) → v = 0 := fun v hv => by
    have hv : v < 0 + 1 := hv
    omega
  refine ⟨⟨Nat.le_refl _, rfl, rfl, rfl, fun r hr => hpo r hr⟩, fun v h1 h2 => ?_, fun v hv => ?_, fun v hv => ?_⟩
  · have := one v h2; omega
  · have := one v hv
    subst this
    exact ⟨h1, h2, h3, rfl⟩
  · have := one v hv
    subst this
    exact ⟨fun _ => rfl, fun p _ => ⟨[], [], rfl, Or.inl rfl, List.Pairwise.nil, (by intro x hx; cases hx), (by intro y _ _ x hx; cases hx), (by intro e; cases e)⟩⟩
theorem p_grow22 : ∀ n i M, i ≤ 1025 → 1025 - i < n → (∀ j, j < i → M.1 28 j = 0) → ∃ M', f_Mod_grow_L22 n M (nI i) = (zob (f_Mod_start M') fun S6 => zob2 (f_Mod_enter S6 0) fun S7 v8 => if v8 = 0 then f_Mod_grow_L60 zbig S7 (-1) else f_Mod_grow_L60 zbig S7 0) ∧ mLike [28] [] [] M M' ∧ ∀ j, j < 1025 → M'.1 28 j = 0 := by
  intro n
  induction n with
  | zero => intro i M _ h; omega
  | succ n ih =>
    intro i M hi hlt hd
    unfold f_Mod_grow_L22
    by_cases c : i = 1025
    · rw [if_pos (by rw [c]; decide)]
      exact ⟨M, rfl, mLike_rf, fun j hj => hd j (by omega)⟩
    · rw [if_neg (by (simp (disch := omega) only [nI_1, nI_add, Int32.lt_iff_toInt_lt, Int32.le_iff_toInt_le, ← Int32.toInt_inj, nI_toInt, tI_0, tI_1, tI_2, tI_3, tI_4, tI_m1, tI_m2, tI_m3, tI_m4, tI_64, tI_128, tI_255, tI_256, tI_1000, tI_1024, tI_4096, tI_10000, tI_16384, tI_16386, tI_M]; omega)), m_wr_n (by omega) (by omega), nI_clamp (by omega), nI_1]
      obtain ⟨M', e1, e2, e3⟩ := ih (i + 1) (m_set M 28 i 0) (by omega) (by omega) (fun j hj => by
        rw [m_set_at]
        by_cases w : j = i
        · subst w; rw [upd_s]
        · rw [upd_n w]; exact hd j (by omega))
      exact ⟨M', e1, mLike_tr mLike_set e2, e3⟩
theorem G_make (hF : SF nf fam bit np P nl fl T nr ru sa) (hE : EI T P ne ep el lst al nx nk ue) (hne : ne < 65536) (ho : okS S) (hR : TRw S T nr sa ne ep el lst al nx nk ue) (h0 : S.1 0 = rowOf nf (fun i => nI (fam i))) (hM : MC M nf fam bit np P nl fl T nr sa) :
    ∃ S' M' v, f_Grw_make S (nI nr) = some (S', v) ∧ f_Mod_grow M = some (M', v) ∧ zLike [27, 28, 29, 30, 31, 32, 33, 34, 35, 36, 37, 38] S S' ∧ mLike [24, 26, 27, 28, 29, 30] [23, 25] [7, 8, 9, 10] M M' ∧ ((v = -2 ∧ M'.2.2 7 = 0 ∧ ∃ A, TI T P nr sa fam A ∧ PRE T P nr fam A ∧ aN A = 4097) ∨ ∃ A nE nN, v = nI (aN A) ∧ M'.2.2 7 = 1 ∧ FIN S' M' A nE nN T P nr sa fam ne ep el) := by
  have hq := hF.2.2.2.2.2.1
  have hnr := hF.2.2.2.2.2.2
  -- the class
  obtain ⟨S1, a1, a2, a3⟩ := zFill (S := S) (k := 37) (n := nr) (-1) ho (by decide) (by omega)
  have sz : f_Par_size S1 = nI (tQ T) := by unfold f_Par_size r_size; rw [a2.1 13 (by decide), hR.1, rowOf_len]
  obtain ⟨S2, b1, b2, b3⟩ := zFill (S := S1) (k := 38) (n := tQ T) 0 a2.2.2 (by decide) (by omega)
  obtain ⟨S3, c1, c2, c3⟩ := p_nodEmpty b2.2.2
  have l3 : zLike [27, 28, 29, 30, 31, 32, 33, 34, 35, 36, 37, 38] S S3 := zLike_tr (zLike_mono a2 (by simp)) (zLike_tr (zLike_mono b2 (by simp)) (zLike_mono c2 (by simp)))
  have hO3 : OU S3 nr (fun _ => none) := by unfold OU; rw [c2.1 37 (by decide), b2.1 37 (by decide), a3]; rfl
  have hL3 : LC S3 T [] := by unfold LC; rw [c2.1 38 (by decide), b3]; exact rowOf_congr (fun i hi => by simp [bI])
  have hR3 := TRw_like hR l3 (by simp)
  have hK0 : KI A0 (fun _ => none) := fun v hv => by
    have hv : v < 0 := hv
    omega
  obtain ⟨S4, nN', R, K, d1, d2, d3, d4, d5, d6, d7, d8⟩ := c_enter hF l3.2.2 hR3 hO3 (fun r v _ e => by cases e) hL3 c3 hK0 (by decide) none none none (fun x e => by cases e)
  have l4 : zLike [27, 28, 29, 30, 31, 32, 33, 34, 35, 36, 37, 38] S S4 := zLike_tr l3 (zLike_mono d2 (by simp))
  have hT : TI T P nr sa fam (amAdd T A0 none none (fun r => decide ((fun _ => (none : Option Nat)) r = none)) [] R K) := TI_0 (fun r _ => rfl) d6 d7 d8
  have emake : f_Grw_make S (nI nr) = f_Grw_make_L40 zbig S4 (nI 0) (nI 0) := by
    have d1' : gEnter S3 (-1) (-1) = some (S4, nI 0) := d1
    unfold f_Grw_make
    rw [zbind_e, a1, zbind_e, sz, b1, zbind_e, c1, enter_e, ruleOut_root, zob_s, d1', zob2_s]
    rfl
  -- the reference
  generalize hMa : m_sc (m_sc (m_sc (m_sc M 7 0) 8 0) 9 0) 10 (-1) = Ma
  have la : mLike [] [] [7, 8, 9, 10] M Ma := by
    rw [← hMa]
    refine ⟨fun _ _ => rfl, fun _ _ => rfl, fun k hk => ?_⟩
    have : k ≠ 7 ∧ k ≠ 8 ∧ k ≠ 9 ∧ k ≠ 10 := by simpa using hk
    rw [m_sc_ne this.2.2.2, m_sc_ne this.2.2.1, m_sc_ne this.2.1, m_sc_ne this.1]
  have a7 : Ma.2.2 7 = 0 := by rw [← hMa]; rfl
  have a8 : Ma.2.2 8 = 0 := by rw [← hMa]; rfl
  have a9 : Ma.2.2 9 = 0 := by rw [← hMa]; rfl
  have a10 : Ma.2.2 10 = -1 := by rw [← hMa]; rfl
  obtain ⟨Mb, e1, e2, e3⟩ := p_grow22 zbig 0 Ma (by omega) (by unfold zbig; omega) (fun j hj => by omega)
  have hMb := MC_like (MC_like hM la (by simp) (by simp) (by simp)) e2 (by simp) (by simp) (by simp)
  obtain ⟨Mc, f1, f2, f3, f4⟩ := p_start hF hMb
  have hMc := MC_like hMb f2 (by simp) (by simp) (by simp)
  have lc : mLike [27, 28] [23] [] Ma Mc := mLike_tr (mLike_mono e2 (by simp) (by simp) (by simp)) (mLike_mono f2 (by simp) (by simp) (by simp))
  obtain ⟨R', K', m1, m2, m3, m4⟩ := p_menter hF hMc (D := 0) (N := 0) (by decide) (by rw [lc.2.2 8 (by simp)]; exact a8) (by decide) f4 f3
  have hRR : R = R' := fP1_one (fP1_congr d6 (fun r _ => rfl)) m1
  subst hRR
  have hKK : K = K' := by
    cases R with
    | none => rw [d7 rfl, m2 rfl]
    | some r => exact fA_one (d8 r rfl) (m3 r rfl)
  subst hKK
  have egrow : f_Mod_grow M = (zob2 (f_Mod_enter Mc 0) fun S7 v8 => if v8 = 0 then f_Mod_grow_L60 zbig S7 (-1) else f_Mod_grow_L60 zbig S7 0) := by
    unfold f_Mod_grow
    rw [zbind_e, zbind_e, zbind_e, zbind_e, hMa, show f_Mod_grow_L22 zbig Ma 0 = _ from e1, f1, zob_s]
  rw [emake, egrow]
  generalize hA : amAdd T A0 none none (fun r => decide ((fun _ => (none : Option Nat)) r = none)) [] R K = A at *
  have nA : aN A = 1 := by rw [← hA]; rfl
  have eU : aU A 0 = none := by rw [← hA]; rfl
  have eP : aP A 0 = K.map (fun k => (tK T k).2.1) := by rw [← hA]; rfl
  have eR : aR A 0 = R := by rw [← hA]; rfl
  have eK : aK A 0 = K := by rw [← hA]; rfl
  have eW : aW A 0 = [] := by rw [← hA]; rfl
  have eC : aC A 0 = [] := by rw [← hA]; rfl
  have eO : ∀ r, aO A 0 r = true := by intro r; rw [← hA]; rfl
  have eL : aL A 0 = none := by rw [← hA]; rfl
  have eD : aD A 0 = 0 := by rw [← hA]; rfl
  have z0 : ∀ v, v < aN A → v = 0 := fun v hv => by omega
  have hEd : EdI A (va_up (fun _ => (none : Option Nat)) (aN A0) none) ne ep el := fun v hv => by
    have := z0 v hv
    subst this
    rw [eL]
    exact ⟨rfl, (by intro e he; cases he)⟩
  have hDSC : DSC S4 A 0 (fun _ => 0) (va_up (fun _ => (none : Option Nat)) (aN A0) none) nN' (fun _ => none) nf fam T nr sa ne ep el lst al nx nk ue := by
    refine ⟨d2.2.2, TRw_like hR3 d2 (by simp), by rw [l4.1 0 (by decide)]; exact h0, d3, d4, hEd, OU_like hO3 d2 (by simp), ⟨rfl, by show 0 < aN A; omega, fun i hi => by omega⟩, ⟨fun r hr => ⟨fun _ => eO r, fun _ => rfl⟩, fun i hi => by omega, fun r _ v e => by cases e⟩, ?_⟩
    rw [eW, eK]; exact d5
  have lMall : mLike [24, 26, 27, 28, 29, 30] [23, 25] [7, 8, 9, 10] M Mc := mLike_tr (mLike_mono la (by simp) (by simp) (by simp)) (mLike_mono lc (by simp) (by simp) (by simp))
  rcases m4 with ⟨ek, me⟩ | ⟨k, M2, ek, me, ml, m8, m24, m26, m25, mi, mL⟩
  · -- the root is an end
    subst ek
    have hRb : ∀ r, R = some r → r < nr := fun r e => by rw [e] at d6; exact d6.2.1
    have l8 : mLike [] [] [8] Mc (m_sc Mc 8 (nI (0 + 1))) := mLike_sc
    obtain ⟨M3, g1, g2, g3, g4, g5, g6, g7⟩ := p_end hF (MC_like hMc l8 (by simp) (by simp) (by simp)) (D := 0) (by decide) (po := fun _ _ => true) (pl := fun _ => 0) (fun i hi => by omega) hRb (mx := 0) (by rw [m_sc_ne (by decide), lc.2.2 9 (by simp)]; exact a9) (by decide) (ms := none) (by rw [m_sc_ne (by decide), lc.2.2 10 (by simp)]; exact a10) (fun x e => by cases e)
    rw [show f_Mod_enter Mc 0 = _ from me, show f_Mod_end (m_sc Mc 8 (nI (0 + 1))) (oI R) (nI 0) = some M3 from g1, zob_s, zob2_s, if_pos rfl]
    have hz : zbig = 4294967298 + 1 + 1 := by unfold zbig; rfl
    have eP0 : aP A 0 = none := eP
    have e27 : f_Nod_part S4 (nI 0) = -1 := by unfold f_Nod_part; rw [r_at_rd, d3.1, rowOf_rd (by omega) (by omega), eP0]; rfl
    have hsz : f_Nod_size S4 = nI 1 := by unfold f_Nod_size r_size; rw [d3.1, rowOf_len, nA]
    rcases C_pop hF hE hne hT (by omega) hDSC with ⟨_, S5, c1, c2⟩ | ⟨d', S5, ou5, dd, _⟩
    · have cC : f_Grw_make_L40 zbig S4 (nI 0) (nI 0) = some (S5, nI 1) := by
        have hsz5 : f_Nod_size S5 = nI 1 := by unfold f_Nod_size r_size; rw [c2.1 27 (by decide), d3.1, rowOf_len, nA]
        have e33 : f_Nod_lastBranch S4 (nI 0) = -1 := by unfold f_Nod_lastBranch; rw [r_at_rd, d3.2.2.2.2.2.2.1, rowOf_rd (by omega) (by omega), eC]; rfl
        have : gGoOn S4 (nI 0) = some (S5, -1) := by
          unfold gGoOn
          rw [e27, if_neg (by simp), c1, zob2_s]
        rw [hz, f_Grw_make_L40, hsz, if_neg (by decide), if_neg (by decide), if_neg (by decide)]
        have h := goOn_k (S := S4) (x := nI 0) (fun _ => e33) (fun S12 v13 => f_Grw_make_L40 (4294967298 + 1) S12 v13 (nI 0 + 1))
        rw [this, zob2_s] at h
        refine h.trans ?_
        rw [f_Grw_make_L40, if_pos rfl, hsz5, if_pos (by decide)]
      have s8 : M3.2.2 8 = nI 1 := by rw [g2.2.2 8 (by decide)]; exact m_sc_at
      have cM : f_Mod_grow_L60 zbig M3 (-1) = some (m_sc M3 7 1, nI 1) := by
        rw [hz, f_Mod_grow_L60, if_pos (by decide), s8, if_pos (by decide), zbind_e, m_sc_ne (by decide), s8]
      have lM3 : mLike [28, 29, 30] [] [8, 9, 10] Mc M3 := mLike_tr (mLike_mono l8 (by simp) (by simp) (by simp)) (mLike_mono g2 (by simp) (by simp) (by simp))
      refine ⟨S5, m_sc M3 7 1, nI 1, cC, cM, zLike_tr l4 (zLike_mono c2 (by simp)), mLike_tr lMall (mLike_tr (mLike_mono lM3 (by simp) (by simp) (by simp)) (mLike_mono mLike_sc (by simp) (by simp) (by simp))), Or.inr ⟨A, va_up (fun _ => (none : Option Nat)) (aN A0) none, nN', by rw [nA], m_sc_at, hT, fun v hv p' e' => ?_, ?_, d4, hEd, ?_, by omega, (ORD_0 (d := 0) (pf := fun _ => 0) nA eU eC eL).2⟩⟩
      · rw [z0 v hv, eP0] at e'; cases e'
      · obtain ⟨g27, g28, g29, g30, g31, g32, g33, g34, g35, g36⟩ := d3
        exact ⟨by rw [c2.1 27 (by decide)]; exact g27, by rw [c2.1 28 (by decide)]; exact g28, by rw [c2.1 29 (by decide)]; exact g29, by rw [c2.1 30 (by decide)]; exact g30, by rw [c2.1 31 (by decide)]; exact g31, by rw [c2.1 32 (by decide)]; exact g32, by rw [c2.1 33 (by decide)]; exact g33, by rw [c2.1 34 (by decide)]; exact g34, by rw [c2.1 35 (by decide)]; exact g35, by rw [c2.1 36 (by decide)]; exact g36⟩
      · have q28 : ∀ j, j < 1025 → (m_sc Mc 8 (nI (0 + 1))).1 28 j = 0 := fun j hj => by rw [m_sc_1, f2.1 28 (by decide)]; exact e3 j hj
        have hcnt : ∀ o, cnt A o (aN A) = if R = o then 1 else 0 := fun o => by
          rw [nA]
          show 0 + (if aP A 0 = none ∧ aR A 0 = o then 1 else 0) = _
          rw [eP0, eR]; simp
        refine ⟨by rw [m_sc_ne (by decide), nA]; exact s8, fun o hob => ?_, ?_, ?_⟩
        · rw [m_sc_1, hcnt o]
          have hidx : ∀ o : Option Nat, (∀ r, o = some r → r < nr) → idx o < 1025 := fun o h => by
            cases o with
            | none => show 0 < 1025; omega
            | some r => have := h r rfl; show r + 1 < 1025; omega
          by_cases c : R = o
          · subst c
            rw [g3, q28 _ (hidx R hob), if_pos rfl]; rfl
          · have : idx o ≠ idx R := by
              cases o with
              | none => cases R with
                | none => exact absurd rfl c
                | some r => show 0 ≠ r + 1; omega
              | some x => cases R with
                | none => show x + 1 ≠ 0; omega
                | some r =>
                  show x + 1 ≠ r + 1
                  intro e
                  exact c (by rw [show x = r by omega])
            rw [g4 _ this, q28 _ (hidx o hob), if_neg c]; rfl
        · rw [m_sc_ne (by decide), g5, nA]
          show nI (max 0 0) = nI (if aP A 0 = none then max 0 (aD A 0) else 0)
          rw [eP0, if_pos rfl, eD]
        · unfold MSS
          rw [m_sc_ne (by decide)]
          cases R with
          | none =>
            right
            refine ⟨0, fun _ => 0, by omega, ⟨eP0, eR⟩, fun v hv => by omega, ?_, ?_, fun i hi => ?_⟩
            · rw [eD]; exact (g7 rfl rfl).1
            · rfl
            · rw [eD] at hi; omega
          | some r =>
            left
            refine ⟨fun v hv hm => ?_, ?_⟩
            · rw [z0 v hv] at hm
              have := hm.2
              rw [eR] at this; cases this
            · rw [(g6 (Or.inl (by simp))).1, m_sc_ne (by decide), lc.2.2 10 (by simp)]; exact a10
    · omega
  · -- the root is an inner node
    subst ek
    rw [show f_Mod_enter Mc 0 = some (M2, 1) from me, zob2_s, if_neg (by decide)]
    have eP0 : aP A 0 = some (tK T k).2.1 := eP
    have hDSM : DSM M2 A 0 (fun _ => 0) nf fam bit np P nl fl T nr sa := by
      refine ⟨MC_like hMc ml (by simp) (by simp) (by simp), fun i hi => ?_, ?_⟩
      · have : i = 0 := by omega
        subst this
        refine ⟨PB_congr (PB_like f4 ml (by simp)) (fun r _ => (eO r).symm), ?_, _, eP0, m24⟩
        unfold FO
        show ((aC A 0).getLast? = none → _) ∧ ∀ w, (aC A 0).getLast? = some w → _
        rw [eC]
        exact ⟨fun _ => ⟨m25, m26⟩, (by intro w' hw'; cases hw')⟩
      · show LM M2 T (curL T (aW A 0) (aK A 0))
        rw [eW, eK, curL_s]; exact mL
    have hRS : RS M2 T P nr A := by
      have q28 : ∀ j, j < 1025 → M2.1 28 j = 0 := fun j hj => by rw [ml.1 28 (by decide), f2.1 28 (by decide)]; exact e3 j hj
      refine ⟨by rw [m8, nA], fun o hob => ?_, ?_, Or.inl ⟨fun v hv hm => ?_, ?_⟩⟩
      · have hidx : idx o < 1025 := by
          cases o with
          | none => show 0 < 1025; omega
          | some r => have := hob r rfl; show r + 1 < 1025; omega
        rw [q28 _ hidx, nA]
        show 0 = nI (0 + (if aP A 0 = none ∧ aR A 0 = o then 1 else 0))
        rw [eP0, if_neg (by simp)]; rfl
      · rw [ml.2.2 9 (by decide), lc.2.2 9 (by simp), a9, nA]
        show 0 = nI (if aP A 0 = none then max 0 (aD A 0) else 0)
        rw [eP0, if_neg (by simp)]; rfl
      · rw [z0 v hv] at hm
        have := hm.1
        rw [eP0] at this; cases this
      · rw [ml.2.2 10 (by decide), lc.2.2 10 (by simp)]; exact a10
    have key := G_loop hF hE hne 10000 zbig zbig 0 S4 M2 A 0 (fun _ => 0) (va_up (fun _ => (none : Option Nat)) (aN A0) none) nN' (fun _ => none) (by omega) (by unfold zbig; omega) (by unfold zbig; omega) (by omega) (by omega) hT hDSC hDSM hRS (fun v hv hvi => absurd (z0 v hv) (hvi 0 (Nat.le_refl _))) (ORD_0 nA eU eC eL)
    obtain ⟨S5, M5, v, k1, k2, k3, k4, k5⟩ := key
    refine ⟨S5, M5, v, k1, k2, zLike_tr l4 k3, mLike_tr lMall (mLike_tr (mLike_mono ml (by simp) (by simp) (by simp)) k4), ?_⟩
    rcases k5 with ⟨y1, y2, y3⟩ | y
    · left
      refine ⟨y1, ?_, y3⟩
      rw [y2, ml.2.2 7 (by decide), lc.2.2 7 (by simp)]; exact a7
    · exact Or.inr y
end PMK2
