-- PURE LAYER: both grow the tree, step by step
/-- the whole tree stands -/
def FIN (S : zS) (M : zM) (A : Am) (nE nN : Nat → Option Nat) (T : Tr) (P : Nat → Pt) (nr : Nat) (sa : Nat → Nat) (fam : Nat → Nat) (ne : Nat) (ep : Nat → Nat) (el : Nat → Int32) : Prop := TI T P nr sa fam A ∧ (∀ v, v < aN A → doneV T P nr fam A v) ∧ NRw S A nE nN ∧ KI A nN ∧ EdI A nE ne ep el ∧ RS M T P nr A ∧ aN A ≤ 4096 ∧ PRE T P nr fam A
section PGL
variable {T : Tr} {nr : Nat} {sa : Nat → Nat} {nf : Nat} {fam : Nat → Nat} {bit : Nat → Int64} {np : Nat} {P : Nat → Pt} {nl : Nat} {fl : Nat → Nat × Nat} {ru : Nat → Nat} {ne : Nat} {ep : Nat → Nat} {el : Nat → Int32} {lst al : Nat → List Nat} {nx nk : Nat → Option Nat} {ue : Nat → Nat}
/-- what both come to -/
def GEnd (S : zS) (M : zM) (x : Option (zS × Int32)) (y : Option (zM × Int32)) (T : Tr) (P : Nat → Pt) (nr : Nat) (sa : Nat → Nat) (fam : Nat → Nat) (ne : Nat) (ep : Nat → Nat) (el : Nat → Int32) : Prop :=
  ∃ S' M' v, x = some (S', v) ∧ y = some (M', v) ∧ zLike [27, 28, 29, 30, 31, 32, 33, 34, 35, 36, 37, 38] S S' ∧ mLike [24, 26, 27, 28, 29, 30] [23, 25] [7, 8, 9, 10] M M' ∧ ((v = -2 ∧ M'.2.2 7 = M.2.2 7 ∧ ∃ A, TI T P nr sa fam A ∧ PRE T P nr fam A ∧ aN A = 4097) ∨ ∃ A nE nN, v = nI (aN A) ∧ M'.2.2 7 = 1 ∧ FIN S' M' A nE nN T P nr sa fam ne ep el)
theorem GEnd_tr {S S1 : zS} {M M1 : zM} {x : Option (zS × Int32)} {y : Option (zM × Int32)} (h : GEnd S1 M1 x y T P nr sa fam ne ep el) (l : zLike [27, 28, 29, 30, 31, 32, 33, 34, 35, 36, 37, 38] S S1) (k : mLike [24, 26, 27, 28, 29, 30] [23, 25] [8, 9, 10] M M1) : GEnd S M x y T P nr sa fam ne ep el := by
  obtain ⟨S', M', v, h1, h2, h3, h4, h5⟩ := h
  refine ⟨S', M', v, h1, h2, zLike_tr l h3, mLike_tr (mLike_mono k (by simp) (by simp) (by simp)) h4, ?_⟩
  rcases h5 with ⟨a, b, c⟩ | w
  · exact Or.inl ⟨a, by rw [b, k.2.2 7 (by decide)], c⟩
  · exact Or.inr w
theorem c_full {n : Nat} {S : zS} {x w : Nat} (hs : f_Nod_size S = nI 4097) (hx : x < 60000) : f_Grw_make_L40 (n + 1) S (nI x) (nI w) = some (S, -2) := by
  rw [f_Grw_make_L40, hs, if_neg (nI_m1 (by omega)), if_pos (by decide), if_neg (by decide)]
theorem m_full {n : Nat} {M : zM} {d : Nat} (hs : M.2.2 8 = nI 4097) (hd : d < 60000) : f_Mod_grow_L60 (n + 1) M (nI d) = some (M, -2) := by
  rw [f_Mod_grow_L60, hs, if_neg (nI_pos (by omega)), if_pos (by decide), if_neg (by decide)]
theorem kid_done {A : Am} {v p : Nat} {ls : List Int32} {os : List (Option Int32)} (hp : aP A v = some p) (hk : kidOK T P nr fam A v p ls os) (h1 : ∀ y, nuR T P (aO A v) p nr y → y ∈ ls) (h2 : ls.length < allOf fam (tH T p) → os = [none]) : doneV T P nr fam A v := fun p' e => by
  rw [hp] at e; cases e
  exact ⟨ls, os, hk, h1, h2⟩
theorem G_loop (hF : SF nf fam bit np P nl fl T nr ru sa) (hE : EI T P ne ep el lst al nx nk ue) (hne : ne < 65536) : ∀ (Φ n n' w : Nat) (S : zS) (M : zM) (A : Am) (d : Nat) (pf : Nat → Nat) (nE nN ou : Nat → Option Nat), 2 * (4098 - aN A) + d + 1 ≤ Φ → 2 * Φ < n → Φ < n' → w + 2 * Φ < 900000 → aN A ≤ 4096 → TI T P nr sa fam A → DSC S A d pf nE nN ou nf fam T nr sa ne ep el lst al nx nk ue → DSM M A d pf nf fam bit np P nl fl T nr sa → RS M T P nr A → (∀ v, v < aN A → (∀ i, i ≤ d → v ≠ pf i) → doneV T P nr fam A v) → ORD T P nr fam A d pf → GEnd S M (f_Grw_make_L40 n S (nI (pf d)) (nI w)) (f_Mod_grow_L60 n' M (nI d)) T P nr sa fam ne ep el := by
  intro Φ
  induction Φ with
  | zero => intro n n' w S M A d pf nE nN ou h; omega
  | succ Φ ih =>
    intro n n' w S M A d pf nE nN ou hΦ hn hn' hw hA hT hC hM hRS hdone hord
    obtain ⟨n, rfl⟩ : ∃ k, n = k + 1 := ⟨n - 1, by omega⟩
    obtain ⟨n', rfl⟩ : ∃ k, n' = k + 1 := ⟨n' - 1, by omega⟩
    have hq := hF.2.2.2.2.2.1
    have hPt : PTH A d pf := hC.2.2.2.2.2.2.2.1
    have hNR : NRw S A nE nN := hC.2.2.2.1
    have hKI : KI A nN := hC.2.2.2.2.1
    have hv := hPt.2.1
    have hdd := pf_dep hT hPt d (Nat.le_refl _)
    have hdl := aD_le hT (pf d + 1) (pf d) (by omega) hv
    obtain ⟨hMC, hMi, hLM⟩ := hM
    obtain ⟨hPBd, hFOd, p, hp, h24⟩ := hMi d (Nat.le_refl _)
    obtain ⟨hpQ, hpn⟩ := look_part hF hT hv hp
    obtain ⟨r0, k0, e1, e2, e3, e4, e5⟩ := look_inner hT hv hp
    obtain ⟨ls, os, hk⟩ := (hT.2.2.2 (pf d) hv).2 p hp
    have hsz : f_Nod_size S = nI (aN A) := by unfold f_Nod_size r_size; rw [hNR.1, rowOf_len]
    have e27 : f_Nod_part S (nI (pf d)) = nI p := by unfold f_Nod_part; rw [r_at_rd, hNR.1, rowOf_rd hv (by omega), hp]; rfl
    have cont : f_Grw_make_L40 (n + 1) S (nI (pf d)) (nI w) = zob2 (gGoOn S (nI (pf d))) fun S12 v13 => f_Grw_make_L40 n S12 v13 (nI w + 1) := by
      rw [f_Grw_make_L40, hsz, if_neg (nI_m1 (by omega)), if_neg (show ¬ (4096 : Int32) < nI (aN A) by (simp (disch := omega) only [nI_1, nI_add, Int32.lt_iff_toInt_lt, Int32.le_iff_toInt_le, ← Int32.toInt_inj, nI_toInt, tI_0, tI_1, tI_2, tI_3, tI_4, tI_m1, tI_m2, tI_m3, tI_m4, tI_64, tI_128, tI_255, tI_256, tI_1000, tI_1024, tI_4096, tI_10000, tI_16384, tI_16386, tI_M]; omega)), if_neg (show ¬ (1000000 : Int32) ≤ nI w by (simp (disch := omega) only [nI_1, nI_add, Int32.lt_iff_toInt_lt, Int32.le_iff_toInt_le, ← Int32.toInt_inj, nI_toInt, tI_0, tI_1, tI_2, tI_3, tI_4, tI_m1, tI_m2, tI_m3, tI_m4, tI_64, tI_128, tI_255, tI_256, tI_1000, tI_1024, tI_4096, tI_10000, tI_16384, tI_16386, tI_M]; omega))]
      exact goOn_k (fun q => absurd q (by rw [e27]; exact nI_m1 (by omega))) (fun S12 v13 => f_Grw_make_L40 n S12 v13 (nI w + 1))
    have contM : f_Mod_grow_L60 (n' + 1) M (nI d) = zob2 (f_Mod_goOn M (nI d)) fun S16 v17 =>
        if v17 = 0 then
          m_rd 4097 (S16.1 24) (nI d) fun v19 =>
          m_wr 16386 v19 (m_set S16 27 (Int32.toNatClampNeg v19) (vp_nar .boolean 0)) fun S20 =>
          f_Mod_grow_L60 n' S20 (nI d + (-1))
        else
          zob2 (f_Mod_enter S16 (nI d + 1)) fun S21 v22 =>
          if v22 = 0 then
            f_Mod_grow_L60 n' S21 (nI d)
          else
            zbind (nI d + 1) fun v24 =>
            f_Mod_grow_L60 n' S21 v24 := by
      rw [f_Mod_grow_L60, hRS.1, if_neg (nI_pos (by omega)), if_neg (show ¬ (4096 : Int32) < nI (aN A) by (simp (disch := omega) only [nI_1, nI_add, Int32.lt_iff_toInt_lt, Int32.le_iff_toInt_le, ← Int32.toInt_inj, nI_toInt, tI_0, tI_1, tI_2, tI_3, tI_4, tI_m1, tI_m2, tI_m3, tI_m4, tI_64, tI_128, tI_255, tI_256, tI_1000, tI_1024, tI_4096, tI_10000, tI_16384, tI_16386, tI_M]; omega))]
    rw [cont, contM]
    have goOn1 : gGoOn S (nI (pf d)) = zob (f_Grw_nextEdge S (nI (pf d))) fun v2 =>
        if ¬ v2 = (-1) then
          zob (f_Grw_ruleOut S (nI (pf d)) v2) fun S4 =>
          zob2 (gEnter S4 (nI (pf d)) v2) fun S5 v6 =>
          some (S5, v6)
        else
          if ¬ (f_Grw_othersLeft S (nI (pf d))) = 0 then
            zob (f_Grw_ruleOut S (nI (pf d)) v2) fun S8 =>
            zob2 (gEnter S8 (nI (pf d)) v2) fun S9 v10 =>
            some (S9, v10)
          else
            zob2 (f_Grw_leave S (nI (pf d))) fun S11 v12 =>
            some (S11, v12) := by
      unfold gGoOn
      rw [e27, if_pos (nI_m1 (by omega))]
    -- POP: both leave the node
    have popB : doneV T P nr fam A (pf d) → gGoOn S (nI (pf d)) = (zob2 (f_Grw_leave S (nI (pf d))) fun S11 v12 => some (S11, v12)) → ∀ M1, mLike [26] [25] [] M M1 → (∀ i, i ≠ d → M1.1 26 i = M.1 26 i ∧ M1.2.1 25 i = M.2.1 25 i) → f_Mod_goOn M (nI d) = some (M1, 0) → GEnd S M (zob2 (gGoOn S (nI (pf d))) fun S12 v13 => f_Grw_make_L40 n S12 v13 (nI w + 1)) (zob2 (f_Mod_goOn M (nI d)) fun S16 v17 =>
        if v17 = 0 then
          m_rd 4097 (S16.1 24) (nI d) fun v19 =>
          m_wr 16386 v19 (m_set S16 27 (Int32.toNatClampNeg v19) (vp_nar .boolean 0)) fun S20 =>
          f_Mod_grow_L60 n' S20 (nI d + (-1))
        else
          zob2 (f_Mod_enter S16 (nI d + 1)) fun S21 v22 =>
          if v22 = 0 then
            f_Mod_grow_L60 n' S21 (nI d)
          else
            zbind (nI d + 1) fun v24 =>
            f_Mod_grow_L60 n' S21 v24) T P nr sa fam ne ep el := by
      intro hd gC M1 l1 l1i gM
      have v0 : vp_nar .boolean 0 = 0 := rfl
      rw [gC, gM, zob2_s, if_pos rfl, m_rd_n (by omega) (by omega), l1.1 24 (by decide), h24, m_wr_n (by omega) (by omega), nI_clamp (by omega), v0]
      generalize hM2 : m_set M1 27 p 0 = M2
      have l2 : mLike [26, 27] [25] [] M M2 := by
        rw [← hM2]
        exact mLike_tr (mLike_mono l1 (by simp) (by simp) (by simp)) (mLike_mono mLike_set (by simp) (by simp) (by simp))
      rcases C_pop hF hE hne hT (by omega) hC with ⟨d0, S', c1, c2⟩ | ⟨d', S', ou', dd, c1, c2, c3⟩
      · subst d0
        rw [c1, zob2_s, zob2_s]
        obtain ⟨n, rfl⟩ : ∃ k, n = k + 1 := ⟨n - 1, by omega⟩
        obtain ⟨n', rfl⟩ : ∃ k, n' = k + 1 := ⟨n' - 1, by omega⟩
        have hsz' : f_Nod_size S' = nI (aN A) := by
          unfold f_Nod_size r_size
          rw [c2.1 27 (by decide), hNR.1, rowOf_len]
        have s8 : M2.2.2 8 = nI (aN A) := by rw [l2.2.2 8 (by simp)]; exact hRS.1
        have cC : f_Grw_make_L40 (n + 1) S' (-1) (nI w + 1) = some (S', nI (aN A)) := by
          rw [f_Grw_make_L40, if_pos rfl, hsz', if_pos (show nI (aN A) ≤ (4096 : Int32) by (simp (disch := omega) only [nI_1, nI_add, Int32.lt_iff_toInt_lt, Int32.le_iff_toInt_le, ← Int32.toInt_inj, nI_toInt, tI_0, tI_1, tI_2, tI_3, tI_4, tI_m1, tI_m2, tI_m3, tI_m4, tI_64, tI_128, tI_255, tI_256, tI_1000, tI_1024, tI_4096, tI_10000, tI_16384, tI_16386, tI_M]; omega))]
        have cM : f_Mod_grow_L60 (n' + 1) M2 (nI 0 + (-1)) = some (m_sc M2 7 1, nI (aN A)) := by
          rw [f_Mod_grow_L60, if_pos (by decide), s8, if_pos (show nI (aN A) ≤ (4096 : Int32) by (simp (disch := omega) only [nI_1, nI_add, Int32.lt_iff_toInt_lt, Int32.le_iff_toInt_le, ← Int32.toInt_inj, nI_toInt, tI_0, tI_1, tI_2, tI_3, tI_4, tI_m1, tI_m2, tI_m3, tI_m4, tI_64, tI_128, tI_255, tI_256, tI_1000, tI_1024, tI_4096, tI_10000, tI_16384, tI_16386, tI_M]; omega)), zbind_e, m_sc_ne (by decide), s8]
        rw [cC, cM]
        have allDone : ∀ v, v < aN A → doneV T P nr fam A v := fun v hv' => by
          by_cases z : v = pf 0
          · rw [z]; exact hd
          · exact hdone v hv' (fun i hi => by
              have hi0 : i = 0 := by omega
              rw [hi0]; exact z)
        refine ⟨S', m_sc M2 7 1, nI (aN A), rfl, rfl, zLike_mono c2 (by simp), mLike_tr (mLike_mono l2 (by simp) (by simp) (by simp)) (mLike_mono mLike_sc (by simp) (by simp) (by simp)), Or.inr ⟨A, nE, nN, rfl, m_sc_at, hT, allDone, ?_, hKI, hC.2.2.2.2.2.1, ?_, hA, hord.2⟩⟩
        · obtain ⟨g27, g28, g29, g30, g31, g32, g33, g34, g35, g36⟩ := hNR
          exact ⟨by rw [c2.1 27 (by decide)]; exact g27, by rw [c2.1 28 (by decide)]; exact g28, by rw [c2.1 29 (by decide)]; exact g29, by rw [c2.1 30 (by decide)]; exact g30, by rw [c2.1 31 (by decide)]; exact g31, by rw [c2.1 32 (by decide)]; exact g32, by rw [c2.1 33 (by decide)]; exact g33, by rw [c2.1 34 (by decide)]; exact g34, by rw [c2.1 35 (by decide)]; exact g35, by rw [c2.1 36 (by decide)]; exact g36⟩
        · obtain ⟨s1, s2, s3, s4⟩ := hRS
          refine ⟨by rw [m_sc_ne (by decide)]; exact s8, fun o ho => by rw [m_sc_1, l2.1 28 (by decide)]; exact s2 o ho, by rw [m_sc_ne (by decide), l2.2.2 9 (by simp)]; exact s3, ?_⟩
          unfold MSS missW at s4 ⊢
          rw [m_sc_ne (by decide), m_sc_1, l2.2.2 10 (by simp), l2.1 29 (by decide), l2.1 30 (by decide)]
          exact s4
      · subst dd
        rw [c1, zob2_s, zob2_s, pk_m1, nI_1]
        refine GEnd_tr (S1 := S') (M1 := M2) ?_ (zLike_mono c2 (by simp)) (mLike_mono l2 (by simp) (by simp) (by simp))
        refine ih n n' (w + 1) S' M2 A d' pf nE nN ou' (by omega) (by omega) (by omega) (by omega) hA hT c3 ⟨MC_like hMC l2 (by simp) (by simp) (by simp), fun i hi => ?_, ?_⟩ ?_ (fun v hv' hvi => ?_) (ORD_less hord (by omega) (fun _ _ => rfl))
        · obtain ⟨b1, b2, b3⟩ := hMi i (by omega)
          refine ⟨PB_like b1 l2 (by simp), ?_, ?_⟩
          · unfold FO at b2 ⊢
            have q26 : M2.1 26 i = M.1 26 i := by rw [← hM2, m_set_ne (by decide)]; exact (l1i i (by omega)).1
            have q25 : M2.2.1 25 i = M.2.1 25 i := by rw [← hM2]; exact (l1i i (by omega)).2
            rw [q26, q25]; exact b2
          · rw [l2.1 24 (by decide)]; exact b3
        · -- looked at
          obtain ⟨q1, q2, q3⟩ := hPt.2.2 d' (by omega)
          obtain ⟨u, pp, g1, g2, g3, g4, g5, g6, g7⟩ := hT.2.1 (pf (d' + 1)) (by omega) hv
          rw [q1] at g2; cases g2
          obtain ⟨r1, k1, f1, f2, f3, f4, f5⟩ := look_inner hT (show pf d' < aN A by omega) g3
          rw [f2, curL_s, f3, ← g5]
          rw [e2, curL_s, e3] at hLM
          intro x hx
          rw [← hM2, m_set_at, l1.1 27 (by decide)]
          by_cases z : x = p
          · subst z; rw [upd_s]; simp [hpn, bI]
          · rw [upd_n z, hLM x hx]; simp [z]
        · obtain ⟨s1, s2, s3, s4⟩ := hRS
          refine ⟨by rw [l2.2.2 8 (by simp)]; exact s1, fun o ho => by rw [l2.1 28 (by decide)]; exact s2 o ho, by rw [l2.2.2 9 (by simp)]; exact s3, ?_⟩
          unfold MSS missW at s4 ⊢
          rw [l2.2.2 10 (by simp), l2.1 29 (by decide), l2.1 30 (by decide)]
          exact s4
        · by_cases z : v = pf (d' + 1)
          · rw [z]; exact hd
          · refine hdone v hv' (fun i hi => ?_)
            by_cases y : i = d' + 1
            · rw [y]; exact z
            · exact hvi i (by omega)
    -- PUSH: both make a branch
    have pushB : os = [] → ∀ (tk : Option Nat) (o : Option Int32), tk.map el = o → (∀ e, tk = some e → e < ne ∧ ep e = p) → isNx (nuR T P (aO A (pf d)) p nr) ls.getLast? o → (o = none → ls.length < allOf fam (tH T p)) → gGoOn S (nI (pf d)) = (zob (f_Grw_ruleOut S (nI (pf d)) (oI tk)) fun S4 => zob2 (gEnter S4 (nI (pf d)) (oI tk)) fun S5 v6 => some (S5, v6)) → ∀ M1, f_Mod_goOn M (nI d) = some (M1, 1) → mLike [26] [23, 25] [] M M1 → M1.1 26 d = bI (decide (o = none)) → M1.2.1 25 d = nxI o → (∀ i, i ≠ d → M1.1 26 i = M.1 26 i ∧ M1.2.1 25 i = M.2.1 25 i) → (∀ d' po', d' ≠ d + 1 → PB M d' nr po' → PB M1 d' nr po') → PB M1 (d + 1) nr (nar T P (aO A (pf d)) p o) → GEnd S M (zob2 (gGoOn S (nI (pf d))) fun S12 v13 => f_Grw_make_L40 n S12 v13 (nI w + 1)) (zob2 (f_Mod_goOn M (nI d)) fun S16 v17 =>
        if v17 = 0 then
          m_rd 4097 (S16.1 24) (nI d) fun v19 =>
          m_wr 16386 v19 (m_set S16 27 (Int32.toNatClampNeg v19) (vp_nar .boolean 0)) fun S20 =>
          f_Mod_grow_L60 n' S20 (nI d + (-1))
        else
          zob2 (f_Mod_enter S16 (nI d + 1)) fun S21 v22 =>
          if v22 = 0 then
            f_Mod_grow_L60 n' S21 (nI d)
          else
            zbind (nI d + 1) fun v24 =>
            f_Mod_grow_L60 n' S21 v24) T P nr sa fam ne ep el := by
      intro eo tk o etk htk hnx hall gC M1 gM l1 q26 q25 l1i lpb hPB1
      subst eo; subst etk
      obtain ⟨S1, S2, nN', ou1, R, K, c1, c2, c3, c4, c5, c6, c7, c8⟩ := C_push hF hE hne hT (by omega) hC hp htk
      rw [gC, gM, c1, zob_s, c2, zob2_s, zob2_s, zob2_s, if_neg (by decide), nI_1, nI_1]
      -- the reference enters
      have hMC1 := MC_like hMC l1 (by simp) (by simp) (by simp)
      have hLM1 : LM M1 T (p :: aW A (pf d)) := by
        rw [e2, curL_s, e3] at hLM
        intro x hx
        rw [l1.1 27 (by decide)]; exact hLM x hx
      obtain ⟨R', K', m1, m2, m3, m4⟩ := p_menter hF hMC1 (D := d + 1) (N := aN A) (by omega) (by rw [l1.2.2 8 (by simp)]; exact hRS.1) (by omega) hPB1 hLM1
      have hRR : R = R' := fP1_one (fP1_congr c5 c4) m1
      subst hRR
      have hKK : K = K' := by
        cases R with
        | none => rw [c6 rfl, m2 rfl]
        | some r => exact fA_one (c7 r rfl) (m3 r rfl)
      subst hKK
      obtain ⟨nx1, nx2⟩ := isNx_ls hk.2.2.1 hk.2.2.2.2.1 hnx
      obtain ⟨hT', hkv, hdn⟩ := TI_add (lk := p :: aW A (pf d)) hT hv hp hk (lab := tk.map el) nx1 (fun e => ⟨nx2 e, hall e⟩) c4 rfl c5 c6 c7 (fun y hy x hx => ((hKI y hy).2 x hx).1)
      have hord' := ORD_push (lab := tk.map el) (po := fun r => decide (ou1 r = none)) (lk := p :: aW A (pf d)) (R := R) (K := K) hT hPt hKI hord hdone hdn
      generalize hA' : amAdd T A (some (pf d)) (tk.map el) (fun r => decide (ou1 r = none)) (p :: aW A (pf d)) R K = A' at *
      have nA' : aN A' = aN A + 1 := by rw [← hA']; rfl
      have hsz2 : f_Nod_size S2 = nI (aN A + 1) := by unfold f_Nod_size r_size; rw [c8.2.2.2.1.1, rowOf_len, nA']
      have hpf1 : va_up pf (d + 1) (aN A) (d + 1) = aN A := va_s
      have doneOld : ∀ v, v < aN A → (∀ i, i ≤ d → v ≠ pf i) → doneV T P nr fam A' v := fun v hv' hvi => hdn v hv' (hvi d (Nat.le_refl _)) (hdone v hv' hvi)
      -- the way, as the reference sees it
      have way : ∀ M2 : zM, mLike [24, 26, 27, 28, 29, 30] [25] [8, 9, 10] M1 M2 → (∀ i, i ≤ d → M2.1 24 i = M1.1 24 i ∧ M2.1 26 i = M1.1 26 i ∧ M2.2.1 25 i = M1.2.1 25 i) → ∀ i, i ≤ d → PB M2 i nr (aO A' (pf i)) ∧ FO M2 A' (pf i) i ∧ ∃ pp, aP A' (pf i) = some pp ∧ M2.1 24 i = nI pp := by
        intro M2 lk2 hsame i hi
        obtain ⟨b1, b2, pp, b3, b4⟩ := hMi i hi
        have hin := PTH_n hPt hi
        obtain ⟨s1, s2, s3⟩ := hsame i hi
        have eO : aO A' (pf i) = aO A (pf i) := by rw [← hA']; exact am_O hin
        have eP : aP A' (pf i) = aP A (pf i) := by rw [← hA']; exact am_P hin
        refine ⟨?_, ?_, pp, by rw [eP]; exact b3, by rw [s1, l1.1 24 (by decide)]; exact b4⟩
        · rw [eO]; exact PB_like (lpb i _ (by omega) b1) lk2 (by simp)
        · unfold FO
          rw [s2, s3]
          by_cases z : i = d
          · subst z
            have eC : aC A' (pf i) = aC A (pf i) ++ [aN A] := by rw [← hA']; exact am_Cv
            rw [eC]
            refine ⟨fun y => by simp at y, fun w' hw' => ?_⟩
            have : aN A = w' := by simpa using hw'
            subst this
            have eL : aL A' (aN A) = tk.map el := by rw [← hA']; exact am_Ln
            rw [eL]; exact ⟨q25, q26⟩
          · have hne' : pf i ≠ pf d := by have := PTH_lt hPt d (Nat.le_refl _) i (by omega); omega
            have eC : aC A' (pf i) = aC A (pf i) := by rw [← hA']; exact am_C hin hne'
            rw [eC, (l1i i z).1, (l1i i z).2]
            refine ⟨b2.1, fun w' hw' => ?_⟩
            have hw2 := ((hKI (pf i) hin).2 w' (List.mem_of_mem_getLast? hw')).1
            have eL : aL A' w' = aL A w' := by rw [← hA']; exact am_L hw2
            rw [eL]; exact b2.2 w' hw'
      have lAll : zLike [27, 28, 29, 30, 31, 32, 33, 34, 35, 36, 37, 38] S S2 := c3
      rcases m4 with ⟨ek, me⟩ | ⟨k, M2, ek, me, ml, m8, m24, m26, m25, mi, mL⟩
      · -- an end
        subst ek
        rw [me]
        have hRb : ∀ r, R = some r → r < nr := fun r e => by rw [e] at c5; exact c5.2.1
        have hpl : ∀ i, i ≤ d → PB (m_sc M1 8 (nI (aN A + 1))) i nr (aO A (pf i)) ∧ (∃ pp, aP A (pf i) = some pp ∧ (m_sc M1 8 (nI (aN A + 1))).1 24 i = nI pp) ∧ (m_sc M1 8 (nI (aN A + 1))).2.1 25 i = nxI (if i = d then tk.map el else aL A (pf (i + 1))) ∧ (m_sc M1 8 (nI (aN A + 1))).1 26 i = bI (decide ((if i = d then tk.map el else aL A (pf (i + 1))) = none)) := by
          intro i hi
          obtain ⟨b1, b2, pp, b3, b4⟩ := hMi i hi
          refine ⟨PB_like (lpb i _ (by omega) b1) mLike_sc (by simp), ⟨pp, b3, by rw [m_sc_1, l1.1 24 (by decide)]; exact b4⟩, ?_, ?_⟩
          · show M1.2.1 25 i = _
            by_cases z : i = d
            · rw [if_pos z, z]; exact q25
            · rw [if_neg z, (l1i i z).2]
              exact (b2.2 (pf (i + 1)) (hPt.2.2 i (by omega)).2.1).1
          · show M1.1 26 i = _
            by_cases z : i = d
            · rw [if_pos z, z]; exact q26
            · rw [if_neg z, (l1i i z).1]
              exact (b2.2 (pf (i + 1)) (hPt.2.2 i (by omega)).2.1).2
        obtain ⟨M3, f1, f2, f3⟩ := RS_end (po := fun r => decide (ou1 r = none)) (lk := p :: aW A (pf d)) (R := R) (lab := tk.map el) (M1 := m_sc M1 8 (nI (aN A + 1))) hF hT hPt (MC_like hMC1 mLike_sc (by simp) (by simp) (by simp)) hA hRS hRb (fun k hk' => by
          rw [m_sc_1]
          rcases hk' with y | y | y <;> subst y <;> exact l1.1 _ (by decide)) m_sc_at (by rw [m_sc_ne (by decide), l1.2.2 9 (by simp)]) (by rw [m_sc_ne (by decide), l1.2.2 10 (by simp)]) hpl
        rw [hA'] at f3
        rw [f1, zob_s, zob2_s, if_pos rfl]
        have lM3 : mLike [24, 26, 27, 28, 29, 30] [25] [8, 9, 10] M1 M3 := mLike_tr (mLike_mono mLike_sc (by simp) (by simp) (by simp)) (mLike_mono f2 (by simp) (by simp) (by simp))
        have lM3' : mLike [24, 26, 27, 28, 29, 30] [23, 25] [8, 9, 10] M M3 := mLike_tr (mLike_mono l1 (by simp) (by simp) (by simp)) (mLike_mono lM3 (by simp) (by simp) (by simp))
        obtain ⟨n, rfl⟩ : ∃ k, n = k + 1 := ⟨n - 1, by omega⟩
        by_cases hfull : aN A = 4096
        · obtain ⟨n', rfl⟩ : ∃ k, n' = k + 1 := ⟨n' - 1, by omega⟩
          rw [c_full (by rw [hsz2, hfull]) (by omega), m_full (by rw [f3.1, nA', hfull]) (by omega)]
          exact ⟨S2, M3, -2, rfl, rfl, lAll, mLike_mono lM3' (by simp) (by simp) (by simp), Or.inl ⟨rfl, by rw [lM3'.2.2 7 (by decide)], A', hT', hord'.2, by omega⟩⟩
        · -- the class leaves the end at once
          have pE : aP A' (aN A) = none := by rw [← hA']; exact am_Pn
          have e27' : f_Nod_part S2 (nI (aN A)) = -1 := by unfold f_Nod_part; rw [r_at_rd, c8.2.2.2.1.1, rowOf_rd (by omega) (by omega), pE]; rfl
          have cE : aC A' (aN A) = [] := by rw [← hA']; exact am_Cn hv
          have e33' : f_Nod_lastBranch S2 (nI (aN A)) = -1 := by unfold f_Nod_lastBranch; rw [r_at_rd, c8.2.2.2.1.2.2.2.2.2.2.1, rowOf_rd (by omega) (by omega), cE]; rfl
          have cont2 : f_Grw_make_L40 (n + 1) S2 (nI (aN A)) (nI (w + 1)) = zob2 (f_Grw_leave S2 (nI (aN A))) fun S12 v13 => f_Grw_make_L40 n S12 v13 (nI (w + 1) + 1) := by
            have : gGoOn S2 (nI (aN A)) = (zob2 (f_Grw_leave S2 (nI (aN A))) fun S13 v14 => some (S13, v14)) := by
              unfold gGoOn
              rw [e27', if_neg (by simp)]
            rw [f_Grw_make_L40, hsz2, if_neg (nI_m1 (by omega)), if_neg (show ¬ (4096 : Int32) < nI (aN A + 1) by (simp (disch := omega) only [nI_1, nI_add, Int32.lt_iff_toInt_lt, Int32.le_iff_toInt_le, ← Int32.toInt_inj, nI_toInt, tI_0, tI_1, tI_2, tI_3, tI_4, tI_m1, tI_m2, tI_m3, tI_m4, tI_64, tI_128, tI_255, tI_256, tI_1000, tI_1024, tI_4096, tI_10000, tI_16384, tI_16386, tI_M]; omega)), if_neg (show ¬ (1000000 : Int32) ≤ nI (w + 1) by (simp (disch := omega) only [nI_1, nI_add, Int32.lt_iff_toInt_lt, Int32.le_iff_toInt_le, ← Int32.toInt_inj, nI_toInt, tI_0, tI_1, tI_2, tI_3, tI_4, tI_m1, tI_m2, tI_m3, tI_m4, tI_64, tI_128, tI_255, tI_256, tI_1000, tI_1024, tI_4096, tI_10000, tI_16384, tI_16386, tI_M]; omega))]
            have h := goOn_k (S := S2) (x := nI (aN A)) (fun _ => e33') (fun S12 v13 => f_Grw_make_L40 n S12 v13 (nI (w + 1) + 1))
            rw [this, zob2_id] at h
            exact h
          rw [cont2]
          have hpop := C_pop hF hE hne hT' (by omega) c8
          rw [hpf1] at hpop
          rcases hpop with ⟨d0, _⟩ | ⟨d', S3, ou3, dd, g1, g2, g3⟩
          · omega
          · have : d' = d := by omega
            subst this
            rw [va_n (show d' ≠ d' + 1 by omega)] at g1
            rw [g1, zob2_s, nI_1]
            have hDSC : DSC S3 A' d' pf (va_up nE (aN A) tk) nN' ou3 nf fam T nr sa ne ep el lst al nx nk ue := by
              obtain ⟨z1, z2, z3, z4, z5, z6, z7, z8, z9, z10⟩ := g3
              have ef : ∀ i, i ≤ d' → va_up pf (d' + 1) (aN A) i = pf i := fun i hi => va_n (by omega)
              refine ⟨z1, z2, z3, z4, z5, z6, z7, ⟨by rw [← ef 0 (by omega)]; exact z8.1, by rw [← ef d' (by omega)]; exact z8.2.1, fun i hi => ?_⟩, ⟨fun r hr => ?_, fun i hi r hr => ?_, fun r hr v hv' => ?_⟩, ?_⟩
              · have := z8.2.2 i hi
                rw [ef i (by omega), ef (i + 1) (by omega)] at this
                exact this
              · have := z9.1 r hr
                rw [ef d' (by omega)] at this
                exact this
              · have := z9.2.1 i hi r hr
                rw [ef i (by omega), ef (i + 1) (by omega)] at this
                exact this
              · obtain ⟨j, j1, j2⟩ := z9.2.2 r hr v hv'
                rw [ef j (by omega)] at j2
                exact ⟨j, j1, j2⟩
              · rw [ef d' (by omega)] at z10; exact z10
            refine GEnd_tr (S1 := S3) (M1 := M3) ?_ (zLike_tr lAll (zLike_mono g2 (by simp))) lM3'
            refine ih n n' (w + 1 + 1) S3 M3 A' d' pf _ nN' ou3 (by omega) (by omega) (by omega) (by omega) (by omega) hT' hDSC ⟨MC_like (MC_like hMC1 mLike_sc (by simp) (by simp) (by simp)) f2 (by simp) (by simp) (by simp), way M3 lM3 (fun i hi => ⟨by rw [f2.1 24 (by decide)]; rfl, by rw [f2.1 26 (by decide)]; rfl, by rw [f2.2.1 25 (by simp)]; rfl⟩), ?_⟩ f3 (fun v hv' hvi => ?_) (ORD_less hord' (by omega) (fun i hi => (va_n (by omega)).symm))
            · have eW : aW A' (pf d') = aW A (pf d') := by rw [← hA']; exact am_W hv
              have eK : aK A' (pf d') = aK A (pf d') := by rw [← hA']; exact am_K hv
              rw [eW, eK, e2, curL_s, e3]
              intro x hx
              rw [f2.1 27 (by decide)]; exact hLM1 x hx
            · rw [nA'] at hv'
              by_cases z : v = aN A
              · intro p' e'; rw [z, pE] at e'; cases e'
              · exact doneOld v (by omega) hvi
      · -- an inner node
        subst ek
        rw [me, zob2_s, if_neg (by decide), zbind_e]
        have lM2 : mLike [24, 26, 27, 28, 29, 30] [25] [8, 9, 10] M1 M2 := mLike_mono ml (by simp) (by simp) (by simp)
        have lM2' : mLike [24, 26, 27, 28, 29, 30] [23, 25] [8, 9, 10] M M2 := mLike_tr (mLike_mono l1 (by simp) (by simp) (by simp)) (mLike_mono lM2 (by simp) (by simp) (by simp))
        have hRS' : RS M2 T P nr A' := by
          rw [← hA']
          exact RS_inner hRS m8 (by rw [ml.1 28 (by decide), l1.1 28 (by decide)]) (by rw [ml.2.2 9 (by decide), l1.2.2 9 (by simp)]) (by rw [ml.2.2 10 (by decide), l1.2.2 10 (by simp)]) (by rw [ml.1 29 (by decide), l1.1 29 (by decide)]) (by rw [ml.1 30 (by decide), l1.1 30 (by decide)])
        by_cases hfull : aN A = 4096
        · obtain ⟨n, rfl⟩ : ∃ k, n = k + 1 := ⟨n - 1, by omega⟩
          obtain ⟨n', rfl⟩ : ∃ k, n' = k + 1 := ⟨n' - 1, by omega⟩
          rw [c_full (by rw [hsz2, hfull]) (by omega), m_full (by rw [m8, hfull]) (by omega)]
          exact ⟨S2, M2, -2, rfl, rfl, lAll, mLike_mono lM2' (by simp) (by simp) (by simp), Or.inl ⟨rfl, by rw [lM2'.2.2 7 (by decide)], A', hT', hord'.2, by omega⟩⟩
        · refine GEnd_tr (S1 := S2) (M1 := M2) ?_ lAll lM2'
          have := ih n n' (w + 1) S2 M2 A' (d + 1) (va_up pf (d + 1) (aN A)) _ nN' ou1 (by omega) (by omega) (by omega) (by omega) (by omega) hT' c8 ⟨MC_like hMC1 lM2 (by simp) (by simp) (by simp), fun i hi => ?_, ?_⟩ hRS' (fun v hv' hvi => ?_) hord'
          · rw [hpf1] at this
            exact this
          · by_cases z : i = d + 1
            · subst z
              rw [hpf1]
              have eO : aO A' (aN A) = fun r => decide (ou1 r = none) := by rw [← hA']; exact am_On
              have eP : aP A' (aN A) = some (tK T k).2.1 := by rw [← hA']; exact am_Pn
              have eC : aC A' (aN A) = [] := by rw [← hA']; exact am_Cn hv
              refine ⟨?_, ?_, (tK T k).2.1, eP, m24⟩
              · rw [eO]
                exact PB_congr (PB_like hPB1 ml (by simp)) (fun r hr => (c4 r hr).symm)
              · unfold FO
                rw [eC]
                exact ⟨fun _ => ⟨m25, m26⟩, (by intro w' hw'; cases hw')⟩
            · rw [va_n z]
              exact way M2 lM2 (fun i hi => mi i (by omega)) i (by omega)
          · rw [hpf1]
            have eW : aW A' (aN A) = p :: aW A (pf d) := by rw [← hA']; exact am_Wn
            have eK : aK A' (aN A) = some k := by rw [← hA']; exact am_Kn
            rw [eW, eK, curL_s]
            exact mL
          · rw [nA'] at hv'
            have hvn : v ≠ aN A := fun e => hvi (d + 1) (Nat.le_refl _) (by rw [va_s]; exact e)
            exact doneOld v (by omega) (fun i hi e => hvi i (by omega) (by rw [va_n (by omega)]; exact e))
    -- which of both it is
    have hne0 := nu_some hF hT hv hp
    have hgo := p_mgoOn hF hMC (show d < 4096 by omega) hPBd hpQ h24 hne0 hk.2.2.1 hk.2.2.2.1 hk.2.2.2.2.1
    obtain ⟨kl1, kl2⟩ := kid_last hk
    rcases c_nextEdge hF hE hne hT (by omega) hC hp hk with ⟨eo, g1, g2⟩ | ⟨eo, o, g1, g2, g3, g4⟩
    · -- all others have been
      have hM26 : M.1 26 d ≠ 0 := by
        cases gl : (aC A (pf d)).getLast? with
        | none => have := (kl1 gl).2; rw [eo] at this; cases this
        | some w' =>
          have h1 := (hFOd.2 w' gl).2
          rw [(kl2 w' gl).1 eo] at h1
          rw [h1]; decide
      refine popB (kid_done hp hk (hk.2.2.2.2.2 eo).1 (fun _ => eo)) ?_ M mLike_rf (fun _ _ => ⟨rfl, rfl⟩) (hgo.1 hM26)
      rw [goOn1, g1, zob_s, if_neg (by simp), g2, if_neg (by simp)]
    · have hM26 : M.1 26 d = 0 ∧ M.2.1 25 d = lastI ls.getLast? := by
        cases gl : (aC A (pf d)).getLast? with
        | none =>
          have h1 := hFOd.1 gl
          rw [(kl1 gl).1]
          exact ⟨h1.2, h1.1⟩
        | some w' =>
          obtain ⟨x, x1, x2⟩ := (kl2 w' gl).2 eo
          have h1 := hFOd.2 w' gl
          rw [x1] at h1
          rw [x2]
          exact ⟨by rw [h1.2]; rfl, h1.1⟩
      obtain ⟨o', j1, j2⟩ := hgo.2 hM26.1 hM26.2
      have ho : o.map el = o' := isNx_one g2 j1
      rcases j2 with ⟨y1, y2, M1, y3, y4, y5⟩ | ⟨y1, M1, y2, y3, y4, y5, y6, y7, y8⟩
      · have on : o = none := by
          cases o with
          | none => rfl
          | some e => rw [y1] at ho; cases ho
        subst on
        refine popB (kid_done hp hk ((isNx_ls hk.2.2.1 hk.2.2.2.2.1 j1).2 y1) (fun h => absurd h y2)) ?_ M1 y4 y5 y3
        rw [goOn1, g1, zob_s, oI_n, if_neg (by simp), g4, decide_eq_false y2, if_neg (by decide)]
      · refine pushB eo o o' ho g3 j1 y1 ?_ M1 y2 y3 y4 y5 y6 y7 y8
        rw [goOn1, g1, zob_s]
        cases o with
        | none =>
          have hlt := y1 ho.symm
          rw [oI_n, if_neg (by simp), g4, decide_eq_true hlt, if_pos (by decide)]
        | some e =>
          have := g3 e rfl
          rw [if_pos (by rw [oI_s]; exact nI_m1 (by omega))]
end PGL
