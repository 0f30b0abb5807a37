-- PURE LAYER: the call rule
/-- both hold the same rules and parts -/
def RR (n : Nat) (S : zS) (M : zM) (np : Nat) (P : Nat → Pt) (fl : Nat → Nat × Nat) (nr : Nat) (ru : Nat → Nat) (T : Tr) (sa : Nat → Nat) (W : Nat) : Prop :=
  nr ≤ n ∧ RC S nr ru ∧ RM M nr ru ∧ (∀ r, r < nr → ru r < np) ∧ (∀ i j, i < j → j < nr → TG P fl (ru i) (ru j)) ∧ S.2.2.1 0 = nI W ∧ M.2.2 5 = nI W ∧ W ≤ 16384 ∧ TC S T P nr sa ∧ TMo M T nr sa ∧ GI P fl T nr ru ∧ SI T nr sa ∧ tQ T ≤ 1 + W ∧ tA T ≤ W ∧ (nr = 0 ∨ sa 0 = 0) ∧ EP P fl T nr ru
section PRU
variable {n : Nat} {S : zS} {M : zM} {nf : Nat} {fam : Nat → Nat} {bit : Nat → Int64} {np : Nat} {P : Nat → Pt} {nl : Nat} {fl : Nat → Nat × Nat} {m : Nat} {ps : Nat → Nat × Nat} {nr : Nat} {ru : Nat → Nat} {T : Tr} {sa : Nat → Nat} {W : Nat}
theorem TC_same {S' : zS} (h : TC S T P nr sa) (e : ∀ k, 13 ≤ k → k ≤ 25 → S'.1 k = S.1 k) : TC S' T P nr sa := by
  obtain ⟨ne, ep, el, lst, al, nx, nk, ue, h1, h2, h3⟩ := h
  refine ⟨ne, ep, el, lst, al, nx, nk, ue, ?_, h2, h3⟩
  unfold TRw at h1 ⊢
  rw [e 13 (by omega) (by omega), e 14 (by omega) (by omega), e 15 (by omega) (by omega), e 16 (by omega) (by omega), e 17 (by omega) (by omega), e 18 (by omega) (by omega), e 19 (by omega) (by omega), e 20 (by omega) (by omega), e 21 (by omega) (by omega), e 22 (by omega) (by omega), e 23 (by omega) (by omega), e 24 (by omega) (by omega), e 25 (by omega) (by omega)]
  exact h1
/-- scratch alone has changed -/
theorem RR_like {n' : Nat} {S' : zS} {M' : zM} (h : RR n S M np P fl nr ru T sa W) (hn : n ≤ n') (h1 : ∀ k, 12 ≤ k → k ≤ 25 → S'.1 k = S.1 k) (h2 : S'.2.2.1 0 = S.2.2.1 0) (h3 : ∀ k, 13 ≤ k → k ≤ 22 → M'.1 k = M.1 k) (h4 : M'.2.1 19 = M.2.1 19) (h5 : ∀ k, 4 ≤ k → k ≤ 6 → M'.2.2 k = M.2.2 k) : RR n' S' M' np P fl nr ru T sa W := by
  obtain ⟨a1, a2, a3, a4, a5, a6, a7, a8, a9, a10, a11, a12, a13, a14, a15, a16⟩ := h
  refine ⟨by omega, ?_, ?_, a4, a5, by rw [h2]; exact a6, by rw [h5 5 (by omega) (by omega)]; exact a7, a8, TC_same a9 (fun k q1 q2 => h1 k (by omega) q2), ?_, a11, a12, a13, a14, a15, a16⟩
  · unfold RC; rw [h1 12 (by omega) (by omega)]; exact a2
  · unfold RM; rw [h5 4 (by omega) (by omega), h3 13 (by omega) (by omega)]; exact a3
  · obtain ⟨bl, nb, a⟩ := a10
    refine ⟨bl, nb, ?_⟩
    rw [h3 14 (by omega) (by omega), h3 15 (by omega) (by omega), h3 16 (by omega) (by omega), h3 17 (by omega) (by omega), h3 18 (by omega) (by omega), h3 20 (by omega) (by omega), h3 21 (by omega) (by omega), h3 22 (by omega) (by omega), h4, h5 6 (by omega) (by omega)]
    exact a
def ruleTail (M : zM) (x1 : Int32) : Option (zM × Int32) :=
  if (M.2.2 4) = 1024 then
    some (M, (-2))
  else
    m_rd 16384 (M.1 7) x1 fun v5 =>
    if ((M.2.2 5) + v5) ≤ 16384 then
      zbind (m_sc M 7 0) fun S7 =>
      m_wr 1024 (S7.2.2 4) (m_set S7 13 (Int32.toNatClampNeg (S7.2.2 4)) x1) fun S8 =>
      m_rd 16384 (S8.1 7) x1 fun v9 =>
      zbind (m_sc S8 5 ((S8.2.2 5) + v9)) fun S10 =>
      m_rd 1025 (S10.1 14) (S10.2.2 4) fun v11 =>
      m_wr 1025 ((S10.2.2 4) + 1) (m_set S10 14 (Int32.toNatClampNeg ((S10.2.2 4) + 1)) v11) fun S12 =>
      zbind (m_sc S12 11 0) fun S13 =>
      zob (f_Mod_pair S13 x1 0) fun S14 =>
      f_Mod_rule_L135 zbig S14
    else
      some (M, (-2))
theorem p_mrule_L8a (x : Int32) : ∀ n i M, M.2.2 4 = nI nr → nr ≤ 1024 → i ≤ nr → nr - i < n → f_Mod_rule_L8 n M x 0 (nI i) = some (M, -1) := by
  intro n i M h4 hn hi hlt
  cases n with
  | zero => omega
  | succ n =>
    unfold f_Mod_rule_L8
    rw [h4]
    by_cases c : i = nr
    · rw [if_pos (by (simp (disch := omega) only [nI_1, nI_add, Int32.lt_iff_toInt_lt, Int32.le_iff_toInt_le, ← Int32.toInt_inj, nI_toInt, tI_0, tI_1, tI_2, tI_3, tI_4, tI_m1, tI_m2, tI_m3, tI_m4, tI_64, tI_128, tI_255, tI_256, tI_1000, tI_1024, tI_4096, tI_10000, tI_16384, tI_16386, tI_M]; omega)), if_neg (by decide)]
    · rw [if_neg (by (simp (disch := omega) only [nI_1, nI_add, Int32.lt_iff_toInt_lt, Int32.le_iff_toInt_le, ← Int32.toInt_inj, nI_toInt, tI_0, tI_1, tI_2, tI_3, tI_4, tI_m1, tI_m2, tI_m3, tI_m4, tI_64, tI_128, tI_255, tI_256, tI_1000, tI_1024, tI_4096, tI_10000, tI_16384, tI_16386, tI_M]; omega)), if_pos rfl, if_neg (by decide)]
theorem p_mrule_L8 (hW : PWF nf fam bit np P nl fl) {a : Nat} (ha : a < np) (hru : ∀ r, r < nr → ru r < np) (hnr : nr ≤ 1024) : ∀ n i M, PM M np P nl fl → RM M nr ru → i ≤ nr → nr - i < n → ∃ M', mLike [31, 32] [] [11] M M' ∧ ((f_Mod_rule_L8 n M (nI a) 1 (nI i) = some (M', -1) ∧ ¬ ∀ r, i ≤ r → r < nr → TG P fl (ru r) a) ∨ (f_Mod_rule_L8 n M (nI a) 1 (nI i) = ruleTail M' (nI a) ∧ ∀ r, i ≤ r → r < nr → TG P fl (ru r) a)) := by
  intro n
  induction n with
  | zero => intro i M _ _ _ h; omega
  | succ n ih =>
    intro i M h hR hi hlt
    unfold f_Mod_rule_L8
    rw [hR.1]
    by_cases c : i = nr
    · rw [if_pos (by (simp (disch := omega) only [nI_1, nI_add, Int32.lt_iff_toInt_lt, Int32.le_iff_toInt_le, ← Int32.toInt_inj, nI_toInt, tI_0, tI_1, tI_2, tI_3, tI_4, tI_m1, tI_m2, tI_m3, tI_m4, tI_64, tI_128, tI_255, tI_256, tI_1000, tI_1024, tI_4096, tI_10000, tI_16384, tI_16386, tI_M]; omega)), if_pos (by decide)]
      refine ⟨M, mLike_rf, Or.inr ⟨?_, fun r h1 h2 => by omega⟩⟩
      unfold ruleTail
      rw [hR.1]
    · have hi' : i < nr := by omega
      rw [if_neg (by (simp (disch := omega) only [nI_1, nI_add, Int32.lt_iff_toInt_lt, Int32.le_iff_toInt_le, ← Int32.toInt_inj, nI_toInt, tI_0, tI_1, tI_2, tI_3, tI_4, tI_m1, tI_m2, tI_m3, tI_m4, tI_64, tI_128, tI_255, tI_256, tI_1000, tI_1024, tI_4096, tI_10000, tI_16384, tI_16386, tI_M]; omega)), if_neg (by decide), m_rd_n (by omega) (by omega), hR.2 i hi']
      obtain ⟨M1, v, e1, l1, r1⟩ := p_mgo (M := M) hW (hru i hi') ha h
      rw [e1, zob2_s, nI_1]
      rcases r1 with ⟨y1, y2⟩ | ⟨y1, y2⟩
      · subst y1
        obtain ⟨M2, l2, r2⟩ := ih (i + 1) M1 (PM_like h l1 (by simp) (by simp)) (RM_like hR l1 (by simp) (by simp)) (by omega) (by omega)
        have hiff : (∀ r, i + 1 ≤ r → r < nr → TG P fl (ru r) a) ↔ ∀ r, i ≤ r → r < nr → TG P fl (ru r) a := by
          constructor
          · intro H r h1 h2
            by_cases q : r = i
            · subst q; exact y2
            · exact H r (by omega) h2
          · intro H r h1 h2; exact H r (by omega) h2
        refine ⟨M2, mLike_tr l1 l2, ?_⟩
        rw [← hiff]; exact r2
      · subst y1
        have hR1 := RM_like hR l1 (by simp) (by simp)
        refine ⟨M1, l1, Or.inl ⟨p_mrule_L8a (nI a) n (i + 1) M1 hR1.1 hnr (by omega) (by omega), fun H => y2 (H i (Nat.le_refl _) hi')⟩⟩
theorem k_rule (hB : BB n S M nf fam bit np P nl fl m ps) (hR : RR n S M np P fl nr ru T sa W) (hn : n ≤ 600) (a1 : Int32) : ∃ S' M' v, f_Tre_rule S a1 = some (S', v) ∧ f_Mod_rule M a1 = some (M', v) ∧ ((zLike [11] S S' ∧ mLike [31, 32] [] [11] M M') ∨ ∃ nr' ru' T' sa' W', BB (n + 1) S' M' nf fam bit np P nl fl m ps ∧ RR (n + 1) S' M' np P fl nr' ru' T' sa' W' ∧ S'.2.2.1 1 = 0 ∧ M'.2.2 7 = 0) := by
  have hB' := hB
  obtain ⟨a0, b1, b2, b3, b4, b5, b6, b7, b8, b9⟩ := hB
  have hR' := hR
  obtain ⟨c1, c2, c3, c4, c5, c6, c7, c8, c9, c10, c11, c12, c13, c14, c15, c16⟩ := hR
  unfold f_Tre_rule f_Mod_rule
  rw [zbind_e]
  rcases c_has (M := M) b4 (by omega) a1 with ⟨d1, d2, d3⟩ | ⟨x, hx, ex, d1, d2⟩ | d
  · rw [d1, d2, if_pos rfl, show f_Mod_rule_L8 zbig M a1 0 0 = some (M, -1) from p_mrule_L8a a1 zbig 0 M c3.1 (by omega) (by omega) (by unfold zbig; omega)]
    exact ⟨S, M, -1, rfl, rfl, Or.inl ⟨zLike_rf a0, mLike_rf⟩⟩
  · subst ex
    rw [d1, d2, if_neg (by decide)]
    obtain ⟨S1, v, e1, l1, r1⟩ := p_goesWith (S := S) b6 hx c4 (by omega) b4 a0 c2
    obtain ⟨M1, k1, s1⟩ := p_mrule_L8 (nr := nr) (ru := ru) b6 hx c4 (by omega) zbig 0 M b5 c3 (by omega) (by unfold zbig; omega)
    rw [e1, zob2_s]
    have hs : (∀ r, 0 ≤ r → r < nr → TG P fl (ru r) x) ↔ ∀ r, r < nr → TG P fl (ru r) x := by simp
    rw [hs] at s1
    rcases r1 with ⟨y1, y2⟩ | ⟨y1, y2⟩
    · rcases s1 with ⟨z1, z2⟩ | ⟨z1, z2⟩
      · exact absurd y2 z2
      · subst y1
        have z1' : f_Mod_rule_L8 zbig M (nI x) 1 0 = ruleTail M1 (nI x) := z1
        have hP1 := PC_like b4 l1 (by simp)
        have hPM1 := PM_like b5 k1 (by simp) (by simp)
        have hzx := pwZ (b6.2.2.2.2 x hx)
        have hRC1 : RC S1 nr ru := RC_like c2 l1 (by simp)
        have hRM1 := RM_like c3 k1 (by simp) (by simp)
        have sz12 : r_size S1 12 = nI nr := by unfold r_size; rw [hRC1, rowOf_len]
        have w0 : S1.2.2.1 0 = nI W := by rw [l1.2.1]; exact c6
        have w5 : M1.2.2 5 = nI W := by rw [k1.2.2 5 (by simp)]; exact c7
        rw [z1', if_pos (by decide), zbind_e, w0, cZ hP1 (by omega) hx, nI_add, sz12, if_neg (show ¬ (1024 : Int32) ≤ nI nr by (simp (disch := omega) only [nI_1, nI_add, Int32.lt_iff_toInt_lt, Int32.le_iff_toInt_le, ← Int32.toInt_inj, nI_toInt, tI_0, tI_1, tI_2, tI_3, tI_4, tI_m1, tI_m2, tI_m3, tI_m4, tI_64, tI_128, tI_255, tI_256, tI_1000, tI_1024, tI_4096, tI_10000, tI_16384, tI_16386, tI_M]; omega))]
        unfold ruleTail
        rw [hRM1.1, if_neg (show ¬ nI nr = (1024 : Int32) by (simp (disch := omega) only [nI_1, nI_add, Int32.lt_iff_toInt_lt, Int32.le_iff_toInt_le, ← Int32.toInt_inj, nI_toInt, tI_0, tI_1, tI_2, tI_3, tI_4, tI_m1, tI_m2, tI_m3, tI_m4, tI_64, tI_128, tI_255, tI_256, tI_1000, tI_1024, tI_4096, tI_10000, tI_16384, tI_16386, tI_M]; omega)), m_rd_n (by omega) (by omega), gZ hPM1 hx, w5, nI_add]
        by_cases cw : W + pZ (P x) ≤ 16384
        · have cI : nI (W + pZ (P x)) ≤ 16384 := by (simp (disch := omega) only [nI_1, nI_add, Int32.lt_iff_toInt_lt, Int32.le_iff_toInt_le, ← Int32.toInt_inj, nI_toInt, tI_0, tI_1, tI_2, tI_3, tI_4, tI_m1, tI_m2, tI_m3, tI_m4, tI_64, tI_128, tI_255, tI_256, tI_1000, tI_1024, tI_4096, tI_10000, tI_16384, tI_16386, tI_M]; omega)
          rw [if_pos cI, if_pos cI]
          -- the class
          obtain ⟨S2, e2, l2, r2⟩ := zAdd (S := S1) (k := 12) (nI x) l1.2.2 (by decide) (by rw [hRC1, rowOf_len]; omega)
          have l12 : (S1.1 12).length = nr := by rw [hRC1, rowOf_len]
          rw [e2, zbind2_e, l12, zbind_e]
          have o3 : okS (z_sc S2 0 (nI (W + pZ (P x)))) := l2.2.2
          have rows3 : ∀ k, k ≠ 11 → k ≠ 12 → (z_sc S2 0 (nI (W + pZ (P x)))).1 k = S.1 k := fun k h1 h2 => by
            show S2.1 k = _
            rw [l2.1 k (by simpa using h2), l1.1 k (by simpa using h1)]
          have hC3 : TC (z_sc S2 0 (nI (W + pZ (P x)))) T P nr sa := TC_same c9 (fun k h1 h2 => rows3 k (by omega) (by omega))
          have hP3 : PC (z_sc S2 0 (nI (W + pZ (P x)))) np P nl fl := PC_same b4 (fun k h1 h2 => rows3 k (by omega) (by omega))
          generalize hS3 : z_sc S2 0 (nI (W + pZ (P x))) = S3 at *
          obtain ⟨ne, ep, el, lst, al, nx, nk, ue, R3, E3, N3⟩ := hC3
          have sz22 : r_size S3 22 = nI (tA T) := by unfold r_size; rw [R3.2.2.2.2.2.2.2.2.2.1, rowOf_len]
          have r25 : S3.1 25 = rowOf nr (fun r => nI (sa r)) := R3.2.2.2.2.2.2.2.2.2.2.2.2
          obtain ⟨S4, e4, l4, r4⟩ := zAdd (S := S3) (k := 25) (nI (tA T)) o3 (by decide) (by rw [r25, rowOf_len]; omega)
          obtain ⟨S5, e5, l5, r5⟩ := zEmp (S := S4) (k := 26) l4.2.2
          obtain ⟨S6, e6, l6, r6⟩ := p_putOpen (S := S5) (nI x) 0 l5.2.2 (by rw [r5]; decide)
          have rows6 : ∀ k, k ≠ 25 → k ≠ 26 → S6.1 k = S3.1 k := fun k h1 h2 => by rw [l6.1 k (by simpa using h2), l5.1 k (by simpa using h2), l4.1 k (by simpa using h1)]
          have q25 : S6.1 25 = rowOf (nr + 1) (fun r => nI (va_up sa nr (tA T) r)) := by
            rw [l6.1 25 (by decide), l5.1 25 (by decide), r4, r25]
            exact rowOf_ext (fun i hi => by rw [va_n (by omega)]) (by rw [va_s])
          have hC6 : TC S6 T P (nr + 1) (va_up sa nr (tA T)) := by
            refine ⟨ne, ep, el, lst, al, nx, nk, ue, ?_, E3, N3⟩
            obtain ⟨g13, g14, g15, g16, g17, g18, g19, g20, g21, g22, g23, g24, g25⟩ := R3
            unfold TRw
            rw [rows6 13 (by decide) (by decide), rows6 14 (by decide) (by decide), rows6 15 (by decide) (by decide), rows6 16 (by decide) (by decide), rows6 17 (by decide) (by decide), rows6 18 (by decide) (by decide), rows6 19 (by decide) (by decide), rows6 20 (by decide) (by decide), rows6 21 (by decide) (by decide), rows6 22 (by decide) (by decide), rows6 23 (by decide) (by decide), rows6 24 (by decide) (by decide)]
            exact ⟨g13, g14, g15, g16, g17, g18, g19, g20, g21, g22, g23, g24, q25⟩
          have hP6 : PC S6 np P nl fl := PC_same hP3 (fun k h1 h2 => rows6 k (by omega) (by omega))
          -- what is laid
          have hru' : ∀ i, i ≤ nr → va_up ru nr x i < np := fun i hi => by
            by_cases e : i = nr
            · subst e; rw [va_s]; exact hx
            · rw [va_n e]; exact c4 i (by omega)
          have hTG' : ∀ i, i < nr → TG P fl (va_up ru nr x i) (va_up ru nr x nr) := fun i hi => by rw [va_n (by omega), va_s]; exact y2 i hi
          have hGI : GI P fl T nr (va_up ru nr x) := by
            obtain ⟨g1, g2, g3, g4, g5⟩ := c11
            refine ⟨g1, g2, fun k hk => ?_, g4, fun p hp hn => ?_⟩
            · have := g3 k hk
              unfold askOK at this ⊢
              rw [va_n (show (tK T k).1 ≠ nr by omega)]
              exact this
            · obtain ⟨r', q, w1, w2, w3⟩ := g5 p hp hn
              exact ⟨r', q, w1, by rw [va_n (by omega)]; exact w2, w3⟩
          have hLI : LI P fl T nr (va_up ru nr x) [] [(x, 0)] := by
            have := LI_0 hGI
            rw [va_s] at this
            exact this
          have hpe : pot P [(x, 0)] = pZ (P x) := by simp [pot]
          have hst : stok np T [(x, 0)] := fun y hy => by
            have : y = (x, 0) := by simpa using hy
            subst this
            exact ⟨hx, c11.1.1⟩
          obtain ⟨S7, e7, l7, r7⟩ := p_lay_L (nr := nr + 1) (sa := va_up sa nr (tA T)) (r := nr) (B := W + pZ (P x)) b6 (by omega) zbig [(x, 0)] S6 T 0 (by rw [hpe]; unfold zbig; omega) hst (by rw [r6, r5]; rfl) hC6 c11.1 l6.2.2 hP6 (by rw [hpe]; simp; omega) (by rw [hpe]; omega) (by rw [hpe]; omega)
          have elay : f_Par_lay S3 (nI nr) (nI x) = some S7 := by
            unfold f_Par_lay
            rw [sz22, e4, zbind2_e, zbind_e, e5, zbind_e, e6]
            exact e7
          rw [elay, zob_s, zbind_e]
          -- the reference
          rw [zbind_e]
          have q4 : (m_sc M1 7 0).2.2 4 = nI nr := by rw [m_sc_ne (by decide)]; exact hRM1.1
          rw [q4, m_wr_n (by omega) (by omega), nI_clamp (by omega), m_rd_n (by omega) (by omega)]
          have q7 : (m_set (m_sc M1 7 0) 13 nr (nI x)).1 7 x = nI (pZ (P x)) := by rw [m_set_ne (by decide), m_sc_1]; exact gZ hPM1 hx
          have q5 : (m_set (m_sc M1 7 0) 13 nr (nI x)).2.2 5 = nI W := by show (m_sc M1 7 0).2.2 5 = _; rw [m_sc_ne (by decide)]; exact w5
          rw [q7, q5, nI_add, zbind_e]
          generalize hMb : m_sc (m_set (m_sc M1 7 0) 13 nr (nI x)) 5 (nI (W + pZ (P x))) = Mb
          have b4' : Mb.2.2 4 = nI nr := by rw [← hMb, m_sc_ne (by decide)]; exact q4
          have lMb : mLike [13] [] [5, 7] M1 Mb := by
            rw [← hMb]
            refine ⟨fun k hk => ?_, fun _ _ => rfl, fun k hk => ?_⟩
            · rw [m_sc_1, m_set_ne (by simpa using hk)]; rfl
            · have : k ≠ 5 ∧ k ≠ 7 := by simpa using hk
              rw [m_sc_ne this.1]
              show (m_sc M1 7 0).2.2 k = _
              rw [m_sc_ne this.2]
          have hTMb : TMo Mb T nr sa := TMo_like (TMo_like c10 k1 (by simp) (by simp) (by simp)) lMb (by simp) (by simp) (by simp)
          obtain ⟨bl, nb, t1, t2, t3, t4, t5, t6⟩ := hTMb
          rw [b4', nI_1, m_rd_n (by omega) (by omega), t6, m_wr_n (by omega) (by omega), nI_clamp (by omega), zbind_e]
          generalize hMc : m_sc (m_set Mb 14 (nr + 1) (nI (tA T))) 11 0 = Mc
          have lMc : mLike [14] [] [11] Mb Mc := by
            rw [← hMc]
            exact mLike_tr (M1 := m_set Mb 14 (nr + 1) (nI (tA T))) (mLike_mono mLike_set (by simp) (by simp) (by simp)) (mLike_mono mLike_sc (by simp) (by simp) (by simp))
          have hTMc : TMo Mc T (nr + 1) (va_up sa nr (tA T)) := by
            rw [← hMc]
            refine ⟨bl, nb, t1, t2, t3, t4, fun r' hr' => ?_, ?_⟩
            · show upd (Mb.1 14) (nr + 1) (nI (tA T)) r' = _
              rw [upd_n (by omega)]
              by_cases e : r' = nr
              · subst e; rw [va_s]; exact t6
              · rw [va_n e]; exact t5 r' (by omega)
            · show upd (Mb.1 14) (nr + 1) (nI (tA T)) (nr + 1) = _
              rw [upd_s]
          have hSTc : ST Mc [] := by rw [← hMc]; exact ⟨m_sc_at, fun i hi => by simp at hi⟩
          obtain ⟨Md, f1, f2, f3⟩ := p_pair (M := Mc) x 0 hSTc (by simp)
          rw [show f_Mod_pair Mc (nI x) 0 = some Md from f1, zob_s]
          have lAd : mLike [13, 14, 31, 32] [] [5, 7, 11] M1 Md := mLike_tr (mLike_mono lMb (by simp) (by simp) (by simp)) (mLike_tr (mLike_mono lMc (by simp) (by simp) (by simp)) (mLike_mono f2 (by simp) (by simp) (by simp)))
          have hPMd := PM_like hPM1 lAd (by simp) (by simp)
          have h4d : Md.2.2 4 = nI nr := by rw [lAd.2.2 4 (by simp)]; exact hRM1.1
          obtain ⟨Me, g1, g2, g3, g4⟩ := p_mlay_L (sa := va_up sa nr (tA T)) (ru := va_up ru nr x) (r := nr) (B := W + pZ (P x)) b6 hru' hTG' (by omega) cw zbig [(x, 0)] Md T [] (by rw [hpe]; unfold zbig; omega) hLI hPMd (TMo_like hTMc f2 (by simp) (by simp) (by simp)) (by simpa using f3) h4d (by rw [hpe]; simp; omega) (by rw [hpe]; omega)
          rw [g1]
          -- what holds now
          obtain ⟨Vis', v1, v2⟩ := LI_lay b6 hru' hTG' zbig [(x, 0)] T [] (by rw [hpe]; unfold zbig; omega) hLI
          obtain ⟨bq, ba⟩ := lay_b (r := nr) (B := W + pZ (P x)) b6 zbig [(x, 0)] T (by rw [hpe]; unfold zbig; omega) hst c11.1 (by rw [hpe]; simp; omega) (by rw [hpe]; omega)
          have hGI' := GI_of v1
          have hSI' := SI_lay (P := P) (fl := fl) zbig [(x, 0)] T (SI_0 c12 (fun k hk => (c11.2.2.1 k hk).1))
          have l37 : ∀ k, k < 13 → k ≠ 12 → (z_sc S7 1 0).1 k = S1.1 k := fun k hk h2 => by
            show S7.1 k = _
            rw [l7.1 k (by simp; omega), rows6 k (by omega) (by omega), ← hS3]
            show S2.1 k = _
            exact l2.1 k (by simpa using h2)
          have x7 : S7.2.2 = S3.2.2 := by rw [l7.2.1, l6.2.1, l5.2.1, l4.2.1]
          have lAe : mLike [13, 14, 15, 16, 17, 18, 20, 21, 22, 31, 32] [19] [4, 5, 6, 7, 11] M Me := mLike_tr (mLike_mono k1 (by simp) (by simp) (by simp)) (mLike_tr (mLike_mono lAd (by simp) (by simp) (by simp)) (mLike_mono g2 (by simp) (by simp) (by simp)))
          refine ⟨z_sc S7 1 0, Me, nI nr, rfl, rfl, Or.inr ⟨nr + 1, va_up ru nr x, tLay P fl nr zbig T [(x, 0)], va_up sa nr (tA T), W + pZ (P x), ?_, ?_, z_sc_at, ?_⟩⟩
          · refine BB_like hB' (by omega) l7.2.2 (fun k hk => ?_) ?_ ?_ (fun k hk => lAe.1 k (by simp; omega)) (lAe.2.1 1 (by simp)) (fun k hk => lAe.2.2 k (by simp; omega))
            · rw [l37 k (by omega) (by omega), l1.1 k (by simp; omega)]
            · rw [z_sc_ne (by decide), x7, ← hS3, z_sc_ne (by decide), l2.2.1, l1.2.1]
            · show S7.2.2.2 = _
              rw [x7, ← hS3]
              show S2.2.2.2 = _
              rw [l2.2.1, l1.2.1]
          · refine ⟨by omega, ?_, ⟨g3, fun i hi => ?_⟩, fun i hi => hru' i (by omega), fun i j hij hj => ?_, ?_, ?_, cw, TC_same r7 (fun k _ _ => rfl), g4, hGI', hSI', by omega, ba, Or.inr ?_, EP_lay b6 hru' hTG' zbig [(x, 0)] T [] (by rw [hpe]; unfold zbig; omega) hLI (EP_0 c16)⟩
            · show S7.1 12 = _
              rw [l7.1 12 (by decide), rows6 12 (by decide) (by decide), ← hS3]
              show S2.1 12 = _
              rw [r2, hRC1]
              exact rowOf_ext (fun i hi => by rw [va_n (by omega)]) (by rw [va_s])
            · rw [g2.1 13 (by decide), f2.1 13 (by decide), lMc.1 13 (by decide), ← hMb, m_sc_1, m_set_at, m_sc_1]
              by_cases e : i = nr
              · subst e; rw [upd_s, va_s]
              · rw [upd_n e, va_n e]; exact hRM1.2 i (by omega)
            · by_cases e : j = nr
              · subst e; exact hTG' i hij
              · rw [va_n e, va_n (by omega)]; exact c5 i j hij (by omega)
            · rw [z_sc_ne (by decide), x7, ← hS3, z_sc_at]
            · rw [g2.2.2 5 (by decide), f2.2.2 5 (by decide), lMc.2.2 5 (by decide), ← hMb, m_sc_at]
            · by_cases e : nr = 0
              · rw [e, va_s]
                rcases Nat.eq_zero_or_pos (tA T) with z | z
                · exact z
                · have := (c11.2.2.1 0 z).1
                  omega
              · rw [va_n (by omega)]
                rcases c15 with z | z
                · exact absurd z e
                · exact z
          · rw [g2.2.2 7 (by decide), f2.2.2 7 (by decide), lMc.2.2 7 (by decide), ← hMb, m_sc_ne (by decide)]
            show (m_sc M1 7 0).2.2 7 = 0
            exact m_sc_at
        · have cI : ¬ nI (W + pZ (P x)) ≤ 16384 := by (simp (disch := omega) only [nI_1, nI_add, Int32.lt_iff_toInt_lt, Int32.le_iff_toInt_le, ← Int32.toInt_inj, nI_toInt, tI_0, tI_1, tI_2, tI_3, tI_4, tI_m1, tI_m2, tI_m3, tI_m4, tI_64, tI_128, tI_255, tI_256, tI_1000, tI_1024, tI_4096, tI_10000, tI_16384, tI_16386, tI_M]; omega)
          rw [if_neg cI, if_neg cI]
          exact ⟨S1, M1, -2, rfl, rfl, Or.inl ⟨l1, k1⟩⟩
    · rcases s1 with ⟨z1, z2⟩ | ⟨z1, z2⟩
      · subst y1
        rw [if_neg (by decide), show f_Mod_rule_L8 zbig M (nI x) 1 0 = some (M1, -1) from z1]
        exact ⟨S1, M1, -1, rfl, rfl, Or.inl ⟨l1, k1⟩⟩
      · exact absurd z2 y2
  · exact absurd b5.1 d
end PRU
