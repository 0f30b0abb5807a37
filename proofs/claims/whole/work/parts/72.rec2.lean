-- PURE LAYER: the call record, both sides
section PRF
variable {n : Nat} {S : zS} {M : zM} {nf : Nat} {fam : Nat → Nat} {bit : Nat → Int64} {np : Nat} {P : Nat → Pt} {nl : Nat} {fl : Nat → Nat × Nat} {m : Nat} {ps : Nat → Nat × Nat}
theorem k_record_ok (h : BB n S M nf fam bit np P nl fl m ps) (hn : n ≤ 600) {nn : Nat} (hnn : nn ≤ 128) (hb : ∀ j, j < m → (ps j).1 < nn) : ∃ x, (zob2 (f_Pat_addRecord S (nI nn)) fun S5 v6 =>
        if v6 = (-2) then
          some (S5, v6)
        else
          zbind (f_Psh_empty S5) fun S8 =>
          some (S8, v6)) = some x ∧ Keep n S M nf fam bit np P nl fl x (f_Mod_record_L54 zbig M (nI nn) 1 (bI (decide (m = nn))) 0) := by
  have h' := h
  obtain ⟨a0, b1, b2, b3, b4, b5, b6, b7, b8, b9⟩ := h
  have hm := ps_m b9.2 (fun i hi => (b9.1 i hi).1)
  have hz : ∀ i, i < np → pZ (P i) ≤ 10000 := fun i hi => (pwZ (b6.2.2.2.2 i hi)).2
  have hzs : zsum (fun j => pZ (P (ps j).2)) m ≤ m * 10000 := zsum_b (fun j hj => hz _ (b9.1 j hj).2)
  have hw : 1 + zsum (fun j => pZ (P (ps j).2)) m ≤ 10000000 := by
    have : m * 10000 ≤ 128 * 10000 := Nat.mul_le_mul_right _ hm
    omega
  have e54 : f_Mod_record_L54 zbig M (nI nn) 1 (bI (decide (m = nn))) 0 = zob2 (f_Mod_make M 4 (nI nn) 0 (nI nl) (nI (1 + zsum (fun j => pZ (P (ps j).2)) m)) (bI (decide (m = nn) && decide (∀ j, j < m → pW (P (ps j).2) = true)))) fun S6 v7 => if 0 ≤ v7 then f_Mod_record_L135 zbig S6 v7 0 else some (S6, v7) := by
    have := p_mrec54 (nn := nn) b5 b8 b9 (by omega) hz hm zbig 0 (decide (m = nn)) (by omega) (by unfold zbig; omega)
    have hd : ∀ j, j < 0 → pW (P (ps j).2) = true := fun j hj => absurd hj (Nat.not_lt_zero _)
    rw [@decide_eq_true _ _ hd, Bool.and_true] at this
    exact this
  rw [e54]
  have eb : (decide (m = nn) && decide (∀ j, j < m → pW (P (ps j).2) = true)) = decide (m = nn ∧ ∀ j, j < m → pW (P (ps j).2) = true) := by rw [Bool.eq_iff_iff]; simp
  generalize ew : 1 + zsum (fun j => pZ (P (ps j).2)) m = w at *
  have pc := p_addRecord b4 a0 b7 b9 (by omega) (by omega) hz hnn hb hm ew.symm (by omega)
  have p0 : Pt := (4, nI nn, 0, none, w, decide (m = nn ∧ ∀ j, j < m → pW (P (ps j).2) = true), 0, nl)
  have pm := p_make (w := w) (b := (decide (m = nn) && decide (∀ j, j < m → pW (P (ps j).2) = true))) (f1 := nI nn) (f2 := 0) (f3 := nI nl) b5 (by omega) (k := 4) (by decide) (by omega) (4, nI nn, 0, none, w, decide (m = nn ∧ ∀ j, j < m → pW (P (ps j).2) = true), 0, nl) rfl (by rw [if_neg (by decide)]; rfl) (by rw [if_neg (by decide)]; rfl) rfl rfl rfl eb
  rcases pc with ⟨w1, w2⟩ | ⟨w1, S', w2, w3, w4⟩
  · rcases pm with ⟨y1, y2⟩ | ⟨y1, M', y2, y3, y4⟩
    · rw [w2, zob2_s, if_pos rfl, show f_Mod_make M 4 (nI nn) 0 (nI nl) (nI w) (bI (decide (m = nn) && decide (∀ j, j < m → pW (P (ps j).2) = true))) = some (M, -2) from y2, zob2_s, if_neg (by decide)]
      exact ⟨_, rfl, keep_no h'⟩
    · omega
  · rcases pm with ⟨y1, y2⟩ | ⟨y1, M', y2, y3, y4⟩
    · omega
    · rw [w2, zob2_s, if_neg (by (simp (disch := omega) only [nI_1, nI_add, Int32.lt_iff_toInt_lt, Int32.le_iff_toInt_le, ← Int32.toInt_inj, nI_toInt, tI_0, tI_1, tI_2, tI_3, tI_4, tI_m1, tI_m2, tI_m3, tI_m4, tI_64, tI_128, tI_255, tI_256, tI_1000, tI_1024, tI_4096, tI_10000, tI_16384, tI_16386, tI_M]; omega)), show f_Mod_make M 4 (nI nn) 0 (nI nl) (nI w) (bI (decide (m = nn) && decide (∀ j, j < m → pW (P (ps j).2) = true))) = some (M', nI np) from y2, zob2_s, if_pos (nI_pos' (by omega)), zbind_e]
      -- the class: nothing waits any more
      obtain ⟨S1, e1, l1, r1⟩ := zFill (S := S') (k := 10) (n := 128) (-1) w3.2.2 (by decide) (by decide)
      have ee : f_Psh_empty S' = z_sc S1 2 0 := by
        unfold f_Psh_empty
        rw [zbind_e, show r_fill S' 10 128 (-1) = S1 from e1, zbind_e]
      rw [ee]
      -- the reference: its fields
      have hU' : UM M' m ps := by unfold UM; rw [y3.2.2 3 (by decide), y3.1 11 (by decide), y3.1 12 (by decide)]; exact b8
      have y4' := y4
      obtain ⟨z1, z2, z3, z4⟩ := y4
      obtain ⟨M2, v1, v2, v3, v4, v5, v6, v7⟩ := p_mrec135 (np := np) (fl := fl) hm (by omega) b9 (by omega) (by omega) zbig 0 M' (by omega) (by unfold zbig; omega) hU' z2 (fun j hj => by
        have hj : j < nl := by omega
        rw [flx_lo hj]; exact z4 j hj)
      rw [show f_Mod_record_L135 zbig M' (nI np) 0 = some (M2, nI np) from v1]
      refine ⟨_, rfl, z_sc S1 2 0, M2, nI np, nf, fam, bit, np + 1, va_up P np (recPt P m ps nn nl w), nl + m, flx nl fl ps, 0, ps, rfl, rfl, ⟨l1.2.2, by omega, ⟨?_, fun i hi => ?_⟩, ⟨?_, fun i hi => ?_⟩, ?_, ⟨?_, v4, fun i hi => ?_, v5⟩, ⟨by omega, by omega, b6.2.2.1, b6.2.2.2.1, fun i hi => ?_⟩, ⟨?_, z_sc_at⟩, ⟨v3, fun i hi => by omega⟩, ⟨fun i hi => by omega, fun i j _ hj => by omega⟩⟩, Nat.le_refl _, by omega, by omega, fun _ _ => ⟨rfl, rfl⟩, fun i hi => va_n (by omega), fun i hi => flx_lo hi, fun k hk => ?_, fun k hk => ?_, fun k hk => ?_, fun k hk => ?_, fun k hk => ?_⟩
      · show S1.1 0 = _
        rw [l1.1 0 (by decide), w3.1 0 (by decide)]; exact b2.1
      · show S1.2.2.2 i = _
        rw [l1.2.1, w3.2.1]; exact b2.2 i hi
      · rw [v2.2.2 0 (by decide), y3.2.2 0 (by decide)]; exact b3.1
      · rw [v2.1 0 (by decide), y3.1 0 (by decide), v2.2.1 1 (by simp), y3.2.1 1 (by simp)]; exact b3.2 i hi
      · exact PC_same (S := S') w4 (fun k h1 h2 => by show S1.1 k = _; exact l1.1 k (by simp; omega))
      · rw [v2.2.2 1 (by decide)]; exact z1
      · rw [v2.1 2 (by decide), v2.1 3 (by decide), v2.1 4 (by decide), v2.1 5 (by decide), v2.1 7 (by decide), v2.1 8 (by decide)]
        obtain ⟨u1, u2, u3, u4, u5, u6, u7⟩ := z3 i hi
        by_cases e : i = np
        · subst e
          rw [va_s] at u1 u2 u3 u4 u5 u6 u7 ⊢
          exact ⟨u1, u2, u3, u4, v6, u6, u7⟩
        · rw [va_n e] at u1 u2 u3 u4 u5 u6 u7 ⊢
          exact ⟨u1, u2, u3, u4, by rw [v7 i e]; exact u5, u6, u7⟩
      · by_cases e : i = np
        · subst e
          have eN : ∀ j, fN (va_up P i (recPt P m ps nn nl w)) (flx nl fl ps) i j = (ps j).1 := fun j => by unfold fN; rw [va_s]; show (flx nl fl ps (nl + j)).1 = _; rw [flx_hi]
          have eP : ∀ j, fP (va_up P i (recPt P m ps nn nl w)) (flx nl fl ps) i j = (ps j).2 := fun j => by unfold fP; rw [va_s]; show (flx nl fl ps (nl + j)).2 = _; rw [flx_hi]
          unfold pwf
          rw [va_s]
          refine ⟨by show 4 ≤ 4; decide, by show 1 ≤ w; omega, w1, fun _ => rfl, fun e => absurd rfl e, fun _ => rfl, (by intro e; cases e), (by intro j e; cases e), Nat.le_refl _, hm, fun j hj => ?_, fun j k h1 h2 => ?_, fun _ => ?_, (by intro e; cases e), (by intro e; cases e), fun _ => ⟨nn, hnn, rfl, fun q => ?_⟩, fun q => ⟨by show 4 ≠ 0; decide, (by intro j e; cases e), fun j hj => ?_⟩⟩
          · have hj : j < m := hj
            rw [eN, eP]
            exact ⟨(b9.1 j hj).2, (b9.1 j hj).1, nn, hnn, rfl, hb j hj⟩
          · rw [eN, eN]; exact b9.2 j k h1 h2
          · show w = 1 + zsum _ m
            have ez : zsum (fun j => pZ (P (ps j).2)) m = zsum (fun j => pZ (va_up P i (recPt P m ps nn nl w) (fP (va_up P i (recPt P m ps nn nl w)) (flx nl fl ps) i j))) m := zsum_congr (fun j hj => by rw [eP, va_n (by have := (b9.1 j hj).2; omega)])
            rw [← ez]; omega
          · have q : decide (m = nn ∧ ∀ j, j < m → pW (P (ps j).2) = true) = true := q
            exact (of_decide_eq_true q).1
          · have q : decide (m = nn ∧ ∀ j, j < m → pW (P (ps j).2) = true) = true := q
            have hj : j < m := hj
            rw [eP, va_n (by have := (b9.1 j hj).2; omega)]
            exact (of_decide_eq_true q).2 j hj
        · exact pwf_ext (b6.2.2.2.2 i (by omega)) (fun j hj => va_n (by omega)) (by omega) (fun j hj => flx_lo hj) (Nat.le_refl _) (fun _ _ => ⟨rfl, rfl⟩)
      · show S1.1 10 = _
        rw [r1]; exact rowOf_congr (fun _ _ => rfl)
      · show S1.1 k = _
        rw [l1.1 k (by simp; omega), w3.1 k (by simp; omega)]
      · rw [z_sc_ne hk, l1.2.1, w3.2.1]
      · rw [v2.1 k (by simp; omega), y3.1 k (by simp; omega)]
      · rw [v2.2.1 k (by simp), y3.2.1 k (by simp)]
      · rw [v2.2.2 k (by simp; omega), y3.2.2 k (by simp; omega)]
theorem k_record (h : BB n S M nf fam bit np P nl fl m ps) (hn : n ≤ 600) (a1 : Int32) : ∃ x, f_Tre_record S a1 = some x ∧ Keep n S M nf fam bit np P nl fl x (f_Mod_record M a1) := by
  have h' := h
  obtain ⟨a0, b1, b2, b3, b4, b5, b6, b7, b8, b9⟩ := h
  have hm := ps_m b9.2 (fun i hi => (b9.1 i hi).1)
  unfold f_Tre_record f_Mod_record
  by_cases c1 : a1 < 0
  · rw [if_pos c1, if_pos c1]; exact ⟨_, rfl, keep_no h'⟩
  · rw [if_neg c1, if_neg c1]
    by_cases c2 : 128 < a1
    · rw [if_pos c2, if_pos c2]; exact ⟨_, rfl, keep_no h'⟩
    · rw [if_neg c2, if_neg c2]
      obtain ⟨nn, hn1, en⟩ := nI_of c1
      subst en
      have hnn : nn ≤ 128 := by (simp (disch := omega) only [nI_1, nI_add, Int32.lt_iff_toInt_lt, Int32.le_iff_toInt_le, ← Int32.toInt_inj, nI_toInt, tI_0, tI_1, tI_2, tI_3, tI_4, tI_m1, tI_m2, tI_m3, tI_m4, tI_64, tI_128, tI_255, tI_256, tI_1000, tI_1024, tI_4096, tI_10000, tI_16384, tI_16386, tI_M] at *; omega)
      rw [b8.1]
      have tailM : (if ¬ nI m = nI nn then f_Mod_record_L54 zbig M (nI nn) 1 0 0 else f_Mod_record_L54 zbig M (nI nn) 1 1 0) = f_Mod_record_L54 zbig M (nI nn) 1 (bI (decide (m = nn))) 0 := by
        by_cases e : m = nn
        · rw [if_neg (by rw [e]; simp), decide_eq_true e]; rfl
        · rw [if_pos (by rw [nI_eq (by omega) (by omega)]; exact e), decide_eq_false e]; rfl
      rw [tailM]
      have er := p_reaches (np := np) b7 b9 (by omega) zbig nn hnn (by unfold zbig; omega)
      rcases er with ⟨q1, q2⟩ | ⟨q1, j, q2, q3⟩
      · rw [show f_Psh_reachesTo S (nI nn) = some 0 from q1, zob_s, if_pos rfl]
        have em : (if nI m ≤ 0 then f_Mod_record_L54 zbig M (nI nn) 1 (bI (decide (m = nn))) 0 else m_rd 128 (M.1 11) (nI m - 1) fun v24 => if v24 < nI nn then f_Mod_record_L54 zbig M (nI nn) 1 (bI (decide (m = nn))) 0 else some (M, -1)) = f_Mod_record_L54 zbig M (nI nn) 1 (bI (decide (m = nn))) 0 := by
          by_cases e : m = 0
          · rw [if_pos (by rw [e]; decide)]
          · have e1 : nI m - 1 = nI (m - 1) := by
              have := nI_pred (m - 1)
              rwa [show m - 1 + 1 = m by omega] at this
            rw [if_neg (by (simp (disch := omega) only [nI_1, nI_add, Int32.lt_iff_toInt_lt, Int32.le_iff_toInt_le, ← Int32.toInt_inj, nI_toInt, tI_0, tI_1, tI_2, tI_3, tI_4, tI_m1, tI_m2, tI_m3, tI_m4, tI_64, tI_128, tI_255, tI_256, tI_1000, tI_1024, tI_4096, tI_10000, tI_16384, tI_16386, tI_M]; omega)), e1, m_rd_n (by omega) (by omega), (b8.2 (m - 1) (by omega)).1, if_pos (nI_lt (q2 (m - 1) (by omega)) (by omega))]
        rw [em]
        exact k_record_ok h' hn hnn q2
      · rw [show f_Psh_reachesTo S (nI nn) = some 1 from q1, zob_s, if_neg (by decide)]
        have em : (if nI m ≤ 0 then f_Mod_record_L54 zbig M (nI nn) 1 (bI (decide (m = nn))) 0 else m_rd 128 (M.1 11) (nI m - 1) fun v24 => if v24 < nI nn then f_Mod_record_L54 zbig M (nI nn) 1 (bI (decide (m = nn))) 0 else some (M, -1)) = some (M, -1) := by
          have e1 : nI m - 1 = nI (m - 1) := by
            have := nI_pred (m - 1)
            rwa [show m - 1 + 1 = m by omega] at this
          have hlast : nn ≤ (ps (m - 1)).1 := by
            by_cases e : j = m - 1
            · rw [← e]; exact q3
            · have := b9.2 j (m - 1) (by omega) (by omega); omega
          have := (b9.1 (m - 1) (by omega)).1
          rw [if_neg (by (simp (disch := omega) only [nI_1, nI_add, Int32.lt_iff_toInt_lt, Int32.le_iff_toInt_le, ← Int32.toInt_inj, nI_toInt, tI_0, tI_1, tI_2, tI_3, tI_4, tI_m1, tI_m2, tI_m3, tI_m4, tI_64, tI_128, tI_255, tI_256, tI_1000, tI_1024, tI_4096, tI_10000, tI_16384, tI_16386, tI_M]; omega)), e1, m_rd_n (by omega) (by omega), (b8.2 (m - 1) (by omega)).1, if_neg (nI_nlt hlast (by omega))]
        rw [em]
        exact ⟨_, rfl, keep_no h'⟩
end PRF
