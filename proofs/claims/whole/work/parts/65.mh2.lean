-- PURE LAYER: the reference's goTogether and matches
section PHN
variable {nf : Nat} {fam : Nat → Nat} {bit : Nat → Int64} {np : Nat} {P : Nat → Pt} {nl : Nat} {fl : Nat → Nat × Nat} {M : zM}
theorem p_gt_step {a b : Nat} {st : List (Nat × Nat)} (hn : np ≤ 16384) (hl : nl ≤ 16384) (ha : a < np) (hb : b < np) (hwa : pwf nf fam bit P nl fl a) (hwb : pwf nf fam bit P nl fl b) (h : PM M np P nl fl) (hst : ST M (st ++ [(a, b)])) (hlen : st.length < 20000) : ∃ M' v, (∀ n, f_Mod_goTogether_L13 (n + 1) M 1 = f_Mod_goTogether_L13 n M' v) ∧ mLike [31, 32] [] [11] M M' ∧ ((lokG P a b ∧ v = 1 ∧ ST M' (st ++ kidG P fl a b)) ∨ (¬ lokG P a b ∧ v = 0)) := by
  obtain ⟨s5, rA, rB⟩ := p_pop hst
  have e11 : M.2.2 11 = nI (st.length + 1) := by rw [hst.1]; simp
  have e5 : M.2.2 11 - 1 = nI st.length := by rw [e11, nI_pred]
  have c0 : ¬ M.2.2 11 ≤ 0 := by rw [e11]; (simp (disch := omega) only [nI_1, nI_add, Int32.lt_iff_toInt_lt, Int32.le_iff_toInt_le, ← Int32.toInt_inj, nI_toInt, tI_0, tI_1, tI_2, tI_3, tI_4, tI_m1, tI_m2, tI_m3, tI_m4, tI_64, tI_128, tI_255, tI_256, tI_1000, tI_1024, tI_4096, tI_10000, tI_16384, tI_16386, tI_M]; omega)
  have l5 : mLike [31, 32] [] [11] M (m_sc M 11 (nI st.length)) := mLike_mono mLike_sc (by simp) (by simp) (by simp)
  have h5 := PM_like h l5 (by simp) (by simp)
  have hKa := pwK hwa
  have hKb := pwK hwb
  generalize hM5 : m_sc M 11 (nI st.length) = M5 at *
  have e5' : M5.2.2 11 = nI st.length := by rw [← hM5]; exact m_sc_at
  have rA' : M5.1 31 st.length = nI a := by rw [← hM5]; exact rA
  have rB' : M5.1 32 st.length = nI b := by rw [← hM5]; exact rB
  by_cases ka0 : pK (P a) = 0
  · refine ⟨M5, 1, fun n => ?_, l5, Or.inl ⟨Or.inl ka0, rfl, by unfold kidG; rw [if_pos (Or.inl ka0)]; simpa using s5⟩⟩
    rw [f_Mod_goTogether_L13, if_neg c0, if_neg (by decide), zbind_e, e5, hM5, e5', m_rd_n (by omega) (by omega), rA', m_rd_n (by omega) (by omega), rB', m_rd_n (by omega) (by omega), gK h5 ha]
    rw [ka0, if_pos (by decide)]
  have na0 : ¬ nI (pK (P a)) = 0 := by (simp (disch := omega) only [nI_1, nI_add, Int32.lt_iff_toInt_lt, Int32.le_iff_toInt_le, ← Int32.toInt_inj, nI_toInt, tI_0, tI_1, tI_2, tI_3, tI_4, tI_m1, tI_m2, tI_m3, tI_m4, tI_64, tI_128, tI_255, tI_256, tI_1000, tI_1024, tI_4096, tI_10000, tI_16384, tI_16386, tI_M]; omega)
  by_cases kb0 : pK (P b) = 0
  · refine ⟨M5, 1, fun n => ?_, l5, Or.inl ⟨Or.inr (Or.inl kb0), rfl, by unfold kidG; rw [if_pos (Or.inr (Or.inl kb0))]; simpa using s5⟩⟩
    rw [f_Mod_goTogether_L13, if_neg c0, if_neg (by decide), zbind_e, e5, hM5, e5', m_rd_n (by omega) (by omega), rA', m_rd_n (by omega) (by omega), rB', m_rd_n (by omega) (by omega), gK h5 ha]
    rw [if_neg na0, m_rd_n (by omega) (by omega), gK h5 hb, kb0, if_pos (by decide)]
  have nb0 : ¬ nI (pK (P b)) = 0 := by (simp (disch := omega) only [nI_1, nI_add, Int32.lt_iff_toInt_lt, Int32.le_iff_toInt_le, ← Int32.toInt_inj, nI_toInt, tI_0, tI_1, tI_2, tI_3, tI_4, tI_m1, tI_m2, tI_m3, tI_m4, tI_64, tI_128, tI_255, tI_256, tI_1000, tI_1024, tI_4096, tI_10000, tI_16384, tI_16386, tI_M]; omega)
  rcases p_areOneSort hn ha hb hwa hwb h5 with ⟨q1, q2, q3⟩ | ⟨q1, q2⟩
  · rcases pwk5 hwa with e | e | e | e | e
    · exact absurd e ka0
    · refine ⟨M5, 1, fun n => ?_, l5, Or.inl ⟨Or.inr (Or.inr ⟨q2, q3, fun _ => by rw [pwN hwa (Or.inr (Or.inl e)), pwN hwb (Or.inr (Or.inl (q2 ▸ e)))]⟩), rfl, ?_⟩⟩
      · rw [f_Mod_goTogether_L13, if_neg c0, if_neg (by decide), zbind_e, e5, hM5, e5', m_rd_n (by omega) (by omega), rA', m_rd_n (by omega) (by omega), rB', m_rd_n (by omega) (by omega), gK h5 ha]
        rw [if_neg na0, m_rd_n (by omega) (by omega), gK h5 hb, if_neg nb0, q1, zob_s]
        rw [if_neg (by decide), m_rd_n (by omega) (by omega), gK h5 ha, e, if_neg (by decide), m_rd_n (by omega) (by omega), gK h5 ha, e, if_pos (by decide), if_neg (by decide), m_rd_n (by omega) (by omega), gK h5 ha, e, if_pos (by decide)]
      · have : kidG P fl a b = [] := by
          unfold kidG
          split
          · rfl
          · unfold kk; rw [if_neg (by omega), pwN hwa (Or.inr (Or.inl e))]
        rw [this]; simpa using s5
    · have eb : pK (P b) = 2 := q2 ▸ e
      rcases p_areOne hn ha hb h5 (Or.inl e) q2 with ⟨w1, w2⟩ | ⟨w1, w2⟩
      · cases oa : pO (P a) with
        | none => cases ob : pO (P b) with
          | none =>
            refine ⟨M5, 1, fun n => ?_, l5, Or.inl ⟨Or.inr (Or.inr ⟨q2, q3, fun _ => by rw [oa, ob]⟩), rfl, ?_⟩⟩
            · rw [f_Mod_goTogether_L13, if_neg c0, if_neg (by decide), zbind_e, e5, hM5, e5', m_rd_n (by omega) (by omega), rA', m_rd_n (by omega) (by omega), rB', m_rd_n (by omega) (by omega), gK h5 ha]
              rw [if_neg na0, m_rd_n (by omega) (by omega), gK h5 hb, if_neg nb0, q1, zob_s]
              rw [if_neg (by decide), m_rd_n (by omega) (by omega), gK h5 ha, e, if_pos (by decide), w1, zob_s]
              rw [if_neg (by decide), m_rd_n (by omega) (by omega), g5 h5 ha (by omega), oa, if_neg (by decide), m_rd_n (by omega) (by omega), g5 h5 hb (by omega), ob, if_neg (by decide), m_rd_n (by omega) (by omega), g5 h5 ha (by omega), oa, if_pos (by decide), m_rd_n (by omega) (by omega), gK h5 ha, e, if_pos (by decide)]
            · unfold kidG; rw [if_neg (by simp [ka0, kb0, w2])]; unfold kk; rw [if_neg (by omega), oa, ob]; simpa using s5
          | some y =>
            have hy := (pwO hwb ob).1
            refine ⟨M5, 0, fun n => ?_, l5, Or.inr ⟨(fun q => by
              rcases q with q | q | q
              · exact ka0 q
              · exact kb0 q
              · have := q.2.2 w2; rw [oa, ob] at this; cases this), rfl⟩⟩
            rw [f_Mod_goTogether_L13, if_neg c0, if_neg (by decide), zbind_e, e5, hM5, e5', m_rd_n (by omega) (by omega), rA', m_rd_n (by omega) (by omega), rB', m_rd_n (by omega) (by omega), gK h5 ha]
            rw [if_neg na0, m_rd_n (by omega) (by omega), gK h5 hb, if_neg nb0, q1, zob_s]
            rw [if_neg (by decide), m_rd_n (by omega) (by omega), gK h5 ha, e, if_pos (by decide), w1, zob_s]
            rw [if_neg (by decide), m_rd_n (by omega) (by omega), g5 h5 ha (by omega), oa, if_neg (by decide), m_rd_n (by omega) (by omega), g5 h5 hb (by omega), ob, oI_s, if_pos (nI_pos' (by omega))]
        | some x =>
          have hx := (pwO hwa oa).1
          cases ob : pO (P b) with
          | none =>
            refine ⟨M5, 0, fun n => ?_, l5, Or.inr ⟨(fun q => by
              rcases q with q | q | q
              · exact ka0 q
              · exact kb0 q
              · have := q.2.2 w2; rw [oa, ob] at this; cases this), rfl⟩⟩
            rw [f_Mod_goTogether_L13, if_neg c0, if_neg (by decide), zbind_e, e5, hM5, e5', m_rd_n (by omega) (by omega), rA', m_rd_n (by omega) (by omega), rB', m_rd_n (by omega) (by omega), gK h5 ha]
            rw [if_neg na0, m_rd_n (by omega) (by omega), gK h5 hb, if_neg nb0, q1, zob_s]
            rw [if_neg (by decide), m_rd_n (by omega) (by omega), gK h5 ha, e, if_pos (by decide), w1, zob_s]
            rw [if_neg (by decide), m_rd_n (by omega) (by omega), g5 h5 ha (by omega), oa, oI_s, if_pos (nI_pos' (by omega)), m_rd_n (by omega) (by omega), g5 h5 hb (by omega), ob, if_neg (by decide)]
          | some y =>
            have hy := (pwO hwb ob).1
            obtain ⟨M6, e6, l6, s6⟩ := p_pair (M := M5) x y s5 (by omega)
            have h6 := PM_like h5 l6 (by simp) (by simp)
            refine ⟨M6, 1, fun n => ?_, mLike_tr l5 l6, Or.inl ⟨Or.inr (Or.inr ⟨q2, q3, fun _ => by rw [oa, ob]; rfl⟩), rfl, ?_⟩⟩
            · rw [f_Mod_goTogether_L13, if_neg c0, if_neg (by decide), zbind_e, e5, hM5, e5', m_rd_n (by omega) (by omega), rA', m_rd_n (by omega) (by omega), rB', m_rd_n (by omega) (by omega), gK h5 ha]
              rw [if_neg na0, m_rd_n (by omega) (by omega), gK h5 hb, if_neg nb0, q1, zob_s]
              rw [if_neg (by decide), m_rd_n (by omega) (by omega), gK h5 ha, e, if_pos (by decide), w1, zob_s]
              rw [if_neg (by decide), m_rd_n (by omega) (by omega), g5 h5 ha (by omega), oa, oI_s, if_pos (nI_pos' (by omega)), m_rd_n (by omega) (by omega), g5 h5 hb (by omega), ob, oI_s, if_pos (nI_pos' (by omega)), m_rd_n (by omega) (by omega), g5 h5 ha (by omega), oa, oI_s, if_neg (nI_pos (by omega)), m_rd_n (by omega) (by omega), g5 h5 ha (by omega), oa, oI_s, m_rd_n (by omega) (by omega), g5 h5 hb (by omega), ob, oI_s, e6, zob_s, m_rd_n (by omega) (by omega), gK h6 ha, e, if_pos (by decide)]
            · unfold kidG; rw [if_neg (by simp [ka0, kb0, w2])]; unfold kk; rw [if_neg (by omega), oa, ob]; exact s6
      · refine ⟨M5, 1, fun n => ?_, l5, Or.inl ⟨Or.inr (Or.inr ⟨q2, q3, fun q => absurd q w2⟩), rfl, by unfold kidG; rw [if_pos (Or.inr (Or.inr w2))]; simpa using s5⟩⟩
        rw [f_Mod_goTogether_L13, if_neg c0, if_neg (by decide), zbind_e, e5, hM5, e5', m_rd_n (by omega) (by omega), rA', m_rd_n (by omega) (by omega), rB', m_rd_n (by omega) (by omega), gK h5 ha]
        rw [if_neg na0, m_rd_n (by omega) (by omega), gK h5 hb, if_neg nb0, q1, zob_s]
        rw [if_neg (by decide), m_rd_n (by omega) (by omega), gK h5 ha, e, if_pos (by decide), w1, zob_s]
        rw [if_pos (by decide), if_neg (by decide), m_rd_n (by omega) (by omega), gK h5 ha, e, if_pos (by decide)]
    · have eb : pK (P b) = 3 := q2 ▸ e
      rcases p_areOne hn ha hb h5 (Or.inr e) q2 with ⟨w1, w2⟩ | ⟨w1, w2⟩
      · cases oa : pO (P a) with
        | none => cases ob : pO (P b) with
          | none =>
            refine ⟨M5, 1, fun n => ?_, l5, Or.inl ⟨Or.inr (Or.inr ⟨q2, q3, fun _ => by rw [oa, ob]⟩), rfl, ?_⟩⟩
            · rw [f_Mod_goTogether_L13, if_neg c0, if_neg (by decide), zbind_e, e5, hM5, e5', m_rd_n (by omega) (by omega), rA', m_rd_n (by omega) (by omega), rB', m_rd_n (by omega) (by omega), gK h5 ha]
              rw [if_neg na0, m_rd_n (by omega) (by omega), gK h5 hb, if_neg nb0, q1, zob_s]
              rw [if_neg (by decide), m_rd_n (by omega) (by omega), gK h5 ha, e, if_neg (by decide), m_rd_n (by omega) (by omega), gK h5 ha, e, if_neg (by decide), w1, zob_s]
              rw [if_neg (by decide), m_rd_n (by omega) (by omega), g5 h5 ha (by omega), oa, if_neg (by decide), m_rd_n (by omega) (by omega), g5 h5 hb (by omega), ob, if_neg (by decide), m_rd_n (by omega) (by omega), g5 h5 ha (by omega), oa, if_pos (by decide), m_rd_n (by omega) (by omega), gK h5 ha, e, if_pos (by decide)]
            · unfold kidG; rw [if_neg (by simp [ka0, kb0, w2])]; unfold kk; rw [if_neg (by omega), oa, ob]; simpa using s5
          | some y =>
            have hy := (pwO hwb ob).1
            refine ⟨M5, 0, fun n => ?_, l5, Or.inr ⟨(fun q => by
              rcases q with q | q | q
              · exact ka0 q
              · exact kb0 q
              · have := q.2.2 w2; rw [oa, ob] at this; cases this), rfl⟩⟩
            rw [f_Mod_goTogether_L13, if_neg c0, if_neg (by decide), zbind_e, e5, hM5, e5', m_rd_n (by omega) (by omega), rA', m_rd_n (by omega) (by omega), rB', m_rd_n (by omega) (by omega), gK h5 ha]
            rw [if_neg na0, m_rd_n (by omega) (by omega), gK h5 hb, if_neg nb0, q1, zob_s]
            rw [if_neg (by decide), m_rd_n (by omega) (by omega), gK h5 ha, e, if_neg (by decide), m_rd_n (by omega) (by omega), gK h5 ha, e, if_neg (by decide), w1, zob_s]
            rw [if_neg (by decide), m_rd_n (by omega) (by omega), g5 h5 ha (by omega), oa, if_neg (by decide), m_rd_n (by omega) (by omega), g5 h5 hb (by omega), ob, oI_s, if_pos (nI_pos' (by omega))]
        | some x =>
          have hx := (pwO hwa oa).1
          cases ob : pO (P b) with
          | none =>
            refine ⟨M5, 0, fun n => ?_, l5, Or.inr ⟨(fun q => by
              rcases q with q | q | q
              · exact ka0 q
              · exact kb0 q
              · have := q.2.2 w2; rw [oa, ob] at this; cases this), rfl⟩⟩
            rw [f_Mod_goTogether_L13, if_neg c0, if_neg (by decide), zbind_e, e5, hM5, e5', m_rd_n (by omega) (by omega), rA', m_rd_n (by omega) (by omega), rB', m_rd_n (by omega) (by omega), gK h5 ha]
            rw [if_neg na0, m_rd_n (by omega) (by omega), gK h5 hb, if_neg nb0, q1, zob_s]
            rw [if_neg (by decide), m_rd_n (by omega) (by omega), gK h5 ha, e, if_neg (by decide), m_rd_n (by omega) (by omega), gK h5 ha, e, if_neg (by decide), w1, zob_s]
            rw [if_neg (by decide), m_rd_n (by omega) (by omega), g5 h5 ha (by omega), oa, oI_s, if_pos (nI_pos' (by omega)), m_rd_n (by omega) (by omega), g5 h5 hb (by omega), ob, if_neg (by decide)]
          | some y =>
            have hy := (pwO hwb ob).1
            obtain ⟨M6, e6, l6, s6⟩ := p_pair (M := M5) x y s5 (by omega)
            have h6 := PM_like h5 l6 (by simp) (by simp)
            refine ⟨M6, 1, fun n => ?_, mLike_tr l5 l6, Or.inl ⟨Or.inr (Or.inr ⟨q2, q3, fun _ => by rw [oa, ob]; rfl⟩), rfl, ?_⟩⟩
            · rw [f_Mod_goTogether_L13, if_neg c0, if_neg (by decide), zbind_e, e5, hM5, e5', m_rd_n (by omega) (by omega), rA', m_rd_n (by omega) (by omega), rB', m_rd_n (by omega) (by omega), gK h5 ha]
              rw [if_neg na0, m_rd_n (by omega) (by omega), gK h5 hb, if_neg nb0, q1, zob_s]
              rw [if_neg (by decide), m_rd_n (by omega) (by omega), gK h5 ha, e, if_neg (by decide), m_rd_n (by omega) (by omega), gK h5 ha, e, if_neg (by decide), w1, zob_s]
              rw [if_neg (by decide), m_rd_n (by omega) (by omega), g5 h5 ha (by omega), oa, oI_s, if_pos (nI_pos' (by omega)), m_rd_n (by omega) (by omega), g5 h5 hb (by omega), ob, oI_s, if_pos (nI_pos' (by omega)), m_rd_n (by omega) (by omega), g5 h5 ha (by omega), oa, oI_s, if_neg (nI_pos (by omega)), m_rd_n (by omega) (by omega), g5 h5 ha (by omega), oa, oI_s, m_rd_n (by omega) (by omega), g5 h5 hb (by omega), ob, oI_s, e6, zob_s, m_rd_n (by omega) (by omega), gK h6 ha, e, if_pos (by decide)]
            · unfold kidG; rw [if_neg (by simp [ka0, kb0, w2])]; unfold kk; rw [if_neg (by omega), oa, ob]; exact s6
      · refine ⟨M5, 1, fun n => ?_, l5, Or.inl ⟨Or.inr (Or.inr ⟨q2, q3, fun q => absurd q w2⟩), rfl, by unfold kidG; rw [if_pos (Or.inr (Or.inr w2))]; simpa using s5⟩⟩
        rw [f_Mod_goTogether_L13, if_neg c0, if_neg (by decide), zbind_e, e5, hM5, e5', m_rd_n (by omega) (by omega), rA', m_rd_n (by omega) (by omega), rB', m_rd_n (by omega) (by omega), gK h5 ha]
        rw [if_neg na0, m_rd_n (by omega) (by omega), gK h5 hb, if_neg nb0, q1, zob_s]
        rw [if_neg (by decide), m_rd_n (by omega) (by omega), gK h5 ha, e, if_neg (by decide), m_rd_n (by omega) (by omega), gK h5 ha, e, if_neg (by decide), w1, zob_s]
        rw [if_pos (by decide), if_neg (by decide), m_rd_n (by omega) (by omega), gK h5 ha, e, if_pos (by decide)]
    · have eb : pK (P b) = 4 := q2 ▸ e
      obtain ⟨M6, e6, l6, s6⟩ := p_pairFields (M := M5) hn hl ha hb hwa hwb e eb h5 s5 hlen
      refine ⟨M6, 1, fun n => ?_, mLike_tr l5 l6, Or.inl ⟨Or.inr (Or.inr ⟨q2, q3, fun _ => by rw [pwN hwa (Or.inr (Or.inr e)), pwN hwb (Or.inr (Or.inr eb))]⟩), rfl, ?_⟩⟩
      · rw [f_Mod_goTogether_L13, if_neg c0, if_neg (by decide), zbind_e, e5, hM5, e5', m_rd_n (by omega) (by omega), rA', m_rd_n (by omega) (by omega), rB', m_rd_n (by omega) (by omega), gK h5 ha]
        rw [if_neg na0, m_rd_n (by omega) (by omega), gK h5 hb, if_neg nb0, q1, zob_s]
        rw [if_neg (by decide), m_rd_n (by omega) (by omega), gK h5 ha, e, if_neg (by decide), m_rd_n (by omega) (by omega), gK h5 ha, e, if_pos (by decide), if_neg (by decide), m_rd_n (by omega) (by omega), gK h5 ha, e, if_neg (by decide), e6, zob_s]
      · unfold kidG; rw [if_neg (by simp [ka0, kb0, pw4 hwa e, pw4 hwb eb])]; unfold kk; rw [if_pos e]; exact s6
  · refine ⟨M5, 0, fun n => ?_, l5, Or.inr ⟨fun q => ?_, rfl⟩⟩
    · rw [f_Mod_goTogether_L13, if_neg c0, if_neg (by decide), zbind_e, e5, hM5, e5', m_rd_n (by omega) (by omega), rA', m_rd_n (by omega) (by omega), rB', m_rd_n (by omega) (by omega), gK h5 ha]
      rw [if_neg na0, m_rd_n (by omega) (by omega), gK h5 hb, if_neg nb0, q1, zob_s]
      rw [if_pos (by decide), if_pos (by decide)]
    · rcases q with q | q | q
      · exact ka0 q
      · exact kb0 q
      · exact q2 ⟨q.1, q.2.1⟩
theorem p_mt_step {a b : Nat} {st : List (Nat × Nat)} (hn : np ≤ 16384) (hl : nl ≤ 16384) (ha : a < np) (hb : b < np) (hwa : pwf nf fam bit P nl fl a) (hwb : pwf nf fam bit P nl fl b) (h : PM M np P nl fl) (hst : ST M (st ++ [(a, b)])) (hlen : st.length < 20000) : ∃ M' v, (∀ n, f_Mod_matches_L13 (n + 1) M 1 = f_Mod_matches_L13 n M' v) ∧ mLike [31, 32] [] [11] M M' ∧ ((lokM P a b ∧ v = 1 ∧ ST M' (st ++ kidM P fl a b)) ∨ (¬ lokM P a b ∧ v = 0)) := by
  obtain ⟨s5, rA, rB⟩ := p_pop hst
  have e11 : M.2.2 11 = nI (st.length + 1) := by rw [hst.1]; simp
  have e5 : M.2.2 11 - 1 = nI st.length := by rw [e11, nI_pred]
  have c0 : ¬ M.2.2 11 ≤ 0 := by rw [e11]; (simp (disch := omega) only [nI_1, nI_add, Int32.lt_iff_toInt_lt, Int32.le_iff_toInt_le, ← Int32.toInt_inj, nI_toInt, tI_0, tI_1, tI_2, tI_3, tI_4, tI_m1, tI_m2, tI_m3, tI_m4, tI_64, tI_128, tI_255, tI_256, tI_1000, tI_1024, tI_4096, tI_10000, tI_16384, tI_16386, tI_M]; omega)
  have l5 : mLike [31, 32] [] [11] M (m_sc M 11 (nI st.length)) := mLike_mono mLike_sc (by simp) (by simp) (by simp)
  have h5 := PM_like h l5 (by simp) (by simp)
  have hKa := pwK hwa
  have hKb := pwK hwb
  generalize hM5 : m_sc M 11 (nI st.length) = M5 at *
  have e5' : M5.2.2 11 = nI st.length := by rw [← hM5]; exact m_sc_at
  have rA' : M5.1 31 st.length = nI a := by rw [← hM5]; exact rA
  have rB' : M5.1 32 st.length = nI b := by rw [← hM5]; exact rB
  by_cases ka0 : pK (P a) = 0
  · refine ⟨M5, 1, fun n => ?_, l5, Or.inl ⟨Or.inl ka0, rfl, by unfold kidM; rw [if_pos ka0]; simpa using s5⟩⟩
    rw [f_Mod_matches_L13, if_neg c0, if_neg (by decide), zbind_e, e5, hM5, e5', m_rd_n (by omega) (by omega), rA', m_rd_n (by omega) (by omega), rB', m_rd_n (by omega) (by omega), gK h5 ha]
    rw [ka0, if_pos (by decide)]
  have na0 : ¬ nI (pK (P a)) = 0 := by (simp (disch := omega) only [nI_1, nI_add, Int32.lt_iff_toInt_lt, Int32.le_iff_toInt_le, ← Int32.toInt_inj, nI_toInt, tI_0, tI_1, tI_2, tI_3, tI_4, tI_m1, tI_m2, tI_m3, tI_m4, tI_64, tI_128, tI_255, tI_256, tI_1000, tI_1024, tI_4096, tI_10000, tI_16384, tI_16386, tI_M]; omega)
  rcases p_areOneSort hn ha hb hwa hwb h5 with ⟨q1, q2, q3⟩ | ⟨q1, q2⟩
  · rcases pwk5 hwa with e | e | e | e | e
    · exact absurd e ka0
    · by_cases d : pM (P a) = pM (P b)
      · refine ⟨M5, 1, fun n => ?_, l5, Or.inl ⟨Or.inr ⟨q2, q3, d, by rw [pwN hwa (Or.inr (Or.inl e)), pwN hwb (Or.inr (Or.inl (q2 ▸ e)))]⟩, rfl, ?_⟩⟩
        · rw [f_Mod_matches_L13, if_neg c0, if_neg (by decide), zbind_e, e5, hM5, e5', m_rd_n (by omega) (by omega), rA', m_rd_n (by omega) (by omega), rB', m_rd_n (by omega) (by omega), gK h5 ha]
          rw [if_neg na0, q1, zob_s]
          rw [if_neg (by decide), m_rd_n (by omega) (by omega), gK h5 ha, e, if_neg (by decide), m_rd_n (by omega) (by omega), m_rd_n (by omega) (by omega), gGn h5 ha (by omega), gGn h5 hb (by omega), if_neg (by simp [d])]
        · unfold kidM kk; rw [if_neg ka0, if_neg (by omega), pwN hwa (Or.inr (Or.inl e))]; simpa using s5
      · refine ⟨M5, 0, fun n => ?_, l5, Or.inr ⟨fun q => ?_, rfl⟩⟩
        · rw [f_Mod_matches_L13, if_neg c0, if_neg (by decide), zbind_e, e5, hM5, e5', m_rd_n (by omega) (by omega), rA', m_rd_n (by omega) (by omega), rB', m_rd_n (by omega) (by omega), gK h5 ha]
          rw [if_neg na0, q1, zob_s]
          rw [if_neg (by decide), m_rd_n (by omega) (by omega), gK h5 ha, e, if_neg (by decide), m_rd_n (by omega) (by omega), m_rd_n (by omega) (by omega), gGn h5 ha (by omega), gGn h5 hb (by omega), if_pos d]
        · rcases q with q | q
          · exact ka0 q
          · exact d q.2.2.1
    · have eb : pK (P b) = 2 := q2 ▸ e
      rcases p_areOne hn ha hb h5 (Or.inl e) q2 with ⟨w1, w2⟩ | ⟨w1, w2⟩
      · cases oa : pO (P a) with
        | none => cases ob : pO (P b) with
          | none =>
            refine ⟨M5, 1, fun n => ?_, l5, Or.inl ⟨Or.inr ⟨q2, q3, w2, by rw [oa, ob]⟩, rfl, ?_⟩⟩
            · rw [f_Mod_matches_L13, if_neg c0, if_neg (by decide), zbind_e, e5, hM5, e5', m_rd_n (by omega) (by omega), rA', m_rd_n (by omega) (by omega), rB', m_rd_n (by omega) (by omega), gK h5 ha]
              rw [if_neg na0, q1, zob_s]
              rw [if_neg (by decide), m_rd_n (by omega) (by omega), gK h5 ha, e, if_pos (by decide), if_neg (by decide), m_rd_n (by omega) (by omega), gK h5 ha, e, if_pos (by decide), if_neg (by decide), w1, zob_s]
              rw [if_neg (by decide), m_rd_n (by omega) (by omega), g5 h5 ha (by omega), oa, if_neg (by decide), m_rd_n (by omega) (by omega), g5 h5 hb (by omega), ob, if_neg (by decide), m_rd_n (by omega) (by omega), g5 h5 ha (by omega), oa, if_pos (by decide)]
            · unfold kidM kk; rw [if_neg ka0, if_neg (by omega), oa, ob]; simpa using s5
          | some y =>
            have hy := (pwO hwb ob).1
            refine ⟨M5, 0, fun n => ?_, l5, Or.inr ⟨(fun q => by
              rcases q with q | q
              · exact ka0 q
              · have := q.2.2.2; rw [oa, ob] at this; cases this), rfl⟩⟩
            rw [f_Mod_matches_L13, if_neg c0, if_neg (by decide), zbind_e, e5, hM5, e5', m_rd_n (by omega) (by omega), rA', m_rd_n (by omega) (by omega), rB', m_rd_n (by omega) (by omega), gK h5 ha]
            rw [if_neg na0, q1, zob_s]
            rw [if_neg (by decide), m_rd_n (by omega) (by omega), gK h5 ha, e, if_pos (by decide), if_neg (by decide), m_rd_n (by omega) (by omega), gK h5 ha, e, if_pos (by decide), if_neg (by decide), w1, zob_s]
            rw [if_neg (by decide), m_rd_n (by omega) (by omega), g5 h5 ha (by omega), oa, if_neg (by decide), m_rd_n (by omega) (by omega), g5 h5 hb (by omega), ob, oI_s, if_pos (nI_pos' (by omega))]
        | some x =>
          have hx := (pwO hwa oa).1
          cases ob : pO (P b) with
          | none =>
            refine ⟨M5, 0, fun n => ?_, l5, Or.inr ⟨(fun q => by
              rcases q with q | q
              · exact ka0 q
              · have := q.2.2.2; rw [oa, ob] at this; cases this), rfl⟩⟩
            rw [f_Mod_matches_L13, if_neg c0, if_neg (by decide), zbind_e, e5, hM5, e5', m_rd_n (by omega) (by omega), rA', m_rd_n (by omega) (by omega), rB', m_rd_n (by omega) (by omega), gK h5 ha]
            rw [if_neg na0, q1, zob_s]
            rw [if_neg (by decide), m_rd_n (by omega) (by omega), gK h5 ha, e, if_pos (by decide), if_neg (by decide), m_rd_n (by omega) (by omega), gK h5 ha, e, if_pos (by decide), if_neg (by decide), w1, zob_s]
            rw [if_neg (by decide), m_rd_n (by omega) (by omega), g5 h5 ha (by omega), oa, oI_s, if_pos (nI_pos' (by omega)), m_rd_n (by omega) (by omega), g5 h5 hb (by omega), ob, if_neg (by decide)]
          | some y =>
            have hy := (pwO hwb ob).1
            obtain ⟨M6, e6, l6, s6⟩ := p_pair (M := M5) x y s5 (by omega)
            refine ⟨M6, 1, fun n => ?_, mLike_tr l5 l6, Or.inl ⟨Or.inr ⟨q2, q3, w2, by rw [oa, ob]; rfl⟩, rfl, ?_⟩⟩
            · rw [f_Mod_matches_L13, if_neg c0, if_neg (by decide), zbind_e, e5, hM5, e5', m_rd_n (by omega) (by omega), rA', m_rd_n (by omega) (by omega), rB', m_rd_n (by omega) (by omega), gK h5 ha]
              rw [if_neg na0, q1, zob_s]
              rw [if_neg (by decide), m_rd_n (by omega) (by omega), gK h5 ha, e, if_pos (by decide), if_neg (by decide), m_rd_n (by omega) (by omega), gK h5 ha, e, if_pos (by decide), if_neg (by decide), w1, zob_s]
              rw [if_neg (by decide), m_rd_n (by omega) (by omega), g5 h5 ha (by omega), oa, oI_s, if_pos (nI_pos' (by omega)), m_rd_n (by omega) (by omega), g5 h5 hb (by omega), ob, oI_s, if_pos (nI_pos' (by omega)), m_rd_n (by omega) (by omega), g5 h5 ha (by omega), oa, oI_s, if_neg (nI_pos (by omega)), m_rd_n (by omega) (by omega), g5 h5 ha (by omega), oa, oI_s, m_rd_n (by omega) (by omega), g5 h5 hb (by omega), ob, oI_s, e6, zob_s]
            · unfold kidM kk; rw [if_neg ka0, if_neg (by omega), oa, ob]; exact s6
      · refine ⟨M5, 0, fun n => ?_, l5, Or.inr ⟨fun q => ?_, rfl⟩⟩
        · rw [f_Mod_matches_L13, if_neg c0, if_neg (by decide), zbind_e, e5, hM5, e5', m_rd_n (by omega) (by omega), rA', m_rd_n (by omega) (by omega), rB', m_rd_n (by omega) (by omega), gK h5 ha]
          rw [if_neg na0, q1, zob_s]
          rw [if_neg (by decide), m_rd_n (by omega) (by omega), gK h5 ha, e, if_pos (by decide), if_neg (by decide), m_rd_n (by omega) (by omega), gK h5 ha, e, if_pos (by decide), if_neg (by decide), w1, zob_s]
          rw [if_pos (by decide)]
        · rcases q with q | q
          · exact ka0 q
          · exact w2 q.2.2.1
    · have eb : pK (P b) = 3 := q2 ▸ e
      rcases p_areOne hn ha hb h5 (Or.inr e) q2 with ⟨w1, w2⟩ | ⟨w1, w2⟩
      · cases oa : pO (P a) with
        | none => cases ob : pO (P b) with
          | none =>
            refine ⟨M5, 1, fun n => ?_, l5, Or.inl ⟨Or.inr ⟨q2, q3, w2, by rw [oa, ob]⟩, rfl, ?_⟩⟩
            · rw [f_Mod_matches_L13, if_neg c0, if_neg (by decide), zbind_e, e5, hM5, e5', m_rd_n (by omega) (by omega), rA', m_rd_n (by omega) (by omega), rB', m_rd_n (by omega) (by omega), gK h5 ha]
              rw [if_neg na0, q1, zob_s]
              rw [if_neg (by decide), m_rd_n (by omega) (by omega), gK h5 ha, e, if_pos (by decide), if_neg (by decide), m_rd_n (by omega) (by omega), gK h5 ha, e, if_pos (by decide), if_neg (by decide), w1, zob_s]
              rw [if_neg (by decide), m_rd_n (by omega) (by omega), g5 h5 ha (by omega), oa, if_neg (by decide), m_rd_n (by omega) (by omega), g5 h5 hb (by omega), ob, if_neg (by decide), m_rd_n (by omega) (by omega), g5 h5 ha (by omega), oa, if_pos (by decide)]
            · unfold kidM kk; rw [if_neg ka0, if_neg (by omega), oa, ob]; simpa using s5
          | some y =>
            have hy := (pwO hwb ob).1
            refine ⟨M5, 0, fun n => ?_, l5, Or.inr ⟨(fun q => by
              rcases q with q | q
              · exact ka0 q
              · have := q.2.2.2; rw [oa, ob] at this; cases this), rfl⟩⟩
            rw [f_Mod_matches_L13, if_neg c0, if_neg (by decide), zbind_e, e5, hM5, e5', m_rd_n (by omega) (by omega), rA', m_rd_n (by omega) (by omega), rB', m_rd_n (by omega) (by omega), gK h5 ha]
            rw [if_neg na0, q1, zob_s]
            rw [if_neg (by decide), m_rd_n (by omega) (by omega), gK h5 ha, e, if_pos (by decide), if_neg (by decide), m_rd_n (by omega) (by omega), gK h5 ha, e, if_pos (by decide), if_neg (by decide), w1, zob_s]
            rw [if_neg (by decide), m_rd_n (by omega) (by omega), g5 h5 ha (by omega), oa, if_neg (by decide), m_rd_n (by omega) (by omega), g5 h5 hb (by omega), ob, oI_s, if_pos (nI_pos' (by omega))]
        | some x =>
          have hx := (pwO hwa oa).1
          cases ob : pO (P b) with
          | none =>
            refine ⟨M5, 0, fun n => ?_, l5, Or.inr ⟨(fun q => by
              rcases q with q | q
              · exact ka0 q
              · have := q.2.2.2; rw [oa, ob] at this; cases this), rfl⟩⟩
            rw [f_Mod_matches_L13, if_neg c0, if_neg (by decide), zbind_e, e5, hM5, e5', m_rd_n (by omega) (by omega), rA', m_rd_n (by omega) (by omega), rB', m_rd_n (by omega) (by omega), gK h5 ha]
            rw [if_neg na0, q1, zob_s]
            rw [if_neg (by decide), m_rd_n (by omega) (by omega), gK h5 ha, e, if_pos (by decide), if_neg (by decide), m_rd_n (by omega) (by omega), gK h5 ha, e, if_pos (by decide), if_neg (by decide), w1, zob_s]
            rw [if_neg (by decide), m_rd_n (by omega) (by omega), g5 h5 ha (by omega), oa, oI_s, if_pos (nI_pos' (by omega)), m_rd_n (by omega) (by omega), g5 h5 hb (by omega), ob, if_neg (by decide)]
          | some y =>
            have hy := (pwO hwb ob).1
            obtain ⟨M6, e6, l6, s6⟩ := p_pair (M := M5) x y s5 (by omega)
            refine ⟨M6, 1, fun n => ?_, mLike_tr l5 l6, Or.inl ⟨Or.inr ⟨q2, q3, w2, by rw [oa, ob]; rfl⟩, rfl, ?_⟩⟩
            · rw [f_Mod_matches_L13, if_neg c0, if_neg (by decide), zbind_e, e5, hM5, e5', m_rd_n (by omega) (by omega), rA', m_rd_n (by omega) (by omega), rB', m_rd_n (by omega) (by omega), gK h5 ha]
              rw [if_neg na0, q1, zob_s]
              rw [if_neg (by decide), m_rd_n (by omega) (by omega), gK h5 ha, e, if_pos (by decide), if_neg (by decide), m_rd_n (by omega) (by omega), gK h5 ha, e, if_pos (by decide), if_neg (by decide), w1, zob_s]
              rw [if_neg (by decide), m_rd_n (by omega) (by omega), g5 h5 ha (by omega), oa, oI_s, if_pos (nI_pos' (by omega)), m_rd_n (by omega) (by omega), g5 h5 hb (by omega), ob, oI_s, if_pos (nI_pos' (by omega)), m_rd_n (by omega) (by omega), g5 h5 ha (by omega), oa, oI_s, if_neg (nI_pos (by omega)), m_rd_n (by omega) (by omega), g5 h5 ha (by omega), oa, oI_s, m_rd_n (by omega) (by omega), g5 h5 hb (by omega), ob, oI_s, e6, zob_s]
            · unfold kidM kk; rw [if_neg ka0, if_neg (by omega), oa, ob]; exact s6
      · refine ⟨M5, 0, fun n => ?_, l5, Or.inr ⟨fun q => ?_, rfl⟩⟩
        · rw [f_Mod_matches_L13, if_neg c0, if_neg (by decide), zbind_e, e5, hM5, e5', m_rd_n (by omega) (by omega), rA', m_rd_n (by omega) (by omega), rB', m_rd_n (by omega) (by omega), gK h5 ha]
          rw [if_neg na0, q1, zob_s]
          rw [if_neg (by decide), m_rd_n (by omega) (by omega), gK h5 ha, e, if_pos (by decide), if_neg (by decide), m_rd_n (by omega) (by omega), gK h5 ha, e, if_pos (by decide), if_neg (by decide), w1, zob_s]
          rw [if_pos (by decide)]
        · rcases q with q | q
          · exact ka0 q
          · exact w2 q.2.2.1
    · have eb : pK (P b) = 4 := q2 ▸ e
      obtain ⟨M6, e6, l6, s6⟩ := p_pairFields (M := M5) hn hl ha hb hwa hwb e eb h5 s5 hlen
      refine ⟨M6, 1, fun n => ?_, mLike_tr l5 l6, Or.inl ⟨Or.inr ⟨q2, q3, by rw [pw4 hwa e, pw4 hwb eb], by rw [pwN hwa (Or.inr (Or.inr e)), pwN hwb (Or.inr (Or.inr eb))]⟩, rfl, ?_⟩⟩
      · rw [f_Mod_matches_L13, if_neg c0, if_neg (by decide), zbind_e, e5, hM5, e5', m_rd_n (by omega) (by omega), rA', m_rd_n (by omega) (by omega), rB', m_rd_n (by omega) (by omega), gK h5 ha]
        rw [if_neg na0, q1, zob_s]
        rw [if_neg (by decide), m_rd_n (by omega) (by omega), gK h5 ha, e, if_pos (by decide), if_neg (by decide), m_rd_n (by omega) (by omega), gK h5 ha, e, if_neg (by decide), e6, zob_s]
      · unfold kidM kk; rw [if_neg ka0, if_pos e]; exact s6
  · refine ⟨M5, 0, fun n => ?_, l5, Or.inr ⟨fun q => ?_, rfl⟩⟩
    · rw [f_Mod_matches_L13, if_neg c0, if_neg (by decide), zbind_e, e5, hM5, e5', m_rd_n (by omega) (by omega), rA', m_rd_n (by omega) (by omega), rB', m_rd_n (by omega) (by omega), gK h5 ha]
      rw [if_neg na0, q1, zob_s]
      rw [if_pos (by decide), if_pos (by decide), if_pos (by decide)]
    · rcases q with q | q
      · exact ka0 q
      · exact q2 ⟨q.1, q.2.1⟩
end PHN
