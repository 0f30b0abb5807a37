-- PURE LAYER: the reference lays a rule
def Cons (T : Tr) (P : Nat → Pt) (p q : Nat) : Prop := (tH T p).1 = 0 ∨ tH T p = (pK (P q), pS (P q))
section PMK
variable {nf : Nat} {fam : Nat → Nat} {bit : Nat → Int64} {np : Nat} {P : Nat → Pt} {nl : Nat} {fl : Nat → Nat × Nat} {M : zM} {T : Tr} {nr : Nat} {sa : Nat → Nat}
/-- the arrays and numbers that laying changes -/
def mLy (M M' : zM) : Prop := mLike [14, 15, 16, 17, 18, 20, 21, 22, 31, 32] [19] [6, 11] M M'
theorem PM_ly {M M' : zM} (h : PM M np P nl fl) (k : mLy M M') : PM M' np P nl fl := PM_like h k (by decide) (by decide)
theorem mLy_of {ks ls ns : List Nat} {M M' : zM} (h : mLike ks ls ns M M') (h1 : ∀ k, k ∈ ks → k ∈ [14, 15, 16, 17, 18, 20, 21, 22, 31, 32]) (h2 : ∀ k, k ∈ ls → k ∈ [19]) (h3 : ∀ k, k ∈ ns → k ∈ [6, 11]) : mLy M M' := mLike_mono h h1 h2 h3
theorem ST_like {ks ls ns : List Nat} {M' : zM} {st : List (Nat × Nat)} (h : ST M st) (hl : mLike ks ls ns M M') (h1 : 31 ∉ ks) (h2 : 32 ∉ ks) (h3 : 11 ∉ ns) : ST M' st := by
  unfold ST
  rw [hl.2.2 11 h3, hl.1 31 h1, hl.1 32 h2]; exact h
theorem TMo_shape (hM : TMo M T nr sa) (hC : CI T) {p q : Nat} (hp : p < tQ T) (hc : Cons T P p q) (hk : pK (P q) ≠ 0) (hk4 : pK (P q) ≠ 4) : TMo M (tShape T p (pK (P q), pS (P q))) nr sa := by
  obtain ⟨bl, nb, a1, a2, a3, a4, a5, a6⟩ := hM
  refine ⟨bl, nb, a1, fun c h1 h2 => ?_, fun p' h2 => ?_, a4, a5, a6⟩
  · have h2 : c < tQ T := h2
    have e : (va_up (tH T) p (pK (P q), pS (P q)) (tU T c)).1 = (tH T (tU T c)).1 := by
      by_cases d : tU T c = p
      · rw [d, va_s]
        rcases hc with y | y
        · have := hC c h1 h2; rw [d] at this; exact absurd y this
        · rw [y]
      · rw [va_n d]
    show M.1 17 c = nI (tU T c) ∧ M.1 18 c = stpOf (va_up (tH T) p (pK (P q), pS (P q)) (tU T c)).1 (tL T c) ∧ M.2.1 19 c = wayOf (va_up (tH T) p (pK (P q), pS (P q)) (tU T c)).1 (tL T c) ∧ M.1 21 c = oI (nb c)
    rw [e]; exact a2 c h1 h2
  · obtain ⟨b1, b2, b3, b4⟩ := a3 p' h2
    refine ⟨b1, b2, b3, ?_⟩
    show M.1 22 p' = szOf (va_up (tH T) p (pK (P q), pS (P q)) p')
    by_cases d : p' = p
    · subst d
      rw [va_s, b4]
      unfold szOf
      rw [if_neg (show ¬ (pK (P q), pS (P q)).1 = 4 from hk4)]
      rcases hc with y | y
      · rw [if_neg (by omega)]
      · rw [y, if_neg (show ¬ (pK (P q), pS (P q)).1 = 4 from hk4)]
    · rw [va_n d]; exact b4
theorem TMo_shape4 (hM : TMo M T nr sa) (hC : CI T) {p q : Nat} (hp : p < tQ T) (hc : Cons T P p q) (hk4 : pK (P q) = 4) : TMo (m_set M 22 p (pS (P q))) (tShape T p (pK (P q), pS (P q))) nr sa := by
  obtain ⟨bl, nb, a1, a2, a3, a4, a5, a6⟩ := hM
  refine ⟨bl, nb, a1, fun c h1 h2 => ?_, fun p' h2 => ?_, a4, a5, a6⟩
  · have h2 : c < tQ T := h2
    have e : (va_up (tH T) p (pK (P q), pS (P q)) (tU T c)).1 = (tH T (tU T c)).1 := by
      by_cases d : tU T c = p
      · rw [d, va_s]
        rcases hc with y | y
        · have := hC c h1 h2; rw [d] at this; exact absurd y this
        · rw [y]
      · rw [va_n d]
    show M.1 17 c = nI (tU T c) ∧ M.1 18 c = stpOf (va_up (tH T) p (pK (P q), pS (P q)) (tU T c)).1 (tL T c) ∧ M.2.1 19 c = wayOf (va_up (tH T) p (pK (P q), pS (P q)) (tU T c)).1 (tL T c) ∧ M.1 21 c = oI (nb c)
    rw [e]; exact a2 c h1 h2
  · obtain ⟨b1, b2, b3, b4⟩ := a3 p' h2
    refine ⟨b1, b2, b3, ?_⟩
    show upd (M.1 22) p (pS (P q)) p' = szOf (va_up (tH T) p (pK (P q), pS (P q)) p')
    by_cases d : p' = p
    · subst d
      rw [va_s, upd_s]
      unfold szOf
      rw [if_pos (show (pK (P q), pS (P q)).1 = 4 from hk4)]
    · rw [va_n d, upd_n d]; exact b4
theorem CI_shape (hC : CI T) {p : Nat} {x : Nat × Int32} (hx : x.1 ≠ 0) : CI (tShape T p x) := by
  intro c h1 h2
  show (va_up (tH T) p x (tU T c)).1 ≠ 0
  by_cases d : tU T c = p
  · rw [d, va_s]; exact hx
  · rw [va_n d]; exact hC c h1 h2
theorem CI_child (hC : CI T) (hT : TW T) {p : Nat} {l : Int32} (hp : p < tQ T) (hs : (tH T p).1 ≠ 0) : CI (tChild T p l).1 := by
  obtain ⟨t1, t2, t3, t4, t5, t6, t7, t8, t9, t10, t11, t12⟩ := tChild_ok hT hp l
  intro c h1 h2
  by_cases d : c < tQ T
  · have hu := hT.2.1 c h1 d
    rw [(t10 c d).1, (t10 _ (by omega)).2.2]; exact hC c h1 d
  · have hc : c = (tChild T p l).2 := by have := t11 (by omega); omega
    rw [hc, t6, (t10 p hp).2.2]; exact hs
theorem nI_dn (b : Nat) (h : b < 2 ^ 31) : nI b + (-1) < nI b := by
  cases b with
  | zero => decide
  | succ b => rw [pk_m1]; exact nI_lt (by omega) h
theorem p_askF (hW : PWF nf fam bit np P nl fl) {q p : Nat} (hq : q < np) (e4 : pK (P q) = 4) : ∀ k n M T st, k ≤ pN (P q) → k < n → PM M np P nl fl → TMo M T nr sa → TW T → CI T → p < tQ T → (tH T p).1 = 4 → tQ T + k < 16387 → ST M st → st.length + k < 20000 → ∃ M', f_Mod_ask_L38 n M (nI q) (nI p) (nI (pB (P q) + k) + (-1)) = some M' ∧ mLy M M' ∧ TMo M' (tFields P fl q p k T st).1 nr sa ∧ CI (tFields P fl q p k T st).1 ∧ ST M' (tFields P fl q p k T st).2 := by
  obtain ⟨hnp, hnl, -, -, hw⟩ := hW
  have hwq := hw q hq
  have hB := pwB hwq
  intro k
  induction k with
  | zero =>
    intro n M T st _ hn hP hM hT hC hp hs hQ hst hlen
    cases n with
    | zero => omega
    | succ n =>
      unfold f_Mod_ask_L38
      rw [m_rd_n (by omega) (by omega), g4 hP hq e4, Nat.add_zero, if_pos (nI_dn _ (by omega))]
      exact ⟨M, rfl, mLike_rf, hM, hC, hst⟩
  | succ k ih =>
    intro n M T st hk hn hP hM hT hC hp hs hQ hst hlen
    cases n with
    | zero => omega
    | succ n =>
      have hkp := pwP hwq (j := k) (by omega)
      unfold f_Mod_ask_L38
      have e1 : nI (pB (P q) + (k + 1)) + (-1) = nI (pB (P q) + k) := pk_m1 (pB (P q) + k)
      rw [m_rd_n (by omega) (by omega), g4 hP hq e4, e1, if_neg (nI_nlt (by omega) (by omega)), m_rd_n (by omega) (by omega), (hP.2.2.2 _ (by omega)).2, m_rd_n (by omega) (by omega), m_rd_n (by omega) (by omega), (hP.2.2.2 _ (by omega)).1]
      obtain ⟨M1, a1, a2, a3⟩ := p_placeBelow hM hT hp (by omega) (nI (fN P fl q k)) (by omega)
      rw [hs] at a1
      have a1' : f_Mod_placeBelow M (nI p) (nI (fl (pB (P q) + k)).1 + 1) (nI (fl (pB (P q) + k)).1 + 1).toInt64 = some (M1, nI (tChild T p (nI (fN P fl q k))).2) := a1
      rw [a1', zob2_s]
      obtain ⟨t1, t2, t3, t4, t5, t6, t7, t8, t9, t10, t11, t12⟩ := tChild_ok hT hp (nI (fN P fl q k))
      obtain ⟨M2, b1, b2, b3⟩ := p_pair (M := M1) (fP P fl q k) (tChild T p (nI (fN P fl q k))).2 (ST_like hst a2 (by decide) (by decide) (by decide)) (by omega)
      have b1' : f_Mod_pair M1 (nI (fl (pB (P q) + k)).2) (nI (tChild T p (nI (fN P fl q k))).2) = some M2 := b1
      rw [b1', zob_s]
      have l12 : mLy M M2 := mLike_tr (mLy_of a2 (by simp) (by simp) (by simp)) (mLy_of b2 (by simp) (by simp) (by simp))
      obtain ⟨M3, c1, c2, c3, c4, c5⟩ := ih n M2 (tChild T p (nI (fN P fl q k))).1 (st ++ [(fP P fl q k, (tChild T p (nI (fN P fl q k))).2)]) (by omega) (by omega) (PM_ly hP l12) (TMo_like a3 b2 (by simp) (by simp) (by simp)) t1 (CI_child hC hT hp (by omega)) (by omega) (by rw [(t10 p hp).2.2]; exact hs) (by omega) b3 (by simp; omega)
      exact ⟨M3, c1, mLike_tr l12 c2, c3, c4, c5⟩
theorem p_mask (hW : PWF nf fam bit np P nl fl) {q p r : Nat} {st : List (Nat × Nat)} (hq : q < np) (hr : nr = r + 1) (hr2 : r < 1024) (h4 : M.2.2 4 = nI r) (hP : PM M np P nl fl) (hM : TMo M T nr sa) (hT : TW T) (hC : CI T) (hp : p < tQ T) (hc : pK (P q) ≠ 0 → Cons T P p q) (hQ : tQ T + pN (P q) + 1 < 16387) (hA : tA T < 16385) (hst : ST M st) (hlen : st.length < 19000) : ∃ M', f_Mod_ask M (nI q) (nI p) = some M' ∧ mLy M M' ∧ TMo M' (tStep P fl r q p T st).1 nr sa ∧ CI (tStep P fl r q p T st).1 ∧ ST M' (tStep P fl r q p T st).2 := by
  have hW' := hW
  obtain ⟨hnp, hnl, -, -, hw⟩ := hW
  have hwq := hw q hq
  have hB := pwB hwq
  have hKq := pwK hwq
  unfold f_Mod_ask tStep
  rw [m_rd_n (by omega) (by omega), gK hP hq]
  by_cases e4 : pK (P q) = 4
  · rw [if_neg (by rw [e4]; decide), if_pos e4, m_rd_n (by omega) (by omega), gFn hP hq (by omega), m_wr_n (by omega) (by omega), nI_clamp (by omega), m_rd_n (by omega) (by omega), m_rd_n (by omega) (by omega), zbind_e]
    have hl : mLike [22] [] [] M (m_set M 22 p (pS (P q))) := mLike_set
    have hP1 := PM_like hP hl (by simp) (by simp)
    have hM1 := TMo_shape4 hM hC hp (hc (by omega)) e4
    rw [g4 hP1 hq e4, gN hP1 hq, nI_add, Int32.sub_eq_add_neg]
    obtain ⟨M2, a1, a2, a3, a4, a5⟩ := p_askF (nr := nr) (sa := sa) hW' (p := p) hq e4 (pN (P q)) zbig (m_set M 22 p (pS (P q))) (tShape T p (pK (P q), pS (P q))) st (Nat.le_refl _) (by unfold zbig; omega) hP1 hM1 hT (CI_shape hC (by show pK (P q) ≠ 0; omega)) hp (by show (va_up (tH T) p (pK (P q), pS (P q)) p).1 = 4; rw [va_s]; exact e4) (by show tQ T + _ < _; omega) (ST_like hst hl (by decide) (by decide) (by decide)) (by omega)
    exact ⟨M2, a1, mLike_tr (mLy_of hl (by simp) (by simp) (by simp)) a2, a3, a4, a5⟩
  · rw [if_pos (by (simp (disch := omega) only [nI_1, nI_add, Int32.lt_iff_toInt_lt, Int32.le_iff_toInt_le, ← Int32.toInt_inj, nI_toInt, tI_0, tI_1, tI_2, tI_3, tI_4, tI_m1, tI_m2, tI_m3, tI_m4, tI_64, tI_128, tI_255, tI_256, tI_1000, tI_1024, tI_4096, tI_10000, tI_16384, tI_16386, tI_M]; omega)), if_neg e4, m_rd_n (by omega) (by omega), gK hP hq]
    by_cases e0 : pK (P q) = 0
    · rw [if_pos (by rw [e0]; rfl), if_pos e0]
      exact ⟨M, rfl, mLike_rf, hM, hC, hst⟩
    · rw [if_neg (by (simp (disch := omega) only [nI_1, nI_add, Int32.lt_iff_toInt_lt, Int32.le_iff_toInt_le, ← Int32.toInt_inj, nI_toInt, tI_0, tI_1, tI_2, tI_3, tI_4, tI_m1, tI_m2, tI_m3, tI_m4, tI_64, tI_128, tI_255, tI_256, tI_1000, tI_1024, tI_4096, tI_10000, tI_16384, tI_16386, tI_M]; omega)), if_neg e0]
      have hM1 := TMo_shape hM hC hp (hc e0) e0 e4
      obtain ⟨bl, nb, b1, b2, b3, b4, b5, b6⟩ := hM1
      have b6' : M.1 14 (r + 1) = nI (tA T) := by rw [← hr]; exact b6
      rw [h4, nI_1, m_rd_n (by omega) (by omega), b6', m_wr_n (by omega) (by omega), nI_clamp (by omega), m_wr_n (by omega) (by omega)]
      have s4 : ∀ x y, (m_set (m_set M 15 (tA T) x) 16 (tA T) y).2.2 4 = nI r := fun x y => h4
      rw [s4, nI_1, nI_clamp (by omega), m_wr_n (by omega) (by omega), nI_1]
      generalize hM8 : m_set (m_set (m_set M 15 (tA T) (nI p)) 16 (tA T) (nI q)) 14 (r + 1) (nI (tA T + 1)) = M8
      have l8 : mLike [14, 15, 16] [] [] M M8 := by
        rw [← hM8]
        refine ⟨fun k hk => ?_, fun _ _ => rfl, fun _ _ => rfl⟩
        have : k ≠ 14 ∧ k ≠ 15 ∧ k ≠ 16 := by simpa using hk
        rw [m_set_ne this.1, m_set_ne this.2.2, m_set_ne this.2.1]
      have hP8 := PM_like hP l8 (by simp) (by simp)
      have ST8 := ST_like hst l8 (by decide) (by decide) (by decide)
      have ly8 : mLy M M8 := mLy_of l8 (by simp) (by simp) (by simp)
      have T8 : TMo M8 (tAsked P r q p T) nr sa := by
        rw [← hM8]
        refine ⟨bl, nb, b1, b2, b3, fun k hk => ?_, fun r' hr' => ?_, ?_⟩
        · have hk : k < tA T + 1 := hk
          show upd (M.1 15) (tA T) (nI p) k = nI (va_up (tK T) (tA T) (r, p, q) k).2.1 ∧ upd (M.1 16) (tA T) (nI q) k = nI (va_up (tK T) (tA T) (r, p, q) k).2.2
          by_cases d : k = tA T
          · subst d; rw [upd_s, upd_s, va_s]; exact ⟨rfl, rfl⟩
          · rw [upd_n d, upd_n d, va_n d]; exact b4 k (by show k < tA T; omega)
        · show upd (M.1 14) (r + 1) (nI (tA T + 1)) r' = _
          rw [upd_n (by omega)]; exact b5 r' hr'
        · show upd (M.1 14) (r + 1) (nI (tA T + 1)) nr = _
          rw [hr, upd_s]; rfl
      have C8 : CI (tAsked P r q p T) := CI_shape hC e0
      rw [m_rd_n (by omega) (by omega), g5 hP8 hq e4]
      cases ox : pO (P q) with
      | none =>
        rw [oI_n, if_pos (by decide)]
        exact ⟨M8, rfl, ly8, T8, C8, ST8⟩
      | some x =>
        have hx := (pwO hwq ox).1
        have k23 : pK (P q) = 2 ∨ pK (P q) = 3 := by
          rcases pwk5 hwq with e | e | e | e | e
          · exact absurd e e0
          · have := pwN hwq (Or.inr (Or.inl e)); rw [ox] at this; cases this
          · exact Or.inl e
          · exact Or.inr e
          · exact absurd e e4
        dsimp only
        rw [oI_s, if_neg (nI_pos (by omega)), m_rd_n (by omega) (by omega), g5 hP8 hq e4, ox, oI_s]
        have enum : f_Mod_numberOf M8 (nI q) = some (pM (P q)).toInt64 := by
          unfold f_Mod_numberOf
          rw [m_rd_n (by omega) (by omega), gK hP8 hq]
          rcases k23 with e | e
          · rw [if_pos (by rw [e]; decide), m_rd_n (by omega) (by omega), gGn hP8 hq (by omega)]
          · rw [if_neg (by rw [e]; decide), m_rd_n (by omega) (by omega), gF3 hP8 hq e]
        have eins : f_Mod_inside M8 (nI q) (pM (P q)).toInt64 = some (wayOf (pK (P q)) (pM (P q))) := by
          unfold f_Mod_inside wayOf
          rw [m_rd_n (by omega) (by omega), gK hP8 hq, if_neg e4]
          rcases k23 with e | e
          · rw [if_neg (by rw [e]; decide), if_pos e]
          · rw [if_pos (by rw [e]; decide), if_neg (by omega)]
        rw [enum, zob_s, eins, zob_s]
        have hTA : TW (tAsked P r q p T) := hT
        have hpA : p < tQ (tAsked P r q p T) := hp
        have hsh : (tH (tAsked P r q p T) p).1 = pK (P q) := by show (va_up (tH T) p (pK (P q), pS (P q)) p).1 = _; rw [va_s]
        obtain ⟨M9, c1, c2, c3⟩ := p_placeBelow T8 hTA hpA (by show tQ T < _; omega) (pM (P q)) (by rw [hsh]; exact e0)
        rw [hsh] at c1
        have est : stpOf (pK (P q)) (pM (P q)) = 1 := by unfold stpOf; rw [if_neg e4]
        rw [est] at c1
        rw [c1, zob2_s]
        obtain ⟨t1, t2, t3, t4, t5, t6, t7, t8, t9, t10, t11, t12⟩ := tChild_ok hTA hpA (pM (P q))
        obtain ⟨M10, d1, d2, d3⟩ := p_pair (M := M9) x (tChild (tAsked P r q p T) p (pM (P q))).2 (ST_like ST8 c2 (by decide) (by decide) (by decide)) (by omega)
        rw [d1, zob_s]
        exact ⟨M10, rfl, mLike_tr ly8 (mLike_tr (mLy_of c2 (by simp) (by simp) (by simp)) (mLy_of d2 (by simp) (by simp) (by simp))), TMo_like c3 d2 (by simp) (by simp) (by simp), CI_child C8 hTA hpA (by rw [hsh]; exact e0), d3⟩
end PMK
