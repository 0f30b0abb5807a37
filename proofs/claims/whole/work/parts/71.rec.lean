-- PURE LAYER: the call record
section PRE
variable {n : Nat} {S : zS} {M : zM} {nf : Nat} {fam : Nat → Nat} {bit : Nat → Int64} {np : Nat} {P : Nat → Pt} {nl : Nat} {fl : Nat → Nat × Nat} {m : Nat} {ps : Nat → Nat × Nat}
/-- c fields stand below t -/
def cur (m : Nat) (ps : Nat → Nat × Nat) (t c : Nat) : Prop := c ≤ m ∧ (∀ j, j < c → (ps j).1 < t) ∧ ∀ j, c ≤ j → j < m → t ≤ (ps j).1
theorem cur_0 : cur m ps 0 0 := ⟨Nat.zero_le _, fun j h => by omega, fun j _ _ => Nat.zero_le _⟩
theorem cur_step (hs : ∀ i j, i < j → j < m → (ps i).1 < (ps j).1) {t c : Nat} (h : cur m ps t c) : (c < m ∧ (ps c).1 = t ∧ plk ps t m = some (ps c).2 ∧ cur m ps (t + 1) (c + 1)) ∨ (plk ps t m = none ∧ cur m ps (t + 1) c ∧ ∀ j, j < m → (ps j).1 ≠ t) := by
  obtain ⟨h1, h2, h3⟩ := h
  by_cases q : c < m ∧ (ps c).1 = t
  · left
    refine ⟨q.1, q.2, by rw [← q.2]; exact plk_at q.1 hs, by omega, fun j hj => ?_, fun j k1 k2 => ?_⟩
    · by_cases e : j = c
      · subst e; omega
      · have := h2 j (by omega); omega
    · have := hs c j (by omega) k2; omega
  · right
    have no : ∀ j, j < m → (ps j).1 ≠ t := fun j hj e => by
      by_cases d : j < c
      · have := h2 j d; omega
      · by_cases d2 : j = c
        · subst d2; exact q ⟨hj, e⟩
        · have a := h3 c (Nat.le_refl _) (by omega)
          have b := hs c j (by omega) hj
          omega
    refine ⟨plk_no no, ⟨h1, fun j hj => by have := h2 j hj; omega, fun j k1 k2 => ?_⟩, no⟩
    have a := h3 j k1 k2
    have b := no j k2
    omega
theorem cur_end {t c : Nat} (h : cur m ps t c) (hb : ∀ j, j < m → (ps j).1 < t) : c = m := by
  obtain ⟨h1, h2, h3⟩ := h
  rcases Nat.lt_or_ge c m with q | q
  · have a := h3 c (Nat.le_refl _) q
    have b := hb c q
    omega
  · omega
theorem c_psh (h : UC S m ps) {t : Nat} (ht : t < 128) : f_Psh_at S (nI t) = oI (plk ps t m) := by unfold f_Psh_at; rw [r_at_rd, h.1, rowOf_rd ht (by omega)]
theorem p_reaches (h : UC S m ps) (hW : UW m ps np) (hnp : np ≤ 16384) : ∀ k t, t ≤ 128 → 128 - t < k → (f_Psh_reachesTo_L2 k S (nI t) = some 0 ∧ ∀ j, j < m → (ps j).1 < t) ∨ (f_Psh_reachesTo_L2 k S (nI t) = some 1 ∧ ∃ j, j < m ∧ t ≤ (ps j).1) := by
  intro k
  induction k with
  | zero => intro t _ h; omega
  | succ k ih =>
    intro t ht hlt
    unfold f_Psh_reachesTo_L2
    by_cases c : t = 128
    · subst c
      rw [if_pos (by decide)]
      exact Or.inl ⟨rfl, fun j hj => (hW.1 j hj).1⟩
    · rw [if_neg (by (simp (disch := omega) only [nI_1, nI_add, Int32.lt_iff_toInt_lt, Int32.le_iff_toInt_le, ← Int32.toInt_inj, nI_toInt, tI_0, tI_1, tI_2, tI_3, tI_4, tI_m1, tI_m2, tI_m3, tI_m4, tI_64, tI_128, tI_255, tI_256, tI_1000, tI_1024, tI_4096, tI_10000, tI_16384, tI_16386, tI_M]; omega))]
      have er : r_at S 10 (nI t) = oI (plk ps t m) := c_psh h (by omega)
      rw [er]
      cases q : plk ps t m with
      | none =>
        rw [oI_n, if_pos rfl, nI_1]
        have no : ∀ j, j < m → (ps j).1 ≠ t := fun j hj e => by
          have := plk_at (ps := ps) hj hW.2
          rw [e, q] at this; cases this
        rcases ih (t + 1) (by omega) (by omega) with ⟨a, b⟩ | ⟨a, j, b, d⟩
        · exact Or.inl ⟨a, fun j hj => by have := b j hj; have := no j hj; omega⟩
        · exact Or.inr ⟨a, j, b, by omega⟩
      | some y =>
        obtain ⟨j, k1, k2, k3⟩ := plk_ok q
        have := (hW.1 j k1).2
        rw [oI_s, if_neg (nI_m1 (by omega))]
        exact Or.inr ⟨rfl, j, k1, by omega⟩
theorem p_rweight (h : PC S np P nl fl) (hU : UC S m ps) (hW : UW m ps np) (hnp : np ≤ 16384) (hz : ∀ i, i < np → pZ (P i) ≤ 10000) {nn : Nat} (hnn : nn ≤ 128) (hb : ∀ j, j < m → (ps j).1 < nn) (hm : m ≤ 128) : ∀ k t c, t ≤ nn → nn - t < k → cur m ps t c → f_Pat_recordWeight_L5 k S (nI nn) (nI (1 + zsum (fun j => pZ (P (ps j).2)) c)) (nI t) = some (nI (1 + zsum (fun j => pZ (P (ps j).2)) m)) := by
  intro k
  induction k with
  | zero => intro t c _ h; omega
  | succ k ih =>
    intro t c ht hlt hc
    unfold f_Pat_recordWeight_L5
    by_cases e : t = nn
    · rw [if_pos (by (simp (disch := omega) only [nI_1, nI_add, Int32.lt_iff_toInt_lt, Int32.le_iff_toInt_le, ← Int32.toInt_inj, nI_toInt, tI_0, tI_1, tI_2, tI_3, tI_4, tI_m1, tI_m2, tI_m3, tI_m4, tI_64, tI_128, tI_255, tI_256, tI_1000, tI_1024, tI_4096, tI_10000, tI_16384, tI_16386, tI_M]; omega)), cur_end hc (by rw [e]; exact hb)]
    · rw [if_neg (by (simp (disch := omega) only [nI_1, nI_add, Int32.lt_iff_toInt_lt, Int32.le_iff_toInt_le, ← Int32.toInt_inj, nI_toInt, tI_0, tI_1, tI_2, tI_3, tI_4, tI_m1, tI_m2, tI_m3, tI_m4, tI_64, tI_128, tI_255, tI_256, tI_1000, tI_1024, tI_4096, tI_10000, tI_16384, tI_16386, tI_M]; omega)), zbind_e, c_psh hU (by omega)]
      rcases cur_step hW.2 hc with ⟨q1, q2, q3, q4⟩ | ⟨q1, q2, -⟩
      · have hx := (hW.1 c q1).2
        rw [q3, oI_s, if_pos (nI_m1 (by omega)), zbind_e]
        have ez : r_at S 6 (nI (ps c).2) = nI (pZ (P (ps c).2)) := cZ h hnp hx
        rw [ez, nI_add, nI_1, show 1 + zsum (fun j => pZ (P (ps j).2)) c + pZ (P (ps c).2) = 1 + zsum (fun j => pZ (P (ps j).2)) (c + 1) from Nat.add_assoc _ _ _]
        exact ih (t + 1) (c + 1) (by omega) (by omega) q4
      · rw [q1, oI_n, if_neg (by simp), zbind_e]
        have e0 : nI (1 + zsum (fun j => pZ (P (ps j).2)) c) + 0 = nI (1 + zsum (fun j => pZ (P (ps j).2)) c) := nI_add _ 0
        rw [e0, nI_1]
        exact ih (t + 1) c (by omega) (by omega) q2
theorem p_isFull (h : PC S np P nl fl) (hU : UC S m ps) (hW : UW m ps np) (hnp : np ≤ 16384) {nn : Nat} (hnn : nn ≤ 128) (hb : ∀ j, j < m → (ps j).1 < nn) : ∀ k t, t ≤ nn → nn - t < k → cur m ps t t → (∀ j, j < t → pW (P (ps j).2) = true) → (f_Pat_isFull_L2 k S (nI nn) (nI t) = some 1 ∧ m = nn ∧ ∀ j, j < m → pW (P (ps j).2) = true) ∨ (f_Pat_isFull_L2 k S (nI nn) (nI t) = some 0 ∧ ¬ (m = nn ∧ ∀ j, j < m → pW (P (ps j).2) = true)) := by
  intro k
  induction k with
  | zero => intro t _ h; omega
  | succ k ih =>
    intro t ht hlt hc hw
    unfold f_Pat_isFull_L2
    by_cases e : t = nn
    · rw [if_pos (by (simp (disch := omega) only [nI_1, nI_add, Int32.lt_iff_toInt_lt, Int32.le_iff_toInt_le, ← Int32.toInt_inj, nI_toInt, tI_0, tI_1, tI_2, tI_3, tI_4, tI_m1, tI_m2, tI_m3, tI_m4, tI_64, tI_128, tI_255, tI_256, tI_1000, tI_1024, tI_4096, tI_10000, tI_16384, tI_16386, tI_M]; omega))]
      have := cur_end hc (by rw [e]; exact hb)
      exact Or.inl ⟨rfl, by omega, fun j hj => hw j (by omega)⟩
    · rw [if_neg (by (simp (disch := omega) only [nI_1, nI_add, Int32.lt_iff_toInt_lt, Int32.le_iff_toInt_le, ← Int32.toInt_inj, nI_toInt, tI_0, tI_1, tI_2, tI_3, tI_4, tI_m1, tI_m2, tI_m3, tI_m4, tI_64, tI_128, tI_255, tI_256, tI_1000, tI_1024, tI_4096, tI_10000, tI_16384, tI_16386, tI_M]; omega)), c_psh hU (by omega)]
      rcases cur_step hW.2 hc with ⟨q1, q2, q3, q4⟩ | ⟨q1, q2, q3⟩
      · have hx := (hW.1 t q1).2
        rw [q3, oI_s, p_isValue h hnp hx]
        cases v : pW (P (ps t).2) with
        | true =>
          rw [if_pos (by decide), nI_1]
          refine ih (t + 1) (by omega) (by omega) q4 (fun j hj => ?_)
          by_cases d : j = t
          · subst d; exact v
          · exact hw j (by omega)
        | false =>
          rw [if_neg (by decide)]
          exact Or.inr ⟨rfl, fun q => by have := q.2 t q1; rw [v] at this; cases this⟩
      · rw [q1]
        have ev : f_Pat_isValue S (oI none) = 0 := by
          unfold f_Pat_isValue
          rw [r_at_rd, oI_n, rd_m1, if_pos (by decide)]
        rw [ev, if_neg (by simp)]
        exact Or.inr ⟨rfl, fun q => by
          have := ps_id hW.2 (fun i hi => by rw [q.1]; exact hb i hi) t (by omega)
          exact q3 t (by omega) this⟩
/-- the fields after a record's making -/
def flx (nl : Nat) (fl ps : Nat → Nat × Nat) : Nat → Nat × Nat := fun i => if i < nl then fl i else ps (i - nl)
theorem flx_lo {i : Nat} (h : i < nl) : flx nl fl ps i = fl i := by unfold flx; rw [if_pos h]
theorem flx_hi (j : Nat) : flx nl fl ps (nl + j) = ps j := by unfold flx; rw [if_neg (by omega), Nat.add_sub_cancel_left]
theorem p_addFields (hU : UC S m ps) (hW : UW m ps np) (hnp : np ≤ 16384) (hnl : nl + m ≤ 16384) {nn : Nat} (hnn : nn ≤ 128) (hb : ∀ j, j < m → (ps j).1 < nn) : ∀ k t c S, UC S m ps → okS S → t ≤ nn → nn - t < k → cur m ps t c → S.1 8 = rowOf (nl + c) (fun i => nI (flx nl fl ps i).1) → S.1 9 = rowOf (nl + c) (fun i => nI (flx nl fl ps i).2) → ∃ S', f_Pat_addFields_L2 k S (nI nn) (nI t) = some S' ∧ zLike [8, 9] S S' ∧ S'.1 8 = rowOf (nl + m) (fun i => nI (flx nl fl ps i).1) ∧ S'.1 9 = rowOf (nl + m) (fun i => nI (flx nl fl ps i).2) := by
  intro k
  induction k with
  | zero => intro t c S _ _ _ h; omega
  | succ k ih =>
    intro t c S hU ho ht hlt hc h8 h9
    unfold f_Pat_addFields_L2
    by_cases e : t = nn
    · rw [if_pos (by (simp (disch := omega) only [nI_1, nI_add, Int32.lt_iff_toInt_lt, Int32.le_iff_toInt_le, ← Int32.toInt_inj, nI_toInt, tI_0, tI_1, tI_2, tI_3, tI_4, tI_m1, tI_m2, tI_m3, tI_m4, tI_64, tI_128, tI_255, tI_256, tI_1000, tI_1024, tI_4096, tI_10000, tI_16384, tI_16386, tI_M]; omega))]
      have := cur_end hc (by rw [e]; exact hb)
      subst this
      exact ⟨S, rfl, zLike_rf ho, h8, h9⟩
    · rw [if_neg (by (simp (disch := omega) only [nI_1, nI_add, Int32.lt_iff_toInt_lt, Int32.le_iff_toInt_le, ← Int32.toInt_inj, nI_toInt, tI_0, tI_1, tI_2, tI_3, tI_4, tI_m1, tI_m2, tI_m3, tI_m4, tI_64, tI_128, tI_255, tI_256, tI_1000, tI_1024, tI_4096, tI_10000, tI_16384, tI_16386, tI_M]; omega)), c_psh hU (by omega)]
      rcases cur_step hW.2 hc with ⟨q1, q2, q3, q4⟩ | ⟨q1, q2, -⟩
      · have hx := (hW.1 c q1).2
        rw [q3, oI_s, if_neg (nI_m1 (by omega))]
        obtain ⟨S1, e1, l1, r1⟩ := zAdd (S := S) (k := 8) (nI t) ho (by decide) (by rw [h8, rowOf_len]; omega)
        rw [e1, zbind2_e]
        have hU1 : UC S1 m ps := by unfold UC; rw [l1.1 10 (by decide), l1.2.1]; exact hU
        rw [c_psh hU1 (by omega), q3, oI_s]
        obtain ⟨S2, e2, l2, r2⟩ := zAdd (S := S1) (k := 9) (nI (ps c).2) l1.2.2 (by decide) (by rw [l1.1 9 (by decide), h9, rowOf_len]; omega)
        rw [e2, zbind2_e, nI_1]
        have hU2 : UC S2 m ps := by unfold UC; rw [l2.1 10 (by decide), l2.2.1]; exact hU1
        obtain ⟨S3, e3, l3, r8, r9⟩ := ih (t + 1) (c + 1) S2 hU2 l2.2.2 (by omega) (by omega) q4 (by
          rw [l2.1 8 (by decide), r1, h8]
          exact rowOf_ext (fun i hi => rfl) (by rw [flx_hi, q2])) (by
          rw [r2, l1.1 9 (by decide), h9]
          exact rowOf_ext (fun i hi => rfl) (by rw [flx_hi]))
        exact ⟨S3, e3, zLike_tr (zLike_mono l1 (by simp)) (zLike_tr (zLike_mono l2 (by simp)) l3), r8, r9⟩
      · rw [q1, oI_n, if_pos rfl, nI_1]
        exact ih (t + 1) c S hU ho (by omega) (by omega) q2 h8 h9
/-- the new record -/
def recPt (P : Nat → Pt) (m : Nat) (ps : Nat → Nat × Nat) (nn nl w : Nat) : Pt := (4, nI nn, 0, none, w, decide (m = nn ∧ ∀ j, j < m → pW (P (ps j).2) = true), m, nl)
theorem p_addRecord (h : PC S np P nl fl) (ho : okS S) (hU : UC S m ps) (hW : UW m ps np) (hnp : np < 16384) (hnl : nl + m ≤ 16384) (hz : ∀ i, i < np → pZ (P i) ≤ 10000) {nn : Nat} (hnn : nn ≤ 128) (hb : ∀ j, j < m → (ps j).1 < nn) (hm : m ≤ 128) {w : Nat} (ew : w = 1 + zsum (fun j => pZ (P (ps j).2)) m) (hw : w ≤ 100000000) : (10000 < w ∧ f_Pat_addRecord S (nI nn) = some (S, -2)) ∨ (w ≤ 10000 ∧ ∃ S', f_Pat_addRecord S (nI nn) = some (S', nI np) ∧ zLike [1, 2, 3, 4, 5, 6, 7, 8, 9] S S' ∧ PC S' (np + 1) (va_up P np (recPt P m ps nn nl w)) (nl + m) (flx nl fl ps)) := by
  have hl := PC_len h
  have e8 : S.1 8 = rowOf nl (fun i => nI (fl i).1) := h.2.2.2.2.2.2.2.1
  have e9 : S.1 9 = rowOf nl (fun i => nI (fl i).2) := h.2.2.2.2.2.2.2.2
  unfold f_Pat_addRecord
  have rw1 : f_Pat_recordWeight S (nI nn) = some (nI w) := by
    unfold f_Pat_recordWeight
    rw [ew]
    exact p_rweight h hU hW (by omega) hz hnn hb hm zbig 0 0 (by omega) (by unfold zbig; omega) cur_0
  rw [rw1, zob_s]
  rcases p_hasRoom h hnp hw with ⟨w1, w2⟩ | ⟨w1, w2⟩
  · right
    refine ⟨w1, ?_⟩
    rw [w2, if_pos (by decide)]
    have fullc := p_isFull h hU hW (by omega) hnn hb zbig 0 (by omega) (by unfold zbig; omega) cur_0 (fun j hj => by omega)
    obtain ⟨S2, e2, l2, r2⟩ := zAdd (S := S) (k := 2) (nI nn) ho (by decide) (by rw [hl 2 (by decide) (by decide)]; omega)
    obtain ⟨S3, e3, l3, r3⟩ := zAdd (S := S2) (k := 3) 0 l2.2.2 (by decide) (by rw [l2.1 3 (by decide), hl 3 (by decide) (by decide)]; omega)
    have sz8 : r_size S3 8 = nI nl := by unfold r_size; rw [l3.1 8 (by decide), l2.1 8 (by decide), e8, rowOf_len]
    obtain ⟨S4, e4, l4, r4⟩ := zAdd (S := S3) (k := 4) (nI nl) l3.2.2 (by decide) (by rw [l3.1 4 (by decide), l2.1 4 (by decide), hl 4 (by decide) (by decide)]; omega)
    have mn : f_Psh_many S4 = nI m := by unfold f_Psh_many; rw [l4.2.1, l3.2.1, l2.2.1]; exact hU.2
    obtain ⟨S5, e5, l5, r5⟩ := zAdd (S := S4) (k := 5) (nI m) l4.2.2 (by decide) (by rw [l4.1 5 (by decide), l3.1 5 (by decide), l2.1 5 (by decide), hl 5 (by decide) (by decide)]; omega)
    obtain ⟨S6, e6, l6, r6⟩ := zAdd (S := S5) (k := 6) (nI w) l5.2.2 (by decide) (by rw [l5.1 6 (by decide), l4.1 6 (by decide), l3.1 6 (by decide), l2.1 6 (by decide), hl 6 (by decide) (by decide)]; omega)
    have tail : ∀ (b : Bool), b = decide (m = nn ∧ ∀ j, j < m → pW (P (ps j).2) = true) → ∃ S', (zbind2 (r_add S6 7 (bI b)) fun S15 v16 =>
      zob (f_Pat_addFields S15 (nI nn)) fun S17 =>
      zbind2 (r_add S17 1 4) fun S18 v19 =>
      some (S18, v19)) = some (S', nI np) ∧ zLike [1, 2, 3, 4, 5, 6, 7, 8, 9] S S' ∧ PC S' (np + 1) (va_up P np (recPt P m ps nn nl w)) (nl + m) (flx nl fl ps) := by
      intro b eb
      obtain ⟨S7, e7, l7, r7⟩ := zAdd (S := S6) (k := 7) (bI b) l6.2.2 (by decide) (by rw [l6.1 7 (by decide), l5.1 7 (by decide), l4.1 7 (by decide), l3.1 7 (by decide), l2.1 7 (by decide), hl 7 (by decide) (by decide)]; omega)
      have hU7 : UC S7 m ps := by
        unfold UC
        rw [l7.1 10 (by decide), l7.2.1, l6.1 10 (by decide), l6.2.1, l5.1 10 (by decide), l5.2.1, l4.1 10 (by decide), l4.2.1, l3.1 10 (by decide), l3.2.1, l2.1 10 (by decide), l2.2.1]; exact hU
      have q8 : S7.1 8 = S.1 8 := by rw [l7.1 8 (by decide), l6.1 8 (by decide), l5.1 8 (by decide), l4.1 8 (by decide), l3.1 8 (by decide), l2.1 8 (by decide)]
      have q9 : S7.1 9 = S.1 9 := by rw [l7.1 9 (by decide), l6.1 9 (by decide), l5.1 9 (by decide), l4.1 9 (by decide), l3.1 9 (by decide), l2.1 9 (by decide)]
      have q1 : S7.1 1 = S.1 1 := by rw [l7.1 1 (by decide), l6.1 1 (by decide), l5.1 1 (by decide), l4.1 1 (by decide), l3.1 1 (by decide), l2.1 1 (by decide)]
      obtain ⟨S8, e8', l8, r8, r9⟩ := p_addFields (fl := fl) hU7 hW (by omega) hnl hnn hb zbig 0 0 S7 hU7 l7.2.2 (by omega) (by unfold zbig; omega) cur_0 (by
        rw [q8, e8]; exact rowOf_congr (fun i hi => by rw [flx_lo (by omega)])) (by
        rw [q9, e9]; exact rowOf_congr (fun i hi => by rw [flx_lo (by omega)]))
      obtain ⟨S1, e1, l1, r1⟩ := zAdd (S := S8) (k := 1) 4 l8.2.2 (by decide) (by rw [l8.1 1 (by decide), q1, hl 1 (by decide) (by decide)]; omega)
      have e8'' : f_Pat_addFields S7 (nI nn) = some S8 := e8'
      have mono : ∀ ks S S', (∀ k, k ∈ ks → 1 ≤ k ∧ k ≤ 9) → zLike ks S S' → zLike [1, 2, 3, 4, 5, 6, 7, 8, 9] S S' := fun ks S S' hk h => zLike_mono h (fun j hj => by have := hk j hj; simp; omega)
      refine ⟨S1, ?_, ?_, ?_⟩
      · rw [e7, zbind2_e, e8'', zob_s, e1, zbind2_e, l8.1 1 (by decide), q1, hl 1 (by decide) (by decide)]
      · exact zLike_tr (mono _ _ _ (by simp) l2) (zLike_tr (mono _ _ _ (by simp) l3) (zLike_tr (mono _ _ _ (by simp) l4) (zLike_tr (mono _ _ _ (by simp) l5) (zLike_tr (mono _ _ _ (by simp) l6) (zLike_tr (mono _ _ _ (by simp) l7) (zLike_tr (mono _ _ _ (by simp) l8) (mono _ _ _ (by simp) l1)))))))
      · obtain ⟨h1, h2, h3, h4, h5, h6, h7, -, -⟩ := h
        refine ⟨?_, ?_, ?_, ?_, ?_, ?_, ?_, ?_, ?_⟩
        · rw [r1, l8.1 1 (by decide), q1, h1]; exact rowOf_ext (fun i hi => by rw [va_n (by omega)]) (by rw [va_s]; rfl)
        · rw [l1.1 2 (by decide), l8.1 2 (by decide), l7.1 2 (by decide), l6.1 2 (by decide), l5.1 2 (by decide), l4.1 2 (by decide), l3.1 2 (by decide), r2, h2]; exact rowOf_ext (fun i hi => by rw [va_n (by omega)]) (by rw [va_s]; rfl)
        · rw [l1.1 3 (by decide), l8.1 3 (by decide), l7.1 3 (by decide), l6.1 3 (by decide), l5.1 3 (by decide), l4.1 3 (by decide), r3, l2.1 3 (by decide), h3]; exact rowOf_ext (fun i hi => by rw [va_n (by omega)]) (by rw [va_s]; rfl)
        · rw [l1.1 4 (by decide), l8.1 4 (by decide), l7.1 4 (by decide), l6.1 4 (by decide), l5.1 4 (by decide), r4, l3.1 4 (by decide), l2.1 4 (by decide), h4]; exact rowOf_ext (fun i hi => by rw [va_n (by omega)]) (by rw [va_s]; rfl)
        · rw [l1.1 5 (by decide), l8.1 5 (by decide), l7.1 5 (by decide), l6.1 5 (by decide), r5, l4.1 5 (by decide), l3.1 5 (by decide), l2.1 5 (by decide), h5]; exact rowOf_ext (fun i hi => by rw [va_n (by omega)]) (by rw [va_s]; rfl)
        · rw [l1.1 6 (by decide), l8.1 6 (by decide), l7.1 6 (by decide), r6, l5.1 6 (by decide), l4.1 6 (by decide), l3.1 6 (by decide), l2.1 6 (by decide), h6]; exact rowOf_ext (fun i hi => by rw [va_n (by omega)]) (by rw [va_s]; rfl)
        · rw [l1.1 7 (by decide), l8.1 7 (by decide), r7, l6.1 7 (by decide), l5.1 7 (by decide), l4.1 7 (by decide), l3.1 7 (by decide), l2.1 7 (by decide), h7]; exact rowOf_ext (fun i hi => by rw [va_n (by omega)]) (by rw [va_s, eb]; rfl)
        · rw [l1.1 8 (by decide), r8]
        · rw [l1.1 9 (by decide), r9]
    rcases fullc with ⟨f1, f2⟩ | ⟨f1, f2⟩
    · have f1' : f_Pat_isFull S (nI nn) = some 1 := f1
      rw [f1', zob_s, e2, zbind2_e, e3, zbind2_e, sz8, e4, zbind2_e, mn, e5, zbind2_e, e6, zbind2_e, if_neg (by decide)]
      exact tail true (decide_eq_true f2).symm
    · have f1' : f_Pat_isFull S (nI nn) = some 0 := f1
      rw [f1', zob_s, e2, zbind2_e, e3, zbind2_e, sz8, e4, zbind2_e, mn, e5, zbind2_e, e6, zbind2_e, if_pos rfl]
      exact tail false (by
        have : decide (m = nn ∧ ∀ j, j < m → pW (P (ps j).2) = true) = false := decide_eq_false f2
        rw [this])
  · left
    refine ⟨w1, ?_⟩
    rw [w2, if_neg (by decide)]
theorem zsum_b {f : Nat → Nat} {B : Nat} : ∀ {k : Nat}, (∀ j, j < k → f j ≤ B) → zsum f k ≤ k * B := by
  intro k
  induction k with
  | zero => intro _; simp [zsum]
  | succ k ih =>
    intro h
    have h1 := ih (fun j hj => h j (by omega))
    have h2 := h k (by omega)
    unfold zsum
    rw [Nat.succ_mul]
    omega
/-- the reference's record: its loops -/
theorem p_mrec54 (h : PM M np P nl fl) (hU : UM M m ps) (hW : UW m ps np) (hnp : np < 16384) (hz : ∀ i, i < np → pZ (P i) ≤ 10000) (hm : m ≤ 128) {nn : Nat} : ∀ k i (b : Bool), i ≤ m → m - i < k → f_Mod_record_L54 k M (nI nn) (nI (1 + zsum (fun j => pZ (P (ps j).2)) i)) (bI (b && decide (∀ j, j < i → pW (P (ps j).2) = true))) (nI i) = zob2 (f_Mod_make M 4 (nI nn) 0 (nI nl) (nI (1 + zsum (fun j => pZ (P (ps j).2)) m)) (bI (b && decide (∀ j, j < m → pW (P (ps j).2) = true)))) fun S6 v7 => if 0 ≤ v7 then f_Mod_record_L135 zbig S6 v7 0 else some (S6, v7) := by
  intro k
  induction k with
  | zero => intro i b _ h; omega
  | succ k ih =>
    intro i b hi hlt
    unfold f_Mod_record_L54
    rw [hU.1]
    by_cases e : i = m
    · rw [if_pos (by (simp (disch := omega) only [nI_1, nI_add, Int32.lt_iff_toInt_lt, Int32.le_iff_toInt_le, ← Int32.toInt_inj, nI_toInt, tI_0, tI_1, tI_2, tI_3, tI_4, tI_m1, tI_m2, tI_m3, tI_m4, tI_64, tI_128, tI_255, tI_256, tI_1000, tI_1024, tI_4096, tI_10000, tI_16384, tI_16386, tI_M]; omega)), h.2.1, e]
    · have hp := (hW.1 i (by omega)).2
      have hzp := hz _ hp
      rw [if_neg (by (simp (disch := omega) only [nI_1, nI_add, Int32.lt_iff_toInt_lt, Int32.le_iff_toInt_le, ← Int32.toInt_inj, nI_toInt, tI_0, tI_1, tI_2, tI_3, tI_4, tI_m1, tI_m2, tI_m3, tI_m4, tI_64, tI_128, tI_255, tI_256, tI_1000, tI_1024, tI_4096, tI_10000, tI_16384, tI_16386, tI_M]; omega)), m_rd_n (by omega) (by omega), (hU.2 i (by omega)).2, m_rd_n (by omega) (by omega), gZ h hp, zbind_e, nI_add, nI_1, show 1 + zsum (fun j => pZ (P (ps j).2)) i + pZ (P (ps i).2) = 1 + zsum (fun j => pZ (P (ps j).2)) (i + 1) from Nat.add_assoc _ _ _]
      have key := ih (i + 1) b (by omega) (by omega)
      have step : (b && decide (∀ j, j < i + 1 → pW (P (ps j).2) = true)) = ((b && decide (∀ j, j < i → pW (P (ps j).2) = true)) && pW (P (ps i).2)) := by
        have : decide (∀ j, j < i + 1 → pW (P (ps j).2) = true) = (decide (∀ j, j < i → pW (P (ps j).2) = true) && pW (P (ps i).2)) := by
          rw [Bool.eq_iff_iff]
          simp only [Bool.and_eq_true, decide_eq_true_eq]
          constructor
          · intro H; exact ⟨fun j hj => H j (by omega), H i (by omega)⟩
          · intro H j hj
            by_cases q : j = i
            · subst q; exact H.2
            · exact H.1 j (by omega)
        rw [this, Bool.and_assoc]
      rw [step] at key
      cases c : (b && decide (∀ j, j < i → pW (P (ps j).2) = true)) with
      | false =>
        rw [c] at key
        rw [if_pos (by rfl)]
        exact key
      | true =>
        rw [c] at key
        rw [if_neg (by decide), m_rd_n (by omega) (by omega), (hU.2 i (by omega)).2, m_rd_n (by omega) (by omega), gW h hp]
        cases d : pW (P (ps i).2) with
        | false => rw [d] at key; rw [if_pos (by rfl)]; exact key
        | true => rw [d] at key; rw [if_neg (by decide)]; exact key
theorem p_mrec135 (hm : m ≤ 128) (hnp : np < 16384) (hW : UW m ps np) (hnl : nl + m ≤ 16384) (hps : np < 16385) : ∀ k i M, i ≤ m → m - i < k → UM M m ps → M.2.2 2 = nI (nl + i) → (∀ j, j < nl + i → M.1 9 j = nI (flx nl fl ps j).1 ∧ M.1 10 j = nI (flx nl fl ps j).2) → ∃ M', f_Mod_record_L135 k M (nI np) (nI i) = some (M', nI np) ∧ mLike [6, 9, 10] [] [2, 3] M M' ∧ M'.2.2 3 = 0 ∧ M'.2.2 2 = nI (nl + m) ∧ (∀ j, j < nl + m → M'.1 9 j = nI (flx nl fl ps j).1 ∧ M'.1 10 j = nI (flx nl fl ps j).2) ∧ M'.1 6 np = nI m ∧ ∀ j, j ≠ np → M'.1 6 j = M.1 6 j := by
  intro k
  induction k with
  | zero => intro i M _ h; omega
  | succ k ih =>
    intro i M hi hlt hU h2 h9
    unfold f_Mod_record_L135
    rw [hU.1]
    by_cases e : i = m
    · subst e
      rw [if_pos (by (simp (disch := omega) only [nI_1, nI_add, Int32.lt_iff_toInt_lt, Int32.le_iff_toInt_le, ← Int32.toInt_inj, nI_toInt, tI_0, tI_1, tI_2, tI_3, tI_4, tI_m1, tI_m2, tI_m3, tI_m4, tI_64, tI_128, tI_255, tI_256, tI_1000, tI_1024, tI_4096, tI_10000, tI_16384, tI_16386, tI_M]; omega)), m_wr_n (by omega) (by omega), nI_clamp (by omega), i16_k (by omega), zbind_e]
      refine ⟨_, rfl, ⟨fun k hk => ?_, fun _ _ => rfl, fun k hk => ?_⟩, m_sc_at, ?_, fun j hj => ?_, ?_, fun j hj => ?_⟩
      · rw [m_sc_1, m_set_ne (by intro q; subst q; simp at hk)]
      · rw [m_sc_ne (by intro q; subst q; simp at hk)]; rfl
      · rw [m_sc_ne (by decide)]; exact h2
      · rw [m_sc_1, m_set_ne (by decide), m_set_ne (by decide)]; exact h9 j hj
      · rw [m_sc_1, m_set_at, upd_s]
      · rw [m_sc_1, m_set_at, upd_n hj]
    · have hp := hW.1 i (by omega)
      rw [if_neg (by (simp (disch := omega) only [nI_1, nI_add, Int32.lt_iff_toInt_lt, Int32.le_iff_toInt_le, ← Int32.toInt_inj, nI_toInt, tI_0, tI_1, tI_2, tI_3, tI_4, tI_m1, tI_m2, tI_m3, tI_m4, tI_64, tI_128, tI_255, tI_256, tI_1000, tI_1024, tI_4096, tI_10000, tI_16384, tI_16386, tI_M]; omega)), m_rd_n (by omega) (by omega), (hU.2 i (by omega)).1, h2, m_wr_n (by omega) (by omega), nI_clamp (by omega), i16_k (by omega), m_rd_n (by omega) (by omega), m_set_ne (show (12 : Nat) ≠ 9 by decide), (hU.2 i (by omega)).2]
      have e2 : ∀ x, (m_set M 9 (nl + i) x).2.2 2 = nI (nl + i) := fun x => h2
      rw [e2, m_wr_n (by omega) (by omega), nI_clamp (by omega), i16_k (by omega), zbind_e]
      have e3 : ∀ x y, (m_set (m_set M 9 (nl + i) x) 10 (nl + i) y).2.2 2 = nI (nl + i) := fun x y => h2
      rw [e3, nI_1, nI_1]
      obtain ⟨M', q1, q2, q3⟩ := ih (i + 1) (m_sc (m_set (m_set M 9 (nl + i) (nI (ps i).1)) 10 (nl + i) (nI (ps i).2)) 2 (nI (nl + i + 1))) (by omega) (by omega) (by
        refine ⟨?_, fun j hj => ?_⟩
        · rw [m_sc_ne (by decide)]; exact hU.1
        · rw [m_sc_1, m_set_ne (by decide), m_set_ne (by decide), m_set_ne (by decide), m_set_ne (by decide)]; exact hU.2 j hj) m_sc_at (fun j hj => by
        rw [m_sc_1, m_set_ne (show (9 : Nat) ≠ 10 by decide), m_set_at, m_set_at, m_set_ne (show (10 : Nat) ≠ 9 by decide)]
        by_cases q : j = nl + i
        · subst q; rw [upd_s, upd_s, flx_hi]; exact ⟨rfl, rfl⟩
        · rw [upd_n q, upd_n q]; exact h9 j (by omega))
      refine ⟨M', q1, mLike_tr (M1 := m_sc (m_set (m_set M 9 (nl + i) (nI (ps i).1)) 10 (nl + i) (nI (ps i).2)) 2 (nI (nl + i + 1))) ⟨fun k hk => ?_, fun _ _ => rfl, fun k hk => ?_⟩ q2, q3.1, q3.2.1, q3.2.2.1, q3.2.2.2.1, fun j hj => ?_⟩
      · rw [m_sc_1, m_set_ne (by intro q; subst q; simp at hk), m_set_ne (by intro q; subst q; simp at hk)]
      · rw [m_sc_ne (by intro q; subst q; simp at hk)]; rfl
      · rw [q3.2.2.2.2 j hj, m_sc_1, m_set_ne (by decide), m_set_ne (by decide)]
end PRE
