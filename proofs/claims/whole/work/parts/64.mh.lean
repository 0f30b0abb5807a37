-- PURE LAYER: the reference's pairs
theorem kq_0_0 : (nI 0 = (0 : Int32)) = True := eq_true rfl
theorem kq_0_1 : (nI 0 = (1 : Int32)) = False := eq_false (by decide)
theorem kq_0_2 : (nI 0 = (2 : Int32)) = False := eq_false (by decide)
theorem kq_0_3 : (nI 0 = (3 : Int32)) = False := eq_false (by decide)
theorem kq_0_4 : (nI 0 = (4 : Int32)) = False := eq_false (by decide)
theorem kq_1_0 : (nI 1 = (0 : Int32)) = False := eq_false (by decide)
theorem kq_1_1 : (nI 1 = (1 : Int32)) = True := eq_true rfl
theorem kq_1_2 : (nI 1 = (2 : Int32)) = False := eq_false (by decide)
theorem kq_1_3 : (nI 1 = (3 : Int32)) = False := eq_false (by decide)
theorem kq_1_4 : (nI 1 = (4 : Int32)) = False := eq_false (by decide)
theorem kq_2_0 : (nI 2 = (0 : Int32)) = False := eq_false (by decide)
theorem kq_2_1 : (nI 2 = (1 : Int32)) = False := eq_false (by decide)
theorem kq_2_2 : (nI 2 = (2 : Int32)) = True := eq_true rfl
theorem kq_2_3 : (nI 2 = (3 : Int32)) = False := eq_false (by decide)
theorem kq_2_4 : (nI 2 = (4 : Int32)) = False := eq_false (by decide)
theorem kq_3_0 : (nI 3 = (0 : Int32)) = False := eq_false (by decide)
theorem kq_3_1 : (nI 3 = (1 : Int32)) = False := eq_false (by decide)
theorem kq_3_2 : (nI 3 = (2 : Int32)) = False := eq_false (by decide)
theorem kq_3_3 : (nI 3 = (3 : Int32)) = True := eq_true rfl
theorem kq_3_4 : (nI 3 = (4 : Int32)) = False := eq_false (by decide)
theorem kq_4_0 : (nI 4 = (0 : Int32)) = False := eq_false (by decide)
theorem kq_4_1 : (nI 4 = (1 : Int32)) = False := eq_false (by decide)
theorem kq_4_2 : (nI 4 = (2 : Int32)) = False := eq_false (by decide)
theorem kq_4_3 : (nI 4 = (3 : Int32)) = False := eq_false (by decide)
theorem kq_4_4 : (nI 4 = (4 : Int32)) = True := eq_true rfl
/-- a state of the reference that differs in some arrays, some numbers alone -/
def mLike (ks ls ns : List Nat) (M M' : zM) : Prop := (∀ k, k ∉ ks → M'.1 k = M.1 k) ∧ (∀ k, k ∉ ls → M'.2.1 k = M.2.1 k) ∧ ∀ k, k ∉ ns → M'.2.2 k = M.2.2 k
theorem mLike_tr {ks ls ns : List Nat} {M M1 M2 : zM} (h : mLike ks ls ns M M1) (k : mLike ks ls ns M1 M2) : mLike ks ls ns M M2 := ⟨fun j hj => (k.1 j hj).trans (h.1 j hj), fun j hj => (k.2.1 j hj).trans (h.2.1 j hj), fun j hj => (k.2.2 j hj).trans (h.2.2 j hj)⟩
theorem mLike_mono {ks ls ns ks' ls' ns' : List Nat} {M M1 : zM} (h : mLike ks ls ns M M1) (h1 : ∀ k, k ∈ ks → k ∈ ks') (h2 : ∀ k, k ∈ ls → k ∈ ls') (h3 : ∀ k, k ∈ ns → k ∈ ns') : mLike ks' ls' ns' M M1 := ⟨fun j hj => h.1 j (fun q => hj (h1 j q)), fun j hj => h.2.1 j (fun q => hj (h2 j q)), fun j hj => h.2.2 j (fun q => hj (h3 j q))⟩
theorem mLike_rf {ks ls ns : List Nat} {M : zM} : mLike ks ls ns M M := ⟨fun _ _ => rfl, fun _ _ => rfl, fun _ _ => rfl⟩
theorem mLike_set {M : zM} {a i : Nat} {x : Int32} : mLike [a] [] [] M (m_set M a i x) := ⟨fun k hk => va_n (by simpa using hk), fun _ _ => rfl, fun _ _ => rfl⟩
theorem mLike_setl {M : zM} {a i : Nat} {x : Int64} : mLike [] [a] [] M (m_setl M a i x) := ⟨fun _ _ => rfl, fun k hk => va_n (by simpa using hk), fun _ _ => rfl⟩
theorem mLike_sc {M : zM} {a : Nat} {x : Int32} : mLike [] [] [a] M (m_sc M a x) := ⟨fun _ _ => rfl, fun _ _ => rfl, fun k hk => va_n (by simpa using hk)⟩
theorem PM_like {ks ls ns : List Nat} {M M' : zM} {np : Nat} {P : Nat → Pt} {nl : Nat} {fl : Nat → Nat × Nat} (h : PM M np P nl fl) (hk : mLike ks ls ns M M') (h1 : ∀ k, k ∈ ks → k < 2 ∨ 10 < k) (h2 : ∀ k, k ∈ ns → k ≠ 1 ∧ k ≠ 2) : PM M' np P nl fl := by
  have e : ∀ k, 2 ≤ k → k ≤ 10 → M'.1 k = M.1 k := fun k q1 q2 => hk.1 k (fun m => by have := h1 k m; omega)
  have d : ∀ k, 1 ≤ k → k ≤ 2 → M'.2.2 k = M.2.2 k := fun k q1 q2 => hk.2.2 k (fun m => by have := h2 k m; omega)
  unfold PM at h ⊢
  rw [e 2 (by omega) (by omega), e 3 (by omega) (by omega), e 4 (by omega) (by omega), e 5 (by omega) (by omega), e 6 (by omega) (by omega), e 7 (by omega) (by omega), e 8 (by omega) (by omega), e 9 (by omega) (by omega), e 10 (by omega) (by omega), d 1 (by omega) (by omega), d 2 (by omega) (by omega)]
  exact h
/-- the reference's pile -/
def ST (M : zM) (st : List (Nat × Nat)) : Prop := M.2.2 11 = nI st.length ∧ ∀ i, i < st.length → M.1 31 i = nI (st.getD i (0, 0)).1 ∧ M.1 32 i = nI (st.getD i (0, 0)).2
theorem m_set_at {M : zM} {a i : Nat} {x : Int32} : (m_set M a i x).1 a = upd (M.1 a) i x := va_s
theorem m_set_ne {M : zM} {a b i : Nat} {x : Int32} (h : b ≠ a) : (m_set M a i x).1 b = M.1 b := va_n h
theorem m_set_l {M : zM} {a i : Nat} {x : Int32} : (m_set M a i x).2 = M.2 := rfl
theorem m_sc_at {M : zM} {a : Nat} {x : Int32} : (m_sc M a x).2.2 a = x := va_s
theorem m_sc_ne {M : zM} {a b : Nat} {x : Int32} (h : b ≠ a) : (m_sc M a x).2.2 b = M.2.2 b := va_n h
theorem m_sc_1 {M : zM} {a : Nat} {x : Int32} : (m_sc M a x).1 = M.1 := rfl
theorem p_pair {M : zM} {st : List (Nat × Nat)} (a b : Nat) (h : ST M st) (hl : st.length < 20480) : ∃ M', f_Mod_pair M (nI a) (nI b) = some M' ∧ mLike [31, 32] [] [11] M M' ∧ ST M' (st ++ [(a, b)]) := by
  obtain ⟨h1, h2⟩ := h
  unfold f_Mod_pair
  have e1 : Int32.toNatClampNeg (M.2.2 11) = st.length := by rw [h1, nI_clamp (by omega)]
  rw [e1]
  have w1 : ∀ k : zM → Option zM, m_wr 20480 (M.2.2 11) (m_set M 31 st.length (nI a)) k = k (m_set M 31 st.length (nI a)) := fun k => by rw [h1, m_wr_n hl (by omega)]
  rw [w1]
  have e2 : (m_set M 31 st.length (nI a)).2.2 11 = nI st.length := h1
  rw [e2, nI_clamp (by omega), m_wr_n hl (by omega), zbind_e]
  refine ⟨_, rfl, ?_, ?_, ?_⟩
  · refine mLike_tr (M1 := m_set M 31 st.length (nI a)) (mLike_mono mLike_set (by simp) (by simp) (by simp)) ?_
    exact mLike_tr (M1 := m_set (m_set M 31 st.length (nI a)) 32 st.length (nI b)) (mLike_mono mLike_set (by simp) (by simp) (by simp)) (mLike_mono mLike_sc (by simp) (by simp) (by simp))
  · rw [m_sc_at]
    show (m_set M 31 st.length (nI a)).2.2 11 + 1 = _
    rw [e2, nI_1]; simp
  · intro i hi
    rw [m_sc_1, m_set_ne (by decide), m_set_at, m_set_at, m_set_ne (by decide)]
    by_cases c : i = st.length
    · subst c
      rw [upd_s, upd_s]
      simp [List.getD]
    · have hi' : i < st.length := by simp at hi; omega
      rw [upd_n c, upd_n c, (h2 i hi').1, (h2 i hi').2]
      simp [List.getD, List.getElem?_append_left hi']
theorem p_pop {M : zM} {st : List (Nat × Nat)} {a b : Nat} (h : ST M (st ++ [(a, b)])) : ST (m_sc M 11 (nI st.length)) st ∧ M.1 31 st.length = nI a ∧ M.1 32 st.length = nI b := by
  obtain ⟨h1, h2⟩ := h
  refine ⟨⟨m_sc_at, fun i hi => ?_⟩, ?_, ?_⟩
  · have := h2 i (by simp; omega)
    rw [m_sc_1, this.1, this.2]
    simp [List.getD, List.getElem?_append_left hi]
  · have := (h2 st.length (by simp)).1
    rw [this]; simp [List.getD]
  · have := (h2 st.length (by simp)).2
    rw [this]; simp [List.getD]
section PHM
variable {nf : Nat} {fam : Nat → Nat} {bit : Nat → Int64} {np : Nat} {P : Nat → Pt} {nl : Nat} {fl : Nat → Nat × Nat} {M : zM}
theorem gK {a : Nat} (h : PM M np P nl fl) (ha : a < np) : M.1 2 a = nI (pK (P a)) := (h.2.2.1 a ha).1
theorem gF {a : Nat} (h : PM M np P nl fl) (ha : a < np) : M.1 3 a = (if pK (P a) = 3 then pM (P a) else pS (P a)) := (h.2.2.1 a ha).2.1
theorem gG {a : Nat} (h : PM M np P nl fl) (ha : a < np) : M.1 4 a = (if pK (P a) = 3 then 0 else pM (P a)) := (h.2.2.1 a ha).2.2.1
theorem gF3 {a : Nat} (h : PM M np P nl fl) (ha : a < np) (e : pK (P a) = 3) : M.1 3 a = pM (P a) := by rw [gF h ha, if_pos e]
theorem gFn {a : Nat} (h : PM M np P nl fl) (ha : a < np) (e : ¬ pK (P a) = 3) : M.1 3 a = pS (P a) := by rw [gF h ha, if_neg e]
theorem gG3 {a : Nat} (h : PM M np P nl fl) (ha : a < np) (e : pK (P a) = 3) : M.1 4 a = 0 := by rw [gG h ha, if_pos e]
theorem gGn {a : Nat} (h : PM M np P nl fl) (ha : a < np) (e : ¬ pK (P a) = 3) : M.1 4 a = pM (P a) := by rw [gG h ha, if_neg e]
theorem gO {a : Nat} (h : PM M np P nl fl) (ha : a < np) : M.1 5 a = pI (P a) := (h.2.2.1 a ha).2.2.2.1
theorem gN {a : Nat} (h : PM M np P nl fl) (ha : a < np) : M.1 6 a = nI (pN (P a)) := (h.2.2.1 a ha).2.2.2.2.1
theorem gZ {a : Nat} (h : PM M np P nl fl) (ha : a < np) : M.1 7 a = nI (pZ (P a)) := (h.2.2.1 a ha).2.2.2.2.2.1
theorem gW {a : Nat} (h : PM M np P nl fl) (ha : a < np) : M.1 8 a = bI (pW (P a)) := (h.2.2.1 a ha).2.2.2.2.2.2
theorem g4 {a : Nat} (h : PM M np P nl fl) (ha : a < np) (e : pK (P a) = 4) : M.1 5 a = nI (pB (P a)) := by rw [gO h ha]; unfold pI; rw [if_pos e]
theorem g5 {a : Nat} (h : PM M np P nl fl) (ha : a < np) (e : pK (P a) ≠ 4) : M.1 5 a = oI (pO (P a)) := by rw [gO h ha]; unfold pI; rw [if_neg e]
theorem p_fieldOf_L {b f : Nat} (hn : np ≤ 16384) (hl : nl ≤ 16384) (hb : b < np) (hw : pwf nf fam bit P nl fl b) (e4 : pK (P b) = 4) (hf : f < 128) (h : PM M np P nl fl) : ∀ n j, j ≤ pN (P b) → pN (P b) - j < n → f_Mod_fieldOf_L10 n M (nI b) (nI f) (oI (fnd P fl b f j)) (nI (pB (P b) + j)) = some (oI (fnd P fl b f (pN (P b)))) := by
  have hB := pwB hw
  intro n
  induction n with
  | zero => intro j _ h; omega
  | succ n ih =>
    intro j hj hlt
    unfold f_Mod_fieldOf_L10
    rw [m_rd_n (by omega) (by omega), m_rd_n (by omega) (by omega), g4 h hb e4, gN h hb, nI_add]
    by_cases c : j = pN (P b)
    · rw [if_pos (by (simp (disch := omega) only [nI_1, nI_add, Int32.lt_iff_toInt_lt, Int32.le_iff_toInt_le, ← Int32.toInt_inj, nI_toInt, tI_0, tI_1, tI_2, tI_3, tI_4, tI_m1, tI_m2, tI_m3, tI_m4, tI_64, tI_128, tI_255, tI_256, tI_1000, tI_1024, tI_4096, tI_10000, tI_16384, tI_16386, tI_M]; omega)), c]
    · rw [if_neg (by (simp (disch := omega) only [nI_1, nI_add, Int32.lt_iff_toInt_lt, Int32.le_iff_toInt_le, ← Int32.toInt_inj, nI_toInt, tI_0, tI_1, tI_2, tI_3, tI_4, tI_m1, tI_m2, tI_m3, tI_m4, tI_64, tI_128, tI_255, tI_256, tI_1000, tI_1024, tI_4096, tI_10000, tI_16384, tI_16386, tI_M]; omega)), m_rd_n (by omega) (by omega), (h.2.2.2 _ (by omega)).1]
      have hfn := (pwP hw (j := j) (by omega)).2
      have i1 := ih (j + 1) (by omega) (by omega)
      have fs : fnd P fl b f (j + 1) = if fN P fl b j = f then some (fP P fl b j) else fnd P fl b f j := rfl
      rw [fs] at i1
      by_cases d : fN P fl b j = f
      · rw [if_pos d] at i1
        rw [if_neg (by show ¬ ¬ nI (fN P fl b j) = nI f; rw [d]; simp), m_rd_n (by omega) (by omega), (h.2.2.2 _ (by omega)).2, nI_1]
        exact i1
      · rw [if_neg d] at i1
        rw [if_pos (by show ¬ nI (fN P fl b j) = nI f; rw [nI_eq (by omega) (by omega)]; exact d), nI_1]
        exact i1
theorem p_fieldOf {b f : Nat} (hn : np ≤ 16384) (hl : nl ≤ 16384) (hb : b < np) (hw : pwf nf fam bit P nl fl b) (e4 : pK (P b) = 4) (hf : f < 128) (h : PM M np P nl fl) : f_Mod_fieldOf M (nI b) (nI f) = some (oI (fnd P fl b f (pN (P b)))) := by
  have hB := pwB hw
  unfold f_Mod_fieldOf
  rw [m_rd_n (by omega) (by omega), g4 h hb e4]
  exact p_fieldOf_L hn hl hb hw e4 hf h zbig 0 (by omega) (by unfold zbig; omega)
theorem p_pairFields_L {a b : Nat} (hn : np ≤ 16384) (hl : nl ≤ 16384) (ha : a < np) (hb : b < np) (hwa : pwf nf fam bit P nl fl a) (hwb : pwf nf fam bit P nl fl b) (ea : pK (P a) = 4) (eb : pK (P b) = 4) : ∀ n i M st, PM M np P nl fl → i ≤ pN (P a) → pN (P a) - i < n → ST M (st ++ kkF P fl a b i) → (st ++ kkF P fl a b i).length + (pN (P a) - i) < 20480 → ∃ M', f_Mod_pairFields_L7 n M (nI a) (nI b) (nI (pB (P a) + i)) = some M' ∧ mLike [31, 32] [] [11] M M' ∧ ST M' (st ++ kkF P fl a b (pN (P a))) := by
  have hBa := pwB hwa
  have hBb := pwB hwb
  intro n
  induction n with
  | zero => intro i M st _ _ h; omega
  | succ n ih =>
    intro i M st h hi hlt hst hlen
    unfold f_Mod_pairFields_L7
    rw [m_rd_n (by omega) (by omega), m_rd_n (by omega) (by omega), g4 h ha ea, gN h ha, nI_add]
    by_cases c : i = pN (P a)
    · rw [if_pos (by (simp (disch := omega) only [nI_1, nI_add, Int32.lt_iff_toInt_lt, Int32.le_iff_toInt_le, ← Int32.toInt_inj, nI_toInt, tI_0, tI_1, tI_2, tI_3, tI_4, tI_m1, tI_m2, tI_m3, tI_m4, tI_64, tI_128, tI_255, tI_256, tI_1000, tI_1024, tI_4096, tI_10000, tI_16384, tI_16386, tI_M]; omega))]
      exact ⟨M, rfl, mLike_rf, by rw [← c]; exact hst⟩
    · have hi' : i < pN (P a) := by omega
      have hp := pwP hwa hi'
      rw [if_neg (by (simp (disch := omega) only [nI_1, nI_add, Int32.lt_iff_toInt_lt, Int32.le_iff_toInt_le, ← Int32.toInt_inj, nI_toInt, tI_0, tI_1, tI_2, tI_3, tI_4, tI_m1, tI_m2, tI_m3, tI_m4, tI_64, tI_128, tI_255, tI_256, tI_1000, tI_1024, tI_4096, tI_10000, tI_16384, tI_16386, tI_M]; omega)), m_rd_n (by omega) (by omega), (h.2.2.2 _ (by omega)).1]
      have hfo := p_fieldOf (M := M) (b := b) (f := fN P fl a i) hn hl hb hwb eb hp.2 h
      unfold fN at hfo
      rw [hfo, zob_s]
      have hkk : kkF P fl a b (i + 1) = kkF P fl a b i ++ (match fnd P fl b (fN P fl a i) (pN (P b)) with
        | some y => [(fP P fl a i, y)]
        | none => []) := rfl
      unfold fN at hkk
      cases q : fnd P fl b (fl (pB (P a) + i)).1 (pN (P b)) with
      | none =>
        rw [q] at hkk
        rw [if_pos (by decide), nI_1]
        exact ih (i + 1) M st h (by omega) (by omega) (by rw [hkk]; simpa using hst) (by rw [hkk]; simp at hlen ⊢; omega)
      | some y =>
        rw [q] at hkk
        have hy : y < b := by
          obtain ⟨j, k1, k2, k3⟩ := fnd_ok q
          rw [← k3]; exact (pwP hwb k1).1
        rw [if_neg (by unfold oI; exact nI_pos (by omega)), m_rd_n (by omega) (by omega), (h.2.2.2 _ (by omega)).2]
        obtain ⟨M1, e1, l1, s1⟩ := p_pair (M := M) (fP P fl a i) y hst (by omega)
        show ∃ M', zob (f_Mod_pair M (nI (fP P fl a i)) (nI y)) _ = some M' ∧ _
        rw [e1, zob_s, nI_1]
        obtain ⟨M2, e2, l2, s2⟩ := ih (i + 1) M1 st (PM_like h l1 (by simp) (by simp)) (by omega) (by omega) (by rw [hkk, ← List.append_assoc]; exact s1) (by rw [hkk]; simp at hlen ⊢; omega)
        exact ⟨M2, e2, mLike_tr l1 l2, s2⟩
theorem p_pairFields {a b : Nat} {st : List (Nat × Nat)} (hn : np ≤ 16384) (hl : nl ≤ 16384) (ha : a < np) (hb : b < np) (hwa : pwf nf fam bit P nl fl a) (hwb : pwf nf fam bit P nl fl b) (ea : pK (P a) = 4) (eb : pK (P b) = 4) (h : PM M np P nl fl) (hst : ST M st) (hlen : st.length < 20000) : ∃ M', f_Mod_pairFields M (nI a) (nI b) = some M' ∧ mLike [31, 32] [] [11] M M' ∧ ST M' (st ++ kkF P fl a b (pN (P a))) := by
  have hB := pwB hwa
  unfold f_Mod_pairFields
  rw [m_rd_n (by omega) (by omega), g4 h ha ea]
  exact p_pairFields_L hn hl ha hb hwa hwb ea eb zbig 0 M st h (by omega) (by unfold zbig; omega) (by simpa [kkF] using hst) (by simp [kkF]; omega)
theorem p_areOneSort {a b : Nat} (hn : np ≤ 16384) (ha : a < np) (hb : b < np) (hwa : pwf nf fam bit P nl fl a) (hwb : pwf nf fam bit P nl fl b) (h : PM M np P nl fl) : (f_Mod_areOneSort M (nI a) (nI b) = some 1 ∧ pK (P a) = pK (P b) ∧ pS (P a) = pS (P b)) ∨ (f_Mod_areOneSort M (nI a) (nI b) = some 0 ∧ ¬ (pK (P a) = pK (P b) ∧ pS (P a) = pS (P b))) := by
  have hKa := pwK hwa
  have hKb := pwK hwb
  unfold f_Mod_areOneSort
  rw [m_rd_n (by omega) (by omega), m_rd_n (by omega) (by omega), gK h ha, gK h hb]
  by_cases e : pK (P a) = pK (P b)
  · rw [if_neg (by simp [e]), m_rd_n (by omega) (by omega), gK h ha]
    by_cases e3 : pK (P a) = 3
    · rw [if_pos (by rw [e3]; rfl)]
      exact Or.inl ⟨rfl, e, by rw [(pw3 hwa e3).1, (pw3 hwb (e ▸ e3)).1]⟩
    · rw [if_neg (by (simp (disch := omega) only [nI_1, nI_add, Int32.lt_iff_toInt_lt, Int32.le_iff_toInt_le, ← Int32.toInt_inj, nI_toInt, tI_0, tI_1, tI_2, tI_3, tI_4, tI_m1, tI_m2, tI_m3, tI_m4, tI_64, tI_128, tI_255, tI_256, tI_1000, tI_1024, tI_4096, tI_10000, tI_16384, tI_16386, tI_M]; omega)), m_rd_n (by omega) (by omega), m_rd_n (by omega) (by omega), gFn h ha e3, gFn h hb (e ▸ e3)]
      by_cases d : pS (P a) = pS (P b)
      · rw [if_neg (by simp [d])]; exact Or.inl ⟨rfl, e, d⟩
      · rw [if_pos d]; exact Or.inr ⟨rfl, fun q => d q.2⟩
  · rw [if_pos (by (simp (disch := omega) only [nI_1, nI_add, Int32.lt_iff_toInt_lt, Int32.le_iff_toInt_le, ← Int32.toInt_inj, nI_toInt, tI_0, tI_1, tI_2, tI_3, tI_4, tI_m1, tI_m2, tI_m3, tI_m4, tI_64, tI_128, tI_255, tI_256, tI_1000, tI_1024, tI_4096, tI_10000, tI_16384, tI_16386, tI_M]; omega))]; exact Or.inr ⟨rfl, fun q => e q.1⟩
theorem p_areOne {a b : Nat} (hn : np ≤ 16384) (ha : a < np) (hb : b < np) (h : PM M np P nl fl) (ek : pK (P a) = 2 ∨ pK (P a) = 3) (e : pK (P a) = pK (P b)) : (f_Mod_areOne M (nI a) (nI b) = some 1 ∧ pM (P a) = pM (P b)) ∨ (f_Mod_areOne M (nI a) (nI b) = some 0 ∧ ¬ pM (P a) = pM (P b)) := by
  unfold f_Mod_areOne
  rw [m_rd_n (by omega) (by omega), gK h ha]
  rcases ek with k | k
  · rw [if_neg (by rw [k]; decide), m_rd_n (by omega) (by omega), m_rd_n (by omega) (by omega), gGn h ha (by omega), gGn h hb (by omega)]
    by_cases d : pM (P a) = pM (P b)
    · rw [if_neg (by simp [d])]; exact Or.inl ⟨rfl, d⟩
    · rw [if_pos d]; exact Or.inr ⟨rfl, d⟩
  · rw [if_pos (by rw [k]; decide), m_rd_n (by omega) (by omega), m_rd_n (by omega) (by omega), gF3 h ha k, gF3 h hb (e ▸ k)]
    by_cases d : pM (P a) = pM (P b)
    · rw [if_neg (by simp [d])]; exact Or.inl ⟨rfl, d⟩
    · rw [if_pos d]; exact Or.inr ⟨rfl, d⟩
end PHM
