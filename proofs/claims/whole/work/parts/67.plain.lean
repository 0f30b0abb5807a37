-- PURE LAYER: plain patterns, families
section PPL
variable {nf : Nat} {fam : Nat → Nat} {bit : Nat → Int64} {np : Nat} {P : Nat → Pt} {nl : Nat} {fl : Nat → Nat × Nat} {M : zM} {S : zS}
theorem p_chain (a1 a2 a3 a4 v w : Int32) (ho : okS S) (hl : ∀ k, 1 ≤ k → k ≤ 7 → (S.1 k).length < 65536) : ∃ S', (zbind2 (r_add S 2 a2) fun S5 v6 =>
        zbind2 (r_add S5 3 a3) fun S7 v8 =>
        zbind2 (r_add S7 4 a4) fun S9 v10 =>
        zbind2 (r_add S9 5 0) fun S11 v12 =>
        zbind2 (r_add S11 6 v) fun S13 v14 =>
        zbind2 (r_add S13 7 w) fun S15 v16 =>
        zbind2 (r_add S15 1 a1) fun S17 v18 =>
        (S17, v18)) = (S', nI (S.1 1).length) ∧ zLike [1, 2, 3, 4, 5, 6, 7] S S' ∧ S'.1 1 = S.1 1 ++ [a1] ∧ S'.1 2 = S.1 2 ++ [a2] ∧ S'.1 3 = S.1 3 ++ [a3] ∧ S'.1 4 = S.1 4 ++ [a4] ∧ S'.1 5 = S.1 5 ++ [0] ∧ S'.1 6 = S.1 6 ++ [v] ∧ S'.1 7 = S.1 7 ++ [w] := by
  obtain ⟨S2, e2, l2, r2⟩ := zAdd (S := S) (k := 2) a2 ho (by decide) (hl 2 (by decide) (by decide))
  obtain ⟨S3, e3, l3, r3⟩ := zAdd (S := S2) (k := 3) a3 l2.2.2 (by decide) (by rw [l2.1 3 (by decide)]; exact hl 3 (by decide) (by decide))
  obtain ⟨S4, e4, l4, r4⟩ := zAdd (S := S3) (k := 4) a4 l3.2.2 (by decide) (by rw [l3.1 4 (by decide), l2.1 4 (by decide)]; exact hl 4 (by decide) (by decide))
  obtain ⟨S5, e5, l5, r5⟩ := zAdd (S := S4) (k := 5) 0 l4.2.2 (by decide) (by rw [l4.1 5 (by decide), l3.1 5 (by decide), l2.1 5 (by decide)]; exact hl 5 (by decide) (by decide))
  obtain ⟨S6, e6, l6, r6⟩ := zAdd (S := S5) (k := 6) v l5.2.2 (by decide) (by rw [l5.1 6 (by decide), l4.1 6 (by decide), l3.1 6 (by decide), l2.1 6 (by decide)]; exact hl 6 (by decide) (by decide))
  obtain ⟨S7, e7, l7, r7⟩ := zAdd (S := S6) (k := 7) w l6.2.2 (by decide) (by rw [l6.1 7 (by decide), l5.1 7 (by decide), l4.1 7 (by decide), l3.1 7 (by decide), l2.1 7 (by decide)]; exact hl 7 (by decide) (by decide))
  have h1 : S7.1 1 = S.1 1 := by rw [l7.1 1 (by decide), l6.1 1 (by decide), l5.1 1 (by decide), l4.1 1 (by decide), l3.1 1 (by decide), l2.1 1 (by decide)]
  obtain ⟨S1, e1, l1, r1⟩ := zAdd (S := S7) (k := 1) a1 l7.2.2 (by decide) (by rw [h1]; exact hl 1 (by decide) (by decide))
  refine ⟨S1, ?_, ?_, ?_, ?_, ?_, ?_, ?_, ?_, ?_⟩
  · rw [e2, zbind2_e, e3, zbind2_e, e4, zbind2_e, e5, zbind2_e, e6, zbind2_e, e7, zbind2_e, e1, zbind2_e, h1]
  · have m : ∀ k S S', 1 ≤ k → k ≤ 7 → zLike [k] S S' → zLike [1, 2, 3, 4, 5, 6, 7] S S' := fun k S S' h1 h2 h => zLike_mono h (fun j hj => by
      have : j = k := by simpa using hj
      subst this
      simp; omega)
    exact zLike_tr (m 2 _ _ (by decide) (by decide) l2) (zLike_tr (m 3 _ _ (by decide) (by decide) l3) (zLike_tr (m 4 _ _ (by decide) (by decide) l4) (zLike_tr (m 5 _ _ (by decide) (by decide) l5) (zLike_tr (m 6 _ _ (by decide) (by decide) l6) (zLike_tr (m 7 _ _ (by decide) (by decide) l7) (m 1 _ _ (by decide) (by decide) l1))))))
  · rw [r1, h1]
  · rw [l1.1 2 (by decide), l7.1 2 (by decide), l6.1 2 (by decide), l5.1 2 (by decide), l4.1 2 (by decide), l3.1 2 (by decide), r2]
  · rw [l1.1 3 (by decide), l7.1 3 (by decide), l6.1 3 (by decide), l5.1 3 (by decide), l4.1 3 (by decide), r3, l2.1 3 (by decide)]
  · rw [l1.1 4 (by decide), l7.1 4 (by decide), l6.1 4 (by decide), l5.1 4 (by decide), r4, l3.1 4 (by decide), l2.1 4 (by decide)]
  · rw [l1.1 5 (by decide), l7.1 5 (by decide), l6.1 5 (by decide), r5, l4.1 5 (by decide), l3.1 5 (by decide), l2.1 5 (by decide)]
  · rw [l1.1 6 (by decide), l7.1 6 (by decide), r6, l5.1 6 (by decide), l4.1 6 (by decide), l3.1 6 (by decide), l2.1 6 (by decide)]
  · rw [l1.1 7 (by decide), r7, l6.1 7 (by decide), l5.1 7 (by decide), l4.1 7 (by decide), l3.1 7 (by decide), l2.1 7 (by decide)]
/-- a new plain pattern -/
def newPt (P : Nat → Pt) (k : Nat) (s m : Int32) (o : Option Nat) : Pt := (k, s, m, o, (match o with
  | none => 1
  | some x => 1 + pZ (P x)), (match o with
  | none => decide (k ≠ 0)
  | some x => decide (k ≠ 0) && pW (P x)), 0, 0)
theorem PC_rows {S' : zS} {p : Pt} (h : PC S np P nl fl) (l : ∀ k, k = 8 ∨ k = 9 → S'.1 k = S.1 k) (r1 : S'.1 1 = S.1 1 ++ [nI (pK p)]) (r2 : S'.1 2 = S.1 2 ++ [pS p]) (r3 : S'.1 3 = S.1 3 ++ [pM p]) (r4 : S'.1 4 = S.1 4 ++ [pI p]) (r5 : S'.1 5 = S.1 5 ++ [nI (pN p)]) (r6 : S'.1 6 = S.1 6 ++ [nI (pZ p)]) (r7 : S'.1 7 = S.1 7 ++ [bI (pW p)]) : PC S' (np + 1) (va_up P np p) nl fl := by
  obtain ⟨h1, h2, h3, h4, h5, h6, h7, h8, h9⟩ := h
  refine ⟨?_, ?_, ?_, ?_, ?_, ?_, ?_, ?_, ?_⟩
  · rw [r1, h1]; exact rowOf_ext (fun i hi => by rw [va_n (by omega)]) (by rw [va_s])
  · rw [r2, h2]; exact rowOf_ext (fun i hi => by rw [va_n (by omega)]) (by rw [va_s])
  · rw [r3, h3]; exact rowOf_ext (fun i hi => by rw [va_n (by omega)]) (by rw [va_s])
  · rw [r4, h4]; exact rowOf_ext (fun i hi => by rw [va_n (by omega)]) (by rw [va_s])
  · rw [r5, h5]; exact rowOf_ext (fun i hi => by rw [va_n (by omega)]) (by rw [va_s])
  · rw [r6, h6]; exact rowOf_ext (fun i hi => by rw [va_n (by omega)]) (by rw [va_s])
  · rw [r7, h7]; exact rowOf_ext (fun i hi => by rw [va_n (by omega)]) (by rw [va_s])
  · rw [l 8 (Or.inl rfl), h8]
  · rw [l 9 (Or.inr rfl), h9]
theorem PC_len (h : PC S np P nl fl) : ∀ k, 1 ≤ k → k ≤ 7 → (S.1 k).length = np := by
  obtain ⟨h1, h2, h3, h4, h5, h6, h7, h8, h9⟩ := h
  intro k k1 k2
  have : k = 1 ∨ k = 2 ∨ k = 3 ∨ k = 4 ∨ k = 5 ∨ k = 6 ∨ k = 7 := by omega
  rcases this with e | e | e | e | e | e | e <;> subst e <;> simp only [*, rowOf_len]
theorem p_hasRoom (h : PC S np P nl fl) (hn : np < 16384) {w : Nat} (hw : w ≤ 100000000) : (w ≤ 10000 ∧ f_Pat_hasRoom S (nI w) = 1) ∨ (10000 < w ∧ f_Pat_hasRoom S (nI w) = 0) := by
  unfold f_Pat_hasRoom r_size
  rw [PC_len h 1 (by decide) (by decide), if_neg (by (simp (disch := omega) only [nI_1, nI_add, Int32.lt_iff_toInt_lt, Int32.le_iff_toInt_le, ← Int32.toInt_inj, nI_toInt, tI_0, tI_1, tI_2, tI_3, tI_4, tI_m1, tI_m2, tI_m3, tI_m4, tI_64, tI_128, tI_255, tI_256, tI_1000, tI_1024, tI_4096, tI_10000, tI_16384, tI_16386, tI_M]; omega))]
  by_cases c : w ≤ 10000
  · rw [if_neg (by (simp (disch := omega) only [nI_1, nI_add, Int32.lt_iff_toInt_lt, Int32.le_iff_toInt_le, ← Int32.toInt_inj, nI_toInt, tI_0, tI_1, tI_2, tI_3, tI_4, tI_m1, tI_m2, tI_m3, tI_m4, tI_64, tI_128, tI_255, tI_256, tI_1000, tI_1024, tI_4096, tI_10000, tI_16384, tI_16386, tI_M]; omega))]; exact Or.inl ⟨c, rfl⟩
  · rw [if_pos (by (simp (disch := omega) only [nI_1, nI_add, Int32.lt_iff_toInt_lt, Int32.le_iff_toInt_le, ← Int32.toInt_inj, nI_toInt, tI_0, tI_1, tI_2, tI_3, tI_4, tI_m1, tI_m2, tI_m3, tI_m4, tI_64, tI_128, tI_255, tI_256, tI_1000, tI_1024, tI_4096, tI_10000, tI_16384, tI_16386, tI_M]; omega))]; exact Or.inr ⟨by omega, rfl⟩
theorem p_isValue (h : PC S np P nl fl) (hn : np ≤ 16384) {a : Nat} (ha : a < np) : f_Pat_isValue S (nI a) = bI (pW (P a)) := by
  unfold f_Pat_isValue
  rw [cW h hn ha]
  cases pW (P a)
  · rw [if_pos (by decide)]; rfl
  · rw [if_neg (by decide)]; rfl
theorem p_addPlain (h : PC S np P nl fl) (ho : okS S) (hn : np < 16384) (hz : ∀ i, i < np → pZ (P i) ≤ 10000) {k : Nat} (hk : k < 4) (s m : Int32) {o : Option Nat} (hok : ∀ x, o = some x → x < np) (hk0 : k = 0 → o = none) :
    (10000 < pZ (newPt P k s m o) ∧ f_Pat_addPlain S (nI k) s m (oI o) = (S, -2)) ∨ (pZ (newPt P k s m o) ≤ 10000 ∧ ∃ S', f_Pat_addPlain S (nI k) s m (oI o) = (S', nI np) ∧ zLike [1, 2, 3, 4, 5, 6, 7] S S' ∧ PC S' (np + 1) (va_up P np (newPt P k s m o)) nl fl) := by
  have hlen : ∀ k, 1 ≤ k → k ≤ 7 → (S.1 k).length < 65536 := fun k k1 k2 => by rw [PC_len h k k1 k2]; omega
  have mk : ∀ (v : Nat) (w : Bool) (S' : zS), v = pZ (newPt P k s m o) → w = pW (newPt P k s m o) → zLike [1, 2, 3, 4, 5, 6, 7] S S' ∧ S'.1 1 = S.1 1 ++ [nI k] ∧ S'.1 2 = S.1 2 ++ [s] ∧ S'.1 3 = S.1 3 ++ [m] ∧ S'.1 4 = S.1 4 ++ [oI o] ∧ S'.1 5 = S.1 5 ++ [0] ∧ S'.1 6 = S.1 6 ++ [nI v] ∧ S'.1 7 = S.1 7 ++ [bI w] → PC S' (np + 1) (va_up P np (newPt P k s m o)) nl fl := by
    intro v w S' ev ew ⟨l, r1, r2, r3, r4, r5, r6, r7⟩
    have ei : pI (newPt P k s m o) = oI o := by unfold pI; rw [if_neg (show ¬ pK (newPt P k s m o) = 4 from (by show ¬ k = 4; omega))]; rfl
    refine PC_rows (p := newPt P k s m o) h (fun k hk => l.1 k (by rcases hk with e | e <;> subst e <;> decide)) r1 r2 r3 ?_ r5 ?_ ?_
    · rw [ei]; exact r4
    · rw [← ev]; exact r6
    · rw [← ew]; exact r7
  unfold f_Pat_addPlain
  cases o with
  | none =>
    have ew : pZ (newPt P k s m none) = 1 := rfl
    rw [if_neg (by simp [oI])]
    rcases p_hasRoom h hn (w := 1) (by omega) with ⟨w1, w2⟩ | ⟨w1, w2⟩
    · right
      refine ⟨by omega, ?_⟩
      have w2' : f_Pat_hasRoom S 1 = 1 := w2
      rw [w2', if_pos (by decide)]
      by_cases c : k = 0
      · rw [if_pos (by rw [c]; rfl)]
        obtain ⟨S', e, rs⟩ := p_chain (S := S) (nI k) s m (oI none) 1 0 ho hlen
        refine ⟨S', by rw [e, PC_len h 1 (by decide) (by decide)], rs.1, mk 1 false S' rfl (by unfold newPt pW; simp [c]) rs⟩
      · rw [if_neg (by (simp (disch := omega) only [nI_1, nI_add, Int32.lt_iff_toInt_lt, Int32.le_iff_toInt_le, ← Int32.toInt_inj, nI_toInt, tI_0, tI_1, tI_2, tI_3, tI_4, tI_m1, tI_m2, tI_m3, tI_m4, tI_64, tI_128, tI_255, tI_256, tI_1000, tI_1024, tI_4096, tI_10000, tI_16384, tI_16386, tI_M]; omega)), if_pos (by rfl)]
        obtain ⟨S', e, rs⟩ := p_chain (S := S) (nI k) s m (oI none) 1 1 ho hlen
        refine ⟨S', by rw [e, PC_len h 1 (by decide) (by decide)], rs.1, mk 1 true S' rfl (by unfold newPt pW; simp [c]) rs⟩
    · omega
  | some x =>
    have hx := hok x rfl
    have hzx := hz x hx
    have c0 : k ≠ 0 := fun c => by have := hk0 c; cases this
    have ew : pZ (newPt P k s m (some x)) = 1 + pZ (P x) := rfl
    have e6 : (1 : Int32) + r_at S 6 (oI (some x)) = nI (1 + pZ (P x)) := by
      show (1 : Int32) + f_Pat_weight S (nI x) = _
      rw [cZ h (by omega) hx]
      exact nI_add 1 _
    rw [if_pos (by unfold oI; exact nI_m1 (by omega)), zbind_e, e6]
    rcases p_hasRoom h hn (w := 1 + pZ (P x)) (by omega) with ⟨w1, w2⟩ | ⟨w1, w2⟩
    · right
      refine ⟨by omega, ?_⟩
      rw [w2, if_pos (by decide), if_neg (by (simp (disch := omega) only [nI_1, nI_add, Int32.lt_iff_toInt_lt, Int32.le_iff_toInt_le, ← Int32.toInt_inj, nI_toInt, tI_0, tI_1, tI_2, tI_3, tI_4, tI_m1, tI_m2, tI_m3, tI_m4, tI_64, tI_128, tI_255, tI_256, tI_1000, tI_1024, tI_4096, tI_10000, tI_16384, tI_16386, tI_M]; omega)), if_neg (by unfold oI; exact nI_m1 (by omega))]
      have ev := p_isValue h (by omega) hx
      rw [show f_Pat_isValue S (oI (some x)) = bI (pW (P x)) from ev]
      cases hwx : pW (P x) with
      | false =>
        rw [if_pos (by rfl)]
        obtain ⟨S', e, rs⟩ := p_chain (S := S) (nI k) s m (oI (some x)) (nI (1 + pZ (P x))) 0 ho hlen
        refine ⟨S', by rw [e, PC_len h 1 (by decide) (by decide)], rs.1, mk (1 + pZ (P x)) false S' rfl (by unfold newPt; show false = (decide (k ≠ 0) && pW (P x)); rw [hwx]; simp) rs⟩
      | true =>
        rw [if_neg (by decide)]
        obtain ⟨S', e, rs⟩ := p_chain (S := S) (nI k) s m (oI (some x)) (nI (1 + pZ (P x))) 1 ho hlen
        refine ⟨S', by rw [e, PC_len h 1 (by decide) (by decide)], rs.1, mk (1 + pZ (P x)) true S' rfl (by unfold newPt; show true = (decide (k ≠ 0) && pW (P x)); rw [hwx]; simp [c0]) rs⟩
    · left
      refine ⟨by omega, ?_⟩
      rw [w2, if_neg (by decide)]
theorem i8_k : ∀ k, k < 5 → vp_nar .byte (nI k).toInt8.toInt32 = nI k := by
  intro k hk
  have : k = 0 ∨ k = 1 ∨ k = 2 ∨ k = 3 ∨ k = 4 := by omega
  rcases this with e | e | e | e | e <;> subst e <;> rfl
theorem i16_k {w : Nat} (h : w < 32768) : vp_nar .short (nI w).toInt16.toInt32 = nI w := by
  rw [vp_nar_short]
  have e : (nI w).toInt16 = Int16.ofNat w := by
    apply Int16.toInt_inj.mp
    rw [Int32.toInt_toInt16, nI_toInt (by omega), Int16.toInt_ofNat_of_lt (by omega)]
    rw [Int.bmod_eq_of_le (by omega) (by omega)]
  have e2 : (nI w).toInt16.toInt32 = nI w := by
    apply Int32.toInt_inj.mp
    rw [e, Int16.toInt_toInt32, Int16.toInt_ofNat_of_lt (by omega), nI_toInt (by omega)]
  rw [e2, e2]
theorem nb_b (w : Bool) : vp_nar .boolean (bI w) = bI w := by cases w <;> rfl
/-- what make writes -/
theorem p_make (h : PM M np P nl fl) (hn : np < 16384) {k : Nat} (hk : k < 5) (f1 f2 f3 : Int32) {w : Nat} (hw : w < 100000000) (b : Bool) (p : Pt) (e1 : pK p = k) (e2 : f1 = (if k = 3 then pM p else pS p)) (e3 : f2 = (if k = 3 then 0 else pM p)) (e4 : f3 = pI p) (e5 : pN p = 0) (e6 : w = pZ p) (e7 : b = pW p) :
    (10000 < w ∧ f_Mod_make M (nI k) f1 f2 f3 (nI w) (bI b) = some (M, -2)) ∨ (w ≤ 10000 ∧ ∃ M', f_Mod_make M (nI k) f1 f2 f3 (nI w) (bI b) = some (M', nI np) ∧ mLike [2, 3, 4, 5, 6, 7, 8] [] [1] M M' ∧ PM M' (np + 1) (va_up P np p) nl fl) := by
  obtain ⟨q1, q2, q3, q4⟩ := h
  unfold f_Mod_make
  rw [q1, if_neg (by (simp (disch := omega) only [nI_1, nI_add, Int32.lt_iff_toInt_lt, Int32.le_iff_toInt_le, ← Int32.toInt_inj, nI_toInt, tI_0, tI_1, tI_2, tI_3, tI_4, tI_m1, tI_m2, tI_m3, tI_m4, tI_64, tI_128, tI_255, tI_256, tI_1000, tI_1024, tI_4096, tI_10000, tI_16384, tI_16386, tI_M]; omega))]
  by_cases c : w ≤ 10000
  · right
    refine ⟨c, ?_⟩
    rw [if_pos (by (simp (disch := omega) only [nI_1, nI_add, Int32.lt_iff_toInt_lt, Int32.le_iff_toInt_le, ← Int32.toInt_inj, nI_toInt, tI_0, tI_1, tI_2, tI_3, tI_4, tI_m1, tI_m2, tI_m3, tI_m4, tI_64, tI_128, tI_255, tI_256, tI_1000, tI_1024, tI_4096, tI_10000, tI_16384, tI_16386, tI_M]; omega)), nI_clamp (by omega), m_wr_n hn (by omega)]
    have s1 : ∀ a x, (m_set M a np x).2.2 1 = nI np := fun a x => q1
    rw [s1, nI_clamp (by omega), m_wr_n hn (by omega)]
    have s2 : ∀ a x b y, (m_set (m_set M a np x) b np y).2.2 1 = nI np := fun a x b y => q1
    rw [s2, nI_clamp (by omega), m_wr_n hn (by omega)]
    have s3 : ∀ a x b y c z, (m_set (m_set (m_set M a np x) b np y) c np z).2.2 1 = nI np := fun a x b y c z => q1
    rw [s3, nI_clamp (by omega), m_wr_n hn (by omega)]
    have s4 : ∀ a x b y c z d u, (m_set (m_set (m_set (m_set M a np x) b np y) c np z) d np u).2.2 1 = nI np := fun a x b y c z d u => q1
    rw [s4, nI_clamp (by omega), m_wr_n hn (by omega)]
    have s5 : ∀ a x b y c z d u e v, (m_set (m_set (m_set (m_set (m_set M a np x) b np y) c np z) d np u) e np v).2.2 1 = nI np := fun a x b y c z d u e v => q1
    rw [s5, nI_clamp (by omega), m_wr_n hn (by omega)]
    have s6 : ∀ a x b y c z d u e v f t, (m_set (m_set (m_set (m_set (m_set (m_set M a np x) b np y) c np z) d np u) e np v) f np t).2.2 1 = nI np := fun a x b y c z d u e v f t => q1
    rw [s6, nI_clamp (by omega), m_wr_n hn (by omega), zbind_e]
    have s7 : ∀ a x b y c z d u e v f t g o, (m_set (m_set (m_set (m_set (m_set (m_set (m_set M a np x) b np y) c np z) d np u) e np v) f np t) g np o).2.2 1 = nI np := fun a x b y c z d u e v f t g o => q1
    rw [s7, m_sc_at, nI_1, nI_pred, i8_k k hk, i16_k (by omega), nb_b]
    refine ⟨_, rfl, ?_, m_sc_at, ?_, ?_, ?_⟩
    · refine ⟨fun j hj => ?_, fun _ _ => rfl, fun j hj => m_sc_ne (by simpa using hj)⟩
      have : j ≠ 2 ∧ j ≠ 3 ∧ j ≠ 4 ∧ j ≠ 5 ∧ j ≠ 6 ∧ j ≠ 7 ∧ j ≠ 8 := by simpa using hj
      rw [m_sc_1, m_set_ne this.2.2.2.2.2.2, m_set_ne this.2.2.2.2.2.1, m_set_ne this.2.2.2.2.1, m_set_ne this.2.2.2.1, m_set_ne this.2.2.1, m_set_ne this.2.1, m_set_ne this.1]
    · rw [m_sc_ne (by decide)]; exact q2
    · intro i hi
      rw [m_sc_1]
      simp only [m_set_at, m_set_ne (show (2 : Nat) ≠ 8 by decide), m_set_ne (show (2 : Nat) ≠ 7 by decide), m_set_ne (show (2 : Nat) ≠ 6 by decide), m_set_ne (show (2 : Nat) ≠ 5 by decide), m_set_ne (show (2 : Nat) ≠ 4 by decide), m_set_ne (show (2 : Nat) ≠ 3 by decide), m_set_ne (show (3 : Nat) ≠ 8 by decide), m_set_ne (show (3 : Nat) ≠ 7 by decide), m_set_ne (show (3 : Nat) ≠ 6 by decide), m_set_ne (show (3 : Nat) ≠ 5 by decide), m_set_ne (show (3 : Nat) ≠ 4 by decide), m_set_ne (show (3 : Nat) ≠ 2 by decide), m_set_ne (show (4 : Nat) ≠ 8 by decide), m_set_ne (show (4 : Nat) ≠ 7 by decide), m_set_ne (show (4 : Nat) ≠ 6 by decide), m_set_ne (show (4 : Nat) ≠ 5 by decide), m_set_ne (show (4 : Nat) ≠ 3 by decide), m_set_ne (show (4 : Nat) ≠ 2 by decide), m_set_ne (show (5 : Nat) ≠ 8 by decide), m_set_ne (show (5 : Nat) ≠ 7 by decide), m_set_ne (show (5 : Nat) ≠ 6 by decide), m_set_ne (show (5 : Nat) ≠ 4 by decide), m_set_ne (show (5 : Nat) ≠ 3 by decide), m_set_ne (show (5 : Nat) ≠ 2 by decide), m_set_ne (show (6 : Nat) ≠ 8 by decide), m_set_ne (show (6 : Nat) ≠ 7 by decide), m_set_ne (show (6 : Nat) ≠ 5 by decide), m_set_ne (show (6 : Nat) ≠ 4 by decide), m_set_ne (show (6 : Nat) ≠ 3 by decide), m_set_ne (show (6 : Nat) ≠ 2 by decide), m_set_ne (show (7 : Nat) ≠ 8 by decide), m_set_ne (show (7 : Nat) ≠ 6 by decide), m_set_ne (show (7 : Nat) ≠ 5 by decide), m_set_ne (show (7 : Nat) ≠ 4 by decide), m_set_ne (show (7 : Nat) ≠ 3 by decide), m_set_ne (show (7 : Nat) ≠ 2 by decide), m_set_ne (show (8 : Nat) ≠ 7 by decide), m_set_ne (show (8 : Nat) ≠ 6 by decide), m_set_ne (show (8 : Nat) ≠ 5 by decide), m_set_ne (show (8 : Nat) ≠ 4 by decide), m_set_ne (show (8 : Nat) ≠ 3 by decide), m_set_ne (show (8 : Nat) ≠ 2 by decide)]
      by_cases e : i = np
      · subst e
        rw [upd_s, upd_s, upd_s, upd_s, upd_s, upd_s, upd_s, va_s, e1, e5]
        exact ⟨rfl, e2, e3, e4, rfl, by rw [e6], by rw [e7]⟩
      · rw [upd_n e, upd_n e, upd_n e, upd_n e, upd_n e, upd_n e, upd_n e, va_n e]
        exact q3 i (by omega)
    · intro i hi
      rw [m_sc_1]
      simp only [m_set_ne (show (9 : Nat) ≠ 8 by decide), m_set_ne (show (9 : Nat) ≠ 7 by decide), m_set_ne (show (9 : Nat) ≠ 6 by decide), m_set_ne (show (9 : Nat) ≠ 5 by decide), m_set_ne (show (9 : Nat) ≠ 4 by decide), m_set_ne (show (9 : Nat) ≠ 3 by decide), m_set_ne (show (9 : Nat) ≠ 2 by decide), m_set_ne (show (10 : Nat) ≠ 8 by decide), m_set_ne (show (10 : Nat) ≠ 7 by decide), m_set_ne (show (10 : Nat) ≠ 6 by decide), m_set_ne (show (10 : Nat) ≠ 5 by decide), m_set_ne (show (10 : Nat) ≠ 4 by decide), m_set_ne (show (10 : Nat) ≠ 3 by decide), m_set_ne (show (10 : Nat) ≠ 2 by decide)]
      exact q4 i hi
  · left
    refine ⟨by omega, ?_⟩
    rw [if_neg (by (simp (disch := omega) only [nI_1, nI_add, Int32.lt_iff_toInt_lt, Int32.le_iff_toInt_le, ← Int32.toInt_inj, nI_toInt, tI_0, tI_1, tI_2, tI_3, tI_4, tI_m1, tI_m2, tI_m3, tI_m4, tI_64, tI_128, tI_255, tI_256, tI_1000, tI_1024, tI_4096, tI_10000, tI_16384, tI_16386, tI_M]; omega))]
end PPL
