-- PURE LAYER: bits of longs; the calls family, built
def gb (x : Int64) (j : Nat) : Bool := x.toBitVec.getLsbD j
theorem gb_big {x : Int64} {j : Nat} (h : 64 ≤ j) : gb x j = false := BitVec.getLsbD_of_ge _ _ h
theorem gb_and (x y : Int64) (j : Nat) : gb (x &&& y) j = (gb x j && gb y j) := by unfold gb; rw [Int64.toBitVec_and, BitVec.getLsbD_and]
theorem gb_or (x y : Int64) (j : Nat) : gb (x ||| y) j = (gb x j || gb y j) := by unfold gb; rw [Int64.toBitVec_or, BitVec.getLsbD_or]
theorem gb_ext {x y : Int64} (h : ∀ j, j < 64 → gb x j = gb y j) : x = y := Int64.toBitVec_inj.mp (BitVec.eq_of_getLsbD_eq (fun j hj => h j hj))
theorem gb_0 (j : Nat) : gb 0 j = false := by unfold gb; exact BitVec.getLsbD_zero
theorem gb_1 (j : Nat) : gb 1 j = decide (j = 0) := by
  unfold gb
  show (1#64).getLsbD j = _
  rw [BitVec.getLsbD_one]; simp
theorem gb_m1 {j : Nat} (h : j < 64) : gb (-1) j = true := by
  unfold gb
  rw [show (-1 : Int64).toBitVec = BitVec.allOnes 64 by decide, BitVec.getLsbD_allOnes]
  simp [h]
theorem gb_z (x : Int64) : x = 0 ↔ ∀ j, j < 64 → gb x j = false := ⟨fun h j _ => by rw [h]; exact gb_0 j, fun h => gb_ext (fun j hj => by rw [h j hj, gb_0])⟩
theorem gb_a1 (x : Int64) : x &&& 1 = 1 ↔ gb x 0 = true := by
  constructor
  · intro h
    have := congrArg (fun y => gb y 0) h
    simpa [gb_and, gb_1] using this
  · intro h
    refine gb_ext (fun j _ => ?_)
    rw [gb_and, gb_1]
    by_cases c : j = 0
    · subst c; rw [h]; rfl
    · simp [c]
theorem gb_a0 (x : Int64) : x &&& 1 = 0 ↔ gb x 0 = false := by
  constructor
  · intro h
    have := congrArg (fun y => gb y 0) h
    simpa [gb_and, gb_1, gb_0] using this
  · intro h
    refine gb_ext (fun j _ => ?_)
    rw [gb_and, gb_1, gb_0]
    by_cases c : j = 0
    · subst c; rw [h]; rfl
    · simp [c]
theorem sh_c : ∀ k, k < 64 → ((nI k).toInt64 &&& 63).toBitVec.smod 64 = BitVec.ofNat 64 k := by decide +kernel
theorem sh_cu : ∀ k, k < 64 → ((nI k).toInt64.toUInt64 &&& Int64.toUInt64 63).toNat = k := by decide +kernel
theorem gb_lushr (x : Int64) {k : Nat} (hk : k < 64) (j : Nat) : gb (z_lushr x (nI k)) j = gb x (k + j) := by
  unfold gb z_lushr
  have e : (x.toUInt64 >>> ((nI k).toInt64.toUInt64 &&& Int64.toUInt64 63)).toInt64.toBitVec = x.toBitVec >>> k := by
    apply BitVec.eq_of_toNat_eq
    show (x.toUInt64 >>> ((nI k).toInt64.toUInt64 &&& Int64.toUInt64 63)).toNat = _
    rw [UInt64.toNat_shiftRight, sh_cu k hk, Nat.mod_eq_of_lt hk, BitVec.toNat_ushiftRight]
    rfl
  rw [e, BitVec.getLsbD_ushiftRight]
theorem gb_lshl (x : Int64) {k : Nat} (hk : k < 64) {j : Nat} (hj : j < 64) : gb (z_lshl x (nI k)) j = (decide (k ≤ j) && gb x (j - k)) := by
  unfold gb z_lshl
  rw [Int64.toBitVec_shiftLeft, sh_c k hk, BitVec.shiftLeft_eq', BitVec.toNat_ofNat, Nat.mod_eq_of_lt (by omega), BitVec.getLsbD_shiftLeft]
  simp [hj]
  by_cases c : k ≤ j
  · simp [c, show ¬ j < k by omega]
  · simp [c, show j < k by omega]
theorem gb_lshr0 (x : Int64) {k : Nat} (hk : k < 64) : gb (z_lshr x (nI k)) 0 = gb x k := by
  unfold gb z_lshr
  rw [Int64.toBitVec_shiftRight, sh_c k hk, BitVec.sshiftRight_eq', BitVec.toNat_ofNat, Nat.mod_eq_of_lt (by omega), BitVec.getLsbD_sshiftRight]
  simp [hk]
section PBI
variable {n : Nat} {S : zS} {M : zM} {nf : Nat} {fam : Nat → Nat} {bit : Nat → Int64} {np : Nat} {P : Nat → Pt} {nl : Nat} {fl : Nat → Nat × Nat} {m : Nat} {ps : Nat → Nat × Nat}
theorem PC_same {S' : zS} (h : PC S np P nl fl) (e : ∀ k, 1 ≤ k → k ≤ 9 → S'.1 k = S.1 k) : PC S' np P nl fl := by
  unfold PC at h ⊢
  rw [e 1 (by omega) (by omega), e 2 (by omega) (by omega), e 3 (by omega) (by omega), e 4 (by omega) (by omega), e 5 (by omega) (by omega), e 6 (by omega) (by omega), e 7 (by omega) (by omega), e 8 (by omega) (by omega), e 9 (by omega) (by omega)]
  exact h
theorem fam_cond (x : Int64) {k : Nat} (hk : k < 64) : z_lushr x (nI k) = 0 ↔ x &&& z_lshl (-1) (nI k) = 0 := by
  rw [gb_z, gb_z]
  constructor
  · intro h j hj
    rw [gb_and, gb_lshl _ hk hj]
    by_cases c : k ≤ j
    · have := h (j - k) (by omega)
      rw [gb_lushr x hk, show k + (j - k) = j by omega] at this
      rw [this]; rfl
    · simp [c]
  · intro h j hj
    rw [gb_lushr x hk]
    by_cases c : k + j < 64
    · have := h (k + j) c
      rw [gb_and, gb_lshl _ hk c, show k + j - k = j by omega, gb_m1 hj] at this
      simpa using this
    · exact gb_big (by omega)
theorem k_famAdd (h : BB n S M nf fam bit np P nl fl m ps) (hn : n ≤ 600) {t : Nat} (ht : t ≤ 64) (a2 : Int64) : Keep n S M nf fam bit np P nl fl (zbind2 (f_Fam_add S (nI t) a2) fun S4 v5 => (S4, v5)) (if ¬ (M.2.2 0) = 1024 then
          m_wr 1024 (M.2.2 0) (m_set M 0 (Int32.toNatClampNeg (M.2.2 0)) (nI t)) fun S5 =>
          m_wr 1024 (S5.2.2 0) (m_setl S5 1 (Int32.toNatClampNeg (S5.2.2 0)) a2) fun S6 =>
          zbind (m_sc S6 0 ((S6.2.2 0) + 1)) fun S7 =>
          some (S7, ((S7.2.2 0) - 1))
        else
          some (M, (-2))) := by
  have h' := h
  obtain ⟨a0, a1, a2', a3, a4, a5, a6, a7, a8, a9⟩ := h
  have hsz : r_size S 0 = nI nf := by unfold r_size; rw [a2'.1, rowOf_len]
  unfold f_Fam_add
  rw [zbind_e, hsz, if_neg (nI_pos (by omega)), if_pos (by (simp (disch := omega) only [nI_1, nI_add, Int32.lt_iff_toInt_lt, Int32.le_iff_toInt_le, ← Int32.toInt_inj, nI_toInt, tI_0, tI_1, tI_2, tI_3, tI_4, tI_m1, tI_m2, tI_m3, tI_m4, tI_64, tI_128, tI_255, tI_256, tI_1000, tI_1024, tI_4096, tI_10000, tI_16384, tI_16386, tI_M]; omega)), zbind_e, nI_clamp (by omega)]
  have ho : okS (z_lg S nf a2) := a0
  have hlen : ((z_lg S nf a2).1 0).length = nf := by show (S.1 0).length = nf; rw [a2'.1, rowOf_len]
  obtain ⟨S1, e1, l1, r1⟩ := zAdd (S := z_lg S nf a2) (k := 0) (nI t) ho (by decide) (by omega)
  rw [e1, zbind2_e, zbind2_e, hlen, a3.1, if_pos (by (simp (disch := omega) only [nI_1, nI_add, Int32.lt_iff_toInt_lt, Int32.le_iff_toInt_le, ← Int32.toInt_inj, nI_toInt, tI_0, tI_1, tI_2, tI_3, tI_4, tI_m1, tI_m2, tI_m3, tI_m4, tI_64, tI_128, tI_255, tI_256, tI_1000, tI_1024, tI_4096, tI_10000, tI_16384, tI_16386, tI_M]; omega)), m_wr_n (by omega) (by omega), nI_clamp (by omega)]
  have s1 : ∀ x, (m_set M 0 nf x).2.2 0 = nI nf := fun x => a3.1
  rw [s1, m_wr_n (by omega) (by omega), nI_clamp (by omega), zbind_e]
  have s2 : ∀ x y, (m_setl (m_set M 0 nf x) 1 nf y).2.2 0 = nI nf := fun x y => a3.1
  rw [s2, m_sc_at, nI_1, nI_pred]
  refine ⟨S1, _, nI nf, nf + 1, va_up fam nf t, va_up bit nf a2, np, P, nl, fl, m, ps, rfl, rfl, ⟨l1.2.2, by omega, ⟨?_, fun i hi => ?_⟩, ⟨m_sc_at, fun i hi => ?_⟩, ?_, ?_, ⟨a6.1, a6.2.1, fun f hf => ?_, by omega, fun i hi => pwf_ext (a6.2.2.2.2 i hi) (fun _ _ => rfl) (Nat.le_refl _) (fun _ _ => rfl) (by omega) (fun f hf => ⟨va_n (by omega), va_n (by omega)⟩)⟩, ?_, ?_, a9⟩, by omega, Nat.le_refl _, Nat.le_refl _, fun i hi => ⟨va_n (by omega), va_n (by omega)⟩, fun _ _ => rfl, fun _ _ => rfl, fun k hk => l1.1 k (by simp; omega), fun k hk => by rw [l1.2.1]; rfl, fun k hk => ?_, fun k hk => ?_, fun k hk => m_sc_ne (by omega)⟩
  · rw [r1]
    show S.1 0 ++ [nI t] = _
    rw [a2'.1]
    exact rowOf_ext (fun i hi => by rw [va_n (by omega)]) (by rw [va_s])
  · rw [l1.2.1]
    show va_up S.2.2.2 nf a2 i = va_up bit nf a2 i
    by_cases e : i = nf
    · subst e; rw [va_s, va_s]
    · rw [va_n e, va_n e]; exact a2'.2 i (by omega)
  · show upd (M.1 0) nf (nI t) i = _ ∧ vp_updL (M.2.1 1) nf a2 i = _
    by_cases e : i = nf
    · subst e; rw [upd_s, updL_s, va_s, va_s]; exact ⟨rfl, rfl⟩
    · rw [upd_n e, updL_n e, va_n e, va_n e]; exact a3.2 i (by omega)
  · exact PC_same (S := S) a4 (fun k h1 h2 => l1.1 k (by simp; omega))
  · exact PM_like (ks := [0]) (ls := [1]) (ns := [0]) a5 ⟨fun k hk => m_set_ne (by simpa using hk), fun k hk => va_n (by simpa using hk), fun k hk => m_sc_ne (by simpa using hk)⟩ (by simp) (by simp)
  · by_cases e : f = nf
    · subst e; rw [va_s]; exact ht
    · rw [va_n e]; exact a6.2.2.1 f (by omega)
  · unfold UC
    rw [l1.1 10 (by decide), l1.2.1]; exact a7
  · exact a8
  · exact m_set_ne (by omega)
  · exact va_n hk
theorem k_family (h : BB n S M nf fam bit np P nl fl m ps) (hn : n ≤ 600) (a1 : Int32) (a2 : Int64) : Keep n S M nf fam bit np P nl fl (f_Tre_family S a1 a2) (f_Mod_family M a1 a2) := by
  unfold f_Tre_family f_Mod_family
  by_cases c1 : a1 < 1
  · rw [if_pos c1, if_pos c1]; exact keep_no h
  · rw [if_neg c1, if_neg c1]
    obtain ⟨t, ht, et⟩ := nI_of (show ¬ a1 < 0 by (simp (disch := omega) only [nI_1, nI_add, Int32.lt_iff_toInt_lt, Int32.le_iff_toInt_le, ← Int32.toInt_inj, nI_toInt, tI_0, tI_1, tI_2, tI_3, tI_4, tI_m1, tI_m2, tI_m3, tI_m4, tI_64, tI_128, tI_255, tI_256, tI_1000, tI_1024, tI_4096, tI_10000, tI_16384, tI_16386, tI_M] at *; omega))
    subst et
    by_cases c2 : t ≤ 64
    · rw [if_pos (show nI t ≤ 64 by (simp (disch := omega) only [nI_1, nI_add, Int32.lt_iff_toInt_lt, Int32.le_iff_toInt_le, ← Int32.toInt_inj, nI_toInt, tI_0, tI_1, tI_2, tI_3, tI_4, tI_m1, tI_m2, tI_m3, tI_m4, tI_64, tI_128, tI_255, tI_256, tI_1000, tI_1024, tI_4096, tI_10000, tI_16384, tI_16386, tI_M]; omega)), if_neg (show ¬ (64 : Int32) < nI t by (simp (disch := omega) only [nI_1, nI_add, Int32.lt_iff_toInt_lt, Int32.le_iff_toInt_le, ← Int32.toInt_inj, nI_toInt, tI_0, tI_1, tI_2, tI_3, tI_4, tI_m1, tI_m2, tI_m3, tI_m4, tI_64, tI_128, tI_255, tI_256, tI_1000, tI_1024, tI_4096, tI_10000, tI_16384, tI_16386, tI_M]; omega))]
      by_cases c3 : t = 64
      · subst c3
        rw [if_pos (show (64 : Int32) ≤ nI 64 by decide), if_pos (show nI 64 = (64 : Int32) from rfl)]
        exact k_famAdd h hn (by omega) a2
      · rw [if_neg (show ¬ (64 : Int32) ≤ nI t by (simp (disch := omega) only [nI_1, nI_add, Int32.lt_iff_toInt_lt, Int32.le_iff_toInt_le, ← Int32.toInt_inj, nI_toInt, tI_0, tI_1, tI_2, tI_3, tI_4, tI_m1, tI_m2, tI_m3, tI_m4, tI_64, tI_128, tI_255, tI_256, tI_1000, tI_1024, tI_4096, tI_10000, tI_16384, tI_16386, tI_M]; omega)), if_neg (show ¬ nI t = (64 : Int32) by (simp (disch := omega) only [nI_1, nI_add, Int32.lt_iff_toInt_lt, Int32.le_iff_toInt_le, ← Int32.toInt_inj, nI_toInt, tI_0, tI_1, tI_2, tI_3, tI_4, tI_m1, tI_m2, tI_m3, tI_m4, tI_64, tI_128, tI_255, tI_256, tI_1000, tI_1024, tI_4096, tI_10000, tI_16384, tI_16386, tI_M]; omega))]
        by_cases c4 : z_lushr a2 (nI t) = 0
        · rw [if_pos ((lgc0 _).mpr c4), if_neg (by simpa using (lgc0 _).mpr ((fam_cond a2 (by omega)).mp c4))]
          exact k_famAdd h hn c2 a2
        · rw [if_neg (fun q => c4 ((lgc0 _).mp q)), if_pos (fun q => c4 ((fam_cond a2 (by omega)).mpr ((lgc0 _).mp q)))]
          exact keep_no h
    · rw [if_neg (show ¬ nI t ≤ 64 by (simp (disch := omega) only [nI_1, nI_add, Int32.lt_iff_toInt_lt, Int32.le_iff_toInt_le, ← Int32.toInt_inj, nI_toInt, tI_0, tI_1, tI_2, tI_3, tI_4, tI_m1, tI_m2, tI_m3, tI_m4, tI_64, tI_128, tI_255, tI_256, tI_1000, tI_1024, tI_4096, tI_10000, tI_16384, tI_16386, tI_M]; omega)), if_pos (show (64 : Int32) < nI t by (simp (disch := omega) only [nI_1, nI_add, Int32.lt_iff_toInt_lt, Int32.le_iff_toInt_le, ← Int32.toInt_inj, nI_toInt, tI_0, tI_1, tI_2, tI_3, tI_4, tI_m1, tI_m2, tI_m3, tI_m4, tI_64, tI_128, tI_255, tI_256, tI_1000, tI_1024, tI_4096, tI_10000, tI_16384, tI_16386, tI_M]; omega))]; exact keep_no h
theorem fam_tag (h : FC S nf fam bit) (hm : FM M nf fam bit) (hn : nf ≤ 1024) (hf : ∀ f, f < nf → fam f ≤ 64) (a1 a2 : Int32) : (f_Fam_hasTag S a1 a2 = 0 ∧ ¬ ∃ f t, f < nf ∧ t < fam f ∧ a1 = nI f ∧ a2 = nI t) ∨ ∃ f t, f < nf ∧ t < fam f ∧ a1 = nI f ∧ a2 = nI t ∧ f_Fam_hasTag S a1 a2 = 1 ∧ (f_Fam_takesArgument S a1 a2 = bI (gb (bit f) t)) := by
  by_cases c : ∃ f t, f < nf ∧ t < fam f ∧ a1 = nI f ∧ a2 = nI t
  · right
    obtain ⟨f, t, h1, h2, e1, e2⟩ := c
    have h3 := hf f h1
    have ht : f_Fam_hasTag S a1 a2 = 1 := by
      unfold f_Fam_hasTag
      rw [e1, e2, if_neg (nI_pos (by omega)), r_at_rd, h.1, rowOf_rd h1 (by omega), if_neg (nI_ge h2 (by omega))]
    refine ⟨f, t, h1, h2, e1, e2, ht, ?_⟩
    unfold f_Fam_takesArgument
    rw [ht, if_neg (by decide), e1, e2, if_neg (nI_pos (by omega)), if_neg (by (simp (disch := omega) only [nI_1, nI_add, Int32.lt_iff_toInt_lt, Int32.le_iff_toInt_le, ← Int32.toInt_inj, nI_toInt, tI_0, tI_1, tI_2, tI_3, tI_4, tI_m1, tI_m2, tI_m3, tI_m4, tI_64, tI_128, tI_255, tI_256, tI_1000, tI_1024, tI_4096, tI_10000, tI_16384, tI_16386, tI_M]; omega)), nI_clamp (by omega), h.2 f h1]
    have e0 := gb_lushr (bit f) (k := t) (by omega) 0
    cases hb : gb (bit f) t with
    | false =>
      rw [if_pos ((lgc0 _).mpr ((gb_a0 _).mpr (by rw [e0]; exact hb)))]; rfl
    | true =>
      rw [if_neg (fun q => by have := (gb_a0 _).mp ((lgc0 _).mp q); rw [e0] at this; rw [Nat.add_zero, hb] at this; cases this)]; rfl
  · left
    refine ⟨?_, c⟩
    unfold f_Fam_hasTag
    by_cases d : a2 < 0
    · rw [if_pos d]
    · rw [if_neg d]
      obtain ⟨t, ht, et⟩ := nI_of d
      subst et
      rw [r_at_rd, h.1]
      by_cases d1 : a1 < 0
      · rw [rd_neg d1, if_pos (by (simp (disch := omega) only [nI_1, nI_add, Int32.lt_iff_toInt_lt, Int32.le_iff_toInt_le, ← Int32.toInt_inj, nI_toInt, tI_0, tI_1, tI_2, tI_3, tI_4, tI_m1, tI_m2, tI_m3, tI_m4, tI_64, tI_128, tI_255, tI_256, tI_1000, tI_1024, tI_4096, tI_10000, tI_16384, tI_16386, tI_M]; omega))]
      · obtain ⟨f, hf1, ef⟩ := nI_of d1
        subst ef
        by_cases d2 : f < nf
        · have h3 := hf f d2
          rw [rowOf_rd d2 (by omega), if_pos (nI_le (Nat.le_of_not_lt (fun q => c ⟨f, t, d2, q, rfl, rfl⟩)) ht)]
        · rw [rowOf_big (by omega) hf1, if_pos (by (simp (disch := omega) only [nI_1, nI_add, Int32.lt_iff_toInt_lt, Int32.le_iff_toInt_le, ← Int32.toInt_inj, nI_toInt, tI_0, tI_1, tI_2, tI_3, tI_4, tI_m1, tI_m2, tI_m3, tI_m4, tI_64, tI_128, tI_255, tI_256, tI_1000, tI_1024, tI_4096, tI_10000, tI_16384, tI_16386, tI_M]; omega))]
theorem k_built (h : BB n S M nf fam bit np P nl fl m ps) (hn : n ≤ 600) (a1 a2 a3 : Int32) : Keep n S M nf fam bit np P nl fl (f_Tre_built S a1 a2 a3) (f_Mod_built M a1 a2 a3) := by
  have h' := h
  obtain ⟨a0, b1, b2, b3, b4, b5, b6, b7, b8, b9⟩ := h
  unfold f_Tre_built
  rcases fam_tag b2 b3 b6.2.2.2.1 b6.2.2.1 a1 a2 with ⟨d1, d2⟩ | ⟨f, t, h1, h2, e1, e2, d1, d2⟩
  · rw [d1, if_neg (by decide)]
    have em : f_Mod_built M a1 a2 a3 = some (M, -1) := by
      unfold f_Mod_built
      by_cases c1 : a1 < 0
      · rw [if_pos c1]
      · rw [if_neg c1, b3.1]
        obtain ⟨f, hf1, ef⟩ := nI_of c1
        subst ef
        by_cases c2 : nI nf ≤ nI f
        · rw [if_pos c2]
        · have hf2 : f < nf := by (simp (disch := omega) only [nI_1, nI_add, Int32.lt_iff_toInt_lt, Int32.le_iff_toInt_le, ← Int32.toInt_inj, nI_toInt, tI_0, tI_1, tI_2, tI_3, tI_4, tI_m1, tI_m2, tI_m3, tI_m4, tI_64, tI_128, tI_255, tI_256, tI_1000, tI_1024, tI_4096, tI_10000, tI_16384, tI_16386, tI_M] at *; omega)
          rw [if_neg c2]
          by_cases c3 : a2 < 0
          · rw [if_pos c3]
          · obtain ⟨t, ht, et⟩ := nI_of c3
            subst et
            have h3 := b6.2.2.1 f hf2
            rw [if_neg c3, m_rd_n (by omega) (by omega), (b3.2 f hf2).1, if_neg (nI_nlt (Nat.le_of_not_lt (fun q => d2 ⟨f, t, hf2, q, rfl, rfl⟩)) ht)]
    rw [em]; exact keep_no h'
  · subst e1; subst e2
    have h3 := b6.2.2.1 f h1
    have wf : ∀ o : Option Nat, (∀ x, o = some x → x < np) → o.isSome = gb (bit f) t → pwf nf fam bit (va_up P np (newPt P 2 (nI f) (nI t) o)) nl fl np ∨ 10000 < pZ (newPt P 2 (nI f) (nI t) o) := by
      intro o hok hb
      by_cases hz : 10000 < pZ (newPt P 2 (nI f) (nI t) o)
      · exact Or.inr hz
      · left
        unfold pwf
        rw [va_s]
        refine ⟨by show 2 ≤ 4; decide, ?_, by omega, ?_, fun _ => rfl, (by intro e; cases e), (by intro e; cases e), fun j e => ?_, Nat.zero_le _, by show 0 ≤ 128; decide, (by intro j e; cases e), (by intro j k h1 h2; cases h2), (by intro e; cases e), fun _ => ⟨f, t, rfl, rfl, h1, h2, hb⟩, (by intro e; cases e), (by intro e; cases e), fun e => ⟨by show 2 ≠ 0; decide, fun j ej => ?_, (by intro j e; cases e)⟩⟩
        · cases o with
          | none => show 1 ≤ 1; decide
          | some x => show 1 ≤ 1 + pZ (P x); omega
        · intro e
          have e : (2 : Nat) = 0 ∨ (2 : Nat) = 1 ∨ (2 : Nat) = 4 := e
          omega
        · have ej : o = some j := e
          subst ej
          have := hok j rfl
          rw [va_n (by omega)]
          exact ⟨this, rfl⟩
        · have ej : o = some j := ej
          subst ej
          have := hok j rfl
          rw [va_n (by omega)]
          have : (decide ((2 : Nat) ≠ 0) && pW (P j)) = true := e
          simpa using this
    rw [d1, d2, if_pos (by decide)]
    unfold f_Mod_built
    rw [if_neg (nI_pos (by omega)), b3.1, if_neg (nI_ge h1 (by omega)), if_neg (nI_pos (by omega)), m_rd_n (by omega) (by omega), (b3.2 f h1).1, if_pos (nI_lt h2 (by omega)), m_rdl_n (by omega) (by omega), (b3.2 f h1).2]
    have e0 := gb_lshr0 (bit f) (k := t) (by omega)
    cases hb : gb (bit f) t with
    | false =>
      have hc : ¬ lg_cmp (z_lshr (bit f) (nI t) &&& 1) 1 = 0 := fun q => by have := (gb_a1 _).mp ((lgc1 _ _).mp q); rw [e0, hb] at this; cases this
      rw [if_pos (show bI false = 0 from rfl), if_pos hc]
      by_cases c : a3 = -1
      · subst c
        rw [if_neg (by simp), if_pos rfl]
        exact keep_plain (k := 2) (o := none) (w := 1) (b := true) h' hn (by decide) (nI f) (nI t) (fun _ e => by cases e) (fun e => by cases e) rfl rfl rfl rfl (wf none (fun _ e => by cases e) (by rw [hb]; rfl))
      · rw [if_pos c, if_neg c]; exact keep_no h'
    | true =>
      have hc : lg_cmp (z_lshr (bit f) (nI t) &&& 1) 1 = 0 := (lgc1 _ _).mpr ((gb_a1 _).mpr (by rw [e0]; exact hb))
      rw [if_neg (show ¬ bI true = 0 by decide), if_neg (show ¬ ¬ lg_cmp (z_lshr (bit f) (nI t) &&& 1) 1 = 0 from fun q => q hc), zbind_e]
      rcases c_has (M := M) b4 (by omega) a3 with ⟨d1, d2, d3⟩ | ⟨x, hx, ex, d1, d2⟩ | d
      · rw [d1, d2, if_pos rfl, if_neg (by decide)]; exact keep_no h'
      · subst ex
        have hzx := pwZ (b6.2.2.2.2 x hx)
        rw [d1, d2, if_neg (by decide), if_pos (by decide), m_rd_n (by omega) (by omega), m_rd_n (by omega) (by omega), gZ b5 hx, gW b5 hx]
        have ez : (1 : Int32) + nI (pZ (P x)) = nI (1 + pZ (P x)) := nI_add 1 _
        rw [ez]
        cases hw : pW (P x) with
        | false =>
          rw [if_pos (by rfl)]
          exact keep_plain (k := 2) (o := some x) (w := 1 + pZ (P x)) (b := false) h' hn (by decide) (nI f) (nI t) (fun y e => by cases e; exact hx) (fun e => by cases e) rfl rfl rfl (by show false = (decide ((2 : Nat) ≠ 0) && pW (P x)); rw [hw]; rfl) (wf (some x) (fun y e => by cases e; exact hx) (by rw [hb]; rfl))
        | true =>
          rw [if_neg (by decide)]
          exact keep_plain (k := 2) (o := some x) (w := 1 + pZ (P x)) (b := true) h' hn (by decide) (nI f) (nI t) (fun y e => by cases e; exact hx) (fun e => by cases e) rfl rfl rfl (by show true = (decide ((2 : Nat) ≠ 0) && pW (P x)); rw [hw]; rfl) (wf (some x) (fun y e => by cases e; exact hx) (by rw [hb]; rfl))
      · exact absurd b5.1 d
end PBI
