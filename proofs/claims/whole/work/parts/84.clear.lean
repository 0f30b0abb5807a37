-- PURE LAYER: clear, forget, first, fits
def T0 : Tr := (1, fun _ => 0, fun _ => 0, fun _ => (0, 0), 0, fun _ => (0, 0, 0))
theorem T0_GI {P : Nat → Pt} {fl : Nat → Nat × Nat} {ru : Nat → Nat} : GI P fl T0 0 ru := by
  refine ⟨⟨Nat.le_refl _, fun c h1 h2 => ?_, fun c d h1 h2 => ?_⟩, fun c h1 h2 => ?_, fun k hk => ?_, fun k k' hk => ?_, fun p hp hn => absurd rfl hn⟩
  · have h2 : c < 1 := h2
    omega
  · have h2 : c < 1 := h2
    omega
  · have h2 : c < 1 := h2
    omega
  · have hk : k < 0 := hk
    omega
  · have hk : k < 0 := hk
    omega
theorem T0_EP {P : Nat → Pt} {fl : Nat → Nat × Nat} {nr : Nat} {ru : Nat → Nat} : EP P fl T0 nr ru := ⟨fun c h1 h2 => by
  have h2 : c < 1 := h2
  omega, fun k hk => by
  have hk : k < 0 := hk
  omega, fun c h1 h2 => by
  have h2 : c < 1 := h2
  omega⟩
theorem T0_SI {sa : Nat → Nat} : SI T0 0 sa := by
  refine ⟨fun i j _ hj => ?_, fun i hi => ?_, fun k hk => ?_⟩
  · omega
  · omega
  · have hk : k < 0 := hk
    omega
theorem T0_TC {S : zS} {P : Nat → Pt} {sa : Nat → Nat} (h13 : S.1 13 = [0]) (h14 : S.1 14 = [0]) (h15 : S.1 15 = [-1]) (h16 : S.1 16 = [-1]) (h17 : S.1 17 = [-1]) (h : ∀ k, 18 ≤ k → k ≤ 25 → S.1 k = []) : TC S T0 P 0 sa := by
  refine ⟨0, fun _ => 0, fun _ => 0, fun _ => [], fun _ => [], fun _ => none, fun _ => none, fun _ => 0, ?_, ⟨fun p hp => ⟨trivial, fun e => ⟨(by intro y; cases y), fun y => by omega⟩, List.Pairwise.nil⟩, fun e he => by omega, fun c h1 h2 => ?_, fun k hk => ?_⟩, Nat.zero_le _⟩
  · refine ⟨h13, h14, h15, h16, h17, h 18 (by omega) (by omega), h 19 (by omega) (by omega), h 20 (by omega) (by omega), h 21 (by omega) (by omega), h 22 (by omega) (by omega), h 23 (by omega) (by omega), h 24 (by omega) (by omega), h 25 (by omega) (by omega)⟩
  · have h2 : c < 1 := h2
    omega
  · have hk : k < 0 := hk
    omega
theorem T0_TMo {M : zM} {sa : Nat → Nat} (h6 : M.2.2 6 = 1) (h20 : M.1 20 0 = -1) (h22 : M.1 22 0 = 0) (h14 : M.1 14 0 = 0) : TMo M T0 0 sa := by
  refine ⟨fun _ => [], fun _ => none, h6, fun c h1 h2 => ?_, fun p hp => ?_, fun k hk => ?_, fun r hr => by omega, h14⟩
  · have h2 : c < 1 := h2
    omega
  · have hp : p < 1 := hp
    have : p = 0 := by omega
    subst this
    refine ⟨h20, trivial, fun c => ⟨(by intro y; cases y), fun y => ?_⟩, h22⟩
    have y2 : c < 1 := y.2.1
    omega
  · have hk : k < 0 := hk
    omega
section PCL
variable {n : Nat} {S : zS} {M : zM} {nf : Nat} {fam : Nat → Nat} {bit : Nat → Int64} {np : Nat} {P : Nat → Pt} {nl : Nat} {fl : Nat → Nat × Nat} {m : Nat} {ps : Nat → Nat × Nat} {nr : Nat} {ru : Nat → Nat} {T : Tr} {sa : Nat → Nat} {W : Nat}
theorem RR_14 (h : RR n S M np P fl nr ru T sa W) : M.1 14 0 = 0 := by
  obtain ⟨c1, c2, c3, c4, c5, c6, c7, c8, c9, c10, c11, c12, c13, c14, c15, c16⟩ := h
  obtain ⟨bl, nb, t1, t2, t3, t4, t5, t6⟩ := c10
  rcases Nat.eq_zero_or_pos nr with z | z
  · subst z
    rw [t6]
    rcases Nat.eq_zero_or_pos (tA T) with y | y
    · rw [y]; rfl
    · have := (c11.2.2.1 0 y).1
      omega
  · rw [t5 0 z]
    rcases c15 with y | y
    · omega
    · rw [y]; rfl
theorem p_drop (ho : okS S) : ∃ S', f_Tre_dropRules S = S' ∧ okS S' ∧ (∀ k, k < 12 → S'.1 k = S.1 k) ∧ (∀ k, 25 < k → S'.1 k = S.1 k) ∧ S'.1 12 = [] ∧ S'.2.2.1 0 = 0 ∧ S'.2.2.1 1 = 0 ∧ (∀ k, k ≠ 0 → k ≠ 1 → S'.2.2.1 k = S.2.2.1 k) ∧ S'.2.2.2 = S.2.2.2 ∧ ∀ P sa, TC S' T0 P 0 sa := by
  obtain ⟨Sa, e0, l0, r0⟩ := zEmp (S := S) (k := 12) ho
  have ob : okS (z_sc Sa 0 0) := l0.2.2
  obtain ⟨S1, e1, l1, r1⟩ := zEmp (S := z_sc Sa 0 0) (k := 13) ob
  obtain ⟨S2, e2, l2, r2⟩ := zEmp (S := S1) (k := 14) l1.2.2
  obtain ⟨S3, e3, l3, r3⟩ := zEmp (S := S2) (k := 15) l2.2.2
  obtain ⟨S4, e4, l4, r4⟩ := zEmp (S := S3) (k := 16) l3.2.2
  obtain ⟨S5, e5, l5, r5⟩ := zEmp (S := S4) (k := 17) l4.2.2
  obtain ⟨S6, e6, l6, r6⟩ := zEmp (S := S5) (k := 18) l5.2.2
  obtain ⟨S7, e7, l7, r7⟩ := zEmp (S := S6) (k := 19) l6.2.2
  obtain ⟨S8, e8, l8, r8⟩ := zEmp (S := S7) (k := 20) l7.2.2
  obtain ⟨S9, e9, l9, r9⟩ := zEmp (S := S8) (k := 21) l8.2.2
  obtain ⟨S10, e10, l10, r10⟩ := zEmp (S := S9) (k := 22) l9.2.2
  obtain ⟨S11, e11, l11, r11⟩ := zEmp (S := S10) (k := 23) l10.2.2
  obtain ⟨S12, e12, l12, r12⟩ := zEmp (S := S11) (k := 24) l11.2.2
  obtain ⟨S13, e13, l13, r13⟩ := zEmp (S := S12) (k := 25) l12.2.2
  have q14 : S13.1 14 = [] := by rw [l13.1 14 (by decide), l12.1 14 (by decide), l11.1 14 (by decide), l10.1 14 (by decide), l9.1 14 (by decide), l8.1 14 (by decide), l7.1 14 (by decide), l6.1 14 (by decide), l5.1 14 (by decide), l4.1 14 (by decide), l3.1 14 (by decide), r2]
  have q13 : S13.1 13 = [] := by rw [l13.1 13 (by decide), l12.1 13 (by decide), l11.1 13 (by decide), l10.1 13 (by decide), l9.1 13 (by decide), l8.1 13 (by decide), l7.1 13 (by decide), l6.1 13 (by decide), l5.1 13 (by decide), l4.1 13 (by decide), l3.1 13 (by decide), l2.1 13 (by decide), r1]
  have q15 : S13.1 15 = [] := by rw [l13.1 15 (by decide), l12.1 15 (by decide), l11.1 15 (by decide), l10.1 15 (by decide), l9.1 15 (by decide), l8.1 15 (by decide), l7.1 15 (by decide), l6.1 15 (by decide), l5.1 15 (by decide), l4.1 15 (by decide), r3]
  have q16 : S13.1 16 = [] := by rw [l13.1 16 (by decide), l12.1 16 (by decide), l11.1 16 (by decide), l10.1 16 (by decide), l9.1 16 (by decide), l8.1 16 (by decide), l7.1 16 (by decide), l6.1 16 (by decide), l5.1 16 (by decide), r4]
  have q17 : S13.1 17 = [] := by rw [l13.1 17 (by decide), l12.1 17 (by decide), l11.1 17 (by decide), l10.1 17 (by decide), l9.1 17 (by decide), l8.1 17 (by decide), l7.1 17 (by decide), l6.1 17 (by decide), r5]
  have q18 : S13.1 18 = [] := by rw [l13.1 18 (by decide), l12.1 18 (by decide), l11.1 18 (by decide), l10.1 18 (by decide), l9.1 18 (by decide), l8.1 18 (by decide), l7.1 18 (by decide), r6]
  have q19 : S13.1 19 = [] := by rw [l13.1 19 (by decide), l12.1 19 (by decide), l11.1 19 (by decide), l10.1 19 (by decide), l9.1 19 (by decide), l8.1 19 (by decide), r7]
  have q20 : S13.1 20 = [] := by rw [l13.1 20 (by decide), l12.1 20 (by decide), l11.1 20 (by decide), l10.1 20 (by decide), l9.1 20 (by decide), r8]
  have q21 : S13.1 21 = [] := by rw [l13.1 21 (by decide), l12.1 21 (by decide), l11.1 21 (by decide), l10.1 21 (by decide), r9]
  have q22 : S13.1 22 = [] := by rw [l13.1 22 (by decide), l12.1 22 (by decide), l11.1 22 (by decide), r10]
  have q23 : S13.1 23 = [] := by rw [l13.1 23 (by decide), l12.1 23 (by decide), r11]
  have q24 : S13.1 24 = [] := by rw [l13.1 24 (by decide), r12]
  have keep : ∀ k, k < 12 ∨ 25 < k → S13.1 k = S.1 k := fun k hk => by
    rw [l13.1 k (by simp; omega), l12.1 k (by simp; omega), l11.1 k (by simp; omega), l10.1 k (by simp; omega), l9.1 k (by simp; omega), l8.1 k (by simp; omega), l7.1 k (by simp; omega), l6.1 k (by simp; omega), l5.1 k (by simp; omega), l4.1 k (by simp; omega), l3.1 k (by simp; omega), l2.1 k (by simp; omega), l1.1 k (by simp; omega)]
    show Sa.1 k = _
    rw [l0.1 k (by simp; omega)]
  have q12 : S13.1 12 = [] := by
    rw [l13.1 12 (by decide), l12.1 12 (by decide), l11.1 12 (by decide), l10.1 12 (by decide), l9.1 12 (by decide), l8.1 12 (by decide), l7.1 12 (by decide), l6.1 12 (by decide), l5.1 12 (by decide), l4.1 12 (by decide), l3.1 12 (by decide), l2.1 12 (by decide), l1.1 12 (by decide)]
    exact r0
  have xx : S13.2.2 = (z_sc Sa 0 0).2.2 := by rw [l13.2.1, l12.2.1, l11.2.1, l10.2.1, l9.2.1, l8.2.1, l7.2.1, l6.2.1, l5.2.1, l4.2.1, l3.2.1, l2.2.1, l1.2.1]
  obtain ⟨Sb, a1, m1, s1⟩ := zAdd (S := S13) (k := 14) 0 l13.2.2 (by decide) (by rw [q14]; decide)
  obtain ⟨Sc, a2, m2, s2⟩ := zAdd (S := Sb) (k := 15) (-1) m1.2.2 (by decide) (by rw [m1.1 15 (by decide), q15]; decide)
  obtain ⟨Sd, a3, m3, s3⟩ := zAdd (S := Sc) (k := 16) (-1) m2.2.2 (by decide) (by rw [m2.1 16 (by decide), m1.1 16 (by decide), q16]; decide)
  obtain ⟨Se, a4, m4, s4⟩ := zAdd (S := Sd) (k := 17) (-1) m3.2.2 (by decide) (by rw [m3.1 17 (by decide), m2.1 17 (by decide), m1.1 17 (by decide), q17]; decide)
  obtain ⟨Sf, a5, m5, s5⟩ := zAdd (S := Se) (k := 13) 0 m4.2.2 (by decide) (by rw [m4.1 13 (by decide), m3.1 13 (by decide), m2.1 13 (by decide), m1.1 13 (by decide), q13]; decide)
  have kf : ∀ k, (k < 13 ∨ 17 < k) → Sf.1 k = S13.1 k := fun k hk => by rw [m5.1 k (by simp; omega), m4.1 k (by simp; omega), m3.1 k (by simp; omega), m2.1 k (by simp; omega), m1.1 k (by simp; omega)]
  have xf : Sf.2.2 = S13.2.2 := by rw [m5.2.1, m4.2.1, m3.2.1, m2.2.1, m1.2.1]
  refine ⟨z_sc Sf 1 0, ?_, m5.2.2, fun k hk => ?_, fun k hk => ?_, ?_, ?_, z_sc_at, fun k h1 h2 => ?_, ?_, fun P sa => T0_TC ?_ ?_ ?_ ?_ ?_ (fun k h1 h2 => ?_)⟩
  · unfold f_Tre_dropRules f_Par_empty f_Par_addPart
    simp only [zbind_e, zbind2_e, e0, e1, e2, e3, e4, e5, e6, e7, e8, e9, e10, e11, e12, e13, a1, a2, a3, a4, a5]
  · show Sf.1 k = _
    rw [kf k (by omega), keep k (by omega)]
  · show Sf.1 k = _
    rw [kf k (by omega), keep k (by omega)]
  · show Sf.1 12 = _
    rw [kf 12 (by omega), q12]
  · rw [z_sc_ne (by decide), xf, xx, z_sc_at]
  · rw [z_sc_ne h2, xf, xx, z_sc_ne h1, l0.2.1]
  · show Sf.2.2.2 = _
    rw [xf, xx]
    show Sa.2.2.2 = _
    rw [l0.2.1]
  · show Sf.1 13 = _
    rw [s5, m4.1 13 (by decide), m3.1 13 (by decide), m2.1 13 (by decide), m1.1 13 (by decide), q13]; rfl
  · show Sf.1 14 = _
    rw [m5.1 14 (by decide), m4.1 14 (by decide), m3.1 14 (by decide), m2.1 14 (by decide), s1, q14]; rfl
  · show Sf.1 15 = _
    rw [m5.1 15 (by decide), m4.1 15 (by decide), m3.1 15 (by decide), s2, m1.1 15 (by decide), q15]; rfl
  · show Sf.1 16 = _
    rw [m5.1 16 (by decide), m4.1 16 (by decide), s3, m2.1 16 (by decide), m1.1 16 (by decide), q16]; rfl
  · show Sf.1 17 = _
    rw [m5.1 17 (by decide), s4, m3.1 17 (by decide), m2.1 17 (by decide), m1.1 17 (by decide), q17]; rfl
  · show Sf.1 k = _
    rw [kf k (by omega)]
    have : k = 18 ∨ k = 19 ∨ k = 20 ∨ k = 21 ∨ k = 22 ∨ k = 23 ∨ k = 24 ∨ k = 25 := by omega
    rcases this with c | c | c | c | c | c | c | c <;> subst c <;> assumption
theorem p_mclear (h14 : M.1 14 0 = 0) : ∃ M', f_Mod_clear M = some (M', M.2.2 4) ∧ mLike [20, 22] [] [4, 5, 6, 7] M M' ∧ M'.2.2 4 = 0 ∧ M'.2.2 5 = 0 ∧ M'.2.2 7 = 0 ∧ ∀ sa, TMo M' T0 0 sa := by
  unfold f_Mod_clear
  rw [zbind_e, zbind_e, zbind_e, zbind_e, zbind_e]
  have w : ∀ (X : zM) (k : zM → Option (zM × Int32)), m_wr 16386 0 X k = k X := fun X k => m_wr_n (i := 0) (by decide) (by decide)
  rw [w, w]
  refine ⟨_, rfl, ⟨fun k hk => ?_, fun _ _ => rfl, fun k hk => ?_⟩, rfl, rfl, rfl, fun sa => T0_TMo rfl rfl rfl h14⟩
  · have : k ≠ 20 ∧ k ≠ 22 := by simpa using hk
    rw [m_set_ne this.2, m_set_ne this.1]; rfl
  · have : k ≠ 4 ∧ k ≠ 5 ∧ k ≠ 6 ∧ k ≠ 7 := by simpa using hk
    show (m_sc (m_sc (m_sc (m_sc M 4 0) 5 0) 7 0) 6 1).2.2 k = _
    rw [m_sc_ne this.2.2.1, m_sc_ne this.2.2.2, m_sc_ne this.2.1, m_sc_ne this.1]
theorem k_clear (hB : BB n S M nf fam bit np P nl fl m ps) (hR : RR n S M np P fl nr ru T sa W) : ∃ S' M' v, f_Tre_clear S = (S', v) ∧ f_Mod_clear M = some (M', v) ∧ BB (n + 1) S' M' nf fam bit np P nl fl m ps ∧ RR (n + 1) S' M' np P fl 0 ru T0 sa 0 ∧ S'.2.2.1 1 = 0 ∧ M'.2.2 7 = 0 := by
  obtain ⟨S', e, ho, k1, k2, k3, k4, k5, k6, k7, k8⟩ := p_drop (S := S) hB.1
  obtain ⟨M', f, g1, g2, g3, g4, g5⟩ := p_mclear (RR_14 hR)
  have sz : r_size S 12 = M.2.2 4 := by unfold r_size; rw [hR.2.1, rowOf_len, hR.2.2.1.1]
  refine ⟨S', M', M.2.2 4, ?_, f, ?_, ⟨Nat.zero_le _, k3, ⟨g2, fun i hi => by omega⟩, fun i hi => by omega, fun i j _ hj => by omega, k4, g3, by omega, k8 P sa, g5 sa, T0_GI, T0_SI, Nat.le_refl _, Nat.le_refl _, Or.inl rfl, T0_EP⟩, k5, g4⟩
  · unfold f_Tre_clear
    rw [zbind_e, zbind_e, e, sz]
  · exact BB_like hB (by omega) ho (fun k hk => k1 k (by omega)) (k6 2 (by decide) (by decide)) k7 (fun k hk => g1.1 k (by simp; omega)) (g1.2.1 1 (by simp)) (fun k hk => g1.2.2 k (by simp; omega))
theorem k_forget (hB : BB n S M nf fam bit np P nl fl m ps) (hR : RR n S M np P fl nr ru T sa W) : ∃ S' M' v, f_Tre_forget S = (S', v) ∧ f_Mod_forget M = some (M', v) ∧ BB (n + 1) S' M' 0 fam bit 0 P 0 fl 0 ps ∧ RR (n + 1) S' M' 0 P fl 0 ru T0 sa 0 ∧ S'.2.2.1 1 = 0 ∧ M'.2.2 7 = 0 := by
  obtain ⟨Sa, e, ho, k1, k2, k3, k4, k5, k6, k7, k8⟩ := p_drop (S := S) hB.1
  obtain ⟨Ma, f, g1, g2, g3, g4, g5⟩ := p_mclear (RR_14 hR)
  obtain ⟨Sb, e0, l0, r0⟩ := zEmp (S := Sa) (k := 0) ho
  obtain ⟨S1, e1, l1, r1⟩ := zEmp (S := Sb) (k := 1) l0.2.2
  obtain ⟨S2, e2, l2, r2⟩ := zEmp (S := S1) (k := 2) l1.2.2
  obtain ⟨S3, e3, l3, r3⟩ := zEmp (S := S2) (k := 3) l2.2.2
  obtain ⟨S4, e4, l4, r4⟩ := zEmp (S := S3) (k := 4) l3.2.2
  obtain ⟨S5, e5, l5, r5⟩ := zEmp (S := S4) (k := 5) l4.2.2
  obtain ⟨S6, e6, l6, r6⟩ := zEmp (S := S5) (k := 6) l5.2.2
  obtain ⟨S7, e7, l7, r7⟩ := zEmp (S := S6) (k := 7) l6.2.2
  obtain ⟨S8, e8, l8, r8⟩ := zEmp (S := S7) (k := 8) l7.2.2
  obtain ⟨S9, e9, l9, r9⟩ := zEmp (S := S8) (k := 9) l8.2.2
  obtain ⟨Sc, ec, lc, rc⟩ := zFill (S := S9) (k := 10) (n := 128) (-1) l9.2.2 (by decide) (by decide)
  have szp : f_Pat_size S = M.2.2 1 := by
    obtain ⟨a0, b1, b2, b3, b4, b5, b6, b7, b8, b9⟩ := hB
    unfold f_Pat_size r_size
    rw [PC_len b4 1 (by decide) (by decide), b5.1]
  have keep : ∀ k, 10 < k → Sc.1 k = Sa.1 k := fun k hk => by
    rw [lc.1 k (by simp; omega), l9.1 k (by simp; omega), l8.1 k (by simp; omega), l7.1 k (by simp; omega), l6.1 k (by simp; omega), l5.1 k (by simp; omega), l4.1 k (by simp; omega), l3.1 k (by simp; omega), l2.1 k (by simp; omega), l1.1 k (by simp; omega), l0.1 k (by simp; omega)]
  have xx : Sc.2.2 = Sa.2.2 := by rw [lc.2.1, l9.2.1, l8.2.1, l7.2.1, l6.2.1, l5.2.1, l4.2.1, l3.2.1, l2.2.1, l1.2.1, l0.2.1]
  have em : f_Mod_forget M = some (m_sc (m_sc (m_sc (m_sc Ma 0 0) 1 0) 2 0) 3 0, M.2.2 1) := by
    unfold f_Mod_forget
    rw [zbind_e, f, zob2_s, zbind_e, zbind_e, zbind_e, zbind_e]
  refine ⟨z_sc Sc 2 0, m_sc (m_sc (m_sc (m_sc Ma 0 0) 1 0) 2 0) 3 0, M.2.2 1, ?_, em, ?_, ?_, ?_, ?_⟩
  · unfold f_Tre_forget f_Fam_empty f_Pat_empty f_Psh_empty
    have ec' : r_fill S9 10 128 (-1) = Sc := ec
    simp only [zbind_e, e, e0, e1, e2, e3, e4, e5, e6, e7, e8, e9, ec', szp]
  · refine ⟨lc.2.2, by omega, ⟨?_, fun i hi => by omega⟩, ⟨rfl, fun i hi => by omega⟩, ?_, ⟨rfl, rfl, fun i hi => by omega, fun i hi => by omega⟩, ⟨by omega, by omega, fun f hf => by omega, by omega, fun i hi => by omega⟩, ⟨?_, z_sc_at⟩, ⟨rfl, fun i hi => by omega⟩, ⟨fun i hi => by omega, fun i j _ hj => by omega⟩⟩
    · show Sc.1 0 = _
      rw [lc.1 0 (by decide), l9.1 0 (by decide), l8.1 0 (by decide), l7.1 0 (by decide), l6.1 0 (by decide), l5.1 0 (by decide), l4.1 0 (by decide), l3.1 0 (by decide), l2.1 0 (by decide), l1.1 0 (by decide), r0]; rfl
    · refine ⟨?_, ?_, ?_, ?_, ?_, ?_, ?_, ?_, ?_⟩
      · show Sc.1 1 = _
        rw [lc.1 1 (by decide), l9.1 1 (by decide), l8.1 1 (by decide), l7.1 1 (by decide), l6.1 1 (by decide), l5.1 1 (by decide), l4.1 1 (by decide), l3.1 1 (by decide), l2.1 1 (by decide), r1]; rfl
      · show Sc.1 2 = _
        rw [lc.1 2 (by decide), l9.1 2 (by decide), l8.1 2 (by decide), l7.1 2 (by decide), l6.1 2 (by decide), l5.1 2 (by decide), l4.1 2 (by decide), l3.1 2 (by decide), r2]; rfl
      · show Sc.1 3 = _
        rw [lc.1 3 (by decide), l9.1 3 (by decide), l8.1 3 (by decide), l7.1 3 (by decide), l6.1 3 (by decide), l5.1 3 (by decide), l4.1 3 (by decide), r3]; rfl
      · show Sc.1 4 = _
        rw [lc.1 4 (by decide), l9.1 4 (by decide), l8.1 4 (by decide), l7.1 4 (by decide), l6.1 4 (by decide), l5.1 4 (by decide), r4]; rfl
      · show Sc.1 5 = _
        rw [lc.1 5 (by decide), l9.1 5 (by decide), l8.1 5 (by decide), l7.1 5 (by decide), l6.1 5 (by decide), r5]; rfl
      · show Sc.1 6 = _
        rw [lc.1 6 (by decide), l9.1 6 (by decide), l8.1 6 (by decide), l7.1 6 (by decide), r6]; rfl
      · show Sc.1 7 = _
        rw [lc.1 7 (by decide), l9.1 7 (by decide), l8.1 7 (by decide), r7]; rfl
      · show Sc.1 8 = _
        rw [lc.1 8 (by decide), l9.1 8 (by decide), r8]; rfl
      · show Sc.1 9 = _
        rw [lc.1 9 (by decide), r9]; rfl
    · show Sc.1 10 = _
      rw [rc]; exact rowOf_congr (fun _ _ => rfl)
  · refine ⟨Nat.zero_le _, ?_, ⟨g2, fun i hi => by omega⟩, fun i hi => by omega, fun i j _ hj => by omega, ?_, g3, by omega, TC_same (k8 P sa) (fun k h1 h2 => keep k (by omega)), TMo_like (g5 sa) (ks := []) (ls := []) (ns := [0, 1, 2, 3]) ⟨fun _ _ => rfl, fun _ _ => rfl, fun k hk => ?_⟩ (by simp) (by simp) (by simp), T0_GI, T0_SI, Nat.le_refl _, Nat.le_refl _, Or.inl rfl, T0_EP⟩
    · show Sc.1 12 = _
      rw [keep 12 (by omega), k3]; rfl
    · rw [z_sc_ne (by decide), xx]; exact k4
    · have : k ≠ 0 ∧ k ≠ 1 ∧ k ≠ 2 ∧ k ≠ 3 := by simpa using hk
      rw [m_sc_ne this.2.2.2, m_sc_ne this.2.2.1, m_sc_ne this.2.1, m_sc_ne this.1]
  · rw [z_sc_ne (by decide), xx]; exact k5
  · exact g4
theorem c_isV (hB : BB n S M nf fam bit np P nl fl m ps) (hn : n ≤ 600) (a : Int32) : (f_Pat_isValue S a = 0 ∧ f_Mod_isValue M a = some 0) ∨ ∃ x, x < np ∧ a = nI x ∧ pW (P x) = true ∧ f_Pat_isValue S a = 1 ∧ f_Mod_isValue M a = some 1 := by
  obtain ⟨a0, b1, b2, b3, b4, b5, b6, b7, b8, b9⟩ := hB
  rcases c_has (M := M) b4 (by omega) a with ⟨d1, d2, d3⟩ | ⟨x, hx, ex, d1, d2⟩ | d
  · left
    refine ⟨?_, by unfold f_Mod_isValue; rw [d2, if_pos rfl]⟩
    unfold f_Pat_isValue
    have r7 : S.1 7 = rowOf np (fun i => bI (pW (P i))) := b4.2.2.2.2.2.2.1
    rw [r_at_rd, r7]
    by_cases c : a < 0
    · rw [rd_neg c, if_pos (by decide)]
    · obtain ⟨x, hx, ex⟩ := nI_of c
      subst ex
      rw [rowOf_big (Nat.le_of_not_lt (fun q => d3 ⟨x, q, rfl⟩)) hx, if_pos (by decide)]
  · subst ex
    have ev := p_isValue b4 (by omega) hx
    cases hw : pW (P x) with
    | false =>
      left
      refine ⟨by rw [ev, hw]; rfl, ?_⟩
      unfold f_Mod_isValue
      rw [d2, if_neg (by decide), m_rd_n (by omega) (by omega), gW b5 hx, hw, if_pos (by rfl)]
    | true =>
      right
      refine ⟨x, hx, rfl, hw, by rw [ev, hw]; rfl, ?_⟩
      unfold f_Mod_isValue
      rw [d2, if_neg (by decide), m_rd_n (by omega) (by omega), gW b5 hx, hw, if_neg (by decide)]
  · exact absurd b5.1 d
theorem k_first (hB : BB n S M nf fam bit np P nl fl m ps) (hR : RR n S M np P fl nr ru T sa W) (hn : n ≤ 600) (a : Int32) : ∃ S' M' v, f_Tre_first S a = some (S', v) ∧ f_Mod_first M a = some (M', v) ∧ zLike [11] S S' ∧ mLike [31, 32] [] [11] M M' := by
  unfold f_Tre_first f_Mod_first
  rcases c_isV hB hn a with ⟨d1, d2⟩ | ⟨x, hx, ex, hw, d1, d2⟩
  · rw [d1, d2, if_neg (by decide), zob_s, if_neg (by decide)]
    exact ⟨S, M, -1, rfl, rfl, zLike_rf hB.1, mLike_rf⟩
  · subst ex
    rw [d1, d2, if_pos (by decide), zob_s, if_pos (by decide)]
    obtain ⟨a0, b1, b2, b3, b4, b5, b6, b7, b8, b9⟩ := hB
    obtain ⟨c1, c2, c3, c4, -⟩ := hR
    obtain ⟨S', o, e1, e2, e3⟩ := p_first_L b6 hx hw c4 (by omega) zbig 0 S b4 a0 c2 (by omega) (by unfold zbig; omega)
    obtain ⟨M', o', f1, f2, f3⟩ := p_mfirst_L b6 hx c4 (by omega) zbig 0 M b5 c3 (by omega) (by unfold zbig; omega)
    have := isFst_one e3 f3
    subst this
    exact ⟨S', M', oI o, e1, f1, e2, f2⟩
theorem k_fits (hB : BB n S M nf fam bit np P nl fl m ps) (hR : RR n S M np P fl nr ru T sa W) (hn : n ≤ 600) (a : Int32) : ∃ S' M' v, f_Tre_fits S a = some (S', v) ∧ f_Mod_fits M a = some (M', v) ∧ zLike [11] S S' ∧ mLike [31, 32] [] [11] M M' := by
  unfold f_Tre_fits f_Mod_fits
  rcases c_isV hB hn a with ⟨d1, d2⟩ | ⟨x, hx, ex, hw, d1, d2⟩
  · rw [d1, d2, if_pos rfl, zob_s]
    have e : f_Mod_fits_L8 zbig M a 0 0 = some (M, 0) := by
      have : zbig = 4294967299 + 1 := by unfold zbig; rfl
      rw [this, f_Mod_fits_L8]
      by_cases c : M.2.2 4 ≤ 0
      · rw [if_pos c, zb_0]
      · rw [if_neg c, if_pos rfl, zb_0]
    rw [e]
    exact ⟨S, M, 0, rfl, rfl, zLike_rf hB.1, mLike_rf⟩
  · subst ex
    rw [d1, d2, if_neg (by decide), zob_s]
    obtain ⟨a0, b1, b2, b3, b4, b5, b6, b7, b8, b9⟩ := hB
    obtain ⟨c1, c2, c3, c4, -⟩ := hR
    obtain ⟨S', v, e1, e2, e3⟩ := p_goesWith b6 hx c4 (by omega) b4 a0 c2
    obtain ⟨M', v', f1, f2, f3⟩ := p_mfits_L b6 hx c4 (by omega) zbig 0 M b5 c3 (by omega) (by unfold zbig; omega)
    have hs : (∀ r, 0 ≤ r → r < nr → TG P fl (ru r) x) ↔ ∀ r, r < nr → TG P fl (ru r) x := by simp
    rw [hs] at f3
    rw [e1, zob2_s, show f_Mod_fits_L8 zbig M (nI x) 1 0 = some (M', v') from f1]
    rcases e3 with ⟨y1, y2⟩ | ⟨y1, y2⟩
    · rcases f3 with ⟨z1, z2⟩ | ⟨z1, z2⟩
      · subst y1; subst z1
        rw [if_neg (by decide)]
        exact ⟨S', M', 1, rfl, rfl, e2, f2⟩
      · exact absurd y2 z2
    · rcases f3 with ⟨z1, z2⟩ | ⟨z1, z2⟩
      · exact absurd z2 y2
      · subst y1; subst z1
        rw [if_pos rfl]
        exact ⟨S', M', 0, rfl, rfl, e2, f2⟩
end PCL
