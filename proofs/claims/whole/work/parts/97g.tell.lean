-- PURE LAYER: a value's way through the tree: the reference's step
def tel (n : Nat) (M : zM) (x : Int32) (v : Int32) : Option (zM × Int32) :=
  zob (f_Mod_numberOf M x) fun v17 =>
  zob (f_Mod_narrow M (M.2.2 12) v17 0) fun S18 =>
  zbind (m_sc S18 12 ((S18.2.2 12) + 1)) fun S19 =>
  zob (f_Mod_firstPossible S19 (S19.2.2 12)) fun v20 =>
  if 0 ≤ v20 then
    zob (f_Mod_nextPlace S19 v20) fun v22 =>
    f_Mod_tell_L29 n S19 v v20 v22
  else
    f_Mod_tell_L29 n S19 v v20 (-1)
section PTE
variable {M : zM} {T : Tr} {nr : Nat} {sa : Nat → Nat} {nf : Nat} {fam : Nat → Nat} {bit : Nat → Int64} {np : Nat} {P : Nat → Pt} {nl : Nat} {fl : Nat → Nat × Nat} {ru : Nat → Nat} {val : Nat}
/-- where the reference stands at a node -/
def tlR (M : zM) (T : Tr) (nr : Nat) (sa : Nat → Nat) (d : Nat) (po : Nat → Bool) (lk : List Nat) (R K : Option Nat) : Prop := M.2.2 12 = nI d ∧ LM M T lk ∧ PB M d nr po ∧ fP1 po nr 0 R ∧ (R = none → K = none) ∧ ∀ r, R = some r → fA T lk (sa r) (sx T nr sa r) K
theorem p_tel (hF : SF nf fam bit np P nl fl T nr ru sa) (hM : MC M nf fam bit np P nl fl T nr sa) {d p h : Nat} {po : Nat → Bool} {lk : List Nat} (hd : d < 4096) (hB : PB M d nr po) (hL : LM M T lk) (h12 : M.2.2 12 = nI d) (hp : p < tQ T) (h24 : M.1 24 d = nI p) (hh : h < np) (h1 : 1 ≤ pK (P h)) (h3 : pK (P h) ≤ 3) (v : Int32) (n : Nat) : ∃ M' R K, tel n M (nI h) v = f_Mod_tell_L29 n M' v (oI R) (oI (K.map (fun k => (tK T k).2.1))) ∧ mLike [24, 27, 31] [23] [12] M M' ∧ tlR M' T nr sa (d + 1) (nar T P po p (some (pM (P h)))) lk R K := by
  have hn := hF.2.2.2.2.2.2
  obtain ⟨M1, e1, l1, b1, b2⟩ := p_narrow hF hM hd hp hB h24 (x2 := (pM (P h)).toInt64) (lab := some (pM (P h))) (by intro x e; cases e; rfl)
  have e1 : f_Mod_narrow M (nI d) (pM (P h)).toInt64 0 = some M1 := e1
  unfold tel
  rw [p_numberOf hM hF.1.1 hh h1 h3, zob_s, h12, e1, zob_s, l1.2.2 12 (by simp), h12, nI_1, zbind_e]
  have l2 : mLike [] [] [12] M1 (m_sc M1 12 (nI (d + 1))) := mLike_sc
  have hM1 := MC_like hM l1 (by simp) (by simp) (by simp)
  have hM2 := MC_like hM1 l2 (by simp) (by simp) (by simp)
  have hL2 : LM (m_sc M1 12 (nI (d + 1))) T lk := fun q hq => by
    show M1.1 27 q = _
    rw [l1.1 27 (by simp)]; exact hL q hq
  have hB2 : PB (m_sc M1 12 (nI (d + 1))) (d + 1) nr (nar T P po p (some (pM (P h)))) := b2
  have lM : mLike [24, 27, 31] [23] [12] M (m_sc M1 12 (nI (d + 1))) := mLike_tr (mLike_mono l1 (by simp) (by simp) (by simp)) (mLike_mono l2 (by simp) (by simp) (by simp))
  have e12 : (m_sc M1 12 (nI (d + 1))).2.2 12 = nI (d + 1) := m_sc_at
  rw [e12]
  obtain ⟨R, f1, f2⟩ := p_mfirstP hB2 hM2.2.2.1 (by omega) (by omega) zbig 0 (by omega) (by unfold zbig; omega)
  rw [show f_Mod_firstPossible (m_sc M1 12 (nI (d + 1))) (nI (d + 1)) = some (oI R) from f1, zob_s]
  cases R with
  | none =>
    rw [if_neg (by decide)]
    exact ⟨_, none, none, rfl, lM, e12, hL2, hB2, f2, fun _ => rfl, (by intro r e; cases e)⟩
  | some r =>
    have hr := f2.2.1
    rw [if_pos (by rw [oI_s]; exact nI_pos' (by omega))]
    obtain ⟨K, g1, g2⟩ := p_nextPlace hF hM2 hL2 hr
    rw [show f_Mod_nextPlace (m_sc M1 12 (nI (d + 1))) (oI (some r)) = _ from g1, zob_s]
    exact ⟨_, some r, K, rfl, lM, e12, hL2, hB2, f2, (by intro e; cases e), (by intro r' e; cases e; exact g2)⟩
theorem p_tell1 (hF : SF nf fam bit np P nl fl T nr ru sa) (hM : MC M nf fam bit np P nl fl T nr sa) (hv : val < np) (hw : pW (P val) = true) {d p : Nat} {po : Nat → Bool} {lk : List Nat} (hd : d < 4096) (hB : PB M d nr po) (hL : LM M T lk) (h12 : M.2.2 12 = nI d) (hp : p < tQ T) (hg : gq T (agr P fl T val) p) (hne : ∃ x, nuR T P po p nr x) (x2 : Int32) (n : Nat) :
    (∃ M', f_Mod_tell_L29 (n + 1) M (nI val) x2 (nI p) = some (M', -3) ∧ mLike [24, 27, 31] [23] [12] M M' ∧ ∀ h, vc P fl T val p = some h → (pK (P h), pS (P h)) = tH T p → odR T P po p h nr) ∨
    ∃ h M' R K, vc P fl T val p = some h ∧ (pK (P h), pS (P h)) = tH T p ∧ ¬ odR T P po p h nr ∧ f_Mod_tell_L29 (n + 1) M (nI val) x2 (nI p) = f_Mod_tell_L29 n M' (nI val) (oI R) (oI (K.map (fun k => (tK T k).2.1))) ∧ mLike [24, 27, 31] [23] [12] M M' ∧ tlR M' T nr sa (d + 1) (nar T P po p (some (pM (P h)))) (p :: lk) R K := by
  have hn := hF.2.2.2.2.2.2
  have hq := hF.2.2.2.2.2.1
  have hnp := hF.1.1
  have hwf := hF.1.2.2.2.2
  rw [f_Mod_tell_L29]
  have v1 : vp_nar .boolean 1 = 1 := rfl
  rw [if_neg (by (simp (disch := omega) only [nI_1, nI_add, Int32.lt_iff_toInt_lt, Int32.le_iff_toInt_le, ← Int32.toInt_inj, nI_toInt, tI_0, tI_1, tI_2, tI_3, tI_4, tI_m1, tI_m2, tI_m3, tI_m4, tI_64, tI_128, tI_255, tI_256, tI_1000, tI_1024, tI_4096, tI_10000, tI_16384, tI_16386, tI_M]; omega)), h12, m_wr_n (by omega) (by omega), nI_clamp (by omega), m_wr_n (by omega) (by omega), nI_clamp (by omega), v1]
  have l8 : mLike [24, 27, 31] [23] [12] M (m_set (m_set M 24 d (nI p)) 27 p 1) := ⟨fun j hj => by
    have : j ≠ 24 ∧ j ≠ 27 ∧ j ≠ 31 := by simpa using hj
    rw [m_set_ne this.2.1, m_set_ne this.1], fun j _ => rfl, fun j _ => rfl⟩
  have hM8 := MC_like hM l8 (by simp) (by simp) (by simp)
  obtain ⟨M9, e9, l9⟩ := p_partAt hF hM8 hv hw hp hg
  rw [e9, zob2_s]
  have hM9 := MC_like hM8 l9 (by simp) (by simp) (by simp)
  have l9' : mLike [24, 27, 31] [23] [12] M M9 := mLike_tr l8 (mLike_mono l9 (by simp) (by simp) (by simp))
  have h912 : M9.2.2 12 = nI d := by rw [l9.2.2 12 (by simp)]; exact h12
  have h924 : M9.1 24 d = nI p := by
    rw [l9.1 24 (by simp)]
    show upd (M.1 24) d (nI p) d = _
    exact upd_s
  have hB9 : PB M9 d nr po := fun r hr => by
    rw [l9.2.1 23 (by simp)]; exact hB r hr
  have hL9 : LM M9 T (p :: lk) := fun u hu => by
    rw [l9.1 27 (by simp)]
    show upd (M.1 27) p 1 u = _
    by_cases w : u = p
    · subst w; rw [upd_s]; simp [bI]
    · rw [upd_n w, hL u hu]; simp [w]
  rw [h912]
  obtain ⟨q, r, q1, q2, q3, q4⟩ := p_example hF hM9 (by omega) hB9 hp h924 hne
  rw [q1, zob_s]
  obtain ⟨a1, a2, a3, a4, a5, a6, a7⟩ := SF_ak hF q4
  cases g : vc P fl T val p with
  | none =>
    rw [oI_n, if_pos (by decide)]
    exact Or.inl ⟨M9, rfl, l9', (by intro h e; cases e)⟩
  | some h =>
    obtain ⟨h1, h2⟩ := vc_whole hF.2.1.1 hF.1 hv hw (p + 1) p h (by omega) hp g
    rw [oI_s, if_neg (by (simp (disch := omega) only [nI_1, nI_add, Int32.lt_iff_toInt_lt, Int32.le_iff_toInt_le, ← Int32.toInt_inj, nI_toInt, tI_0, tI_1, tI_2, tI_3, tI_4, tI_m1, tI_m2, tI_m3, tI_m4, tI_64, tI_128, tI_255, tI_256, tI_1000, tI_1024, tI_4096, tI_10000, tI_16384, tI_16386, tI_M]; omega))]
    rcases p_areOneSort hnp h1 a3 (hwf h h1) (hwf q a3) hM9.1 with ⟨s1, s2, s3⟩ | ⟨s1, s2⟩
    · rw [s1, zob_s, if_neg (by decide), m_rd_n (by omega) (by omega), gK hM9.1 h1]
      have es : (pK (P h), pS (P h)) = tH T p := by rw [a6, s2, s3]
      obtain ⟨M', R, K, t1, t2, t3⟩ := p_tel hF hM9 hd hB9 hL9 h912 hp h924 h1 (by omega) (by omega) (nI val) n
      have t1 := t1
      unfold tel at t1
      rw [h912] at t1
      by_cases k3 : pK (P h) = 3
      · rw [if_neg (by rw [k3]; decide)]
        obtain ⟨b, o1, o2⟩ := p_isOdd hF hM9 (by omega) hB9 hp h924 h1 k3 (by rw [a6, ← s2, k3])
        rw [o1, zob_s]
        cases b with
        | true =>
          rw [if_neg (by decide)]
          exact Or.inl ⟨M9, rfl, l9', (by intro h' e _; cases e; exact o2.mp rfl)⟩
        | false =>
          rw [if_pos (by rfl)]
          exact Or.inr ⟨h, M', R, K, rfl, es, (by intro z; have := o2.mpr z; cases this), t1, mLike_tr l9' t2, t3⟩
      · rw [if_pos (by (simp (disch := omega) only [nI_1, nI_add, Int32.lt_iff_toInt_lt, Int32.le_iff_toInt_le, ← Int32.toInt_inj, nI_toInt, tI_0, tI_1, tI_2, tI_3, tI_4, tI_m1, tI_m2, tI_m3, tI_m4, tI_64, tI_128, tI_255, tI_256, tI_1000, tI_1024, tI_4096, tI_10000, tI_16384, tI_16386, tI_M]; omega))]
        refine Or.inr ⟨h, M', R, K, rfl, es, ?_, t1, mLike_tr l9' t2, t3⟩
        rintro ⟨r', q', y1, y2, y3, y4, y5⟩
        obtain ⟨b1, b2, b3, b4, b5, b6, b7⟩ := SF_ak hF y3
        exact y5 (arg_same hF.1 b3 h1 (by rw [es, b6]) y4 b4 (by
          have : pK (P q') = pK (P h) := by rw [← es] at b6; exact (Prod.mk.inj b6).1.symm
          omega))
    · rw [s1, zob_s, if_pos rfl]
      exact Or.inl ⟨M9, rfl, l9', (by intro h' e z; cases e; rw [a6] at z; exact absurd (Prod.mk.inj z) s2)⟩
end PTE
