-- PURE LAYER: the class finds the value without a rule
section PF2
variable {S : zS} {M : zM} {T : Tr} {nr : Nat} {sa : Nat → Nat} {nf : Nat} {fam : Nat → Nat} {bit : Nat → Int64} {np : Nat} {P : Nat → Pt} {nl : Nat} {fl : Nat → Nat × Nat} {ru : Nat → Nat} {ne : Nat} {ep : Nat → Nat} {el : Nat → Int32} {lst al : Nat → List Nat} {nx nk : Nat → Option Nat} {ue : Nat → Nat} {A : Am} {nE nN : Nat → Option Nat} {D : Nat} {an pp : Nat → Nat}
theorem part_b (hF : SF nf fam bit np P nl fl T nr ru sa) (hT : TI T P nr sa fam A) : ∀ v p, v < aN A → aP A v = some p → p < 2 ^ 31 := fun v p hv hp => by
  have := (look_part hF hT hv hp).1
  have := hF.2.2.2.2.2.1
  omega
theorem c_firstEnd_L (hF : SF nf fam bit np P nl fl T nr ru sa) (hT : TI T P nr sa fam A) (hN : NRw S A nE nN) (hn : aN A ≤ 4096) : ∀ n i, i ≤ aN A → aN A - i < n → (∀ v, v < i → ¬ isMiss A v) → (f_Nod_firstEndWith_L2 n S (-1) (nI i) = some (-1) ∧ ∀ v, v < aN A → ¬ isMiss A v) ∨ ∃ m, f_Nod_firstEndWith_L2 n S (-1) (nI i) = some (nI m) ∧ m < aN A ∧ isMiss A m ∧ ∀ v, v < m → ¬ isMiss A v := by
  have hnr := hF.2.2.2.2.2.2
  intro n
  induction n with
  | zero => intro i _ h; omega
  | succ n ih =>
    intro i hi hlt hall
    have e27 : r_size S 27 = nI (aN A) := by unfold r_size; rw [hN.1, rowOf_len]
    unfold f_Nod_firstEndWith_L2
    rw [e27]
    by_cases c : i = aN A
    · subst c; rw [if_pos (by (simp (disch := omega) only [nI_1, nI_add, Int32.lt_iff_toInt_lt, Int32.le_iff_toInt_le, ← Int32.toInt_inj, nI_toInt, tI_0, tI_1, tI_2, tI_3, tI_4, tI_m1, tI_m2, tI_m3, tI_m4, tI_64, tI_128, tI_255, tI_256, tI_1000, tI_1024, tI_4096, tI_10000, tI_16384, tI_16386, tI_M]; omega))]; exact Or.inl ⟨rfl, hall⟩
    · have e := c_isEnd hT hnr hN hn (part_b hF hT) (o := none) (by intro r e; cases e) (v := i) (by omega)
      rw [oI_n] at e
      rw [if_neg (by (simp (disch := omega) only [nI_1, nI_add, Int32.lt_iff_toInt_lt, Int32.le_iff_toInt_le, ← Int32.toInt_inj, nI_toInt, tI_0, tI_1, tI_2, tI_3, tI_4, tI_m1, tI_m2, tI_m3, tI_m4, tI_64, tI_128, tI_255, tI_256, tI_1000, tI_1024, tI_4096, tI_10000, tI_16384, tI_16386, tI_M]; omega)), e, nI_1]
      by_cases d : aP A i = none ∧ aR A i = none
      · rw [if_pos d, if_neg (by decide)]
        exact Or.inr ⟨i, rfl, by omega, d, hall⟩
      · rw [if_neg d, if_pos rfl]
        refine ih (i + 1) (by omega) (by omega) (fun v hv => ?_)
        by_cases z : v = i
        · subst z; exact d
        · exact hall v (by omega)
theorem c_find (hF : SF nf fam bit np P nl fl T nr ru sa) (hne : ne < 65536) (hT : TI T P nr sa fam A) (hD : ∀ v, v < aN A → doneV T P nr fam A v) (hKI : KI A nN) (hEd : EdI A nE ne ep el) (hn : aN A ≤ 4096) (ho : okS S) (hR : TRw S T nr sa ne ep el lst al nx nk ue) (hN : NRw S A nE nN) (hM : MSS M T P nr A) : ∃ S', f_Gap_find S = some S' ∧ zLk [41, 42] [4] S S' ∧ GP S' M T nf fam := by
  have hq := hF.2.2.2.2.2.1
  have hTW := hF.2.1.1
  have e13 : f_Par_size S = nI (tQ T) := by unfold f_Par_size r_size; rw [hR.1, rowOf_len]
  unfold f_Gap_find
  rw [e13, zbind_e]
  obtain ⟨S1, f1, l1, g1⟩ := zFill (S := S) (k := 41) (n := tQ T) 0 ho (by omega) (by omega)
  have e131 : f_Par_size S1 = nI (tQ T) := by unfold f_Par_size r_size; rw [l1.1 13 (by simp), hR.1, rowOf_len]
  rw [f1, e131, zbind_e]
  obtain ⟨S2, f2, l2, g2⟩ := zFill (S := S1) (k := 42) (n := tQ T) (-1) l1.2.2 (by omega) (by omega)
  rw [f2]
  have l12 : zLike [41, 42] S S2 := zLike_tr (zLike_mono l1 (by simp)) (zLike_mono l2 (by simp))
  have hR2 := TRw_like hR l12 (by simp)
  have hN2 : NRw S2 A nE nN := NRw_like (ks := []) hN (fun k h1 h2 => l12.1 k (by simp; omega))
  have g12 : S2.1 41 = rowOf (tQ T) (fun _ => 0) := by rw [l2.1 41 (by simp)]; exact g1
  have ht1 := hT.1.1
  have e27 : f_Nod_size S2 = nI (aN A) := by unfold f_Nod_size r_size; rw [hN2.1, rowOf_len]
  rcases c_firstEnd_L hF hT hN2 hn zbig 0 (by omega) (by unfold zbig; omega) (fun v hv => by omega) with ⟨a1, a2⟩ | ⟨m, a1, a2, a3, a4⟩
  · rw [show f_Nod_firstEndWith S2 (-1) = some (-1) from a1, zob_s, zbind_e]
    have e4 : (z_sc S2 4 (-1)).2.2.1 4 = -1 := by show va_up S2.2.2.1 4 (-1) 4 = _; exact va_s
    rw [e4, zbind_e, show f_Nod_size (z_sc S2 4 (-1)) = nI (aN A) from e27, zbind_e]
    refine ⟨z_sc S2 4 (-1), ?_, zLk_tr (zLk_of l12) (zLk_sc l12.2.2 (by simp)), Or.inl ⟨e4, ?_⟩⟩
    · have eu : f_Nod_upper (z_sc S2 4 (-1)) (-1) = -1 := by unfold f_Nod_upper; rw [r_at_rd, rd_m1]
      show f_Gap_find_L55 (4294967299 + 1) (z_sc S2 4 (-1)) (-1) (nI (aN A)) = _
      rw [f_Gap_find_L55, if_neg (by (simp (disch := omega) only [nI_1, nI_add, Int32.lt_iff_toInt_lt, Int32.le_iff_toInt_le, ← Int32.toInt_inj, nI_toInt, tI_0, tI_1, tI_2, tI_3, tI_4, tI_m1, tI_m2, tI_m3, tI_m4, tI_64, tI_128, tI_255, tI_256, tI_1000, tI_1024, tI_4096, tI_10000, tI_16384, tI_16386, tI_M]; omega)), eu, if_pos rfl]
    · rcases hM with ⟨_, h⟩ | ⟨m, an, m1, m2, _⟩
      · exact h
      · exact absurd m2 (a2 m m1)
  · rw [show f_Nod_firstEndWith S2 (-1) = some (nI m) from a1, zob_s, zbind_e]
    have e4 : (z_sc S2 4 (nI m)).2.2.1 4 = nI m := by show va_up S2.2.2.1 4 (nI m) 4 = _; exact va_s
    rw [e4, zbind_e, show f_Nod_size (z_sc S2 4 (nI m)) = nI (aN A) from e27, zbind_e]
    rcases hM with ⟨h, _⟩ | ⟨m', an, m1, m2, m3, m4, m5⟩
    · exact absurd a3 (h m a2)
    · have em : m' = m := by
        rcases Nat.lt_trichotomy m' m with z | z | z
        · exact absurd m2 (a4 m' z)
        · exact z
        · exact absurd a3 (m3 m z)
      subst em
      obtain ⟨pp, b1, b2⟩ := miss_PA hT m1 m5
      have hdm := aD_le hT (m' + 1) m' (by omega) m1
      have had : an (aD A m') = m' := m5.1
      obtain ⟨S3, s1, s2, c1, c2, c3, c4, c5, c6⟩ := c_find_L hF hne hT hD hKI hEd hn b1 (aD A m') zbig (aN A) (z_sc S2 4 (nI m')) _ _ (Nat.le_refl _) (by unfold zbig; omega) (by omega) (by omega) l12.2.2 hR2 hN2 g12 g2
      rw [had] at c1
      refine ⟨S3, c1, zLk_tr (zLk_tr (zLk_of l12) (zLk_sc l12.2.2 (by simp))) (zLk_of c2), Or.inr ⟨aD A m', pp, s1, s2, ?_, m4, by omega, c3, c4, ?_, ?_, ?_⟩⟩
      · rw [c2.2.1, e4]; exact nI_m1 (by omega)
      · intro i hi
        obtain ⟨p1, p2, p3⟩ := PA_part hF hT b1 hi
        have hu := b1.2.1 i (by omega)
        have hp := (b1.2.2 i hi).2
        obtain ⟨q1, q2, q3⟩ := PA_up hT b1 hi
        have ec : s2 (pp i) = M.1 30 i := nlab_one (c5 i hi).2 (b2 i hi).2
        refine ⟨p1, (b2 i hi).1, (c5 i hi).1, ec, ⟨p2, p3⟩, ?_, fun k2 => ?_⟩
        · obtain ⟨r0, k0, e1, e2, e3, e4, e5⟩ := look_inner hT hu hp
          have := (SI_sx hF.2.2.1 e4.2.1).2
          have := e5.2.1
          exact ⟨k0, by omega, e3⟩
        · obtain ⟨u, p, v1, v2, v3, v4, v5, v6, v7⟩ := q2
          rw [(b1.2.2 i hi).1] at v2; cases v2
          exact nlab_tag hF hT hD hu hp v7 (b2 i hi).2 k2
      · exact fun i j hij hj => PA_ne hF hT b1 hij hj
      · intro c hc hall
        obtain ⟨d1, d2, d3⟩ := c6 c hc hall
        have hWc : ¬ (∃ i, i < aD A m' ∧ pp i = c) := fun ⟨i, i1, i2⟩ => hall i i1 i2
        have hW : ∀ w, (∃ i, i < aD A m' ∧ pp i = w) → w < tQ T ∧ gq T (fun x => K4 T (tU T x) ∨ ∃ i, i < aD A m' ∧ pp i = tU T x) w := by
          rintro w ⟨i, i1, i2⟩
          subst i2
          refine ⟨(PA_part hF hT b1 i1).1, gq_path (W := fun y => ∃ i, i < aD A m' ∧ pp i = y) hF hT (b1.2.1 i (by omega)) (b1.2.2 i i1).2 (fun u hu => ?_)⟩
          obtain ⟨j, j1, j2⟩ := (PA_W hT b1 i (by omega) u).mp hu
          exact ⟨j, by omega, j2⟩
        by_cases z : ∃ j, j < aD A m' ∧ up T (K4 T) (pp j) c
        · left
          obtain ⟨j, j1, j2⟩ := z
          have hj := (PA_part hF hT b1 j1).1
          exact ⟨d2 ⟨j, j1, j2⟩, up_Q hTW (pp j + 1) (pp j) c (by omega) hj j2, j, j1, up_imp hTW (fun _ _ => trivial) (pp j + 1) (pp j) c (by omega) hj j2⟩
        · right
          refine ⟨d3 (fun j j1 j2 => z ⟨j, j1, j2⟩), fun i hi ha => ?_⟩
          obtain ⟨w, ⟨j, j1, j2⟩, w2⟩ := climb2 (W := fun y => ∃ i, i < aD A m' ∧ pp i = y) hTW hWc hW (pp i + 1) (pp i) (by omega) ⟨i, hi, rfl⟩ ha
          subst j2
          exact z ⟨j, j1, w2⟩
end PF2
