-- PURE LAYER: a value's way through the tree: from the root
section PRN
variable {S : zS} {M : zM} {T : Tr} {nr : Nat} {sa : Nat → Nat} {nf : Nat} {fam : Nat → Nat} {bit : Nat → Int64} {np : Nat} {P : Nat → Pt} {nl : Nat} {fl : Nat → Nat × Nat} {ru : Nat → Nat} {ne : Nat} {ep : Nat → Nat} {el : Nat → Int32} {lst al : Nat → List Nat} {nx nk : Nat → Option Nat} {ue : Nat → Nat} {val : Nat} {A : Am} {nE nN : Nat → Option Nat}
theorem W_walk (hF : SF nf fam bit np P nl fl T nr ru sa) (hE : EI T P ne ep el lst al nx nk ue) (hne : ne < 65536) (hEP : EP P fl T nr ru) (hTG : ∀ i j, i < j → j < nr → TG P fl (ru i) (ru j)) (hT : TI T P nr sa fam A) (hD : ∀ v, v < aN A → doneV T P nr fam A v) (hKI : KI A nN) (hEd : EdI A nE ne ep el) (hn : aN A ≤ 4096) (hv : val < np) (hw : pW (P val) = true) (ho : okS S) (hP : PC S np P nl fl) (hR : TRw S T nr sa ne ep el lst al nx nk ue) (hN : NRw S A nE nN) (hM : MC M nf fam bit np P nl fl T nr sa) :
    ∃ S' M' x, f_Wlk_walk S (nI val) = some (S', x) ∧ f_Mod_tell M (nI val) = some (M', x) ∧ zLk [39, 40] [3] S S' ∧ mLike [24, 27, 31] [23] [12] M M' ∧ (x ≠ -3 → S'.2.2.1 3 = M'.2.2 12) := by
  have hpb := hF.2.2.2.2.2.1
  have hnp := hF.1.1
  have hnr := hF.2.2.2.2.2.2
  have hT1 := hF.2.1.1.1
  obtain ⟨t1, t2, t3, t4, t5⟩ := hT.1
  have e13 : f_Par_size S = nI (tQ T) := by unfold f_Par_size r_size; rw [hR.1, rowOf_len]
  unfold f_Wlk_walk
  rw [zbind_e, e13]
  obtain ⟨S1, f1, l1, g1⟩ := zFill (S := S) (k := 39) (n := tQ T) (-4) ho (by omega) (by omega)
  rw [f1, zbind_e]
  obtain ⟨S2, f2, l2, g2⟩ := zSet (S := S1) (k := 39) (i := 0) (nI val) l1.2.2 (by rw [g1, rowOf_len]; omega) (by rw [g1, rowOf_len]; omega)
  have f2 : r_set S1 39 0 (nI val) = S2 := f2
  rw [f2, zbind_e, zbind_e]
  have l12 : zLike [39] S S2 := zLike_tr l1 l2
  have e27 : f_Nod_size (z_sc S2 3 0) = nI (aN A) := by
    unfold f_Nod_size r_size
    show nI (S2.1 27).length = _
    rw [l12.1 27 (by simp), hN.1, rowOf_len]
  rw [e27]
  have L2 : zLk [39, 40] [3] S (z_sc S2 3 0) := zLk_tr (zLk_of (zLike_mono l12 (by simp))) (zLk_sc l12.2.2 (by simp))
  have hSN : SN (z_sc S2 3 0) T P fl val (fun c => if c = 0 then nI val else -4) := by
    refine ⟨?_, fun c hc => ?_, rfl⟩
    · show S2.1 39 = _
      rw [g2, g1, rowOf_set]
      refine rowOf_congr (fun c hc => ?_)
      by_cases e : c = 0
      · subst e; rw [va_s]; rfl
      · rw [va_n e, if_neg e]
    · by_cases e : c = 0
      · subst e; exact Or.inr (by rw [vc_0]; rfl)
      · exact Or.inl (if_neg e)
  -- the reference
  obtain ⟨M1, m1, m2, m3, m4⟩ := p_start hF hM
  unfold f_Mod_tell
  rw [m1, zob_s, zbind_e]
  have l3 : mLike [] [] [12] M1 (m_sc M1 12 0) := mLike_sc
  have hM1 := MC_like hM m2 (by simp) (by simp) (by simp)
  have hM2 := MC_like hM1 l3 (by simp) (by simp) (by simp)
  have lM : mLike [24, 27, 31] [23] [12] M (m_sc M1 12 0) := mLike_tr (mLike_mono m2 (by simp) (by simp) (by simp)) (mLike_mono l3 (by simp) (by simp) (by simp))
  have hL2 : LM (m_sc M1 12 0) T [] := m3
  have hB2 : PB (m_sc M1 12 0) 0 nr (aO A 0) := PB_congr m4 (fun r hr => (t5 r hr).symm)
  have e12 : (m_sc M1 12 0).2.2 12 = nI (aD A 0) := by rw [t3]; exact m_sc_at
  obtain ⟨d1, d2, d3, d4⟩ := hT.2.2.1 0 (by omega)
  have tk : ∀ R, fP1 (aO A 0) nr 0 R → R = aR A 0 := fun R h => fP1_one h d1
  obtain ⟨R, r1, r2⟩ := p_mfirstP hB2 hM2.2.2.1 (by omega) (by omega) zbig 0 (by omega) (by unfold zbig; omega)
  have eR := tk R r2
  have tl0 : tlR (m_sc M1 12 0) T nr sa (aD A 0) (aO A 0) (aW A 0) (aR A 0) (aK A 0) := ⟨e12, by rw [t4]; exact hL2, by rw [t3]; exact hB2, d1, d2, d3⟩
  have fin : ∃ S' M' x, f_Wlk_walk_L40 zbig (z_sc S2 3 0) 0 (nI (aN A)) = some (S', x) ∧ f_Mod_tell_L29 zbig (m_sc M1 12 0) (nI val) (oI (aR A 0)) (oI (aP A 0)) = some (M', x) ∧ zLk [39, 40] [3] S S' ∧ mLike [24, 27, 31] [23] [12] M M' ∧ (x ≠ -3 → S'.2.2.1 3 = M'.2.2 12) := by
    obtain ⟨S', M', x, y1, y2, y3, y4, y5⟩ := W_loop hF hE hne hEP hTG hT hD hKI hEd hn hv hw (aN A + 1) zbig zbig 0 (aN A) (z_sc S2 3 0) (m_sc M1 12 0) _ (by omega) (by omega) (by unfold zbig; omega) (by unfold zbig; omega) (by omega) (by omega) l12.2.2 (PC_like (S' := S2) hP l12 (by simp)) (TRw_like (S' := S2) hR l12 (by simp)) (NRw_like (ks := []) hN (fun k h1 h2 => l12.1 k (by simp; omega))) hSN (by rw [t3]; show va_up S2.2.2.1 3 0 3 = _; exact va_s) hM2 tl0 (by rw [t4]; intro u hu; cases hu)
    exact ⟨S', M', x, y1, y2, zLk_tr L2 y3, mLike_tr lM y4, y5⟩
  rw [show f_Mod_firstPossible (m_sc M1 12 0) 0 = some (oI R) from r1, zob_s, eR]
  cases g : aR A 0 with
  | none =>
    rw [if_neg (by decide)]
    have gK := d2 g
    rw [g, d4, gK] at fin
    exact fin
  | some r =>
    rw [eR, g] at r2
    have hr := r2.2.1
    rw [if_pos (by rw [oI_s]; exact nI_pos' (by omega))]
    obtain ⟨K, k1, k2⟩ := p_nextPlace hF hM2 hL2 hr
    have eK : K = aK A 0 := by
      have := d3 r g
      rw [t4] at this
      exact fA_one k2 this
    rw [show f_Mod_nextPlace (m_sc M1 12 0) (oI (some r)) = _ from k1, zob_s, eK, ← d4, ← g]
    exact fin
end PRN
