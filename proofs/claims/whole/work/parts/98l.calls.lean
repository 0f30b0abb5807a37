-- PURE LAYER: each call keeps both sides in step
section PCL
variable {n : Nat} {S S' : zS} {M M' : zM} {nf : Nat} {fam : Nat → Nat} {bit : Nat → Int64} {np : Nat} {P : Nat → Pt} {nl : Nat} {fl : Nat → Nat × Nat} {nr : Nat} {ru : Nat → Nat} {T : Tr} {sa : Nat → Nat} {A B : Am}
theorem cnt_ag (h : ∀ v, v < aN A → agV nr A B v) (o : Option Nat) : ∀ k, k ≤ aN A → cnt A o k = cnt B o k := fun k hk => zsum_congr (fun v hv => by
  obtain ⟨a1, a2, a3, a4, _⟩ := h v (by omega)
  rw [a3, a4])
theorem mxE_ag (h : ∀ v, v < aN A → agV nr A B v) : ∀ k, k ≤ aN A → mxE A k = mxE B k := by
  intro k
  induction k with
  | zero => intro _; rfl
  | succ k ih =>
    intro hk
    obtain ⟨a1, a2, a3, a4, a5, a6, _⟩ := h k (by omega)
    unfold mxE
    rw [ih (by omega), a3, a6]
theorem MSS_ag (hN : aN A = aN B) (h : ∀ v, v < aN A → agV nr A B v) (k : MSS M T P nr B) : MSS M T P nr A := by
  have im : ∀ v, v < aN A → (isMiss A v ↔ isMiss B v) := fun v hv => by
    obtain ⟨a1, a2, a3, a4, _⟩ := h v hv
    unfold isMiss
    rw [a3, a4]
  rcases k with ⟨k1, k2⟩ | ⟨m, an, m1, m2, m3, m4, m5, m6⟩
  · exact Or.inl ⟨fun v hv z => k1 v (by omega) ((im v hv).mp z), k2⟩
  · have hm : m < aN A := by omega
    have eD := (h m hm).2.2.2.2.2.1
    refine Or.inr ⟨m, an, hm, (im m hm).mpr m2, fun v hv z => m3 v hv ((im v (by omega)).mp z), by rw [eD]; exact m4, by rw [eD]; exact m5, fun i hi => ?_⟩
    rw [eD] at hi
    obtain ⟨c1, c2, c3, p, c4, c5, c6, c7⟩ := m6 i hi
    obtain ⟨a1, a2, a3, a4, a5, a6, a7, a8⟩ := h (an i) (by omega)
    obtain ⟨b1, b2, b3, b4, b5, b6, b7, b8⟩ := h (an (i + 1)) (by omega)
    refine ⟨by omega, by omega, by rw [b1]; exact c3, p, by rw [a3]; exact c4, c5, fun x e => c6 x (by rw [← b2]; exact e), fun e => ?_⟩
    obtain ⟨y, y1, y2, y3⟩ := c7 (by rw [← b2]; exact e)
    exact ⟨y, y1, fun z => y2 ((nuR_congr a8).mp z), fun j hj => (nuR_congr a8).mpr (y3 j hj)⟩
theorem RS_ag (hN : aN A = aN B) (h : ∀ v, v < aN A → agV nr A B v) (k : RS M T P nr B) : RS M T P nr A := by
  obtain ⟨k1, k2, k3, k4⟩ := k
  refine ⟨by rw [hN]; exact k1, fun o ho => ?_, ?_, MSS_ag hN h k4⟩
  · rw [cnt_ag h o _ (Nat.le_refl _), hN]; exact k2 o ho
  · rw [mxE_ag h _ (Nat.le_refl _), hN]; exact k3
/-- two times told of one tree is the same -/
theorem MSS_two (hT : TI T P nr sa fam A) (hn : aN A ≤ 4096) (h : MSS M T P nr A) (h' : MSS M' T P nr A) : M'.2.2 10 = M.2.2 10 ∧ ∀ D, D < 4097 → M.2.2 10 = nI D → ∀ i, i < D → M'.1 29 i = M.1 29 i ∧ M'.1 30 i = M.1 30 i := by
  rcases h with ⟨h1, h2⟩ | ⟨m, an, m1, m2, m3, m4, m5⟩
  · rcases h' with ⟨_, h2'⟩ | ⟨m', an', m1', m2', _⟩
    · exact ⟨by rw [h2, h2'], fun D hD e => by rw [h2] at e; exact absurd e.symm (nI_m1 (by omega))⟩
    · exact absurd m2' (h1 m' m1')
  · rcases h' with ⟨h1', _⟩ | ⟨m', an', m1', m2', m3', m4', m5'⟩
    · exact absurd m2 (h1' m m1)
    · have em : m' = m := by
        rcases Nat.lt_trichotomy m' m with z | z | z
        · exact absurd m2' (m3 m' z)
        · exact z
        · exact absurd m2 (m3' m z)
      subst em
      refine ⟨by rw [m4, m4'], fun D hD e i hi => ?_⟩
      have hd := aD_le hT (m' + 1) m' (by omega) m1
      rw [m4] at e
      have eD : aD A m' = D := (nI_eq (by omega) (by omega)).mp e
      subst eD
      obtain ⟨pp, p1, p2⟩ := miss_PA hT m1 m5
      obtain ⟨pp', p1', p2'⟩ := miss_PA hT m1 m5'
      have ean : ∀ j, j ≤ aD A m' → an' (aD A m' - j) = an (aD A m' - j) := by
        intro j
        induction j with
        | zero => intro _; rw [Nat.sub_zero, m5.1, m5'.1]
        | succ j ih =>
          intro hj
          have := ih (by omega)
          have e1 := (p1.2.2 (aD A m' - (j + 1)) (by omega)).1
          have e2 := (p1'.2.2 (aD A m' - (j + 1)) (by omega)).1
          have e3 : aD A m' - (j + 1) + 1 = aD A m' - j := by omega
          rw [e3] at e1 e2
          rw [this, e1] at e2
          exact (Option.some.inj e2).symm
      have e0 : an' i = an i := by
        have := ean (aD A m' - i) (by omega)
        rwa [show aD A m' - (aD A m' - i) = i by omega] at this
      have e1 : an' (i + 1) = an (i + 1) := by
        have := ean (aD A m' - (i + 1)) (by omega)
        rwa [show aD A m' - (aD A m' - (i + 1)) = i + 1 by omega] at this
      have ep : pp' i = pp i := by
        have q1 := (p1.2.2 i hi).2
        have q2 := (p1'.2.2 i hi).2
        rw [e0, q1] at q2
        exact (Option.some.inj q2).symm
      obtain ⟨r1, r2⟩ := p2 i hi
      obtain ⟨r1', r2'⟩ := p2' i hi
      rw [ep] at r1' r2'
      rw [e0, e1] at r2'
      exact ⟨by rw [r1, r1'], nlab_one r2' r2⟩
theorem GP_two (hT : TI T P nr sa fam A) (hn : aN A ≤ 4096) (h : MSS M T P nr A) (h' : MSS M' T P nr A) (hG : GP S M T nf fam) : GP S M' T nf fam := by
  obtain ⟨e1, e2⟩ := MSS_two hT hn h h'
  rcases hG with ⟨g1, g2⟩ | ⟨D, pp, s1, s2, a1, a2, a3, a4, a5, a6, a7⟩
  · exact Or.inl ⟨g1, by rw [e1]; exact g2⟩
  · refine Or.inr ⟨D, pp, s1, s2, a1, by rw [e1]; exact a2, a3, a4, a5, ⟨fun i hi => ?_, a7⟩⟩
    obtain ⟨q1, q2⟩ := e2 D a3 a2 i hi
    rw [q1, q2]
    exact a6 i hi
theorem hasT_no (h : S.2.2.1 1 = 0 ∨ S.2.2.1 1 = -2) : f_Tre_hasTree S = 0 := by
  unfold f_Tre_hasTree
  rcases h with h | h <;> rw [h] <;> decide
theorem hasT_yes {k : Nat} (h : S.2.2.1 1 = nI k) (h1 : 1 ≤ k) (h2 : k < 60000) : f_Tre_hasTree S = 1 := by
  unfold f_Tre_hasTree
  rw [h, if_neg (by (simp (disch := omega) only [nI_1, nI_add, Int32.lt_iff_toInt_lt, Int32.le_iff_toInt_le, ← Int32.toInt_inj, nI_toInt, tI_0, tI_1, tI_2, tI_3, tI_4, tI_m1, tI_m2, tI_m3, tI_m4, tI_64, tI_128, tI_255, tI_256, tI_1000, tI_1024, tI_4096, tI_10000, tI_16384, tI_16386, tI_M]; omega))]
theorem K_grow (hn : n ≤ 600) (h : Rel n S M) : ∃ S' M' v, f_Tre_grow S = some (S', v) ∧ f_Mod_grow M = some (M', v) ∧ Rel (n + 1) S' M' := by
  obtain ⟨nf, fam, bit, np, P, nl, fl, m, ps, nr, ru, T, sa, W, hB, hR, hX⟩ := h
  have hF := Rel_SF hn hB hR
  have hMC := Rel_MC hB hR
  have hTC := hR.2.2.2.2.2.2.2.2.1
  obtain ⟨ne, ep, el, lst, al, nx, nk, ue, t1, t2, t3⟩ := hTC
  have hne : ne < 65536 := by have := hF.2.2.2.2.1; have := hF.2.2.2.2.2.1; omega
  obtain ⟨S1, M1, v, g1, g2, g3, g4, g5⟩ := G_make hF t2 hne hB.1 t1 hB.2.2.1.1 hMC
  have e12 : r_size S 12 = nI nr := by unfold r_size; rw [show S.1 12 = _ from hR.2.1, rowOf_len]
  -- the relation, whatever the class did
  have mk : ∀ S2, okS S2 → (∀ k, k < 27 → S2.1 k = S.1 k) → (∀ k, k ≠ 1 → k ≠ 4 → S2.2.2.1 k = S.2.2.1 k) → S2.2.2.2 = S.2.2.2 → XR S2 M1 nf fam P nr T sa → Rel (n + 1) S2 M1 := by
    intro S2 ho hS hS1 hS2 hX2
    refine ⟨nf, fam, bit, np, P, nl, fl, m, ps, nr, ru, T, sa, W, ?_, ?_, hX2⟩
    · exact BB_like hB (by omega) ho (fun k a => hS k (by omega)) (hS1 2 (by omega) (by omega)) hS2 (fun k a => g4.1 k (by simp; omega)) (g4.2.1 1 (by simp)) (fun k a => g4.2.2 k (by simp; omega))
    · exact RR_keep hF.1 (Nat.le_refl _) (fun _ _ => rfl) (fun _ _ => rfl) (fun k a b => hS k (by omega)) (hS1 0 (by omega) (by omega)) (fun k a b => g4.1 k (by simp; omega)) (g4.2.1 19 (by simp)) (fun k a b => g4.2.2 k (by simp; omega)) hR
  have same : XR S M1 nf fam P nr T sa → Rel (n + 1) S M1 := fun hX2 => mk S hB.1 (fun _ _ => rfl) (fun _ _ _ => rfl) rfl hX2
  unfold f_Tre_grow
  rcases hX with ⟨a1, a2⟩ | ⟨a1, a2, A, a3, a4, a5⟩ | ⟨A, nE, nN, ne', ep', el', lst', al', nx', nk', ue', a1, a2, a3, a4, a5, a6, a7⟩
  · rw [if_neg (by simp [a1]), e12, g1, zob2_s, zbind_e]
    have e1 : (z_sc S1 1 v).2.2.1 1 = v := by show va_up S1.2.2.1 1 v 1 = _; exact va_s
    have hS : ∀ k, k < 27 → (z_sc S1 1 v).1 k = S.1 k := fun k hk => g3.1 k (by simp; omega)
    have hS1 : ∀ k, k ≠ 1 → k ≠ 4 → (z_sc S1 1 v).2.2.1 k = S.2.2.1 k := fun k h1 _ => by
      show va_up S1.2.2.1 1 v k = _
      rw [va_n h1, g3.2.1]
    have hS2 : (z_sc S1 1 v).2.2.2 = S.2.2.2 := by show S1.2.2.2 = _; rw [g3.2.1]
    rcases g5 with ⟨y1, y2, A, y3, y4, y5⟩ | ⟨A, nE, nN, y1, y2, y3⟩
    · subst y1
      rw [hasT_no (Or.inr e1), if_pos rfl, e1]
      exact ⟨_, M1, -2, rfl, g2, mk _ g3.2.2 hS hS1 hS2 (Or.inr (Or.inl ⟨e1, y2, A, y3, y4, y5⟩))⟩
    · subst y1
      obtain ⟨f1, f2, f3, f4, f5, f6, f7, f8⟩ := y3
      rw [hasT_yes e1 f1.1.1 (by omega), if_neg (by decide)]
      have hRz : TRw (z_sc S1 1 (nI (aN A))) T nr sa ne ep el lst al nx nk ue := TRw_like (S' := S1) t1 g3 (by simp)
      obtain ⟨S6, c1, c2, c3⟩ := c_find (S := z_sc S1 1 (nI (aN A))) hF hne f1 f2 f4 f5 f7 g3.2.2 hRz f3 f6.2.2.2
      rw [c1, zob_s]
      have e6 : S6.2.2.1 1 = nI (aN A) := by rw [c2.2.1 1 (by simp)]; exact e1
      rw [e6]
      refine ⟨S6, M1, nI (aN A), rfl, g2, mk S6 c2.2.2.2 (fun k hk => by rw [c2.1 k (by simp; omega)]; exact hS k hk) (fun k h1 h2 => by rw [c2.2.1 k (by simp; omega)]; exact hS1 k h1 h2) (by rw [c2.2.2.1]; exact hS2) (Or.inr (Or.inr ⟨A, nE, nN, ne, ep, el, lst, al, nx, nk, ue, e6, y2, ?_, t2, hne, ⟨f1, f2, NRw_like (ks := []) f3 (fun k h1 h2 => c2.1 k (by simp; omega)), f4, f5, f6, f7, f8⟩, c3⟩))⟩
      have h := hRz
      unfold TRw at h ⊢
      rw [c2.1 13 (by simp), c2.1 14 (by simp), c2.1 15 (by simp), c2.1 16 (by simp), c2.1 17 (by simp), c2.1 18 (by simp), c2.1 19 (by simp), c2.1 20 (by simp), c2.1 21 (by simp), c2.1 22 (by simp), c2.1 23 (by simp), c2.1 24 (by simp), c2.1 25 (by simp)]
      exact h
  · rw [if_pos (by rw [a1]; decide), a1]
    rcases g5 with ⟨y1, y2, A', y3, y4, y5⟩ | ⟨A', nE, nN, y1, y2, y3⟩
    · subst y1
      exact ⟨S, M1, -2, rfl, g2, same (Or.inr (Or.inl ⟨a1, y2, A', y3, y4, y5⟩))⟩
    · exfalso
      obtain ⟨f1, f2, f3, f4, f5, f6, f7, f8⟩ := y3
      have := (UNI a3 a4 f1 f8 f2 (aN A) (Nat.le_refl _)).1
      omega
  · obtain ⟨f1, f2, f3, f4, f5, f6, f7, f8⟩ := a6
    rw [if_pos (by rw [a1]; have := f1.1.1; (simp (disch := omega) only [nI_1, nI_add, Int32.lt_iff_toInt_lt, Int32.le_iff_toInt_le, ← Int32.toInt_inj, nI_toInt, tI_0, tI_1, tI_2, tI_3, tI_4, tI_m1, tI_m2, tI_m3, tI_m4, tI_64, tI_128, tI_255, tI_256, tI_1000, tI_1024, tI_4096, tI_10000, tI_16384, tI_16386, tI_M]; omega)), a1]
    rcases g5 with ⟨y1, y2, A', y3, y4, y5⟩ | ⟨A', nE', nN', y1, y2, y3⟩
    · exfalso
      have := (UNI y3 y4 f1 f8 f2 (aN A') (Nat.le_refl _)).1
      omega
    · obtain ⟨k1, k2, k3, k4, k5, k6, k7, k8⟩ := y3
      obtain ⟨u1, u2⟩ := UNI2 f1 f8 f2 k1 k8 k2
      have hRS : RS M1 T P nr A := RS_ag u1 (fun v hv => (u2 v hv).1) k6
      refine ⟨S, M1, nI (aN A), rfl, by rw [u1, ← y1]; exact g2, same (Or.inr (Or.inr ⟨A, nE, nN, ne', ep', el', lst', al', nx', nk', ue', a1, y2, a3, a4, a5, ⟨f1, f2, f3, f4, f5, hRS, f7, f8⟩, GP_two f1 f7 f6.2.2.2 hRS.2.2.2 a7⟩))⟩
end PCL
