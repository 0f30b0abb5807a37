-- PURE LAYER: class and reference side by side
/-- the tree, on both sides -/
def XR (S : zS) (M : zM) (nf : Nat) (fam : Nat → Nat) (P : Nat → Pt) (nr : Nat) (T : Tr) (sa : Nat → Nat) : Prop :=
  (S.2.2.1 1 = 0 ∧ M.2.2 7 = 0) ∨ (S.2.2.1 1 = -2 ∧ M.2.2 7 = 0 ∧ ∃ A, TI T P nr sa fam A ∧ PRE T P nr fam A ∧ aN A = 4097) ∨
  ∃ (A : Am) (nE nN : Nat → Option Nat) (ne : Nat) (ep : Nat → Nat) (el : Nat → Int32) (lst al : Nat → List Nat) (nx nk : Nat → Option Nat) (ue : Nat → Nat), S.2.2.1 1 = nI (aN A) ∧ M.2.2 7 = 1 ∧ TRw S T nr sa ne ep el lst al nx nk ue ∧ EI T P ne ep el lst al nx nk ue ∧ ne < 65536 ∧ FIN S M A nE nN T P nr sa fam ne ep el ∧ GP S M T nf fam
def Rel (n : Nat) (S : zS) (M : zM) : Prop := ∃ (nf : Nat) (fam : Nat → Nat) (bit : Nat → Int64) (np : Nat) (P : Nat → Pt) (nl : Nat) (fl : Nat → Nat × Nat) (m : Nat) (ps : Nat → Nat × Nat) (nr : Nat) (ru : Nat → Nat) (T : Tr) (sa : Nat → Nat) (W : Nat), BB n S M nf fam bit np P nl fl m ps ∧ RR n S M np P fl nr ru T sa W ∧ XR S M nf fam P nr T sa
section PRL
variable {n : Nat} {S S' : zS} {M M' : zM} {nf nf' : Nat} {fam fam' : Nat → Nat} {bit bit' : Nat → Int64} {np np' : Nat} {P P' : Nat → Pt} {nl nl' : Nat} {fl fl' : Nat → Nat × Nat} {m : Nat} {ps : Nat → Nat × Nat} {nr : Nat} {ru : Nat → Nat} {T : Tr} {sa : Nat → Nat} {W : Nat}
theorem Rel_SF (hn : n ≤ 600) (hB : BB n S M nf fam bit np P nl fl m ps) (hR : RR n S M np P fl nr ru T sa W) : SF nf fam bit np P nl fl T nr ru sa := by
  obtain ⟨a1, a2, a3, a4, a5, a6, a7, a8, a9, a10, a11, a12, a13, a14, a15, a16⟩ := hR
  exact ⟨hB.2.2.2.2.2.2.1, a11, a12, a4, by omega, by omega, by omega⟩
theorem Rel_MC (hB : BB n S M nf fam bit np P nl fl m ps) (hR : RR n S M np P fl nr ru T sa W) : MC M nf fam bit np P nl fl T nr sa := by
  obtain ⟨a1, a2, a3, a4, a5, a6, a7, a8, a9, a10, a11, a12, a13, a14, a15, a16⟩ := hR
  exact ⟨hB.2.2.2.2.2.1, a10, a3.1, hB.2.2.2.1⟩
theorem GP_same (hnf : nf ≤ nf') (hfa : ∀ i, i < nf → fam' i = fam i) (h4 : S'.2.2.1 4 = S.2.2.1 4) (h41 : S'.1 41 = S.1 41) (h42 : S'.1 42 = S.1 42) (h10 : M'.2.2 10 = M.2.2 10) (h29 : M'.1 29 = M.1 29) (h30 : M'.1 30 = M.1 30) (h : GP S M T nf fam) : GP S' M' T nf' fam' := by
  unfold GP at h ⊢
  rw [h4, h41, h42, h10]
  rcases h with h | ⟨D, pp, s1, s2, a1, a2, a3, a4, a5, a6, a7⟩
  · exact Or.inl h
  · refine Or.inr ⟨D, pp, s1, s2, a1, a2, a3, a4, a5, ⟨fun i hi => ?_, a7⟩⟩
    obtain ⟨b1, b2, b3, b4, b5, b6, b7⟩ := a6 i hi
    rw [h29, h30]
    refine ⟨b1, b2, b3, b4, b5, b6, fun k => ?_⟩
    obtain ⟨f, t, c1, c2, c3, c4⟩ := b7 k
    exact ⟨f, t, c1, c2, by omega, by rw [hfa f c3]; exact c4⟩
/-- nothing of the tree changes -/
theorem XR_keep (hF : SF nf fam bit np P nl fl T nr ru sa) (hnf : nf ≤ nf') (hfa : ∀ i, i < nf → fam' i = fam i) (hP : ∀ i, i < np → P' i = P i) (hS : ∀ k, 12 < k → k < 37 → S'.1 k = S.1 k) (h41 : S'.1 41 = S.1 41) (h42 : S'.1 42 = S.1 42) (h1 : S'.2.2.1 1 = S.2.2.1 1) (h4 : S'.2.2.1 4 = S.2.2.1 4) (hM : ∀ k, 28 ≤ k → k ≤ 30 → M'.1 k = M.1 k) (hM2 : ∀ k, 7 ≤ k → k ≤ 10 → M'.2.2 k = M.2.2 k) (h : XR S M nf fam P nr T sa) : XR S' M' nf' fam' P' nr T sa := by
  have hl := ask_lt hF.1 hF.2.2.2.1 hF.2.1
  have e1 := nuR_eq (T := T) hP hl
  have e3 := nar_eq (T := T) hP hl
  have e2 : ∀ A, TI T P nr sa fam A → ∀ v p, v < aN A → aP A v = some p → allOf fam' (tH T p) = allOf fam (tH T p) := fun A hT v p hv hp => allOf_c hF.1 hfa hF.2.2.2.1 hF.2.1 (part_lt hF hT v p hv hp)
  unfold XR
  rw [h1, hM2 7 (by omega) (by omega)]
  rcases h with h | ⟨a1, a2, A, a3, a4, a5⟩ | ⟨A, nE, nN, ne, ep, el, lst, al, nx, nk, ue, a1, a2, a3, a4, a5, a6, a7⟩
  · exact Or.inl h
  · exact Or.inr (Or.inl ⟨a1, a2, A, TI_c e1 e3 (e2 A a3) a3, PRE_c e1 (e2 A a3) a4, a5⟩)
  · obtain ⟨f1, f2, f3, f4, f5, f6, f7, f8⟩ := a6
    refine Or.inr (Or.inr ⟨A, nE, nN, ne, ep, el, lst, al, nx, nk, ue, a1, a2, ?_, EI_c hP hl a4, a5, ⟨TI_c e1 e3 (e2 A f1) f1, fun v hv => (doneV_c e1 (e2 A f1 v · hv)).mpr (f2 v hv), NRw_like (ks := []) f3 (fun k k1 k2 => hS k (by omega) (by omega)), f4, f5, ?_, f7, PRE_c e1 (e2 A f1) f8⟩, GP_same hnf hfa h4 h41 h42 (hM2 10 (by omega) (by omega)) (hM 29 (by omega) (by omega)) (hM 30 (by omega) (by omega)) a7⟩)
    · unfold TRw at a3 ⊢
      rw [hS 13 (by omega) (by omega), hS 14 (by omega) (by omega), hS 15 (by omega) (by omega), hS 16 (by omega) (by omega), hS 17 (by omega) (by omega), hS 18 (by omega) (by omega), hS 19 (by omega) (by omega), hS 20 (by omega) (by omega), hS 21 (by omega) (by omega), hS 22 (by omega) (by omega), hS 23 (by omega) (by omega), hS 24 (by omega) (by omega), hS 25 (by omega) (by omega)]
      exact a3
    · refine RS_c e1 ?_
      unfold RS MSS missW at f6 ⊢
      rw [hM2 8 (by omega) (by omega), hM2 9 (by omega) (by omega), hM2 10 (by omega) (by omega), hM 28 (by omega) (by omega), hM 29 (by omega) (by omega), hM 30 (by omega) (by omega)]
      exact f6
theorem Rel_mono (h : Rel n S M) : Rel (n + 1) S M := by
  obtain ⟨nf, fam, bit, np, P, nl, fl, m, ps, nr, ru, T, sa, W, h1, h2, h3⟩ := h
  refine ⟨nf, fam, bit, np, P, nl, fl, m, ps, nr, ru, T, sa, W, BB_like h1 (by omega) h1.1 (fun _ _ => rfl) rfl rfl (fun _ _ => rfl) rfl (fun _ _ => rfl), ?_, h3⟩
  obtain ⟨a1, a2⟩ := h2
  exact ⟨by omega, a2⟩
/-- a plain call -/
theorem Rel_keep (hn : n ≤ 600) (hB : BB n S M nf fam bit np P nl fl m ps) (hR : RR n S M np P fl nr ru T sa W) (hX : XR S M nf fam P nr T sa) {x : zS × Int32} {y : Option (zM × Int32)} (h : Keep n S M nf fam bit np P nl fl x y) : ∃ S' M' v, x = (S', v) ∧ y = some (M', v) ∧ Rel (n + 1) S' M' := by
  obtain ⟨S', M', v, nf', fam', bit', np', P', nl', fl', m', ps', k1, k2, k3, k4, k5, k6, k7, k8, k9, k10, k11, k12, k13, k14⟩ := h
  have hF := Rel_SF hn hB hR
  refine ⟨S', M', v, k1, k2, nf', fam', bit', np', P', nl', fl', m', ps', nr, ru, T, sa, W, k3, ?_, ?_⟩
  · exact RR_keep hF.1 k5 k8 k9 (fun k a _ => k10 k (by omega)) (k11 0 (by omega)) (fun k a _ => k12 k a) (k13 19 (by omega)) (fun k a _ => k14 k a) hR
  · exact XR_keep hF k4 (fun i hi => (k7 i hi).1) k8 (fun k a _ => k10 k (by omega)) (k10 41 (by omega)) (k10 42 (by omega)) (k11 1 (by omega)) (k11 4 (by omega)) (fun k a _ => k12 k (by omega)) (fun k a _ => k14 k (by omega)) hX
/-- a call that changes scratch rows alone -/
theorem Rel_scr (hn : n ≤ 600) (hB : BB n S M nf fam bit np P nl fl m ps) (hR : RR n S M np P fl nr ru T sa W) (hX : XR S M nf fam P nr T sa) (ho : okS S') (hS : ∀ k, k ≠ 11 → k ≠ 39 → k ≠ 40 → S'.1 k = S.1 k) (hS1 : ∀ k, k ≠ 3 → S'.2.2.1 k = S.2.2.1 k) (hS2 : S'.2.2.2 = S.2.2.2) (hM : ∀ k, k ≠ 24 → k ≠ 27 → k ≠ 31 → k ≠ 32 → M'.1 k = M.1 k) (hM1 : ∀ k, k ≠ 23 → M'.2.1 k = M.2.1 k) (hM2 : ∀ k, k ≠ 11 → k ≠ 12 → M'.2.2 k = M.2.2 k) : Rel (n + 1) S' M' := by
  have hF := Rel_SF hn hB hR
  refine ⟨nf, fam, bit, np, P, nl, fl, m, ps, nr, ru, T, sa, W, ?_, ?_, ?_⟩
  · exact BB_like hB (by omega) ho (fun k a => hS k (by omega) (by omega) (by omega)) (hS1 2 (by omega)) hS2 (fun k a => hM k (by omega) (by omega) (by omega) (by omega)) (hM1 1 (by omega)) (fun k a => hM2 k (by omega) (by omega))
  · refine RR_keep hF.1 (Nat.le_refl _) (fun _ _ => rfl) (fun _ _ => rfl) (fun k a b => hS k (by omega) (by omega) (by omega)) (hS1 0 (by omega)) (fun k a b => hM k (by omega) (by omega) (by omega) (by omega)) (hM1 19 (by omega)) (fun k a b => hM2 k (by omega) (by omega)) hR
  · exact XR_keep hF (Nat.le_refl _) (fun _ _ => rfl) (fun _ _ => rfl) (fun k a b => hS k (by omega) (by omega) (by omega)) (hS 41 (by omega) (by omega) (by omega)) (hS 42 (by omega) (by omega) (by omega)) (hS1 1 (by omega)) (hS1 4 (by omega)) (fun k a b => hM k (by omega) (by omega) (by omega) (by omega)) (fun k a b => hM2 k (by omega) (by omega)) hX
end PRL
