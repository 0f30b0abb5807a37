-- PURE LAYER: a value's way through the tree: one step
/-- where a value goes from a node -/
def brR (T : Tr) (P : Nat → Pt) (nr : Nat) (A : Am) (v p : Nat) (o b : Option Nat) : Prop :=
  (b = none ∧ ∀ h, o = some h → (pK (P h), pS (P h)) = tH T p → odR T P (aO A v) p h nr) ∨ ∃ h w, o = some h ∧ (pK (P h), pS (P h)) = tH T p ∧ ¬ odR T P (aO A v) p h nr ∧ b = some w ∧ w ∈ aC A v ∧ w < aN A ∧ (aL A w = some (pM (P h)) ∨ (aL A w = none ∧ ¬ nuR T P (aO A v) p nr (pM (P h))))
section PSP
variable {S : zS} {M : zM} {T : Tr} {nr : Nat} {sa : Nat → Nat} {nf : Nat} {fam : Nat → Nat} {bit : Nat → Int64} {np : Nat} {P : Nat → Pt} {nl : Nat} {fl : Nat → Nat × Nat} {ru : Nat → Nat} {ne : Nat} {ep : Nat → Nat} {el : Nat → Int32} {lst al : Nat → List Nat} {nx nk : Nat → Option Nat} {ue : Nat → Nat} {val : Nat} {A : Am} {nE nN : Nat → Option Nat}
theorem NRw_like {ks : List Nat} {S' : zS} (h : NRw S A nE nN) (hl : ∀ k, 27 ≤ k → k ≤ 36 → S'.1 k = S.1 k) : NRw S' A nE nN := by
  unfold NRw at h ⊢
  rw [hl 27 (by omega) (by omega), hl 28 (by omega) (by omega), hl 29 (by omega) (by omega), hl 30 (by omega) (by omega), hl 31 (by omega) (by omega), hl 32 (by omega) (by omega), hl 33 (by omega) (by omega), hl 34 (by omega) (by omega), hl 35 (by omega) (by omega), hl 36 (by omega) (by omega)]
  exact h
theorem c_branch (hF : SF nf fam bit np P nl fl T nr ru sa) (hE : EI T P ne ep el lst al nx nk ue) (hne : ne < 65536) (hEP : EP P fl T nr ru) (hTG : ∀ i j, i < j → j < nr → TG P fl (ru i) (ru j)) (hT : TI T P nr sa fam A) (hD : ∀ v, v < aN A → doneV T P nr fam A v) (hKI : KI A nN) (hEd : EdI A nE ne ep el) (hn : aN A ≤ 4096) (hv : val < np) (hw : pW (P val) = true) (ho : okS S) (hP : PC S np P nl fl) (hR : TRw S T nr sa ne ep el lst al nx nk ue) (hN : NRw S A nE nN) {sn : Nat → Int32} (hS : SN S T P fl val sn) {v p : Nat} (hvA : v < aN A) (hp : aP A v = some p) (hpQ : p < tQ T) (hg : gp T p) : ∃ S' sn' b, f_Wlk_branch S (nI v) = some (S', oI b) ∧ zLike [39, 40] S S' ∧ SN S' T P fl val sn' ∧ brR T P nr A v p (vc P fl T val p) b := by
  have hW := hF.1
  have hnp := hW.1
  have hqb := hF.2.2.2.2.2.1
  obtain ⟨S2, sn2, e2, l2, s2⟩ := c_valueAt hF hE hne hv hw ho hP hR hS hpQ hg
  have hP2 := PC_like hP l2 (by simp)
  have hR2 := TRw_like hR l2 (by simp)
  have hN2 : NRw S2 A nE nN := NRw_like (ks := []) hN (fun k h1 h2 => l2.1 k (by simp; omega))
  have e27 : f_Nod_part S (nI v) = nI p := by unfold f_Nod_part; rw [r_at_rd, hN.1, rowOf_rd hvA (by omega), hp]; rfl
  have e13 : f_Par_shape S2 (nI p) = nI (tH T p).1 := by unfold f_Par_shape; rw [r_at_rd, hR2.1, rowOf_rd hpQ (by omega)]
  have e14 : f_Par_sort S2 (nI p) = (tH T p).2 := by unfold f_Par_sort; rw [r_at_rd, hR2.2.1, rowOf_rd hpQ (by omega)]
  unfold f_Wlk_branch
  rw [zbind_e, e27, e2, zob2_s]
  cases g : vc P fl T val p with
  | none =>
    rw [oI_n, if_pos rfl]
    exact ⟨S2, sn2, none, rfl, l2, s2, Or.inl ⟨rfl, (by intro h e; cases e)⟩⟩
  | some h =>
    obtain ⟨h1, h2⟩ := vc_whole hF.2.1.1 hW hv hw (p + 1) p h (by omega) hpQ g
    have hwh := hW.2.2.2.2 h h1
    have hKh := pwK hwh
    have hHp := SF_H hF hpQ
    rw [oI_s, if_neg (nI_m1 (by omega)), e13, e14, cK hP2 hnp h1, cS hP2 hnp h1]
    by_cases e : (pK (P h), pS (P h)) = tH T p
    · have eK : pK (P h) = (tH T p).1 := by rw [← e]
      have eS : pS (P h) = (tH T p).2 := by rw [← e]
      rw [if_neg (by rw [eK]; simp), if_pos eS, cM hP2 hnp h1]
      obtain ⟨ls, os, k1, k2, k3⟩ := hD v hvA p hp
      rcases c_branchFor hR2 hne hN2 hKI hn hEd hvA k1 (pM (P h)) with ⟨w, w1, w2, w3, w4⟩ | ⟨w1, w2, w3⟩
      · rw [w3, zob_s]
        have e31 : f_Nod_edge S2 (nI w) = oI (nE w) := by unfold f_Nod_edge; rw [r_at_rd, hN2.2.2.2.2.1, rowOf_rd w2 (by omega)]
        rw [e31]
        obtain ⟨m1, m2⟩ := hEd w w2
        rcases w4 with ⟨w4, w5⟩ | ⟨w4, w5⟩
        · -- the branch with the value's number
          cases ge : nE w with
          | none => rw [ge, w4] at m1; cases m1
          | some ed =>
            rw [ge, w4] at m1
            have m1 : el ed = pM (P h) := Option.some.inj m1
            obtain ⟨u1, u2⟩ := m2 ed ge
            have hep : ep ed = p := u2 v p ((hKI v hvA).2 w w1).2.2 hp
            have ech : f_Par_child S2 (nI ed) = oI (tCh T p (pM (P h))) := by unfold f_Par_child; rw [r_at_rd, hR2.2.2.2.2.2.2.2.1, rowOf_rd u1 (by omega), hep, m1]
            obtain ⟨r, q, r1, r2, r3, r4⟩ := k1.2.2.2.1 _ w5
            have oiff : odR T P (aO A v) p h nr ↔ (tCh T p (pM (P h))).isSome ≠ (pO (P h)).isSome := by
              constructor
              · rintro ⟨r', q', y1, y2, y3, y4, y5⟩
                rw [← y4, arg_ch hF hEP hTG y3]; exact y5
              · intro y
                refine ⟨r, q, r1, r2, r3, r4, ?_⟩
                rw [← arg_ch hF hEP hTG r3, r4]; exact y
            have sa1 : f_Wlk_sameArguments S2 (nI h) (nI ed) = bI (decide ((pO (P h)).isSome = (tCh T p (pM (P h))).isSome)) := by
              unfold f_Wlk_sameArguments
              rw [cArg hP2 hnp h1 hwh, ech]
              cases gh : pO (P h) with
              | none =>
                rw [oI_n, if_neg (by simp)]
                cases gc : tCh T p (pM (P h)) with
                | none => rw [oI_n, if_neg (by simp)]; rfl
                | some c =>
                  have := (tCh_ok gc).2.1
                  rw [oI_s, if_pos (nI_m1 (by omega))]; rfl
              | some y =>
                have := pwO hwh gh
                rw [oI_s, if_pos (nI_m1 (by omega))]
                cases gc : tCh T p (pM (P h)) with
                | none => rw [oI_n, if_neg (by simp)]; rfl
                | some c =>
                  have := (tCh_ok gc).2.1
                  rw [oI_s, if_pos (nI_m1 (by omega))]; rfl
            rw [oI_s, if_pos (nI_m1 (by omega)), sa1]
            by_cases z : (pO (P h)).isSome = (tCh T p (pM (P h))).isSome
            · rw [if_neg (by simp [z, bI])]
              exact ⟨S2, sn2, some w, rfl, l2, s2, Or.inr ⟨h, w, rfl, e, fun q => (oiff.mp q) z.symm, rfl, w1, w2, Or.inl w4⟩⟩
            · rw [if_pos (by simp [z, bI])]
              exact ⟨S2, sn2, none, rfl, l2, s2, Or.inl ⟨rfl, (by intro h' e' _; cases e'; exact oiff.mpr (fun q => z q.symm))⟩⟩
        · have ge : nE w = none := by
            cases ge : nE w with
            | none => rfl
            | some ed => rw [ge, w4] at m1; cases m1
          rw [ge, oI_n, if_neg (by simp)]
          have nn : ¬ nuR T P (aO A v) p nr (pM (P h)) := fun q => w5 (k2 _ q)
          refine ⟨S2, sn2, some w, rfl, l2, s2, Or.inr ⟨h, w, rfl, e, fun ⟨r, q, r1, r2, r3, r4, r5⟩ => nn ⟨r, q, r1, r2, r3, r4⟩, rfl, w1, w2, Or.inr ⟨w4, nn⟩⟩⟩
      · exfalso
        have : ¬ ls.length < allOf fam (tH T p) := fun q => by
          have := k3 q
          rw [w3] at this; cases this
        exact w2 (all_cov hF k1 this h1 e)
    · have stop : ∃ S' sn' b, some (S2, (-1 : Int32)) = some (S', oI b) ∧ zLike [39, 40] S S' ∧ SN S' T P fl val sn' ∧ brR T P nr A v p (some h) b := ⟨S2, sn2, none, rfl, l2, s2, Or.inl ⟨rfl, (by intro h' e'; cases e'; intro q; exact absurd q e)⟩⟩
      by_cases e1 : nI (pK (P h)) = nI (tH T p).1
      · have e1' : pK (P h) = (tH T p).1 := (nI_eq (by omega) (by omega)).mp e1
        have e2' : ¬ pS (P h) = (tH T p).2 := fun q => e (Prod.ext e1' q)
        rw [if_neg (by simp [e1]), if_neg e2']
        exact stop
      · rw [if_pos e1]
        exact stop
end PSP
