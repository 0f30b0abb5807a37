-- PURE LAYER: what was said of rules and tree holds on when patterns and families come
section PCG
variable {S S' : zS} {M M' : zM} {T : Tr} {nr : Nat} {sa : Nat → Nat} {nf nf' : Nat} {fam fam' : Nat → Nat} {bit bit' : Nat → Int64} {np np' : Nat} {P P' : Nat → Pt} {nl nl' : Nat} {fl fl' : Nat → Nat × Nat} {ru : Nat → Nat} {ne : Nat} {ep : Nat → Nat} {el : Nat → Int32} {lst al : Nat → List Nat} {nx nk : Nat → Option Nat} {ue : Nat → Nat} {A : Am} {nE nN : Nat → Option Nat}
theorem fN_c (hW : PWF nf fam bit np P nl fl) (hP : ∀ i, i < np → P' i = P i) (hL : ∀ i, i < nl → fl' i = fl i) {q j : Nat} (hq : q < np) (hj : j < pN (P q)) : fN P' fl' q j = fN P fl q j ∧ fP P' fl' q j = fP P fl q j := by
  have hb := (hW.2.2.2.2 q hq).2.2.2.2.2.2.2.2.1
  unfold fN fP
  rw [hP q hq, hL _ (by omega)]
  exact ⟨rfl, rfl⟩
theorem subF_c (hW : PWF nf fam bit np P nl fl) (hP : ∀ i, i < np → P' i = P i) (hL : ∀ i, i < nl → fl' i = fl i) {q : Nat} (hq : q < np) (l : Int32) : ∀ n, n ≤ pN (P q) → subF P' fl' q l n = subF P fl q l n := by
  intro n
  induction n with
  | zero => intro _; rfl
  | succ n ih =>
    intro hn
    obtain ⟨e1, e2⟩ := fN_c hW hP hL hq (show n < pN (P q) by omega)
    unfold subF
    rw [e1, e2, ih (by omega)]
theorem sub_c (hW : PWF nf fam bit np P nl fl) (hP : ∀ i, i < np → P' i = P i) (hL : ∀ i, i < nl → fl' i = fl i) {q : Nat} (hq : q < np) (l : Int32) : sub P' fl' q l = sub P fl q l := by
  unfold sub
  rw [hP q hq, subF_c hW hP hL hq l _ (Nat.le_refl _)]
theorem oc_c (hW : PWF nf fam bit np P nl fl) (hP : ∀ i, i < np → P' i = P i) (hL : ∀ i, i < nl → fl' i = fl i) (hT : TW T) {root : Nat} (hr : root < np) : ∀ n p, p < n → p < tQ T → oc P' fl' T root p = oc P fl T root p := by
  intro n
  induction n with
  | zero => intro p h; omega
  | succ n ih =>
    intro p h hp
    by_cases e : p = 0
    · rw [e, oc_0, oc_0]
    · have hu := hT.2.1 p (by omega) hp
      rw [oc_s hT (by omega) hp, oc_s hT (by omega) hp, ih (tU T p) (by omega) (by omega)]
      cases g : oc P fl T root (tU T p) with
      | none => rfl
      | some q =>
        have hq := oc_lt hT hW hr _ _ _ (Nat.lt_succ_self _) (show tU T p < tQ T by omega) g
        exact sub_c hW hP hL hq _
theorem chn_c (hW : PWF nf fam bit np P nl fl) (hP : ∀ i, i < np → P' i = P i) (hL : ∀ i, i < nl → fl' i = fl i) (hT : TW T) {root r k : Nat} (hr : root < np) : ∀ n c, c < n → c < tQ T → (chn P' fl' T root r k c ↔ chn P fl T root r k c) := by
  intro n
  induction n with
  | zero => intro c h; omega
  | succ n ih =>
    intro c h hc
    by_cases e : c = 0
    · rw [e]; exact ⟨fun _ => chn_0, fun _ => chn_0⟩
    · have hu := hT.2.1 c (by omega) hc
      rw [chn_s hT (by omega) hc, chn_s hT (by omega) hc, oc_c hW hP hL hT hr _ _ (Nat.lt_succ_self _) (show tU T c < tQ T by omega)]
      refine exists_congr (fun q => and_congr_right (fun g => ?_))
      have hq := oc_lt hT hW hr _ _ _ (Nat.lt_succ_self _) (show tU T c < tQ T by omega) g
      rw [hP q hq, ih (tU T c) (by omega) (by omega)]
theorem GI_c (hW : PWF nf fam bit np P nl fl) (hP : ∀ i, i < np → P' i = P i) (hL : ∀ i, i < nl → fl' i = fl i) (hru : ∀ r, r < nr → ru r < np) (h : GI P fl T nr ru) : GI P' fl' T nr ru := by
  obtain ⟨h1, h2, h3, h4, h5⟩ := h
  refine ⟨h1, h2, fun k hk => ?_, h4, fun p hp hn => ?_⟩
  · obtain ⟨a1, a2, a3, a4, a5, a6⟩ := h3 k hk
    have hq := oc_lt h1 hW (hru _ a1) _ _ _ (Nat.lt_succ_self _) a2 a3
    unfold askOK
    rw [hP _ hq, oc_c hW hP hL h1 (hru _ a1) _ _ (Nat.lt_succ_self _) a2, chn_c hW hP hL h1 (hru _ a1) _ _ (Nat.lt_succ_self _) a2]
    exact ⟨a1, a2, a3, a4, a5, a6⟩
  · obtain ⟨r, q, a1, a2, a3⟩ := h5 p hp hn
    have hq := oc_lt h1 hW (hru _ a1) _ _ _ (Nat.lt_succ_self _) hp a2
    exact ⟨r, q, a1, by rw [oc_c hW hP hL h1 (hru _ a1) _ _ (Nat.lt_succ_self _) hp]; exact a2, by rw [hP q hq]; exact a3⟩
/-- patterns of asks are patterns -/
theorem ask_lt (hW : PWF nf fam bit np P nl fl) (hru : ∀ r, r < nr → ru r < np) (h : GI P fl T nr ru) : ∀ k, k < tA T → (tK T k).2.2 < np := fun k hk => by
  obtain ⟨a1, a2, a3, a4, a5, a6⟩ := h.2.2.1 k hk
  exact oc_lt h.1 hW (hru _ a1) _ _ _ (Nat.lt_succ_self _) a2 a3
theorem EP_c (hW : PWF nf fam bit np P nl fl) (hP : ∀ i, i < np → P' i = P i) (hL : ∀ i, i < nl → fl' i = fl i) (hru : ∀ r, r < nr → ru r < np) (hG : GI P fl T nr ru) (h : EP P fl T nr ru) : EP P' fl' T nr ru := by
  obtain ⟨h1, h2, h3⟩ := h
  have hl := ask_lt hW hru hG
  refine ⟨fun c c1 c2 => ?_, fun k hk y hy => ?_, fun c c1 c2 c3 => ?_⟩
  · obtain ⟨r, x, a1, a2⟩ := h1 c c1 c2
    exact ⟨r, x, a1, by rw [oc_c hW hP hL hG.1 (hru _ a1) _ _ (Nat.lt_succ_self _) c2]; exact a2⟩
  · rw [hP _ (hl k hk)] at hy ⊢
    exact h2 k hk y hy
  · obtain ⟨k, k1, k2, k3⟩ := h3 c c1 c2 c3
    exact ⟨k, k1, k2, by rw [hP _ (hl k k1)]; exact k3⟩
theorem EI_c (hP : ∀ i, i < np → P' i = P i) (hl : ∀ k, k < tA T → (tK T k).2.2 < np) (h : EI T P ne ep el lst al nx nk ue) : EI T P' ne ep el lst al nx nk ue := by
  obtain ⟨h1, h2, h3, h4⟩ := h
  refine ⟨h1, fun e he => ?_, h3, fun k hk => ?_⟩
  · obtain ⟨a1, a2, a3⟩ := h2 e he
    refine ⟨a1, a2, fun k => (a3 k).trans ⟨fun z => ?_, fun z => ?_⟩⟩
    · rw [hP _ (hl k z.1)]; exact z
    · rw [hP _ (hl k z.1)] at z; exact z
  · obtain ⟨e, a1, a2, a3⟩ := h4 k hk
    exact ⟨e, a1, a2, by rw [hP _ (hl k hk)]; exact a3⟩
theorem fnd_c (hW : PWF nf fam bit np P nl fl) (hP : ∀ i, i < np → P' i = P i) (hL : ∀ i, i < nl → fl' i = fl i) {b : Nat} (hb : b < np) (f : Nat) : ∀ n, n ≤ pN (P b) → fnd P' fl' b f n = fnd P fl b f n := by
  intro n
  induction n with
  | zero => intro _; rfl
  | succ n ih =>
    intro hn
    obtain ⟨e1, e2⟩ := fN_c hW hP hL hb (show n < pN (P b) by omega)
    unfold fnd
    rw [e1, e2, ih (by omega)]
theorem kkF_c (hW : PWF nf fam bit np P nl fl) (hP : ∀ i, i < np → P' i = P i) (hL : ∀ i, i < nl → fl' i = fl i) {a b : Nat} (ha : a < np) (hb : b < np) : ∀ n, n ≤ pN (P a) → kkF P' fl' a b n = kkF P fl a b n := by
  intro n
  induction n with
  | zero => intro _; rfl
  | succ n ih =>
    intro hn
    obtain ⟨e1, e2⟩ := fN_c hW hP hL ha (show n < pN (P a) by omega)
    unfold kkF
    rw [e1, e2, hP b hb, fnd_c hW hP hL hb _ _ (Nat.le_refl _), ih (by omega)]
theorem kidG_c (hW : PWF nf fam bit np P nl fl) (hP : ∀ i, i < np → P' i = P i) (hL : ∀ i, i < nl → fl' i = fl i) {a b : Nat} (ha : a < np) (hb : b < np) : kidG P' fl' a b = kidG P fl a b := by
  unfold kidG kk
  rw [hP a ha, hP b hb, kkF_c hW hP hL ha hb _ (Nat.le_refl _)]
theorem hhG_c (hW : PWF nf fam bit np P nl fl) (hP : ∀ i, i < np → P' i = P i) (hL : ∀ i, i < nl → fl' i = fl i) : ∀ n a b, a < np → b < np → (hh (lokG P') (kidG P' fl') n a b ↔ hh (lokG P) (kidG P fl) n a b) := by
  intro n
  induction n with
  | zero => intro a b _ _; exact Iff.rfl
  | succ n ih =>
    intro a b ha hb
    unfold hh
    rw [kidG_c hW hP hL ha hb]
    refine and_congr (by unfold lokG; rw [hP a ha, hP b hb]) (forall_congr' (fun q => imp_congr_right (fun hq => ?_)))
    have := kidG_in (hW.2.2.2.2 a ha) (hW.2.2.2.2 b hb) hq
    exact ih q.1 q.2 (by omega) (by omega)
theorem TG_c (hW : PWF nf fam bit np P nl fl) (hP : ∀ i, i < np → P' i = P i) (hL : ∀ i, i < nl → fl' i = fl i) {a b : Nat} (ha : a < np) (hb : b < np) : TG P' fl' a b ↔ TG P fl a b := hhG_c hW hP hL _ a b ha hb
/-- the rules stay as they are -/
theorem RR_keep {n W : Nat} (hW : PWF nf fam bit np P nl fl) (hn : np ≤ np') (hP : ∀ i, i < np → P' i = P i) (hL : ∀ i, i < nl → fl' i = fl i) (hS : ∀ k, 11 < k → k ≤ 25 → S'.1 k = S.1 k) (h0 : S'.2.2.1 0 = S.2.2.1 0) (hM : ∀ k, 12 < k → k ≤ 22 → M'.1 k = M.1 k) (hM1 : M'.2.1 19 = M.2.1 19) (hM2 : ∀ k, 3 < k → k ≤ 6 → M'.2.2 k = M.2.2 k) (h : RR n S M np P fl nr ru T sa W) : RR (n + 1) S' M' np' P' fl' nr ru T sa W := by
  obtain ⟨a1, a2, a3, a4, a5, a6, a7, a8, a9, a10, a11, a12, a13, a14, a15, a16⟩ := h
  refine ⟨by omega, ?_, ⟨?_, fun i hi => ?_⟩, fun r hr => by have := a4 r hr; omega, fun i j hij hj => ?_, by rw [h0]; exact a6, ?_, a8, ?_, ?_, GI_c hW hP hL a4 a11, a12, a13, a14, a15, EP_c hW hP hL a4 a11 a16⟩
  · unfold RC; rw [hS 12 (by omega) (by omega)]; exact a2
  · rw [hM2 4 (by omega) (by omega)]; exact a3.1
  · rw [hM 13 (by omega) (by omega)]; exact a3.2 i hi
  · exact (TG_c hW hP hL (a4 i (by omega)) (a4 j hj)).mpr (a5 i j hij hj)
  · rw [hM2 5 (by omega) (by omega)]; exact a7
  · obtain ⟨ne, ep, el, lst, al, nx, nk, ue, h1, h2, h3⟩ := TC_same (S' := S') a9 (fun k _ _ => hS k (by omega) (by omega))
    exact ⟨ne, ep, el, lst, al, nx, nk, ue, h1, EI_c hP (ask_lt hW a4 a11) h2, h3⟩
  · obtain ⟨bl, nb, m1, m2, m3, m4, m5, m6⟩ := a10
    refine ⟨bl, nb, by rw [hM2 6 (by omega) (by omega)]; exact m1, ?_, ?_, ?_, ?_, ?_⟩
    · rw [hM 17 (by omega) (by omega), hM 18 (by omega) (by omega), hM1, hM 21 (by omega) (by omega)]; exact m2
    · rw [hM 20 (by omega) (by omega), hM 22 (by omega) (by omega)]; exact m3
    · rw [hM 15 (by omega) (by omega), hM 16 (by omega) (by omega)]; exact m4
    · rw [hM 14 (by omega) (by omega)]; exact m5
    · rw [hM 14 (by omega) (by omega)]; exact m6
theorem nuR_eq (hP : ∀ i, i < np → P' i = P i) (hl : ∀ k, k < tA T → (tK T k).2.2 < np) : nuR T P' = nuR T P := by
  funext po p i x
  have e : ∀ r q, ak T r p = some q → P' q = P q := fun r q h => by
    obtain ⟨j, j1, j2⟩ := ak_ok h
    have := hl j j1
    rw [j2] at this
    exact hP q this
  refine propext ⟨?_, ?_⟩
  · rintro ⟨r, q, a, b, c, d⟩
    exact ⟨r, q, a, b, c, by rw [← e r q c]; exact d⟩
  · rintro ⟨r, q, a, b, c, d⟩
    exact ⟨r, q, a, b, c, by rw [e r q c]; exact d⟩
theorem nar_eq (hP : ∀ i, i < np → P' i = P i) (hl : ∀ k, k < tA T → (tK T k).2.2 < np) : nar T P' = nar T P := by
  funext po p lab r
  unfold nar
  cases g : ak T r p with
  | none => rfl
  | some q =>
    obtain ⟨j, j1, j2⟩ := ak_ok g
    have := hl j j1
    rw [j2] at this
    dsimp only
    rw [hP q this]
theorem allOf_c (hW : PWF nf fam bit np P nl fl) (hfa : ∀ i, i < nf → fam' i = fam i) (hru : ∀ r, r < nr → ru r < np) (h : GI P fl T nr ru) {p : Nat} (hp : p < tQ T) : allOf fam' (tH T p) = allOf fam (tH T p) := by
  unfold allOf
  by_cases c : (tH T p).1 = 2
  · rw [if_pos c, if_pos c]
    obtain ⟨r, q, a1, a2, a3⟩ := h.2.2.2.2 p hp (by omega)
    have hq := oc_lt h.1 hW (hru _ a1) _ _ _ (Nat.lt_succ_self _) hp a2
    have kq : pK (P q) = 2 := by rw [a3] at c; exact c
    obtain ⟨f, t, g1, g2, g3, g4, g5⟩ := (hW.2.2.2.2 q hq).2.2.2.2.2.2.2.2.2.2.2.2.2.1 kq
    have := hW.2.2.2.1
    rw [a3]
    show fam' (pS (P q)).toNatClampNeg = fam (pS (P q)).toNatClampNeg
    rw [g1, nI_clamp (by omega), hfa f g3]
  · rw [if_neg c, if_neg c]
theorem kidOK_c (e1 : nuR T P' = nuR T P) {v p : Nat} (e2 : allOf fam' (tH T p) = allOf fam (tH T p)) {ls : List Int32} {os : List (Option Int32)} : kidOK T P' nr fam' A v p ls os ↔ kidOK T P nr fam A v p ls os := by
  unfold kidOK
  rw [e1, e2]
theorem doneV_c (e1 : nuR T P' = nuR T P) {v : Nat} (e2 : ∀ p, aP A v = some p → allOf fam' (tH T p) = allOf fam (tH T p)) : doneV T P' nr fam' A v ↔ doneV T P nr fam A v := by
  unfold doneV
  refine forall_congr' (fun p => imp_congr_right (fun hp => ?_))
  rw [e2 p hp]
  refine exists_congr (fun ls => exists_congr (fun os => and_congr (kidOK_c e1 (e2 p hp)) ?_))
  rw [e1]
theorem TI_c (e1 : nuR T P' = nuR T P) (e3 : nar T P' = nar T P) (e2 : ∀ v p, v < aN A → aP A v = some p → allOf fam' (tH T p) = allOf fam (tH T p)) (h : TI T P nr sa fam A) : TI T P' nr sa fam' A := by
  obtain ⟨h1, h2, h3, h4⟩ := h
  refine ⟨h1, fun v v1 v2 => ?_, h3, fun v hv => ⟨(h4 v hv).1, fun p hp => ?_⟩⟩
  · unfold upOK; rw [e3]; exact h2 v v1 v2
  · obtain ⟨ls, os, k⟩ := (h4 v hv).2 p hp
    exact ⟨ls, os, (kidOK_c e1 (e2 v p hv hp)).mpr k⟩
theorem PRE_c (e1 : nuR T P' = nuR T P) (e2 : ∀ v p, v < aN A → aP A v = some p → allOf fam' (tH T p) = allOf fam (tH T p)) (h : PRE T P nr fam A) : PRE T P' nr fam' A := by
  obtain ⟨h1, h2⟩ := h
  refine ⟨fun n u a b v c d => ?_, h2⟩
  obtain ⟨x, y⟩ := h1 n u a b v c d
  exact ⟨(doneV_c e1 (fun p hp => e2 v p (by omega) hp)).mpr x, y⟩
theorem RS_c (e1 : nuR T P' = nuR T P) (h : RS M T P nr A) : RS M T P' nr A := by
  unfold RS MSS missW at h ⊢
  rw [e1]; exact h
theorem part_lt (hF : SF nf fam bit np P nl fl T nr ru sa) (hT : TI T P nr sa fam A) : ∀ v p, v < aN A → aP A v = some p → p < tQ T := fun v p hv hp => (look_part hF hT hv hp).1
end PCG
