-- PURE LAYER: the reference's loop; the end of laying
section PML
variable {nf : Nat} {fam : Nat → Nat} {bit : Nat → Int64} {np : Nat} {P : Nat → Pt} {nl : Nat} {fl : Nat → Nat × Nat} {r : Nat} {ru : Nat → Nat} {sa : Nat → Nat}
theorem zsum_ge {f : Nat → Nat} : ∀ {k : Nat}, (∀ j, j < k → 1 ≤ f j) → k ≤ zsum f k := by
  intro k
  induction k with
  | zero => intro _; omega
  | succ k ih =>
    intro h
    have h1 := ih (fun j hj => h j (by omega))
    have h2 := h k (by omega)
    unfold zsum
    omega
theorem pNZ (hW : PWF nf fam bit np P nl fl) {q : Nat} (hq : q < np) : pN (P q) + 1 ≤ pZ (P q) := by
  have hw := hW.2.2.2.2
  have hwq := hw q hq
  by_cases e : pK (P q) = 4
  · rw [pwR hwq e]
    have := zsum_ge (f := fun j => pZ (P (fP P fl q j))) (k := pN (P q)) (fun j hj => (pwZ (hw _ (by have := (pwP hwq hj).1; omega))).1)
    omega
  · rw [pwW hwq e]; exact (pwZ hwq).1
theorem LI_stok (hW : PWF nf fam bit np P nl fl) (hr : ru r < np) {T : Tr} {Vis : List Nat} {st : List (Nat × Nat)} (h : LI P fl T r ru Vis st) : stok np T st := by
  obtain ⟨hT, hC, a1, a2, a3, a4, a6, a7, a8, a9⟩ := h
  intro x hx
  obtain ⟨b1, b2, b3⟩ := a7 x hx
  exact ⟨oc_lt hT hW hr _ _ _ (Nat.lt_succ_self _) b1 b2, b1⟩
theorem LI_lay (hW : PWF nf fam bit np P nl fl) (hru : ∀ i, i ≤ r → ru i < np) (hTG : ∀ i, i < r → TG P fl (ru i) (ru r)) : ∀ n st T Vis, pot P st < n → LI P fl T r ru Vis st → ∃ Vis', LI P fl (tLay P fl r n T st) r ru Vis' [] ∧ Ext T (tLay P fl r n T st) := by
  intro n
  induction n with
  | zero => intro st T Vis h; omega
  | succ n ih =>
    intro st T Vis hlt h
    rcases List.eq_nil_or_concat st with e | ⟨st', ⟨q, p⟩, e⟩
    · subst e
      rw [tLay_0]
      exact ⟨Vis, h, Ext_rf⟩
    · subst e
      rw [List.concat_eq_append] at *
      have hs := LI_stok hW (hru r (Nat.le_refl _)) h
      have hpe : pot P (st' ++ [(q, p)]) = pot P st' + pZ (P q) := by rw [pot_app]; simp [pot]
      obtain ⟨hq, hp⟩ := hs (q, p) (by simp)
      obtain ⟨u1, u2, u3, u4, u5, u6, ks, u7⟩ := tStep_ok (r := r) (st := st') hW hq hp h.1 (fun x hx => hs x (List.mem_append_left _ hx))
      rw [tLay_s]
      have u4 : pot P (tStep P fl r q p T st').2 + 1 ≤ pot P st' + pZ (P q) := u4
      obtain ⟨Vis', v1, v2⟩ := ih (tStep P fl r q p T st').2 (tStep P fl r q p T st').1 (p :: Vis) (by omega) (LI_step hW hru hTG h)
      exact ⟨Vis', v1, Ext_tr u2 v2⟩
theorem lay_b (hW : PWF nf fam bit np P nl fl) {B : Nat} : ∀ n st T, pot P st < n → stok np T st → TW T → tQ T + pot P st ≤ st.length + B → tA T + pot P st ≤ B → tQ (tLay P fl r n T st) ≤ B ∧ tA (tLay P fl r n T st) ≤ B := by
  intro n
  induction n with
  | zero => intro st T h; omega
  | succ n ih =>
    intro st T hlt hs hT h1 h2
    rcases List.eq_nil_or_concat st with e | ⟨st', ⟨q, p⟩, e⟩
    · subst e
      rw [tLay_0]
      simp [pot] at h1 h2
      exact ⟨h1, h2⟩
    · subst e
      rw [List.concat_eq_append] at *
      have hpe : pot P (st' ++ [(q, p)]) = pot P st' + pZ (P q) := by rw [pot_app]; simp [pot]
      have hl1 : (st' ++ [(q, p)]).length = st'.length + 1 := by simp
      obtain ⟨hq, hp⟩ := hs (q, p) (by simp)
      have hq : q < np := hq
      have hp : p < tQ T := hp
      obtain ⟨u1, u2, u3, u4, u5, u6, ks, u7⟩ := tStep_ok (r := r) (st := st') hW hq hp hT (fun x hx => hs x (List.mem_append_left _ hx))
      rw [tLay_s]
      exact ih (tStep P fl r q p T st').2 (tStep P fl r q p T st').1 (by omega) u3 u1 (by omega) (by omega)
theorem p_mlay_L (hW : PWF nf fam bit np P nl fl) (hru : ∀ i, i ≤ r → ru i < np) (hTG : ∀ i, i < r → TG P fl (ru i) (ru r)) (hr2 : r < 1024) {B : Nat} (hB : B ≤ 16384) : ∀ n st M T Vis, pot P st < n → LI P fl T r ru Vis st → PM M np P nl fl → TMo M T (r + 1) sa → ST M st → M.2.2 4 = nI r → tQ T + pot P st ≤ st.length + B → tA T + pot P st ≤ B → ∃ M', f_Mod_rule_L135 n M = some (M', nI r) ∧ mLike [14, 15, 16, 17, 18, 20, 21, 22, 31, 32] [19] [4, 6, 11] M M' ∧ M'.2.2 4 = nI (r + 1) ∧ TMo M' (tLay P fl r n T st) (r + 1) sa := by
  have hw := hW.2.2.2.2
  intro n
  induction n with
  | zero => intro st M T Vis h; omega
  | succ n ih =>
    intro st M T Vis hlt h hP hM hst h4 hQ hA
    unfold f_Mod_rule_L135
    have hs := LI_stok hW (hru r (Nat.le_refl _)) h
    have hpl := pot_len (P := P) st (fun x hx => (pwZ (hw x.1 (hs x hx).1)).1)
    rcases List.eq_nil_or_concat st with e | ⟨st', ⟨q, p⟩, e⟩
    · subst e
      rw [if_pos (by rw [hst.1]; decide), zbind_e, h4, m_sc_at, nI_1, nI_pred, tLay_0]
      exact ⟨_, rfl, mLike_mono mLike_sc (by simp) (by simp) (by simp), m_sc_at, TMo_like hM mLike_sc (by simp) (by simp) (by simp)⟩
    · subst e
      rw [List.concat_eq_append] at *
      have hpe : pot P (st' ++ [(q, p)]) = pot P st' + pZ (P q) := by rw [pot_app]; simp [pot]
      have hl1 : (st' ++ [(q, p)]).length = st'.length + 1 := by simp
      obtain ⟨hq, hp⟩ := hs (q, p) (by simp)
      have hq : q < np := hq
      have hp : p < tQ T := hp
      have hnz := pNZ hW hq
      have hpl' := pot_len (P := P) st' (fun x hx => (pwZ (hw x.1 (hs x (List.mem_append_left _ hx)).1)).1)
      obtain ⟨s5, rA, rB⟩ := p_pop hst
      have e11 : M.2.2 11 = nI (st'.length + 1) := by rw [hst.1, hl1]
      have e5 : M.2.2 11 - 1 = nI st'.length := by rw [e11, nI_pred]
      rw [if_neg (by rw [e11]; (simp (disch := omega) only [nI_1, nI_add, Int32.lt_iff_toInt_lt, Int32.le_iff_toInt_le, ← Int32.toInt_inj, nI_toInt, tI_0, tI_1, tI_2, tI_3, tI_4, tI_m1, tI_m2, tI_m3, tI_m4, tI_64, tI_128, tI_255, tI_256, tI_1000, tI_1024, tI_4096, tI_10000, tI_16384, tI_16386, tI_M]; omega)), zbind_e, e5]
      have l5 : mLike [] [] [11] M (m_sc M 11 (nI st'.length)) := mLike_sc
      have hP5 := PM_like hP l5 (by simp) (by simp)
      have hM5 := TMo_like hM l5 (by simp) (by simp) (by simp)
      have h45 : (m_sc M 11 (nI st'.length)).2.2 4 = nI r := by rw [m_sc_ne (by decide)]; exact h4
      rw [m_sc_at, m_rd_n (by omega) (by omega), m_rd_n (by omega) (by omega), m_sc_1, rA, rB]
      obtain ⟨M6, c1, c2, c3, c4, c5⟩ := p_mask (r := r) (st := st') hW hq rfl hr2 h45 hP5 hM5 h.1 h.2.1 hp (fun hk => LI_cons hW hru hTG h hk) (by omega) (by omega) s5 (by omega)
      rw [c1, zob_s, tLay_s]
      obtain ⟨u1, u2, u3, u4, u5, u6, ks, u7⟩ := tStep_ok (r := r) (st := st') hW hq hp h.1 (fun x hx => hs x (List.mem_append_left _ hx))
      have h46 : M6.2.2 4 = nI r := by rw [c2.2.2 4 (by decide)]; exact h45
      obtain ⟨M7, d1, d2, d3, d4⟩ := ih (tStep P fl r q p T st').2 M6 (tStep P fl r q p T st').1 (p :: Vis) (by omega) (LI_step hW hru hTG h) (PM_ly hP5 c2) c3 c5 h46 (by omega) (by omega)
      refine ⟨M7, d1, mLike_tr (mLike_mono l5 (by simp) (by simp) (by simp)) (mLike_tr (mLike_mono c2 (by simp) (by simp) (by simp)) d2), d3, d4⟩
theorem LI_0 {T : Tr} (h : GI P fl T r ru) : LI P fl T r ru [] [(ru r, 0)] := by
  obtain ⟨hT, hC, a1, a2, a3⟩ := h
  refine ⟨hT, hC, fun k hk => ?_, a2, fun p hp hn => ?_, ⟨by simp, fun x _ => by simp⟩, fun s hs hs0 => ?_, fun x hx => ?_, (by intro v hv; cases hv), fun k hk e => ?_⟩
  · obtain ⟨b1, b2⟩ := a1 k hk
    exact ⟨by omega, b2⟩
  · obtain ⟨r', q, b1, b2, b3⟩ := a3 p hp hn
    exact Or.inl ⟨r', q, b1, b2, b3⟩
  · rcases hs with y | y
    · cases y
    · have : s = 0 := by simpa using y
      exact absurd this hs0
  · have : x = (ru r, 0) := by simpa using hx
    subst this
    exact ⟨hT.1, oc_0, chn_0⟩
  · have := (a1 k hk).1
    omega
theorem GI_of {T : Tr} {Vis : List Nat} (h : LI P fl T r ru Vis []) : GI P fl T (r + 1) ru := by
  obtain ⟨hT, hC, a1, a2, a3, a4, a6, a7, a8, a9⟩ := h
  refine ⟨hT, hC, a1, a2, fun p hp hn => ?_⟩
  rcases a3 p hp hn with ⟨r', q, b1, b2, b3⟩ | ⟨-, q, b2, b3⟩
  · exact ⟨r', q, by omega, b2, b3⟩
  · exact ⟨r, q, by omega, b2, b3⟩
/-- where each rule's asks begin -/
def SI (T : Tr) (nr : Nat) (sa : Nat → Nat) : Prop := (∀ i j, i ≤ j → j < nr → sa i ≤ sa j) ∧ (∀ i, i < nr → sa i ≤ tA T) ∧ ∀ k, k < tA T → sa (tK T k).1 ≤ k ∧ ((tK T k).1 + 1 < nr → k < sa ((tK T k).1 + 1))
theorem SI_step {T : Tr} {q p : Nat} {st : List (Nat × Nat)} (h : SI T (r + 1) sa) : SI (tStep P fl r q p T st).1 (r + 1) sa := by
  have ask : ∀ x, SI (tShape T p x) (r + 1) sa := fun x => h
  have asked : SI (tAsked P r q p T) (r + 1) sa := by
    obtain ⟨h1, h2, h3⟩ := h
    refine ⟨h1, fun i hi => by have := h2 i hi; show sa i ≤ tA T + 1; omega, fun k hk => ?_⟩
    have hk : k < tA T + 1 := hk
    show sa (va_up (tK T) (tA T) (r, p, q) k).1 ≤ k ∧ ((va_up (tK T) (tA T) (r, p, q) k).1 + 1 < r + 1 → k < sa ((va_up (tK T) (tA T) (r, p, q) k).1 + 1))
    by_cases c : k = tA T
    · subst c; rw [va_s]
      exact ⟨h2 r (by omega), fun y => by
        have y : r + 1 < r + 1 := y
        omega⟩
    · rw [va_n c]; exact h3 k (by omega)
  have child : ∀ X : Tr, SI X (r + 1) sa → ∀ l, SI (tChild X p l).1 (r + 1) sa := by
    intro X hX l
    unfold tChild
    cases tCh X p l with
    | none => exact hX
    | some c => exact hX
  have flds : ∀ k X s, SI X (r + 1) sa → SI (tFields P fl q p k X s).1 (r + 1) sa := by
    intro k
    induction k with
    | zero => intro X s hX; exact hX
    | succ k ih => intro X s hX; rw [tFields]; exact ih _ _ (child X hX _)
  unfold tStep
  split
  · exact flds _ _ _ (ask _)
  · split
    · exact h
    · cases pO (P q) with
      | none => exact asked
      | some x => exact child _ asked _
theorem SI_lay : ∀ n st T, SI T (r + 1) sa → SI (tLay P fl r n T st) (r + 1) sa := by
  intro n
  induction n with
  | zero => intro st T h; exact h
  | succ n ih =>
    intro st T h
    rcases List.eq_nil_or_concat st with e | ⟨st', ⟨q, p⟩, e⟩
    · subst e; rw [tLay_0]; exact h
    · subst e
      rw [List.concat_eq_append, tLay_s]
      exact ih _ _ (SI_step h)
theorem SI_0 {T : Tr} (h : SI T r sa) (hk : ∀ k, k < tA T → (tK T k).1 < r) : SI T (r + 1) (va_up sa r (tA T)) := by
  obtain ⟨h1, h2, h3⟩ := h
  refine ⟨fun i j hij hj => ?_, fun i hi => ?_, fun k hk' => ?_⟩
  · by_cases c : j = r
    · subst c; rw [va_s]
      by_cases d : i = j
      · subst d; rw [va_s]; exact Nat.le_refl _
      · rw [va_n d]; exact h2 i (by omega)
    · rw [va_n c, va_n (by omega)]; exact h1 i j hij (by omega)
  · by_cases c : i = r
    · subst c; rw [va_s]; exact Nat.le_refl _
    · rw [va_n c]; exact h2 i (by omega)
  · have hr := hk k hk'
    obtain ⟨b1, b2⟩ := h3 k hk'
    rw [va_n (by omega)]
    refine ⟨b1, fun y => ?_⟩
    by_cases c : (tK T k).1 + 1 = r
    · rw [c, va_s]; exact hk'
    · rw [va_n c]; exact b2 (by omega)
end PML
