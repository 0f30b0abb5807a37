-- PURE LAYER: every part is some rule's; an argument has its part
def EP (P : Nat → Pt) (fl : Nat → Nat × Nat) (T : Tr) (nr : Nat) (ru : Nat → Nat) : Prop := (∀ c, 1 ≤ c → c < tQ T → ∃ r x, r < nr ∧ oc P fl T (ru r) c = some x) ∧ (∀ k, k < tA T → ∀ y, pO (P (tK T k).2.2) = some y → tCh T (tK T k).2.1 (pM (P (tK T k).2.2)) ≠ none) ∧ ∀ c, 1 ≤ c → c < tQ T → (tH T (tU T c)).1 ≠ 4 → ∃ k, k < tA T ∧ (tK T k).2.1 = tU T c ∧ pM (P (tK T k).2.2) = tL T c
section PEP
variable {nf : Nat} {fam : Nat → Nat} {bit : Nat → Int64} {np : Nat} {P : Nat → Pt} {nl : Nat} {fl : Nat → Nat × Nat} {r : Nat} {ru : Nat → Nat} {T T' : Tr} {Vis : List Nat} {st : List (Nat × Nat)} {q p : Nat}
theorem tFields_new : ∀ k T st, TW T → p < tQ T → ∀ i, tQ T ≤ i → i < tQ (tFields P fl q p k T st).1 → ∃ j, j < k ∧ tL (tFields P fl q p k T st).1 i = nI (fN P fl q j) := by
  intro k
  induction k with
  | zero =>
    intro T st h hp i h1 h2
    have h2 : i < tQ T := h2
    omega
  | succ k ih =>
    intro T st h hp i h1 h2
    obtain ⟨t1, t2, t3, t4, t5, t6, t7, t8, t9, t10, t11, t12⟩ := tChild_ok h hp (nI (fN P fl q k))
    generalize hX : (tChild T p (nI (fN P fl q k))).1 = X at *
    generalize hc : (tChild T p (nI (fN P fl q k))).2 = c at *
    have ef : tFields P fl q p (k + 1) T st = tFields P fl q p k X (st ++ [(fP P fl q k, c)]) := by rw [tFields, hX, hc]
    rw [ef] at h2 ⊢
    by_cases d : i < tQ X
    · have hi : i = tQ T := by omega
      have hcc := (t11 (by omega)).1
      have ex := (tFields_ok (P := P) (fl := fl) (q := q) (p := p) k X (st ++ [(fP P fl q k, c)]) t1 (by omega)).2.1
      refine ⟨k, by omega, ?_⟩
      rw [(ex.2.2.1 i d).2, hi, ← hcc]; exact t7
    · obtain ⟨j, j1, j2⟩ := ih X (st ++ [(fP P fl q k, c)]) t1 (by omega) i (by omega) h2
      exact ⟨j, by omega, j2⟩
theorem tCh_ext (hT' : TW T') (hE : Ext T T') {l : Int32} {c : Nat} (h : tCh T p l = some c) : tCh T' p l = some c := by
  obtain ⟨a, b, d, e⟩ := tCh_ok h
  obtain ⟨f, g⟩ := hE.2.2.1 c b
  have := tCh_at hT' a (Nat.lt_of_lt_of_le b hE.1)
  rw [f, g, d, e] at this
  exact this
theorem EP_step (hW : PWF nf fam bit np P nl fl) (hru : ∀ i, i ≤ r → ru i < np) (hTG : ∀ i, i < r → TG P fl (ru i) (ru r)) (h : LI P fl T r ru Vis (st ++ [(q, p)])) (hE : EP P fl T (r + 1) ru) : EP P fl (tStep P fl r q p T st).1 (r + 1) ru := by
  have hT := h.1
  have hT' := (LI_step hW hru hTG h).1
  have hs := LI_stok hW (hru r (Nat.le_refl _)) h
  obtain ⟨hq, hp⟩ := hs (q, p) (by simp)
  have hq : q < np := hq
  have hp : p < tQ T := hp
  have hpo : oc P fl T (ru r) p = some q := (h.2.2.2.2.2.2.2.1 (q, p) (by simp)).2.1
  have hwq := hW.2.2.2.2 q hq
  have ext := (tStep_ok (r := r) (st := st) hW hq hp hT (fun x hx => hs x (List.mem_append_left _ hx))).2.1
  have hpo' : oc P fl (tStep P fl r q p T st).1 (ru r) p = some q := by rw [oc_ext hT hT' ext _ _ (Nat.lt_succ_self _) hp]; exact hpo
  -- parts
  have newP : ∀ c, tQ T ≤ c → c < tQ (tStep P fl r q p T st).1 → tU (tStep P fl r q p T st).1 c = p ∧ (∃ x, sub P fl q (tL (tStep P fl r q p T st).1 c) = some x) ∧ ((tH (tStep P fl r q p T st).1 p).1 ≠ 4 → ∃ k, k < tA (tStep P fl r q p T st).1 ∧ (tK (tStep P fl r q p T st).1 k).2.1 = p ∧ pM (P (tK (tStep P fl r q p T st).1 k).2.2) = tL (tStep P fl r q p T st).1 c) := by
    intro c h1 h2
    unfold tStep at h2 ⊢
    by_cases e4 : pK (P q) = 4
    · rw [if_pos e4] at h2 ⊢
      have a6 := (tFields_ok (P := P) (fl := fl) (q := q) (p := p) (pN (P q)) (tShape T p (pK (P q), pS (P q))) st hT hp).2.2.2.2.2.1 c h1 h2
      obtain ⟨j, j1, j2⟩ := tFields_new (P := P) (fl := fl) (q := q) (p := p) (pN (P q)) (tShape T p (pK (P q), pS (P q))) st hT hp c h1 h2
      have a5 := (tFields_ok (P := P) (fl := fl) (q := q) (p := p) (pN (P q)) (tShape T p (pK (P q), pS (P q))) st hT hp).2.2.2.2.1 p hp
      refine ⟨a6.2, ⟨_, by rw [j2]; exact sub_fld hwq e4 j1⟩, fun z => absurd ?_ z⟩
      rw [a5]
      show (va_up (tH T) p (pK (P q), pS (P q)) p).1 = 4
      rw [va_s]; exact e4
    · rw [if_neg e4] at h2 ⊢
      by_cases e0 : pK (P q) = 0
      · rw [if_pos e0] at h2
        have h2 : c < tQ T := h2
        omega
      · rw [if_neg e0] at h2 ⊢
        cases ox : pO (P q) with
        | none =>
          rw [ox] at h2
          have h2 : c < tQ T := h2
          omega
        | some x =>
          rw [ox] at h2
          dsimp only at h2 ⊢
          have hTA : TW (tAsked P r q p T) := hT
          have hpA : p < tQ (tAsked P r q p T) := hp
          obtain ⟨t1, t2, t3, t4, t5, t6, t7, t8, t9, t10, t11, t12⟩ := tChild_ok hTA hpA (pM (P q))
          have t3 : tQ (tChild (tAsked P r q p T) p (pM (P q))).1 ≤ tQ T + 1 := t3
          have hc : c = (tChild (tAsked P r q p T) p (pM (P q))).2 := by
            have := (t11 (by show _ = tQ T + 1; omega)).1
            have this : (tChild (tAsked P r q p T) p (pM (P q))).2 = tQ T := this
            omega
          rw [hc]
          refine ⟨t6, ⟨x, by rw [t7]; exact sub_arg e4 ox⟩, fun _ => ⟨tA T, by rw [t8]; exact Nat.lt_succ_self _, ?_, ?_⟩⟩
          · rw [t9]
            show (va_up (tK T) (tA T) (r, p, q) (tA T)).2.1 = p
            rw [va_s]
          · rw [t9, t7]
            show pM (P (va_up (tK T) (tA T) (r, p, q) (tA T)).2.2) = pM (P q)
            rw [va_s]
  -- shapes stay
  have stab : ∀ u, u < tQ T → (tH T u).1 ≠ 0 → tH (tStep P fl r q p T st).1 u = tH T u := by
    intro u hu hn
    have shS : pK (P q) ≠ 0 → va_up (tH T) p (pK (P q), pS (P q)) u = tH T u := by
      intro hk
      by_cases c : u = p
      · subst c
        rw [va_s]
        rcases LI_cons hW hru hTG h hk with y | y
        · exact absurd y hn
        · exact y.symm
      · exact va_n c
    unfold tStep
    by_cases e4 : pK (P q) = 4
    · rw [if_pos e4]
      have a5 := (tFields_ok (P := P) (fl := fl) (q := q) (p := p) (pN (P q)) (tShape T p (pK (P q), pS (P q))) st hT hp).2.2.2.2.1 u hu
      rw [a5]
      exact shS (by omega)
    · rw [if_neg e4]
      by_cases e0 : pK (P q) = 0
      · rw [if_pos e0]
      · rw [if_neg e0]
        cases ox : pO (P q) with
        | none => exact shS e0
        | some x =>
          dsimp only
          have hTA : TW (tAsked P r q p T) := hT
          have hpA : p < tQ (tAsked P r q p T) := hp
          obtain ⟨t1, t2, t3, t4, t5, t6, t7, t8, t9, t10, t11, t12⟩ := tChild_ok hTA hpA (pM (P q))
          rw [(t10 u hu).2.2]
          exact shS e0
  refine ⟨fun c h1 h2 => ?_, fun k hk y hy => ?_, fun c h1 h2 hn4 => ?_⟩
  rotate_left 2
  · by_cases d : c < tQ T
    · have hu := hT.2.1 c h1 d
      rw [(ext.2.2.1 c d).1] at hn4
      rw [(ext.2.2.1 c d).1, (ext.2.2.1 c d).2]
      obtain ⟨k, k1, k2, k3⟩ := hE.2.2 c h1 d (fun z => hn4 (by rw [stab _ (by omega) (by omega)]; exact z))
      exact ⟨k, by have := ext.2.1; omega, by rw [ext.2.2.2 k k1]; exact k2, by rw [ext.2.2.2 k k1]; exact k3⟩
    · obtain ⟨b1, b2, b3⟩ := newP c (by omega) h2
      rw [b1] at hn4 ⊢
      exact b3 hn4
  · by_cases d : c < tQ T
    · obtain ⟨r', x, b1, b2⟩ := hE.1 c h1 d
      exact ⟨r', x, b1, by rw [oc_ext hT hT' ext _ _ (Nat.lt_succ_self _) d]; exact b2⟩
    · obtain ⟨b1, ⟨x, b2⟩, _⟩ := newP c (by omega) h2
      exact ⟨r, x, by omega, by rw [oc_sub hT' h1 h2 (by rw [b1]; exact hpo')]; exact b2⟩
  · by_cases d : k < tA T
    · rw [ext.2.2.2 k d] at hy ⊢
      have := hE.2.1 k d y hy
      cases g : tCh T (tK T k).2.1 (pM (P (tK T k).2.2)) with
      | none => exact absurd g this
      | some c => rw [tCh_ext hT' ext g]; simp
    · -- the new ask
      unfold tStep at hk hy ⊢
      by_cases e4 : pK (P q) = 4
      · rw [if_pos e4] at hk
        have := (tFields_ok (P := P) (fl := fl) (q := q) (p := p) (pN (P q)) (tShape T p (pK (P q), pS (P q))) st hT hp).2.2.2.1
        have this : tA (tFields P fl q p (pN (P q)) (tShape T p (pK (P q), pS (P q))) st).1 = tA T := this
        omega
      · rw [if_neg e4] at hk hy ⊢
        by_cases e0 : pK (P q) = 0
        · rw [if_pos e0] at hk
          have hk : k < tA T := hk
          omega
        · rw [if_neg e0] at hk hy ⊢
          cases ox : pO (P q) with
          | none =>
            rw [ox] at hk hy
            have hk : k < tA T + 1 := hk
            have hke : k = tA T := by omega
            subst hke
            have hy : pO (P (va_up (tK T) (tA T) (r, p, q) (tA T)).2.2) = some y := hy
            rw [va_s] at hy
            have hy : pO (P q) = some y := hy
            rw [ox] at hy; cases hy
          | some x =>
            rw [ox] at hk
            dsimp only at hk ⊢
            have hTA : TW (tAsked P r q p T) := hT
            have hpA : p < tQ (tAsked P r q p T) := hp
            obtain ⟨t1, t2, t3, t4, t5, t6, t7, t8, t9, t10, t11, t12⟩ := tChild_ok hTA hpA (pM (P q))
            have t8 : tA (tChild (tAsked P r q p T) p (pM (P q))).1 = tA T + 1 := t8
            have hke : k = tA T := by omega
            rw [t9, hke]
            have e : tK (tAsked P r q p T) (tA T) = (r, p, q) := va_s
            rw [e]
            show tCh (tChild (tAsked P r q p T) p (pM (P q))).1 p (pM (P q)) ≠ none
            have := tCh_at t1 t4 t5
            rw [t6, t7] at this
            rw [this]; simp
theorem EP_lay (hW : PWF nf fam bit np P nl fl) (hru : ∀ i, i ≤ r → ru i < np) (hTG : ∀ i, i < r → TG P fl (ru i) (ru r)) : ∀ n st T Vis, pot P st < n → LI P fl T r ru Vis st → EP P fl T (r + 1) ru → EP P fl (tLay P fl r n T st) (r + 1) ru := by
  intro n
  induction n with
  | zero => intro st T Vis h; omega
  | succ n ih =>
    intro st T Vis hlt h hE
    rcases List.eq_nil_or_concat st with e | ⟨st', ⟨q, p⟩, e⟩
    · subst e
      rw [tLay_0]
      exact hE
    · subst e
      rw [List.concat_eq_append] at *
      have hs := LI_stok hW (hru r (Nat.le_refl _)) h
      have hpe : pot P (st' ++ [(q, p)]) = pot P st' + pZ (P q) := by rw [pot_app]; simp [pot]
      obtain ⟨hq, hp⟩ := hs (q, p) (by simp)
      have u4 : pot P (tStep P fl r q p T st').2 + 1 ≤ pot P st' + pZ (P q) := (tStep_ok (r := r) (st := st') hW hq hp h.1 (fun x hx => hs x (List.mem_append_left _ hx))).2.2.2.1
      rw [tLay_s]
      exact ih (tStep P fl r q p T st').2 (tStep P fl r q p T st').1 (p :: Vis) (by omega) (LI_step hW hru hTG h) (EP_step hW hru hTG h hE)
theorem EP_0 {x : Nat} (h : EP P fl T r ru) : EP P fl T (r + 1) (va_up ru r x) := ⟨fun c h1 h2 => by
  obtain ⟨r', y, b1, b2⟩ := h.1 c h1 h2
  exact ⟨r', y, by omega, by rw [va_n (by omega)]; exact b2⟩, h.2⟩
end PEP
