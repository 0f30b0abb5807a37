-- PURE LAYER: a value's way through the tree: the reference's isOdd, what holds on the way
/-- a possible rule with the value's name, the one with an argument, the other without -/
def odR (T : Tr) (P : Nat → Pt) (po : Nat → Bool) (p h i : Nat) : Prop := ∃ r q, r < i ∧ po r = true ∧ ak T r p = some q ∧ pM (P q) = pM (P h) ∧ (pO (P q)).isSome ≠ (pO (P h)).isSome
/-- the value agrees with every possible rule at the parts that were looked at -/
def KWv (T : Tr) (P : Nat → Pt) (fl : Nat → Nat × Nat) (val nr : Nat) (po : Nat → Bool) (lk : List Nat) : Prop := ∀ u, u ∈ lk → ∃ q, vc P fl T val u = some q ∧ (pK (P q), pS (P q)) = tH T u ∧ ∀ r qr, r < nr → po r = true → ak T r u = some qr → pM (P qr) = pM (P q)
section POD
variable {S : zS} {M : zM} {T : Tr} {nr : Nat} {sa : Nat → Nat} {nf : Nat} {fam : Nat → Nat} {bit : Nat → Int64} {np : Nat} {P : Nat → Pt} {nl : Nat} {fl : Nat → Nat × Nat} {ru : Nat → Nat} {A : Am} {val : Nat}
theorem zb_bI (b : Bool) : z_b (bI b) = bI b := by cases b <;> decide
theorem odR_s {po : Nat → Bool} {p h i : Nat} : odR T P po p h (i + 1) ↔ odR T P po p h i ∨ ∃ q, po i = true ∧ ak T i p = some q ∧ pM (P q) = pM (P h) ∧ (pO (P q)).isSome ≠ (pO (P h)).isSome := by
  constructor
  · rintro ⟨r, q, a, b⟩
    by_cases e : r = i
    · subst e; exact Or.inr ⟨q, b⟩
    · exact Or.inl ⟨r, q, by omega, b⟩
  · rintro (⟨r, q, a, b⟩ | ⟨q, b⟩)
    · exact ⟨r, q, by omega, b⟩
    · exact ⟨i, q, by omega, b⟩
theorem p_isOdd_L (hF : SF nf fam bit np P nl fl T nr ru sa) (hM : MC M nf fam bit np P nl fl T nr sa) {d p h : Nat} {po : Nat → Bool} (hd : d < 4097) (hB : PB M d nr po) (hp : p < tQ T) (h24 : M.1 24 d = nI p) (hh : h < np) (k3 : pK (P h) = 3) (t3 : (tH T p).1 = 3) : ∀ n i b, i ≤ nr → nr - i < n → (b = true ↔ odR T P po p h i) → ∃ b', f_Mod_isOdd_L5 n M (nI d) (nI h) (bI b) (nI i) = some (bI b') ∧ (b' = true ↔ odR T P po p h nr) := by
  have hn := hF.2.2.2.2.2.2
  have hnp := hF.1.1
  intro n
  induction n with
  | zero => intro i b _ h; omega
  | succ n ih =>
    intro i b hi hlt hb
    unfold f_Mod_isOdd_L5
    rw [hM.2.2.1]
    by_cases c : i = nr
    · rw [if_pos (by (simp (disch := omega) only [nI_1, nI_add, Int32.lt_iff_toInt_lt, Int32.le_iff_toInt_le, ← Int32.toInt_inj, nI_toInt, tI_0, tI_1, tI_2, tI_3, tI_4, tI_m1, tI_m2, tI_m3, tI_m4, tI_64, tI_128, tI_255, tI_256, tI_1000, tI_1024, tI_4096, tI_10000, tI_16384, tI_16386, tI_M]; omega)), zb_bI]
      subst c
      exact ⟨b, rfl, hb⟩
    · have hi' : i < nr := by omega
      rw [if_neg (by (simp (disch := omega) only [nI_1, nI_add, Int32.lt_iff_toInt_lt, Int32.le_iff_toInt_le, ← Int32.toInt_inj, nI_toInt, tI_0, tI_1, tI_2, tI_3, tI_4, tI_m1, tI_m2, tI_m3, tI_m4, tI_64, tI_128, tI_255, tI_256, tI_1000, tI_1024, tI_4096, tI_10000, tI_16384, tI_16386, tI_M]; omega)), PB_isP hB (by omega) (by omega) hi', zob_s, nI_1]
      have rest : ∀ b', (b' = true ↔ odR T P po p h (i + 1)) → ∃ b'', f_Mod_isOdd_L5 n M (nI d) (nI h) (bI b') (nI (i + 1)) = some (bI b'') ∧ (b'' = true ↔ odR T P po p h nr) := fun b' hb' => ih (i + 1) b' (by omega) (by omega) hb'
      cases eo : po i with
      | false =>
        rw [if_pos (by rfl)]
        have same : b = true ↔ odR T P po p h (i + 1) := by
          rw [odR_s, hb]
          constructor
          · exact Or.inl
          · rintro (q | ⟨q, a, _⟩)
            · exact q
            · rw [eo] at a; cases a
        cases b with
        | true => rw [if_pos (by decide)]; exact rest true same
        | false => rw [if_neg (by decide)]; exact rest false same
      | true =>
        rw [if_neg (by decide), m_rd_n (by omega) (by omega), h24, p_asked' hF hM hi' hp, zob_s]
        cases b with
        | true =>
          rw [if_pos (by decide)]
          exact rest true (by rw [odR_s]; exact ⟨fun _ => Or.inl (hb.mp rfl), fun _ => rfl⟩)
        | false =>
          rw [if_neg (by decide)]
          have hb0 : ¬ odR T P po p h i := fun q => by have := hb.mpr q; cases this
          cases ea : ak T i p with
          | none =>
            rw [if_pos (by decide)]
            refine rest false ?_
            rw [odR_s]
            constructor
            · intro q; cases q
            · rintro (q | ⟨q, _, a, _⟩)
              · exact absurd q hb0
              · rw [ea] at a; cases a
          | some x =>
            obtain ⟨a1, a2, a3, a4, a5, a6, a7⟩ := SF_ak hF ea
            have kx : pK (P x) = 3 := by rw [a6] at t3; exact t3
            rw [oI_s, if_neg (by (simp (disch := omega) only [nI_1, nI_add, Int32.lt_iff_toInt_lt, Int32.le_iff_toInt_le, ← Int32.toInt_inj, nI_toInt, tI_0, tI_1, tI_2, tI_3, tI_4, tI_m1, tI_m2, tI_m3, tI_m4, tI_64, tI_128, tI_255, tI_256, tI_1000, tI_1024, tI_4096, tI_10000, tI_16384, tI_16386, tI_M]; omega)), m_rd_n (by omega) (by omega), m_rd_n (by omega) (by omega), gF3 hM.1 a3 kx, gF3 hM.1 hh k3]
            have key : ∀ b', (b' = true ↔ pM (P x) = pM (P h) ∧ (pO (P x)).isSome ≠ (pO (P h)).isSome) → (b' = true ↔ odR T P po p h (i + 1)) := by
              intro b' hb'
              rw [odR_s, hb']
              constructor
              · intro q; exact Or.inr ⟨x, eo, ea, q⟩
              · rintro (q | ⟨q, _, a, q'⟩)
                · exact absurd q hb0
                · rw [ea] at a; cases a; exact q'
            by_cases em : pM (P x) = pM (P h)
            · rw [if_neg (by simp [em]), m_rd_n (by omega) (by omega), g5 hM.1 a3 (by omega)]
              cases ox : pO (P x) with
              | none =>
                rw [if_neg (by decide), m_rd_n (by omega) (by omega), g5 hM.1 hh (by omega)]
                cases oh : pO (P h) with
                | none =>
                  rw [if_neg (by decide)]
                  exact rest false (key false (by rw [ox, oh]; simp))
                | some y =>
                  have hy := pwO (hF.1.2.2.2.2 h hh) oh
                  rw [oI_s, if_pos (nI_pos' (by omega))]
                  exact rest true (key true (by rw [ox, oh]; simp [em]))
              | some z =>
                have hz := pwO (hF.1.2.2.2.2 x a3) ox
                rw [oI_s, if_pos (nI_pos' (by omega)), m_rd_n (by omega) (by omega), g5 hM.1 hh (by omega)]
                cases oh : pO (P h) with
                | none =>
                  rw [if_neg (by decide)]
                  exact rest true (key true (by rw [ox, oh]; simp [em]))
                | some y =>
                  have hy := pwO (hF.1.2.2.2.2 h hh) oh
                  rw [oI_s, if_pos (nI_pos' (by omega))]
                  exact rest false (key false (by rw [ox, oh]; simp))
            · rw [if_pos em]
              exact rest false (key false (by simp [em]))
theorem p_isOdd (hF : SF nf fam bit np P nl fl T nr ru sa) (hM : MC M nf fam bit np P nl fl T nr sa) {d p h : Nat} {po : Nat → Bool} (hd : d < 4097) (hB : PB M d nr po) (hp : p < tQ T) (h24 : M.1 24 d = nI p) (hh : h < np) (k3 : pK (P h) = 3) (t3 : (tH T p).1 = 3) : ∃ b, f_Mod_isOdd M (nI d) (nI h) = some (bI b) ∧ (b = true ↔ odR T P po p h nr) := by
  unfold f_Mod_isOdd
  have hn := hF.2.2.2.2.2.2
  exact p_isOdd_L hF hM hd hB hp h24 hh k3 t3 zbig 0 false (by omega) (by unfold zbig; omega) ⟨(by intro q; cases q), (by rintro ⟨r, q, a, _⟩; omega)⟩
/-- patterns of one kind, sort, number: both have an argument or none has, names aside -/
theorem arg_same (hW : PWF nf fam bit np P nl fl) {q h : Nat} (hq : q < np) (hh : h < np) (e : (pK (P q), pS (P q)) = (pK (P h), pS (P h))) (em : pM (P q) = pM (P h)) (k1 : 1 ≤ pK (P q)) (k2 : pK (P q) ≤ 2) : (pO (P q)).isSome = (pO (P h)).isSome := by
  have hw := hW.2.2.2.2
  have eK : pK (P q) = pK (P h) := (Prod.mk.inj e).1
  have eS : pS (P q) = pS (P h) := (Prod.mk.inj e).2
  by_cases c : pK (P q) = 1
  · rw [(hw q hq).2.2.2.1 (Or.inr (Or.inl c)), (hw h hh).2.2.2.1 (Or.inr (Or.inl (eK ▸ c)))]
  · obtain ⟨f, t, g1, g2, g3, g4, g5⟩ := (hw q hq).2.2.2.2.2.2.2.2.2.2.2.2.2.1 (by omega)
    obtain ⟨f', t', i1, i2, i3, i4, i5⟩ := (hw h hh).2.2.2.2.2.2.2.2.2.2.2.2.2.1 (by omega)
    have hf := hW.2.2.1 f g3
    have hf' := hW.2.2.1 f' i3
    have hnf := hW.2.2.2.1
    have e1 : f = f' := by rw [g1, i1] at eS; exact (nI_eq (by omega) (by omega)).mp eS
    have e2 : t = t' := by rw [g2, i2] at em; exact (nI_eq (by omega) (by omega)).mp em
    rw [g5, i5, e1, e2]
/-- the way down to the part that a node looks at agrees with the value -/
theorem gq_node (hF : SF nf fam bit np P nl fl T nr ru sa) (hT : TI T P nr sa fam A) {v p : Nat} (hv : v < aN A) (hp : aP A v = some p) (hK : KWv T P fl val nr (aO A v) (aW A v)) : p < tQ T ∧ gq T (agr P fl T val) p := by
  obtain ⟨r0, k0, e1, e2, e3, e4, e5⟩ := look_inner hT hv hp
  obtain ⟨c1, c2, c3, c4⟩ := e4
  obtain ⟨d1, d2, d3, d4⟩ := e5
  have hsx := (SI_sx hF.2.2.1 c2).2
  have hk0 : k0 < tA T := by omega
  obtain ⟨a1, a2, a3, a4, a5, a6⟩ := hF.2.1.2.2.1 k0 hk0
  have hr0 : (tK T k0).1 = r0 := (SI_in hF.2.2.1 c2 hk0 a1).mpr ⟨d1, d2⟩
  rw [hr0, e3] at a3 a6
  rw [e3] at a2
  refine ⟨a2, chn_gq hF (fun c q x h1 h2 o1 o2 o3 o4 => ?_) (p + 1) p (by omega) a2 a6 ⟨_, a3⟩⟩
  have hu := hF.2.1.1.2.1 c h1 h2
  have hsub : sub P fl q (tL T c) = some x := by rw [← o4]; exact (oc_sub hF.2.1.1 h1 h2 o1).symm
  have hq := oc_lt hF.2.1.1 hF.1 (hF.2.2.2.1 r0 c2) _ _ _ (Nat.lt_succ_self _) (show tU T c < tQ T by omega) o1
  have hwq := hF.1.2.2.2.2 q hq
  refine ⟨fun n hn ht => ?_, fun hn4 q' hq' => ?_⟩
  · rw [o2] at ht
    have k4 : pK (P q) = 4 := (Prod.mk.inj ht).1
    have s4 : pS (P q) = nI n := (Prod.mk.inj ht).2
    unfold sub at hsub
    rw [if_pos k4] at hsub
    obtain ⟨j, j1, j2, j3⟩ := subF_ok hsub
    obtain ⟨f1, f2, m, m1, m2, m3⟩ := hwq.2.2.2.2.2.2.2.2.2.2.1 j j1
    have : m = n := by rw [m2] at s4; exact (nI_eq (by omega) (by omega)).mp s4
    exact ⟨_, by omega, j2.symm⟩
  · rw [o2] at hn4
    rcases o3 with o3 | ⟨k', k1, k2⟩
    · exact absurd o3 hn4
    · have hk' : k' < tA T := by omega
      have hin := (SI_in hF.2.2.1 c2 hk' (by rw [k2]; exact c2)).mp (by rw [k2])
      have hW := d4 k' hin.1 k1
      rw [k2] at hW
      obtain ⟨q1, g1, g2, g3⟩ := hK (tU T c) hW
      rw [hq'] at g1
      cases g1
      have hak := ak_at hF.2.1.2.2.2.1 hk'
      rw [k2] at hak
      have := g3 r0 q c2 c3 hak
      refine ⟨g2, ?_⟩
      rw [← this]
      unfold sub at hsub
      rw [if_neg hn4] at hsub
      by_cases em : pM (P q) = tL T c
      · exact em
      · rw [if_neg em] at hsub; cases hsub
theorem KW_kid {v w p h : Nat} {lab : Option Int32} (hO : ∀ r, r < nr → aO A w r = nar T P (aO A v) p lab r) (hW : aW A w = p :: aW A v) (hK : KWv T P fl val nr (aO A v) (aW A v)) (hh : vc P fl T val p = some h) (hs : (pK (P h), pS (P h)) = tH T p) (hl : ∀ x, lab = some x → x = pM (P h)) : KWv T P fl val nr (aO A w) (aW A w) := by
  intro u hu
  rw [hW] at hu
  rcases List.mem_cons.mp hu with e | e
  · subst e
    refine ⟨h, hh, hs, fun r qr hr hpo ha => ?_⟩
    rw [hO r hr] at hpo
    unfold nar at hpo
    rw [ha] at hpo
    cases lab with
    | none => simp at hpo
    | some x =>
      rw [← hl x rfl]
      simp at hpo
      exact hpo.2
  · obtain ⟨q, g1, g2, g3⟩ := hK u e
    refine ⟨q, g1, g2, fun r qr hr hpo ha => g3 r qr hr ?_ ha⟩
    rw [hO r hr] at hpo
    unfold nar at hpo
    rw [Bool.and_eq_true] at hpo
    exact hpo.1
end POD
