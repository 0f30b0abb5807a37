-- PURE LAYER: the reference's example, branches, others
section POT
variable {M : zM} {T : Tr} {nr : Nat} {sa : Nat → Nat} {nf : Nat} {fam : Nat → Nat} {bit : Nat → Int64} {np : Nat} {P : Nat → Pt} {nl : Nat} {fl : Nat → Nat × Nat} {ru : Nat → Nat}
theorem p_example_L (hF : SF nf fam bit np P nl fl T nr ru sa) (hM : MC M nf fam bit np P nl fl T nr sa) {d p : Nat} {po : Nat → Bool} (hd : d < 4097) (hB : PB M d nr po) (hp : p < tQ T) (h24 : M.1 24 d = nI p) : ∀ n i, i ≤ nr → nr - i + 1 < n → ∃ o, f_Mod_example_L4 n M (nI d) (-1) (nI i) = some (oI o) ∧ (∀ q, o = some q → ∃ r, i ≤ r ∧ r < nr ∧ po r = true ∧ ak T r p = some q) ∧ (o = none → ∀ r, i ≤ r → r < nr → po r = true → ak T r p = none) := by
  have hn := hF.2.2.2.2.2.2
  have hnp := hF.1.1
  intro n
  induction n with
  | zero => intro i _ h; omega
  | succ n ih =>
    intro i hi hlt
    unfold f_Mod_example_L4
    rw [hM.2.2.1]
    by_cases c : i = nr
    · rw [if_pos (by (simp (disch := omega) only [nI_1, nI_add, Int32.lt_iff_toInt_lt, Int32.le_iff_toInt_le, ← Int32.toInt_inj, nI_toInt, tI_0, tI_1, tI_2, tI_3, tI_4, tI_m1, tI_m2, tI_m3, tI_m4, tI_64, tI_128, tI_255, tI_256, tI_1000, tI_1024, tI_4096, tI_10000, tI_16384, tI_16386, tI_M]; omega))]
      exact ⟨none, rfl, (by intro q e; cases e), fun _ r h1 h2 => by omega⟩
    · have hi' : i < nr := by omega
      rw [if_neg (by (simp (disch := omega) only [nI_1, nI_add, Int32.lt_iff_toInt_lt, Int32.le_iff_toInt_le, ← Int32.toInt_inj, nI_toInt, tI_0, tI_1, tI_2, tI_3, tI_4, tI_m1, tI_m2, tI_m3, tI_m4, tI_64, tI_128, tI_255, tI_256, tI_1000, tI_1024, tI_4096, tI_10000, tI_16384, tI_16386, tI_M]; omega)), if_neg (by decide), PB_isP hB (by omega) (by omega) hi', zob_s, nI_1]
      have rest : (po i = true → ak T i p = none) → ∃ o, f_Mod_example_L4 n M (nI d) (-1) (nI (i + 1)) = some (oI o) ∧ (∀ q, o = some q → ∃ r, i ≤ r ∧ r < nr ∧ po r = true ∧ ak T r p = some q) ∧ (o = none → ∀ r, i ≤ r → r < nr → po r = true → ak T r p = none) := by
        intro hno
        obtain ⟨o, e1, e2, e3⟩ := ih (i + 1) (by omega) (by omega)
        refine ⟨o, e1, fun q eq => ?_, fun eo r h1 h2 hp => ?_⟩
        · obtain ⟨r, a, b⟩ := e2 q eq
          exact ⟨r, by omega, b⟩
        · by_cases w : r = i
          · subst w; exact hno hp
          · exact e3 eo r (by omega) h2 hp
      cases b : po i with
      | false =>
        rw [if_pos (by rfl)]
        exact rest (fun h => by rw [b] at h; cases h)
      | true =>
        rw [if_neg (by decide), m_rd_n (by omega) (by omega), h24, p_asked' hF hM hi' hp, zob_s]
        cases q : ak T i p with
        | none => exact rest (fun _ => q)
        | some x =>
          have hx := (SF_ak hF q).2.2.1
          cases n with
          | zero => omega
          | succ n =>
            unfold f_Mod_example_L4
            rw [hM.2.2.1, oI_s]
            refine ⟨some x, ?_, fun y e => ⟨i, Nat.le_refl _, hi', b, by cases e; exact q⟩, fun e => by cases e⟩
            by_cases w : nI nr ≤ nI (i + 1)
            · rw [if_pos w]; rfl
            · rw [if_neg w, if_pos (nI_pos' (by omega))]; rfl
theorem p_example (hF : SF nf fam bit np P nl fl T nr ru sa) (hM : MC M nf fam bit np P nl fl T nr sa) {d p : Nat} {po : Nat → Bool} (hd : d < 4097) (hB : PB M d nr po) (hp : p < tQ T) (h24 : M.1 24 d = nI p) (hne : ∃ x, nuR T P po p nr x) : ∃ q r, f_Mod_example M (nI d) = some (nI q) ∧ r < nr ∧ po r = true ∧ ak T r p = some q := by
  have hn := hF.2.2.2.2.2.2
  unfold f_Mod_example
  obtain ⟨o, e1, e2, e3⟩ := p_example_L hF hM hd hB hp h24 zbig 0 (by omega) (by unfold zbig; omega)
  cases o with
  | none =>
    obtain ⟨x, r, q, h1, h2, h3, h4⟩ := hne
    have := e3 rfl r (by omega) h1 h2
    rw [h3] at this; cases this
  | some q =>
    obtain ⟨r, a, b, c, d⟩ := e2 q rfl
    exact ⟨q, r, e1, b, c, d⟩
theorem p_branches_L (hF : SF nf fam bit np P nl fl T nr ru sa) (hM : MC M nf fam bit np P nl fl T nr sa) {d p : Nat} {po : Nat → Bool} (hd : d < 4097) (hB : PB M d nr po) (hp : p < tQ T) (h24 : M.1 24 d = nI p) {ls : List Int32} (hs : ls.Pairwise (· < ·)) (hm : ∀ x, x ∈ ls ↔ nuR T P po p nr x) : ∀ (l2 l1 : List Int32) (n : Nat), ls = l1 ++ l2 → l2.length < n → l1.length + l2.length < 100000 → f_Mod_branches_L11 n M (nI d) (nI l1.length) (nxI l2.head?) = some (nI ls.length) := by
  intro l2
  induction l2 with
  | nil =>
    intro l1 n e hn hl
    cases n with
    | zero => simp at hn
    | succ n =>
      unfold f_Mod_branches_L11
      rw [if_pos (by decide), e]; simp
  | cons x l2 ih =>
    intro l1 n e hn hl
    cases n with
    | zero => simp at hn
    | succ n =>
      unfold f_Mod_branches_L11
      have b := tI_lt x
      have c0 : ¬ 0 ≤ lg_cmp (nxI (x :: l2).head?) 4294967296 := by
        rw [lg_ge0]
        show ¬ (4294967296 : Int64).toInt ≤ x.toInt64.toInt
        rw [Int32.toInt_toInt64, show (4294967296 : Int64).toInt = 4294967296 from rfl]
        omega
      rw [if_neg c0]
      obtain ⟨o, e1, e2⟩ := p_nextNumber hF hM hd hB hp h24 (some x)
      rw [show f_Mod_nextNumber M (nI d) (nxI (x :: l2).head?) = some (nxI o) from e1, zob_s, nI_1]
      rw [e] at hs
      obtain ⟨s1, s2, s3⟩ := List.pairwise_append.mp hs
      obtain ⟨s4, s5⟩ := List.pairwise_cons.mp s2
      have ho : o = l2.head? := by
        refine isNx_one e2 ?_
        cases l2 with
        | nil =>
          intro y hy ha
          have my := (hm y).mpr hy
          rw [e] at my
          have hlt := ha x rfl
          rcases List.mem_append.mp my with w | w
          · exact i32_irr (i32_tr (s3 y w x List.mem_cons_self) hlt)
          · have : y = x := by simpa using w
            rw [this] at hlt; exact i32_irr hlt
        | cons z l2 =>
          refine ⟨(hm z).mp (by rw [e]; simp), fun l el => by cases el; exact s4 z List.mem_cons_self, fun y hy ha => ?_⟩
          have my := (hm y).mpr hy
          rw [e] at my
          have hlt := ha x rfl
          rcases List.mem_append.mp my with w | w
          · exact absurd (i32_tr (s3 y w x List.mem_cons_self) hlt) i32_irr
          · rcases List.mem_cons.mp w with w | w
            · rw [w] at hlt; exact absurd hlt i32_irr
            · rcases List.mem_cons.mp w with w | w
              · rw [w, Int32.le_iff_toInt_le]; omega
              · have := (List.pairwise_cons.mp s5).1 y w
                rw [Int32.lt_iff_toInt_lt] at this
                rw [Int32.le_iff_toInt_le]; omega
      rw [ho]
      have := ih (l1 ++ [x]) n (by rw [e]; simp) (by simp at hn; omega) (by simp at hl ⊢; omega)
      rw [show (l1 ++ [x]).length = l1.length + 1 by simp] at this
      exact this
theorem p_branches (hF : SF nf fam bit np P nl fl T nr ru sa) (hM : MC M nf fam bit np P nl fl T nr sa) {d p : Nat} {po : Nat → Bool} (hd : d < 4097) (hB : PB M d nr po) (hp : p < tQ T) (h24 : M.1 24 d = nI p) {ls : List Int32} (hs : ls.Pairwise (· < ·)) (hm : ∀ x, x ∈ ls ↔ nuR T P po p nr x) (hl : ls.length < 100000) : f_Mod_branches M (nI d) = some (nI ls.length) := by
  unfold f_Mod_branches
  obtain ⟨o, e1, e2⟩ := p_nextNumber hF hM hd hB hp h24 none
  rw [show f_Mod_nextNumber M (nI d) (-4294967296) = some (nxI o) from e1, zob_s]
  have ho : o = ls.head? := by
    refine isNx_one e2 ?_
    cases ls with
    | nil => intro y hy; have := (hm y).mpr hy; cases this
    | cons z ls =>
      refine ⟨(hm z).mp List.mem_cons_self, (by intro l el; cases el), fun y hy _ => ?_⟩
      rcases List.mem_cons.mp ((hm y).mpr hy) with w | w
      · rw [w, Int32.le_iff_toInt_le]; omega
      · have := (List.pairwise_cons.mp hs).1 y w
        rw [Int32.lt_iff_toInt_lt] at this
        rw [Int32.le_iff_toInt_le]; omega
  rw [ho]
  exact p_branches_L hF hM hd hB hp h24 hs hm ls [] zbig rfl (by unfold zbig; omega) (by simp; omega)
/-- how many branches a part has at most -/
def allOf (fam : Nat → Nat) (x : Nat × Int32) : Nat := if x.1 = 2 then fam x.2.toNatClampNeg else if x.1 = 1 ∧ x.2 = 2 then 256 else 1000
theorem p_hasOthers (hF : SF nf fam bit np P nl fl T nr ru sa) (hM : MC M nf fam bit np P nl fl T nr sa) {d p : Nat} {po : Nat → Bool} (hd : d < 4097) (hB : PB M d nr po) (hp : p < tQ T) (h24 : M.1 24 d = nI p) (hne : ∃ x, nuR T P po p nr x) {ls : List Int32} (hs : ls.Pairwise (· < ·)) (hm : ∀ x, x ∈ ls ↔ nuR T P po p nr x) (hl : ls.length < 100000) : f_Mod_hasOthers M (nI d) = some (bI (decide (ls.length < allOf fam (tH T p)))) := by
  have hnp := hF.1.1
  obtain ⟨q, r, e1, hr, hpo, ea⟩ := p_example hF hM hd hB hp h24 hne
  obtain ⟨-, -, hq, k1, k3, eh, -⟩ := SF_ak hF ea
  have hw := hF.1.2.2.2.2 q hq
  have eb := p_branches hF hM hd hB hp h24 hs hm hl
  have fin : ∀ a : Nat, a < 200000 → (if nI a ≤ nI ls.length then some (0 : Int32) else some 1) = some (bI (decide (ls.length < a))) := by
    intro a ha
    by_cases c : ls.length < a
    · rw [if_neg (nI_ge c (by omega)), decide_eq_true c]; rfl
    · rw [if_pos (nI_le (by omega) (by omega)), decide_eq_false c]; rfl
  unfold f_Mod_hasOthers
  rw [e1, zob_s, m_rd_n (by omega) (by omega), gK hM.1 hq, eh]
  unfold allOf
  by_cases e2 : pK (P q) = 2
  · obtain ⟨f, t, g1, g2, g3, g4, g5⟩ := hw.2.2.2.2.2.2.2.2.2.2.2.2.2.1 e2
    have hf := hF.1.2.2.1 f g3
    have hfn := hF.1.2.2.2.1
    rw [if_neg (by rw [e2]; decide), m_rd_n (by omega) (by omega), gFn hM.1 hq (by omega), g1, m_rd_n (by omega) (by omega), (hM.2.2.2.2 f g3).1, eb, zob_s, if_pos (show (pK (P q), pS (P q)).1 = 2 from e2)]
    have ecl : (pK (P q), nI f).2.toNatClampNeg = f := nI_clamp (by omega)
    rw [ecl]
    exact fin _ (by omega)
  · rw [if_pos (by (simp (disch := omega) only [nI_1, nI_add, Int32.lt_iff_toInt_lt, Int32.le_iff_toInt_le, ← Int32.toInt_inj, nI_toInt, tI_0, tI_1, tI_2, tI_3, tI_4, tI_m1, tI_m2, tI_m3, tI_m4, tI_64, tI_128, tI_255, tI_256, tI_1000, tI_1024, tI_4096, tI_10000, tI_16384, tI_16386, tI_M]; omega)), m_rd_n (by omega) (by omega), gK hM.1 hq, if_neg (show ¬ (pK (P q), pS (P q)).1 = 2 from e2)]
    by_cases e3 : pK (P q) = 1
    · rw [if_neg (by rw [e3]; decide), m_rd_n (by omega) (by omega), gFn hM.1 hq (by omega)]
      by_cases e4 : pS (P q) = 2
      · rw [if_neg (by simp [e4]), eb, zob_s, if_pos (show (pK (P q), pS (P q)).1 = 1 ∧ (pK (P q), pS (P q)).2 = 2 from ⟨e3, e4⟩)]
        exact fin 256 (by omega)
      · rw [if_pos e4, eb, zob_s, if_neg (show ¬ ((pK (P q), pS (P q)).1 = 1 ∧ (pK (P q), pS (P q)).2 = 2) from fun y => e4 y.2)]
        exact fin 1000 (by omega)
    · rw [if_pos (by (simp (disch := omega) only [nI_1, nI_add, Int32.lt_iff_toInt_lt, Int32.le_iff_toInt_le, ← Int32.toInt_inj, nI_toInt, tI_0, tI_1, tI_2, tI_3, tI_4, tI_m1, tI_m2, tI_m3, tI_m4, tI_64, tI_128, tI_255, tI_256, tI_1000, tI_1024, tI_4096, tI_10000, tI_16384, tI_16386, tI_M]; omega)), eb, zob_s, if_neg (show ¬ ((pK (P q), pS (P q)).1 = 1 ∧ (pK (P q), pS (P q)).2 = 2) from fun y => e3 y.1)]
      exact fin 1000 (by omega)
/-- numbers are no more than rules -/
theorem nu_few {po : Nat → Bool} {p : Nat} (hF : SF nf fam bit np P nl fl T nr ru sa) (ls : List Int32) (hd : ls.Nodup) (hm : ∀ x, x ∈ ls → nuR T P po p nr x) : ls.length ≤ nr := by
  have gen : ∀ l : List Int32, l.Nodup → (∀ x, x ∈ l → nuR T P po p nr x) → ∃ rs : List Nat, rs.length = l.length ∧ rs.Nodup ∧ (∀ r, r ∈ rs → r < nr) ∧ ∀ r, r ∈ rs → ∃ q, ak T r p = some q ∧ pM (P q) ∈ l := by
    intro l
    induction l with
    | nil => intro _ _; exact ⟨[], rfl, List.nodup_nil, (by intro r hr; cases hr), (by intro r hr; cases hr)⟩
    | cons x l ih =>
      intro hn hx
      obtain ⟨n1, n2⟩ := List.nodup_cons.mp hn
      obtain ⟨rs, a1, a2, a3, a4⟩ := ih n2 (fun y hy => hx y (List.mem_cons_of_mem _ hy))
      obtain ⟨r, q, b1, b2, b3, b4⟩ := hx x List.mem_cons_self
      refine ⟨r :: rs, by simp [a1], List.nodup_cons.mpr ⟨fun m => ?_, a2⟩, fun r' h => ?_, fun r' h => ?_⟩
      · obtain ⟨q', c1, c2⟩ := a4 r m
        rw [b3] at c1; cases c1
        rw [b4] at c2; exact n1 c2
      · rcases List.mem_cons.mp h with w | w
        · rw [w]; exact b1
        · exact a3 r' w
      · rcases List.mem_cons.mp h with w | w
        · rw [w]; exact ⟨q, b3, by rw [b4]; exact List.mem_cons_self⟩
        · obtain ⟨q', c1, c2⟩ := a4 r' w
          exact ⟨q', c1, List.mem_cons_of_mem _ c2⟩
  obtain ⟨rs, a1, a2, a3, -⟩ := gen ls hd hm
  rw [← a1]
  exact nodup_len nr rs a2 a3
theorem range_nodup {n : Nat} (hn : n < 2 ^ 31) : ((List.range n).map nI).Nodup := by
  refine List.pairwise_iff_getElem.mpr (fun i j hi hj hij => ?_)
  simp at hi hj
  simp only [List.getElem_map, List.getElem_range]
  rw [ne_eq, nI_eq (by omega) (by omega)]
  omega
/-- the least number that isn't asked for -/
def isLo (nu : Int32 → Prop) (n : Nat) : Prop := ¬ nu (nI n) ∧ ∀ i, i < n → nu (nI i)
theorem isLo_one {nu : Int32 → Prop} {n m : Nat} (h : isLo nu n) (h' : isLo nu m) : n = m := by
  rcases Nat.lt_trichotomy n m with c | c | c
  · exact absurd (h'.2 n c) h.1
  · exact c
  · exact absurd (h.2 m c) h'.1
theorem isLo_b {po : Nat → Bool} {p n : Nat} (hF : SF nf fam bit np P nl fl T nr ru sa) (hn : n < 2 ^ 31) (h : ∀ i, i < n → nuR T P po p nr (nI i)) : n ≤ nr := by
  have := nu_few hF ((List.range n).map nI) (range_nodup hn) (fun x hx => by
    obtain ⟨i, hi, e⟩ := List.mem_map.mp hx
    rw [← e]; exact h i (List.mem_range.mp hi))
  simpa using this
theorem p_leastOther_L (hF : SF nf fam bit np P nl fl T nr ru sa) (hM : MC M nf fam bit np P nl fl T nr sa) {d p : Nat} {po : Nat → Bool} (hd : d < 4097) (hB : PB M d nr po) (hp : p < tQ T) (h24 : M.1 24 d = nI p) : ∀ n k, k ≤ nr + 1 → nr + 3 - k < n → (∀ i, i < k → nuR T P po p nr (nI i)) → ∃ m, f_Mod_leastOther_L4 n M (nI d) (nI k) 1 = some (nI m) ∧ m ≤ nr ∧ isLo (nuR T P po p nr) m := by
  have hn := hF.2.2.2.2.2.2
  intro n
  induction n with
  | zero => intro k _ h; omega
  | succ n ih =>
    intro k hk hlt hall
    have hkn := isLo_b hF (by omega) hall
    unfold f_Mod_leastOther_L4
    rw [if_neg (by decide)]
    have el : (nI k).toInt64 - 1 = lastI (some (nI k + (-1))) := by
      show (nI k).toInt64 - 1 = (nI k + (-1)).toInt64
      apply Int64.toInt_inj.mp
      cases k with
      | zero => rfl
      | succ k =>
        rw [pk_m1, Int32.toInt_toInt64, nI_l (by omega)]
        have : lN (k + 1) - 1 = lN k := by
          have h := lN_sub (a := k + 1) (b := 1) (by omega)
          exact h
        rw [this, lN_toInt (by omega), nI_toInt (by omega)]
    rw [el]
    obtain ⟨o, e1, e2⟩ := p_nextNumber hF hM hd hB hp h24 (some (nI k + (-1)))
    rw [e1, zob_s]
    have haft : aft (some (nI k + (-1))) (nI k) := fun l e => by
      have e' : nI k + (-1) = l := Option.some.inj e
      rw [← e']; exact nI_dn k (by omega)
    have hmin : ∀ y, aft (some (nI k + (-1))) y → nI k ≤ y := fun y hy => by
      have := hy _ rfl
      rw [Int32.lt_iff_toInt_lt] at this
      rw [Int32.le_iff_toInt_le]
      have e : (nI k + (-1)).toInt = (k : Int) - 1 := by
        cases k with
        | zero => rfl
        | succ k => rw [pk_m1, nI_toInt (by omega)]; omega
      rw [e] at this
      rw [nI_toInt (by omega)]; omega
    by_cases c : nuR T P po p nr (nI k)
    · have ho : o = some (nI k) := isNx_one e2 ⟨c, haft, fun y _ hy => hmin y hy⟩
      have hz : lg_cmp (nxI (some (nI k))) (nI k).toInt64 = 0 := (lgc1 _ _).mpr rfl
      rw [ho, if_neg (fun y => y hz), zbind_e, nI_1]
      have hall' : ∀ i, i < k + 1 → nuR T P po p nr (nI i) := fun i hi => by
        by_cases w : i = k
        · rw [w]; exact c
        · exact hall i (by omega)
      have := isLo_b hF (by omega) hall'
      exact ih (k + 1) (by omega) (by omega) hall'
    · have ho : o ≠ some (nI k) := fun e => by rw [e] at e2; exact c e2.1
      have hc : ¬ lg_cmp (nxI o) (nI k).toInt64 = 0 := fun q => by
        have := (lgc1 _ _).mp q
        cases o with
        | none =>
          have := congrArg Int64.toInt this
          rw [Int32.toInt_toInt64, nI_toInt (by omega)] at this
          have this : (4294967296 : Int) = k := this
          omega
        | some y => exact ho (by rw [i64_inj this])
      rw [if_pos hc]
      cases n with
      | zero => omega
      | succ n =>
        unfold f_Mod_leastOther_L4
        rw [if_pos rfl]
        exact ⟨k, rfl, hkn, c, hall⟩
theorem p_leastOther (hF : SF nf fam bit np P nl fl T nr ru sa) (hM : MC M nf fam bit np P nl fl T nr sa) {d p : Nat} {po : Nat → Bool} (hd : d < 4097) (hB : PB M d nr po) (hp : p < tQ T) (h24 : M.1 24 d = nI p) : ∃ m, f_Mod_leastOther M (nI d) = some (nI m) ∧ m ≤ nr ∧ isLo (nuR T P po p nr) m := by
  have hn := hF.2.2.2.2.2.2
  unfold f_Mod_leastOther
  exact p_leastOther_L hF hM hd hB hp h24 zbig 0 (by omega) (by unfold zbig; omega) (fun i hi => by omega)
end POT
