-- PURE LAYER: the class's Pairs, the loop
section PHD
variable {nf : Nat} {fam : Nat → Nat} {bit : Nat → Int64} {np : Nat} {P : Nat → Pt} {nl : Nat} {fl : Nat → Nat × Nat} {S : zS}
theorem oI_bd {i : Nat} (hn : np ≤ 16384) (hi : i < np) (h : pwf nf fam bit P nl fl i) : ∀ n, pO (P i) = some n → n < 2 ^ 31 := fun n e => by have := (pwO h e).1; omega
theorem p_putInner {a b : Nat} (hn : np ≤ 16384) (hl : nl ≤ 16384) (ha : a < np) (hb : b < np) (hwa : pwf nf fam bit P nl fl a) (hwb : pwf nf fam bit P nl fl b) (h : PC S np P nl fl) (ho : okS S) (hlen : (S.1 11).length < 59000) (hk : pK (P a) = pK (P b)) : ∃ S' v, f_Pai_putInner S (nI a) (nI b) = some (S', v) ∧ zLike [11] S S' ∧ (((pO (P a)).isSome = (pO (P b)).isSome ∧ v = 1 ∧ S'.1 11 = S.1 11 ++ enc (kk P fl a b)) ∨ (¬ (pO (P a)).isSome = (pO (P b)).isSome ∧ v = 0)) := by
  have hKa := pwK hwa
  unfold f_Pai_putInner
  rw [cK h hn ha]
  by_cases e4 : pK (P a) = 4
  · rw [if_neg (by rw [e4]; decide)]
    obtain ⟨S1, e1, l1, r1⟩ := p_putFields hn hl ha hb hwa hwb h ho hlen
    rw [e1]
    refine ⟨S1, 1, rfl, l1, Or.inl ⟨?_, rfl, ?_⟩⟩
    · rw [pwN hwa (Or.inr (Or.inr e4)), pwN hwb (Or.inr (Or.inr (hk ▸ e4)))]
    · rw [r1]; unfold kk; rw [if_pos e4]
  · rw [if_pos (by (simp (disch := omega) only [nI_1, nI_add, Int32.lt_iff_toInt_lt, Int32.le_iff_toInt_le, ← Int32.toInt_inj, nI_toInt, tI_0, tI_1, tI_2, tI_3, tI_4, tI_m1, tI_m2, tI_m3, tI_m4, tI_64, tI_128, tI_255, tI_256, tI_1000, tI_1024, tI_4096, tI_10000, tI_16384, tI_16386, tI_M]; omega))]
    rw [zbind_e, zbind_e, cArg h hn ha hwa, cArg h hn hb hwb]
    cases ea : pO (P a) with
    | none =>
      rw [if_pos (by rfl)]
      cases eb : pO (P b) with
      | none =>
        rw [if_neg (by simp)]
        exact ⟨S, 1, rfl, zLike_rf ho, Or.inl ⟨rfl, rfl, by unfold kk; rw [if_neg e4, ea]; simp [enc]⟩⟩
      | some y =>
        have := (pwO hwb eb).1
        rw [if_pos (by unfold oI; exact Ne.symm (nI_m1 (by omega)))]
        exact ⟨S, 0, rfl, zLike_rf ho, Or.inr ⟨by simp, rfl⟩⟩
    | some x =>
      have hx := (pwO hwa ea).1
      rw [if_neg (by unfold oI; exact nI_m1 (by omega))]
      cases eb : pO (P b) with
      | none =>
        rw [if_neg (by simp [oI]), if_pos (by unfold oI; exact nI_m1 (by omega))]
        exact ⟨S, 0, rfl, zLike_rf ho, Or.inr ⟨by simp, rfl⟩⟩
      | some y =>
        have hy := (pwO hwb eb).1
        rw [if_pos (by unfold oI; exact nI_m1 (by omega))]
        obtain ⟨S0, v0, S1, v1, e0, e1, l0, l1, r1⟩ := p_two (S := S) (oI (some x)) (oI (some y)) ho (by omega)
        rw [e0, zbind2_e, e1, zbind2_e]
        refine ⟨S1, 1, rfl, l1, Or.inl ⟨rfl, rfl, ?_⟩⟩
        rw [r1]; unfold kk; rw [if_neg e4, ea, eb]; rfl
theorem p_sameSort {a b : Nat} (hn : np ≤ 16384) (ha : a < np) (hb : b < np) (hwa : pwf nf fam bit P nl fl a) (hwb : pwf nf fam bit P nl fl b) (h : PC S np P nl fl) : (f_Pai_sameSort S (nI a) (nI b) = 1 ∧ pK (P a) = pK (P b) ∧ pS (P a) = pS (P b)) ∨ (f_Pai_sameSort S (nI a) (nI b) = 0 ∧ ¬ (pK (P a) = pK (P b) ∧ pS (P a) = pS (P b))) := by
  have hKa := pwK hwa
  have hKb := pwK hwb
  unfold f_Pai_sameSort
  rw [cK h hn ha, cK h hn hb, cS h hn ha, cS h hn hb]
  by_cases e : pK (P a) = pK (P b)
  · rw [e, if_neg (by simp)]
    by_cases d : pS (P a) = pS (P b)
    · rw [if_neg (by simp [d])]; exact Or.inl ⟨rfl, rfl, d⟩
    · rw [if_pos d]; exact Or.inr ⟨rfl, fun q => d q.2⟩
  · rw [if_pos (by (simp (disch := omega) only [nI_1, nI_add, Int32.lt_iff_toInt_lt, Int32.le_iff_toInt_le, ← Int32.toInt_inj, nI_toInt, tI_0, tI_1, tI_2, tI_3, tI_4, tI_m1, tI_m2, tI_m3, tI_m4, tI_64, tI_128, tI_255, tI_256, tI_1000, tI_1024, tI_4096, tI_10000, tI_16384, tI_16386, tI_M]; omega))]; exact Or.inr ⟨rfl, fun q => e q.1⟩
/-- what one step of the loop does with a pair -/
def hHere (S : zS) (x3 a b : Int32) : Option (zS × Int32) :=
  if (f_Pat_shape S a) = 0 then
    some (S, 1)
  else
    if ¬ (f_Pat_shape S b) = 0 then
      if ¬ (f_Pat_mark S a) = (f_Pat_mark S b) then
        if (f_Pai_sameSort S a b) = 0 then
          some (S, 0)
        else
          if ¬ x3 = 0 then
            some (S, 0)
          else
            some (S, 1)
      else
        if (f_Pai_sameSort S a b) = 0 then
          some (S, 0)
        else
          zob2 (f_Pai_putInner S a b) fun S' v =>
          if v = 0 then
            some (S', 0)
          else
            some (S', 1)
    else
      some (S, 1)
theorem hHere_k (x3 a b : Int32) (k : zS → Int32 → Option (zS × Int32)) : zob2 (hHere S x3 a b) k = (if (f_Pat_shape S a) = 0 then k S 1 else if ¬ (f_Pat_shape S b) = 0 then (if ¬ (f_Pat_mark S a) = (f_Pat_mark S b) then (if (f_Pai_sameSort S a b) = 0 then k S 0 else if ¬ x3 = 0 then k S 0 else k S 1) else if (f_Pai_sameSort S a b) = 0 then k S 0 else zob2 (f_Pai_putInner S a b) fun S' v => if v = 0 then k S' 0 else k S' 1) else k S 1) := by
  unfold hHere
  by_cases h1 : f_Pat_shape S a = 0
  · rw [if_pos h1, if_pos h1]; rfl
  · rw [if_neg h1, if_neg h1]
    by_cases h2 : f_Pat_shape S b = 0
    · rw [if_neg (not_not_intro h2), if_neg (not_not_intro h2)]; rfl
    · rw [if_pos h2, if_pos h2]
      by_cases h3 : f_Pat_mark S a = f_Pat_mark S b
      · rw [if_neg (not_not_intro h3), if_neg (not_not_intro h3)]
        by_cases h4 : f_Pai_sameSort S a b = 0
        · rw [if_pos h4, if_pos h4]; rfl
        · rw [if_neg h4, if_neg h4]
          cases f_Pai_putInner S a b with
          | none => rfl
          | some p =>
            obtain ⟨S1, v⟩ := p
            rw [zob2_s, zob2_s]
            by_cases h5 : v = 0
            · rw [if_pos h5, if_pos h5]; rfl
            · rw [if_neg h5, if_neg h5]; rfl
      · rw [if_pos h3, if_pos h3]
        by_cases h4 : f_Pai_sameSort S a b = 0
        · rw [if_pos h4, if_pos h4]; rfl
        · rw [if_neg h4, if_neg h4]
          by_cases h5 : x3 = 0
          · rw [if_neg (not_not_intro h5), if_neg (not_not_intro h5)]; rfl
          · rw [if_pos h5, if_pos h5]; rfl
theorem hold_step {S1 S2 : zS} {x3 x5 a b : Int32} (n : Nat) (hsz : ¬ r_size S 11 ≤ 0) (h5 : ¬ (1000000 : Int32) ≤ x5) (e1 : r_take S 11 = (S1, b)) (e2 : r_take S1 11 = (S2, a)) : f_Pai_hold_L31 (n + 1) S x3 1 x5 = zob2 (hHere S2 x3 a b) fun S' v => f_Pai_hold_L31 n S' x3 v (x5 + 1) := by
  rw [f_Pai_hold_L31, if_neg (by decide), if_neg hsz, if_neg h5, e1, zbind2_e, e2, zbind2_e, hHere_k]
theorem p_goesHere {a b : Nat} (hn : np ≤ 16384) (hl : nl ≤ 16384) (ha : a < np) (hb : b < np) (hwa : pwf nf fam bit P nl fl a) (hwb : pwf nf fam bit P nl fl b) (h : PC S np P nl fl) (ho : okS S) (hlen : (S.1 11).length < 59000) : ∃ S' v, hHere S 0 (nI a) (nI b) = some (S', v) ∧ zLike [11] S S' ∧ ((lokG P a b ∧ v = 1 ∧ S'.1 11 = S.1 11 ++ enc (kidG P fl a b)) ∨ (¬ lokG P a b ∧ v = 0)) := by
  have hKa := pwK hwa
  have hKb := pwK hwb
  unfold hHere
  rw [cK h hn ha, cK h hn hb]
  by_cases e1 : pK (P a) = 0
  · rw [if_pos (by rw [e1]; rfl)]
    exact ⟨S, 1, rfl, zLike_rf ho, Or.inl ⟨Or.inl e1, rfl, by unfold kidG; rw [if_pos (Or.inl e1)]; simp [enc]⟩⟩
  · rw [if_neg (by (simp (disch := omega) only [nI_1, nI_add, Int32.lt_iff_toInt_lt, Int32.le_iff_toInt_le, ← Int32.toInt_inj, nI_toInt, tI_0, tI_1, tI_2, tI_3, tI_4, tI_m1, tI_m2, tI_m3, tI_m4, tI_64, tI_128, tI_255, tI_256, tI_1000, tI_1024, tI_4096, tI_10000, tI_16384, tI_16386, tI_M]; omega))]
    by_cases e2 : pK (P b) = 0
    · rw [if_neg (by rw [e2]; decide)]
      exact ⟨S, 1, rfl, zLike_rf ho, Or.inl ⟨Or.inr (Or.inl e2), rfl, by unfold kidG; rw [if_pos (Or.inr (Or.inl e2))]; simp [enc]⟩⟩
    · rw [if_pos (by (simp (disch := omega) only [nI_1, nI_add, Int32.lt_iff_toInt_lt, Int32.le_iff_toInt_le, ← Int32.toInt_inj, nI_toInt, tI_0, tI_1, tI_2, tI_3, tI_4, tI_m1, tI_m2, tI_m3, tI_m4, tI_64, tI_128, tI_255, tI_256, tI_1000, tI_1024, tI_4096, tI_10000, tI_16384, tI_16386, tI_M]; omega)), cM h hn ha, cM h hn hb]
      by_cases e3 : pM (P a) = pM (P b)
      · rw [if_neg (not_not_intro e3)]
        rcases p_sameSort hn ha hb hwa hwb h with ⟨q1, q2, q3⟩ | ⟨q1, q2⟩
        · rw [q1, if_neg (by decide)]
          obtain ⟨S1, v, z1, z2, z3⟩ := p_putInner hn hl ha hb hwa hwb h ho hlen q2
          rw [z1, zob2_s]
          rcases z3 with ⟨y1, y2, y3⟩ | ⟨y1, y2⟩
          · rw [y2, if_neg (by decide)]
            exact ⟨S1, 1, rfl, z2, Or.inl ⟨Or.inr (Or.inr ⟨q2, q3, fun _ => y1⟩), rfl, by unfold kidG; rw [if_neg (by simp [e1, e2, e3])]; exact y3⟩⟩
          · rw [y2, if_pos rfl]
            exact ⟨S1, 0, rfl, z2, Or.inr ⟨fun q => by
              rcases q with q | q | q
              · exact e1 q
              · exact e2 q
              · exact y1 (q.2.2 e3), rfl⟩⟩
        · rw [q1, if_pos rfl]
          exact ⟨S, 0, rfl, zLike_rf ho, Or.inr ⟨fun q => by
            rcases q with q | q | q
            · exact e1 q
            · exact e2 q
            · exact q2 ⟨q.1, q.2.1⟩, rfl⟩⟩
      · rw [if_pos e3]
        rcases p_sameSort hn ha hb hwa hwb h with ⟨q1, q2, q3⟩ | ⟨q1, q2⟩
        · rw [q1, if_neg (by decide), if_neg (by decide)]
          exact ⟨S, 1, rfl, zLike_rf ho, Or.inl ⟨Or.inr (Or.inr ⟨q2, q3, fun q => absurd q e3⟩), rfl, by unfold kidG; rw [if_pos (Or.inr (Or.inr e3))]; simp [enc]⟩⟩
        · rw [q1, if_pos rfl]
          exact ⟨S, 0, rfl, zLike_rf ho, Or.inr ⟨fun q => by
            rcases q with q | q | q
            · exact e1 q
            · exact e2 q
            · exact q2 ⟨q.1, q.2.1⟩, rfl⟩⟩
/-- matching as the class takes it: ANY on the value's side would match too -/
def lokN (P : Nat → Pt) (a b : Nat) : Prop := pK (P b) = 0 ∨ lokM P a b
def kidN (P : Nat → Pt) (fl : Nat → Nat × Nat) (a b : Nat) : List (Nat × Nat) := if pK (P b) = 0 then [] else kidM P fl a b
theorem kidN_sub {a b : Nat} {q : Nat × Nat} (h : q ∈ kidN P fl a b) : q ∈ kidM P fl a b := by
  unfold kidN at h
  by_cases e : pK (P b) = 0
  · rw [if_pos e] at h; cases h
  · rw [if_neg e] at h; exact h
theorem kidN_pot {a b : Nat} (hwa : pwf nf fam bit P nl fl a) : pot P (kidN P fl a b) + 1 ≤ pZ (P a) := by
  unfold kidN
  by_cases e : pK (P b) = 0
  · rw [if_pos e]; have := (pwZ hwa).1; simp [pot]; omega
  · rw [if_neg e]; exact kidM_pot hwa
theorem fnd_W {b f y : Nat} (hwb : pwf nf fam bit P nl fl b) (hv : pW (P b) = true) : ∀ n, n ≤ pN (P b) → fnd P fl b f n = some y → pW (P y) = true := by
  have hv2 := (hwb.2.2.2.2.2.2.2.2.2.2.2.2.2.2.2.2 hv).2.2
  intro n
  induction n with
  | zero => intro _ h; cases h
  | succ n ih =>
    intro hn h
    rw [fnd] at h
    by_cases c : fN P fl b n = f
    · rw [if_pos c] at h
      cases h
      exact hv2 n (by omega)
    · rw [if_neg c] at h
      exact ih (by omega) h
theorem kkF_W {a b : Nat} {q : Nat × Nat} (hwb : pwf nf fam bit P nl fl b) (hv : pW (P b) = true) : ∀ n, q ∈ kkF P fl a b n → pW (P q.2) = true := by
  intro n
  induction n with
  | zero => intro h; cases h
  | succ n ih =>
    intro h
    rw [kkF] at h
    rcases List.mem_append.mp h with h | h
    · exact ih h
    · cases e : fnd P fl b (fN P fl a n) (pN (P b)) with
      | none => rw [e] at h; cases h
      | some y =>
        rw [e] at h
        have : q = (fP P fl a n, y) := by simpa using h
        rw [this]
        exact fnd_W hwb hv _ (Nat.le_refl _) e
theorem kidM_W {a b : Nat} {q : Nat × Nat} (hwb : pwf nf fam bit P nl fl b) (hv : pW (P b) = true) (h : q ∈ kidM P fl a b) : pW (P q.2) = true := by
  unfold kidM kk at h
  by_cases e : pK (P a) = 0
  · rw [if_pos e] at h; cases h
  · rw [if_neg e] at h
    by_cases e4 : pK (P a) = 4
    · rw [if_pos e4] at h; exact kkF_W hwb hv _ h
    · rw [if_neg e4] at h
      cases ea : pO (P a) with
      | none => rw [ea] at h; cases h
      | some x =>
        cases eb : pO (P b) with
        | none => rw [ea, eb] at h; cases h
        | some y =>
          rw [ea, eb] at h
          have : q = (x, y) := by simpa using h
          rw [this]
          exact (hwb.2.2.2.2.2.2.2.2.2.2.2.2.2.2.2.2 hv).2.1 y eb
theorem hh_NM (hw : ∀ i, i < np → pwf nf fam bit P nl fl i) : ∀ n a b, a < np → b < np → pW (P b) = true → (hh (lokN P) (kidN P fl) n a b ↔ hh (lokM P) (kidM P fl) n a b) := by
  intro n
  induction n with
  | zero => intro a b _ _ _; exact Iff.rfl
  | succ n ih =>
    intro a b ha hb hv
    have h0 : pK (P b) ≠ 0 := ((hw b hb).2.2.2.2.2.2.2.2.2.2.2.2.2.2.2.2 hv).1
    have ek : kidN P fl a b = kidM P fl a b := by unfold kidN; rw [if_neg h0]
    rw [hh, hh, ek]
    have hq : ∀ q, q ∈ kidM P fl a b → (hh (lokN P) (kidN P fl) n q.1 q.2 ↔ hh (lokM P) (kidM P fl) n q.1 q.2) := fun q hq => by
      have := kidM_in (hw a ha) (hw b hb) hq
      exact ih q.1 q.2 (by omega) (by omega) (kidM_W (hw b hb) hv hq)
    constructor
    · rintro ⟨h1, h2⟩
      refine ⟨?_, fun q m => (hq q m).mp (h2 q m)⟩
      rcases h1 with h1 | h1
      · exact absurd h1 h0
      · exact h1
    · rintro ⟨h1, h2⟩
      exact ⟨Or.inr h1, fun q m => (hq q m).mpr (h2 q m)⟩
theorem p_matchesHere {a b : Nat} (hn : np ≤ 16384) (hl : nl ≤ 16384) (ha : a < np) (hb : b < np) (hwa : pwf nf fam bit P nl fl a) (hwb : pwf nf fam bit P nl fl b) (h : PC S np P nl fl) (ho : okS S) (hlen : (S.1 11).length < 59000) : ∃ S' v, hHere S 1 (nI a) (nI b) = some (S', v) ∧ zLike [11] S S' ∧ ((lokN P a b ∧ v = 1 ∧ S'.1 11 = S.1 11 ++ enc (kidN P fl a b)) ∨ (¬ lokN P a b ∧ v = 0)) := by
  have hKa := pwK hwa
  have hKb := pwK hwb
  unfold hHere
  rw [cK h hn ha, cK h hn hb]
  by_cases e1 : pK (P a) = 0
  · rw [if_pos (by rw [e1]; rfl)]
    exact ⟨S, 1, rfl, zLike_rf ho, Or.inl ⟨Or.inr (Or.inl e1), rfl, by unfold kidN kidM; rw [if_pos e1]; simp [enc]⟩⟩
  · rw [if_neg (by (simp (disch := omega) only [nI_1, nI_add, Int32.lt_iff_toInt_lt, Int32.le_iff_toInt_le, ← Int32.toInt_inj, nI_toInt, tI_0, tI_1, tI_2, tI_3, tI_4, tI_m1, tI_m2, tI_m3, tI_m4, tI_64, tI_128, tI_255, tI_256, tI_1000, tI_1024, tI_4096, tI_10000, tI_16384, tI_16386, tI_M]; omega))]
    by_cases e2 : pK (P b) = 0
    · rw [if_neg (by rw [e2]; decide)]
      exact ⟨S, 1, rfl, zLike_rf ho, Or.inl ⟨Or.inl e2, rfl, by unfold kidN; rw [if_pos e2]; simp [enc]⟩⟩
    · rw [if_pos (by (simp (disch := omega) only [nI_1, nI_add, Int32.lt_iff_toInt_lt, Int32.le_iff_toInt_le, ← Int32.toInt_inj, nI_toInt, tI_0, tI_1, tI_2, tI_3, tI_4, tI_m1, tI_m2, tI_m3, tI_m4, tI_64, tI_128, tI_255, tI_256, tI_1000, tI_1024, tI_4096, tI_10000, tI_16384, tI_16386, tI_M]; omega)), cM h hn ha, cM h hn hb]
      by_cases e3 : pM (P a) = pM (P b)
      · rw [if_neg (not_not_intro e3)]
        rcases p_sameSort hn ha hb hwa hwb h with ⟨q1, q2, q3⟩ | ⟨q1, q2⟩
        · rw [q1, if_neg (by decide)]
          obtain ⟨S1, v, z1, z2, z3⟩ := p_putInner hn hl ha hb hwa hwb h ho hlen q2
          rw [z1, zob2_s]
          rcases z3 with ⟨y1, y2, y3⟩ | ⟨y1, y2⟩
          · rw [y2, if_neg (by decide)]
            exact ⟨S1, 1, rfl, z2, Or.inl ⟨Or.inr (Or.inr ⟨q2, q3, e3, y1⟩), rfl, by unfold kidN kidM; rw [if_neg e2, if_neg e1]; exact y3⟩⟩
          · rw [y2, if_pos rfl]
            exact ⟨S1, 0, rfl, z2, Or.inr ⟨fun q => by
              rcases q with q | q | q
              · exact e2 q
              · exact e1 q
              · exact y1 q.2.2.2, rfl⟩⟩
        · rw [q1, if_pos rfl]
          exact ⟨S, 0, rfl, zLike_rf ho, Or.inr ⟨fun q => by
            rcases q with q | q | q
            · exact e2 q
            · exact e1 q
            · exact q2 ⟨q.1, q.2.1⟩, rfl⟩⟩
      · rw [if_pos e3]
        have no : ¬ lokN P a b := fun q => by
          rcases q with q | q | q
          · exact e2 q
          · exact e1 q
          · exact e3 q.2.2.1
        rcases p_sameSort hn ha hb hwa hwb h with ⟨q1, q2, q3⟩ | ⟨q1, q2⟩
        · rw [q1, if_neg (by decide), if_pos (by decide)]
          exact ⟨S, 0, rfl, zLike_rf ho, Or.inr ⟨no, rfl⟩⟩
        · rw [q1, if_pos rfl]
          exact ⟨S, 0, rfl, zLike_rf ho, Or.inr ⟨no, rfl⟩⟩
/-- what one step of the loop does -/
def holdStep (np : Nat) (P : Nat → Pt) (nl : Nat) (fl : Nat → Nat × Nat) (x3 : Int32) (lok : Nat → Nat → Prop) (kid : Nat → Nat → List (Nat × Nat)) : Prop := ∀ (S : zS) (a b : Nat), PC S np P nl fl → okS S → a < np → b < np → (S.1 11).length < 59000 → ∃ S' v, hHere S x3 (nI a) (nI b) = some (S', v) ∧ zLike [11] S S' ∧ ((lok a b ∧ v = 1 ∧ S'.1 11 = S.1 11 ++ enc (kid a b)) ∨ (¬ lok a b ∧ v = 0))
theorem p_hold_L {x3 : Int32} {lok : Nat → Nat → Prop} {kid : Nat → Nat → List (Nat × Nat)} (hst : holdStep np P nl fl x3 lok kid) (hz : ∀ a, a < np → 1 ≤ pZ (P a)) (hin : ∀ a b q, a < np → b < np → q ∈ kid a b → q.1 < np ∧ q.2 < np) (hk : ∀ a b q, a < np → q ∈ kid a b → q.1 < a) (hp : ∀ a b, a < np → pot P (kid a b) + 1 ≤ pZ (P a)) : ∀ n st S (w : Nat), pot P st < n → (∀ q, q ∈ st → q.1 < np ∧ q.2 < np) → S.1 11 = enc st → PC S np P nl fl → okS S → pot P st + w ≤ 20000 → ∃ S' v, f_Pai_hold_L31 n S x3 1 (nI w) = some (S', v) ∧ zLike [11] S S' ∧ ((v = 1 ∧ ∀ q, q ∈ st → Hh lok kid q.1 q.2) ∨ (v = 0 ∧ ¬ ∀ q, q ∈ st → Hh lok kid q.1 q.2)) := by
  intro n
  induction n with
  | zero => intro st S w h; omega
  | succ n ih =>
    intro st S w hlt hst' hr h ho hw
    have hpl := pot_len (P := P) st (fun q hq => hz q.1 (hst' q hq).1)
    rcases List.eq_nil_or_concat st with e | ⟨st', ⟨a, b⟩, e⟩
    · subst e
      rw [f_Pai_hold_L31, if_neg (by decide), if_pos (by unfold r_size; rw [hr]; decide)]
      exact ⟨S, 1, by rw [zb_1], zLike_rf ho, Or.inl ⟨rfl, fun q hq => by cases hq⟩⟩
    · subst e
      rw [List.concat_eq_append] at *
      have hl2 := enc_len (st' ++ [(a, b)])
      have hl1 : (st' ++ [(a, b)]).length = st'.length + 1 := by simp
      have hpe : pot P (st' ++ [(a, b)]) = pot P st' + pZ (P a) := by rw [pot_app]; simp [pot]
      obtain ⟨ha, hb⟩ := hst' (a, b) (by simp)
      have hrs : r_size S 11 = nI (2 * (st'.length + 1)) := by unfold r_size; rw [hr, hl2, hl1]
      obtain ⟨S1, e1, l1, r1⟩ := zTake (S := S) (k := 11) (l := enc st' ++ [nI a]) (v := nI b) ho (by rw [hr, enc_app]; simp [enc])
      obtain ⟨S2, e2, l2, r2⟩ := zTake (S := S1) (k := 11) (l := enc st') (v := nI a) l1.2.2 r1
      have l12 := zLike_tr l1 l2
      have h2 := PC_like h l12 (by simp)
      obtain ⟨S3, v, e3, l3, r3⟩ := hst S2 a b h2 l12.2.2 ha hb (by rw [r2, enc_len]; omega)
      rw [hold_step n (by rw [hrs]; (simp (disch := omega) only [nI_1, nI_add, Int32.lt_iff_toInt_lt, Int32.le_iff_toInt_le, ← Int32.toInt_inj, nI_toInt, tI_0, tI_1, tI_2, tI_3, tI_4, tI_m1, tI_m2, tI_m3, tI_m4, tI_64, tI_128, tI_255, tI_256, tI_1000, tI_1024, tI_4096, tI_10000, tI_16384, tI_16386, tI_M]; omega)) (by (simp (disch := omega) only [nI_1, nI_add, Int32.lt_iff_toInt_lt, Int32.le_iff_toInt_le, ← Int32.toInt_inj, nI_toInt, tI_0, tI_1, tI_2, tI_3, tI_4, tI_m1, tI_m2, tI_m3, tI_m4, tI_64, tI_128, tI_255, tI_256, tI_1000, tI_1024, tI_4096, tI_10000, tI_16384, tI_16386, tI_M]; omega)) e1 e2, e3, zob2_s, nI_1]
      have l123 := zLike_tr l12 l3
      have hpk := hp a b ha
      rcases r3 with ⟨y1, y2, y3⟩ | ⟨y1, y2⟩
      · subst y2
        obtain ⟨S4, v4, e4, l4, r4⟩ := ih (st' ++ kid a b) S3 (w + 1) (by rw [pot_app]; omega) (fun q hq => by
          rcases List.mem_append.mp hq with hq | hq
          · exact hst' q (List.mem_append_left _ hq)
          · exact hin a b q ha hb hq) (by rw [y3, r2, enc_app]) (PC_like h2 l3 (by simp)) l3.2.2 (by rw [pot_app]; omega)
        refine ⟨S4, v4, e4, zLike_tr l123 l4, ?_⟩
        have hiff : (∀ q, q ∈ st' ++ kid a b → Hh lok kid q.1 q.2) ↔ ∀ q, q ∈ st' ++ [(a, b)] → Hh lok kid q.1 q.2 := by
          constructor
          · intro H q hq
            rcases List.mem_append.mp hq with hq | hq
            · exact H q (List.mem_append_left _ hq)
            · have : q = (a, b) := by simpa using hq
              subst this
              exact (Hh_iff hk ha).mpr ⟨y1, fun q hq => H q (List.mem_append_right _ hq)⟩
          · intro H q hq
            rcases List.mem_append.mp hq with hq | hq
            · exact H q (List.mem_append_left _ hq)
            · exact ((Hh_iff hk ha).mp (H (a, b) (by simp))).2 q hq
        rw [← hiff]
        exact r4
      · subst y2
        have hz1 := hz a ha
        cases n with
        | zero => omega
        | succ n =>
          unfold f_Pai_hold_L31
          rw [if_pos rfl]
          exact ⟨S3, 0, by rw [zb_0], l123, Or.inr ⟨rfl, fun H => y1 ((Hh_iff hk ha).mp (H (a, b) (by simp))).1⟩⟩
/-- two patterns go together; a pattern matches a value -/
def TG (P : Nat → Pt) (fl : Nat → Nat × Nat) (a b : Nat) : Prop := Hh (lokG P) (kidG P fl) a b
def MT (P : Nat → Pt) (fl : Nat → Nat × Nat) (a b : Nat) : Prop := Hh (lokM P) (kidM P fl) a b
theorem p_hold {x3 : Int32} {lok : Nat → Nat → Prop} {kid : Nat → Nat → List (Nat × Nat)} (hst : holdStep np P nl fl x3 lok kid) (hz : ∀ a, a < np → 1 ≤ pZ (P a) ∧ pZ (P a) ≤ 10000) (hin : ∀ a b q, a < np → b < np → q ∈ kid a b → q.1 < np ∧ q.2 < np) (hk : ∀ a b q, a < np → q ∈ kid a b → q.1 < a) (hp : ∀ a b, a < np → pot P (kid a b) + 1 ≤ pZ (P a)) {a b : Nat} (ha : a < np) (hb : b < np) (h : PC S np P nl fl) (ho : okS S) : ∃ S' v, f_Pai_hold S (nI a) (nI b) x3 = some (S', v) ∧ zLike [11] S S' ∧ ((v = 1 ∧ Hh lok kid a b) ∨ (v = 0 ∧ ¬ Hh lok kid a b)) := by
  obtain ⟨S1, e1, l1, r1⟩ := zEmp (S := S) (k := 11) ho
  obtain ⟨S0, v0, S2, v2, e0, e2, l0, l2, r2⟩ := p_two (S := S1) (nI a) (nI b) l1.2.2 (by rw [r1]; decide)
  unfold f_Pai_hold
  rw [zbind_e, e1, e0, zbind2_e, e2, zbind2_e]
  have l12 := zLike_tr l1 l2
  have := hz a ha
  have hpe : pot P [(a, b)] = pZ (P a) := by simp [pot]
  obtain ⟨S3, v, e3, l3, r3⟩ := p_hold_L hst (fun a ha => (hz a ha).1) hin hk hp zbig [(a, b)] S2 0 (by rw [hpe]; unfold zbig; omega) (fun q hq => by
    have e : q = (a, b) := by simpa using hq
    subst e
    exact ⟨ha, hb⟩) (by rw [r2, r1]; rfl) (PC_like h l12 (by simp)) l12.2.2 (by omega)
  refine ⟨S3, v, e3, zLike_tr l12 l3, ?_⟩
  have hs : (∀ q, q ∈ [(a, b)] → Hh lok kid q.1 q.2) ↔ Hh lok kid a b := by simp
  rw [hs] at r3
  exact r3
theorem p_goTogether (hW : PWF nf fam bit np P nl fl) {a b : Nat} (ha : a < np) (hb : b < np) (h : PC S np P nl fl) (ho : okS S) : ∃ S' v, f_Pai_hold S (nI a) (nI b) 0 = some (S', v) ∧ zLike [11] S S' ∧ ((v = 1 ∧ TG P fl a b) ∨ (v = 0 ∧ ¬ TG P fl a b)) := by
  obtain ⟨hn, hl, -, -, hw⟩ := hW
  exact p_hold (x3 := 0) (lok := lokG P) (kid := kidG P fl) (fun S a b h ho ha hb hlen => p_goesHere hn hl ha hb (hw a ha) (hw b hb) h ho hlen) (fun a ha => pwZ (hw a ha)) (fun a b q ha hb hq => by have := kidG_in (hw a ha) (hw b hb) hq; omega) (fun a b q ha hq => kidG_1 (hw a ha) hq) (fun a b ha => kidG_pot (hw a ha)) ha hb h ho
theorem p_match (hW : PWF nf fam bit np P nl fl) {a b : Nat} (ha : a < np) (hb : b < np) (hv : pW (P b) = true) (h : PC S np P nl fl) (ho : okS S) : ∃ S' v, f_Pai_match S (nI a) (nI b) = some (S', v) ∧ zLike [11] S S' ∧ ((v = 1 ∧ MT P fl a b) ∨ (v = 0 ∧ ¬ MT P fl a b)) := by
  obtain ⟨hn, hl, -, -, hw⟩ := hW
  unfold f_Pai_match
  obtain ⟨S', v, e, l, r⟩ := p_hold (x3 := 1) (lok := lokN P) (kid := kidN P fl) (fun S a b h ho ha hb hlen => p_matchesHere hn hl ha hb (hw a ha) (hw b hb) h ho hlen) (fun a ha => pwZ (hw a ha)) (fun a b q ha hb hq => by have := kidM_in (hw a ha) (hw b hb) (kidN_sub hq); omega) (fun a b q ha hq => kidM_1 (hw a ha) (kidN_sub hq)) (fun a b ha => kidN_pot (hw a ha)) ha hb h ho
  have hNM : Hh (lokN P) (kidN P fl) a b ↔ MT P fl a b := hh_NM hw (a + 1) a b ha hb hv
  rw [hNM] at r
  refine ⟨S', v, ?_, l, r⟩
  rw [e, zob2_s]
  rcases r with ⟨y, -⟩ | ⟨y, -⟩
  · rw [y, zb_1]
  · rw [y, zb_0]
end PHD
