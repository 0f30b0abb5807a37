-- PURE LAYER: what the reference looks up of the value without a rule
section PMT
variable {S : zS} {M : zM} {T : Tr} {nr : Nat} {sa : Nat → Nat} {nf : Nat} {fam : Nat → Nat} {bit : Nat → Int64} {np : Nat} {P : Nat → Pt} {nl : Nat} {fl : Nat → Nat × Nat} {ru : Nat → Nat} {s1 s2 : Nat → Int32} {D : Nat} {pp : Nat → Nat}
theorem p_missed_L (h10 : M.2.2 10 = nI D) (hD : D < 4097) (h29 : ∀ i, i < D → M.1 29 i = nI (pp i) ∧ pp i < 2 ^ 31) (hne : ∀ i j, i < j → j < D → pp i ≠ pp j) {c : Nat} (hc : c < 2 ^ 31) : ∀ n i o, i ≤ D → D - i < n → (∀ x, o = some x → x < D ∧ pp x = c) → (o = none → ∀ j, j < i → pp j ≠ c) → ∃ o', f_Mod_missedAt_L4 n M (nI c) (oI o) (nI i) = some (oI o') ∧ (∀ x, o' = some x → x < D ∧ pp x = c) ∧ (o' = none → ∀ j, j < D → pp j ≠ c) := by
  intro n
  induction n with
  | zero => intro i o _ h; omega
  | succ n ih =>
    intro i o hi hlt h1 h2
    unfold f_Mod_missedAt_L4
    rw [h10]
    by_cases e : i = D
    · subst e
      rw [if_pos (by (simp (disch := omega) only [nI_1, nI_add, Int32.lt_iff_toInt_lt, Int32.le_iff_toInt_le, ← Int32.toInt_inj, nI_toInt, tI_0, tI_1, tI_2, tI_3, tI_4, tI_m1, tI_m2, tI_m3, tI_m4, tI_64, tI_128, tI_255, tI_256, tI_1000, tI_1024, tI_4096, tI_10000, tI_16384, tI_16386, tI_M]; omega))]
      exact ⟨o, rfl, h1, h2⟩
    · obtain ⟨a1, a2⟩ := h29 i (by omega)
      rw [if_neg (by (simp (disch := omega) only [nI_1, nI_add, Int32.lt_iff_toInt_lt, Int32.le_iff_toInt_le, ← Int32.toInt_inj, nI_toInt, tI_0, tI_1, tI_2, tI_3, tI_4, tI_m1, tI_m2, tI_m3, tI_m4, tI_64, tI_128, tI_255, tI_256, tI_1000, tI_1024, tI_4096, tI_10000, tI_16384, tI_16386, tI_M]; omega)), m_rd_n (by omega) (by omega), a1, nI_1]
      by_cases z : pp i = c
      · rw [if_neg (by rw [z]; simp)]
        refine ih (i + 1) (some i) (by omega) (by omega) ?_ (by intro e'; cases e')
        intro x e'; cases e'; exact ⟨by omega, z⟩
      · rw [if_pos (fun y => z ((nI_eq a2 hc).mp y))]
        refine ih (i + 1) o (by omega) (by omega) h1 (fun e' j hj => ?_)
        by_cases y : j = i
        · subst y; exact z
        · exact h2 e' j (by omega)
theorem p_missedAt (h10 : M.2.2 10 = nI D) (hD : D < 4097) (h29 : ∀ i, i < D → M.1 29 i = nI (pp i) ∧ pp i < 2 ^ 31) (hne : ∀ i j, i < j → j < D → pp i ≠ pp j) {c : Nat} (hc : c < 2 ^ 31) : ∃ o, f_Mod_missedAt M (nI c) = some (oI o) ∧ (∀ x, o = some x → x < D ∧ pp x = c) ∧ (o = none → ∀ j, j < D → pp j ≠ c) := p_missed_L h10 hD h29 hne hc zbig 0 none (by omega) (by unfold zbig; omega) (by intro x e; cases e) (fun _ j hj => by omega)
theorem p_told20 (hT : TW T) (hM : TMo M T nr sa) (hq : tQ T ≤ 16385) {c : Nat} (hc : c < tQ T) {k : zM → Int32 → Int32 → Int32 → Int32 → Option Int32} {o : Option Nat} (hmi : f_Mod_missedAt M (nI c) = some (oI o)) (hob : ∀ x, o = some x → x < 2 ^ 31) : ∀ n u b (x3 : Int32), u < n → u < tQ T → ∃ b' y, f_Mod_isToldRecord_L20 k n M (nI c) (bI b) x3 (nI u) = k M (nI c) (bI b') x3 y ∧ (b' = true ↔ b = true ∨ (o = none ∧ anc T u c)) := by
  intro n
  induction n with
  | zero => intro u b x3 h; omega
  | succ n ih =>
    intro u b x3 hn hu
    unfold f_Mod_isToldRecord_L20
    by_cases e : u = 0
    · subst e
      rw [if_pos (by decide)]
      exact ⟨b, _, rfl, ⟨Or.inl, fun h => by
        rcases h with h | h
        · exact h
        · exact absurd h.2 up_0⟩⟩
    · have hup := hT.2.1 u (by omega) hu
      obtain ⟨bl, nb, m1, m2, _⟩ := hM
      have e17 := (m2 u (by omega) hu).1
      rw [if_neg (by (simp (disch := omega) only [nI_1, nI_add, Int32.lt_iff_toInt_lt, Int32.le_iff_toInt_le, ← Int32.toInt_inj, nI_toInt, tI_0, tI_1, tI_2, tI_3, tI_4, tI_m1, tI_m2, tI_m3, tI_m4, tI_64, tI_128, tI_255, tI_256, tI_1000, tI_1024, tI_4096, tI_10000, tI_16384, tI_16386, tI_M]; omega))]
      have as := up_s (Q := fun _ => True) hT (show 1 ≤ u by omega) hu (c := c)
      cases b with
      | true =>
        rw [if_pos (by decide), m_rd_n (by omega) (by omega), e17]
        obtain ⟨b', y, h1, h2⟩ := ih (tU T u) true x3 (by omega) (by omega)
        exact ⟨b', y, h1, h2.trans ⟨fun _ => Or.inl rfl, fun _ => Or.inl rfl⟩⟩
      | false =>
        rw [if_neg (by decide), m_rd_n (by omega) (by omega), e17]
        by_cases z : tU T u = c
        · rw [if_neg (by rw [z]; simp), hmi, zob_s]
          cases o with
          | some x =>
            rw [oI_s, if_pos (nI_pos' (hob x rfl)), m_rd_n (by omega) (by omega), e17]
            obtain ⟨b', y, h1, h2⟩ := ih (tU T u) false x3 (by omega) (by omega)
            refine ⟨b', y, h1, h2.trans ⟨fun h => ?_, fun h => ?_⟩⟩
            · rcases h with h | h
              · exact Or.inl h
              · cases h.1
            · rcases h with h | h
              · exact Or.inl h
              · cases h.1
          | none =>
            rw [oI_n, if_neg (by decide), m_rd_n (by omega) (by omega), e17]
            obtain ⟨b', y, h1, h2⟩ := ih (tU T u) true x3 (by omega) (by omega)
            exact ⟨b', y, h1, h2.trans ⟨fun _ => Or.inr ⟨rfl, as.mpr ⟨trivial, Or.inl z⟩⟩, fun _ => Or.inl rfl⟩⟩
        · rw [if_pos (fun y => z ((nI_eq (by omega) (by omega)).mp y)), m_rd_n (by omega) (by omega), e17]
          obtain ⟨b', y, h1, h2⟩ := ih (tU T u) false x3 (by omega) (by omega)
          refine ⟨b', y, h1, h2.trans ⟨fun h => ?_, fun h => ?_⟩⟩
          · rcases h with h | ⟨h, h'⟩
            · exact Or.inl h
            · exact Or.inr ⟨h, as.mpr ⟨trivial, Or.inr h'⟩⟩
          · rcases h with h | ⟨h, h'⟩
            · exact Or.inl h
            · rcases (as.mp h').2 with w | w
              · exact absurd w z
              · exact Or.inr ⟨h, w⟩
theorem p_told4 (hT : TW T) (hM : TMo M T nr sa) (hq : tQ T ≤ 16385) (h10 : M.2.2 10 = nI D) (hD : D < 4097) (h29 : ∀ i, i < D → M.1 29 i = nI (pp i) ∧ pp i < tQ T) {c : Nat} (hc : c < tQ T) {o : Option Nat} (hmi : f_Mod_missedAt M (nI c) = some (oI o)) (hob : ∀ x, o = some x → x < 2 ^ 31) : ∀ n i b, i ≤ D → D - i < n → (b = true ↔ o = none ∧ ∃ j, j < i ∧ anc T (pp j) c) → ∃ b', f_Mod_isToldRecord_L4 n M (nI c) (bI b) (nI i) = some (bI b') ∧ (b' = true ↔ o = none ∧ ∃ j, j < D ∧ anc T (pp j) c) := by
  intro n
  induction n with
  | zero => intro i b _ h; omega
  | succ n ih =>
    intro i b hi hlt hb
    unfold f_Mod_isToldRecord_L4
    rw [h10]
    by_cases e : i = D
    · subst e
      rw [if_pos (by (simp (disch := omega) only [nI_1, nI_add, Int32.lt_iff_toInt_lt, Int32.le_iff_toInt_le, ← Int32.toInt_inj, nI_toInt, tI_0, tI_1, tI_2, tI_3, tI_4, tI_m1, tI_m2, tI_m3, tI_m4, tI_64, tI_128, tI_255, tI_256, tI_1000, tI_1024, tI_4096, tI_10000, tI_16384, tI_16386, tI_M]; omega)), zb_bI]
      exact ⟨b, rfl, hb⟩
    · obtain ⟨a1, a2⟩ := h29 i (by omega)
      rw [if_neg (by (simp (disch := omega) only [nI_1, nI_add, Int32.lt_iff_toInt_lt, Int32.le_iff_toInt_le, ← Int32.toInt_inj, nI_toInt, tI_0, tI_1, tI_2, tI_3, tI_4, tI_m1, tI_m2, tI_m3, tI_m4, tI_64, tI_128, tI_255, tI_256, tI_1000, tI_1024, tI_4096, tI_10000, tI_16384, tI_16386, tI_M]; omega)), m_rd_n (by omega) (by omega), a1]
      have g1 : i + 1 ≤ D := by omega
      have g2 : D - (i + 1) < n := by omega
      obtain ⟨b', y, h1, h2⟩ := p_told20 (k := fun S x1 x2 x3 x4 => f_Mod_isToldRecord_L4 n S x1 x2 (x3 + 1)) hT hM hq hc hmi hob zbig (pp i) b (nI i) (by unfold zbig; omega) a2
      rw [h1, nI_1]
      refine ih (i + 1) b' g1 g2 (h2.trans ?_)
      rw [hb]
      constructor
      · rintro (⟨h, j, j1, j2⟩ | ⟨h, h'⟩)
        · exact ⟨h, j, by omega, j2⟩
        · exact ⟨h, i, by omega, h'⟩
      · rintro ⟨h, j, j1, j2⟩
        by_cases w : j = i
        · subst w; exact Or.inr ⟨h, j2⟩
        · exact Or.inl ⟨h, j, by omega, j2⟩
theorem p_isTold (hT : TW T) (hM : TMo M T nr sa) (hq : tQ T ≤ 16385) (h10 : M.2.2 10 = nI D) (hD : D < 4097) (h29 : ∀ i, i < D → M.1 29 i = nI (pp i) ∧ pp i < tQ T) {c : Nat} (hc : c < tQ T) {o : Option Nat} (hmi : f_Mod_missedAt M (nI c) = some (oI o)) (hob : ∀ x, o = some x → x < 2 ^ 31) : ∃ b', f_Mod_isToldRecord M (nI c) = some (bI b') ∧ (b' = true ↔ o = none ∧ ∃ j, j < D ∧ anc T (pp j) c) := p_told4 hT hM hq h10 hD h29 hc hmi hob zbig 0 false (by omega) (by unfold zbig; omega) ⟨(by intro h; cases h), (by rintro ⟨_, j, j1, _⟩; omega)⟩
theorem TMo_at (h : TMo M T nr sa) : M.1 14 nr = nI (tA T) ∧ (∀ k, k < tA T → M.1 15 k = nI (tK T k).2.1 ∧ M.1 16 k = nI (tK T k).2.2) ∧ ∀ p, p < tQ T → M.1 22 p = szOf (tH T p) := by
  obtain ⟨bl, nb, m1, m2, m3, m4, m5, m6⟩ := h
  exact ⟨m6, m4, fun p hp => (m3 p hp).2.2.2⟩
theorem p_any_L (hF : SF nf fam bit np P nl fl T nr ru sa) (hM : MC M nf fam bit np P nl fl T nr sa) {c : Nat} (hc : c < tQ T) : ∀ n i o, i ≤ tA T → tA T - i < n → (∀ q, o = some q → ∃ k, k < tA T ∧ (tK T k).2.1 = c ∧ (tK T k).2.2 = q) → (o = none → ∀ k, k < i → (tK T k).2.1 ≠ c) → ∃ o', f_Mod_anyAt_L4 n M (nI c) (oI o) (nI i) = some (oI o') ∧ (∀ q, o' = some q → ∃ k, k < tA T ∧ (tK T k).2.1 = c ∧ (tK T k).2.2 = q) ∧ (o' = none → ∀ k, k < tA T → (tK T k).2.1 ≠ c) := by
  have hn := hF.2.2.2.2.2.2
  have hA := hF.2.2.2.2.1
  have hq := hF.2.2.2.2.2.1
  obtain ⟨t1, t2, t3⟩ := TMo_at hM.2.1
  intro n
  induction n with
  | zero => intro i o _ h; omega
  | succ n ih =>
    intro i o hi hlt h1 h2
    unfold f_Mod_anyAt_L4
    rw [hM.2.2.1, m_rd_n (by omega) (by omega), t1]
    by_cases e : i = tA T
    · subst e
      rw [if_pos (by (simp (disch := omega) only [nI_1, nI_add, Int32.lt_iff_toInt_lt, Int32.le_iff_toInt_le, ← Int32.toInt_inj, nI_toInt, tI_0, tI_1, tI_2, tI_3, tI_4, tI_m1, tI_m2, tI_m3, tI_m4, tI_64, tI_128, tI_255, tI_256, tI_1000, tI_1024, tI_4096, tI_10000, tI_16384, tI_16386, tI_M]; omega))]
      exact ⟨o, rfl, h1, h2⟩
    · obtain ⟨a1, a2⟩ := t2 i (by omega)
      have a3 := (SF_ask hF i (by omega)).2
      rw [if_neg (by (simp (disch := omega) only [nI_1, nI_add, Int32.lt_iff_toInt_lt, Int32.le_iff_toInt_le, ← Int32.toInt_inj, nI_toInt, tI_0, tI_1, tI_2, tI_3, tI_4, tI_m1, tI_m2, tI_m3, tI_m4, tI_64, tI_128, tI_255, tI_256, tI_1000, tI_1024, tI_4096, tI_10000, tI_16384, tI_16386, tI_M]; omega)), m_rd_n (by omega) (by omega), a1, nI_1]
      by_cases z : (tK T i).2.1 = c
      · rw [if_neg (by rw [z]; simp), m_rd_n (by omega) (by omega), a2]
        refine ih (i + 1) (some (tK T i).2.2) (by omega) (by omega) ?_ (by intro e'; cases e')
        intro x e'; cases e'; exact ⟨i, by omega, z, rfl⟩
      · rw [if_pos (fun y => z ((nI_eq (by omega) (by omega)).mp y))]
        refine ih (i + 1) o (by omega) (by omega) h1 (fun e' j hj => ?_)
        by_cases y : j = i
        · subst y; exact z
        · exact h2 e' j (by omega)
/-- an ask at a part -/
theorem p_anyAt (hF : SF nf fam bit np P nl fl T nr ru sa) (hM : MC M nf fam bit np P nl fl T nr sa) {c : Nat} (hc : c < tQ T) (hk : ∃ k, k < tA T ∧ (tK T k).2.1 = c) : ∃ q, f_Mod_anyAt M (nI c) = some (nI q) ∧ q < np ∧ tH T c = (pK (P q), pS (P q)) := by
  obtain ⟨o, h1, h2, h3⟩ := p_any_L hF hM hc zbig 0 none (by omega) (by have := hF.2.2.2.2.1; unfold zbig; omega) (by intro x e; cases e) (fun _ k hk => by omega)
  cases o with
  | none =>
    obtain ⟨k, k1, k2⟩ := hk
    exact absurd k2 (h3 rfl k k1)
  | some q =>
    obtain ⟨k, k1, k2, k3⟩ := h2 q rfl
    obtain ⟨a1, a2, a3, a4, a5, a6⟩ := hF.2.1.2.2.1 k k1
    rw [k2, k3] at a5
    rw [k2, k3] at a3
    rw [k2] at a2
    exact ⟨q, h1, oc_lt hF.2.1.1 hF.1 (hF.2.2.2.1 _ a1) _ _ _ (Nat.lt_succ_self _) a2 a3, a5⟩
theorem p_some_L (hF : SF nf fam bit np P nl fl T nr ru sa) (hM : MC M nf fam bit np P nl fl T nr sa) {c : Nat} (hc : c < tQ T) (x : Int32) : ∀ n i o, i ≤ tA T → tA T - i < n → (∀ q, o = some q → ∃ k, k < tA T ∧ (tK T k).2.1 = c ∧ (tK T k).2.2 = q ∧ pM (P q) = x) → (o = none → ∀ k, k < i → (tK T k).2.1 = c → pM (P (tK T k).2.2) ≠ x) → ∃ o', f_Mod_someAt_L5 n M (nI c) x (oI o) (nI i) = some (oI o') ∧ (∀ q, o' = some q → ∃ k, k < tA T ∧ (tK T k).2.1 = c ∧ (tK T k).2.2 = q ∧ pM (P q) = x) ∧ (o' = none → ∀ k, k < tA T → (tK T k).2.1 = c → pM (P (tK T k).2.2) ≠ x) := by
  have hn := hF.2.2.2.2.2.2
  have hA := hF.2.2.2.2.1
  have hq := hF.2.2.2.2.2.1
  obtain ⟨t1, t2, t3⟩ := TMo_at hM.2.1
  intro n
  induction n with
  | zero => intro i o _ h; omega
  | succ n ih =>
    intro i o hi hlt h1 h2
    unfold f_Mod_someAt_L5
    rw [hM.2.2.1, m_rd_n (by omega) (by omega), t1]
    by_cases e : i = tA T
    · subst e
      rw [if_pos (by (simp (disch := omega) only [nI_1, nI_add, Int32.lt_iff_toInt_lt, Int32.le_iff_toInt_le, ← Int32.toInt_inj, nI_toInt, tI_0, tI_1, tI_2, tI_3, tI_4, tI_m1, tI_m2, tI_m3, tI_m4, tI_64, tI_128, tI_255, tI_256, tI_1000, tI_1024, tI_4096, tI_10000, tI_16384, tI_16386, tI_M]; omega))]
      exact ⟨o, rfl, h1, h2⟩
    · obtain ⟨a1, a2⟩ := t2 i (by omega)
      obtain ⟨b1, b2, b3, b4, b5, b6⟩ := hF.2.1.2.2.1 i (by omega)
      have b7 := oc_lt hF.2.1.1 hF.1 (hF.2.2.2.1 _ b1) _ _ _ (Nat.lt_succ_self _) b2 b3
      rw [if_neg (by (simp (disch := omega) only [nI_1, nI_add, Int32.lt_iff_toInt_lt, Int32.le_iff_toInt_le, ← Int32.toInt_inj, nI_toInt, tI_0, tI_1, tI_2, tI_3, tI_4, tI_m1, tI_m2, tI_m3, tI_m4, tI_64, tI_128, tI_255, tI_256, tI_1000, tI_1024, tI_4096, tI_10000, tI_16384, tI_16386, tI_M]; omega)), m_rd_n (by omega) (by omega), a1, nI_1]
      have skip : ((tK T i).2.1 = c → pM (P (tK T i).2.2) ≠ x) → ∃ o', f_Mod_someAt_L5 n M (nI c) x (oI o) (nI (i + 1)) = some (oI o') ∧ (∀ q, o' = some q → ∃ k, k < tA T ∧ (tK T k).2.1 = c ∧ (tK T k).2.2 = q ∧ pM (P q) = x) ∧ (o' = none → ∀ k, k < tA T → (tK T k).2.1 = c → pM (P (tK T k).2.2) ≠ x) := fun hno => by
        refine ih (i + 1) o (by omega) (by omega) h1 (fun e' j hj => ?_)
        by_cases y : j = i
        · subst y; exact hno
        · exact h2 e' j (by omega)
      by_cases z : (tK T i).2.1 = c
      · rw [if_neg (by rw [z]; simp), m_rd_n (by omega) (by omega), a2, p_numberOf hM hF.1.1 b7 b4.1 b4.2, zob_s]
        by_cases w : pM (P (tK T i).2.2) = x
        · rw [if_neg (by rw [w, (lgc1 _ _).mpr rfl]; simp), m_rd_n (by omega) (by omega), a2]
          refine ih (i + 1) (some (tK T i).2.2) (by omega) (by omega) ?_ (by intro e'; cases e')
          intro y e'; cases e'; exact ⟨i, by omega, z, rfl, w⟩
        · rw [if_pos (fun y => w (i64_inj ((lgc1 _ _).mp y)))]
          exact skip (fun _ => w)
      · rw [if_pos (fun y => z ((nI_eq (by omega) (by omega)).mp y))]
        exact skip (fun y => absurd y z)
theorem p_someAt (hF : SF nf fam bit np P nl fl T nr ru sa) (hM : MC M nf fam bit np P nl fl T nr sa) {c : Nat} (hc : c < tQ T) (x : Int32) : ∃ o, f_Mod_someAt M (nI c) x = some (oI o) ∧ (∀ q, o = some q → ∃ k, k < tA T ∧ (tK T k).2.1 = c ∧ (tK T k).2.2 = q ∧ pM (P q) = x) ∧ (o = none → ∀ k, k < tA T → (tK T k).2.1 = c → pM (P (tK T k).2.2) ≠ x) := p_some_L hF hM hc x zbig 0 none (by omega) (by have := hF.2.2.2.2.1; unfold zbig; omega) (by intro x e; cases e) (fun _ k hk => by omega)
/-- the argument of what is told there -/
theorem p_hasArg (hF : SF nf fam bit np P nl fl T nr ru sa) (hM : MC M nf fam bit np P nl fl T nr sa) (hEP : EP P fl T nr ru) (hTG : ∀ i j, i < j → j < nr → TG P fl (ru i) (ru j)) {c i : Nat} {x : Int32} (hc : c < tQ T) (hk : ∃ k, k < tA T ∧ (tK T k).2.1 = c) (hi : i < 4097) (h30 : M.1 30 i = x) (h2 : (tH T c).1 = 2 → ∃ f t : Nat, (tH T c).2 = nI f ∧ x = nI t ∧ f < nf ∧ t < fam f) : ∃ b, f_Mod_hasArgument M (nI c) (nI i) = some (bI b) ∧ ((tH T c).1 ≠ 2 → (tH T c).1 ≠ 3 → b = false) ∧ ((tH T c).1 = 3 → b = (tCh T c x).isSome) ∧ ((tH T c).1 = 2 → ∀ f t : Nat, (tH T c).2 = nI f → x = nI t → f < nf → t < fam f → b = gb (bit f) t) := by
  have hnp := hF.1.1
  obtain ⟨q, q1, q2, q3⟩ := p_anyAt hF hM hc hk
  have hKq := pwK (hF.1.2.2.2.2 q q2)
  unfold f_Mod_hasArgument
  rw [q1, zob_s, m_rd_n (by omega) (by omega), gK hM.1 q2]
  have eK : pK (P q) = (tH T c).1 := by rw [q3]
  have eS : pS (P q) = (tH T c).2 := by rw [q3]
  by_cases k2 : pK (P q) = 2
  · obtain ⟨f, t, f1, f2, f3, f4⟩ := h2 (by rw [← eK]; exact k2)
    have hnf := hF.1.2.2.2.1
    have hft := hF.1.2.2.1 f f3
    rw [if_neg (by rw [k2]; decide), m_rd_n (by omega) (by omega), gFn hM.1 q2 (by omega), eS, f1, m_rdl_n (by omega) (by omega), (hM.2.2.2.2 f f3).2, m_rd_n (by omega) (by omega), h30, f2]
    have fin : ∀ b, b = gb (bit f) t → ((tH T c).1 ≠ 2 → (tH T c).1 ≠ 3 → b = false) ∧ ((tH T c).1 = 3 → b = (tCh T c x).isSome) ∧ ((tH T c).1 = 2 → ∀ f t : Nat, (tH T c).2 = nI f → x = nI t → f < nf → t < fam f → b = gb (bit f) t) := by
      intro b hb
      refine ⟨fun z => absurd (by omega) z, fun z => by omega, fun _ f' t' g1 g2 g3 g4 => ?_⟩
      have := hF.1.2.2.1 f' g3
      rw [f1] at g1
      rw [f2] at g2
      have e1 := (nI_eq (by omega) (by omega)).mp g1
      have e2 := (nI_eq (by omega) (by omega)).mp g2
      rw [hb, e1, e2]
    have e0 : gb (z_lshr (bit f) (nI t)) 0 = gb (bit f) t := gb_lshr0 _ (by omega)
    cases hb : gb (bit f) t with
    | false =>
      have hcz : ¬ lg_cmp (z_lshr (bit f) (nI t) &&& 1) 1 = 0 := fun q => by have := (gb_a1 _).mp ((lgc1 _ _).mp q); rw [e0, hb] at this; cases this
      rw [if_pos hcz]
      have := fin false hb.symm
      rw [f1, f2] at this
      exact ⟨false, rfl, this⟩
    | true =>
      have hcz : lg_cmp (z_lshr (bit f) (nI t) &&& 1) 1 = 0 := (lgc1 _ _).mpr ((gb_a1 _).mpr (by rw [e0]; exact hb))
      rw [if_neg (fun q => q hcz)]
      have := fin true hb.symm
      rw [f1, f2] at this
      exact ⟨true, rfl, this⟩
  · rw [if_pos (by (simp (disch := omega) only [nI_1, nI_add, Int32.lt_iff_toInt_lt, Int32.le_iff_toInt_le, ← Int32.toInt_inj, nI_toInt, tI_0, tI_1, tI_2, tI_3, tI_4, tI_m1, tI_m2, tI_m3, tI_m4, tI_64, tI_128, tI_255, tI_256, tI_1000, tI_1024, tI_4096, tI_10000, tI_16384, tI_16386, tI_M]; omega)), m_rd_n (by omega) (by omega), h30]
    obtain ⟨o, o1, o2, o3⟩ := p_someAt hF hM hc x
    rw [o1, zob_s, m_rd_n (by omega) (by omega), gK hM.1 q2]
    by_cases k3 : pK (P q) = 3
    · rw [if_neg (by rw [k3]; decide)]
      have fin : ∀ b, b = (tCh T c x).isSome → ((tH T c).1 ≠ 2 → (tH T c).1 ≠ 3 → b = false) ∧ ((tH T c).1 = 3 → b = (tCh T c x).isSome) ∧ ((tH T c).1 = 2 → ∀ f t : Nat, (tH T c).2 = nI f → x = nI t → f < nf → t < fam f → b = gb (bit f) t) := fun b hb => ⟨fun _ z => absurd (by omega) z, fun _ => hb, fun z => absurd z (by omega)⟩
      cases o with
      | none =>
        rw [oI_n, if_pos (by decide)]
        refine ⟨false, rfl, fin false ?_⟩
        cases g : tCh T c x with
        | none => rfl
        | some d =>
          obtain ⟨d1, d2, d3, d4⟩ := tCh_ok g
          obtain ⟨k, k1, k2', k3'⟩ := hEP.2.2 d d1 d2 (by rw [d3]; omega)
          rw [d3] at k2'
          rw [d4] at k3'
          exact absurd k3' (o3 rfl k k1 k2')
      | some y =>
        obtain ⟨k, k1, k2', k3', k4⟩ := o2 y rfl
        have hak := ak_at hF.2.1.2.2.2.1 k1
        rw [k2', k3'] at hak
        obtain ⟨a1, a2, a3, a4, a5, a6, a7⟩ := SF_ak hF hak
        have hch := arg_ch hF hEP hTG hak
        rw [k4] at hch
        have ky : pK (P y) ≠ 4 := by omega
        rw [oI_s, if_neg (by (simp (disch := omega) only [nI_1, nI_add, Int32.lt_iff_toInt_lt, Int32.le_iff_toInt_le, ← Int32.toInt_inj, nI_toInt, tI_0, tI_1, tI_2, tI_3, tI_4, tI_m1, tI_m2, tI_m3, tI_m4, tI_64, tI_128, tI_255, tI_256, tI_1000, tI_1024, tI_4096, tI_10000, tI_16384, tI_16386, tI_M]; omega)), m_rd_n (by omega) (by omega), g5 hM.1 a3 ky]
        cases oy : pO (P y) with
        | none =>
          rw [oI_n, if_pos (by decide)]
          exact ⟨false, rfl, fin false (by rw [hch, oy]; rfl)⟩
        | some z =>
          have := pwO (hF.1.2.2.2.2 y a3) oy
          rw [oI_s, if_neg (by (simp (disch := omega) only [nI_1, nI_add, Int32.lt_iff_toInt_lt, Int32.le_iff_toInt_le, ← Int32.toInt_inj, nI_toInt, tI_0, tI_1, tI_2, tI_3, tI_4, tI_m1, tI_m2, tI_m3, tI_m4, tI_64, tI_128, tI_255, tI_256, tI_1000, tI_1024, tI_4096, tI_10000, tI_16384, tI_16386, tI_M]; omega))]
          exact ⟨true, rfl, fin true (by rw [hch, oy]; rfl)⟩
    · rw [if_pos (by (simp (disch := omega) only [nI_1, nI_add, Int32.lt_iff_toInt_lt, Int32.le_iff_toInt_le, ← Int32.toInt_inj, nI_toInt, tI_0, tI_1, tI_2, tI_3, tI_4, tI_m1, tI_m2, tI_m3, tI_m4, tI_64, tI_128, tI_255, tI_256, tI_1000, tI_1024, tI_4096, tI_10000, tI_16384, tI_16386, tI_M]; omega))]
      exact ⟨false, rfl, fun _ _ => rfl, fun z => absurd z (by omega), fun z => absurd z (by omega)⟩
end PMT
