-- PURE LAYER: the reference's partAt; both find the same
def gqF (T : Tr) (Q : Nat → Prop) : Nat → Nat → Prop
  | 0, _ => False
  | n + 1, c => c = 0 ∨ (1 ≤ c ∧ c < tQ T ∧ Q c ∧ gqF T Q n (tU T c))
def gq (T : Tr) (Q : Nat → Prop) (c : Nat) : Prop := gqF T Q (c + 1) c
def vrL (P : Nat → Pt) (fl : Nat → Nat × Nat) (T : Tr) : Option Nat → List Nat → Option Nat
  | o, [] => o
  | o, c :: rs => vrL P fl T (rstep P fl T c o) rs
section PVC
variable {M : zM} {T : Tr} {nr : Nat} {sa : Nat → Nat} {nf : Nat} {fam : Nat → Nat} {bit : Nat → Int64} {np : Nat} {P : Nat → Pt} {nl : Nat} {fl : Nat → Nat × Nat} {ru : Nat → Nat} {val : Nat} {Q : Nat → Prop}
theorem gqF_any (hT : TW T) : ∀ n m c, c < tQ T → c < n → c < m → gqF T Q n c → gqF T Q m c := by
  intro n
  induction n with
  | zero => intro m c _ h; omega
  | succ n ih =>
    intro m c hc h1 h2 h
    cases m with
    | zero => omega
    | succ m =>
      rcases h with h | ⟨a1, a2, a3, a4⟩
      · exact Or.inl h
      · have hu := hT.2.1 c a1 hc
        exact Or.inr ⟨a1, a2, a3, ih m (tU T c) (by omega) (by omega) (by omega) a4⟩
theorem gq_up (hT : TW T) {c : Nat} (h : gq T Q c) (h1 : 1 ≤ c) : c < tQ T ∧ Q c ∧ gq T Q (tU T c) := by
  rcases h with h | ⟨a1, a2, a3, a4⟩
  · omega
  · have hu := hT.2.1 c h1 a2
    exact ⟨a2, a3, gqF_any hT _ _ _ (by omega) (by omega) (by omega) a4⟩
theorem gq_mk (hT : TW T) {c : Nat} (h1 : 1 ≤ c) (h2 : c < tQ T) (hq : Q c) (hu' : gq T Q (tU T c)) : gq T Q c := by
  have hu := hT.2.1 c h1 h2
  exact Or.inr ⟨h1, h2, hq, gqF_any hT _ _ _ (by omega) (by omega) (by omega) hu'⟩
theorem gq_gp (hT : TW T) (hQ : ∀ c, Q c → lbOK T c) : ∀ n c, c < n → c < tQ T → gq T Q c → gp T c := by
  intro n
  induction n with
  | zero => intro c h; omega
  | succ n ih =>
    intro c hn hc h
    by_cases d : c = 0
    · subst d; exact Or.inl rfl
    · obtain ⟨a1, a2, a3⟩ := gq_up hT h (by omega)
      have hu := hT.2.1 c (by omega) hc
      have := ih (tU T c) (by omega) (by omega) a3
      exact Or.inr ⟨by omega, hc, hQ c a2, gpF_any hT _ _ _ (by omega) (by omega) (by omega) this⟩
/-- the chain of asks gives what holds of all parts above -/
theorem chn_gq (hF : SF nf fam bit np P nl fl T nr ru sa) {root r k : Nat} (hQ : ∀ c q x, 1 ≤ c → c < tQ T → oc P fl T root (tU T c) = some q → tH T (tU T c) = (pK (P q), pS (P q)) → (pK (P q) = 4 ∨ ∃ k', k' < k ∧ tK T k' = (r, tU T c, q)) → oc P fl T root c = some x → Q c) : ∀ n c, c < n → c < tQ T → chn P fl T root r k c → (∃ x, oc P fl T root c = some x) → gq T Q c := by
  have hT := hF.2.1.1
  intro n
  induction n with
  | zero => intro c h; omega
  | succ n ih =>
    intro c hn hc h ⟨x, hx⟩
    by_cases d : c = 0
    · subst d; exact Or.inl rfl
    · have hu := hT.2.1 c (by omega) hc
      obtain ⟨q, a1, a2, a3, a4⟩ := (chn_s hT (by omega) hc).mp h
      exact gq_mk hT (by omega) hc (hQ c q x (by omega) hc a1 a2 a3 hx) (ih (tU T c) (by omega) (by omega) a4 ⟨q, a1⟩)
theorem SF_rec (hF : SF nf fam bit np P nl fl T nr ru sa) {u : Nat} (hu : u < tQ T) : ∀ s, tH T u = (4, s) → ∃ n : Nat, n ≤ 128 ∧ s = nI n := by
  intro s e
  obtain ⟨r, q, b1, b2, b3⟩ := hF.2.1.2.2.2.2 u hu (by rw [e]; simp)
  have hq := oc_lt hF.2.1.1 hF.1 (hF.2.2.2.1 r b1) _ _ _ (Nat.lt_succ_self _) hu b2
  rw [e] at b3
  have e4 : pK (P q) = 4 := (Prod.ext_iff.mp b3).1.symm
  obtain ⟨n, n1, n2, n3⟩ := (hF.1.2.2.2.2 q hq).2.2.2.2.2.2.2.2.2.2.2.2.2.2.2.1 e4
  have h2 : s = pS (P q) := (Prod.ext_iff.mp b3).2
  exact ⟨n, n1, h2.trans n2⟩
theorem rstep_whole (hW : PWF nf fam bit np P nl fl) {c : Nat} {o : Option Nat} (ho : ∀ q, o = some q → q < np ∧ pW (P q) = true) : ∀ q, rstep P fl T c o = some q → q < np ∧ pW (P q) = true := by
  intro x h
  cases o with
  | none => cases h
  | some q =>
    obtain ⟨q1, q2⟩ := ho q rfl
    have hwq := hW.2.2.2.2 q q1
    unfold rstep at h
    dsimp only at h
    split at h
    · split at h
      · exact sub_whole hW q1 q2 h
      · cases h
    · split at h
      · split at h
        · cases h
        · exact ⟨by have := (pwO hwq h).1; omega, (hwq.2.2.2.2.2.2.2.2.2.2.2.2.2.2.2.2 q2).2.1 x h⟩
      · cases h
theorem p_part41 (hF : SF nf fam bit np P nl fl T nr ru sa) (hM : MC M nf fam bit np P nl fl T nr sa) : ∀ (rs : List Nat) (n a : Nat) (o : Option Nat), chl T a rs → (∀ i, i < rs.length → M.1 31 i = nI (rs.reverse.getD i 0)) → (∀ q, o = some q → q < np ∧ pW (P q) = true) → rs.length < n → rs.length < 20000 → f_Mod_partAt_L41 n M (oI o) (nI rs.length + (-1)) = some (M, oI (vrL P fl T o rs)) := by
  have hT := hF.2.1.1
  have hnp := hF.1.1
  intro rs
  induction rs with
  | nil =>
    intro n a o _ _ _ hn _
    cases n with
    | zero => simp at hn
    | succ n => rw [f_Mod_partAt_L41, if_pos (by decide)]; rfl
  | cons c rs ih =>
    intro n a o hc h31 ho hn hl
    obtain ⟨c1, c2, c3, c4, c5⟩ := hc
    have hlen : (c :: rs).length = rs.length + 1 := rfl
    rw [hlen] at hn hl ⊢
    cases n with
    | zero => omega
    | succ n =>
      rw [pk_m1]
      have hrest : ∀ o', (∀ q, o' = some q → q < np ∧ pW (P q) = true) → f_Mod_partAt_L41 n M (oI o') (nI rs.length + (-1)) = some (M, oI (vrL P fl T o' rs)) := fun o' ho' => ih n c o' c5 (fun i hi => by
        have := h31 i (by rw [hlen]; omega)
        rw [this]
        have : (c :: rs).reverse = rs.reverse ++ [c] := by simp
        rw [this]
        simp [List.getD, List.getElem?_append_left (show i < rs.reverse.length by simpa using hi)]) ho' (by omega) (by omega)
      cases o with
      | none =>
        rw [f_Mod_partAt_L41, if_neg (nI_pos (by omega)), oI_n, if_pos (by decide)]
        have : ∀ l : List Nat, vrL P fl T none l = none := by
          intro l
          induction l with
          | nil => rfl
          | cons x l ih => exact ih
        rw [this (c :: rs)]; rfl
      | some q =>
        obtain ⟨q1, q2⟩ := ho q rfl
        have hk : M.1 31 rs.length = nI c := by
          rw [h31 rs.length (by rw [hlen]; omega)]
          have : (c :: rs).reverse = rs.reverse ++ [c] := by simp
          rw [this]
          simp [List.getD]
        rw [oI_s, p_part1 hF hM c1 c2 c4 (SF_rec hF (by have := hT.2.1 c c1 c2; omega)) (by omega) hk q1 q2 n]
        exact hrest _ (rstep_whole hF.1 ho)
theorem p_part5 (hF : SF nf fam bit np P nl fl T nr ru sa) (hQ : ∀ c, Q c → lbOK T c) (hv : val < np) (hw : pW (P val) = true) {p : Nat} : ∀ (n a : Nat) (rs : List Nat) (M : zM), MC M nf fam bit np P nl fl T nr sa → a < tQ T → gq T Q a → chl T a rs → chE a rs = p → (∀ c, c ∈ rs → Q c) → (∀ i, i < rs.length → M.1 31 i = nI (rs.reverse.getD i 0)) → a < n → rs.length + a ≤ 16385 → ∃ M' rs', f_Mod_partAt_L5 n M (nI val) (nI rs.length) (nI a) = some (M', oI (vrL P fl T (some val) rs')) ∧ mLike [31] [] [] M M' ∧ chl T 0 rs' ∧ chE 0 rs' = p ∧ ∀ c, c ∈ rs' → Q c := by
  have hT := hF.2.1.1
  have hq := hF.2.2.2.2.2.1
  intro n
  induction n with
  | zero => intro a rs M _ _ _ _ _ _ _ h; omega
  | succ n ih =>
    intro a rs M hM ha hg hc he hcs h31 hn hlen
    unfold f_Mod_partAt_L5
    by_cases d : a = 0
    · subst d
      rw [if_pos (by decide), zbind_e, Int32.sub_eq_add_neg]
      have := p_part41 hF hM rs zbig 0 (some val) hc h31 (fun q e => by cases e; exact ⟨hv, hw⟩) (by unfold zbig; omega) (by omega)
      exact ⟨M, rs, this, mLike_rf, hc, he, hcs⟩
    · obtain ⟨g1, g2, g3⟩ := gq_up hT hg (by omega)
      have hu := hT.2.1 a (by omega) ha
      have l1 : mLike [31] [] [] M (m_set M 31 rs.length (nI a)) := mLike_set
      have hM1 := MC_like hM l1 (by simp) (by simp) (by simp)
      have h17 : (m_set M 31 rs.length (nI a)).1 17 a = nI (tU T a) := by
        obtain ⟨bl, nb, t1, t2, -⟩ := hM1.2.1
        exact (t2 a (by omega) ha).1
      rw [if_neg (by (simp (disch := omega) only [nI_1, nI_add, Int32.lt_iff_toInt_lt, Int32.le_iff_toInt_le, ← Int32.toInt_inj, nI_toInt, tI_0, tI_1, tI_2, tI_3, tI_4, tI_m1, tI_m2, tI_m3, tI_m4, tI_64, tI_128, tI_255, tI_256, tI_1000, tI_1024, tI_4096, tI_10000, tI_16384, tI_16386, tI_M]; omega)), m_wr_n (by omega) (by omega), nI_clamp (by omega), m_rd_n (by omega) (by omega), h17, nI_1]
      obtain ⟨M', rs', e1, e2, e3⟩ := ih (tU T a) (a :: rs) (m_set M 31 rs.length (nI a)) hM1 (by omega) g3 ⟨by omega, ha, rfl, hQ a g2, hc⟩ he (fun c hc' => by
        rcases List.mem_cons.mp hc' with w | w
        · rw [w]; exact g2
        · exact hcs c w) (fun i hi => by
        rw [m_set_at]
        have er : (a :: rs).reverse = rs.reverse ++ [a] := by simp
        rw [er]
        by_cases w : i = rs.length
        · subst w; rw [upd_s]; simp [List.getD]
        · have hi' : i < rs.length := by
            have : i < rs.length + 1 := hi
            omega
          rw [upd_n w, h31 i hi']
          simp [List.getD, List.getElem?_append_left (show i < rs.reverse.length by simpa using hi')]) (by omega) (by show rs.length + 1 + tU T a ≤ 16385; omega)
      exact ⟨M', rs', e1, mLike_tr l1 e2, e3⟩
/-- where both agree on a step -/
def agr (P : Nat → Pt) (fl : Nat → Nat × Nat) (T : Tr) (val c : Nat) : Prop := lbOK T c ∧ ((tH T (tU T c)).1 ≠ 4 → ∀ q, vc P fl T val (tU T c) = some q → (pK (P q), pS (P q)) = tH T (tU T c) ∧ pM (P q) = tL T c)
theorem rstep_vstep (hF : SF nf fam bit np P nl fl T nr ru sa) (hv : val < np) (hw : pW (P val) = true) {c : Nat} (h1 : 1 ≤ c) (h2 : c < tQ T) (ha : agr P fl T val c) : rstep P fl T c (vc P fl T val (tU T c)) = vc P fl T val c := by
  have hT := hF.2.1.1
  have hu := hT.2.1 c h1 h2
  rw [vc_s hT h1 h2]
  cases g : vc P fl T val (tU T c) with
  | none => rfl
  | some q =>
    obtain ⟨q1, q2⟩ := vc_whole hT hF.1 hv hw _ _ _ (Nat.lt_succ_self _) (show tU T c < tQ T by omega) g
    have hwq := hF.1.2.2.2.2 q q1
    have hk0 : pK (P q) ≠ 0 := (hwq.2.2.2.2.2.2.2.2.2.2.2.2.2.2.2.2 q2).1
    unfold rstep vstep
    dsimp only
    by_cases h4 : (tH T (tU T c)).1 = 4
    · by_cases e4 : pK (P q) = 4
      · rw [if_pos e4]
        by_cases e : (pK (P q), pS (P q)) = tH T (tU T c)
        · rw [if_pos e, if_pos (by rw [← e, e4])]
        · rw [if_neg e, if_neg (fun w => e (by rw [w, e4]))]
      · rw [if_neg e4]
        have hne : ¬ (pK (P q), pS (P q)) = tH T (tU T c) := fun w => e4 (by rw [← w] at h4; exact h4)
        rw [if_neg hne]
        split
        · rfl
        · rfl
    · obtain ⟨b1, b2⟩ := ha.2 h4 q g
      have e4 : ¬ pK (P q) = 4 := fun w => h4 (by rw [← b1]; exact w)
      rw [if_neg e4, if_pos b1]
      unfold sub
      rw [if_neg e4, if_pos b2]
      split
      · rfl
      · next hn =>
        have : pK (P q) = 0 ∨ pK (P q) = 1 ∨ pK (P q) = 4 := by have := pwK hwq; omega
        rw [pwN hwq this]
theorem vrL_vc (hF : SF nf fam bit np P nl fl T nr ru sa) (hv : val < np) (hw : pW (P val) = true) : ∀ (rs : List Nat) (a : Nat), chl T a rs → (∀ c, c ∈ rs → agr P fl T val c) → vrL P fl T (vc P fl T val a) rs = vc P fl T val (chE a rs) := by
  intro rs
  induction rs with
  | nil => intro a _ _; rfl
  | cons c rs ih =>
    intro a hc ha
    obtain ⟨c1, c2, c3, c4, c5⟩ := hc
    show vrL P fl T (rstep P fl T c (vc P fl T val a)) rs = vc P fl T val (chE c rs)
    have := rstep_vstep hF hv hw c1 c2 (ha c List.mem_cons_self)
    rw [c3] at this
    rw [this]
    exact ih c c5 (fun x hx => ha x (List.mem_cons_of_mem _ hx))
theorem p_partAt (hF : SF nf fam bit np P nl fl T nr ru sa) (hM : MC M nf fam bit np P nl fl T nr sa) (hv : val < np) (hw : pW (P val) = true) {p : Nat} (hp : p < tQ T) (hg : gq T (agr P fl T val) p) : ∃ M', f_Mod_partAt M (nI val) (nI p) = some (M', oI (vc P fl T val p)) ∧ mLike [31] [] [] M M' := by
  have hq := hF.2.2.2.2.2.1
  unfold f_Mod_partAt
  obtain ⟨M', rs', e1, e2, e3, e4, e5⟩ := p_part5 (Q := agr P fl T val) hF (fun c h => h.1) hv hw (p := p) zbig p [] M hM hp hg trivial rfl (fun c hc => by cases hc) (fun i hi => by simp at hi) (by unfold zbig; omega) (by simp; omega)
  refine ⟨M', ?_, e2⟩
  rw [show f_Mod_partAt_L5 zbig M (nI val) 0 (nI p) = _ from e1]
  have := vrL_vc hF hv hw rs' 0 e3 e5
  rw [vc_0, e4] at this
  rw [this]
end PVC
