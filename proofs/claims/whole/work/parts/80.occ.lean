-- PURE LAYER: which pattern a rule has at a part
def subF (P : Nat → Pt) (fl : Nat → Nat × Nat) (q : Nat) (l : Int32) : Nat → Option Nat
  | 0 => none
  | n + 1 => if nI (fN P fl q n) = l then some (fP P fl q n) else subF P fl q l n
/-- the pattern within q by a label -/
def sub (P : Nat → Pt) (fl : Nat → Nat × Nat) (q : Nat) (l : Int32) : Option Nat := if pK (P q) = 4 then subF P fl q l (pN (P q)) else if pM (P q) = l then pO (P q) else none
def ocF (P : Nat → Pt) (fl : Nat → Nat × Nat) (T : Tr) (root : Nat) : Nat → Nat → Option Nat
  | 0, _ => none
  | n + 1, p => if p = 0 then some root else match ocF P fl T root n (tU T p) with
    | none => none
    | some q => sub P fl q (tL T p)
/-- the pattern at a part -/
def oc (P : Nat → Pt) (fl : Nat → Nat × Nat) (T : Tr) (root p : Nat) : Option Nat := ocF P fl T root (p + 1) p
section POC
variable {nf : Nat} {fam : Nat → Nat} {bit : Nat → Int64} {np : Nat} {P : Nat → Pt} {nl : Nat} {fl : Nat → Nat × Nat} {T T' : Tr} {root : Nat}
theorem ocF_any (hT : TW T) : ∀ n m p, p < tQ T → p < n → p < m → ocF P fl T root n p = ocF P fl T root m p := by
  intro n
  induction n with
  | zero => intro m p _ h; omega
  | succ n ih =>
    intro m p hp h1 h2
    cases m with
    | zero => omega
    | succ m =>
      unfold ocF
      by_cases c : p = 0
      · rw [if_pos c, if_pos c]
      · have hu := hT.2.1 p (by omega) hp
        rw [if_neg c, if_neg c, ih m (tU T p) (by omega) (by omega) (by omega)]
theorem oc_0 : oc P fl T root 0 = some root := by unfold oc ocF; rw [if_pos rfl]
theorem oc_s (hT : TW T) {p : Nat} (h1 : 1 ≤ p) (h2 : p < tQ T) : oc P fl T root p = match oc P fl T root (tU T p) with
    | none => none
    | some q => sub P fl q (tL T p) := by
  have hu := hT.2.1 p h1 h2
  unfold oc
  rw [ocF, if_neg (by omega), ocF_any hT p (tU T p + 1) (tU T p) (by omega) (by omega) (by omega)]
theorem oc_sub (hT : TW T) {p q : Nat} (h1 : 1 ≤ p) (h2 : p < tQ T) (h : oc P fl T root (tU T p) = some q) : oc P fl T root p = sub P fl q (tL T p) := by rw [oc_s hT h1 h2, h]
theorem oc_up (hT : TW T) {p x : Nat} (h1 : 1 ≤ p) (h2 : p < tQ T) (h : oc P fl T root p = some x) : ∃ q, oc P fl T root (tU T p) = some q ∧ sub P fl q (tL T p) = some x := by
  rw [oc_s hT h1 h2] at h
  cases q : oc P fl T root (tU T p) with
  | none => rw [q] at h; cases h
  | some y => rw [q] at h; exact ⟨y, rfl, h⟩
theorem oc_ext (hT : TW T) (hT' : TW T') (hE : Ext T T') : ∀ n p, p < n → p < tQ T → oc P fl T' root p = oc P fl T root p := by
  intro n
  induction n with
  | zero => intro p h; omega
  | succ n ih =>
    intro p hn hp
    by_cases c : p = 0
    · subst c; rw [oc_0, oc_0]
    · have hu := hT.2.1 p (by omega) hp
      have hp' : p < tQ T' := Nat.lt_of_lt_of_le hp hE.1
      obtain ⟨e1, e2⟩ := hE.2.2.1 p hp
      rw [oc_s hT (by omega) hp, oc_s hT' (by omega) hp', e1, e2, ih (tU T p) (by omega) (by omega)]
theorem subF_ok {q : Nat} {l : Int32} {x : Nat} : ∀ {n : Nat}, subF P fl q l n = some x → ∃ j, j < n ∧ nI (fN P fl q j) = l ∧ fP P fl q j = x := by
  intro n
  induction n with
  | zero => intro h; cases h
  | succ n ih =>
    intro h
    unfold subF at h
    split at h
    · next e => exact ⟨n, by omega, e, by simpa using h⟩
    · obtain ⟨j, h1, h2, h3⟩ := ih h
      exact ⟨j, by omega, h2, h3⟩
theorem subF_at {q j : Nat} (hb : ∀ i, i < pN (P q) → fN P fl q i < 128) : ∀ {n : Nat}, n ≤ pN (P q) → j < n → (∀ i k, i < k → k < pN (P q) → fN P fl q i < fN P fl q k) → subF P fl q (nI (fN P fl q j)) n = some (fP P fl q j) := by
  intro n
  induction n with
  | zero => intro _ h; omega
  | succ n ih =>
    intro hn h hs
    unfold subF
    by_cases e : j = n
    · subst e; rw [if_pos rfl]
    · have h1 := hs j n (by omega) (by omega)
      have h2 := hb n (by omega)
      have h3 := hb j (by omega)
      rw [if_neg (by rw [nI_eq (by omega) (by omega)]; omega)]
      exact ih (by omega) (by omega) hs
theorem sub_fld {q j : Nat} (hw : pwf nf fam bit P nl fl q) (e4 : pK (P q) = 4) (hj : j < pN (P q)) : sub P fl q (nI (fN P fl q j)) = some (fP P fl q j) := by
  unfold sub
  rw [if_pos e4]
  exact subF_at (fun i hi => (pwP hw hi).2) (Nat.le_refl _) hj (pwI hw)
theorem sub_arg {q x : Nat} (e4 : pK (P q) ≠ 4) (h : pO (P q) = some x) : sub P fl q (pM (P q)) = some x := by
  unfold sub
  rw [if_neg e4, if_pos rfl]; exact h
theorem sub_lt {q x : Nat} {l : Int32} (hw : pwf nf fam bit P nl fl q) (h : sub P fl q l = some x) : x < q ∧ pK (P q) ≠ 0 ∧ pK (P q) ≠ 1 := by
  unfold sub at h
  split at h
  · next e =>
    obtain ⟨j, h1, h2, h3⟩ := subF_ok h
    exact ⟨by rw [← h3]; exact (pwP hw h1).1, by omega, by omega⟩
  · split at h
    · refine ⟨(pwO hw h).1, fun e => ?_, fun e => ?_⟩
      · rw [pwN hw (Or.inl e)] at h; cases h
      · rw [pwN hw (Or.inr (Or.inl e))] at h; cases h
    · cases h
theorem oc_lt (hT : TW T) (hW : PWF nf fam bit np P nl fl) (hr : root < np) : ∀ n p x, p < n → p < tQ T → oc P fl T root p = some x → x < np := by
  intro n
  induction n with
  | zero => intro p x h; omega
  | succ n ih =>
    intro p x hn hp h
    by_cases c : p = 0
    · subst c; rw [oc_0] at h; cases h; exact hr
    · have hu := hT.2.1 p (by omega) hp
      obtain ⟨q, h1, h2⟩ := oc_up hT (by omega) hp h
      have hq := ih (tU T p) q (by omega) (by omega) h1
      have := (sub_lt (hW.2.2.2.2 q hq) h2).1
      omega
/-- two patterns that go together, go together at every part that both have -/
theorem oc_TG (hT : TW T) (hW : PWF nf fam bit np P nl fl) {a b : Nat} (ha : a < np) (hb : b < np) (h : TG P fl a b) : ∀ n p x y, p < n → p < tQ T → oc P fl T a p = some x → oc P fl T b p = some y → TG P fl x y := by
  have hw := hW.2.2.2.2
  have hk : ∀ a b q, a < np → q ∈ kidG P fl a b → q.1 < a := fun a b q ha hq => kidG_1 (hw a ha) hq
  intro n
  induction n with
  | zero => intro p x y h; omega
  | succ n ih =>
    intro p x y hn hp hx hy
    by_cases c : p = 0
    · subst c
      rw [oc_0] at hx hy
      cases hx; cases hy
      exact h
    · have hu := hT.2.1 p (by omega) hp
      obtain ⟨x', h1, h2⟩ := oc_up hT (by omega) hp hx
      obtain ⟨y', k1, k2⟩ := oc_up hT (by omega) hp hy
      have hx' := oc_lt hT hW ha _ _ _ (Nat.lt_succ_self _) (by omega) h1
      have hy' := oc_lt hT hW hb _ _ _ (Nat.lt_succ_self _) (by omega) k1
      have tg := ih (tU T p) x' y' (by omega) (by omega) h1 k1
      obtain ⟨g1, g2⟩ := (Hh_iff hk hx').mp tg
      have nx := (sub_lt (hw x' hx') h2).2
      have ny := (sub_lt (hw y' hy') k2).2
      rcases g1 with g | g | ⟨g3, g4, g5⟩
      · exact absurd g nx.1
      · exact absurd g ny.1
      · unfold sub at h2 k2
        by_cases e4 : pK (P x') = 4
        · rw [if_pos e4] at h2
          rw [if_pos (g3 ▸ e4)] at k2
          obtain ⟨i, i1, i2, i3⟩ := subF_ok h2
          obtain ⟨j, j1, j2, j3⟩ := subF_ok k2
          have bi := (pwP (hw x' hx') i1).2
          have bj := (pwP (hw y' hy') j1).2
          have en : fN P fl x' i = fN P fl y' j := by
            rw [← j2] at i2
            exact (nI_eq (by omega) (by omega)).mp i2
          refine g2 (x, y) ?_
          unfold kidG
          rw [if_neg (by rw [pw4 (hw x' hx') e4, pw4 (hw y' hy') (g3 ▸ e4)]; simp [nx.1, ny.1])]
          unfold kk
          rw [if_pos e4]
          rw [← i3]
          refine kkF_in i1 ?_
          rw [en, ← j3]
          exact fnd_at j1 (pwI (hw y' hy'))
        · rw [if_neg e4] at h2
          rw [if_neg (g3 ▸ e4)] at k2
          split at h2
          · next m1 =>
            split at k2
            · next m2 =>
              refine g2 (x, y) ?_
              unfold kidG
              rw [if_neg (by rw [m1, m2]; simp [nx.1, ny.1])]
              unfold kk
              rw [if_neg e4, h2, k2]
              simp
            · cases k2
          · cases h2
/-- the parts above c are justified by asks before k -/
def chF (P : Nat → Pt) (fl : Nat → Nat × Nat) (T : Tr) (root r k : Nat) : Nat → Nat → Prop
  | 0, _ => False
  | n + 1, c => c = 0 ∨ ∃ q, oc P fl T root (tU T c) = some q ∧ tH T (tU T c) = (pK (P q), pS (P q)) ∧ (pK (P q) = 4 ∨ ∃ k', k' < k ∧ tK T k' = (r, tU T c, q)) ∧ chF P fl T root r k n (tU T c)
def chn (P : Nat → Pt) (fl : Nat → Nat × Nat) (T : Tr) (root r k c : Nat) : Prop := chF P fl T root r k (c + 1) c
theorem chF_any (hT : TW T) {r k : Nat} : ∀ n m c, c < tQ T → c < n → c < m → (chF P fl T root r k n c ↔ chF P fl T root r k m c) := by
  intro n
  induction n with
  | zero => intro m c _ h; omega
  | succ n ih =>
    intro m c hc h1 h2
    cases m with
    | zero => omega
    | succ m =>
      unfold chF
      by_cases d : c = 0
      · simp [d]
      · have hu := hT.2.1 c (by omega) hc
        refine or_congr_right ?_
        refine exists_congr (fun q => ?_)
        refine and_congr_right (fun _ => and_congr_right (fun _ => and_congr_right (fun _ => ?_)))
        exact ih m (tU T c) (by omega) (by omega) (by omega)
theorem chn_0 {r k : Nat} : chn P fl T root r k 0 := Or.inl rfl
theorem chn_s (hT : TW T) {r k c : Nat} (h1 : 1 ≤ c) (h2 : c < tQ T) : chn P fl T root r k c ↔ ∃ q, oc P fl T root (tU T c) = some q ∧ tH T (tU T c) = (pK (P q), pS (P q)) ∧ (pK (P q) = 4 ∨ ∃ k', k' < k ∧ tK T k' = (r, tU T c, q)) ∧ chn P fl T root r k (tU T c) := by
  have hu := hT.2.1 c h1 h2
  unfold chn
  rw [chF]
  constructor
  · intro h
    rcases h with h | ⟨q, a1, a2, a3, a4⟩
    · omega
    · exact ⟨q, a1, a2, a3, (chF_any hT _ _ _ (by omega) (by omega) (by omega)).mp a4⟩
  · intro ⟨q, a1, a2, a3, a4⟩
    exact Or.inr ⟨q, a1, a2, a3, (chF_any hT _ _ _ (by omega) (by omega) (by omega)).mp a4⟩
/-- it stays when parts and asks are added, and no shape changes -/
theorem chn_ext (hT : TW T) (hT' : TW T') (hE : Ext T T') (hS : ∀ i, i < tQ T → (tH T i).1 ≠ 0 → tH T' i = tH T i) (hW : PWF nf fam bit np P nl fl) (hr : root < np) {r k k' : Nat} (hk : k ≤ k') (hkA : k ≤ tA T) : ∀ n c, c < n → c < tQ T → chn P fl T root r k c → (c ≠ 0 → ∃ x, oc P fl T root c = some x) → chn P fl T' root r k' c := by
  intro n
  induction n with
  | zero => intro c h; omega
  | succ n ih =>
    intro c hn hc h hx
    by_cases d : c = 0
    · subst d; exact chn_0
    · have hu := hT.2.1 c (by omega) hc
      have hc' : c < tQ T' := Nat.lt_of_lt_of_le hc hE.1
      obtain ⟨q, a1, a2, a3, a4⟩ := (chn_s hT (by omega) hc).mp h
      obtain ⟨e1, e2⟩ := hE.2.2.1 c hc
      obtain ⟨x, ex⟩ := hx d
      have hq := oc_lt hT hW hr _ _ _ (Nat.lt_succ_self _) (by omega) a1
      have nq : pK (P q) ≠ 0 := by
        rw [oc_sub hT (by omega) hc a1] at ex
        exact (sub_lt (hW.2.2.2.2 q hq) ex).2.1
      refine (chn_s hT' (by omega) hc').mpr ⟨q, ?_, ?_, ?_, ?_⟩
      · rw [e1, oc_ext hT hT' hE _ _ (Nat.lt_succ_self _) (by omega)]; exact a1
      · rw [e1, hS _ (by omega) (by rw [a2]; exact nq)]; exact a2
      · rcases a3 with y | ⟨j, y1, y2⟩
        · exact Or.inl y
        · exact Or.inr ⟨j, by omega, by rw [hE.2.2.2 j (by omega), e1]; exact y2⟩
      · rw [e1]
        exact ih (tU T c) (by omega) (by omega) a4 (fun _ => ⟨q, a1⟩)
end POC
