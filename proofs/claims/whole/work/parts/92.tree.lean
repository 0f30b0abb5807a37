-- PURE LAYER: what the tree keeps to
/-- the branches that a node has so far -/
def kidOK (T : Tr) (P : Nat → Pt) (nr : Nat) (fam : Nat → Nat) (A : Am) (v p : Nat) (ls : List Int32) (os : List (Option Int32)) : Prop :=
  (aC A v).map (aL A) = ls.map some ++ os ∧ (os = [] ∨ os = [none]) ∧ ls.Pairwise (· < ·) ∧ (∀ x, x ∈ ls → nuR T P (aO A v) p nr x) ∧ (∀ y, nuR T P (aO A v) p nr y → y ∉ ls → ∀ x, x ∈ ls → x < y) ∧ (os = [none] → (∀ y, nuR T P (aO A v) p nr y → y ∈ ls) ∧ ls.length < allOf fam (tH T p))
/-- a node with all its branches -/
def doneV (T : Tr) (P : Nat → Pt) (nr : Nat) (fam : Nat → Nat) (A : Am) (v : Nat) : Prop := ∀ p, aP A v = some p → ∃ ls os, kidOK T P nr fam A v p ls os ∧ (∀ y, nuR T P (aO A v) p nr y → y ∈ ls) ∧ (ls.length < allOf fam (tH T p) → os = [none])
/-- one node, seen from above -/
def upOK (T : Tr) (P : Nat → Pt) (nr : Nat) (A : Am) (v : Nat) : Prop := ∃ u p, u < v ∧ aU A v = some u ∧ aP A u = some p ∧ (∀ r, r < nr → aO A v r = nar T P (aO A u) p (aL A v) r) ∧ aW A v = p :: aW A u ∧ aD A v = aD A u + 1 ∧ v ∈ aC A u
/-- what a node looks at -/
def lookOK (T : Tr) (nr : Nat) (sa : Nat → Nat) (A : Am) (v : Nat) : Prop := fP1 (aO A v) nr 0 (aR A v) ∧ (aR A v = none → aK A v = none) ∧ (∀ r, aR A v = some r → fA T (aW A v) (sa r) (sx T nr sa r) (aK A v)) ∧ aP A v = (aK A v).map (fun k => (tK T k).2.1)
def TI (T : Tr) (P : Nat → Pt) (nr : Nat) (sa : Nat → Nat) (fam : Nat → Nat) (A : Am) : Prop :=
  (1 ≤ aN A ∧ aU A 0 = none ∧ aD A 0 = 0 ∧ aW A 0 = [] ∧ ∀ r, r < nr → aO A 0 r = true) ∧ (∀ v, 1 ≤ v → v < aN A → upOK T P nr A v) ∧ (∀ v, v < aN A → lookOK T nr sa A v) ∧ ∀ v, v < aN A → (aP A v = none → aC A v = []) ∧ ∀ p, aP A v = some p → ∃ ls os, kidOK T P nr fam A v p ls os
def lsUp (ls : List Int32) : Option Int32 → List Int32
  | none => ls
  | some x => ls ++ [x]
def osUp : Option Int32 → List (Option Int32)
  | none => [none]
  | some _ => []
section PTI
variable {T : Tr} {nr : Nat} {sa : Nat → Nat} {nf : Nat} {fam : Nat → Nat} {bit : Nat → Int64} {np : Nat} {P : Nat → Pt} {nl : Nat} {fl : Nat → Nat × Nat} {ru : Nat → Nat} {A : Am}
theorem nuR_congr {po po' : Nat → Bool} {p : Nat} (h : ∀ r, r < nr → po r = po' r) {x : Int32} : nuR T P po p nr x ↔ nuR T P po' p nr x := by
  constructor
  · intro ⟨r, q, h1, h2, h3⟩; exact ⟨r, q, h1, by rw [← h r h1]; exact h2, h3⟩
  · intro ⟨r, q, h1, h2, h3⟩; exact ⟨r, q, h1, by rw [h r h1]; exact h2, h3⟩
/-- the last number among the branches -/
theorem isNx_ls {nu : Int32 → Prop} {ls : List Int32} (hs : ls.Pairwise (· < ·)) (hi : ∀ y, nu y → y ∉ ls → ∀ x, x ∈ ls → x < y) {o : Option Int32} (h : isNx nu ls.getLast? o) : (∀ x, o = some x → nu x ∧ (∀ y, y ∈ ls → y < x) ∧ ∀ y, nu y → y ∉ ls → x ≤ y) ∧ (o = none → ∀ y, nu y → y ∈ ls) := by
  have top : ∀ l, ls.getLast? = some l → l ∈ ls ∧ ∀ y, y ∈ ls → y ≤ l := by
    intro l e
    rcases List.eq_nil_or_concat ls with q | ⟨k, w, q⟩
    · subst q; cases e
    · subst q
      rw [List.concat_eq_append] at *
      have : w = l := by simpa using e
      subst this
      refine ⟨by simp, fun y hy => ?_⟩
      rcases List.mem_append.mp hy with z | z
      · have := (List.pairwise_append.mp hs).2.2 y z w (by simp)
        rw [Int32.lt_iff_toInt_lt] at this
        rw [Int32.le_iff_toInt_le]; omega
      · have : y = w := by simpa using z
        rw [this, Int32.le_iff_toInt_le]; omega
  have aftAll : ∀ y, (∀ x, x ∈ ls → x < y) → aft ls.getLast? y := fun y hy l e => hy l (top l e).1
  constructor
  · intro x ex
    subst ex
    refine ⟨h.1, fun y hy => ?_, fun y hy hn => h.2.2 y hy (aftAll y (hi y hy hn))⟩
    cases q : ls.getLast? with
    | none => have := List.getLast?_eq_none_iff.mp q; subst this; cases hy
    | some l =>
      have h1 := h.2.1 l q
      have h2 := (top l q).2 y hy
      exact i32_ltr h2 h1
  · intro e y hy
    subst e
    apply Classical.byContradiction
    intro hn
    exact h y hy (aftAll y (hi y hy hn))
/-- a branch is added -/
theorem TI_add (h : TI T P nr sa fam A) {v p : Nat} (hv : v < aN A) (hp : aP A v = some p) {ls : List Int32} (hk : kidOK T P nr fam A v p ls []) {lab : Option Int32} (hl1 : ∀ x, lab = some x → nuR T P (aO A v) p nr x ∧ (∀ y, y ∈ ls → y < x) ∧ ∀ y, nuR T P (aO A v) p nr y → y ∉ ls → x ≤ y) (hl2 : lab = none → (∀ y, nuR T P (aO A v) p nr y → y ∈ ls) ∧ ls.length < allOf fam (tH T p))
    {po : Nat → Bool} (hpo : ∀ r, r < nr → po r = nar T P (aO A v) p lab r) {lk : List Nat} (hlk : lk = p :: aW A v) {R K : Option Nat} (h1 : fP1 po nr 0 R) (h2 : R = none → K = none) (h3 : ∀ r, R = some r → fA T lk (sa r) (sx T nr sa r) K) (hfresh : ∀ w, w < aN A → ∀ x, x ∈ aC A w → x < aN A) : TI T P nr sa fam (amAdd T A (some v) lab po lk R K) ∧ kidOK T P nr fam (amAdd T A (some v) lab po lk R K) v p (lsUp ls lab) (osUp lab) ∧ ∀ w, w < aN A → w ≠ v → doneV T P nr fam A w → doneV T P nr fam (amAdd T A (some v) lab po lk R K) w := by
  obtain ⟨⟨i1, i2, i3, i4, i5⟩, ii, iii, iv⟩ := h
  have hvn : v ≠ aN A := by omega
  -- old nodes look the same
  have oP : ∀ w, w < aN A → aP (amAdd T A (some v) lab po lk R K) w = aP A w := fun w hw => va_n (show w ≠ aN A by omega)
  have oR : ∀ w, w < aN A → aR (amAdd T A (some v) lab po lk R K) w = aR A w := fun w hw => va_n (show w ≠ aN A by omega)
  have oK : ∀ w, w < aN A → aK (amAdd T A (some v) lab po lk R K) w = aK A w := fun w hw => va_n (show w ≠ aN A by omega)
  have oU : ∀ w, w < aN A → aU (amAdd T A (some v) lab po lk R K) w = aU A w := fun w hw => va_n (show w ≠ aN A by omega)
  have oL : ∀ w, w < aN A → aL (amAdd T A (some v) lab po lk R K) w = aL A w := fun w hw => va_n (show w ≠ aN A by omega)
  have oD : ∀ w, w < aN A → aD (amAdd T A (some v) lab po lk R K) w = aD A w := fun w hw => va_n (show w ≠ aN A by omega)
  have oO : ∀ w, w < aN A → aO (amAdd T A (some v) lab po lk R K) w = aO A w := fun w hw => va_n (show w ≠ aN A by omega)
  have oW : ∀ w, w < aN A → aW (amAdd T A (some v) lab po lk R K) w = aW A w := fun w hw => va_n (show w ≠ aN A by omega)
  have oC : ∀ w, w < aN A → w ≠ v → aC (amAdd T A (some v) lab po lk R K) w = aC A w := fun w hw hne => by
    show va_up (va_up (aC A) (aN A) []) v (aC A v ++ [aN A]) w = _
    rw [va_n hne, va_n (by omega)]
  have vC : aC (amAdd T A (some v) lab po lk R K) v = aC A v ++ [aN A] := va_s
  have nC : aC (amAdd T A (some v) lab po lk R K) (aN A) = [] := by
    show va_up (va_up (aC A) (aN A) []) v (aC A v ++ [aN A]) (aN A) = _
    rw [va_n (Ne.symm hvn), va_s]
  have nP : aP (amAdd T A (some v) lab po lk R K) (aN A) = K.map (fun k => (tK T k).2.1) := va_s
  have mapOld : ∀ w, w < aN A → (aC A w).map (aL (amAdd T A (some v) lab po lk R K)) = (aC A w).map (aL A) := fun w hw => List.map_congr_left (fun x hx => oL x (hfresh w hw x hx))
  have kidSame : ∀ w, w < aN A → w ≠ v → ∀ p' ls' os', kidOK T P nr fam A w p' ls' os' → kidOK T P nr fam (amAdd T A (some v) lab po lk R K) w p' ls' os' := by
    intro w hw hne p' ls' os' ⟨c1, c2⟩
    unfold kidOK
    rw [oC w hw hne, mapOld w hw, oO w hw]
    exact ⟨c1, c2⟩
  have nL : aL (amAdd T A (some v) lab po lk R K) (aN A) = lab := va_s
  obtain ⟨k1, k2, k3, k4, k5, k6⟩ := hk
  have kidV : kidOK T P nr fam (amAdd T A (some v) lab po lk R K) v p (lsUp ls lab) (osUp lab) := by
    unfold kidOK
    rw [vC, List.map_append, mapOld v hv, k1, oO v hv]
    cases lab with
    | none =>
      obtain ⟨l1, l2⟩ := hl2 rfl
      refine ⟨?_, Or.inr rfl, k3, k4, k5, fun _ => ⟨l1, l2⟩⟩
      show ls.map some ++ [] ++ [aL (amAdd T A (some v) none po lk R K) (aN A)] = ls.map some ++ [none]
      rw [nL, List.append_nil]
    | some x =>
      obtain ⟨l1, l2, l3⟩ := hl1 x rfl
      refine ⟨?_, Or.inl rfl, ?_, fun y hy => ?_, fun y hy hn z hz => ?_, (by intro e; cases e)⟩
      · show ls.map some ++ [] ++ [aL (amAdd T A (some v) (some x) po lk R K) (aN A)] = (ls ++ [x]).map some ++ []
        rw [nL]; simp
      · exact List.pairwise_append.mpr ⟨k3, List.pairwise_singleton _ _, fun a ha b hb => by
          have : b = x := by simpa using hb
          rw [this]; exact l2 a ha⟩
      · rcases List.mem_append.mp hy with z | z
        · exact k4 y z
        · have : y = x := by simpa using z
          rw [this]; exact l1
      · have hny : y ∉ ls := fun m => hn (List.mem_append_left _ m)
        have hyx : y ≠ x := fun e => hn (by rw [e]; show x ∈ ls ++ [x]; simp)
        rcases List.mem_append.mp hz with w | w
        · exact k5 y hy hny z w
        · have : z = x := by simpa using w
          rw [this]
          exact i32_eq (l3 y hy hny) (fun e => hyx e)
  refine ⟨⟨⟨by show 1 ≤ aN A + 1; omega, by rw [oU 0 (by omega)]; exact i2, by rw [oD 0 (by omega)]; exact i3, by rw [oW 0 (by omega)]; exact i4, fun r hr => by rw [oO 0 (by omega)]; exact i5 r hr⟩, fun w w1 w2 => ?_, fun w w2 => ?_, fun w w2 => ?_⟩, kidV, fun w hw hne hd => ?_⟩
  · have w2 : w < aN A + 1 := w2
    by_cases c : w = aN A
    · subst c
      refine ⟨v, p, hv, va_s, by rw [oP v hv]; exact hp, fun r hr => ?_, ?_, ?_, by rw [vC]; simp⟩
      · have : aO (amAdd T A (some v) lab po lk R K) (aN A) = po := va_s
        rw [this, hpo r hr, oO v hv, nL]
      · have : aW (amAdd T A (some v) lab po lk R K) (aN A) = lk := va_s
        rw [this, oW v hv]; exact hlk
      · have : aD (amAdd T A (some v) lab po lk R K) (aN A) = aD A v + 1 := va_s
        rw [this, oD v hv]
    · obtain ⟨u, q, b1, b2, b3, b4, b5, b6, b7⟩ := ii w w1 (by omega)
      refine ⟨u, q, b1, by rw [oU w (by omega)]; exact b2, by rw [oP u (by omega)]; exact b3, fun r hr => by rw [oO w (by omega), oO u (by omega), oL w (by omega)]; exact b4 r hr, by rw [oW w (by omega), oW u (by omega)]; exact b5, by rw [oD w (by omega), oD u (by omega)]; exact b6, ?_⟩
      by_cases d : u = v
      · rw [d, vC]; exact List.mem_append_left _ (by rw [← d]; exact b7)
      · rw [oC u (by omega) d]; exact b7
  · have w2 : w < aN A + 1 := w2
    by_cases c : w = aN A
    · subst c
      have eO : aO (amAdd T A (some v) lab po lk R K) (aN A) = po := va_s
      have eR : aR (amAdd T A (some v) lab po lk R K) (aN A) = R := va_s
      have eK : aK (amAdd T A (some v) lab po lk R K) (aN A) = K := va_s
      have eW : aW (amAdd T A (some v) lab po lk R K) (aN A) = lk := va_s
      unfold lookOK
      rw [eO, eR, eK, eW, nP]
      exact ⟨h1, h2, h3, rfl⟩
    · have := iii w (by omega)
      unfold lookOK at this ⊢
      rw [oO w (by omega), oR w (by omega), oK w (by omega), oW w (by omega), oP w (by omega)]
      exact this
  · have w2 : w < aN A + 1 := w2
    by_cases c : w = aN A
    · subst c
      refine ⟨fun _ => nC, fun p' _ => ⟨[], [], ?_⟩⟩
      unfold kidOK
      rw [nC]
      exact ⟨rfl, Or.inl rfl, List.Pairwise.nil, (by intro x hx; cases hx), (by intro y _ _ x hx; cases hx), (by intro e; cases e)⟩
    · by_cases d : w = v
      · subst d
        refine ⟨fun e => ?_, fun p' e => ?_⟩
        · rw [oP w hv, hp] at e; cases e
        · rw [oP w hv, hp] at e; cases e
          exact ⟨_, _, kidV⟩
      · obtain ⟨j1, j2⟩ := iv w (by omega)
        refine ⟨fun e => ?_, fun p' e => ?_⟩
        · rw [oC w (by omega) d]; exact j1 (by rw [← oP w (by omega)]; exact e)
        · obtain ⟨ls', os', j3⟩ := j2 p' (by rw [← oP w (by omega)]; exact e)
          exact ⟨ls', os', kidSame w (by omega) d p' ls' os' j3⟩
  · intro p' e
    rw [oP w hw] at e
    obtain ⟨ls', os', j1, j2, j3⟩ := hd p' e
    refine ⟨ls', os', kidSame w hw hne p' ls' os' j1, ?_, j3⟩
    rw [oO w hw]; exact j2
end PTI
