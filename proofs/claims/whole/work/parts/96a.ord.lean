-- PURE LAYER: in which order the nodes come
def aosF (A : Am) : Nat → Nat → Nat → Prop
  | 0, _, _ => False
  | n + 1, v, u => v = u ∨ ∃ u', aU A u = some u' ∧ aosF A n v u'
/-- v is u, or lies above it -/
def aos (A : Am) (v u : Nat) : Prop := aosF A (u + 1) v u
/-- what comes later lies below the nodes on the way; what does not lie above a node was done before it -/
def PRE (T : Tr) (P : Nat → Pt) (nr : Nat) (fam : Nat → Nat) (A : Am) : Prop := (∀ n u, n < aN A → aU A n = some u → ∀ v, v < n → ¬ aos A v u → doneV T P nr fam A v ∧ ∀ w, w ∈ aC A v → w < n) ∧ (∀ v, v < aN A → (aC A v).Pairwise (· < ·) ∧ ∀ w, w ∈ aC A v → w < aN A ∧ v < w ∧ aU A w = some v) ∧ aL A 0 = none
def ORD (T : Tr) (P : Nat → Pt) (nr : Nat) (fam : Nat → Nat) (A : Am) (d : Nat) (pf : Nat → Nat) : Prop := (∀ i, i ≤ d → ∀ n u, pf i < n → n < aN A → aU A n = some u → aos A (pf i) u) ∧ PRE T P nr fam A
section POR
variable {T : Tr} {nr : Nat} {sa : Nat → Nat} {fam : Nat → Nat} {P : Nat → Pt} {A A' : Am} {d : Nat} {pf : Nat → Nat} {lab : Option Int32} {po : Nat → Bool} {lk : List Nat} {R K : Option Nat} {nN : Nat → Option Nat}
theorem aU_lt (hT : TI T P nr sa fam A) {v u : Nat} (hv : v < aN A) (e : aU A v = some u) : u < v ∧ 1 ≤ v := by
  have nz : v ≠ 0 := fun z => by rw [z, hT.1.2.1] at e; cases e
  obtain ⟨u', p, b1, b2, _⟩ := hT.2.1 v (by omega) hv
  rw [e] at b2; cases b2
  exact ⟨b1, by omega⟩
theorem aosF_any (hT : TI T P nr sa fam A) : ∀ n m v u, u < aN A → u < n → u < m → (aosF A n v u ↔ aosF A m v u) := by
  intro n
  induction n with
  | zero => intro m v u _ h; omega
  | succ n ih =>
    intro m v u hu h1 h2
    cases m with
    | zero => omega
    | succ m =>
      unfold aosF
      refine or_congr_right (exists_congr (fun u' => and_congr_right (fun e => ?_)))
      have := (aU_lt hT hu e).1
      exact ih m v u' (by omega) (by omega) (by omega)
theorem aos_rf {v : Nat} : aos A v v := Or.inl rfl
theorem aos_s (hT : TI T P nr sa fam A) {v u u' : Nat} (hu : u < aN A) (e : aU A u = some u') (h : aos A v u') : aos A v u := by
  have := (aU_lt hT hu e).1
  unfold aos
  rw [aosF]
  exact Or.inr ⟨u', e, (aosF_any hT u (u' + 1) v u' (by omega) (by omega) (by omega)).mpr h⟩
theorem aosF_same (h : ∀ x, x < aN A → aU A' x = aU A x) (hT : TI T P nr sa fam A) : ∀ n v u, u < aN A → (aosF A' n v u ↔ aosF A n v u) := by
  intro n
  induction n with
  | zero => intro v u _; exact Iff.rfl
  | succ n ih =>
    intro v u hu
    unfold aosF
    rw [h u hu]
    refine or_congr_right (exists_congr (fun u' => and_congr_right (fun e => ?_)))
    have := (aU_lt hT hu e).1
    exact ih v u' (by omega)
theorem aos_same (h : ∀ x, x < aN A → aU A' x = aU A x) (hT : TI T P nr sa fam A) {v u : Nat} (hu : u < aN A) : aos A' v u ↔ aos A v u := aosF_same h hT _ v u hu
theorem pf_aos (hT : TI T P nr sa fam A) (hp : PTH A d pf) : ∀ j, j ≤ d → ∀ i, i ≤ j → aos A (pf i) (pf j) := by
  intro j
  induction j with
  | zero =>
    intro _ i hi
    have : i = 0 := by omega
    rw [this]; exact aos_rf
  | succ j ih =>
    intro hj i hi
    by_cases e : i = j + 1
    · rw [e]; exact aos_rf
    · exact aos_s hT (PTH_n hp hj) (hp.2.2 j (by omega)).1 (ih (by omega) i (by omega))
theorem ORD_push (hT : TI T P nr sa fam A) (hp : PTH A d pf) (hKI : KI A nN) (h : ORD T P nr fam A d pf) (hdone : ∀ v, v < aN A → (∀ i, i ≤ d → v ≠ pf i) → doneV T P nr fam A v) (hdn : ∀ v, v < aN A → v ≠ pf d → doneV T P nr fam A v → doneV T P nr fam (amAdd T A (some (pf d)) lab po lk R K) v) : ORD T P nr fam (amAdd T A (some (pf d)) lab po lk R K) (d + 1) (va_up pf (d + 1) (aN A)) := by
  have hv := hp.2.1
  generalize hA' : amAdd T A (some (pf d)) lab po lk R K = A' at hdn ⊢
  have nA' : aN A' = aN A + 1 := by rw [← hA']; rfl
  have eU : ∀ x, x < aN A → aU A' x = aU A x := fun x hx => by rw [← hA']; exact am_U hx
  have eUn : aU A' (aN A) = some (pf d) := by rw [← hA']; exact am_Un
  have eC : ∀ x, x < aN A → x ≠ pf d → aC A' x = aC A x := fun x hx hne => by rw [← hA']; exact am_C hx hne
  have eCv : aC A' (pf d) = aC A (pf d) ++ [aN A] := by rw [← hA']; exact am_Cv
  have eCn : aC A' (aN A) = [] := by rw [← hA']; exact am_Cn hv
  refine ⟨fun i hi n u h1 h2 h3 => ?_, fun n u h1 h2 v h3 h4 => ?_, fun v hv' => ?_, ?_⟩
  · rw [nA'] at h2
    by_cases ei : i = d + 1
    · rw [ei, va_s] at h1; omega
    · rw [va_n ei] at h1 ⊢
      by_cases en : n = aN A
      · rw [en, eUn] at h3; cases h3
        exact (aos_same eU hT hv).mpr (pf_aos hT hp d (Nat.le_refl _) i (by omega))
      · rw [eU n (by omega)] at h3
        have hu := (aU_lt hT (show n < aN A by omega) h3).1
        exact (aos_same eU hT (by omega)).mpr (h.1 i (by omega) n u h1 (by omega) h3)
  · rw [nA'] at h1
    by_cases en : n = aN A
    · rw [en, eUn] at h2; cases h2
      rw [aos_same eU hT hv] at h4
      have hvA : v < aN A := by omega
      have hne : ∀ i, i ≤ d → v ≠ pf i := fun i hi e => h4 (by rw [e]; exact pf_aos hT hp d (Nat.le_refl _) i hi)
      refine ⟨hdn v hvA (hne d (Nat.le_refl _)) (hdone v hvA hne), fun w hw => ?_⟩
      rw [eC v hvA (hne d (Nat.le_refl _))] at hw
      rw [en]; exact ((hKI v hvA).2 w hw).1
    · rw [eU n (by omega)] at h2
      have hu := (aU_lt hT (show n < aN A by omega) h2).1
      rw [aos_same eU hT (by omega)] at h4
      obtain ⟨a, b⟩ := h.2.1 n u (by omega) h2 v h3 h4
      have hne : v ≠ pf d := fun e => h4 (by rw [e]; exact h.1 d (Nat.le_refl _) n u (by omega) (by omega) h2)
      refine ⟨hdn v (by omega) hne a, fun w hw => ?_⟩
      rw [eC v (by omega) hne] at hw
      exact b w hw
  · rw [nA'] at hv'
    rw [nA']
    by_cases en : v = aN A
    · rw [en, eCn]; exact ⟨List.Pairwise.nil, (by intro w hw; cases hw)⟩
    · have old := h.2.2.1 v (by omega)
      by_cases ed : v = pf d
      · rw [ed, eCv]
        rw [ed] at old
        refine ⟨List.pairwise_append.mpr ⟨old.1, List.pairwise_singleton _ _, fun a ha b hb => ?_⟩, fun w hw => ?_⟩
        · have : b = aN A := by simpa using hb
          rw [this]
          exact ((hKI (pf d) hv).2 a ha).1
        · rcases List.mem_append.mp hw with m | m
          · obtain ⟨a1, a2, a3⟩ := old.2 w m
            exact ⟨by omega, a2, by rw [eU w a1]; exact a3⟩
          · have : w = aN A := by simpa using m
            rw [this]
            exact ⟨by omega, hv, eUn⟩
      · rw [eC v (by omega) ed]
        exact ⟨old.1, fun w hw => by
          obtain ⟨a1, a2, a3⟩ := old.2 w hw
          exact ⟨by omega, a2, by rw [eU w a1]; exact a3⟩⟩
  · have := hT.1.1
    rw [← hA', am_L (by omega)]
    exact h.2.2.2
theorem ORD_less {d' : Nat} {pf' : Nat → Nat} (h : ORD T P nr fam A d pf) (hd : d' ≤ d) (he : ∀ i, i ≤ d' → pf' i = pf i) : ORD T P nr fam A d' pf' := ⟨fun i hi => by rw [he i hi]; exact h.1 i (by omega), h.2⟩
theorem ORD_0 (h1 : aN A = 1) (h2 : aU A 0 = none) (h3 : aC A 0 = []) (h4 : aL A 0 = none) : ORD T P nr fam A d pf := by
  refine ⟨fun i _ n u _ hn e => ?_, fun n u hn e => ?_, fun v hv => ?_, h4⟩
  · have : n = 0 := by omega
    rw [this, h2] at e; cases e
  · have : n = 0 := by omega
    rw [this, h2] at e; cases e
  · have : v = 0 := by omega
    rw [this, h3]; exact ⟨List.Pairwise.nil, (by intro w hw; cases hw)⟩
end POR
