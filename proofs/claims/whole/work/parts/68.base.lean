-- PURE LAYER: the relation of families, patterns, pushed fields; the calls family, any, constant, built, name
theorem pwf_ext {nf nf' : Nat} {fam fam' : Nat → Nat} {bit bit' : Nat → Int64} {P P' : Nat → Pt} {nl nl' : Nat} {fl fl' : Nat → Nat × Nat} {i : Nat} (h : pwf nf fam bit P nl fl i) (hP : ∀ j, j ≤ i → P' j = P j) (hl : nl ≤ nl') (hfl : ∀ j, j < nl → fl' j = fl j) (hf : nf ≤ nf') (hfam : ∀ f, f < nf → fam' f = fam f ∧ bit' f = bit f) : pwf nf' fam' bit' P' nl' fl' i := by
  have hB := pwB h
  have eN : ∀ j, j < pN (P i) → fN P' fl' i j = fN P fl i j := fun j hj => by unfold fN; rw [hP i (Nat.le_refl _), hfl _ (by omega)]
  have eP : ∀ j, j < pN (P i) → fP P' fl' i j = fP P fl i j := fun j hj => by unfold fP; rw [hP i (Nat.le_refl _), hfl _ (by omega)]
  obtain ⟨a1, a2, a3, a4, a5, a6, a7, a8, a9, a10, a11, a12, a13, a14, a15, a16, a17⟩ := h
  unfold pwf
  rw [hP i (Nat.le_refl _)]
  refine ⟨a1, a2, a3, a4, a5, a6, a7, fun j e => ?_, by omega, a10, fun j hj => ?_, fun j k h1 h2 => ?_, fun e => ?_, fun e => ?_, a15, a16, fun e => ?_⟩
  · have := a8 j e
    rw [hP j (by omega)]; exact this
  · rw [eP j hj, eN j hj]; exact a11 j hj
  · rw [eN j (by omega), eN k h2]; exact a12 j k h1 h2
  · rw [a13 e]
    congr 1
    refine zsum_congr (fun j hj => ?_)
    rw [eP j hj, hP _ (by have := (a11 j hj).1; omega)]
  · obtain ⟨f, t, b1, b2, b3, b4, b5⟩ := a14 e
    exact ⟨f, t, b1, b2, by omega, by rw [(hfam f b3).1]; exact b4, by rw [(hfam f b3).2]; exact b5⟩
  · obtain ⟨b1, b2, b3⟩ := a17 e
    refine ⟨b1, fun j ej => ?_, fun j hj => ?_⟩
    · rw [hP j (by have := a8 j ej; omega)]; exact b2 j ej
    · rw [eP j hj, hP _ (by have := (a11 j hj).1; omega)]; exact b3 j hj
def FC (S : zS) (nf : Nat) (fam : Nat → Nat) (bit : Nat → Int64) : Prop := S.1 0 = rowOf nf (fun i => nI (fam i)) ∧ ∀ i, i < nf → S.2.2.2 i = bit i
def FM (M : zM) (nf : Nat) (fam : Nat → Nat) (bit : Nat → Int64) : Prop := M.2.2 0 = nI nf ∧ ∀ i, i < nf → M.1 0 i = nI (fam i) ∧ M.2.1 1 i = bit i
/-- what waits at a field -/
def plk (ps : Nat → Nat × Nat) (f : Nat) : Nat → Option Nat
  | 0 => none
  | n + 1 => if (ps n).1 = f then some (ps n).2 else plk ps f n
def UC (S : zS) (m : Nat) (ps : Nat → Nat × Nat) : Prop := S.1 10 = rowOf 128 (fun f => oI (plk ps f m)) ∧ S.2.2.1 2 = nI m
def UM (M : zM) (m : Nat) (ps : Nat → Nat × Nat) : Prop := M.2.2 3 = nI m ∧ ∀ i, i < m → M.1 11 i = nI (ps i).1 ∧ M.1 12 i = nI (ps i).2
def UW (m : Nat) (ps : Nat → Nat × Nat) (np : Nat) : Prop := (∀ i, i < m → (ps i).1 < 128 ∧ (ps i).2 < np) ∧ ∀ i j, i < j → j < m → (ps i).1 < (ps j).1
/-- both hold the same families, patterns and fields that wait -/
def BB (n : Nat) (S : zS) (M : zM) (nf : Nat) (fam : Nat → Nat) (bit : Nat → Int64) (np : Nat) (P : Nat → Pt) (nl : Nat) (fl : Nat → Nat × Nat) (m : Nat) (ps : Nat → Nat × Nat) : Prop :=
  okS S ∧ (nf ≤ n ∧ np ≤ n ∧ nl + m ≤ n) ∧ FC S nf fam bit ∧ FM M nf fam bit ∧ PC S np P nl fl ∧ PM M np P nl fl ∧ PWF nf fam bit np P nl fl ∧ UC S m ps ∧ UM M m ps ∧ UW m ps np
/-- nothing of it changes -/
theorem BB_like {n n' : Nat} {S S' : zS} {M M' : zM} {nf : Nat} {fam : Nat → Nat} {bit : Nat → Int64} {np : Nat} {P : Nat → Pt} {nl : Nat} {fl : Nat → Nat × Nat} {m : Nat} {ps : Nat → Nat × Nat} (h : BB n S M nf fam bit np P nl fl m ps) (hn : n ≤ n') (ho : okS S') (h1 : ∀ k, k ≤ 10 → S'.1 k = S.1 k) (h2 : S'.2.2.1 2 = S.2.2.1 2) (h3 : S'.2.2.2 = S.2.2.2) (h4 : ∀ k, k ≤ 12 → M'.1 k = M.1 k) (h5 : M'.2.1 1 = M.2.1 1) (h6 : ∀ k, k ≤ 3 → M'.2.2 k = M.2.2 k) : BB n' S' M' nf fam bit np P nl fl m ps := by
  obtain ⟨a0, a1, a2, a3, a4, a5, a6, a7, a8, a9⟩ := h
  refine ⟨ho, by omega, ?_, ?_, ?_, ?_, a6, ?_, ?_, a9⟩
  · unfold FC; rw [h1 0 (by omega), h3]; exact a2
  · unfold FM; rw [h6 0 (by omega), h4 0 (by omega), h5]; exact a3
  · unfold PC; rw [h1 1 (by omega), h1 2 (by omega), h1 3 (by omega), h1 4 (by omega), h1 5 (by omega), h1 6 (by omega), h1 7 (by omega), h1 8 (by omega), h1 9 (by omega)]; exact a4
  · unfold PM; rw [h6 1 (by omega), h6 2 (by omega), h4 2 (by omega), h4 3 (by omega), h4 4 (by omega), h4 5 (by omega), h4 6 (by omega), h4 7 (by omega), h4 8 (by omega), h4 9 (by omega), h4 10 (by omega)]; exact a5
  · unfold UC; rw [h1 10 (by omega), h2]; exact a7
  · unfold UM; rw [h6 3 (by omega), h4 11 (by omega), h4 12 (by omega)]; exact a8
section PBA
variable {n : Nat} {S : zS} {M : zM} {nf : Nat} {fam : Nat → Nat} {bit : Nat → Int64} {np : Nat} {P : Nat → Pt} {nl : Nat} {fl : Nat → Nat × Nat} {m : Nat} {ps : Nat → Nat × Nat}
theorem lgc0 (x : Int64) : lg_cmp x 0 = 0 ↔ x = 0 := by
  unfold lg_cmp
  by_cases c : x > 0
  · rw [if_pos c]
    constructor
    · intro h; exact absurd h (by decide)
    · intro h; subst h; exact absurd c (by decide)
  · rw [if_neg c]
    by_cases d : x = 0
    · rw [if_pos d]; simp [d]
    · rw [if_neg d]
      constructor
      · intro h; exact absurd h (by decide)
      · intro h; exact absurd h d
theorem lgc1 (x y : Int64) : lg_cmp x y = 0 ↔ x = y := by
  unfold lg_cmp
  by_cases c : x > y
  · rw [if_pos c]
    constructor
    · intro h; exact absurd h (by decide)
    · intro h; subst h; exact absurd c (by simp)
  · rw [if_neg c]
    by_cases d : x = y
    · rw [if_pos d]; simp [d]
    · rw [if_neg d]
      constructor
      · intro h; exact absurd h (by decide)
      · intro h; exact absurd h d
/-- what a call keeps: the same answer, the relation again -/
def Keep (n : Nat) (S : zS) (M : zM) (nf : Nat) (fam : Nat → Nat) (bit : Nat → Int64) (np : Nat) (P : Nat → Pt) (nl : Nat) (fl : Nat → Nat × Nat) (x : zS × Int32) (y : Option (zM × Int32)) : Prop :=
  ∃ S' M' v nf' fam' bit' np' P' nl' fl' m' ps', x = (S', v) ∧ y = some (M', v) ∧ BB (n + 1) S' M' nf' fam' bit' np' P' nl' fl' m' ps' ∧ nf ≤ nf' ∧ np ≤ np' ∧ nl ≤ nl' ∧ (∀ i, i < nf → fam' i = fam i ∧ bit' i = bit i) ∧ (∀ i, i < np → P' i = P i) ∧ (∀ i, i < nl → fl' i = fl i) ∧ (∀ k, 10 < k → S'.1 k = S.1 k) ∧ (∀ k, k ≠ 2 → S'.2.2.1 k = S.2.2.1 k) ∧ (∀ k, 12 < k → M'.1 k = M.1 k) ∧ (∀ k, k ≠ 1 → M'.2.1 k = M.2.1 k) ∧ (∀ k, 3 < k → M'.2.2 k = M.2.2 k)
theorem keep_no {v : Int32} (h : BB n S M nf fam bit np P nl fl m ps) : Keep n S M nf fam bit np P nl fl (S, v) (some (M, v)) := ⟨S, M, v, nf, fam, bit, np, P, nl, fl, m, ps, rfl, rfl, BB_like h (by omega) h.1 (fun _ _ => rfl) rfl rfl (fun _ _ => rfl) rfl (fun _ _ => rfl), Nat.le_refl _, Nat.le_refl _, Nat.le_refl _, fun _ _ => ⟨rfl, rfl⟩, fun _ _ => rfl, fun _ _ => rfl, fun _ _ => rfl, fun _ _ => rfl, fun _ _ => rfl, fun _ _ => rfl, fun _ _ => rfl⟩
/-- a plain pattern on both sides -/
theorem keep_plain (h : BB n S M nf fam bit np P nl fl m ps) (hn : n ≤ 600) {k : Nat} (hk : k < 4) (s mk : Int32) {o : Option Nat} (hok : ∀ x, o = some x → x < np) (hk0 : k = 0 → o = none) {f1 f2 : Int32} {w : Nat} {b : Bool} (e2 : f1 = (if k = 3 then mk else s)) (e3 : f2 = (if k = 3 then 0 else mk)) (e6 : w = pZ (newPt P k s mk o)) (e7 : b = pW (newPt P k s mk o))
    (hwf : pwf nf fam bit (va_up P np (newPt P k s mk o)) nl fl np ∨ 10000 < pZ (newPt P k s mk o)) :
    Keep n S M nf fam bit np P nl fl (zbind2 (f_Pat_addPlain S (nI k) s mk (oI o)) fun S1 v2 => (S1, v2)) (zob2 (f_Mod_make M (nI k) f1 f2 (oI o) (nI w) (bI b)) fun S1 v2 => some (S1, v2)) := by
  have h' := h
  obtain ⟨a0, a1, a2, a3, a4, a5, a6, a7, a8, a9⟩ := h
  obtain ⟨c1, c2, c3, c4, c5⟩ := a6
  have hz : ∀ i, i < np → pZ (P i) ≤ 10000 := fun i hi => (pwZ (c5 i hi)).2
  have hpw : pZ (newPt P k s mk o) ≤ 10001 := by
    cases o with
    | none => show 1 ≤ 10001; omega
    | some x => show 1 + pZ (P x) ≤ 10001; have := hz x (hok x rfl); omega
  have pc := p_addPlain a4 a0 (by omega) hz hk s mk hok hk0
  have pm := p_make (w := w) (b := b) (f1 := f1) (f2 := f2) (f3 := oI o) a5 (by omega) (k := k) (by omega) (by omega) (newPt P k s mk o) rfl e2 e3 (by unfold pI; rw [if_neg (show ¬ pK (newPt P k s mk o) = 4 from (by show ¬ k = 4; omega))]; rfl) rfl e6 e7
  rcases pc with ⟨w1, w2⟩ | ⟨w1, S', w2, w3, w4⟩
  · rcases pm with ⟨y1, y2⟩ | ⟨y1, M', y2, y3, y4⟩
    · rw [w2, y2]; exact keep_no h'
    · omega
  · rcases pm with ⟨y1, y2⟩ | ⟨y1, M', y2, y3, y4⟩
    · omega
    · rw [w2, y2]
      refine ⟨S', M', nI np, nf, fam, bit, np + 1, va_up P np (newPt P k s mk o), nl, fl, m, ps, rfl, rfl, ⟨w3.2.2, by omega, ?_, ?_, w4, y4, ⟨by omega, c2, c3, c4, fun i hi => ?_⟩, ?_, ?_, ?_⟩, Nat.le_refl _, by omega, Nat.le_refl _, fun _ _ => ⟨rfl, rfl⟩, fun i hi => va_n (by omega), fun _ _ => rfl, fun k hk => w3.1 k (by simp; omega), fun k hk => by rw [w3.2.1], fun k hk => y3.1 k (by simp; omega), fun k hk => y3.2.1 k (by simp), fun k hk => y3.2.2 k (by simp; omega)⟩
      · unfold FC; rw [w3.1 0 (by decide), w3.2.1]; exact a2
      · unfold FM; rw [y3.2.2 0 (by decide), y3.1 0 (by decide), y3.2.1 1 (by simp)]; exact a3
      · by_cases e : i = np
        · subst e
          rcases hwf with q | q
          · exact q
          · omega
        · exact pwf_ext (c5 i (by omega)) (fun j hj => va_n (by omega)) (Nat.le_refl _) (fun _ _ => rfl) (Nat.le_refl _) (fun _ _ => ⟨rfl, rfl⟩)
      · unfold UC; rw [w3.1 10 (by decide), w3.2.1]; exact a7
      · unfold UM; rw [y3.2.2 3 (by decide), y3.1 11 (by decide), y3.1 12 (by decide)]; exact a8
      · exact ⟨fun i hi => ⟨(a9.1 i hi).1, by have := (a9.1 i hi).2; omega⟩, a9.2⟩
theorem k_any (h : BB n S M nf fam bit np P nl fl m ps) (hn : n ≤ 600) : Keep n S M nf fam bit np P nl fl (f_Tre_any S) (f_Mod_any M) := by
  unfold f_Tre_any f_Mod_any
  refine keep_plain (k := 0) (o := none) (w := 1) (b := false) h hn (by decide) 0 0 (fun _ e => by cases e) (fun _ => rfl) rfl rfl rfl rfl (Or.inl ?_)
  unfold pwf
  rw [va_s]
  exact ⟨by show 0 ≤ 4; decide, by show 1 ≤ 1; decide, by show 1 ≤ 10000; decide, fun _ => rfl, fun _ => rfl, (by intro e; cases e), (by intro e; cases e), (by intro j e; cases e), Nat.zero_le _, by show 0 ≤ 128; decide, (by intro j e; cases e), (by intro j k h1 h2; cases h2), (by intro e; cases e), (by intro e; cases e), (by intro e; cases e), (by intro e; cases e), (by intro e; cases e)⟩
theorem k_constant (h : BB n S M nf fam bit np P nl fl m ps) (hn : n ≤ 600) (a1 a2 : Int32) : Keep n S M nf fam bit np P nl fl (f_Tre_constant S a1 a2) (f_Mod_constant M a1 a2) := by
  have wf : (a1 = 2 → ∃ t : Nat, t < 256 ∧ a2 = nI t) → pwf nf fam bit (va_up P np (newPt P 1 a1 a2 none)) nl fl np := by
    intro hb
    unfold pwf
    rw [va_s]
    exact ⟨by show 1 ≤ 4; decide, by show 1 ≤ 1; decide, by show 1 ≤ 10000; decide, fun _ => rfl, fun _ => rfl, (by intro e; cases e), (by intro e; cases e), (by intro j e; cases e), Nat.zero_le _, by show 0 ≤ 128; decide, (by intro j e; cases e), (by intro j k h1 h2; cases h2), (by intro e; cases e), (by intro e; cases e), (fun _ e => hb e), (by intro e; cases e), (fun _ => ⟨by show 1 ≠ 0; decide, (by intro j e; cases e), (by intro j e; cases e)⟩)⟩
  unfold f_Tre_constant f_Mod_constant
  by_cases c1 : a1 < 0
  · rw [if_pos c1, if_pos c1]; exact keep_no h
  · rw [if_neg c1, if_neg c1]
    by_cases c2 : a1 < 4
    · rw [if_pos c2, if_neg (show ¬ (3 : Int32) < a1 by (simp (disch := omega) only [nI_1, nI_add, Int32.lt_iff_toInt_lt, Int32.le_iff_toInt_le, ← Int32.toInt_inj, nI_toInt, tI_0, tI_1, tI_2, tI_3, tI_4, tI_m1, tI_m2, tI_m3, tI_m4, tI_64, tI_128, tI_255, tI_256, tI_1000, tI_1024, tI_4096, tI_10000, tI_16384, tI_16386, tI_M] at *; omega))]
      by_cases c3 : a1 = 2
      · subst c3
        rw [if_neg (show ¬ ¬ (2 : Int32) = 2 by decide), if_neg (show ¬ ¬ (2 : Int32) = 2 by decide)]
        by_cases c4 : a2 < 0
        · rw [if_pos c4, if_pos c4]; exact keep_no h
        · rw [if_neg c4, if_neg c4]
          by_cases c5 : a2 < 256
          · rw [if_pos c5, if_neg (show ¬ (255 : Int32) < a2 by (simp (disch := omega) only [nI_1, nI_add, Int32.lt_iff_toInt_lt, Int32.le_iff_toInt_le, ← Int32.toInt_inj, nI_toInt, tI_0, tI_1, tI_2, tI_3, tI_4, tI_m1, tI_m2, tI_m3, tI_m4, tI_64, tI_128, tI_255, tI_256, tI_1000, tI_1024, tI_4096, tI_10000, tI_16384, tI_16386, tI_M] at *; omega))]
            obtain ⟨t, ht, et⟩ := nI_of c4
            exact keep_plain (k := 1) (o := none) (w := 1) (b := true) h hn (by decide) 2 a2 (fun _ e => by cases e) (fun e => by cases e) rfl rfl rfl rfl (Or.inl (wf (fun _ => ⟨t, by rw [et] at c5; (simp (disch := omega) only [nI_1, nI_add, Int32.lt_iff_toInt_lt, Int32.le_iff_toInt_le, ← Int32.toInt_inj, nI_toInt, tI_0, tI_1, tI_2, tI_3, tI_4, tI_m1, tI_m2, tI_m3, tI_m4, tI_64, tI_128, tI_255, tI_256, tI_1000, tI_1024, tI_4096, tI_10000, tI_16384, tI_16386, tI_M] at *; omega), et⟩)))
          · rw [if_neg c5, if_pos (show (255 : Int32) < a2 by (simp (disch := omega) only [nI_1, nI_add, Int32.lt_iff_toInt_lt, Int32.le_iff_toInt_le, ← Int32.toInt_inj, nI_toInt, tI_0, tI_1, tI_2, tI_3, tI_4, tI_m1, tI_m2, tI_m3, tI_m4, tI_64, tI_128, tI_255, tI_256, tI_1000, tI_1024, tI_4096, tI_10000, tI_16384, tI_16386, tI_M] at *; omega))]; exact keep_no h
      · rw [if_pos c3, if_pos c3]
        exact keep_plain (k := 1) (o := none) (w := 1) (b := true) h hn (by decide) a1 a2 (fun _ e => by cases e) (fun e => by cases e) rfl rfl rfl rfl (Or.inl (wf (fun e => absurd e c3)))
    · rw [if_neg c2, if_pos (show (3 : Int32) < a1 by (simp (disch := omega) only [nI_1, nI_add, Int32.lt_iff_toInt_lt, Int32.le_iff_toInt_le, ← Int32.toInt_inj, nI_toInt, tI_0, tI_1, tI_2, tI_3, tI_4, tI_m1, tI_m2, tI_m3, tI_m4, tI_64, tI_128, tI_255, tI_256, tI_1000, tI_1024, tI_4096, tI_10000, tI_16384, tI_16386, tI_M] at *; omega))]; exact keep_no h
theorem c_has (h : PC S np P nl fl) (hn : np ≤ 16384) (a : Int32) : (f_Pat_has S a = 0 ∧ f_Mod_isPattern M a = 0 ∧ ¬ ∃ x, x < np ∧ a = nI x) ∨ (∃ x, x < np ∧ a = nI x ∧ f_Pat_has S a = 1 ∧ f_Mod_isPattern M a = 1) ∨ ¬ M.2.2 1 = nI np := by
  by_cases hM : M.2.2 1 = nI np
  · unfold f_Pat_has f_Mod_isPattern r_size
    rw [PC_len h 1 (by decide) (by decide), hM]
    by_cases c : a < 0
    · rw [if_pos c]
      exact Or.inl ⟨rfl, rfl, fun ⟨x, h1, h2⟩ => by rw [h2] at c; exact nI_pos (by omega) c⟩
    · obtain ⟨x, hx, ex⟩ := nI_of c
      rw [if_neg c, ex]
      by_cases d : np ≤ x
      · rw [if_pos (nI_le d hx)]
        refine Or.inl ⟨rfl, rfl, fun ⟨y, h1, h2⟩ => ?_⟩
        rw [nI_eq hx (by omega)] at h2
        omega
      · rw [if_neg (nI_ge (by omega) (by omega))]
        exact Or.inr (Or.inl ⟨x, by omega, rfl, rfl, rfl⟩)
  · exact Or.inr (Or.inr hM)
theorem k_name (h : BB n S M nf fam bit np P nl fl m ps) (hn : n ≤ 600) (a1 a2 : Int32) : Keep n S M nf fam bit np P nl fl (f_Tre_name S a1 a2) (f_Mod_name M a1 a2) := by
  have h' := h
  obtain ⟨a0, b1, b2, b3, b4, b5, b6, b7, b8, b9⟩ := h
  unfold f_Tre_name f_Mod_name
  by_cases c1 : a1 < 0
  · rw [if_pos c1, if_pos c1]; exact keep_no h'
  · rw [if_neg c1, if_neg c1]
    have ge : (0 : Int32) ≤ a1 := by (simp (disch := omega) only [nI_1, nI_add, Int32.lt_iff_toInt_lt, Int32.le_iff_toInt_le, ← Int32.toInt_inj, nI_toInt, tI_0, tI_1, tI_2, tI_3, tI_4, tI_m1, tI_m2, tI_m3, tI_m4, tI_64, tI_128, tI_255, tI_256, tI_1000, tI_1024, tI_4096, tI_10000, tI_16384, tI_16386, tI_M] at *; omega)
    have wf : ∀ o : Option Nat, (∀ x, o = some x → x < np) → pwf nf fam bit (va_up P np (newPt P 3 0 a1 o)) nl fl np ∨ 10000 < pZ (newPt P 3 0 a1 o) := by
      intro o hok
      by_cases hz : 10000 < pZ (newPt P 3 0 a1 o)
      · exact Or.inr hz
      · left
        unfold pwf
        rw [va_s]
        refine ⟨by show 3 ≤ 4; decide, ?_, by omega, ?_, fun _ => rfl, (by intro e; cases e), fun _ => ⟨rfl, ge⟩, fun j e => ?_, Nat.zero_le _, by show 0 ≤ 128; decide, (by intro j e; cases e), (by intro j k h1 h2; cases h2), (by intro e; cases e), (by intro e; cases e), (by intro e; cases e), (by intro e; cases e), fun e => ⟨by show 3 ≠ 0; decide, fun j ej => ?_, (by intro j e; cases e)⟩⟩
        · cases o with
          | none => show 1 ≤ 1; decide
          | some x => show 1 ≤ 1 + pZ (P x); omega
        · intro e
          have e : (3 : Nat) = 0 ∨ (3 : Nat) = 1 ∨ (3 : Nat) = 4 := e
          omega
        · have ej : o = some j := e
          subst ej
          have := hok j rfl
          rw [va_n (by omega)]
          exact ⟨this, rfl⟩
        · have ej : o = some j := ej
          subst ej
          have := hok j rfl
          rw [va_n (by omega)]
          have : (decide ((3 : Nat) ≠ 0) && pW (P j)) = true := e
          simpa using this
    by_cases c2 : a2 = -1
    · subst c2
      rw [if_pos rfl, if_pos rfl, if_neg (by decide), if_pos (by decide)]
      exact keep_plain (k := 3) (o := none) (w := 1) (b := true) h' hn (by decide) 0 a1 (fun _ e => by cases e) (fun e => by cases e) rfl rfl rfl rfl (wf none (fun _ e => by cases e))
    · rw [if_neg c2, if_neg c2]
      rcases c_has (M := M) b4 (by omega) a2 with ⟨d1, d2, d3⟩ | ⟨x, hx, ex, d1, d2⟩ | d
      · rw [d1, d2, if_neg (by decide), if_neg (by decide)]; exact keep_no h'
      · subst ex
        have hzx := pwZ (b6.2.2.2.2 x hx)
        rw [d1, d2, if_pos (by decide), if_pos (by decide), if_pos (nI_pos' (by omega)), m_rd_n (by omega) (by omega), if_neg (nI_pos (by omega)), m_rd_n (by omega) (by omega), gZ b5 hx, gW b5 hx]
        have ez : (1 : Int32) + nI (pZ (P x)) = nI (1 + pZ (P x)) := nI_add 1 _
        rw [ez]
        cases hw : pW (P x) with
        | false =>
          rw [if_pos (by rfl)]
          exact keep_plain (k := 3) (o := some x) (w := 1 + pZ (P x)) (b := false) h' hn (by decide) 0 a1 (fun y e => by cases e; exact hx) (fun e => by cases e) rfl rfl rfl (by show false = (decide ((3 : Nat) ≠ 0) && pW (P x)); rw [hw]; rfl) (wf (some x) (fun y e => by cases e; exact hx))
        | true =>
          rw [if_neg (by decide)]
          exact keep_plain (k := 3) (o := some x) (w := 1 + pZ (P x)) (b := true) h' hn (by decide) 0 a1 (fun y e => by cases e; exact hx) (fun e => by cases e) rfl rfl rfl (by show true = (decide ((3 : Nat) ≠ 0) && pW (P x)); rw [hw]; rfl) (wf (some x) (fun y e => by cases e; exact hx))
      · exact absurd b5.1 d
end PBA
