-- PURE LAYER: what rules ask for at a part; the reference's sets of possible rules
def akF (T : Tr) (r p : Nat) : Nat → Option Nat
  | 0 => none
  | k + 1 => if (tK T k).1 = r ∧ (tK T k).2.1 = p then some (tK T k).2.2 else akF T r p k
/-- the pattern with which a rule asks at a part -/
def ak (T : Tr) (r p : Nat) : Option Nat := akF T r p (tA T)
/-- where a rule's asks end -/
def sx (T : Tr) (nr : Nat) (sa : Nat → Nat) (r : Nat) : Nat := if r + 1 < nr then sa (r + 1) else tA T
section PLK
variable {T : Tr} {nr : Nat} {sa : Nat → Nat} {P : Nat → Pt} {fl : Nat → Nat × Nat} {ru : Nat → Nat}
theorem akF_no {r p : Nat} : ∀ {k : Nat}, (∀ j, j < k → ¬ ((tK T j).1 = r ∧ (tK T j).2.1 = p)) → akF T r p k = none := by
  intro k
  induction k with
  | zero => intro _; rfl
  | succ k ih =>
    intro h
    unfold akF
    rw [if_neg (h k (by omega))]
    exact ih (fun j hj => h j (by omega))
theorem akF_ok {r p q : Nat} : ∀ {k : Nat}, akF T r p k = some q → ∃ j, j < k ∧ tK T j = (r, p, q) := by
  intro k
  induction k with
  | zero => intro h; cases h
  | succ k ih =>
    intro h
    unfold akF at h
    split at h
    · next e =>
      refine ⟨k, by omega, ?_⟩
      have : (tK T k).2.2 = q := by simpa using h
      exact Prod.ext e.1 (Prod.ext e.2 this)
    · obtain ⟨j, h1, h2⟩ := ih h
      exact ⟨j, by omega, h2⟩
theorem ak_ok {r p q : Nat} (h : ak T r p = some q) : ∃ j, j < tA T ∧ tK T j = (r, p, q) := akF_ok h
theorem ak_at (hu : ∀ k k', k < tA T → k' < tA T → (tK T k).1 = (tK T k').1 → (tK T k).2.1 = (tK T k').2.1 → k = k') {j : Nat} (hj : j < tA T) : ak T (tK T j).1 (tK T j).2.1 = some (tK T j).2.2 := by
  cases q : ak T (tK T j).1 (tK T j).2.1 with
  | none =>
    have gen : ∀ k, j < k → akF T (tK T j).1 (tK T j).2.1 k ≠ none := by
      intro k
      induction k with
      | zero => intro h; omega
      | succ k ih =>
        intro h e
        unfold akF at e
        split at e
        · cases e
        · next n =>
          by_cases c : j = k
          · subst c; exact n ⟨rfl, rfl⟩
          · exact ih (by omega) e
    exact absurd q (gen _ hj)
  | some x =>
    obtain ⟨i, h1, h2⟩ := ak_ok q
    have e := hu i j h1 hj (by rw [h2]) (by rw [h2])
    subst e
    rw [h2]
theorem akF_tail {r p : Nat} : ∀ {k m : Nat}, k ≤ m → (∀ j, k ≤ j → j < m → (tK T j).1 ≠ r) → akF T r p m = akF T r p k := by
  intro k m
  induction m with
  | zero => intro h _; have : k = 0 := by omega
            subst this; rfl
  | succ m ih =>
    intro h hn
    by_cases c : k = m + 1
    · subst c; rfl
    · have fs : akF T r p (m + 1) = if (tK T m).1 = r ∧ (tK T m).2.1 = p then some (tK T m).2.2 else akF T r p m := rfl
      rw [fs, if_neg (fun e => hn m (by omega) (by omega) e.1)]
      exact ih (by omega) (fun j h1 h2 => hn j h1 (by omega))
theorem SI_in (h : SI T nr sa) {r k : Nat} (hr : r < nr) (hk : k < tA T) (hkr : (tK T k).1 < nr) : (tK T k).1 = r ↔ sa r ≤ k ∧ k < sx T nr sa r := by
  obtain ⟨h1, h2, h3⟩ := h
  obtain ⟨b1, b2⟩ := h3 k hk
  constructor
  · intro e
    subst e
    refine ⟨b1, ?_⟩
    unfold sx
    split
    · next c => exact b2 c
    · exact hk
  · intro ⟨c1, c2⟩
    rcases Nat.lt_trichotomy (tK T k).1 r with d | d | d
    · have := b2 (by omega)
      have := h1 ((tK T k).1 + 1) r (by omega) hr
      omega
    · exact d
    · unfold sx at c2
      rw [if_pos (by omega)] at c2
      have := h1 (r + 1) (tK T k).1 (by omega) hkr
      omega
theorem SI_sx (h : SI T nr sa) {r : Nat} (hr : r < nr) : sa r ≤ sx T nr sa r ∧ sx T nr sa r ≤ tA T := by
  obtain ⟨h1, h2, h3⟩ := h
  unfold sx
  split
  · next c => exact ⟨h1 r (r + 1) (by omega) c, h2 _ c⟩
  · exact ⟨h2 r hr, Nat.le_refl _⟩
end PLK
section PLM
variable {M : zM} {T : Tr} {nr : Nat} {sa : Nat → Nat} {np : Nat} {P : Nat → Pt} {nl : Nat} {fl : Nat → Nat × Nat} {ru : Nat → Nat}
theorem TMo_sx (hM : TMo M T nr sa) {r : Nat} (hr : r < nr) : M.1 14 r = nI (sa r) ∧ M.1 14 (r + 1) = nI (sx T nr sa r) := by
  obtain ⟨bl, nb, t1, t2, t3, t4, t5, t6⟩ := hM
  refine ⟨t5 r hr, ?_⟩
  unfold sx
  split
  · next c => exact t5 _ c
  · have : r + 1 = nr := by omega
    rw [this]; exact t6
theorem p_asked_L (hM : TMo M T nr sa) (hS : SI T nr sa) (hA : ∀ k, k < tA T → (tK T k).1 < nr ∧ (tK T k).2.1 < tQ T) (hb : tA T ≤ 16384) (hq : tQ T ≤ 16385) (hn : nr ≤ 1023) {r p : Nat} (hr : r < nr) (hp : p < tQ T) : ∀ n k, sa r ≤ k → k ≤ sx T nr sa r → sx T nr sa r - k < n → f_Mod_asked_L10 n M (nI r) (nI p) (oI (akF T r p k)) (nI k) = some (oI (akF T r p (sx T nr sa r))) := by
  have hs := SI_sx hS hr
  have h14 := (TMo_sx hM hr).2
  obtain ⟨bl, nb, t1, t2, t3, t4, t5, t6⟩ := hM
  intro n
  induction n with
  | zero => intro k _ _ h; omega
  | succ n ih =>
    intro k h1 h2 hlt
    unfold f_Mod_asked_L10
    rw [nI_1, m_rd_n (by omega) (by omega), h14]
    by_cases c : k = sx T nr sa r
    · rw [if_pos (by (simp (disch := omega) only [nI_1, nI_add, Int32.lt_iff_toInt_lt, Int32.le_iff_toInt_le, ← Int32.toInt_inj, nI_toInt, tI_0, tI_1, tI_2, tI_3, tI_4, tI_m1, tI_m2, tI_m3, tI_m4, tI_64, tI_128, tI_255, tI_256, tI_1000, tI_1024, tI_4096, tI_10000, tI_16384, tI_16386, tI_M]; omega)), c]
    · have hk : k < tA T := by omega
      have hkA := hA k hk
      have er : (tK T k).1 = r := (SI_in hS hr hk hkA.1).mpr ⟨h1, by omega⟩
      rw [if_neg (by (simp (disch := omega) only [nI_1, nI_add, Int32.lt_iff_toInt_lt, Int32.le_iff_toInt_le, ← Int32.toInt_inj, nI_toInt, tI_0, tI_1, tI_2, tI_3, tI_4, tI_m1, tI_m2, tI_m3, tI_m4, tI_64, tI_128, tI_255, tI_256, tI_1000, tI_1024, tI_4096, tI_10000, tI_16384, tI_16386, tI_M]; omega)), m_rd_n (by omega) (by omega), (t4 k hk).1, nI_1]
      have i1 := ih (k + 1) (by omega) (by omega) (by omega)
      have fs : akF T r p (k + 1) = if (tK T k).1 = r ∧ (tK T k).2.1 = p then some (tK T k).2.2 else akF T r p k := rfl
      rw [fs] at i1
      by_cases d : (tK T k).2.1 = p
      · rw [if_pos ⟨er, d⟩] at i1
        rw [if_neg (by rw [d]; simp), m_rd_n (by omega) (by omega), (t4 k hk).2]
        exact i1
      · rw [if_neg (fun e => d e.2)] at i1
        rw [if_pos (by rw [nI_eq (by omega) (by omega)]; exact d)]
        exact i1
theorem p_asked (hM : TMo M T nr sa) (hS : SI T nr sa) (hA : ∀ k, k < tA T → (tK T k).1 < nr ∧ (tK T k).2.1 < tQ T) (hb : tA T ≤ 16384) (hq : tQ T ≤ 16385) (hn : nr ≤ 1023) {r p : Nat} (hr : r < nr) (hp : p < tQ T) : f_Mod_asked M (nI r) (nI p) = some (oI (ak T r p)) := by
  have hs := SI_sx hS hr
  unfold f_Mod_asked
  rw [m_rd_n (by omega) (by omega), (TMo_sx hM hr).1]
  have e0 : akF T r p (sa r) = none := akF_no (fun j hj e => by
    have := ((SI_in hS hr (by omega) (hA j (by omega)).1).mp e.1).1
    omega)
  have e1 : akF T r p (sx T nr sa r) = ak T r p := (akF_tail hs.2 (fun j h1 h2 e => by
    have := ((SI_in hS hr h2 (hA j h2).1).mp e).2
    omega)).symm
  have := p_asked_L hM hS hA hb hq hn hr hp zbig (sa r) (Nat.le_refl _) hs.1 (by unfold zbig; omega)
  rw [e0, e1] at this
  exact this
-- the bits
theorem sh_e {r : Nat} (hr : r < 1024) : z_rem (nI r) 64 = nI (r % 64) := pk_rem (d := 64) (by omega) (by omega) (by omega)
theorem sh_d {d r : Nat} (hd : d < 4098) (hr : r < 1024) : (16 * nI d) + (nI r / 64) = nI (16 * d + r / 64) := by
  have e1 : (16 : Int32) * nI d = nI (16 * d) := pk_mul 16 d
  have e2 : nI r / 64 = nI (r / 64) := pk_div (d := 64) (by omega) (by omega) (by omega)
  rw [e1, e2, nI_add]
theorem p_isPossible {d r : Nat} (hd : d < 4098) (hr : r < 1024) : f_Mod_isPossible M (nI d) (nI r) = some (bI (gb (M.2.1 23 (16 * d + r / 64)) (r % 64))) := by
  unfold f_Mod_isPossible
  rw [sh_d hd hr, m_rdl_n (by omega) (by omega), sh_e hr]
  have e0 := gb_lshr0 (M.2.1 23 (16 * d + r / 64)) (k := r % 64) (by omega)
  cases hb : gb (M.2.1 23 (16 * d + r / 64)) (r % 64) with
  | false =>
    have hc : ¬ lg_cmp (z_lshr (M.2.1 23 (16 * d + r / 64)) (nI (r % 64)) &&& 1) 1 = 0 := fun q => by have := (gb_a1 _).mp ((lgc1 _ _).mp q); rw [e0, hb] at this; cases this
    rw [if_pos hc]; rfl
  | true =>
    have hc : lg_cmp (z_lshr (M.2.1 23 (16 * d + r / 64)) (nI (r % 64)) &&& 1) 1 = 0 := (lgc1 _ _).mpr ((gb_a1 _).mpr (by rw [e0]; exact hb))
    rw [if_neg (fun q => q hc)]; rfl
theorem gb_xor (x y : Int64) (j : Nat) : gb (x ^^^ y) j = (gb x j ^^ gb y j) := by unfold gb; rw [Int64.toBitVec_xor, BitVec.getLsbD_xor]
theorem gb_bit {k j : Nat} (hk : k < 64) (hj : j < 64) : gb (z_lshl 1 (nI k)) j = decide (j = k) := by
  rw [gb_lshl _ hk hj, gb_1]
  by_cases c : j = k
  · subst c; simp
  · by_cases d : k ≤ j
    · simp [d, c]; omega
    · simp [d, c]
theorem p_setPossible {d r : Nat} (hd : d < 4098) (hr : r < 1024) (b : Bool) : ∃ w, f_Mod_setPossible M (nI d) (nI r) (bI b) = some (m_setl M 23 (16 * d + r / 64) w) ∧ gb w (r % 64) = b ∧ ∀ j, j < 64 → j ≠ r % 64 → gb w j = gb (M.2.1 23 (16 * d + r / 64)) j := by
  unfold f_Mod_setPossible
  rw [zbind_e, sh_d hd hr, m_rdl_n (by omega) (by omega), sh_e hr]
  cases b with
  | false =>
    rw [if_pos (by rfl), m_wr_n (by omega) (by omega), nI_clamp (by omega)]
    refine ⟨_, rfl, ?_, fun j hj hne => ?_⟩
    · rw [gb_and, gb_xor, gb_bit (by omega) (by omega), gb_m1 (by omega)]; simp
    · rw [gb_and, gb_xor, gb_bit (by omega) hj, gb_m1 hj]; simp [hne]
  | true =>
    rw [if_neg (by decide), m_wr_n (by omega) (by omega), nI_clamp (by omega)]
    refine ⟨_, rfl, ?_, fun j hj hne => ?_⟩
    · rw [gb_or, gb_bit (by omega) (by omega)]; simp
    · rw [gb_or, gb_bit (by omega) hj]; simp [hne]
/-- the possible rules of a depth -/
def PB (M : zM) (d nr : Nat) (po : Nat → Bool) : Prop := ∀ r, r < nr → gb (M.2.1 23 (16 * d + r / 64)) (r % 64) = po r
theorem PB_isP {d : Nat} {po : Nat → Bool} (h : PB M d nr po) (hd : d < 4098) (hn : nr ≤ 1023) {r : Nat} (hr : r < nr) : f_Mod_isPossible M (nI d) (nI r) = some (bI (po r)) := by rw [p_isPossible hd (by omega), h r hr]
theorem PB_set {d r : Nat} {w : Int64} {po : Nat → Bool} {b : Bool} (hr : r < 1024) (hn : nr ≤ 1023) (h : ∀ i, i < r → i < nr → gb (M.2.1 23 (16 * d + i / 64)) (i % 64) = po i) (h1 : gb w (r % 64) = b) (h2 : ∀ j, j < 64 → j ≠ r % 64 → gb w j = gb (M.2.1 23 (16 * d + r / 64)) j) (hb : r < nr → po r = b) : ∀ i, i < r + 1 → i < nr → gb ((m_setl M 23 (16 * d + r / 64) w).2.1 23 (16 * d + i / 64)) (i % 64) = po i := by
  intro i hi hin
  show gb (va_up M.2.1 23 (vp_updL (M.2.1 23) (16 * d + r / 64) w) 23 (16 * d + i / 64)) (i % 64) = po i
  rw [va_s]
  by_cases c : i / 64 = r / 64
  · rw [c, updL_s]
    by_cases e : i = r
    · subst e; rw [h1, hb hin]
    · rw [h2 _ (by omega) (by omega), ← c]; exact h i (by omega) hin
  · rw [updL_n (by omega)]; exact h i (by omega) hin
theorem PB_other {d d' : Nat} {r : Nat} {w : Int64} {po : Nat → Bool} (hr : r < 1024) (hn : nr ≤ 1023) (hne : d' ≠ d) (h : PB M d' nr po) : PB (m_setl M 23 (16 * d + r / 64) w) d' nr po := by
  intro i hi
  show gb (va_up M.2.1 23 (vp_updL (M.2.1 23) (16 * d + r / 64) w) 23 (16 * d' + i / 64)) (i % 64) = po i
  rw [va_s, updL_n (by omega)]
  exact h i hi
theorem PB_like {ks ls ns : List Nat} {M' : zM} {d : Nat} {po : Nat → Bool} (h : PB M d nr po) (hl : mLike ks ls ns M M') (hk : 23 ∉ ls) : PB M' d nr po := by
  intro r hr
  rw [hl.2.1 23 hk]; exact h r hr
/-- the first possible rule, from i on -/
def fP1 (po : Nat → Bool) (nr i : Nat) : Option Nat → Prop
  | some r => i ≤ r ∧ r < nr ∧ po r = true ∧ ∀ j, i ≤ j → j < r → po j = false
  | none => ∀ j, i ≤ j → j < nr → po j = false
theorem fP1_one {po : Nat → Bool} {i : Nat} {o o' : Option Nat} (h : fP1 po nr i o) (h' : fP1 po nr i o') : o = o' := by
  cases o with
  | none => cases o' with
    | none => rfl
    | some r => have := h r h'.1 h'.2.1; rw [h'.2.2.1] at this; cases this
  | some r => cases o' with
    | none => have := h' r h.1 h.2.1; rw [h.2.2.1] at this; cases this
    | some q =>
      rcases Nat.lt_trichotomy r q with w | w | w
      · have := h'.2.2.2 r h.1 w; rw [h.2.2.1] at this; cases this
      · rw [w]
      · have := h.2.2.2 q h'.1 w; rw [h'.2.2.1] at this; cases this
theorem p_mfirstP {d : Nat} {po : Nat → Bool} (h : PB M d nr po) (h4 : M.2.2 4 = nI nr) (hd : d < 4098) (hn : nr ≤ 1023) : ∀ n i, i ≤ nr → nr - i < n → ∃ o, f_Mod_firstPossible_L2 n M (nI d) (nI i) = some (oI o) ∧ fP1 po nr i o := by
  intro n
  induction n with
  | zero => intro i _ h; omega
  | succ n ih =>
    intro i hi hlt
    unfold f_Mod_firstPossible_L2
    rw [h4]
    by_cases c : i = nr
    · rw [if_pos (by (simp (disch := omega) only [nI_1, nI_add, Int32.lt_iff_toInt_lt, Int32.le_iff_toInt_le, ← Int32.toInt_inj, nI_toInt, tI_0, tI_1, tI_2, tI_3, tI_4, tI_m1, tI_m2, tI_m3, tI_m4, tI_64, tI_128, tI_255, tI_256, tI_1000, tI_1024, tI_4096, tI_10000, tI_16384, tI_16386, tI_M]; omega)), if_pos (by (simp (disch := omega) only [nI_1, nI_add, Int32.lt_iff_toInt_lt, Int32.le_iff_toInt_le, ← Int32.toInt_inj, nI_toInt, tI_0, tI_1, tI_2, tI_3, tI_4, tI_m1, tI_m2, tI_m3, tI_m4, tI_64, tI_128, tI_255, tI_256, tI_1000, tI_1024, tI_4096, tI_10000, tI_16384, tI_16386, tI_M]; omega))]
      exact ⟨none, rfl, fun j h1 h2 => by omega⟩
    · have nle : ¬ nI nr ≤ nI i := by (simp (disch := omega) only [nI_1, nI_add, Int32.lt_iff_toInt_lt, Int32.le_iff_toInt_le, ← Int32.toInt_inj, nI_toInt, tI_0, tI_1, tI_2, tI_3, tI_4, tI_m1, tI_m2, tI_m3, tI_m4, tI_64, tI_128, tI_255, tI_256, tI_1000, tI_1024, tI_4096, tI_10000, tI_16384, tI_16386, tI_M]; omega)
      rw [if_neg nle, PB_isP h hd hn (by omega), zob_s]
      cases b : po i with
      | true =>
        rw [if_pos (by decide), if_neg nle]
        exact ⟨some i, rfl, Nat.le_refl _, by omega, b, fun j h1 h2 => by omega⟩
      | false =>
        rw [if_neg (by decide), nI_1]
        obtain ⟨o, e, f⟩ := ih (i + 1) (by omega) (by omega)
        refine ⟨o, e, ?_⟩
        cases o with
        | none =>
          intro j h1 h2
          by_cases w : j = i
          · subst w; exact b
          · exact f j (by omega) h2
        | some r =>
          refine ⟨by have := f.1; omega, f.2.1, f.2.2.1, fun j h1 h2 => ?_⟩
          by_cases w : j = i
          · subst w; exact b
          · exact f.2.2.2 j (by omega) h2
end PLM
