-- PURE LAYER: the call push
section PPU
variable {n : Nat} {S : zS} {M : zM} {nf : Nat} {fam : Nat → Nat} {bit : Nat → Int64} {np : Nat} {P : Nat → Pt} {nl : Nat} {fl : Nat → Nat × Nat} {m : Nat} {ps : Nat → Nat × Nat}
theorem z_sc_at {S : zS} {k : Nat} {x : Int32} : (z_sc S k x).2.2.1 k = x := by
  show va_up S.2.2.1 k x k = x
  exact va_s
theorem z_sc_ne {S : zS} {k j : Nat} {x : Int32} (h : j ≠ k) : (z_sc S k x).2.2.1 j = S.2.2.1 j := by
  show va_up S.2.2.1 k x j = _
  exact va_n h
theorem plk_no {f : Nat} : ∀ {m : Nat}, (∀ j, j < m → (ps j).1 ≠ f) → plk ps f m = none := by
  intro m
  induction m with
  | zero => intro _; rfl
  | succ m ih =>
    intro h
    unfold plk
    rw [if_neg (h m (by omega))]
    exact ih (fun j hj => h j (by omega))
theorem plk_at {j : Nat} : ∀ {m : Nat}, j < m → (∀ i k, i < k → k < m → (ps i).1 < (ps k).1) → plk ps (ps j).1 m = some (ps j).2 := by
  intro m
  induction m with
  | zero => intro h; omega
  | succ m ih =>
    intro h hs
    unfold plk
    by_cases e : j = m
    · subst e; rw [if_pos rfl]
    · have := hs j m (by omega) (by omega)
      rw [if_neg (by omega)]
      exact ih (by omega) (fun i k h1 h2 => hs i k h1 (by omega))
theorem plk_ok {f y : Nat} : ∀ {m : Nat}, plk ps f m = some y → ∃ j, j < m ∧ (ps j).1 = f ∧ (ps j).2 = y := by
  intro m
  induction m with
  | zero => intro h; cases h
  | succ m ih =>
    intro h
    unfold plk at h
    split at h
    · next e => exact ⟨m, by omega, e, by simpa using h⟩
    · obtain ⟨j, h1, h2, h3⟩ := ih h
      exact ⟨j, by omega, h2, h3⟩
theorem ps_ge (hs : ∀ i j, i < j → j < m → (ps i).1 < (ps j).1) : ∀ i, i < m → i ≤ (ps i).1 := by
  intro i
  induction i with
  | zero => intro _; omega
  | succ i ih =>
    intro h
    have h1 := ih (by omega)
    have h2 := hs i (i + 1) (by omega) h
    omega
theorem ps_id (hs : ∀ i j, i < j → j < m → (ps i).1 < (ps j).1) (hb : ∀ i, i < m → (ps i).1 < m) : ∀ i, i < m → (ps i).1 = i := by
  have up : ∀ d i, i + d + 1 = m → (ps i).1 ≤ i := by
    intro d
    induction d with
    | zero => intro i e; have := hb i (by omega); omega
    | succ d ih =>
      intro i e
      have h1 := ih (i + 1) (by omega)
      have h2 := hs i (i + 1) (by omega) (by omega)
      omega
  intro i hi
  have h1 := ps_ge hs i hi
  have h2 := up (m - i - 1) i (by omega)
  omega
theorem ps_m (hs : ∀ i j, i < j → j < m → (ps i).1 < (ps j).1) (hb : ∀ i, i < m → (ps i).1 < 128) : m ≤ 128 := by
  rcases Nat.eq_zero_or_pos m with e | e
  · omega
  · have h1 := ps_ge hs (m - 1) (by omega)
    have h2 := hb (m - 1) (by omega)
    omega
def ins (ps : Nat → Nat × Nat) (t : Nat) (x : Nat × Nat) : Nat → Nat × Nat := fun i => if i < t then ps i else if i = t then x else ps (i - 1)
theorem ins_lo {t : Nat} {x : Nat × Nat} {i : Nat} (h : i < t) : ins ps t x i = ps i := by unfold ins; rw [if_pos h]
theorem ins_at {t : Nat} {x : Nat × Nat} : ins ps t x t = x := by unfold ins; rw [if_neg (by omega), if_pos rfl]
theorem ins_hi {t : Nat} {x : Nat × Nat} {i : Nat} (h : t < i) : ins ps t x i = ps (i - 1) := by unfold ins; rw [if_neg (by omega), if_neg (by omega)]
theorem ins_lk {t f y : Nat} (ht : t ≤ m) (hs : ∀ i j, i < j → j < m → (ps i).1 < (ps j).1) (h1 : ∀ i, i < t → (ps i).1 < f) (h2 : ∀ i, t ≤ i → i < m → f < (ps i).1) (g : Nat) : plk (ins ps t (f, y)) g (m + 1) = if g = f then some y else plk ps g m := by
  have hs' : ∀ i j, i < j → j < m + 1 → (ins ps t (f, y) i).1 < (ins ps t (f, y) j).1 := by
    intro i j hij hj
    rcases Nat.lt_trichotomy j t with c | c | c
    · rw [ins_lo (show i < t by omega), ins_lo c]; exact hs i j hij (by omega)
    · subst c; rw [ins_lo hij, ins_at]; exact h1 i hij
    · rw [ins_hi c]
      rcases Nat.lt_trichotomy i t with d | d | d
      · rw [ins_lo d]
        have a := h1 i d
        have b := h2 (j - 1) (by omega) (by omega)
        omega
      · subst d; rw [ins_at]; exact h2 (j - 1) (by omega) (by omega)
      · rw [ins_hi d]; exact hs (i - 1) (j - 1) (by omega) (by omega)
  by_cases c : g = f
  · subst c
    rw [if_pos rfl]
    have := plk_at (ps := ins ps t (g, y)) (j := t) (m := m + 1) (by omega) hs'
    rw [ins_at] at this
    exact this
  · rw [if_neg c]
    cases q : plk ps g m with
    | none =>
      refine plk_no (fun j hj => ?_)
      have no : ∀ i, i < m → (ps i).1 ≠ g := fun i hi e => by
        have := plk_at (ps := ps) (j := i) (m := m) hi hs
        rw [e, q] at this; cases this
      rcases Nat.lt_trichotomy j t with d | d | d
      · rw [ins_lo d]; exact no j (by omega)
      · subst d; rw [ins_at]; exact Ne.symm c
      · rw [ins_hi d]; exact no (j - 1) (by omega)
    | some z =>
      obtain ⟨j, k1, k2, k3⟩ := plk_ok q
      by_cases d : j < t
      · have := plk_at (ps := ins ps t (f, y)) (j := j) (m := m + 1) (by omega) hs'
        rw [ins_lo d, k2, k3] at this
        exact this
      · have := plk_at (ps := ins ps t (f, y)) (j := j + 1) (m := m + 1) (by omega) hs'
        rw [ins_hi (by omega), Nat.add_sub_cancel, k2, k3] at this
        exact this
theorem p_push_L76 {f y : Nat} (hm : m < 128) (hf : f < 128) (hne : ∀ j, j < m → (ps j).1 ≠ f) (hps : ∀ j, j < m → (ps j).1 < 128) (hs : ∀ i j, i < j → j < m → (ps i).1 < (ps j).1) : ∀ n t M, t ≤ m → t < n → M.2.2 3 = nI m → (∀ i, i < t → M.1 11 i = nI (ps i).1 ∧ M.1 12 i = nI (ps i).2) → (∀ i, t ≤ i → i < m → M.1 11 (i + 1) = nI (ps i).1 ∧ M.1 12 (i + 1) = nI (ps i).2) → (∀ i, t ≤ i → i < m → f < (ps i).1) → ∃ M' u, f_Mod_push_L76 n M (nI f) (nI y) (nI t) = some (M', nI (m + 1)) ∧ mLike [11, 12] [] [3] M M' ∧ u ≤ m ∧ (∀ i, i < u → (ps i).1 < f) ∧ (∀ i, u ≤ i → i < m → f < (ps i).1) ∧ UM M' (m + 1) (ins ps u (f, y)) := by
  intro n
  induction n with
  | zero => intro t M _ h; omega
  | succ n ih =>
    intro t M ht hlt h3 hlo hhi hgt
    have fin : (∀ i, i < t → (ps i).1 < f) → ∃ M' u, (m_wr 128 (nI t) (m_set M 11 (Int32.toNatClampNeg (nI t)) (nI f)) fun S6 =>
      m_wr 128 (nI t) (m_set S6 12 (Int32.toNatClampNeg (nI t)) (nI y)) fun S7 =>
      zbind (m_sc S7 3 ((S7.2.2 3) + 1)) fun S8 =>
      some (S8, (S8.2.2 3))) = some (M', nI (m + 1)) ∧ mLike [11, 12] [] [3] M M' ∧ u ≤ m ∧ (∀ i, i < u → (ps i).1 < f) ∧ (∀ i, u ≤ i → i < m → f < (ps i).1) ∧ UM M' (m + 1) (ins ps u (f, y)) := by
      intro hl
      rw [nI_clamp (by omega), m_wr_n (by omega) (by omega), m_wr_n (by omega) (by omega), zbind_e]
      have e3 : (m_set (m_set M 11 t (nI f)) 12 t (nI y)).2.2 3 = nI m := h3
      rw [e3, m_sc_at, nI_1]
      refine ⟨_, t, rfl, ?_, ht, hl, hgt, m_sc_at, fun i hi => ?_⟩
      · refine ⟨fun k hk => ?_, fun _ _ => rfl, fun k hk => m_sc_ne (by simpa using hk)⟩
        have : k ≠ 11 ∧ k ≠ 12 := by simpa using hk
        rw [m_sc_1, m_set_ne this.2, m_set_ne this.1]
      · rw [m_sc_1, m_set_ne (show (11 : Nat) ≠ 12 by decide), m_set_at, m_set_at, m_set_ne (show (12 : Nat) ≠ 11 by decide)]
        rcases Nat.lt_trichotomy i t with c | c | c
        · rw [upd_n (by omega), upd_n (by omega), ins_lo c]; exact hlo i c
        · subst c; rw [upd_s, upd_s, ins_at]; exact ⟨rfl, rfl⟩
        · rw [upd_n (by omega), upd_n (by omega), ins_hi c]
          have := hhi (i - 1) (by omega) (by omega)
          rw [show i - 1 + 1 = i by omega] at this
          exact this
    unfold f_Mod_push_L76
    by_cases c : t = 0
    · rw [if_pos (by (simp (disch := omega) only [nI_1, nI_add, Int32.lt_iff_toInt_lt, Int32.le_iff_toInt_le, ← Int32.toInt_inj, nI_toInt, tI_0, tI_1, tI_2, tI_3, tI_4, tI_m1, tI_m2, tI_m3, tI_m4, tI_64, tI_128, tI_255, tI_256, tI_1000, tI_1024, tI_4096, tI_10000, tI_16384, tI_16386, tI_M]; omega))]
      exact fin (fun i hi => by omega)
    · have em : nI t - 1 = nI (t - 1) := by
        have := nI_pred (t - 1)
        rwa [show t - 1 + 1 = t by omega] at this
      have hp := hps (t - 1) (by omega)
      rw [if_neg (by (simp (disch := omega) only [nI_1, nI_add, Int32.lt_iff_toInt_lt, Int32.le_iff_toInt_le, ← Int32.toInt_inj, nI_toInt, tI_0, tI_1, tI_2, tI_3, tI_4, tI_m1, tI_m2, tI_m3, tI_m4, tI_64, tI_128, tI_255, tI_256, tI_1000, tI_1024, tI_4096, tI_10000, tI_16384, tI_16386, tI_M]; omega)), em, m_rd_n (by omega) (by omega), (hlo (t - 1) (by omega)).1]
      by_cases d : (ps (t - 1)).1 ≤ f
      · rw [if_pos (nI_le d (by omega))]
        refine fin (fun i hi => ?_)
        have h1 := hne (t - 1) (by omega)
        by_cases e : i = t - 1
        · subst e; omega
        · have := hs i (t - 1) (by omega) (by omega)
          omega
      · rw [if_neg (nI_ge (by omega) (by omega)), m_rd_n (by omega) (by omega), (hlo (t - 1) (by omega)).1, nI_clamp (by omega), m_wr_n (by omega) (by omega), m_rd_n (by omega) (by omega), m_set_ne (show (12 : Nat) ≠ 11 by decide), (hlo (t - 1) (by omega)).2, m_wr_n (by omega) (by omega)]
        have e1 : nI t + (-1) = nI (t - 1) := by
          have := pk_m1 (t - 1)
          rwa [show t - 1 + 1 = t by omega] at this
        rw [e1]
        obtain ⟨M', u, q1, q2, q3⟩ := ih (t - 1) (m_set (m_set M 11 t (nI (ps (t - 1)).1)) 12 t (nI (ps (t - 1)).2)) (by omega) (by omega) h3 (fun i hi => by
          rw [m_set_ne (show (11 : Nat) ≠ 12 by decide), m_set_at, m_set_at, m_set_ne (show (12 : Nat) ≠ 11 by decide), upd_n (by omega), upd_n (by omega)]
          exact hlo i (by omega)) (fun i h1 h2 => by
          rw [m_set_ne (show (11 : Nat) ≠ 12 by decide), m_set_at, m_set_at, m_set_ne (show (12 : Nat) ≠ 11 by decide)]
          by_cases e : i = t - 1
          · subst e; rw [show t - 1 + 1 = t by omega, upd_s, upd_s]; exact ⟨rfl, rfl⟩
          · rw [upd_n (by omega), upd_n (by omega)]; exact hhi i (by omega) h2) (fun i h1 h2 => by
          by_cases e : i = t - 1
          · subst e; omega
          · exact hgt i (by omega) h2)
        refine ⟨M', u, q1, mLike_tr (M1 := m_set (m_set M 11 t (nI (ps (t - 1)).1)) 12 t (nI (ps (t - 1)).2)) ⟨fun k hk => ?_, fun _ _ => rfl, fun _ _ => rfl⟩ q2, q3⟩
        have : k ≠ 11 ∧ k ≠ 12 := by simpa using hk
        rw [m_set_ne this.2, m_set_ne this.1]
theorem p_push_L28a (h3 : M.2.2 3 = nI m) (hm : m ≤ 128) (a1 a2 : Int32) : ∀ n i, i ≤ m → m - i < n → f_Mod_push_L28 n M a1 a2 0 (nI i) = some (M, -1) := by
  intro n
  induction n with
  | zero => intro i _ h; omega
  | succ n ih =>
    intro i hi hlt
    unfold f_Mod_push_L28
    rw [h3]
    by_cases c : i = m
    · rw [if_pos (by (simp (disch := omega) only [nI_1, nI_add, Int32.lt_iff_toInt_lt, Int32.le_iff_toInt_le, ← Int32.toInt_inj, nI_toInt, tI_0, tI_1, tI_2, tI_3, tI_4, tI_m1, tI_m2, tI_m3, tI_m4, tI_64, tI_128, tI_255, tI_256, tI_1000, tI_1024, tI_4096, tI_10000, tI_16384, tI_16386, tI_M]; omega)), if_neg (by decide)]
    · rw [if_neg (by (simp (disch := omega) only [nI_1, nI_add, Int32.lt_iff_toInt_lt, Int32.le_iff_toInt_le, ← Int32.toInt_inj, nI_toInt, tI_0, tI_1, tI_2, tI_3, tI_4, tI_m1, tI_m2, tI_m3, tI_m4, tI_64, tI_128, tI_255, tI_256, tI_1000, tI_1024, tI_4096, tI_10000, tI_16384, tI_16386, tI_M]; omega)), if_pos rfl, nI_1]
      exact ih (i + 1) (by omega) (by omega)
theorem p_push_L28b {f : Nat} (h : UM M m ps) (hm : m ≤ 128) (hf : f < 128) (hps : ∀ j, j < m → (ps j).1 < 128) (a2 : Int32) : ∀ n i, i ≤ m → m - i < n → (∀ j, j < i → (ps j).1 ≠ f) → (f_Mod_push_L28 n M (nI f) a2 1 (nI i) = some (M, -1) ∧ ∃ j, j < m ∧ (ps j).1 = f) ∨ (f_Mod_push_L28 n M (nI f) a2 1 (nI i) = f_Mod_push_L76 zbig M (nI f) a2 (nI m) ∧ ∀ j, j < m → (ps j).1 ≠ f) := by
  intro n
  induction n with
  | zero => intro i _ h; omega
  | succ n ih =>
    intro i hi hlt hno
    unfold f_Mod_push_L28
    rw [h.1]
    by_cases c : i = m
    · subst c
      rw [if_pos (by (simp (disch := omega) only [nI_1, nI_add, Int32.lt_iff_toInt_lt, Int32.le_iff_toInt_le, ← Int32.toInt_inj, nI_toInt, tI_0, tI_1, tI_2, tI_3, tI_4, tI_m1, tI_m2, tI_m3, tI_m4, tI_64, tI_128, tI_255, tI_256, tI_1000, tI_1024, tI_4096, tI_10000, tI_16384, tI_16386, tI_M]; omega)), if_pos (by decide), zbind_e]
      exact Or.inr ⟨rfl, hno⟩
    · have hp := hps i (by omega)
      rw [if_neg (by (simp (disch := omega) only [nI_1, nI_add, Int32.lt_iff_toInt_lt, Int32.le_iff_toInt_le, ← Int32.toInt_inj, nI_toInt, tI_0, tI_1, tI_2, tI_3, tI_4, tI_m1, tI_m2, tI_m3, tI_m4, tI_64, tI_128, tI_255, tI_256, tI_1000, tI_1024, tI_4096, tI_10000, tI_16384, tI_16386, tI_M]; omega)), if_neg (by decide), m_rd_n (by omega) (by omega), (h.2 i (by omega)).1, nI_1]
      by_cases d : (ps i).1 = f
      · rw [if_pos (by rw [d])]
        left
        exact ⟨p_push_L28a h.1 hm _ _ n (i + 1) (by omega) (by omega), i, by omega, d⟩
      · rw [if_neg (by rw [nI_eq (by omega) (by omega)]; exact d)]
        refine ih (i + 1) (by omega) (by omega) (fun j hj => ?_)
        by_cases e : j = i
        · subst e; exact d
        · exact hno j (by omega)
theorem k_push (h : BB n S M nf fam bit np P nl fl m ps) (hn : n ≤ 600) (a1 a2 : Int32) : Keep n S M nf fam bit np P nl fl (f_Tre_push S a1 a2) (f_Mod_push M a1 a2) := by
  have h' := h
  obtain ⟨a0, b1, b2, b3, b4, b5, b6, b7, b8, b9⟩ := h
  have hm := ps_m b9.2 (fun i hi => (b9.1 i hi).1)
  have bad : f_Mod_push_L28 zbig M a1 a2 0 0 = some (M, -1) := p_push_L28a b8.1 hm a1 a2 zbig 0 (by omega) (by unfold zbig; omega)
  unfold f_Tre_push f_Mod_push
  rw [bad]
  rcases c_has (M := M) b4 (by omega) a2 with ⟨d1, d2, d3⟩ | ⟨x, hx, ex, d1, d2⟩ | d
  · rw [d1, d2, if_pos rfl, if_pos rfl]
    by_cases c1 : a1 < 0
    · rw [if_pos c1]; exact keep_no h'
    · rw [if_neg c1]
      by_cases c2 : 128 ≤ a1
      · rw [if_pos c2]; exact keep_no h'
      · rw [if_neg c2]; exact keep_no h'
  · subst ex
    rw [d1, d2, if_neg (show ¬ (1 : Int32) = 0 by decide), if_neg (show ¬ (1 : Int32) = 0 by decide)]
    by_cases c1 : a1 < 0
    · rw [if_pos c1, if_pos c1]; exact keep_no h'
    · rw [if_neg c1, if_neg c1]
      by_cases c2 : 128 ≤ a1
      · rw [if_pos c2, if_pos c2]; exact keep_no h'
      · rw [if_neg c2, if_neg c2]
        obtain ⟨f, hf1, ef⟩ := nI_of c1
        subst ef
        have hf : f < 128 := by (simp (disch := omega) only [nI_1, nI_add, Int32.lt_iff_toInt_lt, Int32.le_iff_toInt_le, ← Int32.toInt_inj, nI_toInt, tI_0, tI_1, tI_2, tI_3, tI_4, tI_m1, tI_m2, tI_m3, tI_m4, tI_64, tI_128, tI_255, tI_256, tI_1000, tI_1024, tI_4096, tI_10000, tI_16384, tI_16386, tI_M] at *; omega)
        have er : f_Psh_at S (nI f) = oI (plk ps f m) := by unfold f_Psh_at; rw [r_at_rd, b7.1, rowOf_rd hf (by omega)]
        rw [er]
        rcases p_push_L28b (f := f) b8 hm hf (fun j hj => (b9.1 j hj).1) (nI x) zbig 0 (by omega) (by unfold zbig; omega) (fun j hj => by omega) with ⟨q1, j, q2, q3⟩ | ⟨q1, q2⟩
        · have : plk ps f m = some (ps j).2 := by rw [← q3]; exact plk_at q2 b9.2
          have hj := (b9.1 j q2).2
          rw [this, oI_s, if_neg (nI_m1 (by omega)), show f_Mod_push_L28 zbig M (nI f) (nI x) 1 0 = some (M, -1) from q1]
          exact keep_no h'
        · have hm' : m < 128 := by
            rcases Nat.lt_or_ge m 128 with q | q
            · exact q
            · have e : m = 128 := by omega
              have := ps_id b9.2 (fun i hi => by rw [e]; exact (b9.1 i hi).1) f (by omega)
              exact absurd this (q2 f (by omega))
          rw [plk_no q2, oI_n, if_pos rfl, zbind_e, show f_Mod_push_L28 zbig M (nI f) (nI x) 1 0 = f_Mod_push_L76 zbig M (nI f) (nI x) (nI m) from q1]
          obtain ⟨M', u, w1, w2, w3, w4, w5, w6⟩ := p_push_L76 (f := f) (y := x) hm' hf q2 (fun j hj => (b9.1 j hj).1) b9.2 zbig m M (Nat.le_refl _) (by unfold zbig; omega) b8.1 b8.2 (fun i h1 h2 => by omega) (fun i h1 h2 => by omega)
          rw [w1]
          obtain ⟨S1, e1, l1, r1⟩ := zSet (S := S) (k := 10) (i := f) (nI x) a0 (by rw [b7.1, rowOf_len]; exact hf) (by rw [b7.1, rowOf_len]; omega)
          have ep : f_Psh_put S (nI f) (nI x) = z_sc S1 2 (nI (m + 1)) := by
            unfold f_Psh_put
            rw [zbind_e, e1, zbind_e]
            show z_sc S1 2 (S1.2.2.1 2 + 1) = _
            rw [l1.2.1, b7.2, nI_1]
          rw [ep]
          have em : f_Psh_many (z_sc S1 2 (nI (m + 1))) = nI (m + 1) := by unfold f_Psh_many; exact z_sc_at
          rw [em]
          refine ⟨_, M', nI (m + 1), nf, fam, bit, np, P, nl, fl, m + 1, ins ps u (f, x), rfl, rfl, ⟨l1.2.2, by omega, ?_, ?_, ?_, ?_, b6, ⟨?_, z_sc_at⟩, w6, ?_⟩, Nat.le_refl _, Nat.le_refl _, Nat.le_refl _, fun _ _ => ⟨rfl, rfl⟩, fun _ _ => rfl, fun _ _ => rfl, fun k hk => l1.1 k (by simp; omega), fun k hk => ?_, fun k hk => w2.1 k (by simp; omega), fun k hk => w2.2.1 k (by simp), fun k hk => w2.2.2 k (by simp; omega)⟩
          · refine ⟨?_, fun i hi => ?_⟩
            · show S1.1 0 = _
              rw [l1.1 0 (by decide)]; exact b2.1
            · show S1.2.2.2 i = _
              rw [l1.2.1]; exact b2.2 i hi
          · unfold FM; rw [w2.2.2 0 (by decide), w2.1 0 (by decide), w2.2.1 1 (by simp)]; exact b3
          · exact PC_same (S := S) b4 (fun k h1 h2 => l1.1 k (by simp; omega))
          · exact PM_like b5 w2 (by simp) (by simp)
          · show S1.1 10 = _
            rw [r1, b7.1, rowOf_set]
            refine rowOf_congr (fun g hg => ?_)
            rw [ins_lk w3 b9.2 w4 w5 g]
            by_cases e : g = f
            · subst e; rw [va_s, if_pos rfl]; rfl
            · rw [va_n e, if_neg e]
          · refine ⟨fun i hi => ?_, fun i j hij hj => ?_⟩
            · rcases Nat.lt_trichotomy i u with c | c | c
              · rw [ins_lo c]; exact b9.1 i (by omega)
              · subst c; rw [ins_at]; exact ⟨hf, hx⟩
              · rw [ins_hi c]; exact b9.1 (i - 1) (by omega)
            · rcases Nat.lt_trichotomy j u with c | c | c
              · rw [ins_lo (show i < u by omega), ins_lo c]; exact b9.2 i j hij (by omega)
              · subst c; rw [ins_lo hij, ins_at]; exact w4 i hij
              · rw [ins_hi c]
                rcases Nat.lt_trichotomy i u with d | d | d
                · rw [ins_lo d]
                  have a := w4 i d
                  have b := w5 (j - 1) (by omega) (by omega)
                  omega
                · subst d; rw [ins_at]; exact w5 (j - 1) (by omega) (by omega)
                · rw [ins_hi d]; exact b9.2 (i - 1) (j - 1) (by omega) (by omega)
          · show va_up S1.2.2.1 2 _ k = _
            rw [va_n hk, l1.2.1]
  · exact absurd b5.1 d
end PPU
