-- PURE LAYER: what both know of the tree while it grows
section PAM
variable {T : Tr} {A : Am} {u : Option Nat} {lab : Option Int32} {po : Nat → Bool} {lk : List Nat} {R K : Option Nat} {v : Nat}
theorem am_P {w : Nat} (hw : w < aN A) : aP (amAdd T A u lab po lk R K) w = aP A w := va_n (show w ≠ aN A by omega)
theorem am_R {w : Nat} (hw : w < aN A) : aR (amAdd T A u lab po lk R K) w = aR A w := va_n (show w ≠ aN A by omega)
theorem am_K {w : Nat} (hw : w < aN A) : aK (amAdd T A u lab po lk R K) w = aK A w := va_n (show w ≠ aN A by omega)
theorem am_U {w : Nat} (hw : w < aN A) : aU (amAdd T A u lab po lk R K) w = aU A w := va_n (show w ≠ aN A by omega)
theorem am_L {w : Nat} (hw : w < aN A) : aL (amAdd T A u lab po lk R K) w = aL A w := va_n (show w ≠ aN A by omega)
theorem am_D {w : Nat} (hw : w < aN A) : aD (amAdd T A u lab po lk R K) w = aD A w := va_n (show w ≠ aN A by omega)
theorem am_O {w : Nat} (hw : w < aN A) : aO (amAdd T A u lab po lk R K) w = aO A w := va_n (show w ≠ aN A by omega)
theorem am_W {w : Nat} (hw : w < aN A) : aW (amAdd T A u lab po lk R K) w = aW A w := va_n (show w ≠ aN A by omega)
theorem am_C {w : Nat} (hw : w < aN A) (hne : w ≠ v) : aC (amAdd T A (some v) lab po lk R K) w = aC A w := by
  show va_up (va_up (aC A) (aN A) []) v (aC A v ++ [aN A]) w = _
  rw [va_n hne, va_n (by omega)]
theorem am_Cv : aC (amAdd T A (some v) lab po lk R K) v = aC A v ++ [aN A] := va_s
theorem am_Cn (hv : v < aN A) : aC (amAdd T A (some v) lab po lk R K) (aN A) = [] := by
  show va_up (va_up (aC A) (aN A) []) v (aC A v ++ [aN A]) (aN A) = _
  rw [va_n (by omega), va_s]
theorem am_Pn : aP (amAdd T A u lab po lk R K) (aN A) = K.map (fun k => (tK T k).2.1) := va_s
theorem am_Rn : aR (amAdd T A u lab po lk R K) (aN A) = R := va_s
theorem am_Kn : aK (amAdd T A u lab po lk R K) (aN A) = K := va_s
theorem am_Ln : aL (amAdd T A u lab po lk R K) (aN A) = lab := va_s
theorem am_On : aO (amAdd T A u lab po lk R K) (aN A) = po := va_s
theorem am_Wn : aW (amAdd T A u lab po lk R K) (aN A) = lk := va_s
theorem am_Un : aU (amAdd T A u lab po lk R K) (aN A) = u := va_s
theorem am_Dn : aD (amAdd T A (some v) lab po lk R K) (aN A) = aD A v + 1 := va_s
theorem am_N : aN (amAdd T A u lab po lk R K) = aN A + 1 := rfl
end PAM
/-- ends with a rule (or with none) -/
def cnt (A : Am) (o : Option Nat) (n : Nat) : Nat := zsum (fun v => if aP A v = none ∧ aR A v = o then 1 else 0) n
def mxE (A : Am) : Nat → Nat
  | 0 => 0
  | n + 1 => if aP A n = none then max (mxE A n) (aD A n) else mxE A n
def isMiss (A : Am) (v : Nat) : Prop := aP A v = none ∧ aR A v = none
/-- the way to the first end without a rule -/
def missW (M : zM) (T : Tr) (P : Nat → Pt) (nr : Nat) (A : Am) (m : Nat) (an : Nat → Nat) : Prop := an (aD A m) = m ∧ ∀ i, i < aD A m → an i < aN A ∧ an (i + 1) < aN A ∧ aU A (an (i + 1)) = some (an i) ∧ ∃ p, aP A (an i) = some p ∧ M.1 29 i = nI p ∧ (∀ x, aL A (an (i + 1)) = some x → M.1 30 i = x) ∧ (aL A (an (i + 1)) = none → ∃ n, M.1 30 i = nI n ∧ isLo (nuR T P (aO A (an i)) p nr) n)
def MSS (M : zM) (T : Tr) (P : Nat → Pt) (nr : Nat) (A : Am) : Prop := ((∀ v, v < aN A → ¬ isMiss A v) ∧ M.2.2 10 = -1) ∨ ∃ m an, m < aN A ∧ isMiss A m ∧ (∀ v, v < m → ¬ isMiss A v) ∧ M.2.2 10 = nI (aD A m) ∧ missW M T P nr A m an
/-- what the reference tells of the tree -/
def RS (M : zM) (T : Tr) (P : Nat → Pt) (nr : Nat) (A : Am) : Prop := M.2.2 8 = nI (aN A) ∧ (∀ o, (∀ r, o = some r → r < nr) → M.1 28 (idx o) = nI (cnt A o (aN A))) ∧ M.2.2 9 = nI (mxE A (aN A)) ∧ MSS M T P nr A
/-- where the reference stands among a node's branches -/
def FO (M : zM) (A : Am) (v i : Nat) : Prop := ((aC A v).getLast? = none → M.2.1 25 i = -4294967296 ∧ M.1 26 i = 0) ∧ ∀ w, (aC A v).getLast? = some w → M.2.1 25 i = nxI (aL A w) ∧ M.1 26 i = bI (decide (aL A w = none))
def DSM (M : zM) (A : Am) (d : Nat) (pf : Nat → Nat) (nf : Nat) (fam : Nat → Nat) (bit : Nat → Int64) (np : Nat) (P : Nat → Pt) (nl : Nat) (fl : Nat → Nat × Nat) (T : Tr) (nr : Nat) (sa : Nat → Nat) : Prop :=
  MC M nf fam bit np P nl fl T nr sa ∧ (∀ i, i ≤ d → PB M i nr (aO A (pf i)) ∧ FO M A (pf i) i ∧ ∃ p, aP A (pf i) = some p ∧ M.1 24 i = nI p) ∧ LM M T (curL T (aW A (pf d)) (aK A (pf d)))
section PGR
variable {M : zM} {T : Tr} {nr : Nat} {sa : Nat → Nat} {nf : Nat} {fam : Nat → Nat} {bit : Nat → Int64} {np : Nat} {P : Nat → Pt} {nl : Nat} {fl : Nat → Nat × Nat} {ru : Nat → Nat} {A : Am} {d : Nat} {pf : Nat → Nat}
theorem aD_le (hT : TI T P nr sa fam A) : ∀ n v, v < n → v < aN A → aD A v ≤ v := by
  intro n
  induction n with
  | zero => intro v h; omega
  | succ n ih =>
    intro v hn hv
    by_cases c : v = 0
    · rw [c, hT.1.2.2.1]; omega
    · obtain ⟨u, p, b1, b2, b3, b4, b5, b6, b7⟩ := hT.2.1 v (by omega) hv
      have := ih u (by omega) (by omega)
      omega
theorem pf_dep (hT : TI T P nr sa fam A) (h : PTH A d pf) : ∀ i, i ≤ d → aD A (pf i) = i := by
  intro i
  induction i with
  | zero => intro _; rw [h.1]; exact hT.1.2.2.1
  | succ i ih =>
    intro hi
    obtain ⟨q1, q2, q3⟩ := h.2.2 i (by omega)
    obtain ⟨u, p, b1, b2, b3, b4, b5, b6, b7⟩ := hT.2.1 (pf (i + 1)) (by omega) (PTH_n h hi)
    rw [q1] at b2
    cases b2
    rw [b6, ih (by omega)]
theorem mxE_le (hT : TI T P nr sa fam A) : ∀ n, n ≤ aN A → mxE A n ≤ n := by
  intro n
  induction n with
  | zero => intro _; exact Nat.le_refl _
  | succ n ih =>
    intro hn
    have h1 := ih (by omega)
    have h2 := aD_le hT (n + 1) n (by omega) (by omega)
    unfold mxE
    split
    · omega
    · omega
theorem PB_congr {po po' : Nat → Bool} {i : Nat} (h : PB M i nr po) (e : ∀ r, r < nr → po r = po' r) : PB M i nr po' := fun r hr => by rw [h r hr, e r hr]
theorem fP1_congr {po po' : Nat → Bool} {i : Nat} {o : Option Nat} (h : fP1 po nr i o) (e : ∀ r, r < nr → po r = po' r) : fP1 po' nr i o := by
  cases o with
  | none => exact fun j h1 h2 => by rw [← e j h2]; exact h j h1 h2
  | some r => exact ⟨h.1, h.2.1, by rw [← e r h.2.1]; exact h.2.2.1, fun j h1 h2 => by rw [← e j (by have := h.2.1; omega)]; exact h.2.2.2 j h1 h2⟩
theorem cnt_old {u : Option Nat} {lab : Option Int32} {po : Nat → Bool} {lk : List Nat} {R K : Option Nat} {o : Option Nat} : cnt (amAdd T A u lab po lk R K) o (aN A) = cnt A o (aN A) := zsum_congr (fun v hv => by rw [am_P hv, am_R hv])
theorem mxE_old {u : Option Nat} {lab : Option Int32} {po : Nat → Bool} {lk : List Nat} {R K : Option Nat} : ∀ n, n ≤ aN A → mxE (amAdd T A u lab po lk R K) n = mxE A n := by
  intro n
  induction n with
  | zero => intro _; rfl
  | succ n ih =>
    intro hn
    unfold mxE
    rw [am_P (show n < aN A by omega), am_D (show n < aN A by omega), ih (by omega)]
theorem cnt_le {o : Option Nat} : ∀ n, cnt A o n ≤ n := by
  intro n
  induction n with
  | zero => exact Nat.le_refl _
  | succ n ih =>
    have : cnt A o (n + 1) = cnt A o n + (if aP A n = none ∧ aR A n = o then 1 else 0) := rfl
    rw [this]
    split <;> omega
theorem MSS_old {M' : zM} {v : Nat} {lab : Option Int32} {po : Nat → Bool} {lk : List Nat} {R K : Option Nat} (h : MSS M T P nr A) (e10 : M'.2.2 10 = M.2.2 10) (e29 : M'.1 29 = M.1 29) (e30 : M'.1 30 = M.1 30) (hnew : ¬ isMiss (amAdd T A (some v) lab po lk R K) (aN A) ∨ ∃ m, m < aN A ∧ isMiss A m) : MSS M' T P nr (amAdd T A (some v) lab po lk R K) := by
  have iso : ∀ w, w < aN A → (isMiss (amAdd T A (some v) lab po lk R K) w ↔ isMiss A w) := fun w hw => by unfold isMiss; rw [am_P hw, am_R hw]
  rcases h with ⟨h1, h2⟩ | ⟨m, an, h1, h2, h3, h4, h5, h6⟩
  · left
    refine ⟨fun w hw => ?_, by rw [e10]; exact h2⟩
    have hw : w < aN A + 1 := hw
    by_cases c : w = aN A
    · subst c
      rcases hnew with y | ⟨m, y1, y2⟩
      · exact y
      · exact absurd y2 (h1 m y1)
    · rw [iso w (by omega)]; exact h1 w (by omega)
  · right
    refine ⟨m, an, by show m < aN A + 1; omega, (iso m h1).mpr h2, fun w hw => ?_, by rw [e10, am_D h1]; exact h4, by rw [am_D h1]; exact h5, fun i hi => ?_⟩
    · rw [iso w (by omega)]; exact h3 w hw
    · rw [am_D h1] at hi
      obtain ⟨b1, b2, b3, p, b4, b5, b6, b7⟩ := h6 i hi
      refine ⟨by show an i < aN A + 1; omega, by show an (i + 1) < aN A + 1; omega, by rw [am_U b2]; exact b3, p, by rw [am_P b1]; exact b4, by rw [e29]; exact b5, ?_, ?_⟩
      · rw [am_L b2, e30]; exact b6
      · rw [am_L b2, e30, am_O b1]; exact b7
/-- an inner node changes nothing of what is told -/
theorem RS_inner {M' : zM} {v k : Nat} {lab : Option Int32} {po : Nat → Bool} {lk : List Nat} {R : Option Nat} (h : RS M T P nr A) (e8 : M'.2.2 8 = nI (aN A + 1)) (e28 : M'.1 28 = M.1 28) (e9 : M'.2.2 9 = M.2.2 9) (e10 : M'.2.2 10 = M.2.2 10) (e29 : M'.1 29 = M.1 29) (e30 : M'.1 30 = M.1 30) : RS M' T P nr (amAdd T A (some v) lab po lk R (some k)) := by
  obtain ⟨h1, h2, h3, h4⟩ := h
  have nP : aP (amAdd T A (some v) lab po lk R (some k)) (aN A) ≠ none := by rw [am_Pn]; simp
  refine ⟨e8, fun o ho => ?_, ?_, MSS_old h4 e10 e29 e30 (Or.inl (fun y => nP y.1))⟩
  · rw [e28, h2 o ho]
    have : cnt (amAdd T A (some v) lab po lk R (some k)) o (aN A + 1) = cnt (amAdd T A (some v) lab po lk R (some k)) o (aN A) + (if aP (amAdd T A (some v) lab po lk R (some k)) (aN A) = none ∧ aR (amAdd T A (some v) lab po lk R (some k)) (aN A) = o then 1 else 0) := rfl
    show _ = nI (cnt _ o (aN A + 1))
    rw [this, cnt_old, if_neg (fun y => nP y.1)]; rfl
  · rw [e9, h3]
    show _ = nI (mxE _ (aN A + 1))
    have : mxE (amAdd T A (some v) lab po lk R (some k)) (aN A + 1) = if aP (amAdd T A (some v) lab po lk R (some k)) (aN A) = none then max (mxE (amAdd T A (some v) lab po lk R (some k)) (aN A)) (aD (amAdd T A (some v) lab po lk R (some k)) (aN A)) else mxE (amAdd T A (some v) lab po lk R (some k)) (aN A) := rfl
    rw [this, if_neg nP, mxE_old _ (Nat.le_refl _)]
/-- an end is told -/
theorem RS_end (hF : SF nf fam bit np P nl fl T nr ru sa) (hT : TI T P nr sa fam A) (hPt : PTH A d pf) {M1 : zM} (hM : MC M1 nf fam bit np P nl fl T nr sa) {lab : Option Int32} {po : Nat → Bool} {lk : List Nat} {R : Option Nat} (hn : aN A ≤ 4096) (h : RS M T P nr A) (hR : ∀ r, R = some r → r < nr) (l0 : ∀ k, k = 28 ∨ k = 29 ∨ k = 30 → M1.1 k = M.1 k) (l8 : M1.2.2 8 = nI (aN A + 1)) (l9 : M1.2.2 9 = M.2.2 9) (l10 : M1.2.2 10 = M.2.2 10)
    (hpath : ∀ i, i ≤ d → PB M1 i nr (aO A (pf i)) ∧ (∃ p, aP A (pf i) = some p ∧ M1.1 24 i = nI p) ∧ M1.2.1 25 i = nxI (if i = d then lab else aL A (pf (i + 1))) ∧ M1.1 26 i = bI (decide ((if i = d then lab else aL A (pf (i + 1))) = none))) :
    ∃ M', f_Mod_end M1 (oI R) (nI (d + 1)) = some M' ∧ mLike [28, 29, 30] [] [9, 10] M1 M' ∧ RS M' T P nr (amAdd T A (some (pf d)) lab po lk R none) := by
  obtain ⟨h1, h2, h3, h4⟩ := h
  have hv := hPt.2.1
  have hdd := pf_dep hT hPt d (Nat.le_refl _)
  have hdl := aD_le hT (pf d + 1) (pf d) (by omega) hv
  have hmxl := mxE_le hT (aN A) (Nat.le_refl _)
  have nP : aP (amAdd T A (some (pf d)) lab po lk R none) (aN A) = none := am_Pn
  have nD : aD (amAdd T A (some (pf d)) lab po lk R none) (aN A) = d + 1 := by rw [am_Dn, hdd]
  -- the parts of the way
  have hex : ∃ pl : Nat → Nat, ∀ i, i ≤ d → aP A (pf i) = some (pl i) ∧ M1.1 24 i = nI (pl i) := by
    refine ⟨fun i => (aP A (pf i)).getD 0, fun i hi => ?_⟩
    obtain ⟨p, e1, e2⟩ := (hpath i hi).2.1
    show aP A (pf i) = some ((aP A (pf i)).getD 0) ∧ M1.1 24 i = nI ((aP A (pf i)).getD 0)
    rw [e1]; exact ⟨rfl, e2⟩
  obtain ⟨pl, hpl⟩ := hex
  have hi24 : ∀ i, i < d + 1 → PB M1 i nr (aO A (pf i)) ∧ M1.1 24 i = nI (pl i) ∧ pl i < tQ T := fun i hi => ⟨(hpath i (by omega)).1, (hpl i (by omega)).2, (look_part hF hT (PTH_n hPt (show i ≤ d by omega)) (hpl i (by omega)).1).1⟩
  have hms : ∃ ms : Option Nat, M1.2.2 10 = oI ms ∧ (∀ x, ms = some x → x < 5000) ∧ (ms = none ↔ ∀ v, v < aN A → ¬ isMiss A v) := by
    rcases h4 with ⟨a1, a2⟩ | ⟨m, an, a1, a2, a3, a4, a5⟩
    · exact ⟨none, by rw [l10, a2]; rfl, (by intro x e; cases e), ⟨fun _ => a1, fun _ => rfl⟩⟩
    · refine ⟨some (aD A m), by rw [l10, a4]; rfl, fun x e => ?_, ⟨(by intro e; cases e), fun w => absurd a2 (w m a1)⟩⟩
      cases e
      have := aD_le hT (m + 1) m (by omega) a1
      omega
  obtain ⟨ms, ms1, ms2, ms3⟩ := hms
  obtain ⟨M', f1, f2, f3, f4, f5, f6, f7⟩ := p_end hF hM (D := d + 1) (by omega) (po := fun i => aO A (pf i)) (pl := pl) hi24 hR (mx := mxE A (aN A)) (by rw [l9]; exact h3) (by omega) ms1 ms2
  refine ⟨M', f1, f2, by rw [f2.2.2 8 (by decide)]; exact l8, fun o ho => ?_, ?_, ?_⟩
  · have hc : cnt (amAdd T A (some (pf d)) lab po lk R none) o (aN A + 1) = cnt A o (aN A) + (if R = o then 1 else 0) := by
      have : cnt (amAdd T A (some (pf d)) lab po lk R none) o (aN A + 1) = cnt (amAdd T A (some (pf d)) lab po lk R none) o (aN A) + (if aP (amAdd T A (some (pf d)) lab po lk R none) (aN A) = none ∧ aR (amAdd T A (some (pf d)) lab po lk R none) (aN A) = o then 1 else 0) := rfl
      rw [this, cnt_old, nP, am_Rn]; simp
    show _ = nI (cnt _ o (aN A + 1))
    rw [hc]
    by_cases c : R = o
    · subst c
      rw [f3, l0 28 (Or.inl rfl), h2 R ho, if_pos rfl, nI_1]
    · have : idx o ≠ idx R := by
        cases o with
        | none => cases R with
          | none => exact absurd rfl c
          | some r => show 0 ≠ r + 1; omega
        | some x => cases R with
          | none => show x + 1 ≠ 0; omega
          | some r =>
            show x + 1 ≠ r + 1
            intro e
            exact c (by rw [show x = r by omega])
      rw [f4 _ this, l0 28 (Or.inl rfl), h2 o ho, if_neg c]; rfl
  · rw [f5]
    show _ = nI (mxE _ (aN A + 1))
    have : mxE (amAdd T A (some (pf d)) lab po lk R none) (aN A + 1) = if aP (amAdd T A (some (pf d)) lab po lk R none) (aN A) = none then max (mxE (amAdd T A (some (pf d)) lab po lk R none) (aN A)) (aD (amAdd T A (some (pf d)) lab po lk R none) (aN A)) else mxE (amAdd T A (some (pf d)) lab po lk R none) (aN A) := rfl
    rw [this, if_pos nP, mxE_old _ (Nat.le_refl _), nD]
  · by_cases c : R = none ∧ ms = none
    · obtain ⟨c1, c2⟩ := c
      obtain ⟨g1, g2⟩ := f7 c1 c2
      have hno := ms3.mp c2
      right
      refine ⟨aN A, va_up pf (d + 1) (aN A), by show aN A < aN A + 1; omega, ⟨nP, by rw [am_Rn]; exact c1⟩, fun w hw => ?_, by rw [nD]; exact g1, by rw [nD, va_s], fun i hi => ?_⟩
      · unfold isMiss
        rw [am_P hw, am_R hw]; exact hno w hw
      · rw [nD] at hi
        obtain ⟨j1, j2, j3⟩ := g2 i hi
        have hin := PTH_n hPt (show i ≤ d by omega)
        obtain ⟨p1, ⟨pp, p2, p3⟩, p4, p5⟩ := hpath i (by omega)
        obtain ⟨q1, q2⟩ := hpl i (by omega)
        rw [va_n (show i ≠ d + 1 by omega)]
        refine ⟨by show pf i < aN A + 1; omega, ?_, ?_, pl i, by rw [am_P hin]; exact q1, j1, ?_, ?_⟩
        · by_cases z : i = d
          · rw [z, va_s]; show aN A < aN A + 1; omega
          · rw [va_n (by omega)]
            have := PTH_n hPt (show i + 1 ≤ d by omega)
            show pf (i + 1) < aN A + 1; omega
        · by_cases z : i = d
          · rw [z, va_s, am_Un]
          · rw [va_n (by omega), am_U (PTH_n hPt (by omega))]
            exact (hPt.2.2 i (by omega)).1
        · intro x ex
          have el : aL (amAdd T A (some (pf d)) lab po lk R none) (va_up pf (d + 1) (aN A) (i + 1)) = if i = d then lab else aL A (pf (i + 1)) := by
            by_cases z : i = d
            · rw [if_pos z, z, va_s, am_Ln]
            · rw [if_neg z, va_n (by omega), am_L (PTH_n hPt (by omega))]
          rw [el] at ex
          rw [ex] at p4 p5
          rw [j2 (by rw [p5]; rfl), p4]
          exact i64_32 x
        · intro ex
          have el : aL (amAdd T A (some (pf d)) lab po lk R none) (va_up pf (d + 1) (aN A) (i + 1)) = if i = d then lab else aL A (pf (i + 1)) := by
            by_cases z : i = d
            · rw [if_pos z, z, va_s, am_Ln]
            · rw [if_neg z, va_n (by omega), am_L (PTH_n hPt (by omega))]
          rw [el] at ex
          rw [ex] at p5
          obtain ⟨n, n1, n2⟩ := j3 (by rw [p5]; decide)
          refine ⟨n, n1, ?_⟩
          rw [am_O hin]; exact n2
    · have hor : R ≠ none ∨ ms ≠ none := by
        by_cases z : R = none
        · exact Or.inr (fun y => c ⟨z, y⟩)
        · exact Or.inl z
      obtain ⟨g1, g2, g3⟩ := f6 hor
      refine MSS_old h4 (by rw [g1, l10]) (by rw [g2, l0 29 (by simp)]) (by rw [g3, l0 30 (by simp)]) ?_
      rcases hor with z | z
      · left
        intro y
        exact z (by have := y.2; rw [am_Rn] at this; exact this)
      · right
        apply Classical.byContradiction
        intro w
        exact z (ms3.mpr (fun v hv hm => w ⟨v, hv, hm⟩))
end PGR
