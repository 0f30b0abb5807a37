-- PURE LAYER: the tree's nodes
/-- nodes: part, rule, ask, upper, label, branches, depth, possible rules, parts looked at before -/
abbrev Am : Type := Nat × (Nat → Option Nat) × (Nat → Option Nat) × (Nat → Option Nat) × (Nat → Option Nat) × (Nat → Option Int32) × (Nat → List Nat) × (Nat → Nat) × (Nat → Nat → Bool) × (Nat → List Nat)
def aN (A : Am) : Nat := A.1
def aP (A : Am) : Nat → Option Nat := A.2.1
def aR (A : Am) : Nat → Option Nat := A.2.2.1
def aK (A : Am) : Nat → Option Nat := A.2.2.2.1
def aU (A : Am) : Nat → Option Nat := A.2.2.2.2.1
def aL (A : Am) : Nat → Option Int32 := A.2.2.2.2.2.1
def aC (A : Am) : Nat → List Nat := A.2.2.2.2.2.2.1
def aD (A : Am) : Nat → Nat := A.2.2.2.2.2.2.2.1
def aO (A : Am) : Nat → Nat → Bool := A.2.2.2.2.2.2.2.2.1
def aW (A : Am) : Nat → List Nat := A.2.2.2.2.2.2.2.2.2
def kidsUp (f : Nat → List Nat) (v : Nat) : Option Nat → Nat → List Nat
  | none => va_up f v []
  | some u => va_up (va_up f v []) u (f u ++ [v])
def depUp (f : Nat → Nat) : Option Nat → Nat
  | none => 0
  | some u => f u + 1
/-- a new node -/
def amAdd (T : Tr) (A : Am) (u : Option Nat) (lab : Option Int32) (po : Nat → Bool) (lk : List Nat) (R K : Option Nat) : Am :=
  (aN A + 1, va_up (aP A) (aN A) (K.map (fun k => (tK T k).2.1)), va_up (aR A) (aN A) R, va_up (aK A) (aN A) K, va_up (aU A) (aN A) u, va_up (aL A) (aN A) lab, kidsUp (aC A) (aN A) u, va_up (aD A) (aN A) (depUp (aD A) u), va_up (aO A) (aN A) po, va_up (aW A) (aN A) lk)
/-- the class's rows of nodes -/
def NRw (S : zS) (A : Am) (nE nN : Nat → Option Nat) : Prop :=
  S.1 27 = rowOf (aN A) (fun v => oI (aP A v)) ∧ S.1 28 = rowOf (aN A) (fun v => oI (aR A v)) ∧ S.1 29 = rowOf (aN A) (fun v => oI (aK A v)) ∧ S.1 30 = rowOf (aN A) (fun v => oI (aU A v)) ∧ S.1 31 = rowOf (aN A) (fun v => oI (nE v)) ∧ S.1 32 = rowOf (aN A) (fun v => oI (aC A v).head?) ∧ S.1 33 = rowOf (aN A) (fun v => oI (aC A v).getLast?) ∧ S.1 34 = rowOf (aN A) (fun v => oI (nN v)) ∧ S.1 35 = rowOf (aN A) (fun v => nI (aC A v).length) ∧ S.1 36 = rowOf (aN A) (fun v => nI (aD A v))
/-- branches are nodes below -/
def KI (A : Am) (nN : Nat → Option Nat) : Prop := ∀ v, v < aN A → lkd nN (aC A v) ∧ ∀ w, w ∈ aC A v → w < aN A ∧ v < w ∧ aU A w = some v
section PNO
variable {S : zS} {T : Tr} {A : Am} {nE nN : Nat → Option Nat}
theorem amAdd_C {u : Option Nat} {lab : Option Int32} {po : Nat → Bool} {lk : List Nat} {R K : Option Nat} : aC (amAdd T A u lab po lk R K) = kidsUp (aC A) (aN A) u := rfl
theorem p_addRows (u tk : Option Nat) (ho : okS S) (hR : NRw S A nE nN) (hn : aN A < 60000) (hu : ∀ x, u = some x → x < aN A) : ∃ S', zLike [27, 28, 29, 30, 31, 32, 33, 34, 35, 36] S S' ∧ S'.1 27 = S.1 27 ++ [-1] ∧ S'.1 28 = S.1 28 ++ [-1] ∧ S'.1 29 = S.1 29 ++ [-1] ∧ S'.1 30 = S.1 30 ++ [oI u] ∧ S'.1 31 = S.1 31 ++ [oI tk] ∧ S'.1 32 = S.1 32 ++ [-1] ∧ S'.1 33 = S.1 33 ++ [-1] ∧ S'.1 34 = S.1 34 ++ [-1] ∧ S'.1 35 = S.1 35 ++ [0] ∧ S'.1 36 = S.1 36 ++ [nI (depUp (aD A) u)] ∧ f_Nod_add S (oI u) (oI tk) = (match u with
    | none => (S', nI (aN A))
    | some x => (f_Nod_hang S' (nI x) (nI (aN A)), nI (aN A))) := by
  obtain ⟨r27, r28, r29, r30, r31, r32, r33, r34, r35, r36⟩ := hR
  have len : ∀ k, 27 ≤ k → k ≤ 36 → (S.1 k).length = aN A := by
    intro k h1 h2
    have : k = 27 ∨ k = 28 ∨ k = 29 ∨ k = 30 ∨ k = 31 ∨ k = 32 ∨ k = 33 ∨ k = 34 ∨ k = 35 ∨ k = 36 := by omega
    rcases this with c | c | c | c | c | c | c | c | c | c <;> subst c <;> simp only [*, rowOf_len]
  obtain ⟨S1, a1, m1, s1⟩ := zAdd (S := S) (k := 28) (-1) ho (by decide) (by rw [len 28 (by omega) (by omega)]; omega)
  obtain ⟨S2, a2, m2, s2⟩ := zAdd (S := S1) (k := 29) (-1) m1.2.2 (by decide) (by rw [m1.1 29 (by decide), len 29 (by omega) (by omega)]; omega)
  obtain ⟨S3, a3, m3, s3⟩ := zAdd (S := S2) (k := 30) (oI u) m2.2.2 (by decide) (by rw [m2.1 30 (by decide), m1.1 30 (by decide), len 30 (by omega) (by omega)]; omega)
  obtain ⟨S4, a4, m4, s4⟩ := zAdd (S := S3) (k := 31) (oI tk) m3.2.2 (by decide) (by rw [m3.1 31 (by decide), m2.1 31 (by decide), m1.1 31 (by decide), len 31 (by omega) (by omega)]; omega)
  obtain ⟨S5, a5, m5, s5⟩ := zAdd (S := S4) (k := 32) (-1) m4.2.2 (by decide) (by rw [m4.1 32 (by decide), m3.1 32 (by decide), m2.1 32 (by decide), m1.1 32 (by decide), len 32 (by omega) (by omega)]; omega)
  obtain ⟨S6, a6, m6, s6⟩ := zAdd (S := S5) (k := 33) (-1) m5.2.2 (by decide) (by rw [m5.1 33 (by decide), m4.1 33 (by decide), m3.1 33 (by decide), m2.1 33 (by decide), m1.1 33 (by decide), len 33 (by omega) (by omega)]; omega)
  obtain ⟨S7, a7, m7, s7⟩ := zAdd (S := S6) (k := 34) (-1) m6.2.2 (by decide) (by rw [m6.1 34 (by decide), m5.1 34 (by decide), m4.1 34 (by decide), m3.1 34 (by decide), m2.1 34 (by decide), m1.1 34 (by decide), len 34 (by omega) (by omega)]; omega)
  obtain ⟨S8, a8, m8, s8⟩ := zAdd (S := S7) (k := 35) 0 m7.2.2 (by decide) (by rw [m7.1 35 (by decide), m6.1 35 (by decide), m5.1 35 (by decide), m4.1 35 (by decide), m3.1 35 (by decide), m2.1 35 (by decide), m1.1 35 (by decide), len 35 (by omega) (by omega)]; omega)
  have q36 : S8.1 36 = S.1 36 := by rw [m8.1 36 (by decide), m7.1 36 (by decide), m6.1 36 (by decide), m5.1 36 (by decide), m4.1 36 (by decide), m3.1 36 (by decide), m2.1 36 (by decide), m1.1 36 (by decide)]
  obtain ⟨S9, a9, m9, s9⟩ := zAdd (S := S8) (k := 36) (nI (depUp (aD A) u)) m8.2.2 (by decide) (by rw [q36, len 36 (by omega) (by omega)]; omega)
  have q27 : S9.1 27 = S.1 27 := by rw [m9.1 27 (by decide), m8.1 27 (by decide), m7.1 27 (by decide), m6.1 27 (by decide), m5.1 27 (by decide), m4.1 27 (by decide), m3.1 27 (by decide), m2.1 27 (by decide), m1.1 27 (by decide)]
  obtain ⟨S10, a10, m10, s10⟩ := zAdd (S := S9) (k := 27) (-1) m9.2.2 (by decide) (by rw [q27, len 27 (by omega) (by omega)]; omega)
  have l27 : (S9.1 27).length = aN A := by rw [q27, len 27 (by omega) (by omega)]
  refine ⟨S10, ⟨fun k hk => ?_, by rw [m10.2.1, m9.2.1, m8.2.1, m7.2.1, m6.2.1, m5.2.1, m4.2.1, m3.2.1, m2.2.1, m1.2.1], m10.2.2⟩, ?_, ?_, ?_, ?_, ?_, ?_, ?_, ?_, ?_, ?_, ?_⟩
  · have hk' : k ≠ 27 ∧ k ≠ 28 ∧ k ≠ 29 ∧ k ≠ 30 ∧ k ≠ 31 ∧ k ≠ 32 ∧ k ≠ 33 ∧ k ≠ 34 ∧ k ≠ 35 ∧ k ≠ 36 := by simpa using hk
    rw [m10.1 k (by simp; omega), m9.1 k (by simp; omega), m8.1 k (by simp; omega), m7.1 k (by simp; omega), m6.1 k (by simp; omega), m5.1 k (by simp; omega), m4.1 k (by simp; omega), m3.1 k (by simp; omega), m2.1 k (by simp; omega), m1.1 k (by simp; omega)]
  · rw [s10, q27]
  · rw [m10.1 28 (by decide), m9.1 28 (by decide), m8.1 28 (by decide), m7.1 28 (by decide), m6.1 28 (by decide), m5.1 28 (by decide), m4.1 28 (by decide), m3.1 28 (by decide), m2.1 28 (by decide), s1]
  · rw [m10.1 29 (by decide), m9.1 29 (by decide), m8.1 29 (by decide), m7.1 29 (by decide), m6.1 29 (by decide), m5.1 29 (by decide), m4.1 29 (by decide), m3.1 29 (by decide), s2, m1.1 29 (by decide)]
  · rw [m10.1 30 (by decide), m9.1 30 (by decide), m8.1 30 (by decide), m7.1 30 (by decide), m6.1 30 (by decide), m5.1 30 (by decide), m4.1 30 (by decide), s3, m2.1 30 (by decide), m1.1 30 (by decide)]
  · rw [m10.1 31 (by decide), m9.1 31 (by decide), m8.1 31 (by decide), m7.1 31 (by decide), m6.1 31 (by decide), m5.1 31 (by decide), s4, m3.1 31 (by decide), m2.1 31 (by decide), m1.1 31 (by decide)]
  · rw [m10.1 32 (by decide), m9.1 32 (by decide), m8.1 32 (by decide), m7.1 32 (by decide), m6.1 32 (by decide), s5, m4.1 32 (by decide), m3.1 32 (by decide), m2.1 32 (by decide), m1.1 32 (by decide)]
  · rw [m10.1 33 (by decide), m9.1 33 (by decide), m8.1 33 (by decide), m7.1 33 (by decide), s6, m5.1 33 (by decide), m4.1 33 (by decide), m3.1 33 (by decide), m2.1 33 (by decide), m1.1 33 (by decide)]
  · rw [m10.1 34 (by decide), m9.1 34 (by decide), m8.1 34 (by decide), s7, m6.1 34 (by decide), m5.1 34 (by decide), m4.1 34 (by decide), m3.1 34 (by decide), m2.1 34 (by decide), m1.1 34 (by decide)]
  · rw [m10.1 35 (by decide), m9.1 35 (by decide), s8, m7.1 35 (by decide), m6.1 35 (by decide), m5.1 35 (by decide), m4.1 35 (by decide), m3.1 35 (by decide), m2.1 35 (by decide), m1.1 35 (by decide)]
  · rw [m10.1 36 (by decide), s9, q36]
  · unfold f_Nod_add
    cases u with
    | none =>
      rw [a1, zbind2_e, a2, zbind2_e, a3, zbind2_e, a4, zbind2_e, a5, zbind2_e, a6, zbind2_e, a7, zbind2_e, a8, zbind2_e, oI_n, if_neg (by simp)]
      rw [show r_add S8 36 0 = _ from a9, zbind2_e, a10, zbind2_e, if_pos rfl, l27]
    | some x =>
      have hx := hu x rfl
      have d36 : r_at S8 36 (oI (some x)) + 1 = nI (depUp (aD A) (some x)) := by
        rw [oI_s, r_at_rd, q36, r36, rowOf_rd hx (by omega), nI_1]; rfl
      rw [a1, zbind2_e, a2, zbind2_e, a3, zbind2_e, a4, zbind2_e, a5, zbind2_e, a6, zbind2_e, a7, zbind2_e, a8, zbind2_e, d36, oI_s, if_pos (nI_m1 (by omega)), a9, zbind2_e, a10, zbind2_e, if_neg (nI_m1 (by omega)), zbind_e, l27]
/-- a node is added -/
theorem p_nodAdd (u tk : Option Nat) (lab : Option Int32) (po : Nat → Bool) (lk : List Nat) (ho : okS S) (hR : NRw S A nE nN) (hK : KI A nN) (hn : aN A < 60000) (hu : ∀ x, u = some x → x < aN A) : ∃ S' nN', f_Nod_add S (oI u) (oI tk) = (S', nI (aN A)) ∧ zLike [27, 28, 29, 30, 31, 32, 33, 34, 35, 36] S S' ∧ NRw S' (amAdd T A u lab po lk none none) (va_up nE (aN A) tk) nN' ∧ KI (amAdd T A u lab po lk none none) nN' := by
  obtain ⟨S1, l1, s27, s28, s29, s30, s31, s32, s33, s34, s35, s36, ea⟩ := p_addRows u tk ho hR hn hu
  obtain ⟨r27, r28, r29, r30, r31, r32, r33, r34, r35, r36⟩ := hR
  have g27 : S1.1 27 = rowOf (aN A + 1) (fun v => oI (va_up (aP A) (aN A) none v)) := by
    rw [s27, r27]; exact rowOf_ext (fun i hi => by rw [va_n (by omega)]) (by rw [va_s]; rfl)
  have g28 : S1.1 28 = rowOf (aN A + 1) (fun v => oI (va_up (aR A) (aN A) none v)) := by
    rw [s28, r28]; exact rowOf_ext (fun i hi => by rw [va_n (by omega)]) (by rw [va_s]; rfl)
  have g29 : S1.1 29 = rowOf (aN A + 1) (fun v => oI (va_up (aK A) (aN A) none v)) := by
    rw [s29, r29]; exact rowOf_ext (fun i hi => by rw [va_n (by omega)]) (by rw [va_s]; rfl)
  have g30 : S1.1 30 = rowOf (aN A + 1) (fun v => oI (va_up (aU A) (aN A) u v)) := by
    rw [s30, r30]; exact rowOf_ext (fun i hi => by rw [va_n (by omega)]) (by rw [va_s])
  have g31 : S1.1 31 = rowOf (aN A + 1) (fun v => oI (va_up nE (aN A) tk v)) := by
    rw [s31, r31]; exact rowOf_ext (fun i hi => by rw [va_n (by omega)]) (by rw [va_s])
  have g36 : S1.1 36 = rowOf (aN A + 1) (fun v => nI (va_up (aD A) (aN A) (depUp (aD A) u) v)) := by
    rw [s36, r36]; exact rowOf_ext (fun i hi => by rw [va_n (by omega)]) (by rw [va_s])
  have g32 : S1.1 32 = rowOf (aN A + 1) (fun v => oI (va_up (aC A) (aN A) [] v).head?) := by
    rw [s32, r32]; exact rowOf_ext (fun i hi => by rw [va_n (by omega)]) (by rw [va_s]; rfl)
  have g33 : S1.1 33 = rowOf (aN A + 1) (fun v => oI (va_up (aC A) (aN A) [] v).getLast?) := by
    rw [s33, r33]; exact rowOf_ext (fun i hi => by rw [va_n (by omega)]) (by rw [va_s]; rfl)
  have g34 : S1.1 34 = rowOf (aN A + 1) (fun v => oI (va_up nN (aN A) none v)) := by
    rw [s34, r34]; exact rowOf_ext (fun i hi => by rw [va_n (by omega)]) (by rw [va_s]; rfl)
  have g35 : S1.1 35 = rowOf (aN A + 1) (fun v => nI (va_up (aC A) (aN A) [] v).length) := by
    rw [s35, r35]; exact rowOf_ext (fun i hi => by rw [va_n (by omega)]) (by rw [va_s]; rfl)
  have oldU : ∀ w, w < aN A → va_up (aU A) (aN A) u w = aU A w := fun w hw => va_n (by omega)
  cases u with
  | none =>
    refine ⟨S1, va_up nN (aN A) none, ea, l1, ⟨g27, g28, g29, g30, g31, g32, g33, g34, g35, g36⟩, fun v hv => ?_⟩
    have hv : v < aN A + 1 := hv
    show lkd (va_up nN (aN A) none) (va_up (aC A) (aN A) [] v) ∧ ∀ w, w ∈ va_up (aC A) (aN A) [] v → w < aN A + 1 ∧ v < w ∧ va_up (aU A) (aN A) none w = some v
    by_cases c : v = aN A
    · subst c; rw [va_s]; exact ⟨trivial, (by intro w hw; cases hw)⟩
    · rw [va_n c]
      obtain ⟨k1, k2⟩ := hK v (by omega)
      refine ⟨lkd_congr (fun w hw => va_n (by have := (k2 w hw).1; omega)) k1, fun w hw => ?_⟩
      obtain ⟨b1, b2, b3⟩ := k2 w hw
      exact ⟨by omega, b2, by rw [oldU w b1]; exact b3⟩
  | some x =>
    have hx := hu x rfl
    obtain ⟨k1, k2⟩ := hK x hx
    have hxn : x ≠ aN A := by omega
    -- the new kids of x
    have hnew : aN A ∉ aC A x ++ [] := by rw [List.append_nil]; exact fun m => by have := (k2 _ m).1; omega
    have hmid := lkd_mid (nx := nN) (x := aN A) (l1 := aC A x) (l2 := []) (by rw [List.append_nil]; exact k1) hnew (by rw [List.append_nil]; exact lkd_nodup _ k1)
    -- kids in general
    have kids : ∀ nN', (lkd nN' (aC A x ++ [aN A])) → (∀ w, w < aN A → aU A w ≠ some x → nN' w = nN w) → KI (amAdd T A (some x) lab po lk none none) nN' := by
      intro nN' h1 h2 v hv
      have hv : v < aN A + 1 := hv
      show lkd nN' (va_up (va_up (aC A) (aN A) []) x (aC A x ++ [aN A]) v) ∧ ∀ w, w ∈ va_up (va_up (aC A) (aN A) []) x (aC A x ++ [aN A]) v → w < aN A + 1 ∧ v < w ∧ va_up (aU A) (aN A) (some x) w = some v
      by_cases c : v = x
      · subst c; rw [va_s]
        refine ⟨h1, fun w hw => ?_⟩
        rcases List.mem_append.mp hw with z | z
        · obtain ⟨b1, b2, b3⟩ := k2 w z
          exact ⟨by omega, b2, by rw [oldU w b1]; exact b3⟩
        · have : w = aN A := by simpa using z
          subst this
          exact ⟨by omega, hx, va_s⟩
      · rw [va_n c]
        by_cases d : v = aN A
        · subst d; rw [va_s]; exact ⟨trivial, (by intro w hw; cases hw)⟩
        · rw [va_n d]
          obtain ⟨j1, j2⟩ := hK v (by omega)
          refine ⟨lkd_congr (fun w hw => ?_) j1, fun w hw => ?_⟩
          · obtain ⟨b1, b2, b3⟩ := j2 w hw
            exact h2 w b1 (by rw [b3]; intro e; exact c (Option.some.inj e))
          · obtain ⟨b1, b2, b3⟩ := j2 w hw
            exact ⟨by omega, b2, by rw [oldU w b1]; exact b3⟩
    have v33 : r_at S1 33 (nI x) = oI (aC A x).getLast? := by rw [r_at_rd, g33, rowOf_rd (by omega) (by omega), va_n hxn]
    have ea' : f_Nod_add S (oI (some x)) (oI tk) = (f_Nod_hang S1 (nI x) (nI (aN A)), nI (aN A)) := ea
    have tail : ∀ S2 nN', zLike [32, 34] S1 S2 → (S2.1 32 = rowOf (aN A + 1) (fun v => oI (kidsUp (aC A) (aN A) (some x) v).head?)) → (S2.1 34 = rowOf (aN A + 1) (fun v => oI (nN' v))) → KI (amAdd T A (some x) lab po lk none none) nN' → ∃ S', (zbind (r_set S2 33 (nI x) (nI (aN A))) fun S6 => zbind (r_set S6 35 (nI x) ((r_at S6 35 (nI x)) + 1)) fun S7 => S7) = S' ∧ zLike [27, 28, 29, 30, 31, 32, 33, 34, 35, 36] S S' ∧ NRw S' (amAdd T A (some x) lab po lk none none) (va_up nE (aN A) tk) nN' := by
      intro S2 nN' l2 h32 h34 hk
      have q33 : S2.1 33 = S1.1 33 := l2.1 33 (by decide)
      obtain ⟨S3, b1, b2, b3⟩ := zSet (S := S2) (k := 33) (i := x) (nI (aN A)) l2.2.2 (by rw [q33, g33, rowOf_len]; omega) (by rw [q33, g33, rowOf_len]; omega)
      have q35 : S3.1 35 = S1.1 35 := by rw [b2.1 35 (by decide), l2.1 35 (by decide)]
      have v35 : r_at S3 35 (nI x) + 1 = nI ((aC A x).length + 1) := by rw [r_at_rd, q35, g35, rowOf_rd (by omega) (by omega), va_n hxn, nI_1]
      obtain ⟨S4, c1, c2, c3⟩ := zSet (S := S3) (k := 35) (i := x) (nI ((aC A x).length + 1)) b2.2.2 (by rw [q35, g35, rowOf_len]; omega) (by rw [q35, g35, rowOf_len]; omega)
      have keep : ∀ k, k ∉ [32, 33, 34, 35] → S4.1 k = S1.1 k := fun k hk => by
        have : k ≠ 32 ∧ k ≠ 33 ∧ k ≠ 34 ∧ k ≠ 35 := by simpa using hk
        rw [c2.1 k (by simp; omega), b2.1 k (by simp; omega), l2.1 k (by simp; omega)]
      refine ⟨S4, ?_, ?_, ?_⟩
      · rw [zbind_e, b1, zbind_e, v35, c1]
      · exact zLike_tr l1 (zLike_tr (zLike_mono l2 (by simp)) (zLike_tr (zLike_mono b2 (by simp)) (zLike_mono c2 (by simp))))
      · refine ⟨by rw [keep 27 (by decide)]; exact g27, by rw [keep 28 (by decide)]; exact g28, by rw [keep 29 (by decide)]; exact g29, by rw [keep 30 (by decide)]; exact g30, by rw [keep 31 (by decide)]; exact g31, ?_, ?_, ?_, ?_, by rw [keep 36 (by decide)]; exact g36⟩
        · rw [c2.1 32 (by decide), b2.1 32 (by decide), h32]; rfl
        · rw [c2.1 33 (by decide), b3, q33, g33, rowOf_set]
          refine rowOf_congr (fun i hi => ?_)
          show _ = oI (va_up (va_up (aC A) (aN A) []) x (aC A x ++ [aN A]) i).getLast?
          by_cases w : i = x
          · subst w; rw [va_s, va_s]; simp [oI]
          · rw [va_n w, va_n w]
        · rw [c2.1 34 (by decide), b2.1 34 (by decide), h34]; rfl
        · rw [c3, q35, g35, rowOf_set]
          refine rowOf_congr (fun i hi => ?_)
          show _ = nI (va_up (va_up (aC A) (aN A) []) x (aC A x ++ [aN A]) i).length
          by_cases w : i = x
          · subst w; rw [va_s, va_s]; simp
          · rw [va_n w, va_n w]
    have start : f_Nod_hang S1 (nI x) (nI (aN A)) = if ¬ oI (aC A x).getLast? = (-1) then zbind (r_set S1 34 (oI (aC A x).getLast?) (nI (aN A))) fun S2 => zbind (r_set S2 33 (nI x) (nI (aN A))) fun S3 => zbind (r_set S3 35 (nI x) ((r_at S3 35 (nI x)) + 1)) fun S4 => S4 else zbind (r_set S1 32 (nI x) (nI (aN A))) fun S5 => zbind (r_set S5 33 (nI x) (nI (aN A))) fun S6 => zbind (r_set S6 35 (nI x) ((r_at S6 35 (nI x)) + 1)) fun S7 => S7 := by
      unfold f_Nod_hang
      rw [v33]
    rcases List.eq_nil_or_concat (aC A x) with q | ⟨k, w, q⟩
    · -- the first branch
      obtain ⟨S2, b1, b2, b3⟩ := zSet (S := S1) (k := 32) (i := x) (nI (aN A)) l1.2.2 (by rw [g32, rowOf_len]; omega) (by rw [g32, rowOf_len]; omega)
      have hk : KI (amAdd T A (some x) lab po lk none none) (va_up nN (aN A) none) := kids _ (by rw [q]; exact ⟨va_s, trivial⟩) (fun w hw _ => va_n (by omega))
      obtain ⟨S', c1, c2, c3⟩ := tail S2 (va_up nN (aN A) none) (zLike_mono b2 (by simp)) (by
        rw [b3, g32, rowOf_set]
        refine rowOf_congr (fun i hi => ?_)
        show _ = oI (va_up (va_up (aC A) (aN A) []) x (aC A x ++ [aN A]) i).head?
        by_cases w : i = x
        · subst w; rw [va_s, va_s, q]; rfl
        · rw [va_n w, va_n w]) (by rw [b2.1 34 (by decide)]; exact g34) hk
      refine ⟨S', _, ?_, c2, c3, hk⟩
      rw [ea', start, q]
      rw [if_neg (by simp [oI]), zbind_e, b1, c1]
    · -- a further branch
      rw [List.concat_eq_append] at q
      have hlast : (aC A x).getLast? = some w := by rw [q]; simp
      have hw := k2 w (by rw [q]; simp)
      obtain ⟨S2, b1, b2, b3⟩ := zSet (S := S1) (k := 34) (i := w) (nI (aN A)) l1.2.2 (by rw [g34, rowOf_len]; omega) (by rw [g34, rowOf_len]; omega)
      rw [hlast] at hmid
      have hk : KI (amAdd T A (some x) lab po lk none none) (va_up (va_up nN (aN A) none) w (some (aN A))) := kids _ hmid (fun y hy hne => by rw [va_n (fun e => hne (by rw [e]; exact hw.2.2)), va_n (by omega)])
      obtain ⟨S', c1, c2, c3⟩ := tail S2 _ (zLike_mono b2 (by simp)) (by
        rw [b2.1 32 (by decide), g32]
        refine rowOf_congr (fun i hi => ?_)
        show _ = oI (va_up (va_up (aC A) (aN A) []) x (aC A x ++ [aN A]) i).head?
        by_cases z : i = x
        · subst z; rw [va_s, va_n hxn, q]
          cases k with
          | nil => rfl
          | cons y k => rfl
        · rw [va_n z]) (by
        rw [b3, g34, rowOf_set]
        refine rowOf_congr (fun i hi => ?_)
        by_cases z : i = w
        · subst z; rw [va_s, va_s]; rfl
        · rw [va_n z, va_n z]) hk
      refine ⟨S', _, ?_, c2, c3, hk⟩
      rw [ea', start, hlast, oI_s, if_pos (nI_m1 (by omega)), zbind_e, b1, c1]
/-- a node's rule, ask and part are set -/
theorem p_settle {u : Option Nat} {lab : Option Int32} {po : Nat → Bool} {lk : List Nat} (R K : Option Nat) (ho : okS S) (hR : NRw S (amAdd T A u lab po lk none none) nE nN) (hn : aN A < 60000) : ∃ S', f_Nod_settle S (nI (aN A)) (oI R) (oI K) (oI (K.map (fun k => (tK T k).2.1))) = S' ∧ zLike [27, 28, 29] S S' ∧ NRw S' (amAdd T A u lab po lk R K) nE nN := by
  obtain ⟨r27, r28, r29, r30, r31, r32, r33, r34, r35, r36⟩ := hR
  have eN : aN (amAdd T A u lab po lk none none) = aN A + 1 := rfl
  obtain ⟨S1, a1, m1, s1⟩ := zSet (S := S) (k := 28) (i := aN A) (oI R) ho (by rw [r28, rowOf_len]; omega) (by rw [r28, rowOf_len]; omega)
  obtain ⟨S2, a2, m2, s2⟩ := zSet (S := S1) (k := 29) (i := aN A) (oI K) m1.2.2 (by rw [m1.1 29 (by decide), r29, rowOf_len]; omega) (by rw [m1.1 29 (by decide), r29, rowOf_len]; omega)
  obtain ⟨S3, a3, m3, s3⟩ := zSet (S := S2) (k := 27) (i := aN A) (oI (K.map (fun k => (tK T k).2.1))) m2.2.2 (by rw [m2.1 27 (by decide), m1.1 27 (by decide), r27, rowOf_len]; omega) (by rw [m2.1 27 (by decide), m1.1 27 (by decide), r27, rowOf_len]; omega)
  have keep : ∀ k, k ∉ [27, 28, 29] → S3.1 k = S.1 k := fun k hk => by
    have : k ≠ 27 ∧ k ≠ 28 ∧ k ≠ 29 := by simpa using hk
    rw [m3.1 k (by simp; omega), m2.1 k (by simp; omega), m1.1 k (by simp; omega)]
  refine ⟨S3, ?_, ⟨keep, by rw [m3.2.1, m2.2.1, m1.2.1], m3.2.2⟩, ?_, ?_, ?_, by rw [keep 30 (by decide)]; exact r30, by rw [keep 31 (by decide)]; exact r31, by rw [keep 32 (by decide)]; exact r32, by rw [keep 33 (by decide)]; exact r33, by rw [keep 34 (by decide)]; exact r34, by rw [keep 35 (by decide)]; exact r35, by rw [keep 36 (by decide)]; exact r36⟩
  · unfold f_Nod_settle
    rw [zbind_e, a1, zbind_e, a2, zbind_e, a3]
  · rw [s3, m2.1 27 (by decide), m1.1 27 (by decide), r27, rowOf_set]
    refine rowOf_congr (fun i hi => ?_)
    show _ = oI (va_up (aP A) (aN A) (K.map (fun k => (tK T k).2.1)) i)
    by_cases c : i = aN A
    · subst c; rw [va_s, va_s]
    · rw [va_n c, va_n c]
      show oI (va_up (aP A) (aN A) none i) = _
      rw [va_n c]
  · rw [m3.1 28 (by decide), m2.1 28 (by decide), s1, r28, rowOf_set]
    refine rowOf_congr (fun i hi => ?_)
    show _ = oI (va_up (aR A) (aN A) R i)
    by_cases c : i = aN A
    · subst c; rw [va_s, va_s]
    · rw [va_n c, va_n c]
      show oI (va_up (aR A) (aN A) none i) = _
      rw [va_n c]
  · rw [m3.1 29 (by decide), s2, m1.1 29 (by decide), r29, rowOf_set]
    refine rowOf_congr (fun i hi => ?_)
    show _ = oI (va_up (aK A) (aN A) K i)
    by_cases c : i = aN A
    · subst c; rw [va_s, va_s]
    · rw [va_n c, va_n c]
      show oI (va_up (aK A) (aN A) none i) = _
      rw [va_n c]
end PNO
