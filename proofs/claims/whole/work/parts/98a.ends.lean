-- PURE LAYER: ends and depth
def mxA (A : Am) : Nat → Nat
  | 0 => 0
  | n + 1 => max (mxA A n) (aD A n)
section PEN
variable {S : zS} {T : Tr} {nr : Nat} {sa : Nat → Nat} {nf : Nat} {fam : Nat → Nat} {bit : Nat → Int64} {np : Nat} {P : Nat → Pt} {nl : Nat} {fl : Nat → Nat × Nat} {ru : Nat → Nat} {A : Am} {nE nN : Nat → Option Nat}
theorem oI_ij {a b : Option Nat} (ha : ∀ x, a = some x → x < 2 ^ 31) (hb : ∀ x, b = some x → x < 2 ^ 31) : oI a = oI b ↔ a = b := by
  constructor
  · intro h
    cases a with
    | none =>
      cases b with
      | none => rfl
      | some y => exact absurd h.symm (nI_m1 (hb y rfl))
    | some x =>
      cases b with
      | none => exact absurd h (nI_m1 (ha x rfl))
      | some y => rw [(nI_eq (ha x rfl) (hb y rfl)).mp h]
  · intro h; rw [h]
theorem c_isEnd (hT : TI T P nr sa fam A) (hnr : nr ≤ 700) (hN : NRw S A nE nN) (hn : aN A ≤ 4096) (hP : ∀ v p, v < aN A → aP A v = some p → p < 2 ^ 31) {o : Option Nat} (ho : ∀ r, o = some r → r < 2 ^ 31) {v : Nat} (hv : v < aN A) : f_Nod_isEndWith S (nI v) (oI o) = if aP A v = none ∧ aR A v = o then 1 else 0 := by
  have e27 : r_at S 27 (nI v) = oI (aP A v) := by rw [r_at_rd, hN.1, rowOf_rd hv (by omega)]
  have e28 : r_at S 28 (nI v) = oI (aR A v) := by rw [r_at_rd, hN.2.1, rowOf_rd hv (by omega)]
  have hR : ∀ r, aR A v = some r → r < 2 ^ 31 := fun r e => by
    have := (hT.2.2.1 v hv).1
    rw [e] at this
    have := this.2.1
    omega
  unfold f_Nod_isEndWith
  rw [e27, e28]
  cases g : aP A v with
  | some p => rw [oI_s, if_pos (nI_m1 (hP v p hv g)), if_neg (by simp)]
  | none =>
    rw [oI_n, if_neg (by simp)]
    by_cases c : aR A v = o
    · rw [if_neg (by simp [c]), if_pos ⟨rfl, c⟩]
    · rw [if_pos (fun z => c ((oI_ij hR ho).mp z)), if_neg (fun z => c z.2)]
theorem c_endsWith_L (hT : TI T P nr sa fam A) (hnr : nr ≤ 700) (hN : NRw S A nE nN) (hn : aN A ≤ 4096) (hP : ∀ v p, v < aN A → aP A v = some p → p < 2 ^ 31) {o : Option Nat} (ho : ∀ r, o = some r → r < 2 ^ 31) : ∀ n i, i ≤ aN A → aN A - i < n → f_Nod_endsWith_L4 n S (oI o) (nI (cnt A o i)) (nI i) = some (nI (cnt A o (aN A))) := by
  intro n
  induction n with
  | zero => intro i _ h; omega
  | succ n ih =>
    intro i hi hlt
    have e27 : r_size S 27 = nI (aN A) := by unfold r_size; rw [hN.1, rowOf_len]
    have hc := cnt_le (A := A) (o := o) i
    unfold f_Nod_endsWith_L4
    rw [e27]
    by_cases c : i = aN A
    · subst c; rw [if_pos (by (simp (disch := omega) only [nI_1, nI_add, Int32.lt_iff_toInt_lt, Int32.le_iff_toInt_le, ← Int32.toInt_inj, nI_toInt, tI_0, tI_1, tI_2, tI_3, tI_4, tI_m1, tI_m2, tI_m3, tI_m4, tI_64, tI_128, tI_255, tI_256, tI_1000, tI_1024, tI_4096, tI_10000, tI_16384, tI_16386, tI_M]; omega))]
    · rw [if_neg (by (simp (disch := omega) only [nI_1, nI_add, Int32.lt_iff_toInt_lt, Int32.le_iff_toInt_le, ← Int32.toInt_inj, nI_toInt, tI_0, tI_1, tI_2, tI_3, tI_4, tI_m1, tI_m2, tI_m3, tI_m4, tI_64, tI_128, tI_255, tI_256, tI_1000, tI_1024, tI_4096, tI_10000, tI_16384, tI_16386, tI_M]; omega)), c_isEnd hT hnr hN hn hP ho (by omega), nI_1, nI_1]
      have ec : cnt A o (i + 1) = cnt A o i + (if aP A i = none ∧ aR A i = o then 1 else 0) := rfl
      by_cases d : aP A i = none ∧ aR A i = o
      · rw [if_pos d] at ec
        rw [if_pos d, if_neg (by decide), ← ec]
        exact ih (i + 1) (by omega) (by omega)
      · rw [if_neg d] at ec
        rw [if_neg d, if_pos rfl]
        have := ih (i + 1) (by omega) (by omega)
        rw [ec] at this
        exact this
theorem c_endsWith (hT : TI T P nr sa fam A) (hnr : nr ≤ 700) (hN : NRw S A nE nN) (hn : aN A ≤ 4096) (hP : ∀ v p, v < aN A → aP A v = some p → p < 2 ^ 31) {o : Option Nat} (ho : ∀ r, o = some r → r < 2 ^ 31) : f_Nod_endsWith S (oI o) = some (nI (cnt A o (aN A))) := c_endsWith_L hT hnr hN hn hP ho zbig 0 (by omega) (by unfold zbig; omega)
theorem mxA_le : ∀ n i, i < n → aD A i ≤ mxA A n := by
  intro n
  induction n with
  | zero => intro i h; omega
  | succ n ih =>
    intro i h
    unfold mxA
    by_cases c : i = n
    · subst c; omega
    · have := ih i (by omega); omega
theorem mxE_at : ∀ n i, i < n → aP A i = none → aD A i ≤ mxE A n := by
  intro n
  induction n with
  | zero => intro i h; omega
  | succ n ih =>
    intro i h hi
    unfold mxE
    by_cases c : i = n
    · subst c; rw [if_pos hi]; omega
    · have := ih i (by omega) hi
      split <;> omega
theorem mxA_b {B : Nat} : ∀ n, (∀ i, i < n → aD A i ≤ B) → mxA A n ≤ B := by
  intro n
  induction n with
  | zero => intro _; exact Nat.zero_le _
  | succ n ih =>
    intro h
    unfold mxA
    have := ih (fun i hi => h i (by omega))
    have := h n (by omega)
    omega
theorem mxE_b {B : Nat} : ∀ n, (∀ i, i < n → aD A i ≤ B) → mxE A n ≤ B := by
  intro n
  induction n with
  | zero => intro _; exact Nat.zero_le _
  | succ n ih =>
    intro h
    unfold mxE
    have := ih (fun i hi => h i (by omega))
    have := h n (by omega)
    split <;> omega
/-- a node that looks has a branch -/
theorem has_kid (hF : SF nf fam bit np P nl fl T nr ru sa) (hT : TI T P nr sa fam A) (hD : ∀ v, v < aN A → doneV T P nr fam A v) (hKI : KI A nN) {v p : Nat} (hv : v < aN A) (hp : aP A v = some p) : ∃ w, w ∈ aC A v ∧ v < w ∧ w < aN A ∧ aD A w = aD A v + 1 := by
  obtain ⟨ls, os, k1, k2, k3⟩ := hD v hv p hp
  obtain ⟨x, hx⟩ := nu_some hF hT hv hp
  have : some x ∈ (aC A v).map (aL A) := by rw [k1.1]; exact List.mem_append_left _ (List.mem_map.mpr ⟨x, k2 x hx, rfl⟩)
  obtain ⟨w, w1, w2⟩ := List.mem_map.mp this
  obtain ⟨a, b, c⟩ := (hKI v hv).2 w w1
  obtain ⟨u, p', b1, b2, b3, b4, b5, b6, b7⟩ := hT.2.1 w (by omega) a
  rw [c] at b2; cases b2
  exact ⟨w, w1, b, a, b6⟩
theorem dep_end (hF : SF nf fam bit np P nl fl T nr ru sa) (hT : TI T P nr sa fam A) (hD : ∀ v, v < aN A → doneV T P nr fam A v) (hKI : KI A nN) : ∀ m v, aN A - v < m → v < aN A → aD A v ≤ mxE A (aN A) := by
  intro m
  induction m with
  | zero => intro v h; omega
  | succ m ih =>
    intro v h hv
    cases g : aP A v with
    | none => exact mxE_at _ _ hv g
    | some p =>
      obtain ⟨w, _, w1, w2, w3⟩ := has_kid hF hT hD hKI hv g
      have := ih w (by omega) w2
      omega
theorem mxA_E (hF : SF nf fam bit np P nl fl T nr ru sa) (hT : TI T P nr sa fam A) (hD : ∀ v, v < aN A → doneV T P nr fam A v) (hKI : KI A nN) : mxA A (aN A) = mxE A (aN A) := by
  apply Nat.le_antisymm
  · exact mxA_b _ (fun i hi => dep_end hF hT hD hKI (aN A - i + 1) i (by omega) hi)
  · exact mxE_b _ (fun i hi => mxA_le _ _ hi)
theorem c_deepest_L (hN : NRw S A nE nN) (hn : aN A ≤ 4096) (hd : ∀ v, v < aN A → aD A v < 60000) : ∀ n i, i ≤ aN A → aN A - i < n → f_Nod_deepest_L4 n S (nI (mxA A i)) (nI i) = some (nI (mxA A (aN A))) := by
  intro n
  induction n with
  | zero => intro i _ h; omega
  | succ n ih =>
    intro i hi hlt
    have e36 : r_size S 36 = nI (aN A) := by unfold r_size; rw [hN.2.2.2.2.2.2.2.2.2, rowOf_len]
    have hm : mxA A i ≤ 60000 := mxA_b i (fun j hj => Nat.le_of_lt (hd j (by omega)))
    unfold f_Nod_deepest_L4
    rw [e36]
    by_cases c : i = aN A
    · subst c; rw [if_pos (by (simp (disch := omega) only [nI_1, nI_add, Int32.lt_iff_toInt_lt, Int32.le_iff_toInt_le, ← Int32.toInt_inj, nI_toInt, tI_0, tI_1, tI_2, tI_3, tI_4, tI_m1, tI_m2, tI_m3, tI_m4, tI_64, tI_128, tI_255, tI_256, tI_1000, tI_1024, tI_4096, tI_10000, tI_16384, tI_16386, tI_M]; omega))]
    · have hdi := hd i (by omega)
      rw [if_neg (by (simp (disch := omega) only [nI_1, nI_add, Int32.lt_iff_toInt_lt, Int32.le_iff_toInt_le, ← Int32.toInt_inj, nI_toInt, tI_0, tI_1, tI_2, tI_3, tI_4, tI_m1, tI_m2, tI_m3, tI_m4, tI_64, tI_128, tI_255, tI_256, tI_1000, tI_1024, tI_4096, tI_10000, tI_16384, tI_16386, tI_M]; omega)), r_at_rd, hN.2.2.2.2.2.2.2.2.2, rowOf_rd (by omega) (by omega), nI_1, zbind_e]
      have : z_max (nI (mxA A i)) (nI (aD A i)) = nI (mxA A (i + 1)) := by
        show _ = nI (max (mxA A i) (aD A i))
        unfold z_max
        by_cases d : nI (mxA A i) < nI (aD A i)
        · have d' : mxA A i < aD A i := by (simp (disch := omega) only [nI_1, nI_add, Int32.lt_iff_toInt_lt, Int32.le_iff_toInt_le, ← Int32.toInt_inj, nI_toInt, tI_0, tI_1, tI_2, tI_3, tI_4, tI_m1, tI_m2, tI_m3, tI_m4, tI_64, tI_128, tI_255, tI_256, tI_1000, tI_1024, tI_4096, tI_10000, tI_16384, tI_16386, tI_M] at *; omega)
          rw [Nat.max_eq_right (by omega)]
          simp [d]
        · have d' : ¬ mxA A i < aD A i := fun z => d (by (simp (disch := omega) only [nI_1, nI_add, Int32.lt_iff_toInt_lt, Int32.le_iff_toInt_le, ← Int32.toInt_inj, nI_toInt, tI_0, tI_1, tI_2, tI_3, tI_4, tI_m1, tI_m2, tI_m3, tI_m4, tI_64, tI_128, tI_255, tI_256, tI_1000, tI_1024, tI_4096, tI_10000, tI_16384, tI_16386, tI_M]; omega))
          rw [Nat.max_eq_left (by omega)]
          simp [d]
      rw [this]
      exact ih (i + 1) (by omega) (by omega)
theorem c_deepest (hN : NRw S A nE nN) (hn : aN A ≤ 4096) (hd : ∀ v, v < aN A → aD A v < 60000) : f_Nod_deepest S = some (nI (mxA A (aN A))) := c_deepest_L hN hn hd zbig 0 (by omega) (by unfold zbig; omega)
end PEN
