-- PURE LAYER: the class's Pairs
def enc : List (Nat × Nat) → List Int32
  | [] => []
  | q :: l => nI q.1 :: nI q.2 :: enc l
theorem enc_app : ∀ (l m : List (Nat × Nat)), enc (l ++ m) = enc l ++ enc m := by
  intro l
  induction l with
  | nil => intro m; rfl
  | cons q l ih => intro m; simp [enc, ih]
theorem enc_len : ∀ (l : List (Nat × Nat)), (enc l).length = 2 * l.length := by
  intro l
  induction l with
  | nil => rfl
  | cons q l ih => simp [enc, ih]; omega
theorem zb_1 : z_b 1 = 1 := by decide
theorem zb_0 : z_b 0 = 0 := by decide
section PHC
variable {nf : Nat} {fam : Nat → Nat} {bit : Nat → Int64} {np : Nat} {P : Nat → Pt} {nl : Nat} {fl : Nat → Nat × Nat} {S : zS}
theorem cK {a : Nat} (h : PC S np P nl fl) (hn : np ≤ 16384) (ha : a < np) : f_Pat_shape S (nI a) = nI (pK (P a)) := by
  unfold f_Pat_shape; rw [r_at_rd, h.1, rowOf_rd ha (by omega)]
theorem cK' {a : Nat} (h : PC S np P nl fl) (hn : np ≤ 16384) (ha : a < np) : r_at S 1 (nI a) = nI (pK (P a)) := cK h hn ha
theorem cS {a : Nat} (h : PC S np P nl fl) (hn : np ≤ 16384) (ha : a < np) : f_Pat_sort S (nI a) = pS (P a) := by
  unfold f_Pat_sort; rw [r_at_rd, h.2.1, rowOf_rd ha (by omega)]
theorem cM {a : Nat} (h : PC S np P nl fl) (hn : np ≤ 16384) (ha : a < np) : f_Pat_mark S (nI a) = pM (P a) := by
  unfold f_Pat_mark; rw [r_at_rd, h.2.2.1, rowOf_rd ha (by omega)]
theorem cI {a : Nat} (h : PC S np P nl fl) (hn : np ≤ 16384) (ha : a < np) : r_at S 4 (nI a) = pI (P a) := by
  rw [r_at_rd, h.2.2.2.1, rowOf_rd ha (by omega)]
theorem cN {a : Nat} (h : PC S np P nl fl) (hn : np ≤ 16384) (ha : a < np) : f_Pat_width S (nI a) = nI (pN (P a)) := by
  unfold f_Pat_width; rw [r_at_rd, h.2.2.2.2.1, rowOf_rd ha (by omega)]
theorem cZ {a : Nat} (h : PC S np P nl fl) (hn : np ≤ 16384) (ha : a < np) : f_Pat_weight S (nI a) = nI (pZ (P a)) := by
  unfold f_Pat_weight; rw [r_at_rd, h.2.2.2.2.2.1, rowOf_rd ha (by omega)]
theorem cW {a : Nat} (h : PC S np P nl fl) (hn : np ≤ 16384) (ha : a < np) : r_at S 7 (nI a) = bI (pW (P a)) := by
  rw [r_at_rd, h.2.2.2.2.2.2.1, rowOf_rd ha (by omega)]
theorem pwk5 {i : Nat} (h : pwf nf fam bit P nl fl i) : pK (P i) = 0 ∨ pK (P i) = 1 ∨ pK (P i) = 2 ∨ pK (P i) = 3 ∨ pK (P i) = 4 := by have := pwK h; omega
theorem cArg {a : Nat} (h : PC S np P nl fl) (hn : np ≤ 16384) (ha : a < np) (hw : pwf nf fam bit P nl fl a) : f_Pat_argument S (nI a) = oI (pO (P a)) := by
  unfold f_Pat_argument zbind
  rw [cK' h hn ha, cI h hn ha]
  unfold pI
  rcases pwk5 hw with e | e | e | e | e
  · rw [e, pwN hw (Or.inl e)]; rfl
  · rw [e, pwN hw (Or.inr (Or.inl e))]; rfl
  · rw [e]; rfl
  · rw [e]; rfl
  · rw [e, pwN hw (Or.inr (Or.inr e))]; rfl
theorem cFN {a j : Nat} (h : PC S np P nl fl) (hn : np ≤ 16384) (hl : nl ≤ 16384) (ha : a < np) (hw : pwf nf fam bit P nl fl a) (hj : j < pN (P a)) : f_Pat_fieldNumber S (nI a) (nI j) = nI (fN P fl a j) := by
  have e4 : pK (P a) = 4 := Classical.byContradiction (fun c => by have := pwW hw c; omega)
  have := pwB hw
  unfold f_Pat_fieldNumber
  rw [cI h hn ha]
  unfold pI
  rw [if_pos e4, nI_add, r_at_rd, h.2.2.2.2.2.2.2.1, rowOf_rd (by omega) (by omega)]
  rfl
theorem cFP {a j : Nat} (h : PC S np P nl fl) (hn : np ≤ 16384) (hl : nl ≤ 16384) (ha : a < np) (hw : pwf nf fam bit P nl fl a) (hj : j < pN (P a)) : f_Pat_fieldPattern S (nI a) (nI j) = nI (fP P fl a j) := by
  have e4 : pK (P a) = 4 := Classical.byContradiction (fun c => by have := pwW hw c; omega)
  have := pwB hw
  unfold f_Pat_fieldPattern
  rw [cI h hn ha]
  unfold pI
  rw [if_pos e4, nI_add, r_at_rd, h.2.2.2.2.2.2.2.2, rowOf_rd (by omega) (by omega)]
  rfl
theorem p_two (x y : Int32) (ho : okS S) (hl : (S.1 11).length + 2 < 65536) : ∃ S1 v1 S2 v2, r_add S 11 x = (S1, v1) ∧ r_add S1 11 y = (S2, v2) ∧ zLike [11] S S1 ∧ zLike [11] S S2 ∧ S2.1 11 = S.1 11 ++ [x, y] := by
  obtain ⟨S1, e1, l1, r1⟩ := zAdd (S := S) (k := 11) x ho (by decide) (by omega)
  obtain ⟨S2, e2, l2, r2⟩ := zAdd (S := S1) (k := 11) y l1.2.2 (by decide) (by rw [r1]; simp; omega)
  exact ⟨S1, _, S2, _, e1, e2, l1, zLike_tr l1 l2, by rw [r2, r1]; simp⟩
theorem p_L30 {a b f : Nat} (x4 : Int32) (h : PC S np P nl fl) (hn : np ≤ 16384) (hl : nl ≤ 16384) (hb : b < np) (hw : pwf nf fam bit P nl fl b) (hf : f < 128) : ∀ n j, j ≤ pN (P b) → pN (P b) - j < n → ∃ j', j ≤ j' ∧ j' ≤ pN (P b) ∧ (∀ i, j ≤ i → i < j' → fN P fl b i < f) ∧ (j' < pN (P b) → f ≤ fN P fl b j') ∧ ∀ k : zS → Int32 → Int32 → Int32 → Int32 → Int32 → Option zS, f_Pai_putFields_L30 k n S (nI a) (nI b) (nI j) x4 (nI f) = k S (nI a) (nI b) (nI j') x4 (nI f) := by
  have hB := pwB hw
  intro n
  induction n with
  | zero => intro j _ h; omega
  | succ n ih =>
    intro j hj hlt
    by_cases c : j = pN (P b)
    · refine ⟨j, Nat.le_refl _, hj, fun i h1 h2 => by omega, fun h => by omega, fun k => ?_⟩
      unfold f_Pai_putFields_L30
      rw [cN h hn hb]
      rw [if_pos (by (simp (disch := omega) only [nI_1, nI_add, Int32.lt_iff_toInt_lt, Int32.le_iff_toInt_le, ← Int32.toInt_inj, nI_toInt, tI_0, tI_1, tI_2, tI_3, tI_4, tI_m1, tI_m2, tI_m3, tI_m4, tI_64, tI_128, tI_255, tI_256, tI_1000, tI_1024, tI_4096, tI_10000, tI_16384, tI_16386, tI_M]; omega))]
    · have hj' : j < pN (P b) := by omega
      have hfn := (pwP hw hj').2
      by_cases d : f ≤ fN P fl b j
      · refine ⟨j, Nat.le_refl _, hj, fun i h1 h2 => by omega, fun _ => d, fun k => ?_⟩
        unfold f_Pai_putFields_L30
        rw [cN h hn hb]
        rw [if_neg (by (simp (disch := omega) only [nI_1, nI_add, Int32.lt_iff_toInt_lt, Int32.le_iff_toInt_le, ← Int32.toInt_inj, nI_toInt, tI_0, tI_1, tI_2, tI_3, tI_4, tI_m1, tI_m2, tI_m3, tI_m4, tI_64, tI_128, tI_255, tI_256, tI_1000, tI_1024, tI_4096, tI_10000, tI_16384, tI_16386, tI_M]; omega))]
        rw [cFN h hn hl hb hw hj']
        rw [if_pos (by (simp (disch := omega) only [nI_1, nI_add, Int32.lt_iff_toInt_lt, Int32.le_iff_toInt_le, ← Int32.toInt_inj, nI_toInt, tI_0, tI_1, tI_2, tI_3, tI_4, tI_m1, tI_m2, tI_m3, tI_m4, tI_64, tI_128, tI_255, tI_256, tI_1000, tI_1024, tI_4096, tI_10000, tI_16384, tI_16386, tI_M]; omega))]
      · obtain ⟨j', h1, h2, h3, h4, h5⟩ := ih (j + 1) (by omega) (by omega)
        refine ⟨j', by omega, h2, fun i k1 k2 => ?_, h4, fun k => ?_⟩
        · by_cases q : i = j
          · subst q; omega
          · exact h3 i (by omega) k2
        · unfold f_Pai_putFields_L30
          rw [cN h hn hb]
          rw [if_neg (by (simp (disch := omega) only [nI_1, nI_add, Int32.lt_iff_toInt_lt, Int32.le_iff_toInt_le, ← Int32.toInt_inj, nI_toInt, tI_0, tI_1, tI_2, tI_3, tI_4, tI_m1, tI_m2, tI_m3, tI_m4, tI_64, tI_128, tI_255, tI_256, tI_1000, tI_1024, tI_4096, tI_10000, tI_16384, tI_16386, tI_M]; omega))]
          rw [cFN h hn hl hb hw hj']
          rw [if_neg (by (simp (disch := omega) only [nI_1, nI_add, Int32.lt_iff_toInt_lt, Int32.le_iff_toInt_le, ← Int32.toInt_inj, nI_toInt, tI_0, tI_1, tI_2, tI_3, tI_4, tI_m1, tI_m2, tI_m3, tI_m4, tI_64, tI_128, tI_255, tI_256, tI_1000, tI_1024, tI_4096, tI_10000, tI_16384, tI_16386, tI_M]; omega))]
          rw [nI_1]
          exact h5 k
theorem p_L5 {a b : Nat} (hn : np ≤ 16384) (hl : nl ≤ 16384) (ha : a < np) (hb : b < np) (hwa : pwf nf fam bit P nl fl a) (hwb : pwf nf fam bit P nl fl b) : ∀ n i j S, PC S np P nl fl → okS S → i ≤ pN (P a) → j ≤ pN (P b) → pN (P a) - i < n → (S.1 11).length + 2 * (pN (P a) - i) < 60000 → (i < pN (P a) → ∀ t, t < j → fN P fl b t < fN P fl a i) → ∀ l, S.1 11 = l ++ enc (kkF P fl a b i) → ∃ S', f_Pai_putFields_L5 n S (nI a) (nI b) (nI j) (nI i) = some S' ∧ zLike [11] S S' ∧ S'.1 11 = l ++ enc (kkF P fl a b (pN (P a))) := by
  have hBa := pwB hwa
  have hBb := pwB hwb
  intro n
  induction n with
  | zero => intro i j S _ _ _ _ h; omega
  | succ n ih =>
    intro i j S h ho hi hj hlt hlen hs l hr
    unfold f_Pai_putFields_L5
    rw [cN h hn ha]
    by_cases c : i = pN (P a)
    · refine ⟨S, ?_, zLike_rf ho, by rw [hr, c]⟩
      rw [if_pos (by (simp (disch := omega) only [nI_1, nI_add, Int32.lt_iff_toInt_lt, Int32.le_iff_toInt_le, ← Int32.toInt_inj, nI_toInt, tI_0, tI_1, tI_2, tI_3, tI_4, tI_m1, tI_m2, tI_m3, tI_m4, tI_64, tI_128, tI_255, tI_256, tI_1000, tI_1024, tI_4096, tI_10000, tI_16384, tI_16386, tI_M]; omega))]
    · rw [if_neg (by (simp (disch := omega) only [nI_1, nI_add, Int32.lt_iff_toInt_lt, Int32.le_iff_toInt_le, ← Int32.toInt_inj, nI_toInt, tI_0, tI_1, tI_2, tI_3, tI_4, tI_m1, tI_m2, tI_m3, tI_m4, tI_64, tI_128, tI_255, tI_256, tI_1000, tI_1024, tI_4096, tI_10000, tI_16384, tI_16386, tI_M]; omega))]
      have hi' : i < pN (P a) := by omega
      have hfa := (pwP hwa hi').2
      rw [zbind_e, cFN h hn hl ha hwa hi']
      obtain ⟨j', h1, h2, h3, h4, h5⟩ := p_L30 (S := S) (a := a) (f := fN P fl a i) (nI i) h hn hl hb hwb hfa zbig j hj (by unfold zbig; omega)
      rw [h5]
      have hlow : ∀ t, t < j' → fN P fl b t < fN P fl a i := fun t ht => by
        by_cases q : t < j
        · exact hs hi' t q
        · exact h3 t (by omega) ht
      have hnext : i + 1 < pN (P a) → ∀ t, t < j' → fN P fl b t < fN P fl a (i + 1) := fun q t ht => by
        have := hlow t ht
        have := pwI hwa i (i + 1) (by omega) q
        omega
      have hkk : kkF P fl a b (i + 1) = kkF P fl a b i ++ (match fnd P fl b (fN P fl a i) (pN (P b)) with
        | some y => [(fP P fl a i, y)]
        | none => []) := rfl
      rw [cN h hn hb]
      rw [nI_1]
      by_cases d : j' = pN (P b)
      · rw [if_pos (by (simp (disch := omega) only [nI_1, nI_add, Int32.lt_iff_toInt_lt, Int32.le_iff_toInt_le, ← Int32.toInt_inj, nI_toInt, tI_0, tI_1, tI_2, tI_3, tI_4, tI_m1, tI_m2, tI_m3, tI_m4, tI_64, tI_128, tI_255, tI_256, tI_1000, tI_1024, tI_4096, tI_10000, tI_16384, tI_16386, tI_M]; omega))]
        have e : fnd P fl b (fN P fl a i) (pN (P b)) = none := fnd_no (fun t ht => by have := hlow t (by omega); omega)
        rw [e] at hkk
        exact ih (i + 1) j' S h ho (by omega) h2 (by omega) (by omega) hnext l (by rw [hr, hkk]; simp)
      · rw [if_neg (by (simp (disch := omega) only [nI_1, nI_add, Int32.lt_iff_toInt_lt, Int32.le_iff_toInt_le, ← Int32.toInt_inj, nI_toInt, tI_0, tI_1, tI_2, tI_3, tI_4, tI_m1, tI_m2, tI_m3, tI_m4, tI_64, tI_128, tI_255, tI_256, tI_1000, tI_1024, tI_4096, tI_10000, tI_16384, tI_16386, tI_M]; omega))]
        have hj' : j' < pN (P b) := by omega
        have hfb := (pwP hwb hj').2
        have hge := h4 hj'
        rw [cFN h hn hl hb hwb hj']
        by_cases q : fN P fl b j' = fN P fl a i
        · rw [if_neg (by rw [q]; simp)]
          have e : fnd P fl b (fN P fl a i) (pN (P b)) = some (fP P fl b j') := by rw [← q]; exact fnd_at hj' (pwI hwb)
          rw [e] at hkk
          rw [cFP h hn hl ha hwa hi']
          obtain ⟨S0, v0, S1, v1, e0, e1, l0, l1, r1⟩ := p_two (S := S) (nI (fP P fl a i)) (nI (fP P fl b j')) ho (by omega)
          rw [e0, zbind2_e, cFP (PC_like h l0 (by simp)) hn hl hb hwb hj', e1, zbind2_e]
          obtain ⟨S2, e2, l2, r2⟩ := ih (i + 1) j' S1 (PC_like h l1 (by simp)) l1.2.2 (by omega) h2 (by omega) (by rw [r1]; simp; omega) hnext l (by rw [r1, hr, hkk, enc_app]; simp [enc])
          exact ⟨S2, e2, zLike_tr l1 l2, r2⟩
        · rw [if_pos (by (simp (disch := omega) only [nI_1, nI_add, Int32.lt_iff_toInt_lt, Int32.le_iff_toInt_le, ← Int32.toInt_inj, nI_toInt, tI_0, tI_1, tI_2, tI_3, tI_4, tI_m1, tI_m2, tI_m3, tI_m4, tI_64, tI_128, tI_255, tI_256, tI_1000, tI_1024, tI_4096, tI_10000, tI_16384, tI_16386, tI_M]; omega))]
          have e : fnd P fl b (fN P fl a i) (pN (P b)) = none := fnd_no (fun t ht => by
            by_cases w : t < j'
            · have := hlow t w; omega
            · by_cases w2 : t = j'
              · subst w2; exact q
              · have := pwI hwb j' t (by omega) ht
                omega)
          rw [e] at hkk
          exact ih (i + 1) j' S h ho (by omega) h2 (by omega) (by omega) hnext l (by rw [hr, hkk]; simp)
theorem p_putFields {a b : Nat} (hn : np ≤ 16384) (hl : nl ≤ 16384) (ha : a < np) (hb : b < np) (hwa : pwf nf fam bit P nl fl a) (hwb : pwf nf fam bit P nl fl b) (h : PC S np P nl fl) (ho : okS S) (hlen : (S.1 11).length < 59000) : ∃ S', f_Pai_putFields S (nI a) (nI b) = some S' ∧ zLike [11] S S' ∧ S'.1 11 = S.1 11 ++ enc (kkF P fl a b (pN (P a))) := by
  have hBa := pwB hwa
  unfold f_Pai_putFields
  exact p_L5 hn hl ha hb hwa hwb zbig 0 0 S h ho (Nat.zero_le _) (Nat.zero_le _) (by unfold zbig; omega) (by omega) (fun _ t ht => by omega) (S.1 11) (by simp [kkF, enc])
end PHC
