-- PURE LAYER: the class's valueAt, the reference's partAt
/-- a way down from a part -/
def chl (T : Tr) : Nat → List Nat → Prop
  | _, [] => True
  | a, c :: rs => 1 ≤ c ∧ c < tQ T ∧ tU T c = a ∧ lbOK T c ∧ chl T c rs
def chE : Nat → List Nat → Nat
  | a, [] => a
  | _, c :: rs => chE c rs
/-- what the class has seen -/
def SN (S : zS) (T : Tr) (P : Nat → Pt) (fl : Nat → Nat × Nat) (val : Nat) (sn : Nat → Int32) : Prop := S.1 39 = rowOf (tQ T) sn ∧ (∀ c, c < tQ T → sn c = -4 ∨ sn c = oI (vc P fl T val c)) ∧ sn 0 = nI val
section PVB
variable {S : zS} {M : zM} {T : Tr} {nr : Nat} {sa : Nat → Nat} {nf : Nat} {fam : Nat → Nat} {bit : Nat → Int64} {np : Nat} {P : Nat → Pt} {nl : Nat} {fl : Nat → Nat × Nat} {ru : Nat → Nat} {ne : Nat} {ep : Nat → Nat} {el : Nat → Int32} {lst al : Nat → List Nat} {nx nk : Nat → Option Nat} {ue : Nat → Nat} {val : Nat}
theorem SF_H (hF : SF nf fam bit np P nl fl T nr ru sa) {p : Nat} (hp : p < tQ T) : (tH T p).1 ≤ 4 := by
  by_cases c : (tH T p).1 = 0
  · omega
  · obtain ⟨r, q, b1, b2, b3⟩ := hF.2.1.2.2.2.2 p hp c
    have hq := oc_lt hF.2.1.1 hF.1 (hF.2.2.2.1 r b1) _ _ _ (Nat.lt_succ_self _) hp b2
    rw [b3]
    exact pwK (hF.1.2.2.2.2 q hq)
theorem c_descend (hF : SF nf fam bit np P nl fl T nr ru sa) (hE : EI T P ne ep el lst al nx nk ue) (hne : ne < 65536) (hv : val < np) (hw : pW (P val) = true) {p : Nat} (hp : p < tQ T) : ∀ (rs : List Nat) (n a : Nat) (S : zS) (sn : Nat → Int32), okS S → PC S np P nl fl → TRw S T nr sa ne ep el lst al nx nk ue → SN S T P fl val sn → a < tQ T → sn a = oI (vc P fl T val a) → chl T a rs → chE a rs = p → S.1 40 = rs.reverse.map nI → rs.length < n → rs.length < 60000 → ∃ S' sn', f_Wlk_valueAt_L66 n S (nI p) (nI a) (nI rs.length) = some (S', oI (vc P fl T val p)) ∧ zLike [39, 40] S S' ∧ SN S' T P fl val sn' := by
  have hT := hF.2.1.1
  have hq := hF.2.2.2.2.2.1
  intro rs
  induction rs with
  | nil =>
    intro n a S sn ho hP hR hS ha hsn hc he h40 hn _
    cases n with
    | zero => simp at hn
    | succ n =>
      unfold f_Wlk_valueAt_L66
      have he : a = p := he
      subst he
      rw [if_pos (by decide), r_at_rd, hS.1, rowOf_rd ha (by omega), hsn]
      exact ⟨S, sn, rfl, zLike_rf ho, hS⟩
  | cons c rs ih =>
    intro n a S sn ho hP hR hS ha hsn hc he h40 hn hl
    cases n with
    | zero => simp at hn
    | succ n =>
      obtain ⟨c1, c2, c3, c4, c5⟩ := hc
      have hlen : (c :: rs).length = rs.length + 1 := rfl
      unfold f_Wlk_valueAt_L66
      rw [hlen, if_neg (by rw [hlen] at hl; (simp (disch := omega) only [nI_1, nI_add, Int32.lt_iff_toInt_lt, Int32.le_iff_toInt_le, ← Int32.toInt_inj, nI_toInt, tI_0, tI_1, tI_2, tI_3, tI_4, tI_m1, tI_m2, tI_m3, tI_m4, tI_64, tI_128, tI_255, tI_256, tI_1000, tI_1024, tI_4096, tI_10000, tI_16384, tI_16386, tI_M]; omega))]
      obtain ⟨S1, a1, a2, a3⟩ := zTake (S := S) (k := 40) (l := rs.reverse.map nI) (v := nI c) ho (by rw [h40]; simp)
      rw [a1, zbind2_e, zbind_e, pk_m1]
      have hS1 : S1.1 39 = rowOf (tQ T) sn := by rw [a2.1 39 (by decide)]; exact hS.1
      have ev : r_at S1 39 (nI a) = oI (vc P fl T val a) := by rw [r_at_rd, hS1, rowOf_rd ha (by omega), hsn]
      have hi := c_inner (PC_like hP a2 (by simp)) hF.1 (TRw_like hR a2 (by simp)) hE hT hF.2.1.2.1 hne hq c1 c2 c4 (SF_H hF (by rw [c3]; exact ha)) (vc P fl T val a) (fun x e => vc_whole hT hF.1 hv hw _ _ _ (Nat.lt_succ_self _) ha e)
      rw [c3] at hi
      have hvc : vstep P fl T c (vc P fl T val a) = vc P fl T val c := by rw [vc_s hT c1 c2, c3]
      rw [ev, hi, hvc]
      obtain ⟨S2, b1, b2, b3⟩ := zSet (S := S1) (k := 39) (i := c) (oI (vc P fl T val c)) a2.2.2 (by rw [hS1, rowOf_len]; exact c2) (by rw [hS1, rowOf_len]; omega)
      rw [b1]
      have l12 : zLike [39, 40] S S2 := zLike_tr (zLike_mono a2 (by simp)) (zLike_mono b2 (by simp))
      have hS2 : SN S2 T P fl val (va_up sn c (oI (vc P fl T val c))) := by
        refine ⟨by rw [b3, hS1, rowOf_set], fun x hx => ?_, by rw [va_n (by omega)]; exact hS.2.2⟩
        by_cases w : x = c
        · subst w; rw [va_s]; exact Or.inr rfl
        · rw [va_n w]; exact hS.2.1 x hx
      obtain ⟨S3, sn3, e1, e2, e3⟩ := ih n c S2 _ b2.2.2 (PC_like hP l12 (by simp)) (TRw_like hR l12 (by simp)) hS2 c2 va_s c5 he (by rw [b2.1 40 (by decide)]; exact a3) (by rw [hlen] at hn; omega) (by rw [hlen] at hl; omega)
      exact ⟨S3, sn3, e1, zLike_tr l12 e2, e3⟩
theorem c_climb (hF : SF nf fam bit np P nl fl T nr ru sa) (hv : val < np) {p : Nat} {sn : Nat → Int32} : ∀ (n a left : Nat) (rs : List Nat) (S : zS), okS S → TRw S T nr sa ne ep el lst al nx nk ue → SN S T P fl val sn → a < tQ T → gp T a → chl T a rs → chE a rs = p → S.1 40 = rs.reverse.map nI → a < left → left < 60000 → a < n → rs.length + a ≤ 16385 → ∃ S' a' rs', f_Wlk_valueAt_L17 n S (nI p) (nI a) (nI left) = f_Wlk_valueAt_L66 zbig S' (nI p) (nI a') (nI rs'.length) ∧ zLike [40] S S' ∧ a' < tQ T ∧ sn a' = oI (vc P fl T val a') ∧ chl T a' rs' ∧ chE a' rs' = p ∧ S'.1 40 = rs'.reverse.map nI ∧ rs'.length ≤ 16385 := by
  have hT := hF.2.1.1
  have hq := hF.2.2.2.2.2.1
  have hnp := hF.1.1
  intro n
  induction n with
  | zero => intro a left rs S _ _ _ _ _ _ _ _ _ _ h; omega
  | succ n ih =>
    intro a left rs S ho hR hS ha hg hc he h40 hl hl2 hn hlen
    have hsz : r_size S 40 = nI rs.length := by unfold r_size; rw [h40]; simp
    unfold f_Wlk_valueAt_L17
    rw [if_neg (by (simp (disch := omega) only [nI_1, nI_add, Int32.lt_iff_toInt_lt, Int32.le_iff_toInt_le, ← Int32.toInt_inj, nI_toInt, tI_0, tI_1, tI_2, tI_3, tI_4, tI_m1, tI_m2, tI_m3, tI_m4, tI_64, tI_128, tI_255, tI_256, tI_1000, tI_1024, tI_4096, tI_10000, tI_16384, tI_16386, tI_M]; omega)), r_at_rd, hS.1, rowOf_rd ha (by omega)]
    by_cases c : sn a = -4
    · have ha1 : 1 ≤ a := by
        rcases Nat.eq_zero_or_pos a with z | z
        · subst z; rw [hS.2.2] at c; exact absurd c (by (simp (disch := omega) only [nI_1, nI_add, Int32.lt_iff_toInt_lt, Int32.le_iff_toInt_le, ← Int32.toInt_inj, nI_toInt, tI_0, tI_1, tI_2, tI_3, tI_4, tI_m1, tI_m2, tI_m3, tI_m4, tI_64, tI_128, tI_255, tI_256, tI_1000, tI_1024, tI_4096, tI_10000, tI_16384, tI_16386, tI_M]; omega))
        · exact z
      obtain ⟨g1, g2, g3⟩ := gp_up hT hg ha1
      have hu := hT.2.1 a ha1 ha
      rw [if_neg (by simp [c])]
      obtain ⟨S1, a1, a2, a3⟩ := zAdd (S := S) (k := 40) (nI a) ho (by decide) (by rw [h40]; simp; omega)
      rw [a1, zbind2_e, zbind_e]
      have e15 : f_Par_upper S1 (nI a) = nI (tU T a) := by unfold f_Par_upper; rw [r_at_rd, a2.1 15 (by decide), hR.2.2.1, rowOf_rd ha (by omega), if_neg (by omega)]
      rw [e15, sb_m1 (by omega)]
      obtain ⟨S2, a', rs', b1, b2, b3⟩ := ih (tU T a) (left - 1) (a :: rs) S1 a2.2.2 (TRw_like hR a2 (by simp)) ⟨by rw [a2.1 39 (by decide)]; exact hS.1, hS.2⟩ (by omega) g3 ⟨ha1, ha, rfl, g2, hc⟩ he (by rw [a3, h40]; simp) (by omega) (by omega) (by omega) (by simp; omega)
      exact ⟨S2, a', rs', b1, zLike_tr a2 b2, b3⟩
    · rw [if_pos c, zbind_e, hsz]
      refine ⟨S, a, rs, rfl, zLike_rf ho, ha, ?_, hc, he, h40, by omega⟩
      rcases hS.2.1 a ha with w | w
      · exact absurd w c
      · exact w
theorem c_valueAt (hF : SF nf fam bit np P nl fl T nr ru sa) (hE : EI T P ne ep el lst al nx nk ue) (hne : ne < 65536) (hv : val < np) (hw : pW (P val) = true) (ho : okS S) (hP : PC S np P nl fl) (hR : TRw S T nr sa ne ep el lst al nx nk ue) {sn : Nat → Int32} (hS : SN S T P fl val sn) {p : Nat} (hp : p < tQ T) (hg : gp T p) : ∃ S' sn', f_Wlk_valueAt S (nI p) = some (S', oI (vc P fl T val p)) ∧ zLike [39, 40] S S' ∧ SN S' T P fl val sn' := by
  have hq := hF.2.2.2.2.2.1
  obtain ⟨S1, a1, a2, a3⟩ := zEmp (S := S) (k := 40) ho
  have hsz : f_Par_size S1 = nI (tQ T) := by unfold f_Par_size r_size; rw [a2.1 13 (by decide), hR.1, rowOf_len]
  unfold f_Wlk_valueAt
  rw [zbind_e, a1, zbind_e, hsz]
  have hS1 : SN S1 T P fl val sn := ⟨by rw [a2.1 39 (by decide)]; exact hS.1, hS.2⟩
  obtain ⟨S2, a', rs', b1, b2, b3, b4, b5, b6, b7, b8⟩ := c_climb hF hv (p := p) zbig p (tQ T) [] S1 a2.2.2 (TRw_like hR a2 (by simp)) hS1 hp hg trivial rfl (by rw [a3]; rfl) hp (by omega) (by unfold zbig; omega) (by simp; omega)
  rw [b1]
  have l12 := zLike_tr (zLike_mono a2 (fun k hk => hk)) b2
  obtain ⟨S3, sn3, c1, c2, c3⟩ := c_descend hF hE hne hv hw hp rs' zbig a' S2 sn b2.2.2 (PC_like hP l12 (by simp)) (TRw_like hR l12 (by simp)) ⟨by rw [b2.1 39 (by decide)]; exact hS1.1, hS1.2⟩ b3 b4 b5 b6 b7 (by unfold zbig; omega) (by omega)
  exact ⟨S3, sn3, c1, zLike_tr (zLike_mono l12 (by simp)) c2, c3⟩
-- the reference
def rstep (P : Nat → Pt) (fl : Nat → Nat × Nat) (T : Tr) (c : Nat) : Option Nat → Option Nat
  | none => none
  | some q => if pK (P q) = 4 then (if tH T (tU T c) = (4, pS (P q)) then sub P fl q (tL T c) else none) else if pK (P q) = 2 ∨ pK (P q) = 3 then (if (tH T (tU T c)).1 = 4 then none else pO (P q)) else none
theorem p_isRec (hM : MC M nf fam bit np P nl fl T nr sa) {u : Nat} (hu : u < tQ T) (hq : tQ T ≤ 16385) : f_Mod_isRecordPlace M (nI u) = some (if szOf (tH T u) ≤ 0 then 0 else 1) := by
  obtain ⟨bl, nb, t1, t2, t3, t4, t5, t6⟩ := hM.2.1
  unfold f_Mod_isRecordPlace
  rw [m_rd_n (by omega) (by omega), (t3 u hu).2.2.2]
  split <;> rfl
theorem p_part1 (hF : SF nf fam bit np P nl fl T nr ru sa) (hM : MC M nf fam bit np P nl fl T nr sa) {c k q : Nat} (h1 : 1 ≤ c) (h2 : c < tQ T) (hl : lbOK T c) (hrec : ∀ s, tH T (tU T c) = (4, s) → ∃ n : Nat, n ≤ 128 ∧ s = nI n) (hk : k < 20480) (h31 : M.1 31 k = nI c) (hq : q < np) (hw : pW (P q) = true) (n : Nat) : f_Mod_partAt_L41 (n + 1) M (nI q) (nI k) = f_Mod_partAt_L41 n M (oI (rstep P fl T c (some q))) (nI k + (-1)) := by
  have hnp := hF.1.1
  have hQ := hF.2.2.2.2.2.1
  have hT := hF.2.1.1
  have hu := hT.2.1 c h1 h2
  have hwq := hF.1.2.2.2.2 q hq
  have hk0 : pK (P q) ≠ 0 := (hwq.2.2.2.2.2.2.2.2.2.2.2.2.2.2.2.2 hw).1
  have hH := SF_H hF (show tU T c < tQ T by omega)
  have hrp := p_isRec hM (show tU T c < tQ T by omega) hQ
  obtain ⟨bl, nb, t1, t2, t3, t4, t5, t6⟩ := hM.2.1
  obtain ⟨g17, g18, g19, g21⟩ := t2 c h1 h2
  have g22 := (t3 (tU T c) (by omega)).2.2.2
  have P0 : ∀ (A B : zM → Int32 → Option (zM × Int32)), True := fun _ _ => trivial
  rw [f_Mod_partAt_L41, if_neg (nI_pos (by omega)), if_neg (nI_pos (by omega)), m_rd_n (by omega) (by omega), h31, m_rd_n (by omega) (by omega), g17, m_rd_n (by omega) (by omega), gK hM.1 hq]
  unfold rstep
  dsimp only
  rcases pwk5 hwq with e | e | e | e | e
  · exact absurd e hk0
  · -- a constant
    rw [if_neg (show ¬ pK (P q) = 4 by omega), if_neg (show ¬ (pK (P q) = 2 ∨ pK (P q) = 3) by omega), oI_n]
    rw [if_pos (by rw [e]; decide), m_rd_n (by omega) (by omega), gK hM.1 hq, if_neg (by rw [e]; decide), m_rd_n (by omega) (by omega), gK hM.1 hq, if_pos (by rw [e]; decide)]
  · -- built
    rw [if_neg (show ¬ pK (P q) = 4 by omega), if_pos (Or.inl e)]
    rw [if_pos (by rw [e]; decide), m_rd_n (by omega) (by omega), gK hM.1 hq, if_pos (by rw [e]; rfl), m_rd_n (by omega) (by omega), g18]
    unfold stpOf
    by_cases h4 : (tH T (tU T c)).1 = 4
    · obtain ⟨n', n1, n2⟩ := hrec (tH T (tU T c)).2 (Prod.ext h4 rfl)
      obtain ⟨f, f1, f2⟩ := hl n' n1 (Prod.ext h4 n2)
      have hsz : ¬ szOf (tH T (tU T c)) ≤ 0 := by unfold szOf; rw [if_pos h4, n2]; (simp (disch := omega) only [nI_1, nI_add, Int32.lt_iff_toInt_lt, Int32.le_iff_toInt_le, ← Int32.toInt_inj, nI_toInt, tI_0, tI_1, tI_2, tI_3, tI_4, tI_m1, tI_m2, tI_m3, tI_m4, tI_64, tI_128, tI_255, tI_256, tI_1000, tI_1024, tI_4096, tI_10000, tI_16384, tI_16386, tI_M]; omega)
      rw [if_pos h4, if_pos h4, oI_n, f2, nI_1]
      by_cases f0 : f = 0
      · rw [if_neg (by rw [f0]; decide), m_rd_n (by omega) (by omega), g5 hM.1 hq (by omega)]
        cases ox : pO (P q) with
        | none => rw [oI_n, if_pos (by decide)]
        | some y =>
          have := (pwO hwq ox).1
          rw [oI_s, if_neg (nI_pos (by omega)), hrp, zob_s, if_neg hsz, if_pos (by decide)]
      · rw [if_pos (by (simp (disch := omega) only [nI_1, nI_add, Int32.lt_iff_toInt_lt, Int32.le_iff_toInt_le, ← Int32.toInt_inj, nI_toInt, tI_0, tI_1, tI_2, tI_3, tI_4, tI_m1, tI_m2, tI_m3, tI_m4, tI_64, tI_128, tI_255, tI_256, tI_1000, tI_1024, tI_4096, tI_10000, tI_16384, tI_16386, tI_M]; omega))]
    · have hsz : szOf (tH T (tU T c)) ≤ 0 := by unfold szOf; rw [if_neg h4]; decide
      rw [if_neg h4, if_neg h4, if_neg (by decide), m_rd_n (by omega) (by omega), g5 hM.1 hq (by omega)]
      cases ox : pO (P q) with
      | none => rw [oI_n, if_pos (by decide)]
      | some y =>
        have := (pwO hwq ox).1
        rw [oI_s, if_neg (nI_pos (by omega)), hrp, zob_s, if_pos hsz, if_neg (by decide), m_rd_n (by omega) (by omega), g5 hM.1 hq (by omega), ox, oI_s]
  · -- a name
    rw [if_neg (show ¬ pK (P q) = 4 by omega), if_pos (Or.inr e)]
    rw [if_pos (by rw [e]; decide), m_rd_n (by omega) (by omega), gK hM.1 hq, if_neg (by rw [e]; decide), m_rd_n (by omega) (by omega), gK hM.1 hq, if_neg (by rw [e]; decide), m_rd_n (by omega) (by omega), g18]
    unfold stpOf
    by_cases h4 : (tH T (tU T c)).1 = 4
    · obtain ⟨n', n1, n2⟩ := hrec (tH T (tU T c)).2 (Prod.ext h4 rfl)
      obtain ⟨f, f1, f2⟩ := hl n' n1 (Prod.ext h4 n2)
      have hsz : ¬ szOf (tH T (tU T c)) ≤ 0 := by unfold szOf; rw [if_pos h4, n2]; (simp (disch := omega) only [nI_1, nI_add, Int32.lt_iff_toInt_lt, Int32.le_iff_toInt_le, ← Int32.toInt_inj, nI_toInt, tI_0, tI_1, tI_2, tI_3, tI_4, tI_m1, tI_m2, tI_m3, tI_m4, tI_64, tI_128, tI_255, tI_256, tI_1000, tI_1024, tI_4096, tI_10000, tI_16384, tI_16386, tI_M]; omega)
      rw [if_pos h4, if_pos h4, oI_n, f2, nI_1]
      by_cases f0 : f = 0
      · rw [if_neg (by rw [f0]; decide), m_rd_n (by omega) (by omega), g5 hM.1 hq (by omega)]
        cases ox : pO (P q) with
        | none => rw [oI_n, if_pos (by decide)]
        | some y =>
          have := (pwO hwq ox).1
          rw [oI_s, if_neg (nI_pos (by omega)), hrp, zob_s, if_neg hsz, if_pos (by decide)]
      · rw [if_pos (by (simp (disch := omega) only [nI_1, nI_add, Int32.lt_iff_toInt_lt, Int32.le_iff_toInt_le, ← Int32.toInt_inj, nI_toInt, tI_0, tI_1, tI_2, tI_3, tI_4, tI_m1, tI_m2, tI_m3, tI_m4, tI_64, tI_128, tI_255, tI_256, tI_1000, tI_1024, tI_4096, tI_10000, tI_16384, tI_16386, tI_M]; omega))]
    · have hsz : szOf (tH T (tU T c)) ≤ 0 := by unfold szOf; rw [if_neg h4]; decide
      rw [if_neg h4, if_neg h4, if_neg (by decide), m_rd_n (by omega) (by omega), g5 hM.1 hq (by omega)]
      cases ox : pO (P q) with
      | none => rw [oI_n, if_pos (by decide)]
      | some y =>
        have := (pwO hwq ox).1
        rw [oI_s, if_neg (nI_pos (by omega)), hrp, zob_s, if_pos hsz, if_neg (by decide), m_rd_n (by omega) (by omega), g5 hM.1 hq (by omega), ox, oI_s]
  · -- a record
    obtain ⟨m, m1, m2, m3, m4⟩ := whole_rec hwq e hw
    rw [if_pos e]
    rw [if_neg (by rw [e]; decide), m_rd_n (by omega) (by omega), g22, m_rd_n (by omega) (by omega), gFn hM.1 hq (by omega)]
    have no : ∀ X : Option (zM × Int32), X = f_Mod_partAt_L41 n M (-1) (nI k + (-1)) → True := fun _ _ => trivial
    by_cases h4 : (tH T (tU T c)).1 = 4
    · obtain ⟨n', n1, n2⟩ := hrec (tH T (tU T c)).2 (Prod.ext h4 rfl)
      have hth : tH T (tU T c) = (4, nI n') := Prod.ext h4 n2
      obtain ⟨f, f1, f2⟩ := hl n' n1 hth
      have hs1 : szOf (tH T (tU T c)) = nI n' := by unfold szOf; rw [if_pos h4, n2]
      rw [hs1, hth, m2]
      by_cases hm : m = n'
      · subst hm
        have hsz : ¬ szOf (tH T (tU T c)) ≤ 0 := by rw [hs1]; (simp (disch := omega) only [nI_1, nI_add, Int32.lt_iff_toInt_lt, Int32.le_iff_toInt_le, ← Int32.toInt_inj, nI_toInt, tI_0, tI_1, tI_2, tI_3, tI_4, tI_m1, tI_m2, tI_m3, tI_m4, tI_64, tI_128, tI_255, tI_256, tI_1000, tI_1024, tI_4096, tI_10000, tI_16384, tI_16386, tI_M]; omega)
        have hst : stpOf (tH T (tU T c)).1 (tL T c) = nI (f + 1) := by unfold stpOf; rw [if_pos h4, f2, nI_1]
        rw [if_neg (by simp), m_rd_n (by omega) (by omega), g18, hst, m_rd_n (by omega) (by omega), gFn hM.1 hq (by omega), m2, if_neg (nI_nlt (by omega) (by omega)), hrp, zob_s, if_neg hsz, if_neg (by decide), m_rd_n (by omega) (by omega), gK hM.1 hq, if_neg (by rw [e]; decide), m_rd_n (by omega) (by omega), gK hM.1 hq, if_pos (by rw [e]; decide), m_rd_n (by omega) (by omega), g18, hst, nI_pred, p_fieldOf hnp hF.1.2.1 hq hwq e (by omega) hM.1, zob_s]
        have hff : fN P fl q f = f := m4 f f1
        have e1 := fnd_at (P := P) (fl := fl) (b := q) (j := f) (n := pN (P q)) (by omega) (pwI hwq)
        rw [hff] at e1
        have e2 := sub_fld hwq e (j := f) (by omega)
        rw [hff] at e2
        rw [e1, if_pos rfl, f2, e2]
      · have hne : ¬ nI n' = nI m := by rw [nI_eq (by omega) (by omega)]; omega
        rw [if_pos hne, m_rd_n (by omega) (by omega), gK hM.1 hq, if_neg (by rw [e]; decide), m_rd_n (by omega) (by omega), gK hM.1 hq, if_pos (by rw [e]; decide), if_neg (fun w => hne (Prod.ext_iff.mp w).2), oI_n]
    · have hs0 : szOf (tH T (tU T c)) = 0 := by unfold szOf; rw [if_neg h4]
      have hst : stpOf (tH T (tU T c)).1 (tL T c) = 1 := by unfold stpOf; rw [if_neg h4]
      rw [hs0, m2, if_neg (show ¬ tH T (tU T c) = (4, nI m) from fun w => h4 (by rw [w])), oI_n]
      by_cases hm : m = 0
      · subst hm
        rw [if_neg (by decide), m_rd_n (by omega) (by omega), g18, hst, m_rd_n (by omega) (by omega), gFn hM.1 hq (by omega), m2, if_pos (by decide), m_rd_n (by omega) (by omega), gK hM.1 hq, if_neg (by rw [e]; decide), m_rd_n (by omega) (by omega), gK hM.1 hq, if_pos (by rw [e]; decide)]
      · rw [if_pos (by (simp (disch := omega) only [nI_1, nI_add, Int32.lt_iff_toInt_lt, Int32.le_iff_toInt_le, ← Int32.toInt_inj, nI_toInt, tI_0, tI_1, tI_2, tI_3, tI_4, tI_m1, tI_m2, tI_m3, tI_m4, tI_64, tI_128, tI_255, tI_256, tI_1000, tI_1024, tI_4096, tI_10000, tI_16384, tI_16386, tI_M]; omega)), m_rd_n (by omega) (by omega), gK hM.1 hq, if_neg (by rw [e]; decide), m_rd_n (by omega) (by omega), gK hM.1 hq, if_pos (by rw [e]; decide)]
end PVB
