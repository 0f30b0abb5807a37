-- PURE LAYER: missing
def pcC : Option (Option Nat) → Int32
  | none => -1
  | some none => -4
  | some (some c) => nI c
def pcM : Option (Option Nat) → Int32
  | none => -1
  | some none => -2
  | some (some c) => nI c
def shr (x : Int64) : Nat → Int64
  | 0 => x
  | i + 1 => z_lushr (shr x i) 8
theorem gb_shr (x : Int64) : ∀ i j, gb (shr x i) j = gb x (8 * i + j) := by
  intro i
  induction i with
  | zero => intro j; show gb x j = _; rw [Nat.mul_zero, Nat.zero_add]
  | succ i ih =>
    intro j
    show gb (z_lushr (shr x i) (nI 8)) j = _
    rw [gb_lushr _ (by omega), ih]
    congr 1; omega
theorem mul8 : ∀ i, i < 8 → (8 : Int32) * nI i = nI (8 * i) := by decide +kernel
theorem shr_c (x : Int64) {i : Nat} (hi : i < 8) : z_lushr x (8 * nI i) = shr x i := by
  rw [mul8 i hi]
  exact gb_ext (fun j _ => by rw [gb_lushr _ (by omega), gb_shr])
theorem shr_8 (x : Int64) : shr x 8 = 0 := gb_ext (fun j _ => by rw [gb_shr, gb_0]; exact gb_big (by omega))
theorem gb_255 : ∀ j, j < 64 → gb 255 j = decide (j < 8) := by decide +kernel
theorem byte_0 (y : Int64) : (y &&& 255).toInt32 = 0 ↔ y &&& 255 = 0 := by
  constructor
  · intro h
    refine gb_ext (fun j hj => ?_)
    rw [gb_0]
    by_cases c : j < 32
    · have h' := congrArg (fun z : Int32 => z.toBitVec.getLsbD j) h
      have e : (y &&& 255).toInt32.toBitVec.getLsbD j = gb (y &&& 255) j := by
        show ((y &&& 255).toBitVec.signExtend 32).getLsbD j = _
        rw [BitVec.getLsbD_signExtend]
        simp [c, hj, gb]
      rw [← e]
      have h' : (y &&& 255).toInt32.toBitVec.getLsbD j = (0 : Int32).toBitVec.getLsbD j := h'
      rw [h']
      exact BitVec.getLsbD_zero
    · rw [gb_and, gb_255 j hj]
      simp; intro _; omega
  · intro h; rw [h]; rfl
section PMS
variable {S : zS} {M : zM} {T : Tr} {nr : Nat} {sa : Nat → Nat} {nf : Nat} {fam : Nat → Nat} {bit : Nat → Int64} {np : Nat} {P : Nat → Pt} {nl : Nat} {fl : Nat → Nat × Nat} {ru : Nat → Nat} {ne : Nat} {ep : Nat → Nat} {el : Nat → Int32} {lst al : Nat → List Nat} {nx nk : Nat → Option Nat} {ue : Nat → Nat} {s1 s2 : Nat → Int32} {D : Nat} {pp : Nat → Nat}
theorem c_edgeCh (hR : TRw S T nr sa ne ep el lst al nx nk ue) (hE : EI T P ne ep el lst al nx nk ue) {p : Nat} (hp : p < tQ T) (hq : tQ T < 65536) (hne : ne < 65536) (l : Int32) : ∃ x, f_Par_edgeOf S (nI p) l = some x ∧ f_Par_child S x = oI (tCh T p l) := by
  obtain ⟨l1, l2, e, h1, h2⟩ := split_at hE hp l
  obtain ⟨w1, w2⟩ := p_lastBelow hR hE hp hq hne e h1 h2
  have hmem := (hE.1 p hp).2.1
  have hpw := (hE.1 p hp).2.2
  rw [e] at hpw
  have cm1 : f_Par_child S (-1) = -1 := by unfold f_Par_child; rw [r_at_rd, rd_m1]
  have noch : (∀ x, x ∈ l2 → l < el x) → tCh T p l = none := by
    intro h2'
    cases q : tCh T p l with
    | none => rfl
    | some c =>
      obtain ⟨b1, b2, b3, b4⟩ := tCh_ok q
      obtain ⟨u1, u2, u3⟩ := hE.2.2.1 c b1 b2
      have hm : ue c ∈ l1 ++ l2 := by rw [← e]; exact (hmem _).mpr ⟨u1, by rw [u2, b3]⟩
      rw [b4] at u3
      rcases List.mem_append.mp hm with m | m
      · have := (h1 _ m).2; rw [u3] at this; exact absurd this i32_irr
      · have := h2' _ m; rw [u3] at this; exact absurd this i32_irr
  unfold f_Par_edgeOf
  rw [w1, zob_s, zbind_e, w2]
  cases l2 with
  | nil =>
    rw [if_pos (by rfl)]
    exact ⟨-1, rfl, by rw [cm1, noch (fun x hx => by cases hx)]; rfl⟩
  | cons x l2 =>
    have hx := h2 x List.mem_cons_self
    have e1 : oI (x :: l2).head? = nI x := rfl
    rw [e1, if_neg (nI_m1 (by omega)), r_at_rd, hR.2.2.2.2.2.1, rowOf_rd hx.1 (by omega)]
    by_cases c : el x = l
    · rw [if_neg (by simp [c])]
      refine ⟨nI x, rfl, ?_⟩
      unfold f_Par_child
      rw [r_at_rd, hR.2.2.2.2.2.2.2.1, rowOf_rd hx.1 (by omega), ((hmem x).mp (by rw [e]; simp)).2, c]
    · rw [if_pos c]
      refine ⟨-1, rfl, ?_⟩
      rw [cm1, noch (fun y hy => ?_)]; rfl
      have hlx : l < el x := i32_eq hx.2 c
      rcases List.mem_cons.mp hy with z | z
      · rw [z]; exact hlx
      · have := (List.pairwise_append.mp hpw).2.1
        exact i32_tr hlx ((List.pairwise_cons.mp this).1 y z)
/-- a child, or what is below a part that no rule goes into -/
theorem c_chBare (hR : TRw S T nr sa ne ep el lst al nx nk ue) (hE : EI T P ne ep el lst al nx nk ue) {p : Nat} (hp : p < tQ T) (hq : tQ T ≤ 16385) (hne : ne < 65536) (l : Int32) : f_Gap_childOrBare S (nI p) l = some (pcC (some (tCh T p l))) := by
  obtain ⟨x, e1, e2⟩ := c_edgeCh hR hE hp (by omega) hne l
  unfold f_Gap_childOrBare
  rw [e1, zob_s, e2, zbind_e]
  cases g : tCh T p l with
  | none => rw [oI_n, if_neg (by simp)]; rfl
  | some c =>
    have := (tCh_ok g).2.1
    rw [oI_s, if_pos (nI_m1 (by omega))]; rfl
def posOK (T : Tr) (pos : Option (Option Nat)) : Prop := ∀ c, pos = some (some c) → c < tQ T
/-- one step down on both sides -/
theorem miss_step (hF : SF nf fam bit np P nl fl T nr ru sa) (hE : EI T P ne ep el lst al nx nk ue) (hne : ne < 65536) (hEP : EP P fl T nr ru) (hTG : ∀ i j, i < j → j < nr → TG P fl (ru i) (ru j)) (hR : TRw S T nr sa ne ep el lst al nx nk ue) (hM : MC M nf fam bit np P nl fl T nr sa) (hFC : FC S nf fam bit) (h10 : M.2.2 10 = nI D) (hD : D < 4097) (h41 : S.1 41 = rowOf (tQ T) s1) (h42 : S.1 42 = rowOf (tQ T) s2) (hG : GPs M T nf fam s1 s2 D pp) {c : Nat} (hc : c < tQ T) (x3 : Int32) (x5 : Int64) (hx : ¬ x5 &&& 255 = 0) (n : Nat) : ∃ pos, posOK T pos ∧ f_Gap_below S (nI c) (x5 &&& 255).toInt32 = some (pcC pos) ∧ f_Mod_missing_L31 (n + 1) M x3 (nI c) x5 = f_Mod_missing_L31 n M x3 (pcM pos) (z_lushr x5 8) := by
  have hq := hF.2.2.2.2.2.1
  have hTW := hF.2.1.1
  have hnp := hF.1.1
  have h29 : ∀ i, i < D → M.1 29 i = nI (pp i) ∧ pp i < tQ T := fun i hi => ⟨(hG.1 i hi).2.1, (hG.1 i hi).1⟩
  obtain ⟨o, o1, o2, o3⟩ := p_missedAt h10 hD (fun i hi => ⟨(h29 i hi).1, by have := (h29 i hi).2; omega⟩) hG.2.1 (c := c) (by omega)
  have hob : ∀ x, o = some x → x < 2 ^ 31 := fun x e => by have := (o2 x e).1; omega
  have e41 : r_at S 41 (nI c) = s1 c := by rw [r_at_rd, h41, rowOf_rd hc (by omega)]
  have e42 : r_at S 42 (nI c) = s2 c := by rw [r_at_rd, h42, rowOf_rd hc (by omega)]
  have e14 : f_Par_sort S (nI c) = (tH T c).2 := by unfold f_Par_sort; rw [r_at_rd, hR.2.1, rowOf_rd hc (by omega)]
  have nm4 : ¬ nI c = -4 := by (simp (disch := omega) only [nI_1, nI_add, Int32.lt_iff_toInt_lt, Int32.le_iff_toInt_le, ← Int32.toInt_inj, nI_toInt, tI_0, tI_1, tI_2, tI_3, tI_4, tI_m1, tI_m2, tI_m3, tI_m4, tI_64, tI_128, tI_255, tI_256, tI_1000, tI_1024, tI_4096, tI_10000, tI_16384, tI_16386, tI_M]; omega)
  have chOK : ∀ l, posOK T (some (tCh T c l)) := fun l d e => (tCh_ok (Option.some.inj e)).2.1
  have noOK : posOK T none := (by intro d e; cases e)
  generalize hv : (x5 &&& 255).toInt32 = v
  have cl : f_Gap_below S (nI c) v = (if ¬ s1 c = 4 then (if v = 1 then (if ¬ s1 c = 2 then (if ¬ s1 c = 3 then some (-1) else zob (f_Par_edgeOf S (nI c) (s2 c)) fun v8 => some (f_Par_child S v8)) else (if f_Fam_takesArgument S (tH T c).2 (s2 c) = 0 then some (-1) else zob (f_Gap_childOrBare S (nI c) (s2 c)) fun v10 => some v10)) else some (-1)) else (if (tH T c).2 < v then some (-1) else zob (f_Gap_childOrBare S (nI c) (v - 1)) fun v12 => some v12)) := by
    unfold f_Gap_below
    rw [if_pos nm4, e41, e42, e14]; rfl
  have re0 : ∀ y, f_Mod_missing_L31 (n + 1) M x3 (nI c) x5 = y → f_Mod_missing_L31 (n + 1) M x3 (nI c) x5 = y := fun y h => h
  cases o with
  | some i =>
    obtain ⟨i1, i2⟩ := o2 i rfl
    obtain ⟨g1, g2, g3, g4, g5', g6, g7⟩ := hG.1 i i1
    rw [i2] at g1 g2 g3 g4 g5' g6 g7
    obtain ⟨k1, k3⟩ := g5'
    have n4 : ¬ s1 c = 4 := by rw [g3]; (simp (disch := omega) only [nI_1, nI_add, Int32.lt_iff_toInt_lt, Int32.le_iff_toInt_le, ← Int32.toInt_inj, nI_toInt, tI_0, tI_1, tI_2, tI_3, tI_4, tI_m1, tI_m2, tI_m3, tI_m4, tI_64, tI_128, tI_255, tI_256, tI_1000, tI_1024, tI_4096, tI_10000, tI_16384, tI_16386, tI_M]; omega)
    rw [cl, if_pos n4, f_Mod_missing_L31, if_neg (nI_m1 (by omega)), if_neg (fun z => hx ((lgc0 _).mp z)), zbind_e, if_pos (nI_pos' (by omega)), o1, zob_s, hv, oI_s, if_neg (show ¬ nI i < 0 by (simp (disch := omega) only [nI_1, nI_add, Int32.lt_iff_toInt_lt, Int32.le_iff_toInt_le, ← Int32.toInt_inj, nI_toInt, tI_0, tI_1, tI_2, tI_3, tI_4, tI_m1, tI_m2, tI_m3, tI_m4, tI_64, tI_128, tI_255, tI_256, tI_1000, tI_1024, tI_4096, tI_10000, tI_16384, tI_16386, tI_M]; omega))]
    by_cases z : v = 1
    · rw [if_pos z, if_neg (show ¬ ¬ v = 1 by simp [z])]
      obtain ⟨b, b1, b2, b3, b4⟩ := p_hasArg hF hM hEP hTG hc g6 (show i < 4097 by omega) rfl g7
      obtain ⟨q, q1, q2, q3⟩ := p_anyAt hF hM hc g6
      have eK : pK (P q) = (tH T c).1 := by rw [q3]
      have hin : (tH T c).1 = 2 ∨ (tH T c).1 = 3 → f_Mod_inside M (nI q) (M.1 30 i).toInt64 = some (wayOf (tH T c).1 (M.1 30 i)) := by
        intro hk
        unfold f_Mod_inside wayOf
        rw [m_rd_n (by omega) (by omega), gK hM.1 q2, eK]
        rcases hk with k | k
        · rw [k, if_neg (by decide), if_neg (by decide), if_pos rfl]
        · rw [k, if_pos (by decide), if_neg (by decide), if_neg (by decide)]
      rw [b1, zob_s, g4]
      by_cases e2 : (tH T c).1 = 2
      · have c2 : s1 c = 2 := by rw [g3, e2]; rfl
        rw [if_neg (show ¬ ¬ s1 c = 2 by simp [c2])]
        obtain ⟨f, t, f1, f2, f3, f4⟩ := g7 e2
        have hb := b4 e2 f t f1 f2 f3 f4
        have ht : f_Fam_takesArgument S (tH T c).2 (M.1 30 i) = bI b := by
          rcases fam_tag hFC hM.2.2.2 hF.1.2.2.2.1 hF.1.2.2.1 (tH T c).2 (M.1 30 i) with ⟨_, d2⟩ | ⟨f', t', h1, h2, e1, e2', d1, d2⟩
          · exact absurd ⟨f, t, f3, f4, f1, f2⟩ d2
          · have hnf := hF.1.2.2.2.1
            have := hF.1.2.2.1 f f3
            have := hF.1.2.2.1 f' h1
            have ef : f' = f := (nI_eq (by omega) (by omega)).mp (e1.symm.trans f1)
            have et : t' = t := (nI_eq (by omega) (by omega)).mp (e2'.symm.trans f2)
            rw [d2, ef, et, hb]
        rw [ht]
        cases b with
        | false =>
          rw [if_pos (by rfl), if_pos (by rfl)]
          exact ⟨none, noOK, rfl, rfl⟩
        | true =>
          rw [if_neg (by decide), if_neg (by decide), if_neg (show ¬ nI i < 0 by (simp (disch := omega) only [nI_1, nI_add, Int32.lt_iff_toInt_lt, Int32.le_iff_toInt_le, ← Int32.toInt_inj, nI_toInt, tI_0, tI_1, tI_2, tI_3, tI_4, tI_m1, tI_m2, tI_m3, tI_m4, tI_64, tI_128, tI_255, tI_256, tI_1000, tI_1024, tI_4096, tI_10000, tI_16384, tI_16386, tI_M]; omega)), q1, zob_s, m_rd_n (by omega) (by omega), hin (Or.inl e2), zob_s, p_childOf hM.2.1 hTW hc (by omega), zob_s, c_chBare hR hE hc hq hne _, zob_s]
          refine ⟨some (tCh T c (M.1 30 i)), chOK _, rfl, ?_⟩
          cases g : tCh T c (M.1 30 i) with
          | none => rw [oI_n, if_neg (by decide)]; rfl
          | some d => rw [oI_s, if_pos (nI_pos' (by have := (tCh_ok g).2.1; omega))]; rfl
      · have c2 : ¬ s1 c = 2 := by rw [g3]; (simp (disch := omega) only [nI_1, nI_add, Int32.lt_iff_toInt_lt, Int32.le_iff_toInt_le, ← Int32.toInt_inj, nI_toInt, tI_0, tI_1, tI_2, tI_3, tI_4, tI_m1, tI_m2, tI_m3, tI_m4, tI_64, tI_128, tI_255, tI_256, tI_1000, tI_1024, tI_4096, tI_10000, tI_16384, tI_16386, tI_M]; omega)
        rw [if_pos c2]
        by_cases e3 : (tH T c).1 = 3
        · have c3 : s1 c = 3 := by rw [g3, e3]; rfl
          have hb := b3 e3
          obtain ⟨x, y1, y2⟩ := c_edgeCh hR hE hc (by omega) hne (M.1 30 i)
          rw [if_neg (show ¬ ¬ s1 c = 3 by simp [c3]), y1, zob_s, y2]
          cases g : tCh T c (M.1 30 i) with
          | none =>
            rw [g] at hb
            rw [hb, if_pos (by rfl)]
            exact ⟨none, noOK, rfl, rfl⟩
          | some d =>
            have hd := (tCh_ok g).2.1
            rw [g] at hb
            rw [hb, if_neg (by show ¬ bI true = 0; decide), if_neg (show ¬ nI i < 0 by (simp (disch := omega) only [nI_1, nI_add, Int32.lt_iff_toInt_lt, Int32.le_iff_toInt_le, ← Int32.toInt_inj, nI_toInt, tI_0, tI_1, tI_2, tI_3, tI_4, tI_m1, tI_m2, tI_m3, tI_m4, tI_64, tI_128, tI_255, tI_256, tI_1000, tI_1024, tI_4096, tI_10000, tI_16384, tI_16386, tI_M]; omega)), q1, zob_s, m_rd_n (by omega) (by omega), hin (Or.inr e3), zob_s, p_childOf hM.2.1 hTW hc (by omega), zob_s, g, oI_s, if_pos (nI_pos' (by omega))]
            exact ⟨some (some d), (by intro x e; cases e; exact hd), rfl, rfl⟩
        · have c3 : ¬ s1 c = 3 := by rw [g3]; (simp (disch := omega) only [nI_1, nI_add, Int32.lt_iff_toInt_lt, Int32.le_iff_toInt_le, ← Int32.toInt_inj, nI_toInt, tI_0, tI_1, tI_2, tI_3, tI_4, tI_m1, tI_m2, tI_m3, tI_m4, tI_64, tI_128, tI_255, tI_256, tI_1000, tI_1024, tI_4096, tI_10000, tI_16384, tI_16386, tI_M]; omega)
          rw [if_pos c3, b2 e2 e3, if_pos (by rfl)]
          exact ⟨none, noOK, rfl, rfl⟩
    · rw [if_neg z, if_pos z]
      exact ⟨none, noOK, rfl, rfl⟩
  | none =>
    obtain ⟨b, b1, b2⟩ := p_isTold hTW hM.2.1 hq h10 hD h29 hc o1 hob
    have re : ∀ b', b = b' → f_Mod_missing_L31 (n + 1) M x3 (nI c) x5 = (if bI b' = 0 then f_Mod_missing_L31 n M x3 (-1) (z_lushr x5 8) else (if szOf (tH T c) < v then f_Mod_missing_L31 n M x3 (-1) (z_lushr x5 8) else zob (f_Mod_childOf M (nI c) v.toInt64) fun v52 => if 0 ≤ v52 then f_Mod_missing_L31 n M x3 v52 (z_lushr x5 8) else f_Mod_missing_L31 n M x3 (-2) (z_lushr x5 8))) := by
      intro b' hb'
      rw [f_Mod_missing_L31, if_neg (nI_m1 (by omega)), if_neg (fun z => hx ((lgc0 _).mp z)), zbind_e, if_pos (nI_pos' (by omega)), o1, zob_s, hv, oI_n, if_pos (show (-1 : Int32) < 0 by decide), if_neg (show ¬ nI c < 0 by (simp (disch := omega) only [nI_1, nI_add, Int32.lt_iff_toInt_lt, Int32.le_iff_toInt_le, ← Int32.toInt_inj, nI_toInt, tI_0, tI_1, tI_2, tI_3, tI_4, tI_m1, tI_m2, tI_m3, tI_m4, tI_64, tI_128, tI_255, tI_256, tI_1000, tI_1024, tI_4096, tI_10000, tI_16384, tI_16386, tI_M]; omega)), b1, zob_s, m_rd_n (show c < 16386 by omega) (by omega), (TMo_at hM.2.1).2.2 c hc, if_pos (show (-1 : Int32) < 0 by decide), hb']
      rfl
    rcases hG.2.2 c hc (o3 rfl) with ⟨t1, t2, t3⟩ | ⟨t1, t2⟩
    · have hb : b = true := b2.mpr ⟨rfl, t3⟩
      have esz : szOf (tH T c) = (tH T c).2 := by unfold szOf; rw [if_pos t2]
      rw [cl, re true hb, if_neg (show ¬ ¬ s1 c = 4 by simp [t1]), if_neg (show ¬ bI true = 0 by decide), esz]
      by_cases z : (tH T c).2 < v
      · rw [if_pos z, if_pos z]
        exact ⟨none, noOK, rfl, rfl⟩
      · have ew : v.toInt64 = wayOf (tH T c).1 (v - 1) := by unfold wayOf; rw [if_pos t2, Int32.sub_add_cancel]
        rw [if_neg z, if_neg z, ew, p_childOf hM.2.1 hTW hc (by omega), zob_s, c_chBare hR hE hc hq hne (v - 1), zob_s]
        refine ⟨some (tCh T c (v - 1)), chOK _, rfl, ?_⟩
        cases g : tCh T c (v - 1) with
        | none => rw [oI_n, if_neg (by decide)]; rfl
        | some d => rw [oI_s, if_pos (nI_pos' (by have := (tCh_ok g).2.1; omega))]; rfl
    · have hb : b = false := by
        cases b with
        | false => rfl
        | true =>
          obtain ⟨_, i, i1, i2⟩ := b2.mp rfl
          exact absurd i2 (t2 i i1)
      rw [cl, re false hb, if_pos (show ¬ s1 c = 4 by rw [t1]; decide), if_pos (show bI false = 0 by rfl)]
      refine ⟨none, noOK, ?_, rfl⟩
      by_cases z : v = 1
      · rw [if_pos z, if_pos (by rw [t1]; decide), if_pos (by rw [t1]; decide)]; rfl
      · rw [if_neg z]; rfl
end PMS
