-- PURE LAYER: missing, whole
section PM2
variable {S : zS} {M : zM} {T : Tr} {nr : Nat} {sa : Nat → Nat} {nf : Nat} {fam : Nat → Nat} {bit : Nat → Int64} {np : Nat} {P : Nat → Pt} {nl : Nat} {fl : Nat → Nat × Nat} {ru : Nat → Nat} {ne : Nat} {ep : Nat → Nat} {el : Nat → Int32} {lst al : Nat → List Nat} {nx nk : Nat → Option Nat} {ue : Nat → Nat} {s1 s2 : Nat → Int32} {D : Nat} {pp : Nat → Nat}
theorem miss_end (hF : SF nf fam bit np P nl fl T nr ru sa) (hM : MC M nf fam bit np P nl fl T nr sa) (h10 : M.2.2 10 = nI D) (hD : D < 4097) (h41 : S.1 41 = rowOf (tQ T) s1) (h42 : S.1 42 = rowOf (tQ T) s2) (hG : GPs M T nf fam s1 s2 D pp) {pos : Option (Option Nat)} (hpos : pos ≠ none) (hok : posOK T pos) (x3 : Int32) (h3 : x3 = 0 ∨ x3 = 1) (x5 : Int64) (hx : x5 &&& 255 = 0) (n : Nat) : f_Mod_missing_L31 (n + 1) M x3 (pcM pos) x5 = some (f_Gap_tellPart S (pcC pos) x3) := by
  have hq := hF.2.2.2.2.2.1
  have hTW := hF.2.1.1
  have hnp := hF.1.1
  cases pos with
  | none => exact absurd rfl hpos
  | some oc =>
    cases oc with
    | none =>
      show f_Mod_missing_L31 (n + 1) M x3 (-2) x5 = some (f_Gap_tellPart S (-4) x3)
      rw [f_Mod_missing_L31, if_neg (by decide), if_pos ((lgc0 _).mpr hx), if_pos (by decide), if_neg (by decide)]
      unfold f_Gap_tellPart
      rw [if_neg (show ¬ ¬ (-4 : Int32) = -4 by simp)]
      rcases h3 with e | e
      · subst e; rfl
      · subst e; rfl
    | some c =>
      have hc := hok c rfl
      show f_Mod_missing_L31 (n + 1) M x3 (nI c) x5 = some (f_Gap_tellPart S (nI c) x3)
      have h29 : ∀ i, i < D → M.1 29 i = nI (pp i) ∧ pp i < tQ T := fun i hi => ⟨(hG.1 i hi).2.1, (hG.1 i hi).1⟩
      obtain ⟨o, o1, o2, o3⟩ := p_missedAt h10 hD (fun i hi => ⟨(h29 i hi).1, by have := (h29 i hi).2; omega⟩) hG.2.1 (c := c) (by omega)
      have hob : ∀ x, o = some x → x < 2 ^ 31 := fun x e => by have := (o2 x e).1; omega
      have e41 : r_at S 41 (nI c) = s1 c := by rw [r_at_rd, h41, rowOf_rd hc (by omega)]
      have e42 : r_at S 42 (nI c) = s2 c := by rw [r_at_rd, h42, rowOf_rd hc (by omega)]
      have nm4 : ¬ nI c = -4 := by (simp (disch := omega) only [nI_1, nI_add, Int32.lt_iff_toInt_lt, Int32.le_iff_toInt_le, ← Int32.toInt_inj, nI_toInt, tI_0, tI_1, tI_2, tI_3, tI_4, tI_m1, tI_m2, tI_m3, tI_m4, tI_64, tI_128, tI_255, tI_256, tI_1000, tI_1024, tI_4096, tI_10000, tI_16384, tI_16386, tI_M]; omega)
      have cl : f_Gap_tellPart S (nI c) x3 = if x3 = 0 then s1 c else if s1 c = 0 then -1 else if s1 c = 4 then -1 else s2 c := by
        unfold f_Gap_tellPart
        rw [if_pos nm4, e41, e42, zbind_e]
        rcases h3 with e | e
        · subst e; rfl
        · subst e; rfl
      rw [cl, f_Mod_missing_L31, if_neg (show ¬ nI c = -1 from nI_m1 (by omega)), if_pos ((lgc0 _).mpr hx), if_pos (show ¬ nI c = -1 from nI_m1 (by omega)), if_pos (show 0 ≤ nI c from nI_pos' (by omega)), o1, zob_s]
      cases o with
      | some i =>
        obtain ⟨i1, i2⟩ := o2 i rfl
        obtain ⟨g1, g2, g3, g4, g5', g6, g7⟩ := hG.1 i i1
        rw [i2] at g1 g2 g3 g4 g5' g6 g7
        obtain ⟨k1, k3⟩ := g5'
        rw [oI_s, if_neg (show ¬ nI i < 0 by (simp (disch := omega) only [nI_1, nI_add, Int32.lt_iff_toInt_lt, Int32.le_iff_toInt_le, ← Int32.toInt_inj, nI_toInt, tI_0, tI_1, tI_2, tI_3, tI_4, tI_m1, tI_m2, tI_m3, tI_m4, tI_64, tI_128, tI_255, tI_256, tI_1000, tI_1024, tI_4096, tI_10000, tI_16384, tI_16386, tI_M]; omega))]
        rcases h3 with e | e
        · rw [if_neg (show ¬ ¬ x3 = 0 by simp [e]), if_pos e]
          obtain ⟨q, q1, q2, q3⟩ := p_anyAt hF hM hc g6
          rw [q1, zob_s, m_rd_n (by omega) (by omega), gK hM.1 q2, g3, q3]
        · have n0 : ¬ x3 = 0 := by rw [e]; decide
          have a0 : ¬ s1 c = 0 := by rw [g3]; (simp (disch := omega) only [nI_1, nI_add, Int32.lt_iff_toInt_lt, Int32.le_iff_toInt_le, ← Int32.toInt_inj, nI_toInt, tI_0, tI_1, tI_2, tI_3, tI_4, tI_m1, tI_m2, tI_m3, tI_m4, tI_64, tI_128, tI_255, tI_256, tI_1000, tI_1024, tI_4096, tI_10000, tI_16384, tI_16386, tI_M]; omega)
          have a4 : ¬ s1 c = 4 := by rw [g3]; (simp (disch := omega) only [nI_1, nI_add, Int32.lt_iff_toInt_lt, Int32.le_iff_toInt_le, ← Int32.toInt_inj, nI_toInt, tI_0, tI_1, tI_2, tI_3, tI_4, tI_m1, tI_m2, tI_m3, tI_m4, tI_64, tI_128, tI_255, tI_256, tI_1000, tI_1024, tI_4096, tI_10000, tI_16384, tI_16386, tI_M]; omega)
          rw [if_pos n0, if_neg n0, if_neg a0, if_neg a4, m_rd_n (by omega) (by omega), g4]
      | none =>
        obtain ⟨b, b1, b2⟩ := p_isTold hTW hM.2.1 hq h10 hD h29 hc o1 hob
        rw [oI_n, if_pos (show (-1 : Int32) < 0 by decide)]
        rcases hG.2.2 c hc (o3 rfl) with ⟨t1, t2, t3⟩ | ⟨t1, t2⟩
        · have hb : b = true := b2.mpr ⟨rfl, t3⟩
          rcases h3 with e | e
          · rw [if_pos (show ¬ x3 = 1 by rw [e]; decide), if_neg (show ¬ nI c < 0 by (simp (disch := omega) only [nI_1, nI_add, Int32.lt_iff_toInt_lt, Int32.le_iff_toInt_le, ← Int32.toInt_inj, nI_toInt, tI_0, tI_1, tI_2, tI_3, tI_4, tI_m1, tI_m2, tI_m3, tI_m4, tI_64, tI_128, tI_255, tI_256, tI_1000, tI_1024, tI_4096, tI_10000, tI_16384, tI_16386, tI_M]; omega)), b1, zob_s, hb, if_neg (show ¬ bI true = 0 by decide), if_pos e, t1]
          · rw [if_neg (show ¬ ¬ x3 = 1 by simp [e]), if_neg (show ¬ x3 = 0 by rw [e]; decide), if_neg (show ¬ s1 c = 0 by rw [t1]; decide), if_pos t1]
        · have hb : b = false := by
            cases b with
            | false => rfl
            | true =>
              obtain ⟨_, i, i1, i2⟩ := b2.mp rfl
              exact absurd i2 (t2 i i1)
          rcases h3 with e | e
          · rw [if_pos (show ¬ x3 = 1 by rw [e]; decide), if_neg (show ¬ nI c < 0 by (simp (disch := omega) only [nI_1, nI_add, Int32.lt_iff_toInt_lt, Int32.le_iff_toInt_le, ← Int32.toInt_inj, nI_toInt, tI_0, tI_1, tI_2, tI_3, tI_4, tI_m1, tI_m2, tI_m3, tI_m4, tI_64, tI_128, tI_255, tI_256, tI_1000, tI_1024, tI_4096, tI_10000, tI_16384, tI_16386, tI_M]; omega)), b1, zob_s, hb, if_pos (show bI false = 0 by rfl), if_pos e, t1]
          · rw [if_neg (show ¬ ¬ x3 = 1 by simp [e]), if_neg (show ¬ x3 = 0 by rw [e]; decide), if_pos t1]
theorem tellPart_no {x : Int32} {a2 : Int32} (h0 : ¬ a2 = 0) (h1 : ¬ a2 = 1) : f_Gap_tellPart S x a2 = -1 := by
  unfold f_Gap_tellPart
  by_cases c : ¬ x = -4
  · rw [if_pos c, zbind_e, if_pos h0, if_pos h1]
  · rw [if_neg c, if_pos h0, if_pos h1]
theorem miss_loop (hF : SF nf fam bit np P nl fl T nr ru sa) (hE : EI T P ne ep el lst al nx nk ue) (hne : ne < 65536) (hEP : EP P fl T nr ru) (hTG : ∀ i j, i < j → j < nr → TG P fl (ru i) (ru j)) (hR : TRw S T nr sa ne ep el lst al nx nk ue) (hM : MC M nf fam bit np P nl fl T nr sa) (hFC : FC S nf fam bit) (h10 : M.2.2 10 = nI D) (hD : D < 4097) (h41 : S.1 41 = rowOf (tQ T) s1) (h42 : S.1 42 = rowOf (tQ T) s2) (hG : GPs M T nf fam s1 s2 D pp) (x : Int64) (a2 : Int32) : ∀ (j i n n' : Nat) (pos : Option (Option Nat)), i + j = 8 → j < n → j < n' → posOK T pos → ∃ R, f_Gap_tell_L16 n S x a2 (pcC pos) (nI i) = some R ∧ (a2 = 0 ∨ a2 = 1 → f_Mod_missing_L31 n' M a2 (pcM pos) (shr x i) = some R) ∧ (¬ a2 = 0 → ¬ a2 = 1 → R = -1) := by
  have hq := hF.2.2.2.2.2.1
  have pc1 : ∀ pos, posOK T pos → (pcC pos = -1 ↔ pos = none) := by
    intro pos hok
    cases pos with
    | none => exact ⟨fun _ => rfl, fun _ => rfl⟩
    | some oc =>
      cases oc with
      | none => exact ⟨fun z => absurd z (by decide), fun z => by cases z⟩
      | some c => exact ⟨fun z => absurd z (nI_m1 (by have := hok c rfl; omega)), fun z => by cases z⟩
  have gone : ∀ n i, f_Gap_tell_L16 (n + 1) S x a2 (-1) i = some (-1) := by
    intro n i
    unfold f_Gap_tell_L16
    by_cases c : 8 ≤ i
    · rw [if_pos c, if_neg (by simp)]
    · rw [if_neg c, if_pos rfl, if_neg (by simp)]
  have goneM : ∀ n x5, f_Mod_missing_L31 (n + 1) M a2 (-1) x5 = some (-1) := by
    intro n x5
    rw [f_Mod_missing_L31, if_pos rfl, if_neg (by simp)]
  intro j
  induction j with
  | zero =>
    intro i n n' pos hi hn hn' hok
    cases n with
    | zero => omega
    | succ n =>
    cases n' with
    | zero => omega
    | succ n' =>
    have ei : i = 8 := by omega
    subst ei
    by_cases hp : pos = none
    · subst hp
      exact ⟨-1, gone n _, fun _ => goneM n' _, fun _ _ => rfl⟩
    · have np1 : ¬ pcC pos = -1 := fun z => hp ((pc1 pos hok).mp z)
      unfold f_Gap_tell_L16
      rw [if_pos (by decide), if_pos np1]
      refine ⟨_, rfl, fun h3 => miss_end hF hM h10 hD h41 h42 hG hp hok a2 h3 _ (by rw [shr_8]; rfl) n', fun h0 h1 => tellPart_no h0 h1⟩
  | succ j ih =>
    intro i n n' pos hi hn hn' hok
    cases n with
    | zero => omega
    | succ n =>
    cases n' with
    | zero => omega
    | succ n' =>
    by_cases hp : pos = none
    · subst hp
      exact ⟨-1, gone n _, fun _ => goneM n' _, fun _ _ => rfl⟩
    · have np1 : ¬ pcC pos = -1 := fun z => hp ((pc1 pos hok).mp z)
      have hi8 : i < 8 := by omega
      have n8 : ¬ (8 : Int32) ≤ nI i := by
        have : ∀ i, i < 8 → ¬ (8 : Int32) ≤ nI i := by decide +kernel
        exact this i hi8
      unfold f_Gap_tell_L16
      rw [if_neg n8, if_neg np1, shr_c x hi8, zbind_e, nI_1]
      by_cases hb : shr x i &&& 255 = 0
      · rw [if_neg (by rw [(byte_0 _).mpr hb]; simp), if_pos np1]
        refine ⟨_, rfl, fun h3 => miss_end hF hM h10 hD h41 h42 hG hp hok a2 h3 _ hb n', fun h0 h1 => tellPart_no h0 h1⟩
      · rw [if_pos (fun z => hb ((byte_0 _).mp z))]
        cases pos with
        | none => exact absurd rfl hp
        | some oc =>
          cases oc with
          | none =>
            have eb : f_Gap_below S (-4) (shr x i &&& 255).toInt32 = some (-1) := by
              unfold f_Gap_below
              rw [if_neg (by simp)]
              by_cases z : (shr x i &&& 255).toInt32 = 1
              · rw [if_pos z]; rfl
              · rw [if_neg z]
            show ∃ R, (zob (f_Gap_below S (-4) (shr x i &&& 255).toInt32) fun v8 => f_Gap_tell_L16 n S x a2 v8 (nI (i + 1))) = some R ∧ _
            rw [eb, zob_s]
            obtain ⟨R, r1, r2, r3⟩ := ih (i + 1) n n' none (by omega) (by omega) (by omega) (by intro c e; cases e)
            refine ⟨R, r1, fun h3 => ?_, r3⟩
            rw [← r2 h3]
            show f_Mod_missing_L31 (n' + 1) M a2 (-2) (shr x i) = f_Mod_missing_L31 n' M a2 (-1) (z_lushr (shr x i) 8)
            rw [f_Mod_missing_L31, if_neg (by decide), if_neg (fun z => hb ((lgc0 _).mp z)), zbind_e, if_neg (show ¬ (0 : Int32) ≤ -2 by decide), if_pos (show (-2 : Int32) < 0 by decide), zbind_e]
          | some c =>
            have hc := hok c rfl
            obtain ⟨pos', p1, p2, p3⟩ := miss_step hF hE hne hEP hTG hR hM hFC h10 hD h41 h42 hG hc a2 (shr x i) hb n'
            show ∃ R, (zob (f_Gap_below S (nI c) (shr x i &&& 255).toInt32) fun v8 => f_Gap_tell_L16 n S x a2 v8 (nI (i + 1))) = some R ∧ _
            rw [p2, zob_s]
            obtain ⟨R, r1, r2, r3⟩ := ih (i + 1) n n' pos' (by omega) (by omega) (by omega) p1
            refine ⟨R, r1, fun h3 => ?_, r3⟩
            rw [← r2 h3]
            exact p3
/-- missing, on both sides -/
theorem W_missing (hF : SF nf fam bit np P nl fl T nr ru sa) (hE : EI T P ne ep el lst al nx nk ue) (hne : ne < 65536) (hEP : EP P fl T nr ru) (hTG : ∀ i j, i < j → j < nr → TG P fl (ru i) (ru j)) (hR : TRw S T nr sa ne ep el lst al nx nk ue) (hM : MC M nf fam bit np P nl fl T nr sa) (hFC : FC S nf fam bit) (hG : GP S M T nf fam) (h7 : M.2.2 7 = 1) (x : Int64) (a2 : Int32) : ∃ R, f_Gap_tell S x a2 = some R ∧ f_Mod_missing M x a2 = some R := by
  unfold f_Gap_tell f_Mod_missing
  rw [h7, if_neg (show ¬ (1 : Int32) = 0 by decide)]
  rcases hG with ⟨g1, g2⟩ | ⟨D, pp, s1, s2, g1, g2, g3, g4, g5', g6⟩
  · rw [g1, g2, if_neg (by simp), if_pos (by decide)]
    exact ⟨-1, rfl, rfl⟩
  · rw [g2, if_pos g1, if_neg (by (simp (disch := omega) only [nI_1, nI_add, Int32.lt_iff_toInt_lt, Int32.le_iff_toInt_le, ← Int32.toInt_inj, nI_toInt, tI_0, tI_1, tI_2, tI_3, tI_4, tI_m1, tI_m2, tI_m3, tI_m4, tI_64, tI_128, tI_255, tI_256, tI_1000, tI_1024, tI_4096, tI_10000, tI_16384, tI_16386, tI_M]; omega))]
    have h0 : posOK T (some (some 0)) := (by intro c e; cases e; exact hF.2.1.1.1)
    obtain ⟨R, r1, r2, r3⟩ := miss_loop hF hE hne hEP hTG hR hM hFC g2 g3 g4 g5' g6 x a2 8 0 zbig zbig (some (some 0)) (by omega) (by unfold zbig; omega) (by unfold zbig; omega) h0
    refine ⟨R, r1, ?_⟩
    by_cases c1 : a2 < 0
    · rw [if_pos c1, r3 (by intro z; rw [z] at c1; exact absurd c1 (by decide)) (by intro z; rw [z] at c1; exact absurd c1 (by decide))]
    · rw [if_neg c1]
      obtain ⟨t, t1, t2⟩ := nI_of c1
      by_cases c2 : a2 ≤ 1
      · rw [if_pos c2]
        refine r2 ?_
        subst t2
        have : t ≤ 1 := by (simp (disch := omega) only [nI_1, nI_add, Int32.lt_iff_toInt_lt, Int32.le_iff_toInt_le, ← Int32.toInt_inj, nI_toInt, tI_0, tI_1, tI_2, tI_3, tI_4, tI_m1, tI_m2, tI_m3, tI_m4, tI_64, tI_128, tI_255, tI_256, tI_1000, tI_1024, tI_4096, tI_10000, tI_16384, tI_16386, tI_M] at *; omega)
        have : t = 0 ∨ t = 1 := by omega
        rcases this with z | z
        · rw [z]; exact Or.inl rfl
        · rw [z]; exact Or.inr rfl
      · rw [if_neg c2, r3 (by intro z; rw [z] at c2; exact absurd (by decide) c2) (by intro z; rw [z] at c2; exact absurd (by decide) c2)]
end PM2
