-- PURE LAYER: goTogether, matches, first, fits on both sides
section PHO
variable {nf : Nat} {fam : Nat → Nat} {bit : Nat → Int64} {np : Nat} {P : Nat → Pt} {nl : Nat} {fl : Nat → Nat × Nat} {M : zM} {S : zS}
theorem p_mloop {F : Nat → zM → Int32 → Option (zM × Int32)} {lok : Nat → Nat → Prop} {kid : Nat → Nat → List (Nat × Nat)} (F1 : ∀ n M, M.2.2 11 ≤ 0 → F (n + 1) M 1 = some (M, 1)) (F0 : ∀ n M, F (n + 1) M 0 = some (M, 0))
    (Fs : ∀ M a b st, a < np → b < np → PM M np P nl fl → ST M (st ++ [(a, b)]) → st.length < 20000 → ∃ M' v, (∀ n, F (n + 1) M 1 = F n M' v) ∧ mLike [31, 32] [] [11] M M' ∧ ((lok a b ∧ v = 1 ∧ ST M' (st ++ kid a b)) ∨ (¬ lok a b ∧ v = 0)))
    (hz : ∀ a, a < np → 1 ≤ pZ (P a)) (hin : ∀ a b q, a < np → b < np → q ∈ kid a b → q.1 < np ∧ q.2 < np) (hk : ∀ a b q, a < np → q ∈ kid a b → q.1 < a) (hp : ∀ a b, a < np → pot P (kid a b) + 1 ≤ pZ (P a)) : ∀ n st M, pot P st < n → (∀ q, q ∈ st → q.1 < np ∧ q.2 < np) → ST M st → PM M np P nl fl → pot P st ≤ 10000 → ∃ M' v, F n M 1 = some (M', v) ∧ mLike [31, 32] [] [11] M M' ∧ ((v = 1 ∧ ∀ q, q ∈ st → Hh lok kid q.1 q.2) ∨ (v = 0 ∧ ¬ ∀ q, q ∈ st → Hh lok kid q.1 q.2)) := by
  intro n
  induction n with
  | zero => intro st M h; omega
  | succ n ih =>
    intro st M hlt hst' hr h hw
    have hpl := pot_len (P := P) st (fun q hq => hz q.1 (hst' q hq).1)
    rcases List.eq_nil_or_concat st with e | ⟨st', ⟨a, b⟩, e⟩
    · subst e
      exact ⟨M, 1, F1 n M (by rw [hr.1]; decide), mLike_rf, Or.inl ⟨rfl, fun q hq => by cases hq⟩⟩
    · subst e
      rw [List.concat_eq_append] at *
      have hl1 : (st' ++ [(a, b)]).length = st'.length + 1 := by simp
      have hpe : pot P (st' ++ [(a, b)]) = pot P st' + pZ (P a) := by rw [pot_app]; simp [pot]
      obtain ⟨ha, hb⟩ := hst' (a, b) (by simp)
      obtain ⟨M3, v, e3, l3, r3⟩ := Fs M a b st' ha hb h hr (by omega)
      rw [e3]
      have hpk := hp a b ha
      rcases r3 with ⟨y1, y2, y3⟩ | ⟨y1, y2⟩
      · subst y2
        obtain ⟨M4, v4, e4, l4, r4⟩ := ih (st' ++ kid a b) M3 (by rw [pot_app]; omega) (fun q hq => by
          rcases List.mem_append.mp hq with hq | hq
          · exact hst' q (List.mem_append_left _ hq)
          · exact hin a b q ha hb hq) y3 (PM_like h l3 (by simp) (by simp)) (by rw [pot_app]; omega)
        refine ⟨M4, v4, e4, mLike_tr l3 l4, ?_⟩
        have hiff : (∀ q, q ∈ st' ++ kid a b → Hh lok kid q.1 q.2) ↔ ∀ q, q ∈ st' ++ [(a, b)] → Hh lok kid q.1 q.2 := by
          constructor
          · intro H q hq
            rcases List.mem_append.mp hq with hq | hq
            · exact H q (List.mem_append_left _ hq)
            · have : q = (a, b) := by simpa using hq
              subst this
              exact (Hh_iff hk ha).mpr ⟨y1, fun q hq => H q (List.mem_append_right _ hq)⟩
          · intro H q hq
            rcases List.mem_append.mp hq with hq | hq
            · exact H q (List.mem_append_left _ hq)
            · exact ((Hh_iff hk ha).mp (H (a, b) (by simp))).2 q hq
        rw [← hiff]
        exact r4
      · subst y2
        have hz1 := hz a ha
        cases n with
        | zero => omega
        | succ n =>
          exact ⟨M3, 0, F0 n M3, l3, Or.inr ⟨rfl, fun H => y1 ((Hh_iff hk ha).mp (H (a, b) (by simp))).1⟩⟩
theorem ST_0 (M : zM) : ST (m_sc M 11 0) [] := ⟨m_sc_at, fun i hi => by simp at hi⟩
theorem p_mgo (hW : PWF nf fam bit np P nl fl) {a b : Nat} (ha : a < np) (hb : b < np) (h : PM M np P nl fl) : ∃ M' v, f_Mod_goTogether M (nI a) (nI b) = some (M', v) ∧ mLike [31, 32] [] [11] M M' ∧ ((v = 1 ∧ TG P fl a b) ∨ (v = 0 ∧ ¬ TG P fl a b)) := by
  obtain ⟨hn, hl, -, -, hw⟩ := hW
  have l0 : mLike [31, 32] [] [11] M (m_sc M 11 0) := mLike_mono mLike_sc (by simp) (by simp) (by simp)
  obtain ⟨M1, e1, l1, s1⟩ := p_pair (M := m_sc M 11 0) a b (ST_0 M) (by simp)
  have l01 := mLike_tr l0 l1
  have hzz := pwZ (hw a ha)
  have hpe : pot P [(a, b)] = pZ (P a) := by simp [pot]
  obtain ⟨M2, v, e2, l2, r2⟩ := p_mloop (F := f_Mod_goTogether_L13) (lok := lokG P) (kid := kidG P fl) (fun n M c => by rw [f_Mod_goTogether_L13, if_pos c, zb_1]) (fun n M => by
      rw [f_Mod_goTogether_L13]
      by_cases c : M.2.2 11 ≤ 0
      · rw [if_pos c, zb_0]
      · rw [if_neg c, if_pos rfl, zb_0]) (fun M a b st ha hb h hst hlen => p_gt_step hn hl ha hb (hw a ha) (hw b hb) h hst hlen) (fun a ha => (pwZ (hw a ha)).1) (fun a b q ha hb hq => by have := kidG_in (hw a ha) (hw b hb) hq; omega) (fun a b q ha hq => kidG_1 (hw a ha) hq) (fun a b ha => kidG_pot (hw a ha)) zbig [(a, b)] M1 (by rw [hpe]; unfold zbig; omega) (fun q hq => by
    have e : q = (a, b) := by simpa using hq
    subst e
    exact ⟨ha, hb⟩) (by simpa using s1) (PM_like h l01 (by simp) (by simp)) (by omega)
  refine ⟨M2, v, ?_, mLike_tr l01 l2, ?_⟩
  · unfold f_Mod_goTogether
    rw [zbind_e, e1, zob_s, e2]
  · have hs : (∀ q, q ∈ [(a, b)] → Hh (lokG P) (kidG P fl) q.1 q.2) ↔ TG P fl a b := by simp [TG]
    rw [hs] at r2
    exact r2
theorem p_mma (hW : PWF nf fam bit np P nl fl) {a b : Nat} (ha : a < np) (hb : b < np) (h : PM M np P nl fl) : ∃ M' v, f_Mod_matches M (nI a) (nI b) = some (M', v) ∧ mLike [31, 32] [] [11] M M' ∧ ((v = 1 ∧ MT P fl a b) ∨ (v = 0 ∧ ¬ MT P fl a b)) := by
  obtain ⟨hn, hl, -, -, hw⟩ := hW
  have l0 : mLike [31, 32] [] [11] M (m_sc M 11 0) := mLike_mono mLike_sc (by simp) (by simp) (by simp)
  obtain ⟨M1, e1, l1, s1⟩ := p_pair (M := m_sc M 11 0) a b (ST_0 M) (by simp)
  have l01 := mLike_tr l0 l1
  have hzz := pwZ (hw a ha)
  have hpe : pot P [(a, b)] = pZ (P a) := by simp [pot]
  obtain ⟨M2, v, e2, l2, r2⟩ := p_mloop (F := f_Mod_matches_L13) (lok := lokM P) (kid := kidM P fl) (fun n M c => by rw [f_Mod_matches_L13, if_pos c, zb_1]) (fun n M => by
      rw [f_Mod_matches_L13]
      by_cases c : M.2.2 11 ≤ 0
      · rw [if_pos c, zb_0]
      · rw [if_neg c, if_pos rfl, zb_0]) (fun M a b st ha hb h hst hlen => p_mt_step hn hl ha hb (hw a ha) (hw b hb) h hst hlen) (fun a ha => (pwZ (hw a ha)).1) (fun a b q ha hb hq => by have := kidM_in (hw a ha) (hw b hb) hq; omega) (fun a b q ha hq => kidM_1 (hw a ha) hq) (fun a b ha => kidM_pot (hw a ha)) zbig [(a, b)] M1 (by rw [hpe]; unfold zbig; omega) (fun q hq => by
    have e : q = (a, b) := by simpa using hq
    subst e
    exact ⟨ha, hb⟩) (by simpa using s1) (PM_like h l01 (by simp) (by simp)) (by omega)
  refine ⟨M2, v, ?_, mLike_tr l01 l2, ?_⟩
  · unfold f_Mod_matches
    rw [zbind_e, e1, zob_s, e2]
  · have hs : (∀ q, q ∈ [(a, b)] → Hh (lokM P) (kidM P fl) q.1 q.2) ↔ MT P fl a b := by simp [MT]
    rw [hs] at r2
    exact r2
-- the rules
def RC (S : zS) (nr : Nat) (ru : Nat → Nat) : Prop := S.1 12 = rowOf nr (fun i => nI (ru i))
def RM (M : zM) (nr : Nat) (ru : Nat → Nat) : Prop := M.2.2 4 = nI nr ∧ ∀ i, i < nr → M.1 13 i = nI (ru i)
theorem RC_like {ks : List Nat} {S' : zS} {nr : Nat} {ru : Nat → Nat} (h : RC S nr ru) (hk : zLike ks S S') (hn : 12 ∉ ks) : RC S' nr ru := by
  unfold RC at *
  rw [hk.1 12 hn]; exact h
theorem RM_like {ks ls ns : List Nat} {M' : zM} {nr : Nat} {ru : Nat → Nat} (h : RM M nr ru) (hk : mLike ks ls ns M M') (h1 : 13 ∉ ks) (h2 : 4 ∉ ns) : RM M' nr ru := by
  unfold RM at *
  rw [hk.1 13 h1, hk.2.2 4 h2]; exact h
theorem p_goesWith_L (hW : PWF nf fam bit np P nl fl) {nr : Nat} {ru : Nat → Nat} {a : Nat} (ha : a < np) (hru : ∀ r, r < nr → ru r < np) (hnr : nr ≤ 1024) : ∀ n i S, PC S np P nl fl → okS S → RC S nr ru → i ≤ nr → nr - i < n → ∃ S' v, f_Pai_goWith_L5 n S (nI a) 1 (nI i) = some (S', v) ∧ zLike [11] S S' ∧ ((v = 1 ∧ ∀ r, i ≤ r → r < nr → TG P fl (ru r) a) ∨ (v = 0 ∧ ¬ ∀ r, i ≤ r → r < nr → TG P fl (ru r) a)) := by
  intro n
  induction n with
  | zero => intro i S _ _ _ _ h; omega
  | succ n ih =>
    intro i S h ho hR hi hlt
    unfold f_Pai_goWith_L5
    have hsz : r_size S 12 = nI nr := by unfold r_size; rw [hR, rowOf_len]
    rw [if_neg (by decide), hsz]
    by_cases c : i = nr
    · rw [if_pos (by (simp (disch := omega) only [nI_1, nI_add, Int32.lt_iff_toInt_lt, Int32.le_iff_toInt_le, ← Int32.toInt_inj, nI_toInt, tI_0, tI_1, tI_2, tI_3, tI_4, tI_m1, tI_m2, tI_m3, tI_m4, tI_64, tI_128, tI_255, tI_256, tI_1000, tI_1024, tI_4096, tI_10000, tI_16384, tI_16386, tI_M]; omega)), zb_1]
      exact ⟨S, 1, rfl, zLike_rf ho, Or.inl ⟨rfl, fun r h1 h2 => by omega⟩⟩
    · have hi' : i < nr := by omega
      rw [if_neg (by (simp (disch := omega) only [nI_1, nI_add, Int32.lt_iff_toInt_lt, Int32.le_iff_toInt_le, ← Int32.toInt_inj, nI_toInt, tI_0, tI_1, tI_2, tI_3, tI_4, tI_m1, tI_m2, tI_m3, tI_m4, tI_64, tI_128, tI_255, tI_256, tI_1000, tI_1024, tI_4096, tI_10000, tI_16384, tI_16386, tI_M]; omega)), r_at_rd, hR, rowOf_rd hi' (by omega)]
      obtain ⟨S1, v, e1, l1, r1⟩ := p_goTogether (S := S) hW (hru i hi') ha h ho
      rw [e1, zob2_s]
      rcases r1 with ⟨y1, y2⟩ | ⟨y1, y2⟩
      · subst y1
        rw [nI_1]
        obtain ⟨S2, v2, e2, l2, r2⟩ := ih (i + 1) S1 (PC_like h l1 (by simp)) l1.2.2 (RC_like hR l1 (by simp)) (by omega) (by omega)
        refine ⟨S2, v2, e2, zLike_tr l1 l2, ?_⟩
        have hiff : (∀ r, i + 1 ≤ r → r < nr → TG P fl (ru r) a) ↔ ∀ r, i ≤ r → r < nr → TG P fl (ru r) a := by
          constructor
          · intro H r h1 h2
            by_cases q : r = i
            · subst q; exact y2
            · exact H r (by omega) h2
          · intro H r h1 h2; exact H r (by omega) h2
        rw [← hiff]; exact r2
      · subst y1
        cases n with
        | zero => omega
        | succ n =>
          unfold f_Pai_goWith_L5
          rw [if_pos rfl, zb_0]
          exact ⟨S1, 0, rfl, l1, Or.inr ⟨rfl, fun H => y2 (H i (Nat.le_refl _) hi')⟩⟩
theorem p_goesWith (hW : PWF nf fam bit np P nl fl) {nr : Nat} {ru : Nat → Nat} {a : Nat} (ha : a < np) (hru : ∀ r, r < nr → ru r < np) (hnr : nr ≤ 1024) (h : PC S np P nl fl) (ho : okS S) (hR : RC S nr ru) : ∃ S' v, f_Pai_goWith S (nI a) = some (S', v) ∧ zLike [11] S S' ∧ ((v = 1 ∧ ∀ r, r < nr → TG P fl (ru r) a) ∨ (v = 0 ∧ ¬ ∀ r, r < nr → TG P fl (ru r) a)) := by
  obtain ⟨S', v, e, l, r⟩ := p_goesWith_L hW ha hru hnr zbig 0 S h ho hR (by omega) (by unfold zbig; omega)
  refine ⟨S', v, e, l, ?_⟩
  have hs : (∀ r, 0 ≤ r → r < nr → TG P fl (ru r) a) ↔ ∀ r, r < nr → TG P fl (ru r) a := by simp
  rw [hs] at r
  exact r
theorem p_mfits_L (hW : PWF nf fam bit np P nl fl) {nr : Nat} {ru : Nat → Nat} {a : Nat} (ha : a < np) (hru : ∀ r, r < nr → ru r < np) (hnr : nr ≤ 1024) : ∀ n i M, PM M np P nl fl → RM M nr ru → i ≤ nr → nr - i < n → ∃ M' v, f_Mod_fits_L8 n M (nI a) 1 (nI i) = some (M', v) ∧ mLike [31, 32] [] [11] M M' ∧ ((v = 1 ∧ ∀ r, i ≤ r → r < nr → TG P fl (ru r) a) ∨ (v = 0 ∧ ¬ ∀ r, i ≤ r → r < nr → TG P fl (ru r) a)) := by
  intro n
  induction n with
  | zero => intro i M _ _ _ h; omega
  | succ n ih =>
    intro i M h hR hi hlt
    unfold f_Mod_fits_L8
    rw [hR.1]
    by_cases c : i = nr
    · rw [if_pos (by (simp (disch := omega) only [nI_1, nI_add, Int32.lt_iff_toInt_lt, Int32.le_iff_toInt_le, ← Int32.toInt_inj, nI_toInt, tI_0, tI_1, tI_2, tI_3, tI_4, tI_m1, tI_m2, tI_m3, tI_m4, tI_64, tI_128, tI_255, tI_256, tI_1000, tI_1024, tI_4096, tI_10000, tI_16384, tI_16386, tI_M]; omega)), zb_1]
      exact ⟨M, 1, rfl, mLike_rf, Or.inl ⟨rfl, fun r h1 h2 => by omega⟩⟩
    · have hi' : i < nr := by omega
      rw [if_neg (by (simp (disch := omega) only [nI_1, nI_add, Int32.lt_iff_toInt_lt, Int32.le_iff_toInt_le, ← Int32.toInt_inj, nI_toInt, tI_0, tI_1, tI_2, tI_3, tI_4, tI_m1, tI_m2, tI_m3, tI_m4, tI_64, tI_128, tI_255, tI_256, tI_1000, tI_1024, tI_4096, tI_10000, tI_16384, tI_16386, tI_M]; omega)), if_neg (by decide), m_rd_n (by omega) (by omega), hR.2 i hi']
      obtain ⟨M1, v, e1, l1, r1⟩ := p_mgo (M := M) hW (hru i hi') ha h
      rw [e1, zob2_s]
      rcases r1 with ⟨y1, y2⟩ | ⟨y1, y2⟩
      · subst y1
        rw [nI_1]
        obtain ⟨M2, v2, e2, l2, r2⟩ := ih (i + 1) M1 (PM_like h l1 (by simp) (by simp)) (RM_like hR l1 (by simp) (by simp)) (by omega) (by omega)
        refine ⟨M2, v2, e2, mLike_tr l1 l2, ?_⟩
        have hiff : (∀ r, i + 1 ≤ r → r < nr → TG P fl (ru r) a) ↔ ∀ r, i ≤ r → r < nr → TG P fl (ru r) a := by
          constructor
          · intro H r h1 h2
            by_cases q : r = i
            · subst q; exact y2
            · exact H r (by omega) h2
          · intro H r h1 h2; exact H r (by omega) h2
        rw [← hiff]; exact r2
      · subst y1
        cases n with
        | zero => omega
        | succ n =>
          unfold f_Mod_fits_L8
          refine ⟨M1, 0, ?_, l1, Or.inr ⟨rfl, fun H => y2 (H i (Nat.le_refl _) hi')⟩⟩
          by_cases d : M1.2.2 4 ≤ nI i + 1
          · rw [if_pos d, zb_0]
          · rw [if_neg d, if_pos rfl, zb_0]
/-- the first rule that matches -/
def isFst (P : Nat → Pt) (fl : Nat → Nat × Nat) (nr : Nat) (ru : Nat → Nat) (a i : Nat) : Option Nat → Prop
  | some r => i ≤ r ∧ r < nr ∧ MT P fl (ru r) a ∧ ∀ q, i ≤ q → q < r → ¬ MT P fl (ru q) a
  | none => ∀ q, i ≤ q → q < nr → ¬ MT P fl (ru q) a
theorem isFst_one {nr : Nat} {ru : Nat → Nat} {a i : Nat} {o o' : Option Nat} (h : isFst P fl nr ru a i o) (h' : isFst P fl nr ru a i o') : o = o' := by
  cases o with
  | none => cases o' with
    | none => rfl
    | some r => exact absurd h'.2.2.1 (h r h'.1 h'.2.1)
  | some r => cases o' with
    | none => exact absurd h.2.2.1 (h' r h.1 h.2.1)
    | some q =>
      rcases Nat.lt_trichotomy r q with w | w | w
      · exact absurd h.2.2.1 (h'.2.2.2 r h.1 w)
      · rw [w]
      · exact absurd h'.2.2.1 (h.2.2.2 q h'.1 w)
theorem p_first_L (hW : PWF nf fam bit np P nl fl) {nr : Nat} {ru : Nat → Nat} {a : Nat} (ha : a < np) (hv : pW (P a) = true) (hru : ∀ r, r < nr → ru r < np) (hnr : nr ≤ 1024) : ∀ n i S, PC S np P nl fl → okS S → RC S nr ru → i ≤ nr → nr - i < n → ∃ S' o, f_Tre_first_L15 n S (nI a) (nI i) = some (S', oI o) ∧ zLike [11] S S' ∧ isFst P fl nr ru a i o := by
  intro n
  induction n with
  | zero => intro i S _ _ _ _ h; omega
  | succ n ih =>
    intro i S h ho hR hi hlt
    unfold f_Tre_first_L15
    have hsz : r_size S 12 = nI nr := by unfold r_size; rw [hR, rowOf_len]
    rw [hsz]
    by_cases c : i = nr
    · rw [if_pos (by (simp (disch := omega) only [nI_1, nI_add, Int32.lt_iff_toInt_lt, Int32.le_iff_toInt_le, ← Int32.toInt_inj, nI_toInt, tI_0, tI_1, tI_2, tI_3, tI_4, tI_m1, tI_m2, tI_m3, tI_m4, tI_64, tI_128, tI_255, tI_256, tI_1000, tI_1024, tI_4096, tI_10000, tI_16384, tI_16386, tI_M]; omega))]
      exact ⟨S, none, rfl, zLike_rf ho, fun q h1 h2 => by omega⟩
    · have hi' : i < nr := by omega
      rw [if_neg (by (simp (disch := omega) only [nI_1, nI_add, Int32.lt_iff_toInt_lt, Int32.le_iff_toInt_le, ← Int32.toInt_inj, nI_toInt, tI_0, tI_1, tI_2, tI_3, tI_4, tI_m1, tI_m2, tI_m3, tI_m4, tI_64, tI_128, tI_255, tI_256, tI_1000, tI_1024, tI_4096, tI_10000, tI_16384, tI_16386, tI_M]; omega)), r_at_rd, hR, rowOf_rd hi' (by omega)]
      obtain ⟨S1, v, e1, l1, r1⟩ := p_match (S := S) hW (hru i hi') ha hv h ho
      rw [e1, zob2_s]
      rcases r1 with ⟨y1, y2⟩ | ⟨y1, y2⟩
      · subst y1
        rw [if_neg (by decide)]
        exact ⟨S1, some i, rfl, l1, Nat.le_refl _, hi', y2, fun q h1 h2 => by omega⟩
      · subst y1
        rw [if_pos rfl, nI_1]
        obtain ⟨S2, o, e2, l2, r2⟩ := ih (i + 1) S1 (PC_like h l1 (by simp)) l1.2.2 (RC_like hR l1 (by simp)) (by omega) (by omega)
        refine ⟨S2, o, e2, zLike_tr l1 l2, ?_⟩
        cases o with
        | none =>
          intro q h1 h2
          by_cases w : q = i
          · subst w; exact y2
          · exact r2 q (by omega) h2
        | some r =>
          refine ⟨by have := r2.1; omega, r2.2.1, r2.2.2.1, fun q h1 h2 => ?_⟩
          by_cases w : q = i
          · subst w; exact y2
          · exact r2.2.2.2 q (by omega) h2
theorem p_mfirst_L (hW : PWF nf fam bit np P nl fl) {nr : Nat} {ru : Nat → Nat} {a : Nat} (ha : a < np) (hru : ∀ r, r < nr → ru r < np) (hnr : nr ≤ 1024) : ∀ n i M, PM M np P nl fl → RM M nr ru → i ≤ nr → nr - i < n → ∃ M' o, f_Mod_first_L12 n M (nI a) (nI i) = some (M', oI o) ∧ mLike [31, 32] [] [11] M M' ∧ isFst P fl nr ru a i o := by
  intro n
  induction n with
  | zero => intro i M _ _ _ h; omega
  | succ n ih =>
    intro i M h hR hi hlt
    unfold f_Mod_first_L12
    rw [hR.1]
    by_cases c : i = nr
    · rw [if_pos (by (simp (disch := omega) only [nI_1, nI_add, Int32.lt_iff_toInt_lt, Int32.le_iff_toInt_le, ← Int32.toInt_inj, nI_toInt, tI_0, tI_1, tI_2, tI_3, tI_4, tI_m1, tI_m2, tI_m3, tI_m4, tI_64, tI_128, tI_255, tI_256, tI_1000, tI_1024, tI_4096, tI_10000, tI_16384, tI_16386, tI_M]; omega))]
      exact ⟨M, none, rfl, mLike_rf, fun q h1 h2 => by omega⟩
    · have hi' : i < nr := by omega
      rw [if_neg (by (simp (disch := omega) only [nI_1, nI_add, Int32.lt_iff_toInt_lt, Int32.le_iff_toInt_le, ← Int32.toInt_inj, nI_toInt, tI_0, tI_1, tI_2, tI_3, tI_4, tI_m1, tI_m2, tI_m3, tI_m4, tI_64, tI_128, tI_255, tI_256, tI_1000, tI_1024, tI_4096, tI_10000, tI_16384, tI_16386, tI_M]; omega)), m_rd_n (by omega) (by omega), hR.2 i hi']
      obtain ⟨M1, v, e1, l1, r1⟩ := p_mma (M := M) hW (hru i hi') ha h
      rw [e1, zob2_s]
      rcases r1 with ⟨y1, y2⟩ | ⟨y1, y2⟩
      · subst y1
        rw [if_neg (by decide)]
        exact ⟨M1, some i, rfl, l1, Nat.le_refl _, hi', y2, fun q h1 h2 => by omega⟩
      · subst y1
        rw [if_pos rfl, nI_1]
        obtain ⟨M2, o, e2, l2, r2⟩ := ih (i + 1) M1 (PM_like h l1 (by simp) (by simp)) (RM_like hR l1 (by simp) (by simp)) (by omega) (by omega)
        refine ⟨M2, o, e2, mLike_tr l1 l2, ?_⟩
        cases o with
        | none =>
          intro q h1 h2
          by_cases w : q = i
          · subst w; exact y2
          · exact r2 q (by omega) h2
        | some r =>
          refine ⟨by have := r2.1; omega, r2.2.1, r2.2.2.1, fun q h1 h2 => ?_⟩
          by_cases w : q = i
          · subst w; exact y2
          · exact r2.2.2.2 q (by omega) h2
end PHO
