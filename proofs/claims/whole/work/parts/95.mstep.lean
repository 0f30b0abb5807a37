-- PURE LAYER: the reference's end, enter, goOn
def idx : Option Nat → Nat
  | none => 0
  | some r => r + 1
section PMS
variable {M : zM} {T : Tr} {nr : Nat} {sa : Nat → Nat} {nf : Nat} {fam : Nat → Nat} {bit : Nat → Int64} {np : Nat} {P : Nat → Pt} {nl : Nat} {fl : Nat → Nat × Nat} {ru : Nat → Nat}
theorem oI_idx (R : Option Nat) : oI R + 1 = nI (idx R) := by
  cases R with
  | none => rfl
  | some r => exact nI_1 r
theorem i64_32 (x : Int32) : x.toInt64.toInt32 = x := by
  apply Int32.toInt_inj.mp
  rw [Int64.toInt_toInt32, Int32.toInt_toInt64]
  have := tI_lt x
  rw [Int.bmod_eq_of_le (by omega) (by omega)]
/-- the miss is written down -/
theorem p_end_L (hF : SF nf fam bit np P nl fl T nr ru sa) {D : Nat} (hD : D < 4097) {po : Nat → Nat → Bool} {pl : Nat → Nat} : ∀ n i M, MC M nf fam bit np P nl fl T nr sa → (∀ i, i < D → PB M i nr (po i) ∧ M.1 24 i = nI (pl i) ∧ pl i < tQ T) → i ≤ D → D - i < n → ∃ M', f_Mod_end_L50 n M (nI D) (nI i) = some M' ∧ mLike [29, 30] [] [] M M' ∧ (∀ j, j < i → M'.1 29 j = M.1 29 j ∧ M'.1 30 j = M.1 30 j) ∧ ∀ j, i ≤ j → j < D → M'.1 29 j = nI (pl j) ∧ (M.1 26 j = 0 → M'.1 30 j = (M.2.1 25 j).toInt32) ∧ (M.1 26 j ≠ 0 → ∃ m, M'.1 30 j = nI m ∧ isLo (nuR T P (po j) (pl j) nr) m) := by
  intro n
  induction n with
  | zero => intro i M _ _ _ h; omega
  | succ n ih =>
    intro i M hM hi24 hi hlt
    unfold f_Mod_end_L50
    by_cases c : i = D
    · rw [if_pos (by (simp (disch := omega) only [nI_1, nI_add, Int32.lt_iff_toInt_lt, Int32.le_iff_toInt_le, ← Int32.toInt_inj, nI_toInt, tI_0, tI_1, tI_2, tI_3, tI_4, tI_m1, tI_m2, tI_m3, tI_m4, tI_64, tI_128, tI_255, tI_256, tI_1000, tI_1024, tI_4096, tI_10000, tI_16384, tI_16386, tI_M]; omega))]
      exact ⟨M, rfl, mLike_rf, fun _ _ => ⟨rfl, rfl⟩, fun j h1 h2 => by omega⟩
    · obtain ⟨b1, b2, b3⟩ := hi24 i (by omega)
      have hq := hF.2.2.2.2.2.1
      rw [if_neg (by (simp (disch := omega) only [nI_1, nI_add, Int32.lt_iff_toInt_lt, Int32.le_iff_toInt_le, ← Int32.toInt_inj, nI_toInt, tI_0, tI_1, tI_2, tI_3, tI_4, tI_m1, tI_m2, tI_m3, tI_m4, tI_64, tI_128, tI_255, tI_256, tI_1000, tI_1024, tI_4096, tI_10000, tI_16384, tI_16386, tI_M]; omega)), m_rd_n (by omega) (by omega), b2, m_wr_n (by omega) (by omega), nI_clamp (by omega), m_rd_n (by omega) (by omega), m_set_ne (show (26 : Nat) ≠ 29 by decide), nI_1]
      have go : ∀ y, (M.1 26 i = 0 → y = (M.2.1 25 i).toInt32) → (M.1 26 i ≠ 0 → ∃ m, y = nI m ∧ isLo (nuR T P (po i) (pl i) nr) m) → ∃ M', f_Mod_end_L50 n (m_set (m_set M 29 i (nI (pl i))) 30 i y) (nI D) (nI (i + 1)) = some M' ∧ mLike [29, 30] [] [] M M' ∧ (∀ j, j < i → M'.1 29 j = M.1 29 j ∧ M'.1 30 j = M.1 30 j) ∧ ∀ j, i ≤ j → j < D → M'.1 29 j = nI (pl j) ∧ (M.1 26 j = 0 → M'.1 30 j = (M.2.1 25 j).toInt32) ∧ (M.1 26 j ≠ 0 → ∃ m, M'.1 30 j = nI m ∧ isLo (nuR T P (po j) (pl j) nr) m) := by
        intro y y1 y2
        have l1 : mLike [29, 30] [] [] M (m_set (m_set M 29 i (nI (pl i))) 30 i y) := mLike_tr (M1 := m_set M 29 i (nI (pl i))) (mLike_mono mLike_set (by simp) (by simp) (by simp)) (mLike_mono mLike_set (by simp) (by simp) (by simp))
        obtain ⟨M', e1, e2, e3, e4⟩ := ih (i + 1) (m_set (m_set M 29 i (nI (pl i))) 30 i y) (MC_like hM l1 (by simp) (by simp) (by simp)) (fun j hj => by
          obtain ⟨c1, c2, c3⟩ := hi24 j hj
          exact ⟨PB_like c1 l1 (by simp), by rw [l1.1 24 (by decide)]; exact c2, c3⟩) (by omega) (by omega)
        have at29 : ∀ j, (m_set (m_set M 29 i (nI (pl i))) 30 i y).1 29 j = upd (M.1 29) i (nI (pl i)) j := fun j => by rw [m_set_ne (show (29 : Nat) ≠ 30 by decide), m_set_at]
        have at30 : ∀ j, (m_set (m_set M 29 i (nI (pl i))) 30 i y).1 30 j = upd (M.1 30) i y j := fun j => by rw [m_set_at, m_set_ne (show (30 : Nat) ≠ 29 by decide)]
        refine ⟨M', e1, mLike_tr l1 e2, fun j hj => ?_, fun j h1 h2 => ?_⟩
        · obtain ⟨c1, c2⟩ := e3 j (by omega)
          rw [c1, c2, at29, at30, upd_n (by omega), upd_n (by omega)]; exact ⟨rfl, rfl⟩
        · by_cases w : j = i
          · subst w
            obtain ⟨c1, c2⟩ := e3 j (by omega)
            rw [c1, c2, at29, at30, upd_s, upd_s]
            exact ⟨rfl, y1, y2⟩
          · have := e4 j (by omega) h2
            rw [l1.1 26 (by decide), l1.2.1 25 (by simp)] at this
            exact this
      by_cases z : M.1 26 i = 0
      · rw [if_pos z, m_rdl_n (by omega) (by omega), m_wr_n (by omega) (by omega)]
        exact go _ (fun _ => rfl) (fun h => absurd z h)
      · rw [if_neg z]
        have l0 : mLike [29] [] [] M (m_set M 29 i (nI (pl i))) := mLike_set
        obtain ⟨m, f1, f2, f3⟩ := p_leastOther hF (MC_like hM l0 (by simp) (by simp) (by simp)) (show i < 4097 by omega) (PB_like b1 l0 (by simp)) b3 (by rw [l0.1 24 (by decide)]; exact b2)
        rw [f1, zob_s, m_wr_n (by omega) (by omega)]
        exact go _ (fun h => absurd h z) (fun _ => ⟨m, rfl, f3⟩)
theorem p_end (hF : SF nf fam bit np P nl fl T nr ru sa) (hM : MC M nf fam bit np P nl fl T nr sa) {D : Nat} (hD : D < 4097) {po : Nat → Nat → Bool} {pl : Nat → Nat} (hi24 : ∀ i, i < D → PB M i nr (po i) ∧ M.1 24 i = nI (pl i) ∧ pl i < tQ T) {R : Option Nat} (hR : ∀ r, R = some r → r < nr) {mx : Nat} (hmx : M.2.2 9 = nI mx) (hmx2 : mx < 5000) {ms : Option Nat} (hms : M.2.2 10 = oI ms) (hms2 : ∀ x, ms = some x → x < 5000) :
    ∃ M', f_Mod_end M (oI R) (nI D) = some M' ∧ mLike [28, 29, 30] [] [9, 10] M M' ∧ M'.1 28 (idx R) = M.1 28 (idx R) + 1 ∧ (∀ j, j ≠ idx R → M'.1 28 j = M.1 28 j) ∧ M'.2.2 9 = nI (max mx D) ∧ ((R ≠ none ∨ ms ≠ none) → M'.2.2 10 = M.2.2 10 ∧ M'.1 29 = M.1 29 ∧ M'.1 30 = M.1 30) ∧ (R = none → ms = none → M'.2.2 10 = nI D ∧ ∀ j, j < D → M'.1 29 j = nI (pl j) ∧ (M.1 26 j = 0 → M'.1 30 j = (M.2.1 25 j).toInt32) ∧ (M.1 26 j ≠ 0 → ∃ m, M'.1 30 j = nI m ∧ isLo (nuR T P (po j) (pl j) nr) m)) := by
  have hn := hF.2.2.2.2.2.2
  have hidx : idx R < 1025 := by
    cases R with
    | none => show 0 < 1025; omega
    | some r => have := hR r rfl; show r + 1 < 1025; omega
  unfold f_Mod_end
  rw [oI_idx, m_rd_n hidx (by omega), m_wr_n hidx (by omega), nI_clamp (by omega)]
  have e9 : ∀ x, (m_set M 28 (idx R) x).2.2 9 = nI mx := fun x => hmx
  rw [e9]
  have hmax : ∀ k : zM → Option zM, (if nI D ≤ nI mx then zbind (m_sc (m_set M 28 (idx R) (M.1 28 (idx R) + 1)) 9 (nI mx)) k else zbind (m_sc (m_set M 28 (idx R) (M.1 28 (idx R) + 1)) 9 (nI D)) k) = k (m_sc (m_set M 28 (idx R) (M.1 28 (idx R) + 1)) 9 (nI (max mx D))) := fun k => by
    by_cases c : D ≤ mx
    · rw [if_pos (nI_le c (by omega)), zbind_e, Nat.max_eq_left c]
    · rw [if_neg (nI_ge (by omega) (by omega)), zbind_e, Nat.max_eq_right (by omega)]
  have body := hmax (fun S4 => if 0 ≤ oI R then some S4 else if 0 ≤ (S4.2.2 10) then some S4 else zbind (m_sc S4 10 (nI D)) fun S7 => f_Mod_end_L50 zbig S7 (nI D) 0)
  rw [body]
  generalize hX : m_sc (m_set M 28 (idx R) (M.1 28 (idx R) + 1)) 9 (nI (max mx D)) = X
  have lX : mLike [28] [] [9] M X := by
    rw [← hX]
    exact mLike_tr (M1 := m_set M 28 (idx R) (M.1 28 (idx R) + 1)) (mLike_mono mLike_set (by simp) (by simp) (by simp)) (mLike_mono mLike_sc (by simp) (by simp) (by simp))
  have x28 : X.1 28 = upd (M.1 28) (idx R) (M.1 28 (idx R) + 1) := by rw [← hX, m_sc_1, m_set_at]
  have x9 : X.2.2 9 = nI (max mx D) := by rw [← hX]; exact m_sc_at
  have x10 : X.2.2 10 = oI ms := by rw [lX.2.2 10 (by decide)]; exact hms
  have stay : (R ≠ none ∨ ms ≠ none) → ∃ M', some X = some M' ∧ mLike [28, 29, 30] [] [9, 10] M M' ∧ M'.1 28 (idx R) = M.1 28 (idx R) + 1 ∧ (∀ j, j ≠ idx R → M'.1 28 j = M.1 28 j) ∧ M'.2.2 9 = nI (max mx D) ∧ ((R ≠ none ∨ ms ≠ none) → M'.2.2 10 = M.2.2 10 ∧ M'.1 29 = M.1 29 ∧ M'.1 30 = M.1 30) ∧ (R = none → ms = none → M'.2.2 10 = nI D ∧ ∀ j, j < D → M'.1 29 j = nI (pl j) ∧ (M.1 26 j = 0 → M'.1 30 j = (M.2.1 25 j).toInt32) ∧ (M.1 26 j ≠ 0 → ∃ m, M'.1 30 j = nI m ∧ isLo (nuR T P (po j) (pl j) nr) m)) := fun hor => ⟨X, rfl, mLike_mono lX (by simp) (by simp) (by simp), by rw [x28, upd_s], fun j hj => by rw [x28, upd_n hj], x9, fun _ => ⟨lX.2.2 10 (by decide), lX.1 29 (by decide), lX.1 30 (by decide)⟩, fun h1 h2 => by
    rcases hor with w | w
    · exact absurd h1 w
    · exact absurd h2 w⟩
  cases R with
  | some r =>
    have := hR r rfl
    rw [if_pos (by rw [oI_s]; exact nI_pos' (by omega))]
    exact stay (Or.inl (by simp))
  | none =>
    rw [if_neg (by decide), x10]
    cases ms with
    | some x =>
      have := hms2 x rfl
      rw [if_pos (by rw [oI_s]; exact nI_pos' (by omega))]
      exact stay (Or.inr (by simp))
    | none =>
      rw [if_neg (by decide), zbind_e]
      have lY : mLike [28] [] [9, 10] M (m_sc X 10 (nI D)) := mLike_tr (mLike_mono lX (by simp) (by simp) (by simp)) (mLike_mono mLike_sc (by simp) (by simp) (by simp))
      obtain ⟨M', f1, f2, f3, f4⟩ := p_end_L hF hD (po := po) (pl := pl) zbig 0 (m_sc X 10 (nI D)) (MC_like hM lY (by simp) (by simp) (by simp)) (fun i hi => by
        obtain ⟨c1, c2, c3⟩ := hi24 i hi
        exact ⟨PB_like c1 lY (by simp), by rw [lY.1 24 (by decide)]; exact c2, c3⟩) (by omega) (by unfold zbig; omega)
      refine ⟨M', f1, mLike_tr (mLike_mono lY (by simp) (by simp) (by simp)) (mLike_mono f2 (by simp) (by simp) (by simp)), ?_, fun j hj => ?_, ?_, (by intro h; simp at h), fun _ _ => ⟨?_, fun j hj => ?_⟩⟩
      · rw [f2.1 28 (by decide), m_sc_1, x28, upd_s]
      · rw [f2.1 28 (by decide), m_sc_1, x28, upd_n hj]
      · rw [f2.2.2 9 (by decide), m_sc_ne (by decide)]; exact x9
      · rw [f2.2.2 10 (by decide), m_sc_at]
      · have := f4 j (by omega) hj
        rw [lY.1 26 (by decide), lY.2.1 25 (by simp)] at this
        exact this
/-- the reference enters a node -/
theorem p_menter (hF : SF nf fam bit np P nl fl T nr ru sa) (hM : MC M nf fam bit np P nl fl T nr sa) {D N : Nat} (hD : D < 4097) (hN : M.2.2 8 = nI N) (hN2 : N < 10000) {po : Nat → Bool} (hB : PB M D nr po) {lk : List Nat} (hL : LM M T lk) : ∃ R K, fP1 po nr 0 R ∧ (R = none → K = none) ∧ (∀ r, R = some r → fA T lk (sa r) (sx T nr sa r) K) ∧ ((K = none ∧ f_Mod_enter M (nI D) = zob (f_Mod_end (m_sc M 8 (nI (N + 1))) (oI R) (nI D)) fun S => some (S, 0)) ∨ ∃ k M', K = some k ∧ f_Mod_enter M (nI D) = some (M', 1) ∧ mLike [24, 26, 27] [25] [8] M M' ∧ M'.2.2 8 = nI (N + 1) ∧ M'.1 24 D = nI (tK T k).2.1 ∧ M'.1 26 D = 0 ∧ M'.2.1 25 D = -4294967296 ∧ (∀ i, i ≠ D → M'.1 24 i = M.1 24 i ∧ M'.1 26 i = M.1 26 i ∧ M'.2.1 25 i = M.2.1 25 i) ∧ LM M' T ((tK T k).2.1 :: lk)) := by
  have hn := hF.2.2.2.2.2.2
  have hb := hF.2.2.2.2.1
  have hq := hF.2.2.2.2.2.1
  have l1 : mLike [] [] [8] M (m_sc M 8 (nI (N + 1))) := mLike_sc
  have hM1 := MC_like hM l1 (by simp) (by simp) (by simp)
  unfold f_Mod_enter
  rw [hN, nI_1, zbind_e]
  obtain ⟨R, e1, e2⟩ := p_mfirstP (PB_like hB l1 (by simp)) hM1.2.2.1 (by omega) (by omega) zbig 0 (by omega) (by unfold zbig; omega)
  rw [show f_Mod_firstPossible (m_sc M 8 (nI (N + 1))) (nI D) = some (oI R) from e1, zob_s]
  cases R with
  | none =>
    rw [if_neg (by decide)]
    exact ⟨none, none, e2, fun _ => rfl, (by intro r e; cases e), Or.inl ⟨rfl, rfl⟩⟩
  | some r =>
    have hr := e2.2.1
    have hs := SI_sx hF.2.2.1 hr
    rw [if_pos (by rw [oI_s]; exact nI_pos' (by omega))]
    have hL1 : LM (m_sc M 8 (nI (N + 1))) T lk := hL
    obtain ⟨K, f1, f2⟩ := p_nextPlace hF hM1 hL1 hr
    rw [show f_Mod_nextPlace (m_sc M 8 (nI (N + 1))) (oI (some r)) = _ from f1, zob_s]
    cases K with
    | none =>
      have ek : oI (Option.map (fun k => (tK T k).2.1) none) = -1 := rfl
      rw [ek, if_neg (by decide)]
      exact ⟨some r, none, e2, fun _ => rfl, (by intro r' e; cases e; exact f2), Or.inl ⟨rfl, rfl⟩⟩
    | some k =>
      have hk : k < tA T := by have := f2.2.1; omega
      have hkA := SF_ask hF k hk
      have ek : oI (Option.map (fun k => (tK T k).2.1) (some k)) = nI (tK T k).2.1 := rfl
      rw [ek, if_pos (nI_pos' (by omega)), m_wr_n (by omega) (by omega), nI_clamp (by omega), m_wr_n (by omega) (by omega), nI_clamp (by omega), m_wr_n (by omega) (by omega), m_wr_n (by omega) (by omega)]
      have v1 : vp_nar .boolean 1 = 1 := rfl
      have v0 : vp_nar .boolean 0 = 0 := rfl
      rw [v1, v0]
      refine ⟨some r, some k, e2, fun e => (by cases e), (by intro r' e; cases e; exact f2), Or.inr ⟨k, _, rfl, rfl, ⟨fun j hj => ?_, fun j hj => ?_, fun j hj => ?_⟩, ?_, ?_, ?_, ?_, fun i hi => ⟨?_, ?_, ?_⟩, fun p hp => ?_⟩⟩
      · have : j ≠ 24 ∧ j ≠ 26 ∧ j ≠ 27 := by simpa using hj
        rw [m_set_ne this.2.1]
        show (m_set (m_set (m_sc M 8 (nI (N + 1))) 24 D (nI (tK T k).2.1)) 27 (tK T k).2.1 1).1 j = _
        rw [m_set_ne this.2.2, m_set_ne this.1]; rfl
      · show va_up M.2.1 25 _ j = _
        exact va_n (by simpa using hj)
      · show (m_sc M 8 (nI (N + 1))).2.2 j = _
        exact m_sc_ne (by simpa using hj)
      · show (m_sc M 8 (nI (N + 1))).2.2 8 = _
        exact m_sc_at
      · show upd (M.1 24) D (nI (tK T k).2.1) D = _
        exact upd_s
      · show upd (M.1 26) D 0 D = _
        exact upd_s
      · show vp_updL (M.2.1 25) D (-4294967296) D = _
        exact updL_s
      · show upd (M.1 24) D (nI (tK T k).2.1) i = _
        exact upd_n hi
      · show upd (M.1 26) D 0 i = _
        exact upd_n hi
      · show vp_updL (M.2.1 25) D (-4294967296) i = _
        exact updL_n hi
      · show upd (M.1 27) (tK T k).2.1 1 p = _
        by_cases w : p = (tK T k).2.1
        · subst w; rw [upd_s]; simp [bI]
        · rw [upd_n w, hL p hp]; simp [w]
/-- the reference goes on -/
theorem p_mgoOn (hF : SF nf fam bit np P nl fl T nr ru sa) (hM : MC M nf fam bit np P nl fl T nr sa) {d p : Nat} {po : Nat → Bool} (hd : d < 4096) (hB : PB M d nr po) (hp : p < tQ T) (h24 : M.1 24 d = nI p) (hne : ∃ x, nuR T P po p nr x) {ls : List Int32} (hs : ls.Pairwise (· < ·)) (hls : ∀ x, x ∈ ls → nuR T P po p nr x) (hi : ∀ y, nuR T P po p nr y → y ∉ ls → ∀ x, x ∈ ls → x < y) :
    (M.1 26 d ≠ 0 → f_Mod_goOn M (nI d) = some (M, 0)) ∧ (M.1 26 d = 0 → M.2.1 25 d = lastI ls.getLast? → ∃ o, isNx (nuR T P po p nr) ls.getLast? o ∧ ((o = none ∧ ¬ ls.length < allOf fam (tH T p) ∧ ∃ M', f_Mod_goOn M (nI d) = some (M', 0) ∧ mLike [26] [25] [] M M' ∧ (∀ i, i ≠ d → M'.1 26 i = M.1 26 i ∧ M'.2.1 25 i = M.2.1 25 i)) ∨ ((o = none → ls.length < allOf fam (tH T p)) ∧ ∃ M', f_Mod_goOn M (nI d) = some (M', 1) ∧ mLike [26] [23, 25] [] M M' ∧ M'.1 26 d = bI (decide (o = none)) ∧ M'.2.1 25 d = nxI o ∧ (∀ i, i ≠ d → M'.1 26 i = M.1 26 i ∧ M'.2.1 25 i = M.2.1 25 i) ∧ (∀ d' po', d' ≠ d + 1 → PB M d' nr po' → PB M' d' nr po') ∧ PB M' (d + 1) nr (nar T P po p o)))) := by
  have hn := hF.2.2.2.2.2.2
  constructor
  · intro h
    unfold f_Mod_goOn
    rw [m_rd_n (by omega) (by omega), if_neg h]
  · intro h0 h25
    obtain ⟨o, e1, e2⟩ := p_nextNumber hF hM (show d < 4097 by omega) hB hp h24 ls.getLast?
    refine ⟨o, e2, ?_⟩
    unfold f_Mod_goOn
    rw [m_rd_n (by omega) (by omega), if_pos h0, m_rdl_n (by omega) (by omega), h25, e1, zob_s, m_wr_n (by omega) (by omega), nI_clamp (by omega), m_rdl_n (by omega) (by omega)]
    have v25 : (m_setl M 25 d (nxI o)).2.1 25 d = nxI o := by show vp_updL (M.2.1 25) d (nxI o) d = _; exact updL_s
    rw [v25]
    have v1 : vp_nar .boolean 1 = 1 := rfl
    have v0 : vp_nar .boolean 0 = 0 := rfl
    have common : ∀ b : Int32, mLike [26] [25] [] M (m_set (m_setl M 25 d (nxI o)) 26 d b) ∧ (m_set (m_setl M 25 d (nxI o)) 26 d b).1 26 d = b ∧ (m_set (m_setl M 25 d (nxI o)) 26 d b).2.1 25 d = nxI o ∧ ∀ i, i ≠ d → (m_set (m_setl M 25 d (nxI o)) 26 d b).1 26 i = M.1 26 i ∧ (m_set (m_setl M 25 d (nxI o)) 26 d b).2.1 25 i = M.2.1 25 i := fun b => by
      refine ⟨mLike_tr (M1 := m_setl M 25 d (nxI o)) (mLike_mono mLike_setl (by simp) (by simp) (by simp)) (mLike_mono mLike_set (by simp) (by simp) (by simp)), by rw [m_set_at, upd_s], v25, fun i hi => ⟨by rw [m_set_at, upd_n hi]; rfl, ?_⟩⟩
      show vp_updL (M.2.1 25) d (nxI o) i = _
      exact updL_n hi
    have nrw : ∀ b : Int32, b = bI (decide (o = none)) → ∃ M', f_Mod_narrow (m_set (m_setl M 25 d (nxI o)) 26 d b) (nI d) (nxI o) b = some M' ∧ mLike [26] [23, 25] [] M M' ∧ M'.1 26 d = bI (decide (o = none)) ∧ M'.2.1 25 d = nxI o ∧ (∀ i, i ≠ d → M'.1 26 i = M.1 26 i ∧ M'.2.1 25 i = M.2.1 25 i) ∧ (∀ d' po', d' ≠ d + 1 → PB M d' nr po' → PB M' d' nr po') ∧ PB M' (d + 1) nr (nar T P po p o) := by
      intro b eb
      obtain ⟨c1, c2, c3, c4⟩ := common b
      obtain ⟨M', f1, f2, f3, f4⟩ := p_narrow hF (MC_like hM c1 (by simp) (by simp) (by simp)) hd hp (PB_like hB c1 (by simp)) (by rw [c1.1 24 (by decide)]; exact h24) (x2 := nxI o) (lab := o) (fun x e => by subst e; rfl)
      rw [← eb] at f1
      refine ⟨M', f1, mLike_tr (mLike_mono c1 (by simp) (by simp) (by simp)) (mLike_mono f2 (by simp) (by simp) (by simp)), by rw [f2.1 26 (by simp), c2, eb], by rw [f2.2.1 25 (by decide)]; exact c3, fun i hi => ?_, fun d' po' hne' h => f3 d' po' hne' (PB_like h c1 (by simp)), f4⟩
      rw [f2.1 26 (by simp), f2.2.1 25 (by decide)]
      exact c4 i hi
    cases o with
    | some x =>
      have b := tI_lt x
      have hz : ¬ lg_cmp (nxI (some x)) 4294967296 = 0 := fun q => by
        have := congrArg Int64.toInt ((lgc1 _ _).mp q)
        have this : x.toInt64.toInt = 4294967296 := this
        rw [Int32.toInt_toInt64] at this
        omega
      obtain ⟨c1, c2, c3, c4⟩ := common 0
      right
      refine ⟨(by intro e; cases e), ?_⟩
      obtain ⟨M', g⟩ := nrw 0 rfl
      refine ⟨M', ?_, g.2⟩
      rw [if_pos hz, m_wr_n (by omega) (by omega), v0, m_rd_n (by omega) (by omega), c2, if_pos rfl, m_rdl_n (by omega) (by omega), m_rd_n (by omega) (by omega), c2, c3, g.1, zob_s]
    | none =>
      have hz : lg_cmp (nxI none) 4294967296 = 0 := rfl
      obtain ⟨c1, c2, c3, c4⟩ := common 1
      have hall := (isNx_ls hs hi e2).2 rfl
      have ho := p_hasOthers hF (MC_like hM c1 (by simp) (by simp) (by simp)) (show d < 4097 by omega) (PB_like hB c1 (by simp)) hp (by rw [c1.1 24 (by decide)]; exact h24) hne hs (fun x => ⟨hls x, hall x⟩) (by
        have := nu_few hF ls (hs.imp (fun {a b} hab => fun q => by subst q; exact i32_irr hab)) hls
        omega)
      by_cases c : ls.length < allOf fam (tH T p)
      · right
        refine ⟨fun _ => c, ?_⟩
        obtain ⟨M', g⟩ := nrw 1 rfl
        refine ⟨M', ?_, g.2⟩
        rw [if_neg (fun y => y hz), m_wr_n (by omega) (by omega), v1, m_rd_n (by omega) (by omega), c2, if_neg (by decide), ho, zob_s, decide_eq_true c, if_pos (by decide), m_rdl_n (by omega) (by omega), m_rd_n (by omega) (by omega), c2, c3, g.1, zob_s]
      · left
        refine ⟨rfl, c, _, ?_, c1, c4⟩
        rw [if_neg (fun y => y hz), m_wr_n (by omega) (by omega), v1, m_rd_n (by omega) (by omega), c2, if_neg (by decide), ho, zob_s, decide_eq_false c, if_neg (by decide)]
end PMS
