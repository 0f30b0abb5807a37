-- PURE LAYER: the reference's next place, next number, narrowing, start
/-- what holds of the parts while nothing is laid -/
def SF (nf : Nat) (fam : Nat → Nat) (bit : Nat → Int64) (np : Nat) (P : Nat → Pt) (nl : Nat) (fl : Nat → Nat × Nat) (T : Tr) (nr : Nat) (ru : Nat → Nat) (sa : Nat → Nat) : Prop :=
  PWF nf fam bit np P nl fl ∧ GI P fl T nr ru ∧ SI T nr sa ∧ (∀ r, r < nr → ru r < np) ∧ tA T ≤ 16384 ∧ tQ T ≤ 16385 ∧ nr ≤ 700
/-- the reference holds it -/
def MC (M : zM) (nf : Nat) (fam : Nat → Nat) (bit : Nat → Int64) (np : Nat) (P : Nat → Pt) (nl : Nat) (fl : Nat → Nat × Nat) (T : Tr) (nr : Nat) (sa : Nat → Nat) : Prop := PM M np P nl fl ∧ TMo M T nr sa ∧ M.2.2 4 = nI nr ∧ FM M nf fam bit
/-- numbers that are asked for at a part, by rules below i -/
def nuR (T : Tr) (P : Nat → Pt) (po : Nat → Bool) (p i : Nat) (x : Int32) : Prop := ∃ r q, r < i ∧ po r = true ∧ ak T r p = some q ∧ pM (P q) = x
def aft (last : Option Int32) (x : Int32) : Prop := ∀ l, last = some l → l < x
/-- the least number after the last -/
def isNx (nu : Int32 → Prop) (last : Option Int32) : Option Int32 → Prop
  | some x => nu x ∧ aft last x ∧ ∀ y, nu y → aft last y → x ≤ y
  | none => ∀ y, nu y → ¬ aft last y
theorem i32_asym {x y : Int32} (h : x ≤ y) (k : y ≤ x) : x = y := by
  rw [Int32.le_iff_toInt_le] at *
  exact Int32.toInt_inj.mp (by omega)
theorem isNx_one {nu : Int32 → Prop} {last o o' : Option Int32} (h : isNx nu last o) (h' : isNx nu last o') : o = o' := by
  cases o with
  | none => cases o' with
    | none => rfl
    | some x => exact absurd h'.2.1 (h x h'.1)
  | some x => cases o' with
    | none => exact absurd h.2.1 (h' x h.1)
    | some y => rw [i32_asym (h.2.2 y h'.1 h'.2.1) (h'.2.2 x h.1 h.2.1)]
def lastI : Option Int32 → Int64
  | none => -4294967296
  | some l => l.toInt64
def nxI : Option Int32 → Int64
  | none => 4294967296
  | some l => l.toInt64
theorem lg_le0 (x y : Int64) : lg_cmp x y ≤ 0 ↔ x.toInt ≤ y.toInt := by
  unfold lg_cmp
  by_cases c : x > y
  · rw [if_pos c]
    have c' : y.toInt < x.toInt := Int64.lt_iff_toInt_lt.mp c
    constructor
    · intro h; exact absurd h (by decide)
    · intro h; omega
  · rw [if_neg c]
    have c' : ¬ y.toInt < x.toInt := fun q => c (Int64.lt_iff_toInt_lt.mpr q)
    by_cases d : x = y
    · rw [if_pos d]; subst d; simp
    · rw [if_neg d]
      constructor
      · intro _; omega
      · intro _; decide
theorem lg_ge0 (x y : Int64) : 0 ≤ lg_cmp x y ↔ y.toInt ≤ x.toInt := by
  unfold lg_cmp
  by_cases c : x > y
  · rw [if_pos c]
    have c' : y.toInt < x.toInt := Int64.lt_iff_toInt_lt.mp c
    constructor
    · intro _; omega
    · intro _; decide
  · rw [if_neg c]
    have c' : ¬ y.toInt < x.toInt := fun q => c (Int64.lt_iff_toInt_lt.mpr q)
    by_cases d : x = y
    · rw [if_pos d]; subst d; simp
    · rw [if_neg d]
      have d' : ¬ x.toInt = y.toInt := fun q => d (Int64.toInt_inj.mp q)
      constructor
      · intro h; exact absurd h (by decide)
      · intro h; omega
theorem lastI_lt {last : Option Int32} {x : Int32} : x.toInt64.toInt ≤ (lastI last).toInt ↔ ¬ aft last x := by
  rw [Int32.toInt_toInt64]
  have b := tI_lt x
  cases last with
  | none =>
    show x.toInt ≤ (-4294967296 : Int64).toInt ↔ _
    rw [show (-4294967296 : Int64).toInt = -4294967296 from rfl]
    constructor
    · intro h; omega
    · intro h; exact absurd (fun l e => by cases e) h
  | some l =>
    show x.toInt ≤ l.toInt64.toInt ↔ _
    rw [Int32.toInt_toInt64]
    constructor
    · intro h q; have := q l rfl; rw [Int32.lt_iff_toInt_lt] at this; omega
    · intro h
      rcases Int.lt_or_le l.toInt x.toInt with c | c
      · exact absurd (fun l' e => by cases e; exact Int32.lt_iff_toInt_lt.mpr c) h
      · exact c
theorem nxI_le {o : Option Int32} {x : Int32} : (nxI o).toInt ≤ x.toInt64.toInt ↔ ∃ y, o = some y ∧ y ≤ x := by
  rw [Int32.toInt_toInt64]
  have b := tI_lt x
  cases o with
  | none =>
    show (4294967296 : Int64).toInt ≤ _ ↔ _
    rw [show (4294967296 : Int64).toInt = 4294967296 from rfl]
    constructor
    · intro h; omega
    · intro ⟨y, h, _⟩; cases h
  | some l =>
    show l.toInt64.toInt ≤ x.toInt ↔ _
    rw [Int32.toInt_toInt64]
    constructor
    · intro h; exact ⟨l, rfl, Int32.le_iff_toInt_le.mpr h⟩
    · intro ⟨y, h, h2⟩; cases h; exact Int32.le_iff_toInt_le.mp h2
section PNU
variable {M : zM} {T : Tr} {nr : Nat} {sa : Nat → Nat} {nf : Nat} {fam : Nat → Nat} {bit : Nat → Int64} {np : Nat} {P : Nat → Pt} {nl : Nat} {fl : Nat → Nat × Nat} {ru : Nat → Nat}
theorem SF_ask (h : SF nf fam bit np P nl fl T nr ru sa) : ∀ k, k < tA T → (tK T k).1 < nr ∧ (tK T k).2.1 < tQ T := fun k hk => ⟨(h.2.1.2.2.1 k hk).1, (h.2.1.2.2.1 k hk).2.1⟩
theorem SF_ak (h : SF nf fam bit np P nl fl T nr ru sa) {r p q : Nat} (e : ak T r p = some q) : r < nr ∧ p < tQ T ∧ q < np ∧ 1 ≤ pK (P q) ∧ pK (P q) ≤ 3 ∧ tH T p = (pK (P q), pS (P q)) ∧ oc P fl T (ru r) p = some q := by
  obtain ⟨j, h1, h2⟩ := ak_ok e
  obtain ⟨b1, b2, b3, b4, b5, b6⟩ := h.2.1.2.2.1 j h1
  rw [h2] at b1 b2 b3 b4 b5
  exact ⟨b1, b2, oc_lt h.2.1.1 h.1 (h.2.2.2.1 r b1) _ _ _ (Nat.lt_succ_self _) b2 b3, b4.1, b4.2, b5, b3⟩
theorem MC_like {ks ls ns : List Nat} {M' : zM} (h : MC M nf fam bit np P nl fl T nr sa) (hl : mLike ks ls ns M M') (h1 : ∀ k, k ∈ ks → 22 < k) (h2 : ∀ k, k ∈ ls → 22 < k) (h3 : ∀ k, k ∈ ns → 6 < k) : MC M' nf fam bit np P nl fl T nr sa := by
  refine ⟨PM_like h.1 hl (fun k hk => by have := h1 k hk; omega) (fun k hk => by have := h3 k hk; omega), TMo_like h.2.1 hl (fun k hk => by have := h1 k hk; omega) (fun q => by have := h2 19 q; omega) (fun q => by have := h3 6 q; omega), by rw [hl.2.2 4 (fun q => by have := h3 4 q; omega)]; exact h.2.2.1, ?_⟩
  unfold FM
  rw [hl.2.2 0 (fun q => by have := h3 0 q; omega), hl.1 0 (fun q => by have := h1 0 q; omega), hl.2.1 1 (fun q => by have := h2 1 q; omega)]
  exact h.2.2.2
theorem p_asked' (hF : SF nf fam bit np P nl fl T nr ru sa) (hM : MC M nf fam bit np P nl fl T nr sa) {r p : Nat} (hr : r < nr) (hp : p < tQ T) : f_Mod_asked M (nI r) (nI p) = some (oI (ak T r p)) := p_asked hM.2.1 hF.2.2.1 (SF_ask hF) hF.2.2.2.2.1 hF.2.2.2.2.2.1 (by have := hF.2.2.2.2.2.2; omega) hr hp
theorem p_numberOf (hM : MC M nf fam bit np P nl fl T nr sa) (hnp : np ≤ 16384) {q : Nat} (hq : q < np) (h1 : 1 ≤ pK (P q)) (h3 : pK (P q) ≤ 3) : f_Mod_numberOf M (nI q) = some (pM (P q)).toInt64 := by
  unfold f_Mod_numberOf
  rw [m_rd_n (by omega) (by omega), gK hM.1 hq]
  by_cases e : pK (P q) = 3
  · rw [if_neg (by rw [e]; decide), m_rd_n (by omega) (by omega), gF3 hM.1 hq e]
  · rw [if_pos (by (simp (disch := omega) only [nI_1, nI_add, Int32.lt_iff_toInt_lt, Int32.le_iff_toInt_le, ← Int32.toInt_inj, nI_toInt, tI_0, tI_1, tI_2, tI_3, tI_4, tI_m1, tI_m2, tI_m3, tI_m4, tI_64, tI_128, tI_255, tI_256, tI_1000, tI_1024, tI_4096, tI_10000, tI_16384, tI_16386, tI_M]; omega)), m_rd_n (by omega) (by omega), gGn hM.1 hq e]
/-- the places that were looked at -/
def LM (M : zM) (T : Tr) (lk : List Nat) : Prop := ∀ p, p < tQ T → M.1 27 p = bI (decide (p ∈ lk))
/-- the first ask from i to e that isn't looked at -/
def fA (T : Tr) (lk : List Nat) (i e : Nat) : Option Nat → Prop
  | some k => i ≤ k ∧ k < e ∧ (tK T k).2.1 ∉ lk ∧ ∀ j, i ≤ j → j < k → (tK T j).2.1 ∈ lk
  | none => ∀ j, i ≤ j → j < e → (tK T j).2.1 ∈ lk
theorem fA_one {lk : List Nat} {i e : Nat} {o o' : Option Nat} (h : fA T lk i e o) (h' : fA T lk i e o') : o = o' := by
  cases o with
  | none => cases o' with
    | none => rfl
    | some r => exact absurd (h r h'.1 h'.2.1) h'.2.2.1
  | some r => cases o' with
    | none => exact absurd (h' r h.1 h.2.1) h.2.2.1
    | some q =>
      rcases Nat.lt_trichotomy r q with w | w | w
      · exact absurd (h'.2.2.2 r h.1 w) h.2.2.1
      · rw [w]
      · exact absurd (h.2.2.2 q h'.1 w) h'.2.2.1
theorem p_nextPlace_L (hF : SF nf fam bit np P nl fl T nr ru sa) (hM : MC M nf fam bit np P nl fl T nr sa) {lk : List Nat} (hL : LM M T lk) {r : Nat} (hr : r < nr) : ∀ n k, sa r ≤ k → k ≤ sx T nr sa r → sx T nr sa r - k < n → ∃ o, f_Mod_nextPlace_L7 n M (nI r) (nI k) = some (oI (o.map (fun k => (tK T k).2.1))) ∧ fA T lk k (sx T nr sa r) o := by
  have hs := SI_sx hF.2.2.1 hr
  have hA := SF_ask hF
  obtain ⟨-, -, -, -, hb, hq, hn⟩ := hF
  have h14 := (TMo_sx hM.2.1 hr).2
  obtain ⟨bl, nb, t1, t2, t3, t4, t5, t6⟩ := hM.2.1
  intro n
  induction n with
  | zero => intro k _ _ h; omega
  | succ n ih =>
    intro k h1 h2 hlt
    unfold f_Mod_nextPlace_L7
    rw [nI_1, m_rd_n (by omega) (by omega), h14]
    by_cases c : k = sx T nr sa r
    · rw [if_pos (by (simp (disch := omega) only [nI_1, nI_add, Int32.lt_iff_toInt_lt, Int32.le_iff_toInt_le, ← Int32.toInt_inj, nI_toInt, tI_0, tI_1, tI_2, tI_3, tI_4, tI_m1, tI_m2, tI_m3, tI_m4, tI_64, tI_128, tI_255, tI_256, tI_1000, tI_1024, tI_4096, tI_10000, tI_16384, tI_16386, tI_M]; omega))]
      exact ⟨none, rfl, fun j a b => by omega⟩
    · have hk : k < tA T := by omega
      have hkA := hA k hk
      rw [if_neg (by (simp (disch := omega) only [nI_1, nI_add, Int32.lt_iff_toInt_lt, Int32.le_iff_toInt_le, ← Int32.toInt_inj, nI_toInt, tI_0, tI_1, tI_2, tI_3, tI_4, tI_m1, tI_m2, tI_m3, tI_m4, tI_64, tI_128, tI_255, tI_256, tI_1000, tI_1024, tI_4096, tI_10000, tI_16384, tI_16386, tI_M]; omega)), m_rd_n (by omega) (by omega), (t4 k hk).1, m_rd_n (by omega) (by omega), hL _ hkA.2]
      by_cases d : (tK T k).2.1 ∈ lk
      · rw [if_pos (by rw [decide_eq_true d]; decide), nI_1]
        obtain ⟨o, e, f⟩ := ih (k + 1) (by omega) (by omega) (by omega)
        refine ⟨o, e, ?_⟩
        cases o with
        | none =>
          intro j a b
          by_cases w : j = k
          · subst w; exact d
          · exact f j (by omega) b
        | some x =>
          refine ⟨by have := f.1; omega, f.2.1, f.2.2.1, fun j a b => ?_⟩
          by_cases w : j = k
          · subst w; exact d
          · exact f.2.2.2 j (by omega) b
      · rw [if_neg (by rw [decide_eq_false d]; decide), m_rd_n (by omega) (by omega), (t4 k hk).1]
        exact ⟨some k, rfl, Nat.le_refl _, by omega, d, fun j a b => by omega⟩
theorem p_nextPlace (hF : SF nf fam bit np P nl fl T nr ru sa) (hM : MC M nf fam bit np P nl fl T nr sa) {lk : List Nat} (hL : LM M T lk) {r : Nat} (hr : r < nr) : ∃ o, f_Mod_nextPlace M (nI r) = some (oI (o.map (fun k => (tK T k).2.1))) ∧ fA T lk (sa r) (sx T nr sa r) o := by
  have hs := SI_sx hF.2.2.1 hr
  have hn := hF.2.2.2.2.2.2
  have hb := hF.2.2.2.2.1
  unfold f_Mod_nextPlace
  rw [m_rd_n (by omega) (by omega), (TMo_sx hM.2.1 hr).1]
  exact p_nextPlace_L hF hM hL hr zbig (sa r) (Nat.le_refl _) hs.1 (by unfold zbig; omega)
theorem nuR_s {po : Nat → Bool} {p i : Nat} {y : Int32} : nuR T P po p (i + 1) y ↔ nuR T P po p i y ∨ ∃ q, po i = true ∧ ak T i p = some q ∧ pM (P q) = y := by
  constructor
  · intro ⟨r, q, h1, h2, h3, h4⟩
    by_cases c : r = i
    · subst c; exact Or.inr ⟨q, h2, h3, h4⟩
    · exact Or.inl ⟨r, q, by omega, h2, h3, h4⟩
  · intro h
    rcases h with ⟨r, q, h1, h2⟩ | ⟨q, h2⟩
    · exact ⟨r, q, by omega, h2⟩
    · exact ⟨i, q, by omega, h2⟩
theorem isNx_same {nu nu' : Int32 → Prop} {last o : Option Int32} (h : isNx nu last o) (e : ∀ y, nu' y ↔ nu y) : isNx nu' last o := by
  cases o with
  | none => exact fun y hy => h y ((e y).mp hy)
  | some x => exact ⟨(e x).mpr h.1, h.2.1, fun y hy => h.2.2 y ((e y).mp hy)⟩
theorem p_nextNumber_L (hF : SF nf fam bit np P nl fl T nr ru sa) (hM : MC M nf fam bit np P nl fl T nr sa) {d p : Nat} {po : Nat → Bool} (hd : d < 4097) (hB : PB M d nr po) (hp : p < tQ T) (h24 : M.1 24 d = nI p) (last : Option Int32) : ∀ n i o, i ≤ nr → nr - i < n → isNx (nuR T P po p i) last o → ∃ o', f_Mod_nextNumber_L8 n M (nI d) (lastI last) (nxI o) (nI i) = some (nxI o') ∧ isNx (nuR T P po p nr) last o' := by
  have hn := hF.2.2.2.2.2.2
  have hnp := hF.1.1
  intro n
  induction n with
  | zero => intro i o _ h; omega
  | succ n ih =>
    intro i o hi hlt ho
    unfold f_Mod_nextNumber_L8
    rw [hM.2.2.1]
    by_cases c : i = nr
    · subst c
      rw [if_pos (by (simp (disch := omega) only [nI_1, nI_add, Int32.lt_iff_toInt_lt, Int32.le_iff_toInt_le, ← Int32.toInt_inj, nI_toInt, tI_0, tI_1, tI_2, tI_3, tI_4, tI_m1, tI_m2, tI_m3, tI_m4, tI_64, tI_128, tI_255, tI_256, tI_1000, tI_1024, tI_4096, tI_10000, tI_16384, tI_16386, tI_M]; omega))]
      exact ⟨o, rfl, ho⟩
    · have hi' : i < nr := by omega
      rw [if_neg (by (simp (disch := omega) only [nI_1, nI_add, Int32.lt_iff_toInt_lt, Int32.le_iff_toInt_le, ← Int32.toInt_inj, nI_toInt, tI_0, tI_1, tI_2, tI_3, tI_4, tI_m1, tI_m2, tI_m3, tI_m4, tI_64, tI_128, tI_255, tI_256, tI_1000, tI_1024, tI_4096, tI_10000, tI_16384, tI_16386, tI_M]; omega)), PB_isP hB (by omega) (by omega) hi', zob_s, nI_1]
      cases b : po i with
      | false =>
        rw [if_pos (by rfl)]
        exact ih (i + 1) o (by omega) (by omega) (isNx_same ho (fun y => by rw [nuR_s]; simp [b]))
      | true =>
        rw [if_neg (by decide), m_rd_n (by omega) (by omega), h24, p_asked' hF hM hi' hp, zob_s]
        cases q : ak T i p with
        | none =>
          rw [if_pos (by decide)]
          exact ih (i + 1) o (by omega) (by omega) (isNx_same ho (fun y => by rw [nuR_s]; simp [q]))
        | some x =>
          obtain ⟨-, -, hx, k1, k3, -, -⟩ := SF_ak hF q
          have en := p_numberOf hM hnp hx k1 k3
          have add : ∀ y, nuR T P po p (i + 1) y ↔ nuR T P po p i y ∨ y = pM (P x) := fun y => by
            rw [nuR_s]
            constructor
            · intro h
              rcases h with h | ⟨q', h1, h2, h3⟩
              · exact Or.inl h
              · rw [q] at h2; cases h2; exact Or.inr h3.symm
            · intro h
              rcases h with h | h
              · exact Or.inl h
              · exact Or.inr ⟨x, b, q, h.symm⟩
          rw [oI_s, if_neg (nI_pos (by omega)), en, zob_s]
          by_cases e1 : aft last (pM (P x))
          · rw [if_neg (fun y => (lastI_lt.mp ((lg_le0 _ _).mp y)) e1), zob_s]
            by_cases e2 : ∃ y, o = some y ∧ y ≤ pM (P x)
            · rw [if_pos ((lg_ge0 _ _).mpr (nxI_le.mpr e2))]
              refine ih (i + 1) o (by omega) (by omega) ?_
              obtain ⟨y, ey, hy⟩ := e2
              subst ey
              refine ⟨(add y).mpr (Or.inl ho.1), ho.2.1, fun z hz ha => ?_⟩
              rcases (add z).mp hz with w | w
              · exact ho.2.2 z w ha
              · rw [w]; exact hy
            · rw [if_neg (fun y => e2 (nxI_le.mp ((lg_ge0 _ _).mp y))), zob_s]
              refine ih (i + 1) (some (pM (P x))) (by omega) (by omega) ⟨(add _).mpr (Or.inr rfl), e1, fun z hz ha => ?_⟩
              rcases (add z).mp hz with w | w
              · cases o with
                | none => exact absurd ha (ho z w)
                | some y =>
                  have h1 := ho.2.2 z w ha
                  rcases Classical.em (y ≤ pM (P x)) with g | g
                  · exact absurd ⟨y, rfl, g⟩ e2
                  · rw [Int32.le_iff_toInt_le] at *; omega
              · rw [w]; rw [Int32.le_iff_toInt_le]; omega
          · rw [if_pos ((lg_le0 _ _).mpr (lastI_lt.mpr e1))]
            refine ih (i + 1) o (by omega) (by omega) ?_
            cases o with
            | none =>
              intro z hz ha
              rcases (add z).mp hz with w | w
              · exact ho z w ha
              · rw [w] at ha; exact e1 ha
            | some y =>
              refine ⟨(add y).mpr (Or.inl ho.1), ho.2.1, fun z hz ha => ?_⟩
              rcases (add z).mp hz with w | w
              · exact ho.2.2 z w ha
              · rw [w] at ha; exact absurd ha e1
theorem p_nextNumber (hF : SF nf fam bit np P nl fl T nr ru sa) (hM : MC M nf fam bit np P nl fl T nr sa) {d p : Nat} {po : Nat → Bool} (hd : d < 4097) (hB : PB M d nr po) (hp : p < tQ T) (h24 : M.1 24 d = nI p) (last : Option Int32) : ∃ o, f_Mod_nextNumber M (nI d) (lastI last) = some (nxI o) ∧ isNx (nuR T P po p nr) last o := by
  have hn := hF.2.2.2.2.2.2
  unfold f_Mod_nextNumber
  exact p_nextNumber_L hF hM hd hB hp h24 last zbig 0 none (by omega) (by unfold zbig; omega) (fun y hy => by
    obtain ⟨r, q, h, _⟩ := hy
    omega)
/-- the rules that stay possible -/
def nar (T : Tr) (P : Nat → Pt) (po : Nat → Bool) (p : Nat) (lab : Option Int32) (r : Nat) : Bool := po r && (match ak T r p with
  | none => true
  | some q => match lab with
    | none => false
    | some x => decide (pM (P q) = x))
theorem p_narrow_L (hF : SF nf fam bit np P nl fl T nr ru sa) {d p : Nat} {po : Nat → Bool} (hd : d < 4096) (hp : p < tQ T) {x2 : Int64} {lab : Option Int32} (hx : ∀ x, lab = some x → x2 = x.toInt64) : ∀ n i M, MC M nf fam bit np P nl fl T nr sa → PB M d nr po → M.1 24 d = nI p → i ≤ nr → nr - i < n → (∀ j, j < i → j < nr → gb (M.2.1 23 (16 * (d + 1) + j / 64)) (j % 64) = nar T P po p lab j) → ∃ M', f_Mod_narrow_L3 n M (nI d) x2 (bI (decide (lab = none))) (nI i) = some M' ∧ mLike [] [23] [] M M' ∧ (∀ d' po', d' ≠ d + 1 → PB M d' nr po' → PB M' d' nr po') ∧ PB M' (d + 1) nr (nar T P po p lab) := by
  have hn := hF.2.2.2.2.2.2
  have hnp := hF.1.1
  intro n
  induction n with
  | zero => intro i M _ _ _ _ h; omega
  | succ n ih =>
    intro i M hM hB h24 hi hlt hdone
    unfold f_Mod_narrow_L3
    rw [hM.2.2.1]
    by_cases c : i = nr
    · subst c
      rw [if_pos (by (simp (disch := omega) only [nI_1, nI_add, Int32.lt_iff_toInt_lt, Int32.le_iff_toInt_le, ← Int32.toInt_inj, nI_toInt, tI_0, tI_1, tI_2, tI_3, tI_4, tI_m1, tI_m2, tI_m3, tI_m4, tI_64, tI_128, tI_255, tI_256, tI_1000, tI_1024, tI_4096, tI_10000, tI_16384, tI_16386, tI_M]; omega))]
      exact ⟨M, rfl, mLike_rf, fun _ _ _ h => h, fun r hr => hdone r hr hr⟩
    · have hi' : i < nr := by omega
      -- one step with the bit b
      have go : ∀ b : Bool, nar T P po p lab i = b → ∃ M', (zob (f_Mod_setPossible M (nI d + 1) (nI i) (bI b)) fun S6 => f_Mod_narrow_L3 n S6 (nI d) x2 (bI (decide (lab = none))) (nI i + 1)) = some M' ∧ mLike [] [23] [] M M' ∧ (∀ d' po', d' ≠ d + 1 → PB M d' nr po' → PB M' d' nr po') ∧ PB M' (d + 1) nr (nar T P po p lab) := by
        intro b hb
        rw [nI_1, nI_1]
        obtain ⟨w, e1, e2, e3⟩ := p_setPossible (M := M) (d := d + 1) (r := i) (by omega) (by omega) b
        rw [e1, zob_s]
        have l1 : mLike [] [23] [] M (m_setl M 23 (16 * (d + 1) + i / 64) w) := mLike_setl
        obtain ⟨M', f1, f2, f3, f4⟩ := ih (i + 1) (m_setl M 23 (16 * (d + 1) + i / 64) w) (MC_like hM l1 (by simp) (by simp) (by simp)) (PB_other (by omega) (by omega) (by omega) hB) h24 (by omega) (by omega) (PB_set (by omega) (by omega) hdone e2 e3 (fun _ => hb))
        exact ⟨M', f1, mLike_tr l1 f2, fun d' po' hne h => f3 d' po' hne (PB_other (by omega) (by omega) hne h), f4⟩
      have isP := PB_isP hB (by omega) (by omega) hi'
      rw [if_neg (by (simp (disch := omega) only [nI_1, nI_add, Int32.lt_iff_toInt_lt, Int32.le_iff_toInt_le, ← Int32.toInt_inj, nI_toInt, tI_0, tI_1, tI_2, tI_3, tI_4, tI_m1, tI_m2, tI_m3, tI_m4, tI_64, tI_128, tI_255, tI_256, tI_1000, tI_1024, tI_4096, tI_10000, tI_16384, tI_16386, tI_M]; omega)), isP, zob_s]
      cases b : po i with
      | false =>
        rw [if_pos (by rfl), zob_s, if_pos (by rfl)]
        exact go false (by unfold nar; rw [b]; rfl)
      | true =>
        rw [if_neg (by decide), m_rd_n (by omega) (by omega), h24, p_asked' hF hM hi' hp, zob_s]
        cases q : ak T i p with
        | none =>
          rw [if_pos (by decide), zob_s, if_neg (by decide)]
          exact go true (by unfold nar; rw [b, q]; rfl)
        | some x =>
          obtain ⟨-, -, hxn, k1, k3, -, -⟩ := SF_ak hF q
          rw [oI_s, if_neg (nI_pos (by omega))]
          cases lab with
          | none =>
            rw [if_pos (by decide), zob_s, if_neg (by decide)]
            exact go false (by unfold nar; rw [b, q]; rfl)
          | some y =>
            rw [hx y rfl] at go
            rw [if_neg (show ¬ ¬ bI (decide (some y = none)) = 0 by simp [bI]), p_numberOf hM hnp hxn k1 k3, zob_s, hx y rfl]
            by_cases e : pM (P x) = y
            · rw [if_neg (by rw [e]; simpa using (lgc1 _ _).mpr rfl), zob_s, if_neg (by decide)]
              exact go true (by unfold nar; rw [b, q]; simp [e])
            · rw [if_pos (fun z => e (i64_inj ((lgc1 _ _).mp z))), zob_s, if_neg (by decide)]
              exact go false (by unfold nar; rw [b, q]; simp [e])
theorem p_narrow (hF : SF nf fam bit np P nl fl T nr ru sa) (hM : MC M nf fam bit np P nl fl T nr sa) {d p : Nat} {po : Nat → Bool} (hd : d < 4096) (hp : p < tQ T) (hB : PB M d nr po) (h24 : M.1 24 d = nI p) {x2 : Int64} {lab : Option Int32} (hx : ∀ x, lab = some x → x2 = x.toInt64) : ∃ M', f_Mod_narrow M (nI d) x2 (bI (decide (lab = none))) = some M' ∧ mLike [] [23] [] M M' ∧ (∀ d' po', d' ≠ d + 1 → PB M d' nr po' → PB M' d' nr po') ∧ PB M' (d + 1) nr (nar T P po p lab) := by
  have hn := hF.2.2.2.2.2.2
  unfold f_Mod_narrow
  exact p_narrow_L hF hd hp hx zbig 0 M hM hB h24 (by omega) (by unfold zbig; omega) (fun j hj => by omega)
theorem p_start_L25 (hn : nr ≤ 700) : ∀ n i M, M.2.2 4 = nI nr → i ≤ 1024 → 1024 - i < n → (∀ j, j < i → j < nr → gb (M.2.1 23 (16 * 0 + j / 64)) (j % 64) = true) → ∃ M', f_Mod_start_L25 n M (nI i) = some M' ∧ mLike [] [23] [] M M' ∧ PB M' 0 nr (fun _ => true) := by
  intro n
  induction n with
  | zero => intro i M _ _ h; omega
  | succ n ih =>
    intro i M h4 hi hlt hdone
    unfold f_Mod_start_L25
    by_cases c : i = 1024
    · rw [if_pos (by rw [c]; decide)]
      exact ⟨M, rfl, mLike_rf, fun r hr => hdone r (by omega) hr⟩
    · rw [if_neg (by (simp (disch := omega) only [nI_1, nI_add, Int32.lt_iff_toInt_lt, Int32.le_iff_toInt_le, ← Int32.toInt_inj, nI_toInt, tI_0, tI_1, tI_2, tI_3, tI_4, tI_m1, tI_m2, tI_m3, tI_m4, tI_64, tI_128, tI_255, tI_256, tI_1000, tI_1024, tI_4096, tI_10000, tI_16384, tI_16386, tI_M]; omega)), h4, nI_1]
      have go : ∀ b : Bool, (i < nr → b = true) → ∃ M', (zob (f_Mod_setPossible M 0 (nI i) (bI b)) fun S4 => f_Mod_start_L25 n S4 (nI (i + 1))) = some M' ∧ mLike [] [23] [] M M' ∧ PB M' 0 nr (fun _ => true) := by
        intro b hb
        obtain ⟨w, e1, e2, e3⟩ := p_setPossible (M := M) (d := 0) (r := i) (by omega) (by omega) b
        rw [show f_Mod_setPossible M 0 (nI i) (bI b) = _ from e1, zob_s]
        obtain ⟨M', f1, f2, f3⟩ := ih (i + 1) (m_setl M 23 (16 * 0 + i / 64) w) h4 (by omega) (by omega) (PB_set (po := fun _ => true) (by omega) (by omega) hdone e2 e3 (fun h => (hb h).symm))
        exact ⟨M', f1, mLike_tr mLike_setl f2, f3⟩
      by_cases d : nr ≤ i
      · rw [if_pos (nI_le d (by omega))]
        exact go false (fun h => by omega)
      · rw [if_neg (nI_ge (by omega) (by omega))]
        exact go true (fun _ => rfl)
theorem p_start_L2 (hn : nr ≤ 700) (hq : tQ T ≤ 16385) : ∀ n i M, M.2.2 4 = nI nr → M.2.2 6 = nI (tQ T) → i ≤ tQ T → tQ T - i < n → (∀ j, j < i → M.1 27 j = 0) → ∃ M', f_Mod_start_L2 n M (nI i) = some M' ∧ mLike [27] [23] [] M M' ∧ LM M' T [] ∧ PB M' 0 nr (fun _ => true) := by
  intro n
  induction n with
  | zero => intro i M _ _ _ h; omega
  | succ n ih =>
    intro i M h4 h6 hi hlt hdone
    unfold f_Mod_start_L2
    rw [h6]
    by_cases c : i = tQ T
    · rw [if_pos (by (simp (disch := omega) only [nI_1, nI_add, Int32.lt_iff_toInt_lt, Int32.le_iff_toInt_le, ← Int32.toInt_inj, nI_toInt, tI_0, tI_1, tI_2, tI_3, tI_4, tI_m1, tI_m2, tI_m3, tI_m4, tI_64, tI_128, tI_255, tI_256, tI_1000, tI_1024, tI_4096, tI_10000, tI_16384, tI_16386, tI_M]; omega))]
      obtain ⟨M', e1, e2, e3⟩ := p_start_L25 (nr := nr) hn zbig 0 M h4 (by omega) (by unfold zbig; omega) (fun j hj => by omega)
      refine ⟨M', e1, mLike_mono e2 (by simp) (by simp) (by simp), fun p hp => ?_, e3⟩
      rw [e2.1 27 (by simp), hdone p (by omega)]; simp; rfl
    · rw [if_neg (by (simp (disch := omega) only [nI_1, nI_add, Int32.lt_iff_toInt_lt, Int32.le_iff_toInt_le, ← Int32.toInt_inj, nI_toInt, tI_0, tI_1, tI_2, tI_3, tI_4, tI_m1, tI_m2, tI_m3, tI_m4, tI_64, tI_128, tI_255, tI_256, tI_1000, tI_1024, tI_4096, tI_10000, tI_16384, tI_16386, tI_M]; omega)), m_wr_n (by omega) (by omega), nI_clamp (by omega), nI_1]
      have e0 : vp_nar .boolean 0 = 0 := rfl
      rw [e0]
      obtain ⟨M', f1, f2, f3, f4⟩ := ih (i + 1) (m_set M 27 i 0) h4 h6 (by omega) (by omega) (fun j hj => by
        rw [m_set_at]
        by_cases e : j = i
        · subst e; rw [upd_s]
        · rw [upd_n e]; exact hdone j (by omega))
      exact ⟨M', f1, mLike_tr (mLike_mono mLike_set (by simp) (by simp) (by simp)) f2, f3, f4⟩
theorem p_start (hF : SF nf fam bit np P nl fl T nr ru sa) (hM : MC M nf fam bit np P nl fl T nr sa) : ∃ M', f_Mod_start M = some M' ∧ mLike [27] [23] [] M M' ∧ LM M' T [] ∧ PB M' 0 nr (fun _ => true) := by
  have hq := hF.2.2.2.2.2.1
  have h6 : M.2.2 6 = nI (tQ T) := by obtain ⟨bl, nb, t1, -⟩ := hM.2.1; exact t1
  unfold f_Mod_start
  exact p_start_L2 hF.2.2.2.2.2.2 hq zbig 0 M hM.2.2.1 h6 (by omega) (by unfold zbig; omega) (fun j hj => by omega)
end PNU
